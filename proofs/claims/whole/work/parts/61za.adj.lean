theorem cf_mb {a : Nat → Nat → Int64} {R C p q : Nat} (hR : R < 16) (hC : C < 16) (hp : p < pop R) (hq : q < pop C) : cfX a R C (mb R p) (mb C q) = if (q + p) % 2 = 0 then dD a (pop R - 1) (R - 2 ^ mb R p) (C - 2 ^ mb C q) else -(dD a (pop R - 1) (R - 2 ^ mb R p) (C - 2 ^ mb C q)) := by
  obtain ⟨c1, c2, c3, _⟩ := mkC hR hp
  obtain ⟨d1, d2, d3, _⟩ := mkC hC hq
  obtain ⟨_, _, m3⟩ := mk7 hR c3 c1
  have e1 : pop (R % 2 ^ mb R p) = p := c2
  have e2 : pop (C % 2 ^ mb C q) = q := d2
  unfold cfX
  rw [if_pos (show bN R (mb R p) ∧ bN C (mb C q) from ⟨c1, d1⟩), e1, e2, show pop (R - 2 ^ mb R p) = pop R - 1 by omega, show p + q = q + p by omega]
def adM (a k : Nat) : Prop := ¬ a = 33 ∧ ¬ (a = 0 ∧ (k = 46 ∨ k = 47))
/-- sums from a start -/
def sf (t : Int64) (f : Nat → Int64) : Nat → Nat → Int64
  | _, 0 => t
  | j, d + 1 => sf (t + f j) f (j + 1) d
theorem tp116 {m0 : Mem} {a : Nat → Nat → Int64} {R C q : Nat} (hR : R < 16) (hC : C < 16) (hpc : pop R = pop C) (hq : q < pop C) (hv : ∀ p' q', p' < pop R → q' < pop C → gL m0 32 (4 * p' + q') = a (mb R p') (mb C q')) (k107 : Int32 → Int32 → Int32 → Int32 → Mem → Option Mem) : ∀ d n p m, p + d = pop R → d < n → EqOn adM m0 m → ∃ m', f_M_takesPart_l116 FN k107 n (nI R) (nI C) (nI (pop R)) (nI q) (nI p) m = k107 (nI R) (nI C) (nI (pop R)) (nI (q + 1)) m' ∧ EqOn (fun b k => ¬ (b = 33 ∧ 4 * q + p ≤ k ∧ k < 4 * q + 4) ∧ ¬ (b = 0 ∧ k = 46)) m m' ∧ gL m' 0 46 = sf (gL m 0 46) (fun p => cfX a R C (mb R p) (mb C q)) p d ∧ ∀ p', p ≤ p' → p' < pop R → gL m' 33 (4 * q + p') = cfX a R C (mb R p') (mb C q) := by
  have b4 := (mk8 R hR).2.2
  intro d
  induction d with
  | zero =>
    intro n p m g1 g2 e
    obtain ⟨n', rfl⟩ : ∃ n', n = n' + 1 := ⟨n - 1, by omega⟩
    refine ⟨m, ?_, EqOn.rf, rfl, fun p' h1 h2 => by omega⟩
    unfold f_M_takesPart_l116
    rw [if_pos (by rw [y_le (by omega) (by omega)]; omega), nme, y_s]
  | succ d ih =>
    intro n p m g1 g2 e
    obtain ⟨n', rfl⟩ : ∃ n', n = n' + 1 := ⟨n - 1, by omega⟩
    have hp : p < pop R := by omega
    have hv' : ∀ p' q', p' < pop R → q' < pop C → gL m 32 (4 * p' + q') = a (mb R p') (mb C q') := fun p' q' h1 h2 => by
      rw [(e 32 _ (by unfold adM; omega)).2.1]; exact hv p' q' h1 h2
    have mm := minorM hR hC hpc hp hq hv'
    have cf := cf_mb (a := a) hR hC hp hq
    obtain ⟨v, ev⟩ : ∃ v, cfX a R C (mb R p) (mb C q) = v := ⟨_, rfl⟩
    have eX : f_M_takesPart_l116 FN k107 (n' + 1) (nI R) (nI C) (nI (pop R)) (nI q) (nI p) m = f_M_takesPart_l116 FN k107 n' (nI R) (nI C) (nI (pop R)) (nI q) (nI (p + 1)) (sL (sL m 33 (4 * q + p) v) 0 46 (gL m 0 46 + v)) := by
      have r1 : ∀ u, gL (sL m 33 (4 * q + p) u) 0 46 = gL m 0 46 := fun u => rfl
      have r2 : ∀ u, gL (sL m 33 (4 * q + p) u) 33 (4 * q + p) = u := fun u => by rw [gL_sL, if_pos rfl, if_pos rfl]
      conv => lhs; unfold f_M_takesPart_l116
      unfold f_M_takesPart_b162
      rw [if_neg (by rw [y_le (by omega) (by omega)]; omega), mm, bs, y_add, m4_n, if_pos (ib_n (show 4 * q + p < 16 by omega) (by omega)), if_pos (ib_n (show 4 * q + p < 16 by omega) (by omega)), ix_n (by omega)]
      simp only [nme, y_s, r1, r2, if_pos (ib_n (show 4 * q + p < 16 by omega) (show 4 * q + p < 2147483648 by omega))]
      have m5 := mk5 (q + p) (by omega)
      rw [ev] at cf
      by_cases z : (q + p) % 2 = 0
      · rw [if_pos z] at cf
        rw [if_neg (not_not_intro (m5.mpr z)), ← cf]
      · rw [if_neg z] at cf
        rw [if_pos (fun w => z (m5.mp w)), ← cf]
    rw [eX]
    obtain ⟨m', q1, q2, q3, q4⟩ := ih n' (p + 1) (sL (sL m 33 (4 * q + p) v) 0 46 (gL m 0 46 + v)) (by omega) (by omega) ((e.sL (by unfold adM; omega)).sL (by unfold adM; omega))
    refine ⟨m', q1, ((EqOn.rf.sL (by omega)).sL (by omega)).tr (q2.mono (fun b k z => by omega)), ?_, fun p' h1 h2 => ?_⟩
    · rw [q3]
      conv => rhs; unfold sf
      rw [ev]; rfl
    · by_cases y : p' = p
      · subst y
        rw [(q2 33 _ (by omega)).2.1, gL_sL, if_neg (by omega), gL_sL, if_pos rfl, if_pos rfl, ev]
      · exact q4 p' (by omega) h2

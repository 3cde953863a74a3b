/-- the member at a place of a set -/
def mb (S p : Nat) : Nat := if pos S 1 = p + 1 then 0 else if pos S 2 = p + 1 then 1 else if pos S 3 = p + 1 then 2 else 3
def wt (k p : Nat) : Nat := if p ≤ k then k + 1 else k
def mkCP (S p : Nat) : Bool := !decide (p < pop S) || (decide (bN S (mb S p)) && decide (pos S (mb S p) = p) && decide (mb S p < 4) && (!decide (pop S = 2) || decide (S - 2 ^ mb S p = 2 ^ mb S (wt 0 p))) && (!decide (pop S = 3) || (decide (S - 2 ^ mb S p = 2 ^ mb S (wt 0 p) + 2 ^ mb S (wt 1 p)) && decide (mb S (wt 0 p) < mb S (wt 1 p)))) && (!decide (pop S = 4) || (decide (S - 2 ^ mb S p = 2 ^ mb S (wt 0 p) + 2 ^ mb S (wt 1 p) + 2 ^ mb S (wt 2 p)) && decide (mb S (wt 0 p) < mb S (wt 1 p)) && decide (mb S (wt 1 p) < mb S (wt 2 p)))))
theorem mkCa : ∀ S, S < 16 → ∀ p, p < 4 → mkCP S p = true := by decide +kernel
theorem mkC {S p : Nat} (hS : S < 16) (hp : p < pop S) : bN S (mb S p) ∧ pos S (mb S p) = p ∧ mb S p < 4 ∧ (pop S = 2 → S - 2 ^ mb S p = 2 ^ mb S (wt 0 p)) ∧ (pop S = 3 → S - 2 ^ mb S p = 2 ^ mb S (wt 0 p) + 2 ^ mb S (wt 1 p) ∧ mb S (wt 0 p) < mb S (wt 1 p)) ∧ (pop S = 4 → S - 2 ^ mb S p = 2 ^ mb S (wt 0 p) + 2 ^ mb S (wt 1 p) + 2 ^ mb S (wt 2 p) ∧ mb S (wt 0 p) < mb S (wt 1 p) ∧ mb S (wt 1 p) < mb S (wt 2 p)) := by
  have h := mkCa S hS p (by have := (mk8 S hS).2.2; omega)
  unfold mkCP at h
  rw [decide_eq_true hp] at h
  simp only [Bool.not_true, Bool.false_or, Bool.and_eq_true, Bool.or_eq_true, Bool.not_eq_true', decide_eq_false_iff_not, decide_eq_true_eq] at h
  obtain ⟨⟨⟨⟨⟨h1, h2⟩, h3⟩, h4⟩, h5⟩, h6⟩ := h
  exact ⟨h1, h2, h3, fun q => h4.resolve_left (fun z => z q), fun q => h5.resolve_left (fun z => z q), fun q => by
    have := h6.resolve_left (fun z => z q)
    exact ⟨this.1.1, this.1.2, this.2⟩⟩
theorem wo_e : ∀ k, k < 3 → ∀ p, p < 4 → f_M_without (nI k) (nI p) = some (nI (wt k p)) := by decide +kernel
theorem wt_b {k p : Nat} (hk : k < 3) : wt k p ≤ k + 1 := by
  unfold wt
  split <;> omega
theorem det2_e {m : Mem} {p p' q q' : Nat} (h1 : p < 4) (h2 : p' < 4) (h3 : q < 4) (h4 : q' < 4) : f_M_det2 m (nI p) (nI p') (nI q) (nI q') = some (gL m 32 (4 * p + q) * gL m 32 (4 * p' + q') - gL m 32 (4 * p + q') * gL m 32 (4 * p' + q)) := by
  unfold f_M_det2
  rw [m4_n, m4_n, m4_n, m4_n, if_pos (ib_n (by omega) (by omega)), if_pos (ib_n (by omega) (by omega)), if_pos (ib_n (by omega) (by omega)), if_pos (ib_n (by omega) (by omega)), ix_n (by omega), ix_n (by omega), ix_n (by omega), ix_n (by omega)]
/-- a minor of the reference's part -/
theorem minorM {m : Mem} {a : Nat → Nat → Int64} {R C p q : Nat} (hR : R < 16) (hC : C < 16) (hpc : pop R = pop C) (hp : p < pop R) (hq : q < pop C) (hv : ∀ p' q', p' < pop R → q' < pop C → gL m 32 (4 * p' + q') = a (mb R p') (mb C q')) : f_M_minor m (nI (pop R)) (nI p) (nI q) = some (dD a (pop R - 1) (R - 2 ^ mb R p) (C - 2 ^ mb C q)) := by
  have b4 := (mk8 R hR).2.2
  obtain ⟨c1, c2, c3, c4, c5, c6⟩ := mkC hR hp
  obtain ⟨d1, d2, d3, d4, d5, d6⟩ := mkC hC hq
  have w0 := wt_b (k := 0) (p := p) (by omega)
  have w1 := wt_b (k := 1) (p := p) (by omega)
  have w2 := wt_b (k := 2) (p := p) (by omega)
  have v0 := wt_b (k := 0) (p := q) (by omega)
  have v1 := wt_b (k := 1) (p := q) (by omega)
  have v2 := wt_b (k := 2) (p := q) (by omega)
  unfold f_M_minor
  rw [show (0 : Int32) = nI 0 from rfl, show f_M_without 1 (nI p) = some (nI (wt 1 p)) from wo_e 1 (by omega) p (by omega), show f_M_without 1 (nI q) = some (nI (wt 1 q)) from wo_e 1 (by omega) q (by omega), wo_e 0 (by omega) p (by omega), wo_e 0 (by omega) q (by omega), bs, bs, bs, bs]
  have hs : pop R = 1 ∨ pop R = 2 ∨ pop R = 3 ∨ pop R = 4 := by omega
  rcases hs with s | s | s | s
  · rw [s, if_pos (show nI 1 = 1 from rfl)]
    rfl
  · rw [if_neg (by rw [s]; decide), if_pos (by rw [s]; rfl), m4_n, if_pos (ib_n (by omega) (by omega)), ix_n (by omega), hv _ _ (by omega) (by omega), c4 s, d4 (by omega), s]
    have m1 := (mkC hR (show wt 0 p < pop R by omega)).2.2.1
    have m2 := (mkC hC (show wt 0 q < pop C by omega)).2.2.1
    rw [show 2 - 1 = 1 from rfl, dD1 a m1 m2]
  · obtain ⟨e1, e2⟩ := c5 s
    obtain ⟨f1, f2⟩ := d5 (by omega)
    have m1 := (mkC hR (show wt 1 p < pop R by omega)).2.2.1
    have m2 := (mkC hC (show wt 1 q < pop C by omega)).2.2.1
    rw [if_neg (by rw [s]; decide), if_neg (by rw [s]; decide), if_pos (by rw [s]; rfl), det2_e (by omega) (by omega) (by omega) (by omega), bs, hv _ _ (by omega) (by omega), hv _ _ (by omega) (by omega), hv _ _ (by omega) (by omega), hv _ _ (by omega) (by omega), e1, f1, s, show 3 - 1 = 2 from rfl, dD2 a e2 m1 f2 m2]
  · obtain ⟨e1, e2, e3⟩ := c6 s
    obtain ⟨f1, f2, f3⟩ := d6 (by omega)
    have m1 := (mkC hR (show wt 2 p < pop R by omega)).2.2.1
    have m2 := (mkC hC (show wt 2 q < pop C by omega)).2.2.1
    rw [if_neg (by rw [s]; decide), if_neg (by rw [s]; decide), if_neg (by rw [s]; decide), show f_M_without 2 (nI p) = some (nI (wt 2 p)) from wo_e 2 (by omega) p (by omega), show f_M_without 2 (nI q) = some (nI (wt 2 q)) from wo_e 2 (by omega) q (by omega), bs, bs]
    unfold f_M_det3
    rw [det2_e (by omega) (by omega) (by omega) (by omega), det2_e (by omega) (by omega) (by omega) (by omega), det2_e (by omega) (by omega) (by omega) (by omega), m4_n, m4_n, m4_n, if_pos (ib_n (by omega) (by omega)), bs, if_pos (ib_n (by omega) (by omega)), bs, if_pos (ib_n (by omega) (by omega)), bs, bs, ix_n (by omega), ix_n (by omega), ix_n (by omega), e1, f1, s, show 4 - 1 = 3 from rfl, dD3 a e2 e3 m1 f2 f3 m2]
    rw [hv (wt 0 p) (wt 0 q) (by omega) (by omega), hv (wt 0 p) (wt 1 q) (by omega) (by omega), hv (wt 0 p) (wt 2 q) (by omega) (by omega), hv (wt 1 p) (wt 0 q) (by omega) (by omega), hv (wt 1 p) (wt 1 q) (by omega) (by omega), hv (wt 1 p) (wt 2 q) (by omega) (by omega), hv (wt 2 p) (wt 0 q) (by omega) (by omega), hv (wt 2 p) (wt 1 q) (by omega) (by omega), hv (wt 2 p) (wt 2 q) (by omega) (by omega)]

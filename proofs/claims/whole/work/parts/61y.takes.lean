def mkBP (S i i' : Nat) : Bool := !(decide (bN S i') && decide (i' < i)) || decide (pos S i' < pos S i)
theorem mkBa : ∀ S, S < 16 → ∀ i, i < 5 → ∀ i', i' < 5 → mkBP S i i' = true := by decide +kernel
theorem mkB {S i i' : Nat} (hS : S < 16) (hi : i < 5) (h : i' < i) (b : bN S i') : pos S i' < pos S i := by
  have q := mkBa S hS i hi i' (by omega)
  unfold mkBP at q
  have d1 : decide (bN S i') = true := decide_eq_true b
  have d2 : decide (i' < i) = true := decide_eq_true h
  rw [d1, d2] at q
  simp only [Bool.and_true, Bool.not_true, Bool.false_or, decide_eq_true_eq] at q
  exact q
theorem pos_top {S r : Nat} (h : S < 2 ^ r) : pos S r = pop S := by
  unfold pos
  rw [Nat.mod_eq_of_lt h]
/-- the part, laid out by the reference -/
theorem tp5 {m0 : Mem} {R C r c : Nat} (hR : R < 2 ^ r) (hr : r ≤ 4) (hC : C < 2 ^ c) (hc : c ≤ 4) (h0 : gI m0 0 37 = nI r) (h1 : gI m0 0 38 = nI c) : ∀ d n i m, i + d = r → d < n → EqOn n32 m0 m → (∀ i' j', i' < i → bN R i' → j' < c → bN C j' → gL m 32 (4 * pos R i' + pos C j') = aM m0 i' j') → ∃ m', f_M_takesPart_l5 FN n (nI R) (nI C) (nI (pos R i)) (nI i) m = f_M_takesPart_l107 FN FN (nI R) (nI C) (nI (pop R)) 0 (sL (sL m' 0 46 0) 0 47 0) ∧ EqOn n32 m0 m' ∧ ∀ i' j', i' < r → bN R i' → j' < c → bN C j' → gL m' 32 (4 * pos R i' + pos C j') = aM m0 i' j' := by
  have p2 := p2_16 hr
  have p3 := p2_16 hc
  have hR16 : R < 16 := by omega
  have hC16 : C < 16 := by omega
  intro d
  induction d with
  | zero =>
    intro n i m g1 g2 e hv
    obtain ⟨n', rfl⟩ : ∃ n', n = n' + 1 := ⟨n - 1, by omega⟩
    have hi : i = r := by omega
    subst hi
    refine ⟨m, ?_, e, hv⟩
    unfold f_M_takesPart_l5
    rw [(e 0 37 (by unfold n32; omega)).1, h0, if_pos (P_re hr), nme, nme, pos_top hR]
  | succ d ih =>
    intro n i m g1 g2 e hv
    obtain ⟨n', rfl⟩ : ∃ n', n = n' + 1 := ⟨n - 1, by omega⟩
    have hi : i < r := by omega
    obtain ⟨a1, a2, a3, a4⟩ := mkA hR16 (show i < 4 by omega)
    conv => congr; intro m'; lhs; lhs; unfold f_M_takesPart_l5
    unfold f_M_takesPart_b88
    rw [(e 0 37 (by unfold n32; omega)).1, h0, if_neg (P_le hr hi), mk1 R (by omega) i (by omega)]
    simp only [nme, y_s]
    by_cases b : bN R i
    · rw [if_pos b] at a2
      obtain ⟨m1, q1, q2, q3, q4⟩ := tp30 (r := r) hC hc hR16 (show i < 4 by omega) h1 (f_M_takesPart_l5 FN n') c FN 0 m (by omega) (FN_lt (by omega)) e
      have z0 : pos C 0 = 0 := (mkA hC16 (show 0 < 4 by omega)).2.2.1
      have q1' : f_M_takesPart_l30 FN (f_M_takesPart_l5 FN n') FN (nI R) (nI C) (nI (pos R i)) (nI i) 0 0 m = f_M_takesPart_l5 FN n' (nI R) (nI C) (nI (pos R i + 1)) (nI (i + 1)) m1 := by
        rw [z0] at q1
        exact q1
      rw [if_pos b, if_neg (by decide), q1', ← a2]
      refine ih n' (i + 1) m1 (by omega) (by omega) q2 (fun i' j' k1 k2 k3 k4 => ?_)
      by_cases y : i' = i
      · subst y
        exact q4 j' (by omega) k3 k4
      · have lt := mkB hR16 (show i < 5 by omega) (show i' < i by omega) k2
        have pj := (mkA hC16 (show j' < 4 by omega)).1
        rw [q3 _ (by omega)]
        exact hv i' j' (by omega) k2 k3 k4
    · rw [if_neg b] at a2
      have a5 : pos R (i + 1) = pos R i := by omega
      rw [if_neg b, if_pos (by decide), ← a5]
      refine ih n' (i + 1) m (by omega) (by omega) e (fun i' j' k1 k2 k3 k4 => ?_)
      by_cases y : i' = i
      · subst y; exact absurd k2 b
      · exact hv i' j' (by omega) k2 k3 k4

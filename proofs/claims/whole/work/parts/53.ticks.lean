def bCx (a0 b P t w : Nat) (fl : Int32) (x m : Mem) : Prop := bRel a0 b P t x m ∧ tOK t m ∧ iCs m ∧ iDen x m ∧ iBow x m ∧ hWh a0 w fl x m
theorem bCx.cg {a0 b P t w : Nat} {fl : Int32} {x m x' m' : Mem} (hab : hAB a0 b) (h : bCx a0 b P t w fl x m) (e1 : EqOn (boX a0 b) x x') (e2 : EqOn boN m m') : bCx a0 b P t w fl x' m' := by
  have hbr : 10 ≤ b ∧ b ≤ 19 ∧ (a0 < b) ∧ a0 ≠ 2 ∧ a0 ≠ 3 := by unfold hAB at hab; omega
  obtain ⟨h1, h2, h3, h4, h5, h6⟩ := h
  exact ⟨h1.cg hab e1 e2, h2.cg e2, h3.bo e2, h4.cg (e1.mono (fun a k p => by unfold pDen at p; unfold boX boS; omega)) (e2.mono (fun a k p => by unfold qDen at p; unfold boN; omega)), h5.cg (e1.mono (fun a k p => by unfold pBow at p; unfold boX boS; omega)) (e2.mono (fun a k p => by unfold qBow at p; unfold boN; omega)), h6.cg hab e1 e2⟩
theorem lash1 {a0 b P t w : Nat} {fl : Int32} {x m : Mem} {z : Prop} {B L S : Int} {tk rg' : Int32} (hab : hAB a0 b) (hC : bCx a0 b P t w fl x m) (hS : S + 800 ≤ 1000000000) (hs : bSt b P z B S L x m) : ∃ x' m', f_Bt_lash FN x a0 tk = some x' ∧ f_M_ticks_l3 FN FN tk rg' fl 0 m = f_M_ticks_b84 FN rg' m' ∧ bSt b P z B (S + 800) L x' m' ∧ EqOn (boS b) x x' ∧ EqOn boM m m' := by
  obtain ⟨hR, _, _, _, _, hW⟩ := hC
  have hW' := hW
  rcases hW with ⟨h1, h2, h3, h4⟩ | ⟨h1, h2, h3, h4, h5, h6⟩
  · subst h1; subst h2
    have hb : b = 19 := by unfold hAB at hab; omega
    subst hb
    refine ⟨x, m, ?_, ?_, fun i hi => ⟨(hs i hi).1, fun h0 => ((hs i hi).2 h0).up (by omega) (by omega) (by omega)⟩, EqOn.rf, EqOn.rf⟩
    · show f_Bt_lash_l2 FN (69999 + 1) 14 tk 0 x = some x
      unfold f_Bt_lash_l2
      rw [h4, if_pos (by decide)]
    · show f_M_ticks_l3 FN (69999 + 1) tk rg' 0 0 m = f_M_ticks_b84 FN rg' m
      unfold f_M_ticks_l3
      rw [if_pos (show (0 : Int32) = 0 from rfl)]
      split <;> rfl
  · subst h1; subst h2
    have hb : b = 10 := by unfold hAB at hab; omega
    subst hb
    obtain ⟨x', m', l1, l2, l3, l4, l5⟩ := lash_j (tk := tk) (rg' := rg') (B := B) (L := L) w FN 0 x m S (by omega) (FN_lt (by omega)) (by omega) hR hW' hs
    exact ⟨x', m', l1, l2, fun i hi => ⟨(l3 i hi).1, fun h0 => ((l3 i hi).2 h0).up (by omega) (by omega) (by omega)⟩, l4, l5⟩
theorem tri_b {P : Nat} (h : P ≤ 4) : (195050 : Int) * 4 ^ (tri P) ≤ 798924800 := by
  have h5 : P = 0 ∨ P = 1 ∨ P = 2 ∨ P = 3 ∨ P = 4 := by omega
  rcases h5 with e | e | e | e | e <;> subst e <;> decide
theorem tick_j {a0 b P t w : Nat} {fl : Int32} {x m : Mem} {z : Prop} {S : Int} {tk rg rg' : Int32} (hab : hAB a0 b) (hz : hRg z rg rg') (hC : bCx a0 b P t w fl x m) (c1 : gI x a0 6 = gI m 0 35) (c2 : gI x a0 7 = gI m 0 36) (hS : S + 800 ≤ 1000000000) (hs : bSt b P z 798924800 S 8 x m) : ∃ x' m', f_Bt_step FN x a0 rg tk = some x' ∧ f_M_ticks FN m tk rg' fl = some m' ∧ gI x' a0 6 = gI m' 0 35 ∧ gI x' a0 7 = gI m' 0 36 ∧ bSt b P z 798924800 (S + 800) 8 x' m' ∧ EqOn (boX a0 b) x x' ∧ EqOn boN m m' := by
  have hbr : 10 ≤ b ∧ b ≤ 19 ∧ (a0 < b) ∧ a0 ≠ 2 ∧ a0 ≠ 3 := by unfold hAB at hab; omega
  have hP := hC.1.1.1
  obtain ⟨x1, m1, l1, l2, l3, l4, l5⟩ := lash1 (tk := tk) (rg' := rg') hab hC hS hs
  have hC1 := hC.cg hab l4.x l5.n
  obtain ⟨hR1, hT1, hI1, hD1, hB1, hW1⟩ := hC1
  obtain ⟨x2, m2, p1, p2, p3, p4, p5⟩ := moves_j (rg := rg) hab hR1 hT1 hI1 hD1 hB1 l3
  have ex2 := l4.tr p3
  have em2 := l5.tr p4
  have hC2 := hC.cg hab ex2.x em2.n
  have d1 : gI x2 a0 6 = gI m2 0 35 := by rw [(ex2 a0 6 (by unfold boS; omega)).1, (em2 0 35 (by unfold boM; omega)).1]; exact c1
  have d2 : gI x2 a0 7 = gI m2 0 36 := by rw [(ex2 a0 7 (by unfold boS; omega)).1, (em2 0 36 (by unfold boM; omega)).1]; exact c2
  obtain ⟨x3, m3, q1, q2, q3, q4, q5, q6, q7⟩ := l73_j (rg := rg) (rg' := rg') hab hS P FN 0 x2 m2 195050 (by omega) (FN_lt (by omega)) (by omega) (tri_b hP) hC2.1 hC2.2.1 p5 d1 d2
  have hC3 := hC2.cg hab q6 q7
  obtain ⟨x4, m4, r1, r2, r3, r4, r5⟩ := fall_j (B := 798924800) (S := S + 800) (rg := rg) (rg' := rg') hab hz P FN 0 x3 m3 (by omega) (FN_lt (by omega)) hC3.1 (fun k hk => ⟨(q3 k hk).1, fun h0 => ((q3 k hk).2 h0).up (tri_b hP) (by omega) (by omega), fun h => absurd h (by omega)⟩)
  refine ⟨x4, m4, ?_, ?_, ?_, ?_, r3, (ex2.x.tr q6).tr r4.x, (em2.n.tr q7).tr r5.n⟩
  · unfold f_Bt_step
    rw [l1, bs, p1]
    exact q1.trans r1
  · unfold f_M_ticks
    rw [l2]
    unfold f_M_ticks_b84
    rw [p2, bs]
    exact q2.trans r2
  · rw [(r4 a0 6 (by unfold boS; omega)).1, (r5 0 35 (by unfold boM; omega)).1]; exact q4
  · rw [(r4 a0 7 (by unfold boS; omega)).1, (r5 0 36 (by unfold boM; omega)).1]; exact q5
theorem spin_l {a0 b P t w last : Nat} {fl : Int32} {z : Prop} {rg rg' : Int32} (hab : hAB a0 b) (hz : hRg z rg rg') (hlast : last ≤ 400) : ∀ d n tk x m, tk + d = last → d < n → bCx a0 b P t w fl x m → gI x a0 6 = gI m 0 35 → gI x a0 7 = gI m 0 36 → bSt b P z 798924800 (1000 * (tk + 1)) 8 x m → (tk = 0 ∨ 2 ≤ cF m 0 P) → ∃ r x' m', f_Bt_spinUntil_l8 FN n a0 rg (nI last) (nI (tk + 1)) x = some (r, x') ∧ f_M_runsTo_l13 FN n (nI last) rg' fl (nI tk) m = some (r, m') ∧ gI x' a0 6 = gI m' 0 35 ∧ gI x' a0 7 = gI m' 0 36 ∧ bSt b P z 798924800 1000000 8 x' m' ∧ EqOn (boX a0 b) x x' ∧ EqOn boN m m' := by
  intro d
  induction d with
  | zero =>
    intro n tk x m h1 h2 hC c1 c2 hs hc
    obtain ⟨n', rfl⟩ : ∃ n', n = n' + 1 := ⟨n - 1, by omega⟩
    have ht : tk = last := by omega
    subst ht
    refine ⟨nI tk, x, m, ?_, ?_, c1, c2, fun i hi => ⟨(hs i hi).1, fun h0 => ((hs i hi).2 h0).up (by omega) (by omega) (by omega)⟩, EqOn.rf, EqOn.rf⟩
    · unfold f_Bt_spinUntil_l8
      rw [if_pos (by rw [y_lt (by omega) (by omega)]; omega)]
    · unfold f_M_runsTo_l13
      rw [if_pos (by rw [y_le (by omega) (by omega)]; omega)]
  | succ d ih =>
    intro n tk x m h1 h2 hC c1 c2 hs hc
    obtain ⟨n', rfl⟩ : ∃ n', n = n' + 1 := ⟨n - 1, by omega⟩
    have hP := hC.1.1.1
    obtain ⟨x1, m1, l1, l2, l3, l4, l5, l6, l7⟩ := tick_j (tk := nI (tk + 1)) hab hz hC c1 c2 (by omega) hs
    have hC1 := hC.cg hab l6 l7
    obtain ⟨s1, s2⟩ := stand_e hab hC1.1 l5
    have cb := cF_b m1 P 0
    have eM : f_M_runsTo_l13 FN (n' + 1) (nI last) rg' fl (nI tk) m = f_M_runsTo_l13 FN n' (nI last) rg' fl (nI (tk + 1)) m1 := by
      conv => lhs; unfold f_M_runsTo_l13
      unfold f_M_runsTo_b32
      rw [if_neg (by rw [y_le (by omega) (by omega)]; omega)]
      simp only [nme, y_s, l2, bs]
      rcases hc with h0 | h0
      · subst h0
        rw [if_pos (show nI 0 = 0 from rfl)]
      · have s3 := (stand_e hab hC.1 hs).2
        have cb2 := cF_b m P 0
        rw [s3, bs]
        have c3 : ¬ nI (cF m 0 P) ≤ 1 := by
          show ¬ nI (cF m 0 P) ≤ nI 1
          rw [y_le (by omega) (by omega)]; omega
        rw [if_neg c3]
        split <;> rfl
    have eX : f_Bt_spinUntil_l8 FN (n' + 1) a0 rg (nI last) (nI (tk + 1)) x = if (1 : Int32) < nI (cF m1 0 P) then f_Bt_spinUntil_l8 FN n' a0 rg (nI last) (nI (tk + 1 + 1)) x1 else some (nI (tk + 1), x1) := by
      conv => lhs; unfold f_Bt_spinUntil_l8
      rw [if_neg (by rw [y_lt (by omega) (by omega)]; omega), l1, bs, s1, bs, nme, y_s]
    rw [eM, eX]
    by_cases c : 2 ≤ cF m1 0 P
    · rw [if_pos (by show nI 1 < nI (cF m1 0 P); rw [y_lt (by omega) (by omega)]; omega)]
      obtain ⟨r, x', m', k1, k2, k3, k4, k5, k6, k7⟩ := ih n' (tk + 1) x1 m1 (by omega) (by omega) hC1 l3 l4 (fun i hi => ⟨(l5 i hi).1, fun h0 => ((l5 i hi).2 h0).up (by omega) (by omega) (by omega)⟩) (Or.inr c)
      exact ⟨r, x', m', k1, k2, k3, k4, k5, l6.tr k6, l7.tr k7⟩
    · rw [if_neg (by show ¬ nI 1 < nI (cF m1 0 P); rw [y_lt (by omega) (by omega)]; omega)]
      refine ⟨nI (tk + 1), x1, m1, rfl, ?_, l3, l4, fun i hi => ⟨(l5 i hi).1, fun h0 => ((l5 i hi).2 h0).up (by omega) (by omega) (by omega)⟩, l6, l7⟩
      obtain ⟨n'', rfl⟩ : ∃ n'', n' = n'' + 1 := ⟨n' - 1, by omega⟩
      unfold f_M_runsTo_l13
      by_cases q : last ≤ tk + 1
      · rw [if_pos (by rw [y_le (by omega) (by omega)]; exact q)]
      · rw [if_neg (by rw [y_le (by omega) (by omega)]; exact q), if_neg (show ¬ nI (tk + 1) = 0 by show ¬ nI (tk + 1) = nI 0; rw [y_eq (by omega) (by omega)]; omega), s2, bs, if_pos (by show nI (cF m1 0 P) ≤ nI 1; rw [y_le (by omega) (by omega)]; omega)]

def FN : Nat := 70000
theorem FN_lt {k : Nat} (h : k < 70000) : k < FN := h
theorem sA_id (μ : Mem) (a : Nat) (g : Nat → Int32) (h : ∀ j, g j = gI μ a j) : sA μ a g = μ := by
  have e : rw2 μ.1 a g = μ.1 := by
    funext b j
    unfold rw2
    by_cases q : b = a
    · subst q; rw [if_pos rfl]; exact h j
    · rw [if_neg q]
  unfold sA
  rw [e]
theorem sA_sI (μ : Mem) (a k : Nat) (v : Int32) (g : Nat → Int32) : sA (sI μ a k v) a g = sA μ a g := by
  have e : rw2 (up2 μ.1 a k v) a g = rw2 μ.1 a g := by
    funext b j
    unfold rw2 up2
    by_cases q : b = a
    · rw [if_pos q, if_pos q]
    · rw [if_neg q, if_neg q, if_neg q]
  unfold sA sI
  rw [e]
theorem fill_l (N a L : Nat) (v : Int32) (hL : L < 2147483648) (hl : lnX a = L) : ∀ n i μ, i ≤ L → L - i < n → f_JA_fill_l5 N n a v (nI i) (nI L) μ = some (sA μ a (fun j => if i ≤ j ∧ j < L then v else gI μ a j)) := by
  intro n
  induction n with
  | zero => intro i μ _ h; omega
  | succ n ih =>
    intro i μ hi hn
    unfold f_JA_fill_l5
    by_cases e : i = L
    · subst e
      rw [if_pos (by rw [y_le hL hL]; omega), sA_id]
      intro j
      rw [if_neg (by omega)]
    · rw [if_neg (by rw [y_le hL (by omega)]; omega), if_pos (ib_n (by omega) (by omega)), ix_n (by omega)]
      simp only [nme]
      rw [y_s, ih (i + 1) _ (by omega) (by omega), sA_sI]
      congr 2
      funext j
      by_cases q : j = i
      · subst q
        rw [if_neg (by omega), if_pos (by omega), gI_sI, if_pos rfl, if_pos rfl]
      · rw [gI_sI, if_pos rfl, if_neg q]
        by_cases q2 : i ≤ j ∧ j < L
        · rw [if_pos (by omega), if_pos q2]
        · rw [if_neg (by omega), if_neg q2]
theorem fill_e (μ : Mem) (a L : Nat) (v : Int32) (hL : L < 69999) (hl : lnX a = L) : f_JA_fill FN μ a v = some (sA μ a (fun j => if j < L then v else gI μ a j)) := by
  unfold f_JA_fill
  simp only [nme, hl]
  have e := fill_l FN a L v (by omega) hl FN 0 μ (by omega) (FN_lt (by omega))
  have z : nI 0 = 0 := rfl
  rw [z] at e
  simp only [Nat.zero_le, true_and] at e
  exact e
theorem s_smooth {c n : Nat} {μ1 μ2 : Mem} (h : Inv c n μ1 μ2) (hc : c < 512) : ∃ (r : Int32) (ν1 : Mem) (ν2 : Mem), f_X_smooth FN μ1 = some (r, ν1) ∧ f_M_smooth μ2 = some (r, ν2) ∧ Inv (c + 1) n ν1 ν2 := by
  obtain ⟨t, ht, hCs, hTop, hWr, hStr, hBow, ⟨d, q1, q2, q3, q4, q5⟩, hr⟩ := id h
  unfold f_X_smooth f_M_smooth f_Bw_flatten
  simp only [nme]
  rw [fill_e μ1 3 3969 0 (by omega) rfl]
  simp only [bs]
  refine ⟨_, _, _, rfl, by rw [q2, q3], h.uDen ((EqOn.rf.sA (fun k => (by simp only [perX, pTop, pStr, pBow, pDen, pBou, pWhi, pCho, pPas, pGam, pLas, pMet, pFin, pShe, true_and, and_true, false_and, and_false, true_or, or_true, false_or, or_false, not_true_eq_false, not_false_eq_true] <;> omega))).sI (by simp only [perX, pTop, pStr, pBow, pDen, pBou, pWhi, pCho, pPas, pGam, pLas, pMet, pFin, pShe, true_and, and_true, false_and, and_false, true_or, or_true, false_or, or_false, not_true_eq_false, not_false_eq_true] <;> omega)) (EqOn.rf.sI (by simp only [perM, qCs, qTop, qStr, qBow, qDen, qBou, qWhi, qCho, qPas, qGam, qLas, qMet, qFin, qShe, true_and, and_true, false_and, and_false, true_or, or_true, false_or, or_false, not_true_eq_false, not_false_eq_true] <;> omega)) (fun _ _ _ _ => ⟨0, by omega, rfl, rfl, fun k hk => absurd hk (by omega), fun q hq => ?_⟩)⟩
  simp only [gI_sI, gI_sA, Nat.reduceEqDiff, if_false, if_true, if_pos hq, dsum]
  decide
theorem begin_l : ∀ n i μ, i ≤ 4 → 4 - i < n → ∃ μ', f_Ch_begin_l12 FN n (nI i) μ = some μ' ∧ (∀ b j, gI μ' b j = if 27 + i ≤ b ∧ b < 31 ∧ j < 4 then 0 else gI μ b j) ∧ (∀ b j, gL μ' b j = gL μ b j) ∧ (∀ b j, gR μ' b j = gR μ b j) := by
  intro n
  induction n with
  | zero => intro i μ _ h; omega
  | succ n ih =>
    intro i μ hi hn
    unfold f_Ch_begin_l12
    by_cases e : i = 4
    · subst e
      refine ⟨μ, by rw [if_pos (by decide)], fun b j => by rw [if_neg (by omega)], fun b j => rfl, fun b j => rfl⟩
    · have c1 : ¬ (4 : Int32) ≤ nI i := by
        show ¬ nI 4 ≤ nI i
        rw [y_le (by omega) (by omega)]; omega
      have hl : lnX (27 + i) = 4 := by
        have : ∀ i, i < 4 → lnX (27 + i) = 4 := by decide +kernel
        exact this i (by omega)
      obtain ⟨μ', w1, w2, w3, w4⟩ := ih (i + 1) (sA μ (27 + i) (fun j => if j < 4 then 0 else gI μ (27 + i) j)) (by omega) (by omega)
      refine ⟨μ', ?_, fun b j => ?_, fun b j => by rw [w3, gL_sA], fun b j => by rw [w4, gR_sA]⟩
      · rw [if_neg c1, if_pos (ib_n (by omega) (by omega)), ix_n (by omega), sr26 i (by omega), fill_e _ _ 4 0 (by omega) hl]
        simp only [bs, nme, y_s]
        exact w1
      · rw [w2, gI_sA]
        by_cases q : b = 27 + i
        · subst q
          rw [if_neg (by omega), if_pos rfl]
          by_cases q2 : j < 4
          · rw [if_pos q2, if_pos (by omega)]
          · rw [if_neg q2, if_neg (by omega)]
        · rw [if_neg q]
          by_cases q2 : 27 + i ≤ b ∧ b < 31 ∧ j < 4
          · rw [if_pos (by omega), if_pos q2]
          · rw [if_neg (by omega), if_neg q2]
theorem s_choose {c n : Nat} {μ1 μ2 : Mem} (h : Inv c n μ1 μ2) (hc : c < 512) : ∃ (r : Int32) (ν1 : Mem) (ν2 : Mem), f_X_choose FN μ1 = some (r, ν1) ∧ f_M_choose μ2 = some (r, ν2) ∧ Inv (c + 1) n ν1 ν2 := by
  obtain ⟨t, ht, hCs, hTop, hWr, hStr, hBow, hDen, hBou, hWhi, hCho, hr⟩ := id h
  obtain ⟨r, cc, g1, g2, g3, g4, g5, g6, g7, g8, g9, g10⟩ := hCho
  unfold f_X_choose f_M_choose f_Ch_begin
  simp only [nme]
  obtain ⟨μ', w1, w2, w3, w4⟩ := begin_l FN 0 (sI (sI μ1 23 0 0) 23 1 0) (by omega) (FN_lt (by omega))
  have w1' : f_Ch_begin_l12 FN FN 0 (sI (sI μ1 23 0 0) 23 1 0) = some μ' := w1
  rw [w1']
  simp only [bs]
  refine ⟨_, _, sI (sI μ2 0 37 0) 0 38 0, rfl, by rw [g3, g4, g5, g6], h.uCho (fun a k p => ⟨?_, ?_, ?_⟩) ((EqOn.rf.sI (by simp only [perM, qCs, qTop, qStr, qBow, qDen, qBou, qWhi, qCho, qPas, qGam, qLas, qMet, qFin, qShe, true_and, and_true, false_and, and_false, true_or, or_true, false_or, or_false, not_true_eq_false, not_false_eq_true] <;> omega)).sI (by simp only [perM, qCs, qTop, qStr, qBow, qDen, qBou, qWhi, qCho, qPas, qGam, qLas, qMet, qFin, qShe, true_and, and_true, false_and, and_false, true_or, or_true, false_or, or_false, not_true_eq_false, not_false_eq_true] <;> omega)) (fun _ _ _ _ => ⟨0, 0, by omega, by omega, ?_, rfl, ?_, rfl, fun i hi => absurd hi (by omega), fun i hi => absurd hi (by omega), fun i j hi => absurd hi (by omega), fun i j hi hj _ => ?_⟩)⟩
  · have p2 := p.2
    simp only [pCho] at p2
    rw [w2, if_neg (by omega), gI_sI, gI_sI]
    by_cases q : a = 23
    · subst q
      rw [if_pos rfl, if_neg (by omega), if_pos rfl, if_neg (by omega)]
    · rw [if_neg q, if_neg q]
  · rw [w3]; rfl
  · rw [w4]; rfl
  · rw [w2, if_neg (by omega)]; rfl
  · rw [w2, if_neg (by omega)]; rfl
  · rw [w2, if_pos (by omega)]
theorem sheet_l (s l : Nat) (hs : s < 4) (hl : l ≤ 120) : ∀ n i μ, i ≤ l → l - i < n → ∃ μ', f_M_sheet_l55 FN n (nI s) (nI l) (nI i) μ = some (nI l, μ') ∧ (∀ b j, gI μ' b j = if b = 47 ∧ 120 * s + i ≤ j ∧ j < 120 * s + l then 0 else gI μ b j) ∧ (∀ b j, gL μ' b j = gL μ b j) ∧ (∀ b j, gR μ' b j = gR μ b j) := by
  intro n
  induction n with
  | zero => intro i μ _ h; omega
  | succ n ih =>
    intro i μ hi hn
    unfold f_M_sheet_l55
    by_cases e : i = l
    · subst e
      refine ⟨μ, by rw [if_pos (by rw [y_le (by omega) (by omega)]; omega)], fun b j => by rw [if_neg (by omega)], fun b j => rfl, fun b j => rfl⟩
    · obtain ⟨μ', w1, w2, w3, w4⟩ := ih (i + 1) (sI μ 47 (120 * s + i) 0) (by omega) (by omega)
      refine ⟨μ', ?_, fun b j => ?_, fun b j => by rw [w3, gL_sI], fun b j => by rw [w4, gR_sI]⟩
      · rw [if_neg (by rw [y_le (by omega) (by omega)]; omega), m120, if_pos (ib_n (by omega) (by omega)), ix_n (by omega)]
        simp only [nme, y_s]
        exact w1
      · rw [w2, gI_sI]
        by_cases q : b = 47
        · subst q
          rw [if_pos rfl]
          by_cases q2 : j = 120 * s + i
          · rw [if_neg (by omega), if_pos q2, if_pos (by omega)]
          · rw [if_neg q2]
            by_cases q3 : 120 * s + i ≤ j ∧ j < 120 * s + l
            · rw [if_pos (by omega), if_pos (by omega)]
            · rw [if_neg (by omega), if_neg (by omega)]
        · rw [if_neg q, if_neg (by omega), if_neg (by omega)]
theorem s_sheet {c n : Nat} {μ1 μ2 : Mem} (h : Inv c n μ1 μ2) (hc : c < 512) (a1 : Int32) (a2 : Int32) (a3 : Int32) : ∃ (r : Int32) (ν1 : Mem) (ν2 : Mem), f_X_sheet FN μ1 a1 a2 a3 = some (r, ν1) ∧ f_M_sheet FN μ2 a1 a2 a3 = some (r, ν2) ∧ Inv (c + 1) n ν1 ν2 := by
  obtain ⟨t, ht, hCs, hTop, hWr, hStr, hBow, hDen, hBou, hWhi, hCho, hPas, hGam, hLas, hMet, hFin, hShe⟩ := id h
  unfold f_X_sheet f_M_sheet
  rw [bSheet, bIsSheet]
  by_cases c1 : 0 ≤ a1.toInt ∧ a1.toInt ≤ 3
  · obtain ⟨s, hs, rfl⟩ := toN (n := 4) c1.1 (by omega)
    have es : (nI s).toInt.toNat = s := by rw [nI_t (by omega)]; omega
    rw [if_pos c1, if_pos c1, es]
    simp only [bForm, ib_n hs (by omega), ix_n (show s < 2147483648 by omega), Int32.le_iff_toInt_le, bw, bn2, bOw, bOn, nme, b2s, bs, zn10, zn01, ze10, ze00, ze01, ze11, if_true, if_false, not_true_eq_false, not_false_eq_true, l32_0, l32_1, l32_2, l32_3, l32_4, l32_5, l32_7, l32_8, l32_9, l32_12, l32_20, l32_24, l32_25, l32_30, l32_31, l32_35, l32_40, l32_50, l32_60, l32_100, l32_120, l32_200, l32_255, l32_400, l32_m1, l32_m9, l32_m20, l32_m30, l32_m31, l64_0, l64_1, l64_2, l64_3, l64_4, l64_5, l64_7, l64_8, l64_9, l64_12, l64_20, l64_24, l64_25, l64_30, l64_31, l64_35, l64_40, l64_50, l64_60, l64_100, l64_120, l64_200, l64_255, l64_400, l64_m1, l64_m9, l64_m20, l64_m30, l64_m31]
    by_cases c2 : 0 ≤ a2.toInt ∧ a2.toInt ≤ 2
    · simp only [if_pos c2]
      by_cases c3 : a3.toInt ≤ 120
      · simp only [if_pos c3]
        by_cases c4 : 0 ≤ a3.toInt
        · simp only [if_pos c4]
          obtain ⟨l, hl, rfl⟩ := toN (n := 121) c4 (by omega)
          have hb : f_Sh_begin FN μ1 (48 + 2 * s) a2 (nI l) = some (sA (sI (sI (sI μ1 (48 + 2 * s) 0 0) (48 + 2 * s) 1 a2) (48 + 2 * s) 2 (nI l)) (49 + 2 * s) (fun j => if j < 120 then 0 else gI (sI (sI (sI μ1 (48 + 2 * s) 0 0) (48 + 2 * s) 1 a2) (48 + 2 * s) 2 (nI l)) (49 + 2 * s) j)) := by
            unfold f_Sh_begin
            have e1 : f_JM_min (nI l) 120 = some (nI l) := by
              unfold f_JM_min
              rw [if_neg (by show ¬ nI 120 < nI l; rw [y_lt (by omega) (by omega)]; omega)]
            have e2 : f_JM_max1 0 (nI l) = some (nI l) := by
              unfold f_JM_max1
              by_cases e : l = 0
              · subst e; rfl
              · rw [if_pos (by show nI 0 < nI l; rw [y_lt (by omega) (by omega)]; omega)]
            have hl2 : lnX (49 + 2 * s) = 120 := by
              have : ∀ s, s < 4 → lnX (49 + 2 * s) = 120 := by decide +kernel
              exact this s hs
            simp only [nme, e1, e2, bs, sr3 s hs]
            rw [fill_e _ _ 120 0 (by omega) hl2]
            rfl
          rw [hb]
          obtain ⟨μ', w1, w2, w3, w4⟩ := sheet_l s l hs (by omega) FN 0 (sI (sI μ2 45 s a2) 46 s (nI l)) (by omega) (FN_lt (by omega))
          have w1' : f_M_sheet_l55 FN FN (nI s) (nI l) 0 (sI (sI μ2 45 s a2) 46 s (nI l)) = some (nI l, μ') := w1
          rw [w1']
          simp only [bs]
          refine ⟨_, _, μ', rfl, rfl, h.uShe ((((EqOn.rf.sI (by simp only [perX, pTop, pStr, pBow, pDen, pBou, pWhi, pCho, pPas, pGam, pLas, pMet, pFin, pShe, true_and, and_true, false_and, and_false, true_or, or_true, false_or, or_false, not_true_eq_false, not_false_eq_true] <;> omega)).sI (by simp only [perX, pTop, pStr, pBow, pDen, pBou, pWhi, pCho, pPas, pGam, pLas, pMet, pFin, pShe, true_and, and_true, false_and, and_false, true_or, or_true, false_or, or_false, not_true_eq_false, not_false_eq_true] <;> omega)).sI (by simp only [perX, pTop, pStr, pBow, pDen, pBou, pWhi, pCho, pPas, pGam, pLas, pMet, pFin, pShe, true_and, and_true, false_and, and_false, true_or, or_true, false_or, or_false, not_true_eq_false, not_false_eq_true] <;> omega)).sA (fun k => (by simp only [perX, pTop, pStr, pBow, pDen, pBou, pWhi, pCho, pPas, pGam, pLas, pMet, pFin, pShe, true_and, and_true, false_and, and_false, true_or, or_true, false_or, or_false, not_true_eq_false, not_false_eq_true] <;> omega))) (fun a k p => ⟨?_, ?_, ?_⟩) (fun _ _ _ _ s' hs' => ?_)⟩
          · have p2 := p.2
            simp only [qShe] at p2
            rw [w2, if_neg (by omega), gI_sI, if_neg (by omega), gI_sI, if_neg (by omega)]
          · rw [w3]; rfl
          · rw [w4]; rfl
          · obtain ⟨l', p1, p2, p3, p4, p5⟩ := hShe s' hs'
            by_cases e : s' = s
            · subst e
              refine ⟨l, by omega, ?_, ?_, ?_, fun i hi => ?_⟩
              · rw [gI_sA, if_neg (by omega), gI_sI, if_pos rfl, if_pos rfl]
              · rw [w2, if_neg (by omega), gI_sI, if_pos rfl, if_pos rfl]
              · refine Or.inl ⟨?_, ?_, ?_⟩
                · rw [gI_sA, if_neg (by omega)]; simp only [gI_sI, if_true, Nat.reduceEqDiff, if_false]
                · rw [gI_sA, if_neg (by omega), w2, if_neg (by omega)]; simp only [gI_sI, if_true, Nat.reduceEqDiff, if_false]
                · rw [w2, if_neg (by omega)]; simp only [gI_sI, if_true, Nat.reduceEqDiff, if_false]; exact c2
              · rw [gI_sA, if_pos rfl, if_pos (by omega), w2, if_pos (by omega)]
            · refine ⟨l', p1, ?_, ?_, ?_, fun i hi => ?_⟩
              · rw [gI_sA, if_neg (by omega), gI_sI, if_neg (by omega), gI_sI, if_neg (by omega), gI_sI, if_neg (by omega)]; exact p2
              · rw [w2, if_neg (by omega), gI_sI, if_pos rfl, if_neg e, gI_sI, if_neg (by omega)]; exact p3
              · have x0 : ∀ k, gI (sA (sI (sI (sI μ1 (48 + 2 * s) 0 0) (48 + 2 * s) 1 a2) (48 + 2 * s) 2 (nI l)) (49 + 2 * s) (fun j => if j < 120 then 0 else gI (sI (sI (sI μ1 (48 + 2 * s) 0 0) (48 + 2 * s) 1 a2) (48 + 2 * s) 2 (nI l)) (49 + 2 * s) j)) (48 + 2 * s') k = gI μ1 (48 + 2 * s') k := fun k => by
                  rw [gI_sA, if_neg (by omega), gI_sI, if_neg (by omega), gI_sI, if_neg (by omega), gI_sI, if_neg (by omega)]
                have x1 : gI μ' 45 s' = gI μ2 45 s' := by
                  rw [w2, if_neg (by omega), gI_sI, if_neg (by omega), gI_sI, if_pos rfl, if_neg e]
                rw [x0, x0, x1]; exact p4
              · rw [gI_sA, if_neg (by omega), gI_sI, if_neg (by omega), gI_sI, if_neg (by omega), gI_sI, if_neg (by omega), w2, if_neg (by omega), gI_sI, if_neg (by omega), gI_sI, if_neg (by omega)]; exact p5 i hi
        · simp only [if_neg c4]
          obtain ⟨r, ν1, ν2, y1, y2, y3⟩ := fnd h 5
          rw [y1, y2]
          exact ⟨r, ν1, ν2, rfl, rfl, y3⟩
      · simp only [if_neg c3]
        exact ⟨_, _, _, rfl, rfl, Inv_next h⟩
    · simp only [if_neg c2]
      exact ⟨_, _, _, rfl, rfl, Inv_next h⟩
  · rw [if_neg c1, if_neg c1]
    exact ⟨_, _, _, rfl, rfl, Inv_next h⟩

theorem sr6 : ∀ i, i < 4 → srX 6 i = 10 + i := by decide +kernel
theorem sr5 : srX 5 0 = 6 := by decide +kernel
theorem at_s {a0 s p i : Nat} {x : Mem} (hp : p ≤ 4) (h : gI x a0 1 = nI p) (hi : i < p) (hs : srX (srX a0 0) i = s) : f_Bt_at x a0 (nI i) = some (some s) := by
  unfold f_Bt_at
  rw [h, if_neg (show ¬ nI i < 0 by show ¬ nI i < nI 0; rw [y_lt (by omega) (by omega)]; omega), if_neg (show ¬ nI p ≤ nI i by rw [y_le (by omega) (by omega)]; omega), if_neg (show ¬ (4 : Int32) ≤ nI i by show ¬ nI 4 ≤ nI i; rw [y_le (by omega) (by omega)]; omega), if_pos (ib_n (show i < 4 by omega) (by omega)), ix_n (by omega), hs]
theorem enter_l {p : Nat} {x m : Mem} (hp : p ≤ 4) (hx : gI x 5 1 = nI p) (hm : gI m 0 15 = nI p) (hs : ∀ i, i < p → gI x (10 + i) 1 = gI m 12 i) (a1 a2 a3 a4 a5 : Int32) : ∀ n i, i ≤ p → p - i < n → (f_Bt_holds_l2 FN x n a1 (nI i) = some 1 ∧ f_M_enter_l68 FN n a1 a2 a3 a4 a5 (nI i) m = some (-2, m)) ∨ (f_Bt_holds_l2 FN x n a1 (nI i) = some 0 ∧ f_M_enter_l68 FN n a1 a2 a3 a4 a5 (nI i) m = f_M_enter_l68 FN 1 a1 a2 a3 a4 a5 (nI p) m) := by
  intro n
  induction n with
  | zero => intro i _ h; omega
  | succ n ih =>
    intro i hi hn
    by_cases e : i = p
    · subst e
      have z : nI i ≤ nI i := by rw [y_le (by omega) (by omega)]; omega
      refine Or.inr ⟨?_, ?_⟩
      · unfold f_Bt_holds_l2
        rw [hx, if_pos z]
      · conv => lhs; unfold f_M_enter_l68
        conv => rhs; unfold f_M_enter_l68
        rw [hm, if_pos z, if_pos z]
    · have z : ¬ nI p ≤ nI i := by rw [y_le (by omega) (by omega)]; omega
      have e1 : f_Bt_holds_l2 FN x (n + 1) a1 (nI i) = if ¬ gI m 12 i = a1 then f_Bt_holds_l2 FN x n a1 (nI (i + 1)) else some 1 := by
        conv => lhs; unfold f_Bt_holds_l2
        rw [hx, if_neg z, at_s hp hx (show i < p by omega) (show srX (srX 5 0) i = 10 + i by rw [sr5]; exact sr6 i (by omega)), bs]
        unfold f_Bt_holds_b30
        simp only [hs i (show i < p by omega), nme, y_s]
      have e2 : f_M_enter_l68 FN (n + 1) a1 a2 a3 a4 a5 (nI i) m = if ¬ gI m 12 i = a1 then f_M_enter_l68 FN n a1 a2 a3 a4 a5 (nI (i + 1)) m else some (-2, m) := by
        conv => lhs; unfold f_M_enter_l68
        rw [hm, if_neg z, if_pos (ib_n (by omega) (by omega)), ix_n (by omega)]
        simp only [nme, y_s]
      rw [e1, e2]
      by_cases c : gI m 12 i = a1
      · rw [if_neg (not_not_intro c), if_neg (not_not_intro c)]
        exact Or.inl ⟨rfl, rfl⟩
      · rw [if_pos c, if_pos c]
        exact ih (i + 1) (by omega) (by omega)
theorem s_enter {c n : Nat} {μ1 μ2 : Mem} (h : Inv c n μ1 μ2) (hc : c < 512) (a1 : Int32) (a2 : Int32) (a3 : Int32) (a4 : Int32) (a5 : Int32) : ∃ (r : Int32) (ν1 : Mem) (ν2 : Mem), f_X_enter FN μ1 a1 a2 a3 a4 a5 = some (r, ν1) ∧ f_M_enter FN μ2 a1 a2 a3 a4 a5 = some (r, ν2) ∧ Inv (c + 1) n ν1 ν2 := by
  obtain ⟨t, ht, hCs, hTop, hWr, hStr, hBow, hDen, ⟨p, q1, q2, q3, q4⟩, hr⟩ := id h
  have hs : ∀ i, i < p → gI μ1 (10 + i) 1 = gI μ2 12 i := fun i hi => by
    obtain ⟨j, j1, j2, j3, j4⟩ := q4 i hi
    rw [j2, j3]
  have bad : ∃ (r : Int32) (ν1 : Mem) (ν2 : Mem), (some ((-2 : Int32), μ1) : Option (Int32 × Mem)) = some (r, ν1) ∧ (some ((-2 : Int32), μ2) : Option (Int32 × Mem)) = some (r, ν2) ∧ Inv (c + 1) n ν1 ν2 := ⟨_, _, _, rfl, rfl, Inv_next h⟩
  unfold f_X_enter f_M_enter f_X_enter_b33 f_X_enter_b34
  simp only [bTw hTop, bTn hTop, bw, bn2, bOw, bOn, nme, b2s, bs, zn10, zn01, ze10, ze00, ze01, ze11, if_true, if_false, not_true_eq_false, not_false_eq_true, l32_0, l32_1, l32_2, l32_3, l32_4, l32_5, l32_7, l32_8, l32_9, l32_12, l32_20, l32_24, l32_25, l32_30, l32_31, l32_35, l32_40, l32_50, l32_60, l32_100, l32_120, l32_200, l32_255, l32_400, l32_m1, l32_m9, l32_m20, l32_m30, l32_m31, l64_0, l64_1, l64_2, l64_3, l64_4, l64_5, l64_7, l64_8, l64_9, l64_12, l64_20, l64_24, l64_25, l64_30, l64_31, l64_35, l64_40, l64_50, l64_60, l64_100, l64_120, l64_200, l64_255, l64_400, l64_m1, l64_m9, l64_m20, l64_m30, l64_m31]
  by_cases c1 : 0 ≤ a1.toInt ∧ a1.toInt < (t : Int)
  · simp only [if_pos c1]
    by_cases c2 : -30 ≤ a2.toInt ∧ a2.toInt ≤ 30
    · simp only [if_pos c2]
      by_cases c3 : -30 ≤ a3.toInt ∧ a3.toInt ≤ 30
      · simp only [if_pos c3]
        by_cases c4 : 0 ≤ a4.toInt ∧ a4.toInt ≤ 35
        · simp only [if_pos c4]
          by_cases c5 : 1 ≤ a5.toInt ∧ a5.toInt ≤ 60
          · simp only [if_pos c5]
            obtain ⟨v, hv, rfl⟩ := toN c1.1 c1.2
            have h40 := hTop.1
            have ev : (nI v).toInt.toNat = v := by rw [nI_t (by omega)]; omega
            rw [ev]
            unfold f_Bt_holds
            rcases enter_l q1 q2 q3 hs (nI v) a2 a3 a4 a5 FN 0 (by omega) (FN_lt (by omega)) with ⟨w1, w2⟩ | ⟨w1, w2⟩
            · have w1' : f_Bt_holds_l2 FN μ1 FN (nI v) 0 = some 1 := w1
              have w2' : f_M_enter_l68 FN FN (nI v) a2 a3 a4 a5 0 μ2 = some (-2, μ2) := w2
              rw [w1', w2']
              simp only [bw, bn2, bOw, bOn, nme, b2s, bs, zn10, zn01, ze10, ze00, ze01, ze11, if_true, if_false, not_true_eq_false, not_false_eq_true, l32_0, l32_1, l32_2, l32_3, l32_4, l32_5, l32_7, l32_8, l32_9, l32_12, l32_20, l32_24, l32_25, l32_30, l32_31, l32_35, l32_40, l32_50, l32_60, l32_100, l32_120, l32_200, l32_255, l32_400, l32_m1, l32_m9, l32_m20, l32_m30, l32_m31, l64_0, l64_1, l64_2, l64_3, l64_4, l64_5, l64_7, l64_8, l64_9, l64_12, l64_20, l64_24, l64_25, l64_30, l64_31, l64_35, l64_40, l64_50, l64_60, l64_100, l64_120, l64_200, l64_255, l64_400, l64_m1, l64_m9, l64_m20, l64_m30, l64_m31]
              exact bad
            · have w1' : f_Bt_holds_l2 FN μ1 FN (nI v) 0 = some 0 := w1
              have w2' : f_M_enter_l68 FN FN (nI v) a2 a3 a4 a5 0 μ2 = f_M_enter_l68 FN 1 (nI v) a2 a3 a4 a5 (nI p) μ2 := w2
              rw [w1', w2']
              have z : nI p ≤ nI p := by rw [y_le (by omega) (by omega)]; omega
              unfold f_M_enter_l68 f_Bt_addSpinner
              have L : (nI p < (4 : Int32)) = (p < 4) := y_lt (b := 4) (by omega) (by decide)
              have E : (nI p = (4 : Int32)) = (p = 4) := y_eq (b := 4) (by omega) (by decide)
              by_cases c6 : p < 4
              · have es : nI (p + 1) - 1 = nI p := by rw [← y_s]; exact Int32.add_sub_cancel _ _
                have eA : f_Bt_at (sI μ1 5 1 (nI (p + 1))) 5 (nI p) = some (some (10 + p)) := at_s (p := p + 1) (by omega) rfl (by omega) (show srX (srX 5 0) p = 10 + p by rw [sr5]; exact sr6 p c6)
                unfold f_Sp_set
                simp only [q2, q3, L, E, z, eA, if_pos c6, if_pos (show ¬ p = 4 by omega), ib_n c6 (by omega), ix_n (show p < 2147483648 by omega), sr5, sr6 p c6, gI_sI, gI_sR, Nat.reduceEqDiff, if_neg (show ¬ 5 = 10 + p by omega), y_s, es, bw, bn2, bOw, bOn, nme, b2s, bs, zn10, zn01, ze10, ze00, ze01, ze11, if_true, if_false, not_true_eq_false, not_false_eq_true, l32_0, l32_1, l32_2, l32_3, l32_4, l32_5, l32_7, l32_8, l32_9, l32_12, l32_20, l32_24, l32_25, l32_30, l32_31, l32_35, l32_40, l32_50, l32_60, l32_100, l32_120, l32_200, l32_255, l32_400, l32_m1, l32_m9, l32_m20, l32_m30, l32_m31, l64_0, l64_1, l64_2, l64_3, l64_4, l64_5, l64_7, l64_8, l64_9, l64_12, l64_20, l64_24, l64_25, l64_30, l64_31, l64_35, l64_40, l64_50, l64_60, l64_100, l64_120, l64_200, l64_255, l64_400, l64_m1, l64_m9, l64_m20, l64_m30, l64_m31]
                refine ⟨_, _, _, rfl, rfl, h.uBou (((((((EqOn.rf.sI (by simp only [perX, pTop, pStr, pBow, pDen, pBou, pWhi, pCho, pPas, pGam, pLas, pMet, pFin, pShe, true_and, and_true, false_and, and_false, true_or, or_true, false_or, or_false, not_true_eq_false, not_false_eq_true] <;> omega)).sR (by simp only [perX, pTop, pStr, pBow, pDen, pBou, pWhi, pCho, pPas, pGam, pLas, pMet, pFin, pShe, true_and, and_true, false_and, and_false, true_or, or_true, false_or, or_false, not_true_eq_false, not_false_eq_true] <;> omega)).sI (by simp only [perX, pTop, pStr, pBow, pDen, pBou, pWhi, pCho, pPas, pGam, pLas, pMet, pFin, pShe, true_and, and_true, false_and, and_false, true_or, or_true, false_or, or_false, not_true_eq_false, not_false_eq_true] <;> omega)).sI (by simp only [perX, pTop, pStr, pBow, pDen, pBou, pWhi, pCho, pPas, pGam, pLas, pMet, pFin, pShe, true_and, and_true, false_and, and_false, true_or, or_true, false_or, or_false, not_true_eq_false, not_false_eq_true] <;> omega)).sI (by simp only [perX, pTop, pStr, pBow, pDen, pBou, pWhi, pCho, pPas, pGam, pLas, pMet, pFin, pShe, true_and, and_true, false_and, and_false, true_or, or_true, false_or, or_false, not_true_eq_false, not_false_eq_true] <;> omega)).sI (by simp only [perX, pTop, pStr, pBow, pDen, pBou, pWhi, pCho, pPas, pGam, pLas, pMet, pFin, pShe, true_and, and_true, false_and, and_false, true_or, or_true, false_or, or_false, not_true_eq_false, not_false_eq_true] <;> omega)).sI (by simp only [perX, pTop, pStr, pBow, pDen, pBou, pWhi, pCho, pPas, pGam, pLas, pMet, pFin, pShe, true_and, and_true, false_and, and_false, true_or, or_true, false_or, or_false, not_true_eq_false, not_false_eq_true] <;> omega)) ((((((EqOn.rf.sI (by simp only [perM, qCs, qTop, qStr, qBow, qDen, qBou, qWhi, qCho, qPas, qGam, qLas, qMet, qFin, qShe, true_and, and_true, false_and, and_false, true_or, or_true, false_or, or_false, not_true_eq_false, not_false_eq_true] <;> omega)).sI (by simp only [perM, qCs, qTop, qStr, qBow, qDen, qBou, qWhi, qCho, qPas, qGam, qLas, qMet, qFin, qShe, true_and, and_true, false_and, and_false, true_or, or_true, false_or, or_false, not_true_eq_false, not_false_eq_true] <;> omega)).sI (by simp only [perM, qCs, qTop, qStr, qBow, qDen, qBou, qWhi, qCho, qPas, qGam, qLas, qMet, qFin, qShe, true_and, and_true, false_and, and_false, true_or, or_true, false_or, or_false, not_true_eq_false, not_false_eq_true] <;> omega)).sI (by simp only [perM, qCs, qTop, qStr, qBow, qDen, qBou, qWhi, qCho, qPas, qGam, qLas, qMet, qFin, qShe, true_and, and_true, false_and, and_false, true_or, or_true, false_or, or_false, not_true_eq_false, not_false_eq_true] <;> omega)).sI (by simp only [perM, qCs, qTop, qStr, qBow, qDen, qBou, qWhi, qCho, qPas, qGam, qLas, qMet, qFin, qShe, true_and, and_true, false_and, and_false, true_or, or_true, false_or, or_false, not_true_eq_false, not_false_eq_true] <;> omega)).sI (by simp only [perM, qCs, qTop, qStr, qBow, qDen, qBou, qWhi, qCho, qPas, qGam, qLas, qMet, qFin, qShe, true_and, and_true, false_and, and_false, true_or, or_true, false_or, or_false, not_true_eq_false, not_false_eq_true] <;> omega)) (fun t' ht' hT _ => ⟨p + 1, by omega, ?_, ?_, fun i hi => ?_⟩)⟩
                · simp only [gI_sI, gI_sR, if_neg (show ¬ 5 = 10 + p by omega), if_true]
                · simp only [gI_sI, if_true]
                · have htt : t' = t := by omega
                  subst htt
                  by_cases e : i = p
                  · subst e
                    refine ⟨v, hv, ?_⟩
                    simp only [gI_sI, gI_sR, gR_sI, gR_sR, if_true, Nat.reduceEqDiff, if_false, if_neg (show ¬ 10 + i = 5 by omega), true_and]
                    exact ⟨c2, c3, c4, c5⟩
                  · obtain ⟨j, j1, j2⟩ := q4 i (by omega)
                    refine ⟨j, j1, ?_⟩
                    simp only [gI_sI, gI_sR, gR_sI, gR_sR, if_true, Nat.reduceEqDiff, if_false, if_neg e, if_neg (show ¬ 10 + i = 10 + p by omega), if_neg (show ¬ 10 + i = 5 by omega)]
                    exact j2
              · simp only [q2, q3, L, E, z, if_neg c6, if_neg (show ¬ ¬ p = 4 by omega), bw, bn2, bOw, bOn, nme, b2s, bs, zn10, zn01, ze10, ze00, ze01, ze11, if_true, if_false, not_true_eq_false, not_false_eq_true, l32_0, l32_1, l32_2, l32_3, l32_4, l32_5, l32_7, l32_8, l32_9, l32_12, l32_20, l32_24, l32_25, l32_30, l32_31, l32_35, l32_40, l32_50, l32_60, l32_100, l32_120, l32_200, l32_255, l32_400, l32_m1, l32_m9, l32_m20, l32_m30, l32_m31, l64_0, l64_1, l64_2, l64_3, l64_4, l64_5, l64_7, l64_8, l64_9, l64_12, l64_20, l64_24, l64_25, l64_30, l64_31, l64_35, l64_40, l64_50, l64_60, l64_100, l64_120, l64_200, l64_255, l64_400, l64_m1, l64_m9, l64_m20, l64_m30, l64_m31]
                exact ⟨_, _, _, rfl, rfl, Inv_next h⟩
          · simp only [if_neg c5]
            exact bad
        · simp only [if_neg c4]
          exact bad
      · simp only [if_neg c3]
        exact bad
    · simp only [if_neg c2]
      exact bad
  · simp only [if_neg c1, bw, bn2, bOw, bOn, nme, b2s, bs, zn10, zn01, ze10, ze00, ze01, ze11, if_true, if_false, not_true_eq_false, not_false_eq_true, l32_0, l32_1, l32_2, l32_3, l32_4, l32_5, l32_7, l32_8, l32_9, l32_12, l32_20, l32_24, l32_25, l32_30, l32_31, l32_35, l32_40, l32_50, l32_60, l32_100, l32_120, l32_200, l32_255, l32_400, l32_m1, l32_m9, l32_m20, l32_m30, l32_m31, l64_0, l64_1, l64_2, l64_3, l64_4, l64_5, l64_7, l64_8, l64_9, l64_12, l64_20, l64_24, l64_25, l64_30, l64_31, l64_35, l64_40, l64_50, l64_60, l64_100, l64_120, l64_200, l64_255, l64_400, l64_m1, l64_m9, l64_m20, l64_m30, l64_m31]
    by_cases c2 : -30 ≤ a2.toInt ∧ a2.toInt ≤ 30
    · by_cases c3 : -30 ≤ a3.toInt ∧ a3.toInt ≤ 30
      · simp only [if_pos c2, if_pos c3]; exact bad
      · simp only [if_pos c2, if_neg c3]; exact bad
    · simp only [if_neg c2]; exact bad

theorem m4_5 : ∀ i, i < 5 → ∀ j, j < 4 → (4 : Int32) * nI i + nI j = nI (4 * i + j) := by decide +kernel
theorem among_r {r : Nat} (a1 a2 : Int32) (c2 : a1 = 0) (hr : r < 4) : ∀ n i μ, i ≤ 4 → 4 - i < n → ∃ μ', f_M_among_l48 FN n a1 a2 (nI r) (nI i) μ = f_M_among_l48 FN 1 a1 a2 (nI r) (nI 4) μ' ∧ (∀ b j, gI μ' b j = if b = 31 ∧ 4 * r + i ≤ j ∧ j < 4 * r + 4 then 0 else gI μ b j) ∧ (∀ b j, gL μ' b j = gL μ b j) ∧ (∀ b j, gR μ' b j = gR μ b j) := by
  intro n
  induction n with
  | zero => intro i μ _ h; omega
  | succ n ih =>
    intro i μ hi hn
    by_cases e : i = 4
    · subst e
      refine ⟨μ, ?_, fun b j => by rw [if_neg (by omega)], fun b j => rfl, fun b j => rfl⟩
      unfold f_M_among_l48
      have z : (4 : Int32) ≤ nI 4 := by decide
      rw [if_pos z, if_pos z]
    · obtain ⟨μ', w1, w2, w3, w4⟩ := ih (i + 1) (sI μ 31 (4 * r + i) 0) (by omega) (by omega)
      refine ⟨μ', ?_, fun b j => ?_, fun b j => by rw [w3, gL_sI], fun b j => by rw [w4, gR_sI]⟩
      · rw [← w1]
        conv => lhs; unfold f_M_among_l48
        have c1 : ¬ (4 : Int32) ≤ nI i := by
          show ¬ nI 4 ≤ nI i
          rw [y_le (by omega) (by omega)]; omega
        rw [if_neg c1]
        unfold f_M_among_b77
        rw [if_neg (not_not_intro c2), m4_ r hr i (by omega), if_pos (ib_n (by omega) (by omega)), ix_n (by omega)]
        simp only [nme, y_s]
      · rw [w2, gI_sI]
        by_cases q : b = 31
        · rw [if_pos q]
          by_cases q2 : j = 4 * r + i
          · rw [if_pos q2, ite_self, if_pos (by omega)]
          · rw [if_neg q2]
            by_cases q3 : 4 * r + i ≤ j ∧ j < 4 * r + 4
            · rw [if_pos (by omega), if_pos (by omega)]
            · rw [if_neg (by omega), if_neg (by omega)]
        · rw [if_neg q, if_neg (by omega), if_neg (by omega)]
theorem among_c {r : Nat} (a1 a2 : Int32) (c2 : ¬ a1 = 0) (hr : r < 4) : ∀ n i μ, i ≤ 4 → 4 - i < n → ∃ μ', f_M_among_l48 FN n a1 a2 (nI r) (nI i) μ = f_M_among_l48 FN 1 a1 a2 (nI r) (nI 4) μ' ∧ (∀ b j, gI μ' b j = if b = 31 ∧ j % 4 = r ∧ 4 * i ≤ j ∧ j < 16 then 0 else gI μ b j) ∧ (∀ b j, gL μ' b j = gL μ b j) ∧ (∀ b j, gR μ' b j = gR μ b j) := by
  intro n
  induction n with
  | zero => intro i μ _ h; omega
  | succ n ih =>
    intro i μ hi hn
    by_cases e : i = 4
    · subst e
      refine ⟨μ, ?_, fun b j => by rw [if_neg (by omega)], fun b j => rfl, fun b j => rfl⟩
      unfold f_M_among_l48
      have z : (4 : Int32) ≤ nI 4 := by decide
      rw [if_pos z, if_pos z]
    · obtain ⟨μ', w1, w2, w3, w4⟩ := ih (i + 1) (sI μ 31 (4 * i + r) 0) (by omega) (by omega)
      refine ⟨μ', ?_, fun b j => ?_, fun b j => by rw [w3, gL_sI], fun b j => by rw [w4, gR_sI]⟩
      · rw [← w1]
        conv => lhs; unfold f_M_among_l48
        have c1 : ¬ (4 : Int32) ≤ nI i := by
          show ¬ nI 4 ≤ nI i
          rw [y_le (by omega) (by omega)]; omega
        rw [if_neg c1]
        unfold f_M_among_b77
        rw [if_pos c2, m4_ i (by omega) r hr, if_pos (ib_n (by omega) (by omega)), ix_n (by omega)]
        simp only [nme, y_s]
      · rw [w2, gI_sI]
        by_cases q : b = 31
        · rw [if_pos q]
          by_cases q2 : j = 4 * i + r
          · rw [if_pos q2, ite_self, if_pos (by omega)]
          · rw [if_neg q2]
            by_cases q3 : j % 4 = r ∧ 4 * i ≤ j ∧ j < 16
            · rw [if_pos (by omega), if_pos (by omega)]
            · rw [if_neg (by omega), if_neg (by omega)]
        · rw [if_neg q, if_neg (by omega), if_neg (by omega)]
theorem s_among {c n : Nat} {μ1 μ2 : Mem} (h : Inv c n μ1 μ2) (hc : c < 512) (a1 : Int32) (a2 : Int32) : ∃ (r : Int32) (ν1 : Mem) (ν2 : Mem), f_X_among μ1 a1 a2 = some (r, ν1) ∧ f_M_among FN μ2 a1 a2 = some (r, ν2) ∧ Inv (c + 1) n ν1 ν2 := by
  obtain ⟨t, ht, hCs, hTop, hWr, hStr, hBow, hDen, hBou, hWhi, hCho, hr⟩ := id h
  obtain ⟨r, cc, g1, g2, g3, g4, g5, g6, g7, g8, g9, g10⟩ := hCho
  unfold f_X_among f_M_among
  simp only [bTw hTop, bTn hTop, bw, bn2, bOw, bOn, nme, b2s, bs, zn10, zn01, ze10, ze00, ze01, ze11, if_true, if_false, not_true_eq_false, not_false_eq_true, l32_0, l32_1, l32_2, l32_3, l32_4, l32_5, l32_7, l32_8, l32_9, l32_12, l32_20, l32_24, l32_25, l32_30, l32_31, l32_35, l32_40, l32_50, l32_60, l32_100, l32_120, l32_200, l32_255, l32_400, l32_m1, l32_m9, l32_m20, l32_m30, l32_m31, l64_0, l64_1, l64_2, l64_3, l64_4, l64_5, l64_7, l64_8, l64_9, l64_12, l64_20, l64_24, l64_25, l64_30, l64_31, l64_35, l64_40, l64_50, l64_60, l64_100, l64_120, l64_200, l64_255, l64_400, l64_m1, l64_m9, l64_m20, l64_m30, l64_m31]
  by_cases c1 : 0 ≤ a1.toInt ∧ a1.toInt ≤ 1
  · simp only [if_pos c1]
    by_cases c2 : 0 ≤ a2.toInt ∧ a2.toInt < (t : Int)
    · simp only [if_pos c2, bw, bn2, bOw, bOn, nme, b2s, bs, zn10, zn01, ze10, ze00, ze01, ze11, if_true, if_false, not_true_eq_false, not_false_eq_true, l32_0, l32_1, l32_2, l32_3, l32_4, l32_5, l32_7, l32_8, l32_9, l32_12, l32_20, l32_24, l32_25, l32_30, l32_31, l32_35, l32_40, l32_50, l32_60, l32_100, l32_120, l32_200, l32_255, l32_400, l32_m1, l32_m9, l32_m20, l32_m30, l32_m31, l64_0, l64_1, l64_2, l64_3, l64_4, l64_5, l64_7, l64_8, l64_9, l64_12, l64_20, l64_24, l64_25, l64_30, l64_31, l64_35, l64_40, l64_50, l64_60, l64_100, l64_120, l64_200, l64_255, l64_400, l64_m1, l64_m9, l64_m20, l64_m30, l64_m31]
      obtain ⟨v, hv, rfl⟩ := toN c2.1 c2.2
      by_cases c3 : a1 = 0
      · subst c3
        simp only [bw, bn2, bOw, bOn, nme, b2s, bs, zn10, zn01, ze10, ze00, ze01, ze11, if_true, if_false, not_true_eq_false, not_false_eq_true, l32_0, l32_1, l32_2, l32_3, l32_4, l32_5, l32_7, l32_8, l32_9, l32_12, l32_20, l32_24, l32_25, l32_30, l32_31, l32_35, l32_40, l32_50, l32_60, l32_100, l32_120, l32_200, l32_255, l32_400, l32_m1, l32_m9, l32_m20, l32_m30, l32_m31, l64_0, l64_1, l64_2, l64_3, l64_4, l64_5, l64_7, l64_8, l64_9, l64_12, l64_20, l64_24, l64_25, l64_30, l64_31, l64_35, l64_40, l64_50, l64_60, l64_100, l64_120, l64_200, l64_255, l64_400, l64_m1, l64_m9, l64_m20, l64_m30, l64_m31]
        unfold f_Ch_addRow f_M_among_b36
        have L : (nI r < (4 : Int32)) = (r < 4) := y_lt (b := 4) (by omega) (by decide)
        have E : (nI r = (4 : Int32)) = (r = 4) := y_eq (b := 4) (by omega) (by decide)
        by_cases c4 : r < 4
        · simp only [g3, g4, L, E, if_pos c4, if_pos (show ¬ r = 4 by omega), ib_n c4 (by omega), ix_n (show r < 2147483648 by omega), gI_sI, Nat.reduceEqDiff, y_s, bw, bn2, bOw, bOn, nme, b2s, bs, zn10, zn01, ze10, ze00, ze01, ze11, if_true, if_false, not_true_eq_false, not_false_eq_true, l32_0, l32_1, l32_2, l32_3, l32_4, l32_5, l32_7, l32_8, l32_9, l32_12, l32_20, l32_24, l32_25, l32_30, l32_31, l32_35, l32_40, l32_50, l32_60, l32_100, l32_120, l32_200, l32_255, l32_400, l32_m1, l32_m9, l32_m20, l32_m30, l32_m31, l64_0, l64_1, l64_2, l64_3, l64_4, l64_5, l64_7, l64_8, l64_9, l64_12, l64_20, l64_24, l64_25, l64_30, l64_31, l64_35, l64_40, l64_50, l64_60, l64_100, l64_120, l64_200, l64_255, l64_400, l64_m1, l64_m9, l64_m20, l64_m30, l64_m31]
          obtain ⟨μ', w1, w2, w3, w4⟩ := among_r 0 (nI v) rfl c4 FN 0 μ2 (by omega) (FN_lt (by omega))
          have w1' : f_M_among_l48 FN FN 0 (nI v) (nI r) 0 μ2 = some (nI (r + 1), sI (sI μ' 29 r (nI v)) 0 37 (nI (r + 1))) := by
            refine w1.trans ?_
            unfold f_M_among_l48
            rw [if_pos (by decide), if_neg (by decide), if_pos (ib_n c4 (by omega)), ix_n (by omega)]
            have e : gI (sI μ' 29 r (nI v)) 0 37 = nI r := by
              rw [gI_sI, if_neg (by omega), w2, if_neg (by omega)]; exact g4
            simp only [nme, e, y_s]
          rw [w1']
          refine ⟨_, _, _, rfl, rfl, h.uCho ((EqOn.rf.sI (by simp only [perX, pTop, pStr, pBow, pDen, pBou, pWhi, pCho, pPas, pGam, pLas, pMet, pFin, pShe, true_and, and_true, false_and, and_false, true_or, or_true, false_or, or_false, not_true_eq_false, not_false_eq_true] <;> omega)).sI (by simp only [perX, pTop, pStr, pBow, pDen, pBou, pWhi, pCho, pPas, pGam, pLas, pMet, pFin, pShe, true_and, and_true, false_and, and_false, true_or, or_true, false_or, or_false, not_true_eq_false, not_false_eq_true] <;> omega)) ((EqOn.sI (EqOn.sI (y := μ') (fun a k p => ⟨?_, w3 a k, w4 a k⟩) (by simp only [perM, qCs, qTop, qStr, qBow, qDen, qBou, qWhi, qCho, qPas, qGam, qLas, qMet, qFin, qShe, true_and, and_true, false_and, and_false, true_or, or_true, false_or, or_false, not_true_eq_false, not_false_eq_true] <;> omega)) (by simp only [perM, qCs, qTop, qStr, qBow, qDen, qBou, qWhi, qCho, qPas, qGam, qLas, qMet, qFin, qShe, true_and, and_true, false_and, and_false, true_or, or_true, false_or, or_false, not_true_eq_false, not_false_eq_true] <;> omega))) (fun t' ht' hT _ => ⟨r + 1, cc, by omega, g2, ?_, ?_, ?_, ?_, ?_, ?_, ?_, ?_⟩)⟩
          · have p2 := p.2
            simp only [qCho] at p2
            rw [w2, if_neg (by omega)]
          · simp only [gI_sI, if_true]
          · simp only [gI_sI, if_true]
          · simp only [gI_sI, if_true, Nat.reduceEqDiff, if_false]; exact g5
          · simp only [gI_sI, if_true, Nat.reduceEqDiff, if_false]
            rw [w2, if_neg (by omega)]; exact g6
          · intro i hi
            have htt : t' = t := by omega
            subst htt
            by_cases e : i = r
            · subst e
              refine ⟨v, hv, ?_, ?_⟩
              · simp only [gI_sI, if_true, Nat.reduceEqDiff, if_false]
              · simp only [gI_sI, if_true, Nat.reduceEqDiff, if_false]
            · obtain ⟨j, j1, j2, j3⟩ := g7 i (by omega)
              refine ⟨j, j1, ?_, ?_⟩
              · simp only [gI_sI, if_true, Nat.reduceEqDiff, if_false, if_neg e]; exact j2
              · simp only [gI_sI, if_true, Nat.reduceEqDiff, if_false, if_neg e]
                rw [w2, if_neg (by omega)]; exact j3
          · intro i hi
            have htt : t' = t := by omega
            subst htt
            obtain ⟨j, j1, j2, j3⟩ := g8 i hi
            refine ⟨j, j1, ?_, ?_⟩
            · simp only [gI_sI, if_true, Nat.reduceEqDiff, if_false]; exact j2
            · simp only [gI_sI, if_true, Nat.reduceEqDiff, if_false]
              rw [w2, if_neg (by omega)]; exact j3
          · intro i j hi hj
            rw [gI_sI, if_neg (by omega), gI_sI, if_neg (by omega), gI_sI, if_neg (by omega), gI_sI, if_neg (by omega), w2]
            by_cases e : i = r
            · subst e
              rw [if_pos (by omega), g10 i j (by omega) (by omega) (by omega)]
              exact ⟨rfl, by decide, by decide⟩
            · rw [if_neg (by omega)]
              exact g9 i j (by omega) hj
          · intro i j hi hj hn
            rw [gI_sI, if_neg (by omega), gI_sI, if_neg (by omega)]
            exact g10 i j hi hj (by omega)
        · simp only [g3, g4, L, E, if_neg c4, if_neg (show ¬ ¬ r = 4 by omega), bw, bn2, bOw, bOn, nme, b2s, bs, zn10, zn01, ze10, ze00, ze01, ze11, if_true, if_false, not_true_eq_false, not_false_eq_true, l32_0, l32_1, l32_2, l32_3, l32_4, l32_5, l32_7, l32_8, l32_9, l32_12, l32_20, l32_24, l32_25, l32_30, l32_31, l32_35, l32_40, l32_50, l32_60, l32_100, l32_120, l32_200, l32_255, l32_400, l32_m1, l32_m9, l32_m20, l32_m30, l32_m31, l64_0, l64_1, l64_2, l64_3, l64_4, l64_5, l64_7, l64_8, l64_9, l64_12, l64_20, l64_24, l64_25, l64_30, l64_31, l64_35, l64_40, l64_50, l64_60, l64_100, l64_120, l64_200, l64_255, l64_400, l64_m1, l64_m9, l64_m20, l64_m30, l64_m31]
          exact ⟨_, _, _, rfl, rfl, Inv_next h⟩
      · simp only [c3, bw, bn2, bOw, bOn, nme, b2s, bs, zn10, zn01, ze10, ze00, ze01, ze11, if_true, if_false, not_true_eq_false, not_false_eq_true, l32_0, l32_1, l32_2, l32_3, l32_4, l32_5, l32_7, l32_8, l32_9, l32_12, l32_20, l32_24, l32_25, l32_30, l32_31, l32_35, l32_40, l32_50, l32_60, l32_100, l32_120, l32_200, l32_255, l32_400, l32_m1, l32_m9, l32_m20, l32_m30, l32_m31, l64_0, l64_1, l64_2, l64_3, l64_4, l64_5, l64_7, l64_8, l64_9, l64_12, l64_20, l64_24, l64_25, l64_30, l64_31, l64_35, l64_40, l64_50, l64_60, l64_100, l64_120, l64_200, l64_255, l64_400, l64_m1, l64_m9, l64_m20, l64_m30, l64_m31]
        unfold f_Ch_addColumn f_M_among_b36
        have L : (nI cc < (4 : Int32)) = (cc < 4) := y_lt (b := 4) (by omega) (by decide)
        have E : (nI cc = (4 : Int32)) = (cc = 4) := y_eq (b := 4) (by omega) (by decide)
        by_cases c4 : cc < 4
        · simp only [g5, g6, L, E, if_pos c4, if_pos (show ¬ cc = 4 by omega), ib_n c4 (by omega), ix_n (show cc < 2147483648 by omega), gI_sI, Nat.reduceEqDiff, y_s, bw, bn2, bOw, bOn, nme, b2s, bs, zn10, zn01, ze10, ze00, ze01, ze11, if_true, if_false, not_true_eq_false, not_false_eq_true, l32_0, l32_1, l32_2, l32_3, l32_4, l32_5, l32_7, l32_8, l32_9, l32_12, l32_20, l32_24, l32_25, l32_30, l32_31, l32_35, l32_40, l32_50, l32_60, l32_100, l32_120, l32_200, l32_255, l32_400, l32_m1, l32_m9, l32_m20, l32_m30, l32_m31, l64_0, l64_1, l64_2, l64_3, l64_4, l64_5, l64_7, l64_8, l64_9, l64_12, l64_20, l64_24, l64_25, l64_30, l64_31, l64_35, l64_40, l64_50, l64_60, l64_100, l64_120, l64_200, l64_255, l64_400, l64_m1, l64_m9, l64_m20, l64_m30, l64_m31]
          obtain ⟨μ', w1, w2, w3, w4⟩ := among_c a1 (nI v) c3 c4 FN 0 μ2 (by omega) (FN_lt (by omega))
          have w1' : f_M_among_l48 FN FN a1 (nI v) (nI cc) 0 μ2 = some (nI (cc + 1), sI (sI μ' 30 cc (nI v)) 0 38 (nI (cc + 1))) := by
            refine w1.trans ?_
            unfold f_M_among_l48
            rw [if_pos (by decide), if_pos c3, if_pos (ib_n c4 (by omega)), ix_n (by omega)]
            have e : gI (sI μ' 30 cc (nI v)) 0 38 = nI cc := by
              rw [gI_sI, if_neg (by omega), w2, if_neg (by omega)]; exact g6
            simp only [nme, e, y_s]
          rw [w1']
          refine ⟨_, _, _, rfl, rfl, h.uCho ((EqOn.rf.sI (by simp only [perX, pTop, pStr, pBow, pDen, pBou, pWhi, pCho, pPas, pGam, pLas, pMet, pFin, pShe, true_and, and_true, false_and, and_false, true_or, or_true, false_or, or_false, not_true_eq_false, not_false_eq_true] <;> omega)).sI (by simp only [perX, pTop, pStr, pBow, pDen, pBou, pWhi, pCho, pPas, pGam, pLas, pMet, pFin, pShe, true_and, and_true, false_and, and_false, true_or, or_true, false_or, or_false, not_true_eq_false, not_false_eq_true] <;> omega)) ((EqOn.sI (EqOn.sI (y := μ') (fun a k p => ⟨?_, w3 a k, w4 a k⟩) (by simp only [perM, qCs, qTop, qStr, qBow, qDen, qBou, qWhi, qCho, qPas, qGam, qLas, qMet, qFin, qShe, true_and, and_true, false_and, and_false, true_or, or_true, false_or, or_false, not_true_eq_false, not_false_eq_true] <;> omega)) (by simp only [perM, qCs, qTop, qStr, qBow, qDen, qBou, qWhi, qCho, qPas, qGam, qLas, qMet, qFin, qShe, true_and, and_true, false_and, and_false, true_or, or_true, false_or, or_false, not_true_eq_false, not_false_eq_true] <;> omega))) (fun t' ht' hT _ => ⟨r, cc + 1, g1, by omega, ?_, ?_, ?_, ?_, ?_, ?_, ?_, ?_⟩)⟩
          · have p2 := p.2
            simp only [qCho] at p2
            rw [w2, if_neg (by omega)]
          · simp only [gI_sI, if_true, Nat.reduceEqDiff, if_false]; exact g3
          · simp only [gI_sI, if_true, Nat.reduceEqDiff, if_false]
            rw [w2, if_neg (by omega)]; exact g4
          · simp only [gI_sI, if_true]
          · simp only [gI_sI, if_true]
          · intro i hi
            have htt : t' = t := by omega
            subst htt
            obtain ⟨j, j1, j2, j3⟩ := g7 i hi
            refine ⟨j, j1, ?_, ?_⟩
            · simp only [gI_sI, if_true, Nat.reduceEqDiff, if_false]; exact j2
            · simp only [gI_sI, if_true, Nat.reduceEqDiff, if_false]
              rw [w2, if_neg (by omega)]; exact j3
          · intro i hi
            have htt : t' = t := by omega
            subst htt
            by_cases e : i = cc
            · subst e
              refine ⟨v, hv, ?_, ?_⟩
              · simp only [gI_sI, if_true, Nat.reduceEqDiff, if_false]
              · simp only [gI_sI, if_true, Nat.reduceEqDiff, if_false]
            · obtain ⟨j, j1, j2, j3⟩ := g8 i (by omega)
              refine ⟨j, j1, ?_, ?_⟩
              · simp only [gI_sI, if_true, Nat.reduceEqDiff, if_false, if_neg e]; exact j2
              · simp only [gI_sI, if_true, Nat.reduceEqDiff, if_false, if_neg e]
                rw [w2, if_neg (by omega)]; exact j3
          · intro i j hi hj
            rw [gI_sI, if_neg (by omega), gI_sI, if_neg (by omega), gI_sI, if_neg (by omega), gI_sI, if_neg (by omega), w2]
            by_cases e : j = cc
            · subst e
              rw [if_pos (by omega), g10 i j (by omega) (by omega) (by omega)]
              exact ⟨rfl, by decide, by decide⟩
            · rw [if_neg (by omega)]
              exact g9 i j hi (by omega)
          · intro i j hi hj hn
            rw [gI_sI, if_neg (by omega), gI_sI, if_neg (by omega)]
            exact g10 i j hi hj (by omega)
        · simp only [g5, g6, L, E, if_neg c4, if_neg (show ¬ ¬ cc = 4 by omega), bw, bn2, bOw, bOn, nme, b2s, bs, zn10, zn01, ze10, ze00, ze01, ze11, if_true, if_false, not_true_eq_false, not_false_eq_true, l32_0, l32_1, l32_2, l32_3, l32_4, l32_5, l32_7, l32_8, l32_9, l32_12, l32_20, l32_24, l32_25, l32_30, l32_31, l32_35, l32_40, l32_50, l32_60, l32_100, l32_120, l32_200, l32_255, l32_400, l32_m1, l32_m9, l32_m20, l32_m30, l32_m31, l64_0, l64_1, l64_2, l64_3, l64_4, l64_5, l64_7, l64_8, l64_9, l64_12, l64_20, l64_24, l64_25, l64_30, l64_31, l64_35, l64_40, l64_50, l64_60, l64_100, l64_120, l64_200, l64_255, l64_400, l64_m1, l64_m9, l64_m20, l64_m30, l64_m31]
          exact ⟨_, _, _, rfl, rfl, Inv_next h⟩
    · simp only [if_neg c2, bw, bn2, bOw, bOn, nme, b2s, bs, zn10, zn01, ze10, ze00, ze01, ze11, if_true, if_false, not_true_eq_false, not_false_eq_true, l32_0, l32_1, l32_2, l32_3, l32_4, l32_5, l32_7, l32_8, l32_9, l32_12, l32_20, l32_24, l32_25, l32_30, l32_31, l32_35, l32_40, l32_50, l32_60, l32_100, l32_120, l32_200, l32_255, l32_400, l32_m1, l32_m9, l32_m20, l32_m30, l32_m31, l64_0, l64_1, l64_2, l64_3, l64_4, l64_5, l64_7, l64_8, l64_9, l64_12, l64_20, l64_24, l64_25, l64_30, l64_31, l64_35, l64_40, l64_50, l64_60, l64_100, l64_120, l64_200, l64_255, l64_400, l64_m1, l64_m9, l64_m20, l64_m30, l64_m31]
      exact ⟨_, _, _, rfl, rfl, Inv_next h⟩
  · simp only [if_neg c1, bw, bn2, bOw, bOn, nme, b2s, bs, zn10, zn01, ze10, ze00, ze01, ze11, if_true, if_false, not_true_eq_false, not_false_eq_true, l32_0, l32_1, l32_2, l32_3, l32_4, l32_5, l32_7, l32_8, l32_9, l32_12, l32_20, l32_24, l32_25, l32_30, l32_31, l32_35, l32_40, l32_50, l32_60, l32_100, l32_120, l32_200, l32_255, l32_400, l32_m1, l32_m9, l32_m20, l32_m30, l32_m31, l64_0, l64_1, l64_2, l64_3, l64_4, l64_5, l64_7, l64_8, l64_9, l64_12, l64_20, l64_24, l64_25, l64_30, l64_31, l64_35, l64_40, l64_50, l64_60, l64_100, l64_120, l64_200, l64_255, l64_400, l64_m1, l64_m9, l64_m20, l64_m30, l64_m31]
    exact ⟨_, _, _, rfl, rfl, Inv_next h⟩

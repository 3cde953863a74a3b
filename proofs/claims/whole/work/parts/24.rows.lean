theorem bSheet {β : Type} (μ : Mem) (v : Int32) (k : Option Nat → Option β) : Option.bind (f_X_sheetAt μ v) k = if 0 ≤ v.toInt ∧ v.toInt ≤ 3 then k (some (48 + 2 * v.toInt.toNat)) else k none := by
  unfold f_X_sheetAt
  simp only [Int32.lt_iff_toInt_lt, Int32.le_iff_toInt_le, l32_0, l32_4]
  by_cases c1 : v.toInt < 0
  · rw [if_pos c1, if_neg (by omega)]; rfl
  · by_cases c2 : 4 ≤ v.toInt
    · rw [if_neg c1, if_pos c2, if_neg (by omega)]; rfl
    · rw [if_neg c1, if_neg c2, if_pos (ibT (by omega) (by omega)), if_pos (by omega)]
      have e : ∀ i, i < 4 → srX 47 i = 48 + 2 * i := by decide +kernel
      rw [ix_e, e _ (by omega)]; rfl
theorem bIsSheet {β : Type} (v : Int32) (k : Int32 → Option β) : Option.bind (f_M_isSheet v) k = if 0 ≤ v.toInt ∧ v.toInt ≤ 3 then k 1 else k 0 := by
  unfold f_M_isSheet
  rw [bn2]
  simp only [l64_0, l64_3]
  by_cases h1 : 0 ≤ v.toInt ∧ v.toInt ≤ 3
  · rw [if_pos h1, if_pos h1]; rfl
  · rw [if_neg h1, if_neg h1]; rfl
theorem bForm {β : Type} (v : Int32) (k : Int32 → Option β) : Option.bind (f_Sh_isForm v) k = if 0 ≤ v.toInt ∧ v.toInt ≤ 2 then k 1 else k 0 := by
  unfold f_Sh_isForm
  simp only [Int32.lt_iff_toInt_lt, l32_0, l32_2]
  by_cases h1 : v.toInt < 0
  · rw [if_pos h1, if_neg (by omega)]; rfl
  · by_cases h2 : 2 < v.toInt
    · rw [if_neg h1, if_pos h2, if_neg (by omega)]; rfl
    · rw [if_neg h1, if_neg h2, if_pos (by omega)]; rfl
theorem s_clear {c n : Nat} {μ1 μ2 : Mem} (h : Inv c n μ1 μ2) (hc : c < 512) : ∃ (r : Int32) (ν1 : Mem) (ν2 : Mem), f_X_clear μ1 = some (r, ν1) ∧ f_M_clear μ2 = some (r, ν2) ∧ Inv (c + 1) n ν1 ν2 := by
  obtain ⟨t, ht, hCs, hTop, hWr, hStr, hBow, hDen, ⟨p, hp1, hp2, hp3, hp4⟩, ⟨u, hu1, hu2, hu3, hu4⟩, hCho, hPas, hGam, hLas, hMet, hFin, hShe⟩ := id h
  unfold f_X_clear f_M_clear f_Bt_empty
  simp only [nme, bs]
  refine ⟨_, _, _, rfl, by rw [hp2, hp3], ?_⟩
  have ex : EqOn (fun a k => perX a k ∧ ¬ pBou a k ∧ ¬ pWhi a k) μ1 (sI (sI μ1 5 1 0) 5 5 0) := (EqOn.rf.sI (by simp only [perX, pTop, pStr, pBow, pDen, pBou, pWhi, pCho, pPas, pGam, pLas, pMet, pFin, pShe, true_and, and_true, false_and, and_false, true_or, or_true, false_or, or_false, not_true_eq_false, not_false_eq_true] <;> omega)).sI (by simp only [perX, pTop, pStr, pBow, pDen, pBou, pWhi, pCho, pPas, pGam, pLas, pMet, pFin, pShe, true_and, and_true, false_and, and_false, true_or, or_true, false_or, or_false, not_true_eq_false, not_false_eq_true] <;> omega)
  have em : EqOn (fun a k => perM a k ∧ ¬ qBou a k ∧ ¬ qWhi a k) μ2 (sI (sI μ2 0 15 0) 0 21 0) := (EqOn.rf.sI (by simp only [perM, qCs, qTop, qStr, qBow, qDen, qBou, qWhi, qCho, qPas, qGam, qLas, qMet, qFin, qShe, true_and, and_true, false_and, and_false, true_or, or_true, false_or, or_false, not_true_eq_false, not_false_eq_true] <;> omega)).sI (by simp only [perM, qCs, qTop, qStr, qBow, qDen, qBou, qWhi, qCho, qPas, qGam, qLas, qMet, qFin, qShe, true_and, and_true, false_and, and_false, true_or, or_true, false_or, or_false, not_true_eq_false, not_false_eq_true] <;> omega)
  refine ⟨t, ht, hCs.cg ?_, hTop.cg ?_ ?_, hWr.cg ?_, hStr.cg ?_ ?_, hBow.cg ?_ ?_, hDen.cg ?_ ?_, ⟨0, by omega, rfl, rfl, fun k hk => absurd hk (by omega)⟩, ⟨0, by omega, rfl, rfl, fun k hk => absurd hk (by omega)⟩, hCho.cg ?_ ?_, hPas.cg ?_ ?_, hGam.cg ?_ ?_, hLas.cg ?_ ?_, hMet.up.cg ?_ ?_, hFin.cg ?_ ?_, hShe.cg ?_ ?_⟩
  all_goals first
    | exact ex.mono (fun a k p => ⟨by unfold perX; simp only [p, true_or, or_true], by simp only [pTop, pStr, pBow, pDen, pBou, pWhi, pCho, pPas, pGam, pLas, pMet, pFin, pShe] at p ⊢; omega⟩)
    | exact em.mono (fun a k p => ⟨by unfold perM; simp only [p, true_or, or_true], by simp only [qCs, qTop, qStr, qBow, qDen, qBou, qWhi, qCho, qPas, qGam, qLas, qMet, qFin, qShe] at p ⊢; omega⟩)
theorem s_whip {c n : Nat} {μ1 μ2 : Mem} (h : Inv c n μ1 μ2) (hc : c < 512) (a1 : Int32) (a2 : Int32) (a3 : Int32) : ∃ (r : Int32) (ν1 : Mem) (ν2 : Mem), f_X_whip μ1 a1 a2 a3 = some (r, ν1) ∧ f_M_whip μ2 a1 a2 a3 = some (r, ν2) ∧ Inv (c + 1) n ν1 ν2 := by
  obtain ⟨t, ht, hCs, hTop, hWr, hStr, hBow, hDen, hBou, ⟨u, hu1, hu2, hu3, hu4⟩, hr⟩ := id h
  unfold f_X_whip f_X_whip_b24 f_X_whip_b25 f_M_whip
  simp only [bw, bn2, bOw, bOn, nme, b2s, bs, zn10, zn01, ze10, ze00, ze01, ze11, if_true, if_false, not_true_eq_false, not_false_eq_true, l32_0, l32_1, l32_2, l32_3, l32_4, l32_5, l32_7, l32_8, l32_9, l32_12, l32_20, l32_24, l32_25, l32_30, l32_31, l32_35, l32_40, l32_50, l32_60, l32_100, l32_120, l32_200, l32_255, l32_400, l32_m1, l32_m9, l32_m20, l32_m30, l32_m31, l64_0, l64_1, l64_2, l64_3, l64_4, l64_5, l64_7, l64_8, l64_9, l64_12, l64_20, l64_24, l64_25, l64_30, l64_31, l64_35, l64_40, l64_50, l64_60, l64_100, l64_120, l64_200, l64_255, l64_400, l64_m1, l64_m9, l64_m20, l64_m30, l64_m31]
  by_cases c1 : 0 ≤ a1.toInt ∧ a1.toInt ≤ 3
  · by_cases c2 : 1 ≤ a2.toInt ∧ a2.toInt ≤ 400
    · by_cases c3 : 1 ≤ a3.toInt ∧ a3.toInt ≤ 100
      · simp only [if_pos c1, if_pos c2, if_pos c3]
        unfold f_Bt_addWhip
        have L : (nI u < (8 : Int32)) = (u < 8) := y_lt (b := 8) (by omega) (by decide)
        have E : (nI u = (8 : Int32)) = (u = 8) := y_eq (b := 8) (by omega) (by decide)
        by_cases c4 : u < 8
        · simp only [hu2, hu3, L, E, if_pos c4, if_pos (show ¬ u = 8 by omega), ib_n c4 (by omega), ix_n (show u < 2147483648 by omega), gI_sI, Nat.reduceEqDiff, y_s, bw, bn2, bOw, bOn, nme, b2s, bs, zn10, zn01, ze10, ze00, ze01, ze11, if_true, if_false, not_true_eq_false, not_false_eq_true, l32_0, l32_1, l32_2, l32_3, l32_4, l32_5, l32_7, l32_8, l32_9, l32_12, l32_20, l32_24, l32_25, l32_30, l32_31, l32_35, l32_40, l32_50, l32_60, l32_100, l32_120, l32_200, l32_255, l32_400, l32_m1, l32_m9, l32_m20, l32_m30, l32_m31, l64_0, l64_1, l64_2, l64_3, l64_4, l64_5, l64_7, l64_8, l64_9, l64_12, l64_20, l64_24, l64_25, l64_30, l64_31, l64_35, l64_40, l64_50, l64_60, l64_100, l64_120, l64_200, l64_255, l64_400, l64_m1, l64_m9, l64_m20, l64_m30, l64_m31]
          refine ⟨_, _, _, rfl, rfl, h.uWhi ((((EqOn.rf.sI (by simp only [perX, pTop, pStr, pBow, pDen, pBou, pWhi, pCho, pPas, pGam, pLas, pMet, pFin, pShe, true_and, and_true, false_and, and_false, true_or, or_true, false_or, or_false, not_true_eq_false, not_false_eq_true] <;> omega)).sI (by simp only [perX, pTop, pStr, pBow, pDen, pBou, pWhi, pCho, pPas, pGam, pLas, pMet, pFin, pShe, true_and, and_true, false_and, and_false, true_or, or_true, false_or, or_false, not_true_eq_false, not_false_eq_true] <;> omega)).sI (by simp only [perX, pTop, pStr, pBow, pDen, pBou, pWhi, pCho, pPas, pGam, pLas, pMet, pFin, pShe, true_and, and_true, false_and, and_false, true_or, or_true, false_or, or_false, not_true_eq_false, not_false_eq_true] <;> omega)).sI (by simp only [perX, pTop, pStr, pBow, pDen, pBou, pWhi, pCho, pPas, pGam, pLas, pMet, pFin, pShe, true_and, and_true, false_and, and_false, true_or, or_true, false_or, or_false, not_true_eq_false, not_false_eq_true] <;> omega)) ((((EqOn.rf.sI (by simp only [perM, qCs, qTop, qStr, qBow, qDen, qBou, qWhi, qCho, qPas, qGam, qLas, qMet, qFin, qShe, true_and, and_true, false_and, and_false, true_or, or_true, false_or, or_false, not_true_eq_false, not_false_eq_true] <;> omega)).sI (by simp only [perM, qCs, qTop, qStr, qBow, qDen, qBou, qWhi, qCho, qPas, qGam, qLas, qMet, qFin, qShe, true_and, and_true, false_and, and_false, true_or, or_true, false_or, or_false, not_true_eq_false, not_false_eq_true] <;> omega)).sI (by simp only [perM, qCs, qTop, qStr, qBow, qDen, qBou, qWhi, qCho, qPas, qGam, qLas, qMet, qFin, qShe, true_and, and_true, false_and, and_false, true_or, or_true, false_or, or_false, not_true_eq_false, not_false_eq_true] <;> omega)).sI (by simp only [perM, qCs, qTop, qStr, qBow, qDen, qBou, qWhi, qCho, qPas, qGam, qLas, qMet, qFin, qShe, true_and, and_true, false_and, and_false, true_or, or_true, false_or, or_false, not_true_eq_false, not_false_eq_true] <;> omega)) (fun _ _ _ _ => ⟨u + 1, by omega, by simp only [gI_sI, if_true], by simp only [gI_sI, if_true], fun k hk => ?_⟩)⟩
          by_cases e : k = u
          · subst e
            simp only [gI_sI, if_true, Nat.reduceEqDiff, if_false, true_and]
            exact ⟨c1, c2, c3⟩
          · simp only [gI_sI, if_true, Nat.reduceEqDiff, if_false, if_neg e]
            exact hu4 k (by omega)
        · simp only [hu2, hu3, L, E, if_neg c4, if_neg (show ¬ ¬ u = 8 by omega), bw, bn2, bOw, bOn, nme, b2s, bs, zn10, zn01, ze10, ze00, ze01, ze11, if_true, if_false, not_true_eq_false, not_false_eq_true, l32_0, l32_1, l32_2, l32_3, l32_4, l32_5, l32_7, l32_8, l32_9, l32_12, l32_20, l32_24, l32_25, l32_30, l32_31, l32_35, l32_40, l32_50, l32_60, l32_100, l32_120, l32_200, l32_255, l32_400, l32_m1, l32_m9, l32_m20, l32_m30, l32_m31, l64_0, l64_1, l64_2, l64_3, l64_4, l64_5, l64_7, l64_8, l64_9, l64_12, l64_20, l64_24, l64_25, l64_30, l64_31, l64_35, l64_40, l64_50, l64_60, l64_100, l64_120, l64_200, l64_255, l64_400, l64_m1, l64_m9, l64_m20, l64_m30, l64_m31]
          exact ⟨_, _, _, rfl, rfl, Inv_next h⟩
      · simp only [if_pos c1, if_pos c2, if_neg c3]
        exact ⟨_, _, _, rfl, rfl, Inv_next h⟩
    · simp only [if_pos c1, if_neg c2]
      exact ⟨_, _, _, rfl, rfl, Inv_next h⟩
  · simp only [if_neg c1]
    exact ⟨_, _, _, rfl, rfl, Inv_next h⟩
theorem s_type {c n : Nat} {μ1 μ2 : Mem} (h : Inv c n μ1 μ2) (hc : c < 512) (a1 : Int32) : ∃ (r : Int32) (ν1 : Mem) (ν2 : Mem), f_X_type μ1 a1 = some (r, ν1) ∧ f_M_type μ2 a1 = some (r, ν2) ∧ Inv (c + 1) n ν1 ν2 := by
  obtain ⟨t, ht, hCs, hTop, hWr, hStr, hBow, hDen, hBou, hWhi, hCho, hPas, ⟨u, hu1, hu2, hu3, hu4⟩, hr⟩ := id h
  unfold f_X_type f_M_type
  simp only [bw, bn2, bOw, bOn, nme, b2s, bs, zn10, zn01, ze10, ze00, ze01, ze11, if_true, if_false, not_true_eq_false, not_false_eq_true, l32_0, l32_1, l32_2, l32_3, l32_4, l32_5, l32_7, l32_8, l32_9, l32_12, l32_20, l32_24, l32_25, l32_30, l32_31, l32_35, l32_40, l32_50, l32_60, l32_100, l32_120, l32_200, l32_255, l32_400, l32_m1, l32_m9, l32_m20, l32_m30, l32_m31, l64_0, l64_1, l64_2, l64_3, l64_4, l64_5, l64_7, l64_8, l64_9, l64_12, l64_20, l64_24, l64_25, l64_30, l64_31, l64_35, l64_40, l64_50, l64_60, l64_100, l64_120, l64_200, l64_255, l64_400, l64_m1, l64_m9, l64_m20, l64_m30, l64_m31]
  by_cases c1 : 0 ≤ a1.toInt ∧ a1.toInt ≤ 255
  · simp only [if_pos c1]
    unfold f_Ga_append
    have L : (nI u < (40 : Int32)) = (u < 40) := y_lt (b := 40) (by omega) (by decide)
    have E : (nI u = (40 : Int32)) = (u = 40) := y_eq (b := 40) (by omega) (by decide)
    by_cases c4 : u < 40
    · simp only [hu2, hu3, L, E, if_pos c4, if_pos (show ¬ u = 40 by omega), ib_n c4 (by omega), ix_n (show u < 2147483648 by omega), gI_sI, Nat.reduceEqDiff, y_s, bw, bn2, bOw, bOn, nme, b2s, bs, zn10, zn01, ze10, ze00, ze01, ze11, if_true, if_false, not_true_eq_false, not_false_eq_true, l32_0, l32_1, l32_2, l32_3, l32_4, l32_5, l32_7, l32_8, l32_9, l32_12, l32_20, l32_24, l32_25, l32_30, l32_31, l32_35, l32_40, l32_50, l32_60, l32_100, l32_120, l32_200, l32_255, l32_400, l32_m1, l32_m9, l32_m20, l32_m30, l32_m31, l64_0, l64_1, l64_2, l64_3, l64_4, l64_5, l64_7, l64_8, l64_9, l64_12, l64_20, l64_24, l64_25, l64_30, l64_31, l64_35, l64_40, l64_50, l64_60, l64_100, l64_120, l64_200, l64_255, l64_400, l64_m1, l64_m9, l64_m20, l64_m30, l64_m31]
      refine ⟨_, _, _, rfl, rfl, h.uGam ((EqOn.rf.sI (by simp only [perX, pTop, pStr, pBow, pDen, pBou, pWhi, pCho, pPas, pGam, pLas, pMet, pFin, pShe, true_and, and_true, false_and, and_false, true_or, or_true, false_or, or_false, not_true_eq_false, not_false_eq_true] <;> omega)).sI (by simp only [perX, pTop, pStr, pBow, pDen, pBou, pWhi, pCho, pPas, pGam, pLas, pMet, pFin, pShe, true_and, and_true, false_and, and_false, true_or, or_true, false_or, or_false, not_true_eq_false, not_false_eq_true] <;> omega)) ((EqOn.rf.sI (by simp only [perM, qCs, qTop, qStr, qBow, qDen, qBou, qWhi, qCho, qPas, qGam, qLas, qMet, qFin, qShe, true_and, and_true, false_and, and_false, true_or, or_true, false_or, or_false, not_true_eq_false, not_false_eq_true] <;> omega)).sI (by simp only [perM, qCs, qTop, qStr, qBow, qDen, qBou, qWhi, qCho, qPas, qGam, qLas, qMet, qFin, qShe, true_and, and_true, false_and, and_false, true_or, or_true, false_or, or_false, not_true_eq_false, not_false_eq_true] <;> omega)) (fun _ _ _ _ => ⟨u + 1, by omega, by simp only [gI_sI, if_true], by simp only [gI_sI, if_true], fun k hk => ?_⟩)⟩
      by_cases e : k = u
      · subst e
        simp only [gI_sI, if_true, Nat.reduceEqDiff, if_false, true_and]
        exact c1
      · simp only [gI_sI, if_true, Nat.reduceEqDiff, if_false, if_neg e]
        exact hu4 k (by omega)
    · simp only [hu2, hu3, L, E, if_neg c4, if_neg (show ¬ ¬ u = 40 by omega), bw, bn2, bOw, bOn, nme, b2s, bs, zn10, zn01, ze10, ze00, ze01, ze11, if_true, if_false, not_true_eq_false, not_false_eq_true, l32_0, l32_1, l32_2, l32_3, l32_4, l32_5, l32_7, l32_8, l32_9, l32_12, l32_20, l32_24, l32_25, l32_30, l32_31, l32_35, l32_40, l32_50, l32_60, l32_100, l32_120, l32_200, l32_255, l32_400, l32_m1, l32_m9, l32_m20, l32_m30, l32_m31, l64_0, l64_1, l64_2, l64_3, l64_4, l64_5, l64_7, l64_8, l64_9, l64_12, l64_20, l64_24, l64_25, l64_30, l64_31, l64_35, l64_40, l64_50, l64_60, l64_100, l64_120, l64_200, l64_255, l64_400, l64_m1, l64_m9, l64_m20, l64_m30, l64_m31]
      exact ⟨_, _, _, rfl, rfl, Inv_next h⟩
  · simp only [if_neg c1]
    exact ⟨_, _, _, rfl, rfl, Inv_next h⟩
theorem s_was {c n : Nat} {μ1 μ2 : Mem} (h : Inv c n μ1 μ2) (hc : c < 512) (a1 : Int32) (a2 : Int32) (a3 : Int32) : ∃ (r : Int32) (ν1 : Mem) (ν2 : Mem), f_X_was μ1 a1 a2 a3 = some (r, ν1) ∧ f_M_was μ2 a1 a2 a3 = some (r, ν2) ∧ Inv (c + 1) n ν1 ν2 := by
  obtain ⟨t, ht, hCs, hTop, hWr, hStr, hBow, hDen, hBou, hWhi, hCho, ⟨u, hu1, hu2, hu3, hu4⟩, hr⟩ := id h
  have h40 := hTop.1
  unfold f_X_was f_M_was f_X_mayBeRow
  rw [bTw hTop, bTn hTop]
  by_cases c1 : 0 ≤ a1.toInt ∧ a1.toInt < (t : Int)
  · simp only [if_pos c1, bTw hTop, bTn hTop, bw, bn2, bOw, bOn, nme, b2s, bs, zn10, zn01, ze10, ze00, ze01, ze11, if_true, if_false, not_true_eq_false, not_false_eq_true, l32_0, l32_1, l32_2, l32_3, l32_4, l32_5, l32_7, l32_8, l32_9, l32_12, l32_20, l32_24, l32_25, l32_30, l32_31, l32_35, l32_40, l32_50, l32_60, l32_100, l32_120, l32_200, l32_255, l32_400, l32_m1, l32_m9, l32_m20, l32_m30, l32_m31, l64_0, l64_1, l64_2, l64_3, l64_4, l64_5, l64_7, l64_8, l64_9, l64_12, l64_20, l64_24, l64_25, l64_30, l64_31, l64_35, l64_40, l64_50, l64_60, l64_100, l64_120, l64_200, l64_255, l64_400, l64_m1, l64_m9, l64_m20, l64_m30, l64_m31]
    by_cases c2 : 0 ≤ a2.toInt ∧ a2.toInt < (t : Int)
    · simp only [if_pos c2, bw, bn2, bOw, bOn, nme, b2s, bs, zn10, zn01, ze10, ze00, ze01, ze11, if_true, if_false, not_true_eq_false, not_false_eq_true, l32_0, l32_1, l32_2, l32_3, l32_4, l32_5, l32_7, l32_8, l32_9, l32_12, l32_20, l32_24, l32_25, l32_30, l32_31, l32_35, l32_40, l32_50, l32_60, l32_100, l32_120, l32_200, l32_255, l32_400, l32_m1, l32_m9, l32_m20, l32_m30, l32_m31, l64_0, l64_1, l64_2, l64_3, l64_4, l64_5, l64_7, l64_8, l64_9, l64_12, l64_20, l64_24, l64_25, l64_30, l64_31, l64_35, l64_40, l64_50, l64_60, l64_100, l64_120, l64_200, l64_255, l64_400, l64_m1, l64_m9, l64_m20, l64_m30, l64_m31]
      by_cases c3 : a1 = a2
      · simp only [c3, bw, bn2, bOw, bOn, nme, b2s, bs, zn10, zn01, ze10, ze00, ze01, ze11, if_true, if_false, not_true_eq_false, not_false_eq_true, l32_0, l32_1, l32_2, l32_3, l32_4, l32_5, l32_7, l32_8, l32_9, l32_12, l32_20, l32_24, l32_25, l32_30, l32_31, l32_35, l32_40, l32_50, l32_60, l32_100, l32_120, l32_200, l32_255, l32_400, l32_m1, l32_m9, l32_m20, l32_m30, l32_m31, l64_0, l64_1, l64_2, l64_3, l64_4, l64_5, l64_7, l64_8, l64_9, l64_12, l64_20, l64_24, l64_25, l64_30, l64_31, l64_35, l64_40, l64_50, l64_60, l64_100, l64_120, l64_200, l64_255, l64_400, l64_m1, l64_m9, l64_m20, l64_m30, l64_m31]
        exact ⟨_, _, _, rfl, rfl, Inv_next h⟩
      · simp only [c3, bw, bn2, bOw, bOn, nme, b2s, bs, zn10, zn01, ze10, ze00, ze01, ze11, if_true, if_false, not_true_eq_false, not_false_eq_true, l32_0, l32_1, l32_2, l32_3, l32_4, l32_5, l32_7, l32_8, l32_9, l32_12, l32_20, l32_24, l32_25, l32_30, l32_31, l32_35, l32_40, l32_50, l32_60, l32_100, l32_120, l32_200, l32_255, l32_400, l32_m1, l32_m9, l32_m20, l32_m30, l32_m31, l64_0, l64_1, l64_2, l64_3, l64_4, l64_5, l64_7, l64_8, l64_9, l64_12, l64_20, l64_24, l64_25, l64_30, l64_31, l64_35, l64_40, l64_50, l64_60, l64_100, l64_120, l64_200, l64_255, l64_400, l64_m1, l64_m9, l64_m20, l64_m30, l64_m31]
        by_cases c4 : -1 ≤ a3.toInt ∧ a3.toInt ≤ 2
        · simp only [if_pos c4, bw, bn2, bOw, bOn, nme, b2s, bs, zn10, zn01, ze10, ze00, ze01, ze11, if_true, if_false, not_true_eq_false, not_false_eq_true, l32_0, l32_1, l32_2, l32_3, l32_4, l32_5, l32_7, l32_8, l32_9, l32_12, l32_20, l32_24, l32_25, l32_30, l32_31, l32_35, l32_40, l32_50, l32_60, l32_100, l32_120, l32_200, l32_255, l32_400, l32_m1, l32_m9, l32_m20, l32_m30, l32_m31, l64_0, l64_1, l64_2, l64_3, l64_4, l64_5, l64_7, l64_8, l64_9, l64_12, l64_20, l64_24, l64_25, l64_30, l64_31, l64_35, l64_40, l64_50, l64_60, l64_100, l64_120, l64_200, l64_255, l64_400, l64_m1, l64_m9, l64_m20, l64_m30, l64_m31]
          unfold f_Pa_add
          have L : (nI u < (40 : Int32)) = (u < 40) := y_lt (b := 40) (by omega) (by decide)
          have E : (nI u = (40 : Int32)) = (u = 40) := y_eq (b := 40) (by omega) (by decide)
          by_cases c5 : u < 40
          · simp only [hu2, hu3, L, E, if_pos c5, if_pos (show ¬ u = 40 by omega), ib_n c5 (by omega), ix_n (show u < 2147483648 by omega), gI_sI, Nat.reduceEqDiff, y_s, bw, bn2, bOw, bOn, nme, b2s, bs, zn10, zn01, ze10, ze00, ze01, ze11, if_true, if_false, not_true_eq_false, not_false_eq_true, l32_0, l32_1, l32_2, l32_3, l32_4, l32_5, l32_7, l32_8, l32_9, l32_12, l32_20, l32_24, l32_25, l32_30, l32_31, l32_35, l32_40, l32_50, l32_60, l32_100, l32_120, l32_200, l32_255, l32_400, l32_m1, l32_m9, l32_m20, l32_m30, l32_m31, l64_0, l64_1, l64_2, l64_3, l64_4, l64_5, l64_7, l64_8, l64_9, l64_12, l64_20, l64_24, l64_25, l64_30, l64_31, l64_35, l64_40, l64_50, l64_60, l64_100, l64_120, l64_200, l64_255, l64_400, l64_m1, l64_m9, l64_m20, l64_m30, l64_m31]
            refine ⟨_, _, _, rfl, rfl, h.uPas ((((EqOn.rf.sI (by simp only [perX, pTop, pStr, pBow, pDen, pBou, pWhi, pCho, pPas, pGam, pLas, pMet, pFin, pShe, true_and, and_true, false_and, and_false, true_or, or_true, false_or, or_false, not_true_eq_false, not_false_eq_true] <;> omega)).sI (by simp only [perX, pTop, pStr, pBow, pDen, pBou, pWhi, pCho, pPas, pGam, pLas, pMet, pFin, pShe, true_and, and_true, false_and, and_false, true_or, or_true, false_or, or_false, not_true_eq_false, not_false_eq_true] <;> omega)).sI (by simp only [perX, pTop, pStr, pBow, pDen, pBou, pWhi, pCho, pPas, pGam, pLas, pMet, pFin, pShe, true_and, and_true, false_and, and_false, true_or, or_true, false_or, or_false, not_true_eq_false, not_false_eq_true] <;> omega)).sI (by simp only [perX, pTop, pStr, pBow, pDen, pBou, pWhi, pCho, pPas, pGam, pLas, pMet, pFin, pShe, true_and, and_true, false_and, and_false, true_or, or_true, false_or, or_false, not_true_eq_false, not_false_eq_true] <;> omega)) ((((EqOn.rf.sI (by simp only [perM, qCs, qTop, qStr, qBow, qDen, qBou, qWhi, qCho, qPas, qGam, qLas, qMet, qFin, qShe, true_and, and_true, false_and, and_false, true_or, or_true, false_or, or_false, not_true_eq_false, not_false_eq_true] <;> omega)).sI (by simp only [perM, qCs, qTop, qStr, qBow, qDen, qBou, qWhi, qCho, qPas, qGam, qLas, qMet, qFin, qShe, true_and, and_true, false_and, and_false, true_or, or_true, false_or, or_false, not_true_eq_false, not_false_eq_true] <;> omega)).sI (by simp only [perM, qCs, qTop, qStr, qBow, qDen, qBou, qWhi, qCho, qPas, qGam, qLas, qMet, qFin, qShe, true_and, and_true, false_and, and_false, true_or, or_true, false_or, or_false, not_true_eq_false, not_false_eq_true] <;> omega)).sI (by simp only [perM, qCs, qTop, qStr, qBow, qDen, qBou, qWhi, qCho, qPas, qGam, qLas, qMet, qFin, qShe, true_and, and_true, false_and, and_false, true_or, or_true, false_or, or_false, not_true_eq_false, not_false_eq_true] <;> omega)) (fun t' ht' _ _ => ⟨u + 1, by omega, by simp only [gI_sI, if_true], by simp only [gI_sI, if_true], fun k hk => ?_⟩)⟩
            have htt : t' = t := by omega
            subst htt
            by_cases e : k = u
            · subst e
              obtain ⟨i, hi, rfl⟩ := toN c1.1 c1.2
              obtain ⟨j, hj, rfl⟩ := toN c2.1 c2.2
              refine ⟨i, j, hi, hj, fun q => c3 (by rw [q]), ?_, ?_, ?_, ?_, ?_, ?_⟩
              · simp only [gI_sI, if_true, Nat.reduceEqDiff, if_false]
              · simp only [gI_sI, if_true, Nat.reduceEqDiff, if_false]
              · simp only [gI_sI, if_true, Nat.reduceEqDiff, if_false]
              · simp only [gI_sI, if_true, Nat.reduceEqDiff, if_false]
              · simp only [gI_sI, if_true, Nat.reduceEqDiff, if_false]
              · simp only [gI_sI, if_true, Nat.reduceEqDiff, if_false]; exact c4
            · simp only [gI_sI, if_true, Nat.reduceEqDiff, if_false, if_neg e]
              exact hu4 k (by omega)
          · simp only [hu2, hu3, L, E, if_neg c5, if_neg (show ¬ ¬ u = 40 by omega), bw, bn2, bOw, bOn, nme, b2s, bs, zn10, zn01, ze10, ze00, ze01, ze11, if_true, if_false, not_true_eq_false, not_false_eq_true, l32_0, l32_1, l32_2, l32_3, l32_4, l32_5, l32_7, l32_8, l32_9, l32_12, l32_20, l32_24, l32_25, l32_30, l32_31, l32_35, l32_40, l32_50, l32_60, l32_100, l32_120, l32_200, l32_255, l32_400, l32_m1, l32_m9, l32_m20, l32_m30, l32_m31, l64_0, l64_1, l64_2, l64_3, l64_4, l64_5, l64_7, l64_8, l64_9, l64_12, l64_20, l64_24, l64_25, l64_30, l64_31, l64_35, l64_40, l64_50, l64_60, l64_100, l64_120, l64_200, l64_255, l64_400, l64_m1, l64_m9, l64_m20, l64_m30, l64_m31]
            exact ⟨_, _, _, rfl, rfl, Inv_next h⟩
        · simp only [if_neg c4, bw, bn2, bOw, bOn, nme, b2s, bs, zn10, zn01, ze10, ze00, ze01, ze11, if_true, if_false, not_true_eq_false, not_false_eq_true, l32_0, l32_1, l32_2, l32_3, l32_4, l32_5, l32_7, l32_8, l32_9, l32_12, l32_20, l32_24, l32_25, l32_30, l32_31, l32_35, l32_40, l32_50, l32_60, l32_100, l32_120, l32_200, l32_255, l32_400, l32_m1, l32_m9, l32_m20, l32_m30, l32_m31, l64_0, l64_1, l64_2, l64_3, l64_4, l64_5, l64_7, l64_8, l64_9, l64_12, l64_20, l64_24, l64_25, l64_30, l64_31, l64_35, l64_40, l64_50, l64_60, l64_100, l64_120, l64_200, l64_255, l64_400, l64_m1, l64_m9, l64_m20, l64_m30, l64_m31]
          exact ⟨_, _, _, rfl, rfl, Inv_next h⟩
    · simp only [if_neg c2, bw, bn2, bOw, bOn, nme, b2s, bs, zn10, zn01, ze10, ze00, ze01, ze11, if_true, if_false, not_true_eq_false, not_false_eq_true, l32_0, l32_1, l32_2, l32_3, l32_4, l32_5, l32_7, l32_8, l32_9, l32_12, l32_20, l32_24, l32_25, l32_30, l32_31, l32_35, l32_40, l32_50, l32_60, l32_100, l32_120, l32_200, l32_255, l32_400, l32_m1, l32_m9, l32_m20, l32_m30, l32_m31, l64_0, l64_1, l64_2, l64_3, l64_4, l64_5, l64_7, l64_8, l64_9, l64_12, l64_20, l64_24, l64_25, l64_30, l64_31, l64_35, l64_40, l64_50, l64_60, l64_100, l64_120, l64_200, l64_255, l64_400, l64_m1, l64_m9, l64_m20, l64_m30, l64_m31]
      exact ⟨_, _, _, rfl, rfl, Inv_next h⟩
  · simp only [if_neg c1, bw, bn2, bOw, bOn, nme, b2s, bs, zn10, zn01, ze10, ze00, ze01, ze11, if_true, if_false, not_true_eq_false, not_false_eq_true, l32_0, l32_1, l32_2, l32_3, l32_4, l32_5, l32_7, l32_8, l32_9, l32_12, l32_20, l32_24, l32_25, l32_30, l32_31, l32_35, l32_40, l32_50, l32_60, l32_100, l32_120, l32_200, l32_255, l32_400, l32_m1, l32_m9, l32_m20, l32_m30, l32_m31, l64_0, l64_1, l64_2, l64_3, l64_4, l64_5, l64_7, l64_8, l64_9, l64_12, l64_20, l64_24, l64_25, l64_30, l64_31, l64_35, l64_40, l64_50, l64_60, l64_100, l64_120, l64_200, l64_255, l64_400, l64_m1, l64_m9, l64_m20, l64_m30, l64_m31]
    exact ⟨_, _, _, rfl, rfl, Inv_next h⟩

theorem l32_0 : (0 : Int32).toInt = 0 := by decide
theorem l32_1 : (1 : Int32).toInt = 1 := by decide
theorem l32_2 : (2 : Int32).toInt = 2 := by decide
theorem l32_3 : (3 : Int32).toInt = 3 := by decide
theorem l32_4 : (4 : Int32).toInt = 4 := by decide
theorem l32_5 : (5 : Int32).toInt = 5 := by decide
theorem l32_7 : (7 : Int32).toInt = 7 := by decide
theorem l32_8 : (8 : Int32).toInt = 8 := by decide
theorem l32_9 : (9 : Int32).toInt = 9 := by decide
theorem l32_12 : (12 : Int32).toInt = 12 := by decide
theorem l32_20 : (20 : Int32).toInt = 20 := by decide
theorem l32_24 : (24 : Int32).toInt = 24 := by decide
theorem l32_25 : (25 : Int32).toInt = 25 := by decide
theorem l32_30 : (30 : Int32).toInt = 30 := by decide
theorem l32_31 : (31 : Int32).toInt = 31 := by decide
theorem l32_35 : (35 : Int32).toInt = 35 := by decide
theorem l32_40 : (40 : Int32).toInt = 40 := by decide
theorem l32_50 : (50 : Int32).toInt = 50 := by decide
theorem l32_60 : (60 : Int32).toInt = 60 := by decide
theorem l32_100 : (100 : Int32).toInt = 100 := by decide
theorem l32_120 : (120 : Int32).toInt = 120 := by decide
theorem l32_200 : (200 : Int32).toInt = 200 := by decide
theorem l32_255 : (255 : Int32).toInt = 255 := by decide
theorem l32_400 : (400 : Int32).toInt = 400 := by decide
theorem l32_m1 : (-1 : Int32).toInt = -1 := by decide
theorem l32_m9 : (-9 : Int32).toInt = -9 := by decide
theorem l32_m20 : (-20 : Int32).toInt = -20 := by decide
theorem l32_m30 : (-30 : Int32).toInt = -30 := by decide
theorem l32_m31 : (-31 : Int32).toInt = -31 := by decide
theorem l64_0 : (0 : Int64).toInt = 0 := by decide
theorem l64_1 : (1 : Int64).toInt = 1 := by decide
theorem l64_2 : (2 : Int64).toInt = 2 := by decide
theorem l64_3 : (3 : Int64).toInt = 3 := by decide
theorem l64_4 : (4 : Int64).toInt = 4 := by decide
theorem l64_5 : (5 : Int64).toInt = 5 := by decide
theorem l64_7 : (7 : Int64).toInt = 7 := by decide
theorem l64_8 : (8 : Int64).toInt = 8 := by decide
theorem l64_9 : (9 : Int64).toInt = 9 := by decide
theorem l64_12 : (12 : Int64).toInt = 12 := by decide
theorem l64_20 : (20 : Int64).toInt = 20 := by decide
theorem l64_24 : (24 : Int64).toInt = 24 := by decide
theorem l64_25 : (25 : Int64).toInt = 25 := by decide
theorem l64_30 : (30 : Int64).toInt = 30 := by decide
theorem l64_31 : (31 : Int64).toInt = 31 := by decide
theorem l64_35 : (35 : Int64).toInt = 35 := by decide
theorem l64_40 : (40 : Int64).toInt = 40 := by decide
theorem l64_50 : (50 : Int64).toInt = 50 := by decide
theorem l64_60 : (60 : Int64).toInt = 60 := by decide
theorem l64_100 : (100 : Int64).toInt = 100 := by decide
theorem l64_120 : (120 : Int64).toInt = 120 := by decide
theorem l64_200 : (200 : Int64).toInt = 200 := by decide
theorem l64_255 : (255 : Int64).toInt = 255 := by decide
theorem l64_400 : (400 : Int64).toInt = 400 := by decide
theorem l64_m1 : (-1 : Int64).toInt = -1 := by decide
theorem l64_m9 : (-9 : Int64).toInt = -9 := by decide
theorem l64_m20 : (-20 : Int64).toInt = -20 := by decide
theorem l64_m30 : (-30 : Int64).toInt = -30 := by decide
theorem l64_m31 : (-31 : Int64).toInt = -31 := by decide
theorem lx_along : ∀ k, k < 36 → f_Hd_alongX (fun _ _ => 0, fun _ _ => 0, fun _ _ => none) (nI k) = some (csT.getD k 0) := by decide +kernel
theorem ly_along : ∀ k, k < 36 → f_Hd_alongY (fun _ _ => 0, fun _ _ => 0, fun _ _ => none) (nI k) = some (csT.getD ((k + 27) % 36) 0) := by decide +kernel
theorem alongX_e {k : Nat} (μ : Mem) (h : k < 36) : f_Hd_alongX μ (nI k) = some (csT.getD k 0) := lx_along k h
theorem alongY_e {k : Nat} (μ : Mem) (h : k < 36) : f_Hd_alongY μ (nI k) = some (csT.getD ((k + 27) % 36) 0) := ly_along k h
theorem lc_r : ∀ k, k < 36 → ib (nI k - nI k / 36 * 36) 36 = true ∧ ix (nI k - nI k / 36 * 36) = k := by decide +kernel
theorem ls_r : ∀ k, k < 36 → ib ((nI k + 27) - (nI k + 27) / 36 * 36) 36 = true ∧ ix ((nI k + 27) - (nI k + 27) / 36 * 36) = (k + 27) % 36 := by decide +kernel
theorem c_e {k : Nat} {m : Mem} (hm : iCs m) (h : k < 36) : f_M_c m (nI k) = some (csT.getD k 0) := by
  unfold f_M_c
  rw [if_pos (lc_r k h).1, (lc_r k h).2, hm k h]
theorem s_e {k : Nat} {m : Mem} (hm : iCs m) (h : k < 36) : f_M_s m (nI k) = some (csT.getD ((k + 27) % 36) 0) := by
  unfold f_M_s
  rw [if_pos (ls_r k h).1, (ls_r k h).2, hm _ (Nat.mod_lt _ (by omega))]
theorem s_turn {c n : Nat} {μ1 μ2 : Mem} (h : Inv c n μ1 μ2) (hc : c < 512) (a1 : Int32) (a2 : Int32) : ∃ (r : Int32), f_X_turn μ1 a1 a2 = some r ∧ f_M_turn μ2 a1 a2 = some r ∧ Inv (c + 1) n μ1 μ2 := by
  obtain ⟨t, ht, hCs, hTop, hr⟩ := id h
  unfold f_X_turn f_M_turn
  simp only [bw, bn2, bOw, bOn, nme, b2s, bs, zn10, zn01, ze10, ze00, ze01, ze11, if_true, if_false, not_true_eq_false, not_false_eq_true, l32_0, l32_1, l32_2, l32_3, l32_4, l32_5, l32_7, l32_8, l32_9, l32_12, l32_20, l32_24, l32_25, l32_30, l32_31, l32_35, l32_40, l32_50, l32_60, l32_100, l32_120, l32_200, l32_255, l32_400, l32_m1, l32_m9, l32_m20, l32_m30, l32_m31, l64_0, l64_1, l64_2, l64_3, l64_4, l64_5, l64_7, l64_8, l64_9, l64_12, l64_20, l64_24, l64_25, l64_30, l64_31, l64_35, l64_40, l64_50, l64_60, l64_100, l64_120, l64_200, l64_255, l64_400, l64_m1, l64_m9, l64_m20, l64_m30, l64_m31]
  by_cases c1 : 0 ≤ a1.toInt ∧ a1.toInt ≤ 35
  · obtain ⟨k, hk, rfl⟩ := toN (n := 36) c1.1 (by omega)
    simp only [if_pos c1]
    by_cases c2 : 0 ≤ a2.toInt ∧ a2.toInt ≤ 1
    · simp only [if_pos c2]
      by_cases c3 : a2 = 0
      · simp only [c3, bw, bn2, bOw, bOn, nme, b2s, bs, zn10, zn01, ze10, ze00, ze01, ze11, if_true, if_false, not_true_eq_false, not_false_eq_true, l32_0, l32_1, l32_2, l32_3, l32_4, l32_5, l32_7, l32_8, l32_9, l32_12, l32_20, l32_24, l32_25, l32_30, l32_31, l32_35, l32_40, l32_50, l32_60, l32_100, l32_120, l32_200, l32_255, l32_400, l32_m1, l32_m9, l32_m20, l32_m30, l32_m31, l64_0, l64_1, l64_2, l64_3, l64_4, l64_5, l64_7, l64_8, l64_9, l64_12, l64_20, l64_24, l64_25, l64_30, l64_31, l64_35, l64_40, l64_50, l64_60, l64_100, l64_120, l64_200, l64_255, l64_400, l64_m1, l64_m9, l64_m20, l64_m30, l64_m31, alongX_e _ hk, c_e hCs hk]
        exact ⟨_, rfl, rfl, Inv_next h⟩
      · simp only [c3, bw, bn2, bOw, bOn, nme, b2s, bs, zn10, zn01, ze10, ze00, ze01, ze11, if_true, if_false, not_true_eq_false, not_false_eq_true, l32_0, l32_1, l32_2, l32_3, l32_4, l32_5, l32_7, l32_8, l32_9, l32_12, l32_20, l32_24, l32_25, l32_30, l32_31, l32_35, l32_40, l32_50, l32_60, l32_100, l32_120, l32_200, l32_255, l32_400, l32_m1, l32_m9, l32_m20, l32_m30, l32_m31, l64_0, l64_1, l64_2, l64_3, l64_4, l64_5, l64_7, l64_8, l64_9, l64_12, l64_20, l64_24, l64_25, l64_30, l64_31, l64_35, l64_40, l64_50, l64_60, l64_100, l64_120, l64_200, l64_255, l64_400, l64_m1, l64_m9, l64_m20, l64_m30, l64_m31, alongY_e _ hk, s_e hCs hk]
        exact ⟨_, rfl, rfl, Inv_next h⟩
    · simp only [if_neg c2]
      exact ⟨_, rfl, rfl, Inv_next h⟩
  · simp only [if_neg c1]
    exact ⟨_, rfl, rfl, Inv_next h⟩
theorem s_about {c n : Nat} {μ1 μ2 : Mem} (h : Inv c n μ1 μ2) (hc : c < 512) (a1 : Int32) (a2 : Int32) : ∃ (r : Int32), f_X_about μ1 a1 a2 = some r ∧ f_M_about μ2 a1 a2 = some r ∧ Inv (c + 1) n μ1 μ2 := by
  obtain ⟨t, ht, hCs, hTop, hr⟩ := id h
  unfold f_X_about f_M_about
  rw [bTw hTop, bTn hTop]
  simp only [bw, bn2, bOw, bOn, nme, b2s, bs, zn10, zn01, ze10, ze00, ze01, ze11, if_true, if_false, not_true_eq_false, not_false_eq_true, l32_0, l32_1, l32_2, l32_3, l32_4, l32_5, l32_7, l32_8, l32_9, l32_12, l32_20, l32_24, l32_25, l32_30, l32_31, l32_35, l32_40, l32_50, l32_60, l32_100, l32_120, l32_200, l32_255, l32_400, l32_m1, l32_m9, l32_m20, l32_m30, l32_m31, l64_0, l64_1, l64_2, l64_3, l64_4, l64_5, l64_7, l64_8, l64_9, l64_12, l64_20, l64_24, l64_25, l64_30, l64_31, l64_35, l64_40, l64_50, l64_60, l64_100, l64_120, l64_200, l64_255, l64_400, l64_m1, l64_m9, l64_m20, l64_m30, l64_m31]
  by_cases c1 : 0 ≤ a1.toInt ∧ a1.toInt < (t : Int)
  · have ht := hTop.1
    have hib : ib a1 40 = true := ibT c1.1 (by omega)
    obtain ⟨e0, e1, e2, e3, e4, e5, e6, e7⟩ := hTop.2.2.2 a1.toInt.toNat (by omega)
    simp only [if_pos c1, hib, if_true, ix_e, e1, e2, e3, e4, e5, e6]
    by_cases d0 : a2 = 0
    · simp only [d0, if_true]; exact ⟨_, rfl, rfl, Inv_next h⟩
    simp only [if_neg d0]
    by_cases d1 : a2 = 1
    · simp only [d1, if_true]; exact ⟨_, rfl, rfl, Inv_next h⟩
    simp only [if_neg d1]
    by_cases d2 : a2 = 2
    · simp only [d2, if_true]; exact ⟨_, rfl, rfl, Inv_next h⟩
    simp only [if_neg d2]
    by_cases d3 : a2 = 3
    · simp only [d3, if_true]; exact ⟨_, rfl, rfl, Inv_next h⟩
    simp only [if_neg d3]
    by_cases d4 : a2 = 4
    · simp only [d4, if_true]; exact ⟨_, rfl, rfl, Inv_next h⟩
    simp only [if_neg d4]
    by_cases d5 : a2 = 5
    · simp only [d5, if_true]; exact ⟨_, rfl, rfl, Inv_next h⟩
    simp only [if_neg d5]
    exact ⟨_, rfl, rfl, Inv_next h⟩
  · simp only [if_neg c1]
    exact ⟨_, rfl, rfl, Inv_next h⟩
theorem s_wear {c n : Nat} {μ1 μ2 : Mem} (h : Inv c n μ1 μ2) (hc : c < 512) (a1 : Int32) (a2 : Int32) : ∃ (r : Int32) (ν1 : Mem) (ν2 : Mem), f_X_wear μ1 a1 a2 = some (r, ν1) ∧ f_M_wear μ2 a1 a2 = some (r, ν2) ∧ Inv (c + 1) n ν1 ν2 := by
  obtain ⟨t, ht, hCs, hTop, hr⟩ := id h
  unfold f_X_wear f_M_wear
  rw [bTw hTop, bTn hTop]
  simp only [bw, bn2, bOw, bOn, nme, b2s, bs, zn10, zn01, ze10, ze00, ze01, ze11, if_true, if_false, not_true_eq_false, not_false_eq_true, l32_0, l32_1, l32_2, l32_3, l32_4, l32_5, l32_7, l32_8, l32_9, l32_12, l32_20, l32_24, l32_25, l32_30, l32_31, l32_35, l32_40, l32_50, l32_60, l32_100, l32_120, l32_200, l32_255, l32_400, l32_m1, l32_m9, l32_m20, l32_m30, l32_m31, l64_0, l64_1, l64_2, l64_3, l64_4, l64_5, l64_7, l64_8, l64_9, l64_12, l64_20, l64_24, l64_25, l64_30, l64_31, l64_35, l64_40, l64_50, l64_60, l64_100, l64_120, l64_200, l64_255, l64_400, l64_m1, l64_m9, l64_m20, l64_m30, l64_m31]
  by_cases c1 : 0 ≤ a1.toInt ∧ a1.toInt < (t : Int)
  · have ht40 := hTop.1
    have hib : ib a1 40 = true := ibT c1.1 (by omega)
    obtain ⟨k, hk⟩ : ∃ k, k = a1.toInt.toNat := ⟨_, rfl⟩
    have hkt : k < t := by omega
    obtain ⟨e0, e1, e2, e3, e4, e5, e6, e7⟩ := hTop.2.2.2 k hkt
    simp only [if_pos c1, hib, if_true, ix_e, ← hk]
    by_cases c2 : 0 ≤ a2.toInt ∧ a2.toInt ≤ 9
    · simp only [if_pos c2]
      refine ⟨_, _, _, rfl, by rw [e6], h.uTop (EqOn.rf.sI (by simp only [perX, pTop, pStr, pBow, pDen, pBou, pWhi, pCho, pPas, pGam, pLas, pMet, pFin, pShe, true_and, and_true, false_and, and_false, true_or, or_true, false_or, or_false, not_true_eq_false, not_false_eq_true] <;> omega)) (EqOn.rf.sI (by simp only [perM, qCs, qTop, qStr, qBow, qDen, qBou, qWhi, qCho, qPas, qGam, qLas, qMet, qFin, qShe, true_and, and_true, false_and, and_false, true_or, or_true, false_or, or_false, not_true_eq_false, not_false_eq_true] <;> omega)) (fun t' ht' hT hW => ?_)⟩
      have htt : t' = t := by omega
      subst htt
      refine ⟨⟨hT.1, by rw [gI_sI, if_neg (by omega)]; exact hT.2.1, by rw [gI_sI, if_neg (by omega)]; exact hT.2.2.1, fun i hi => ?_⟩, fun i h1 h2 => by rw [gI_sI, if_pos rfl, if_neg (by omega)]; exact hW i h1 h2⟩
      have q := hT.2.2.2 i hi
      by_cases e : i = k
      · subst e
        simp only [gI_sI, gR_sI, if_true, Nat.reduceEqDiff, if_false]
        exact ⟨q.1, q.2.1, q.2.2.1, q.2.2.2.1, q.2.2.2.2.1, q.2.2.2.2.2.1, trivial, q.2.2.2.2.2.2.2.1, q.2.2.2.2.2.2.2.2.1, q.2.2.2.2.2.2.2.2.2.1, q.2.2.2.2.2.2.2.2.2.2.1, q.2.2.2.2.2.2.2.2.2.2.2.1, c2⟩
      · have e' : ¬ 56 + i = 56 + k := by omega
        simp only [gI_sI, gR_sI, if_neg e', if_neg e, if_true, Nat.reduceEqDiff, if_false]
        exact q
    · simp only [if_neg c2]
      exact ⟨_, _, _, rfl, rfl, Inv_next h⟩
  · simp only [if_neg c1]
    exact ⟨_, _, _, rfl, rfl, Inv_next h⟩
theorem s_give {c n : Nat} {μ1 μ2 : Mem} (h : Inv c n μ1 μ2) (hc : c < 512) (a1 : Int32) (a2 : Int32) : ∃ (r : Int32) (ν1 : Mem) (ν2 : Mem), f_X_give μ1 a1 a2 = some (r, ν1) ∧ f_M_give μ2 a1 a2 = some (r, ν2) ∧ Inv (c + 1) n ν1 ν2 := by
  obtain ⟨t, ht, hCs, hTop, hr⟩ := id h
  unfold f_X_give f_M_give
  rw [bTw hTop, bTn hTop]
  simp only [bw, bn2, bOw, bOn, nme, b2s, bs, zn10, zn01, ze10, ze00, ze01, ze11, if_true, if_false, not_true_eq_false, not_false_eq_true, l32_0, l32_1, l32_2, l32_3, l32_4, l32_5, l32_7, l32_8, l32_9, l32_12, l32_20, l32_24, l32_25, l32_30, l32_31, l32_35, l32_40, l32_50, l32_60, l32_100, l32_120, l32_200, l32_255, l32_400, l32_m1, l32_m9, l32_m20, l32_m30, l32_m31, l64_0, l64_1, l64_2, l64_3, l64_4, l64_5, l64_7, l64_8, l64_9, l64_12, l64_20, l64_24, l64_25, l64_30, l64_31, l64_35, l64_40, l64_50, l64_60, l64_100, l64_120, l64_200, l64_255, l64_400, l64_m1, l64_m9, l64_m20, l64_m30, l64_m31]
  by_cases c1 : 0 ≤ a1.toInt ∧ a1.toInt < (t : Int)
  · have ht40 := hTop.1
    have hib : ib a1 40 = true := ibT c1.1 (by omega)
    obtain ⟨k, hk⟩ : ∃ k, k = a1.toInt.toNat := ⟨_, rfl⟩
    have hkt : k < t := by omega
    obtain ⟨e0, e1, e2, e3, e4, e5, e6, e7⟩ := hTop.2.2.2 k hkt
    simp only [if_pos c1, hib, if_true, ix_e, ← hk]
    by_cases c2 : 0 ≤ a2.toInt ∧ a2.toInt ≤ 7
    · simp only [if_pos c2]
      refine ⟨_, _, _, rfl, by rw [e5], h.uTop (EqOn.rf.sI (by simp only [perX, pTop, pStr, pBow, pDen, pBou, pWhi, pCho, pPas, pGam, pLas, pMet, pFin, pShe, true_and, and_true, false_and, and_false, true_or, or_true, false_or, or_false, not_true_eq_false, not_false_eq_true] <;> omega)) (EqOn.rf.sI (by simp only [perM, qCs, qTop, qStr, qBow, qDen, qBou, qWhi, qCho, qPas, qGam, qLas, qMet, qFin, qShe, true_and, and_true, false_and, and_false, true_or, or_true, false_or, or_false, not_true_eq_false, not_false_eq_true] <;> omega)) (fun t' ht' hT hW => ?_)⟩
      have htt : t' = t := by omega
      subst htt
      refine ⟨⟨hT.1, by rw [gI_sI, if_neg (by omega)]; exact hT.2.1, by rw [gI_sI, if_neg (by omega)]; exact hT.2.2.1, fun i hi => ?_⟩, fun i h1 h2 => by rw [gI_sI, if_neg (by omega)]; exact hW i h1 h2⟩
      have q := hT.2.2.2 i hi
      by_cases e : i = k
      · subst e
        simp only [gI_sI, gR_sI, if_true, Nat.reduceEqDiff, if_false]
        exact ⟨q.1, q.2.1, q.2.2.1, q.2.2.2.1, q.2.2.2.2.1, trivial, q.2.2.2.2.2.2.1, q.2.2.2.2.2.2.2.1, q.2.2.2.2.2.2.2.2.1, q.2.2.2.2.2.2.2.2.2.1, q.2.2.2.2.2.2.2.2.2.2.1, c2, q.2.2.2.2.2.2.2.2.2.2.2.2⟩
      · have e' : ¬ 56 + i = 56 + k := by omega
        simp only [gI_sI, gR_sI, if_neg e', if_neg e, if_true, Nat.reduceEqDiff, if_false]
        exact q
    · simp only [if_neg c2]
      exact ⟨_, _, _, rfl, rfl, Inv_next h⟩
  · simp only [if_neg c1]
    exact ⟨_, _, _, rfl, rfl, Inv_next h⟩
theorem s_bowl {c n : Nat} {μ1 μ2 : Mem} (h : Inv c n μ1 μ2) (hc : c < 512) (a1 : Int32) (a2 : Int32) : ∃ (r : Int32) (ν1 : Mem) (ν2 : Mem), f_X_bowl μ1 a1 a2 = some (r, ν1) ∧ f_M_bowl μ2 a1 a2 = some (r, ν2) ∧ Inv (c + 1) n ν1 ν2 := by
  obtain ⟨t, ht, hCs, hTop, hWr, hStr, hBow, hr⟩ := id h
  unfold f_X_bowl f_M_bowl f_X_bowl_b32 f_M_bowl_b30
  simp only [bw, bn2, bOw, bOn, nme, b2s, bs, zn10, zn01, ze10, ze00, ze01, ze11, if_true, if_false, not_true_eq_false, not_false_eq_true, l32_0, l32_1, l32_2, l32_3, l32_4, l32_5, l32_7, l32_8, l32_9, l32_12, l32_20, l32_24, l32_25, l32_30, l32_31, l32_35, l32_40, l32_50, l32_60, l32_100, l32_120, l32_200, l32_255, l32_400, l32_m1, l32_m9, l32_m20, l32_m30, l32_m31, l64_0, l64_1, l64_2, l64_3, l64_4, l64_5, l64_7, l64_8, l64_9, l64_12, l64_20, l64_24, l64_25, l64_30, l64_31, l64_35, l64_40, l64_50, l64_60, l64_100, l64_120, l64_200, l64_255, l64_400, l64_m1, l64_m9, l64_m20, l64_m30, l64_m31]
  by_cases c1 : a1 = 0
  · subst c1
    by_cases c2 : 5 ≤ a2.toInt ∧ a2.toInt ≤ 30
    · simp only [bw, bn2, bOw, bOn, nme, b2s, bs, zn10, zn01, ze10, ze00, ze01, ze11, if_true, if_false, not_true_eq_false, not_false_eq_true, l32_0, l32_1, l32_2, l32_3, l32_4, l32_5, l32_7, l32_8, l32_9, l32_12, l32_20, l32_24, l32_25, l32_30, l32_31, l32_35, l32_40, l32_50, l32_60, l32_100, l32_120, l32_200, l32_255, l32_400, l32_m1, l32_m9, l32_m20, l32_m30, l32_m31, l64_0, l64_1, l64_2, l64_3, l64_4, l64_5, l64_7, l64_8, l64_9, l64_12, l64_20, l64_24, l64_25, l64_30, l64_31, l64_35, l64_40, l64_50, l64_60, l64_100, l64_120, l64_200, l64_255, l64_400, l64_m1, l64_m9, l64_m20, l64_m30, l64_m31, if_pos c2]
      refine ⟨_, _, _, rfl, by rw [hBow.1], h.uBow (EqOn.rf.sI (by simp only [perX, pTop, pStr, pBow, pDen, pBou, pWhi, pCho, pPas, pGam, pLas, pMet, pFin, pShe, true_and, and_true, false_and, and_false, true_or, or_true, false_or, or_false, not_true_eq_false, not_false_eq_true] <;> omega)) (EqOn.rf.sI (by simp only [perM, qCs, qTop, qStr, qBow, qDen, qBou, qWhi, qCho, qPas, qGam, qLas, qMet, qFin, qShe, true_and, and_true, false_and, and_false, true_or, or_true, false_or, or_false, not_true_eq_false, not_false_eq_true] <;> omega)) (fun _ _ _ q => ?_)⟩
      simp only [iBow, gI_sI, if_true, Nat.reduceEqDiff, if_false]
      exact ⟨trivial, q.2.1, c2, q.2.2.2⟩
    · simp only [bw, bn2, bOw, bOn, nme, b2s, bs, zn10, zn01, ze10, ze00, ze01, ze11, if_true, if_false, not_true_eq_false, not_false_eq_true, l32_0, l32_1, l32_2, l32_3, l32_4, l32_5, l32_7, l32_8, l32_9, l32_12, l32_20, l32_24, l32_25, l32_30, l32_31, l32_35, l32_40, l32_50, l32_60, l32_100, l32_120, l32_200, l32_255, l32_400, l32_m1, l32_m9, l32_m20, l32_m30, l32_m31, l64_0, l64_1, l64_2, l64_3, l64_4, l64_5, l64_7, l64_8, l64_9, l64_12, l64_20, l64_24, l64_25, l64_30, l64_31, l64_35, l64_40, l64_50, l64_60, l64_100, l64_120, l64_200, l64_255, l64_400, l64_m1, l64_m9, l64_m20, l64_m30, l64_m31, if_neg c2]
      exact ⟨_, _, _, rfl, rfl, Inv_next h⟩
  · simp only [c1, bw, bn2, bOw, bOn, nme, b2s, bs, zn10, zn01, ze10, ze00, ze01, ze11, if_true, if_false, not_true_eq_false, not_false_eq_true, l32_0, l32_1, l32_2, l32_3, l32_4, l32_5, l32_7, l32_8, l32_9, l32_12, l32_20, l32_24, l32_25, l32_30, l32_31, l32_35, l32_40, l32_50, l32_60, l32_100, l32_120, l32_200, l32_255, l32_400, l32_m1, l32_m9, l32_m20, l32_m30, l32_m31, l64_0, l64_1, l64_2, l64_3, l64_4, l64_5, l64_7, l64_8, l64_9, l64_12, l64_20, l64_24, l64_25, l64_30, l64_31, l64_35, l64_40, l64_50, l64_60, l64_100, l64_120, l64_200, l64_255, l64_400, l64_m1, l64_m9, l64_m20, l64_m30, l64_m31]
    by_cases c2 : a1 = 1
    · simp only [c2, bw, bn2, bOw, bOn, nme, b2s, bs, zn10, zn01, ze10, ze00, ze01, ze11, if_true, if_false, not_true_eq_false, not_false_eq_true, l32_0, l32_1, l32_2, l32_3, l32_4, l32_5, l32_7, l32_8, l32_9, l32_12, l32_20, l32_24, l32_25, l32_30, l32_31, l32_35, l32_40, l32_50, l32_60, l32_100, l32_120, l32_200, l32_255, l32_400, l32_m1, l32_m9, l32_m20, l32_m30, l32_m31, l64_0, l64_1, l64_2, l64_3, l64_4, l64_5, l64_7, l64_8, l64_9, l64_12, l64_20, l64_24, l64_25, l64_30, l64_31, l64_35, l64_40, l64_50, l64_60, l64_100, l64_120, l64_200, l64_255, l64_400, l64_m1, l64_m9, l64_m20, l64_m30, l64_m31]
      by_cases c3 : 0 ≤ a2.toInt ∧ a2.toInt ≤ 30
      · simp only [bw, bn2, bOw, bOn, nme, b2s, bs, zn10, zn01, ze10, ze00, ze01, ze11, if_true, if_false, not_true_eq_false, not_false_eq_true, l32_0, l32_1, l32_2, l32_3, l32_4, l32_5, l32_7, l32_8, l32_9, l32_12, l32_20, l32_24, l32_25, l32_30, l32_31, l32_35, l32_40, l32_50, l32_60, l32_100, l32_120, l32_200, l32_255, l32_400, l32_m1, l32_m9, l32_m20, l32_m30, l32_m31, l64_0, l64_1, l64_2, l64_3, l64_4, l64_5, l64_7, l64_8, l64_9, l64_12, l64_20, l64_24, l64_25, l64_30, l64_31, l64_35, l64_40, l64_50, l64_60, l64_100, l64_120, l64_200, l64_255, l64_400, l64_m1, l64_m9, l64_m20, l64_m30, l64_m31, if_pos c3]
        refine ⟨_, _, _, rfl, by rw [hBow.2.1], h.uBow (EqOn.rf.sI (by simp only [perX, pTop, pStr, pBow, pDen, pBou, pWhi, pCho, pPas, pGam, pLas, pMet, pFin, pShe, true_and, and_true, false_and, and_false, true_or, or_true, false_or, or_false, not_true_eq_false, not_false_eq_true] <;> omega)) (EqOn.rf.sI (by simp only [perM, qCs, qTop, qStr, qBow, qDen, qBou, qWhi, qCho, qPas, qGam, qLas, qMet, qFin, qShe, true_and, and_true, false_and, and_false, true_or, or_true, false_or, or_false, not_true_eq_false, not_false_eq_true] <;> omega)) (fun _ _ _ q => ?_)⟩
        simp only [iBow, gI_sI, if_true, Nat.reduceEqDiff, if_false]
        exact ⟨q.1, trivial, q.2.2.1, c3⟩
      · simp only [bw, bn2, bOw, bOn, nme, b2s, bs, zn10, zn01, ze10, ze00, ze01, ze11, if_true, if_false, not_true_eq_false, not_false_eq_true, l32_0, l32_1, l32_2, l32_3, l32_4, l32_5, l32_7, l32_8, l32_9, l32_12, l32_20, l32_24, l32_25, l32_30, l32_31, l32_35, l32_40, l32_50, l32_60, l32_100, l32_120, l32_200, l32_255, l32_400, l32_m1, l32_m9, l32_m20, l32_m30, l32_m31, l64_0, l64_1, l64_2, l64_3, l64_4, l64_5, l64_7, l64_8, l64_9, l64_12, l64_20, l64_24, l64_25, l64_30, l64_31, l64_35, l64_40, l64_50, l64_60, l64_100, l64_120, l64_200, l64_255, l64_400, l64_m1, l64_m9, l64_m20, l64_m30, l64_m31, if_neg c3]
        exact ⟨_, _, _, rfl, rfl, Inv_next h⟩
    · simp only [c2, bw, bn2, bOw, bOn, nme, b2s, bs, zn10, zn01, ze10, ze00, ze01, ze11, if_true, if_false, not_true_eq_false, not_false_eq_true, l32_0, l32_1, l32_2, l32_3, l32_4, l32_5, l32_7, l32_8, l32_9, l32_12, l32_20, l32_24, l32_25, l32_30, l32_31, l32_35, l32_40, l32_50, l32_60, l32_100, l32_120, l32_200, l32_255, l32_400, l32_m1, l32_m9, l32_m20, l32_m30, l32_m31, l64_0, l64_1, l64_2, l64_3, l64_4, l64_5, l64_7, l64_8, l64_9, l64_12, l64_20, l64_24, l64_25, l64_30, l64_31, l64_35, l64_40, l64_50, l64_60, l64_100, l64_120, l64_200, l64_255, l64_400, l64_m1, l64_m9, l64_m20, l64_m30, l64_m31]
      exact ⟨_, _, _, rfl, rfl, Inv_next h⟩
theorem s_string {c n : Nat} {μ1 μ2 : Mem} (h : Inv c n μ1 μ2) (hc : c < 512) (a1 : Int32) (a2 : Int32) : ∃ (r : Int32) (ν1 : Mem) (ν2 : Mem), f_X_string μ1 a1 a2 = some (r, ν1) ∧ f_M_string μ2 a1 a2 = some (r, ν2) ∧ Inv (c + 1) n ν1 ν2 := by
  obtain ⟨t, ht, hCs, hTop, hWr, hStr, hr⟩ := id h
  unfold f_X_string f_M_string
  simp only [bw, bn2, bOw, bOn, nme, b2s, bs, zn10, zn01, ze10, ze00, ze01, ze11, if_true, if_false, not_true_eq_false, not_false_eq_true, l32_0, l32_1, l32_2, l32_3, l32_4, l32_5, l32_7, l32_8, l32_9, l32_12, l32_20, l32_24, l32_25, l32_30, l32_31, l32_35, l32_40, l32_50, l32_60, l32_100, l32_120, l32_200, l32_255, l32_400, l32_m1, l32_m9, l32_m20, l32_m30, l32_m31, l64_0, l64_1, l64_2, l64_3, l64_4, l64_5, l64_7, l64_8, l64_9, l64_12, l64_20, l64_24, l64_25, l64_30, l64_31, l64_35, l64_40, l64_50, l64_60, l64_100, l64_120, l64_200, l64_255, l64_400, l64_m1, l64_m9, l64_m20, l64_m30, l64_m31]
  by_cases c1 : 0 ≤ a1.toInt ∧ a1.toInt ≤ 7
  · have hib : ib a1 8 = true := ibT c1.1 (by omega)
    obtain ⟨k, hk⟩ : ∃ k, k = a1.toInt.toNat := ⟨_, rfl⟩
    have e := hStr k (by omega)
    simp only [if_pos c1, hib, if_true, ix_e, ← hk]
    by_cases c2 : 0 ≤ a2.toInt ∧ a2.toInt ≤ 200
    · simp only [if_pos c2]
      refine ⟨_, _, _, rfl, by rw [e.1], h.uStr (EqOn.rf.sI (by simp only [perX, pTop, pStr, pBow, pDen, pBou, pWhi, pCho, pPas, pGam, pLas, pMet, pFin, pShe, true_and, and_true, false_and, and_false, true_or, or_true, false_or, or_false, not_true_eq_false, not_false_eq_true] <;> omega)) (EqOn.rf.sI (by simp only [perM, qCs, qTop, qStr, qBow, qDen, qBou, qWhi, qCho, qPas, qGam, qLas, qMet, qFin, qShe, true_and, and_true, false_and, and_false, true_or, or_true, false_or, or_false, not_true_eq_false, not_false_eq_true] <;> omega)) (fun _ _ _ q => fun o ho => ?_)⟩
      simp only [gI_sI, if_true]
      by_cases e' : o = k
      · simp only [if_pos e', true_and]; exact c2
      · simp only [if_neg e']; exact q o ho
    · simp only [if_neg c2]
      exact ⟨_, _, _, rfl, rfl, Inv_next h⟩
  · simp only [if_neg c1]
    exact ⟨_, _, _, rfl, rfl, Inv_next h⟩


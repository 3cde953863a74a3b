theorem y_s (k : Nat) : nI k + 1 = nI (k + 1) := by
  unfold nI
  rw [Int32.ofNat_add]
  rfl
theorem y_eq {a b : Nat} (h1 : a < 2147483648) (h2 : b < 2147483648) : (nI a = nI b) = (a = b) := by
  apply propext
  constructor
  · intro h
    have := congrArg Int32.toInt h
    rw [nI_t h1, nI_t h2] at this
    omega
  · intro h; rw [h]
theorem y_40 : (40 : Int32) = nI 40 := rfl
theorem y_24 : (24 : Int32) = nI 24 := rfl
theorem y_8 : (8 : Int32) = nI 8 := rfl
theorem y_4 : (4 : Int32) = nI 4 := rfl
theorem y_0 : (0 : Int32) = nI 0 := rfl
theorem y_lt {a b : Nat} (h1 : a < 2147483648) (h2 : b < 2147483648) : (nI a < nI b) = (a < b) := by
  rw [Int32.lt_iff_toInt_lt, nI_t h1, nI_t h2]
  exact propext (by omega)
theorem y_le {a b : Nat} (h1 : a < 2147483648) (h2 : b < 2147483648) : (nI a ≤ nI b) = (a ≤ b) := by
  rw [Int32.le_iff_toInt_le, nI_t h1, nI_t h2]
  exact propext (by omega)
theorem m4_ : ∀ i, i < 4 → ∀ j, j < 4 → (4 : Int32) * nI i + nI j = nI (4 * i + j) := by decide +kernel
theorem m8_ : ∀ i, i < 8 → ∀ j, j < 8 → (8 : Int32) * nI i + nI j = nI (8 * i + j) ∧ nI i * 8 + nI j = nI (8 * i + j) := by decide +kernel
theorem sr26 : ∀ i, i < 4 → srX 26 i = 27 + i := by decide +kernel
theorem bHas {β : Type} {r c : Nat} {x : Mem} (hr : r ≤ 4) (hc : c ≤ 4) (h1 : gI x 23 0 = nI r) (h2 : gI x 23 1 = nI c) (v u : Int32) (k : Int32 → Option β) : Option.bind (f_Ch_has x v u) k = if (0 ≤ v.toInt ∧ v.toInt < (r : Int)) ∧ (0 ≤ u.toInt ∧ u.toInt < (c : Int)) then k 1 else k 0 := by
  unfold f_Ch_has
  rw [h1, h2]
  simp only [Int32.lt_iff_toInt_lt, Int32.le_iff_toInt_le, nI_t (show r < 2147483648 by omega), nI_t (show c < 2147483648 by omega), l32_0]
  by_cases c1 : v.toInt < 0
  · rw [if_pos c1, if_neg (by omega)]; rfl
  · by_cases c2 : (r : Int) ≤ v.toInt
    · rw [if_neg c1, if_pos c2, if_neg (by omega)]; rfl
    · by_cases c3 : u.toInt < 0
      · rw [if_neg c1, if_neg c2, if_pos c3, if_neg (by omega)]; rfl
      · by_cases c4 : (c : Int) ≤ u.toInt
        · rw [if_neg c1, if_neg c2, if_neg c3, if_pos c4, if_neg (by omega)]; rfl
        · rw [if_neg c1, if_neg c2, if_neg c3, if_neg c4, if_pos (by omega)]; rfl
theorem bIsPay {β : Type} {r c : Nat} {m : Mem} (hr : r ≤ 4) (hc : c ≤ 4) (h1 : gI m 0 37 = nI r) (h2 : gI m 0 38 = nI c) (v u : Int32) (k : Int32 → Option β) : Option.bind (f_M_isPay m v u) k = if (0 ≤ v.toInt ∧ v.toInt < (r : Int)) ∧ (0 ≤ u.toInt ∧ u.toInt < (c : Int)) then k 1 else k 0 := by
  unfold f_M_isPay
  rw [h1, h2, bn2, Int32.toInt_toInt64, nIm1 (by omega)]
  simp only [bn2, Int32.toInt_toInt64, nIm1 (show c ≤ 40 by omega), bw, bn2, bOw, bOn, nme, b2s, bs, zn10, zn01, ze10, ze00, ze01, ze11, if_true, if_false, not_true_eq_false, not_false_eq_true, l32_0, l32_1, l32_2, l32_3, l32_4, l32_5, l32_7, l32_8, l32_9, l32_12, l32_20, l32_24, l32_25, l32_30, l32_31, l32_35, l32_40, l32_50, l32_60, l32_100, l32_120, l32_200, l32_255, l32_400, l32_m1, l32_m9, l32_m20, l32_m30, l32_m31, l64_0, l64_1, l64_2, l64_3, l64_4, l64_5, l64_7, l64_8, l64_9, l64_12, l64_20, l64_24, l64_25, l64_30, l64_31, l64_35, l64_40, l64_50, l64_60, l64_100, l64_120, l64_200, l64_255, l64_400, l64_m1, l64_m9, l64_m20, l64_m30, l64_m31]
  by_cases c1 : 0 ≤ v.toInt ∧ v.toInt ≤ (r : Int) - 1
  · by_cases c2 : 0 ≤ u.toInt ∧ u.toInt ≤ (c : Int) - 1
    · rw [if_pos c1, if_pos c2, if_pos (by omega)]; rfl
    · rw [if_pos c1, if_neg c2, if_neg (by omega)]; rfl
  · rw [if_neg c1, if_neg (by omega)]; rfl
theorem s_pays {c n : Nat} {μ1 μ2 : Mem} (h : Inv c n μ1 μ2) (hc : c < 512) (a1 : Int32) (a2 : Int32) : ∃ (r : Int32), f_X_pays μ1 a1 a2 = some r ∧ f_M_pays μ2 a1 a2 = some r ∧ Inv (c + 1) n μ1 μ2 := by
  obtain ⟨t, ht, hCs, hTop, hWr, hStr, hBow, hDen, hBou, hWhi, hCho, hr⟩ := id h
  obtain ⟨r, cc, g1, g2, g3, g4, g5, g6, g7, g8, g9, g10⟩ := hCho
  unfold f_X_pays f_M_pays
  rw [bHas g1 g2 g3 g5, bIsPay g1 g2 g4 g6]
  simp only [bw, bn2, bOw, bOn, nme, b2s, bs, zn10, zn01, ze10, ze00, ze01, ze11, if_true, if_false, not_true_eq_false, not_false_eq_true, l32_0, l32_1, l32_2, l32_3, l32_4, l32_5, l32_7, l32_8, l32_9, l32_12, l32_20, l32_24, l32_25, l32_30, l32_31, l32_35, l32_40, l32_50, l32_60, l32_100, l32_120, l32_200, l32_255, l32_400, l32_m1, l32_m9, l32_m20, l32_m30, l32_m31, l64_0, l64_1, l64_2, l64_3, l64_4, l64_5, l64_7, l64_8, l64_9, l64_12, l64_20, l64_24, l64_25, l64_30, l64_31, l64_35, l64_40, l64_50, l64_60, l64_100, l64_120, l64_200, l64_255, l64_400, l64_m1, l64_m9, l64_m20, l64_m30, l64_m31]
  by_cases c1 : (0 ≤ a1.toInt ∧ a1.toInt < (r : Int)) ∧ (0 ≤ a2.toInt ∧ a2.toInt < (cc : Int))
  · obtain ⟨i, hi, rfl⟩ := toN c1.1.1 c1.1.2
    obtain ⟨j, hj, rfl⟩ := toN c1.2.1 c1.2.2
    simp only [if_pos c1, m4_ i (by omega) j (by omega), ib_n (show i < 4 by omega) (by omega), ib_n (show j < 4 by omega) (by omega), ib_n (show 4 * i + j < 16 by omega) (by omega), ix_n (show i < 2147483648 by omega), ix_n (show j < 2147483648 by omega), ix_n (show 4 * i + j < 2147483648 by omega), if_true, sr26 i (by omega), (g9 i j hi hj).1]
    exact ⟨_, rfl, rfl, Inv_next h⟩
  · simp only [if_neg c1]
    exact ⟨_, rfl, rfl, Inv_next h⟩
theorem s_pay {c n : Nat} {μ1 μ2 : Mem} (h : Inv c n μ1 μ2) (hc : c < 512) (a1 : Int32) (a2 : Int32) (a3 : Int32) : ∃ (r : Int32) (ν1 : Mem) (ν2 : Mem), f_X_pay μ1 a1 a2 a3 = some (r, ν1) ∧ f_M_pay μ2 a1 a2 a3 = some (r, ν2) ∧ Inv (c + 1) n ν1 ν2 := by
  obtain ⟨t, ht, hCs, hTop, hWr, hStr, hBow, hDen, hBou, hWhi, hCho, hr⟩ := id h
  obtain ⟨r, cc, g1, g2, g3, g4, g5, g6, g7, g8, g9, g10⟩ := hCho
  unfold f_X_pay f_M_pay
  rw [bHas g1 g2 g3 g5, bIsPay g1 g2 g4 g6]
  simp only [bw, bn2, bOw, bOn, nme, b2s, bs, zn10, zn01, ze10, ze00, ze01, ze11, if_true, if_false, not_true_eq_false, not_false_eq_true, l32_0, l32_1, l32_2, l32_3, l32_4, l32_5, l32_7, l32_8, l32_9, l32_12, l32_20, l32_24, l32_25, l32_30, l32_31, l32_35, l32_40, l32_50, l32_60, l32_100, l32_120, l32_200, l32_255, l32_400, l32_m1, l32_m9, l32_m20, l32_m30, l32_m31, l64_0, l64_1, l64_2, l64_3, l64_4, l64_5, l64_7, l64_8, l64_9, l64_12, l64_20, l64_24, l64_25, l64_30, l64_31, l64_35, l64_40, l64_50, l64_60, l64_100, l64_120, l64_200, l64_255, l64_400, l64_m1, l64_m9, l64_m20, l64_m30, l64_m31]
  by_cases c1 : (0 ≤ a1.toInt ∧ a1.toInt < (r : Int)) ∧ (0 ≤ a2.toInt ∧ a2.toInt < (cc : Int))
  · obtain ⟨i, hi, rfl⟩ := toN c1.1.1 c1.1.2
    obtain ⟨j, hj, rfl⟩ := toN c1.2.1 c1.2.2
    by_cases c2 : -9 ≤ a3.toInt ∧ a3.toInt ≤ 9
    · simp only [if_pos c1, if_pos c2, m4_ i (by omega) j (by omega), ib_n (show i < 4 by omega) (by omega), ib_n (show j < 4 by omega) (by omega), ib_n (show 4 * i + j < 16 by omega) (by omega), ix_n (show i < 2147483648 by omega), ix_n (show j < 2147483648 by omega), ix_n (show 4 * i + j < 2147483648 by omega), if_true, sr26 i (by omega)]
      refine ⟨_, _, _, rfl, by rw [(g9 i j hi hj).1], h.uCho (EqOn.rf.sI (by simp only [perX, pTop, pStr, pBow, pDen, pBou, pWhi, pCho, pPas, pGam, pLas, pMet, pFin, pShe, true_and, and_true, false_and, and_false, true_or, or_true, false_or, or_false, not_true_eq_false, not_false_eq_true] <;> omega)) (EqOn.rf.sI (by simp only [perM, qCs, qTop, qStr, qBow, qDen, qBou, qWhi, qCho, qPas, qGam, qLas, qMet, qFin, qShe, true_and, and_true, false_and, and_false, true_or, or_true, false_or, or_false, not_true_eq_false, not_false_eq_true] <;> omega)) (fun t' ht' hT _ => ⟨r, cc, g1, g2, ?_, ?_, ?_, ?_, ?_, ?_, ?_, ?_⟩)⟩
      · rw [gI_sI, if_neg (by omega)]; exact g3
      · rw [gI_sI, if_neg (by omega)]; exact g4
      · rw [gI_sI, if_neg (by omega)]; exact g5
      · rw [gI_sI, if_neg (by omega)]; exact g6
      · intro i' hi'
        have htt : t' = t := by omega
        subst htt
        rw [gI_sI, if_neg (by omega), gI_sI, if_neg (by omega)]; exact g7 i' hi'
      · intro i' hi'
        have htt : t' = t := by omega
        subst htt
        rw [gI_sI, if_neg (by omega), gI_sI, if_neg (by omega)]; exact g8 i' hi'
      · intro i' j' hi' hj'
        have q := g9 i' j' hi' hj'
        simp only [gI_sI, if_true]
        by_cases e : i' = i ∧ j' = j
        · obtain ⟨e1, e2⟩ := e
          subst e1; subst e2
          simp only [if_true, true_and]; exact c2
        · have e3 : ¬ (4 * i' + j' = 4 * i + j) := by omega
          rw [if_neg e3]
          by_cases e1 : i' = i
          · have e2 : ¬ j' = j := fun q => e ⟨e1, q⟩
            subst e1
            rw [if_pos rfl, if_neg e2]; exact q
          · rw [if_neg (by omega)]; exact q
      · intro i' j' hi' hj' hn
        have q := g10 i' j' hi' hj' hn
        simp only [gI_sI]
        by_cases e1 : i' = i
        · subst e1
          rw [if_pos rfl, if_neg (by omega)]; exact q
        · rw [if_neg (by omega)]; exact q
    · simp only [if_pos c1, if_neg c2]
      exact ⟨_, _, _, rfl, rfl, Inv_next h⟩
  · simp only [if_neg c1]
    exact ⟨_, _, _, rfl, rfl, Inv_next h⟩
theorem s_played {c n : Nat} {μ1 μ2 : Mem} (h : Inv c n μ1 μ2) (hc : c < 512) (a1 : Int32) : ∃ (r : Int32), f_X_played μ1 a1 = some r ∧ f_M_played μ2 a1 = some r ∧ Inv (c + 1) n μ1 μ2 := by
  obtain ⟨t, ht, hCs, hTop, hWr, hStr, hBow, hDen, hBou, hWhi, hCho, hPas, hGam, hLas, hr⟩ := id h
  unfold f_X_played f_M_played
  simp only [bw, bn2, bOw, bOn, nme, b2s, bs, zn10, zn01, ze10, ze00, ze01, ze11, if_true, if_false, not_true_eq_false, not_false_eq_true, l32_0, l32_1, l32_2, l32_3, l32_4, l32_5, l32_7, l32_8, l32_9, l32_12, l32_20, l32_24, l32_25, l32_30, l32_31, l32_35, l32_40, l32_50, l32_60, l32_100, l32_120, l32_200, l32_255, l32_400, l32_m1, l32_m9, l32_m20, l32_m30, l32_m31, l64_0, l64_1, l64_2, l64_3, l64_4, l64_5, l64_7, l64_8, l64_9, l64_12, l64_20, l64_24, l64_25, l64_30, l64_31, l64_35, l64_40, l64_50, l64_60, l64_100, l64_120, l64_200, l64_255, l64_400, l64_m1, l64_m9, l64_m20, l64_m30, l64_m31]
  by_cases c1 : 0 ≤ a1.toInt ∧ a1.toInt ≤ 3
  · obtain ⟨i, hi, rfl⟩ := toN (n := 4) c1.1 (by omega)
    simp only [if_pos c1, ib_n hi (by omega), ix_n (show i < 2147483648 by omega), if_true, hLas i hi]
    exact ⟨_, rfl, rfl, Inv_next h⟩
  · simp only [if_neg c1]
    exact ⟨_, rfl, rfl, Inv_next h⟩
theorem s_met {c n : Nat} {μ1 μ2 : Mem} (h : Inv c n μ1 μ2) (hc : c < 512) (a1 : Int32) (a2 : Int32) : ∃ (r : Int32), f_X_met μ1 a1 a2 = some r ∧ f_M_met1 μ2 a1 a2 = some r ∧ Inv (c + 1) n μ1 μ2 := by
  obtain ⟨t, ht, hCs, hTop, hWr, hStr, hBow, hDen, hBou, hWhi, hCho, hPas, hGam, hLas, hMet, hr⟩ := id h
  unfold f_X_met f_M_met1
  simp only [bw, bn2, bOw, bOn, nme, b2s, bs, zn10, zn01, ze10, ze00, ze01, ze11, if_true, if_false, not_true_eq_false, not_false_eq_true, l32_0, l32_1, l32_2, l32_3, l32_4, l32_5, l32_7, l32_8, l32_9, l32_12, l32_20, l32_24, l32_25, l32_30, l32_31, l32_35, l32_40, l32_50, l32_60, l32_100, l32_120, l32_200, l32_255, l32_400, l32_m1, l32_m9, l32_m20, l32_m30, l32_m31, l64_0, l64_1, l64_2, l64_3, l64_4, l64_5, l64_7, l64_8, l64_9, l64_12, l64_20, l64_24, l64_25, l64_30, l64_31, l64_35, l64_40, l64_50, l64_60, l64_100, l64_120, l64_200, l64_255, l64_400, l64_m1, l64_m9, l64_m20, l64_m30, l64_m31]
  by_cases c1 : 0 ≤ a1.toInt ∧ a1.toInt ≤ 7
  · by_cases c2 : 0 ≤ a2.toInt ∧ a2.toInt ≤ 7
    · obtain ⟨i, hi, rfl⟩ := toN (n := 8) c1.1 (by omega)
      obtain ⟨j, hj, rfl⟩ := toN (n := 8) c2.1 (by omega)
      simp only [if_pos c1, if_pos c2, (m8_ i hi j hj).1, (m8_ i hi j hj).2, ib_n (show 8 * i + j < 64 by omega) (by omega), ix_n (show 8 * i + j < 2147483648 by omega), if_true, (hMet (8 * i + j) (by omega)).1]
      by_cases c3 : nI i = nI j
      · simp only [c3, bw, bn2, bOw, bOn, nme, b2s, bs, zn10, zn01, ze10, ze00, ze01, ze11, if_true, if_false, not_true_eq_false, not_false_eq_true, l32_0, l32_1, l32_2, l32_3, l32_4, l32_5, l32_7, l32_8, l32_9, l32_12, l32_20, l32_24, l32_25, l32_30, l32_31, l32_35, l32_40, l32_50, l32_60, l32_100, l32_120, l32_200, l32_255, l32_400, l32_m1, l32_m9, l32_m20, l32_m30, l32_m31, l64_0, l64_1, l64_2, l64_3, l64_4, l64_5, l64_7, l64_8, l64_9, l64_12, l64_20, l64_24, l64_25, l64_30, l64_31, l64_35, l64_40, l64_50, l64_60, l64_100, l64_120, l64_200, l64_255, l64_400, l64_m1, l64_m9, l64_m20, l64_m30, l64_m31]
        exact ⟨_, rfl, rfl, Inv_next h⟩
      · simp only [c3, bw, bn2, bOw, bOn, nme, b2s, bs, zn10, zn01, ze10, ze00, ze01, ze11, if_true, if_false, not_true_eq_false, not_false_eq_true, l32_0, l32_1, l32_2, l32_3, l32_4, l32_5, l32_7, l32_8, l32_9, l32_12, l32_20, l32_24, l32_25, l32_30, l32_31, l32_35, l32_40, l32_50, l32_60, l32_100, l32_120, l32_200, l32_255, l32_400, l32_m1, l32_m9, l32_m20, l32_m30, l32_m31, l64_0, l64_1, l64_2, l64_3, l64_4, l64_5, l64_7, l64_8, l64_9, l64_12, l64_20, l64_24, l64_25, l64_30, l64_31, l64_35, l64_40, l64_50, l64_60, l64_100, l64_120, l64_200, l64_255, l64_400, l64_m1, l64_m9, l64_m20, l64_m30, l64_m31]
        exact ⟨_, rfl, rfl, Inv_next h⟩
    · simp only [if_pos c1, if_neg c2]
      exact ⟨_, rfl, rfl, Inv_next h⟩
  · simp only [if_neg c1]
    exact ⟨_, rfl, rfl, Inv_next h⟩
theorem s_count {c n : Nat} {μ1 μ2 : Mem} (h : Inv c n μ1 μ2) (hc : c < 512) (a1 : Int32) : ∃ (r : Int32), f_X_count μ1 a1 = some r ∧ f_M_count μ2 a1 = some r ∧ Inv (c + 1) n μ1 μ2 := by
  obtain ⟨t, ht, hCs, hTop, hWr, hStr, hBow, ⟨d, hd1, hd2, hd3, hd4⟩, ⟨p, hp1, hp2, hp3, hp4⟩, ⟨u, hu1, hu2, hu3, hu4⟩, ⟨r, cc, g1, g2, g3, g4, g5, g6, g7⟩, ⟨k, hk1, hk2, hk3, hk4⟩, ⟨g, hg1, hg2, hg3, hg4⟩, hLas, hMet, hFin, hShe⟩ := id h
  unfold f_X_count f_M_count
  rw [hTop.2.1, hTop.2.2.1, hd2, hd3, hp2, hp3, hu2, hu3, g3, g4, g5, g6, hk2, hk3, hg2, hg3, show gI μ1 0 13 = gI μ2 0 66 from hFin, hBow.1, hBow.2.1]
  by_cases d0 : a1 = 0
  · simp only [d0, if_true]; exact ⟨_, rfl, rfl, Inv_next h⟩
  simp only [if_neg d0]
  by_cases d1 : a1 = 1
  · simp only [d1, if_true]; exact ⟨_, rfl, rfl, Inv_next h⟩
  simp only [if_neg d1]
  by_cases d2 : a1 = 2
  · simp only [d2, if_true]; exact ⟨_, rfl, rfl, Inv_next h⟩
  simp only [if_neg d2]
  by_cases d3 : a1 = 3
  · simp only [d3, if_true]; exact ⟨_, rfl, rfl, Inv_next h⟩
  simp only [if_neg d3]
  by_cases d4 : a1 = 4
  · simp only [d4, if_true]; exact ⟨_, rfl, rfl, Inv_next h⟩
  simp only [if_neg d4]
  by_cases d5 : a1 = 5
  · simp only [d5, if_true]; exact ⟨_, rfl, rfl, Inv_next h⟩
  simp only [if_neg d5]
  by_cases d6 : a1 = 6
  · simp only [d6, if_true]; exact ⟨_, rfl, rfl, Inv_next h⟩
  simp only [if_neg d6]
  by_cases d7 : a1 = 7
  · simp only [d7, if_true]; exact ⟨_, rfl, rfl, Inv_next h⟩
  simp only [if_neg d7]
  by_cases d8 : a1 = 8
  · simp only [d8, if_true]; exact ⟨_, rfl, rfl, Inv_next h⟩
  simp only [if_neg d8]
  by_cases d9 : a1 = 9
  · simp only [d9, if_true]; exact ⟨_, rfl, rfl, Inv_next h⟩
  simp only [if_neg d9]
  by_cases d10 : a1 = 10
  · simp only [d10, if_true]; exact ⟨_, rfl, rfl, Inv_next h⟩
  simp only [if_neg d10]
  exact ⟨_, rfl, rfl, Inv_next h⟩
theorem s_wipe {c n : Nat} {μ1 μ2 : Mem} (h : Inv c n μ1 μ2) (hc : c < 512) : ∃ (r : Int32) (ν1 : Mem) (ν2 : Mem), f_X_wipe μ1 = some (r, ν1) ∧ f_M_wipe μ2 = some (r, ν2) ∧ Inv (c + 1) n ν1 ν2 := by
  obtain ⟨t, ht, hCs, hTop, hWr, hStr, hBow, hDen, hBou, hWhi, hCho, hPas, ⟨g, hg1, hg2, hg3, hg4⟩, hr⟩ := id h
  unfold f_X_wipe f_M_wipe
  simp only [nme]
  refine ⟨_, _, _, rfl, by rw [hg2, hg3], h.uGam (EqOn.rf.sI (by simp only [perX, pTop, pStr, pBow, pDen, pBou, pWhi, pCho, pPas, pGam, pLas, pMet, pFin, pShe, true_and, and_true, false_and, and_false, true_or, or_true, false_or, or_false, not_true_eq_false, not_false_eq_true] <;> omega)) (EqOn.rf.sI (by simp only [perM, qCs, qTop, qStr, qBow, qDen, qBou, qWhi, qCho, qPas, qGam, qLas, qMet, qFin, qShe, true_and, and_true, false_and, and_false, true_or, or_true, false_or, or_false, not_true_eq_false, not_false_eq_true] <;> omega)) (fun _ _ _ _ => ⟨0, by omega, rfl, rfl, fun k hk => absurd hk (by omega)⟩)⟩
theorem s_forget {c n : Nat} {μ1 μ2 : Mem} (h : Inv c n μ1 μ2) (hc : c < 512) : ∃ (r : Int32) (ν1 : Mem) (ν2 : Mem), f_X_forget μ1 = some (r, ν1) ∧ f_M_forget μ2 = some (r, ν2) ∧ Inv (c + 1) n ν1 ν2 := by
  obtain ⟨t, ht, hCs, hTop, hWr, hStr, hBow, hDen, hBou, hWhi, hCho, ⟨g, hg1, hg2, hg3, hg4⟩, hr⟩ := id h
  unfold f_X_forget f_M_forget
  simp only [nme]
  refine ⟨_, _, _, rfl, by rw [hg2, hg3], h.uPas (EqOn.rf.sI (by simp only [perX, pTop, pStr, pBow, pDen, pBou, pWhi, pCho, pPas, pGam, pLas, pMet, pFin, pShe, true_and, and_true, false_and, and_false, true_or, or_true, false_or, or_false, not_true_eq_false, not_false_eq_true] <;> omega)) (EqOn.rf.sI (by simp only [perM, qCs, qTop, qStr, qBow, qDen, qBou, qWhi, qCho, qPas, qGam, qLas, qMet, qFin, qShe, true_and, and_true, false_and, and_false, true_or, or_true, false_or, or_false, not_true_eq_false, not_false_eq_true] <;> omega)) (fun _ _ _ _ => ⟨0, by omega, rfl, rfl, fun k hk => absurd hk (by omega)⟩)⟩

theorem y_add (a b : Nat) : nI a + nI b = nI (a + b) := by
  unfold nI
  rw [Int32.ofNat_add]
theorem y_mul (a b : Nat) : nI a * nI b = nI (a * b) := by
  unfold nI
  rw [Int32.ofNat_mul]
theorem y_m1 {t : Nat} (h : t < 2147483648) : (nI t - 1).toInt = (t : Int) - 1 := by
  cases t with
  | zero => decide
  | succ k =>
    have e : nI (k + 1) - 1 = nI k := by rw [← y_s]; exact Int32.add_sub_cancel _ _
    rw [e, nI_t (by omega)]
    omega
theorem m120 (s i : Nat) : (120 : Int32) * nI s + nI i = nI (120 * s + i) := by
  show nI 120 * nI s + nI i = _
  rw [y_mul, y_add]
theorem sr3 : ∀ s, s < 4 → srX (48 + 2 * s) 3 = 49 + 2 * s := by decide +kernel
theorem Inv.fin {c n : Nat} {x m : Mem} (h : Inv c n x m) (v : Int32) : Inv (c + 1) n (sI x 0 13 v) (sI m 0 66 v) :=
  h.uFin (EqOn.rf.sI (by simp only [perX, pTop, pStr, pBow, pDen, pBou, pWhi, pCho, pPas, pGam, pLas, pMet, pFin, pShe, true_and, and_true, false_and, and_false, true_or, or_true, false_or, or_false, not_true_eq_false, not_false_eq_true] <;> omega)) (EqOn.rf.sI (by simp only [perM, qCs, qTop, qStr, qBow, qDen, qBou, qWhi, qCho, qPas, qGam, qLas, qMet, qFin, qShe, true_and, and_true, false_and, and_false, true_or, or_true, false_or, or_false, not_true_eq_false, not_false_eq_true] <;> omega)) (fun _ _ _ _ => by simp only [iFin, gI_sI, if_true])
theorem fnd {c n : Nat} {x m : Mem} (h : Inv c n x m) (v : Int32) : ∃ (r : Int32) (ν1 : Mem) (ν2 : Mem), f_X_find x v = some (r, ν1) ∧ f_M_met2 m v = some (r, ν2) ∧ Inv (c + 1) n ν1 ν2 := ⟨_, _, _, rfl, rfl, h.fin v⟩
theorem s_lose {c n : Nat} {μ1 μ2 : Mem} (h : Inv c n μ1 μ2) (hc : c < 512) (a1 : Int32) : ∃ (r : Int32) (ν1 : Mem) (ν2 : Mem), f_X_lose μ1 a1 = some (r, ν1) ∧ f_M_lose μ2 a1 = some (r, ν2) ∧ Inv (c + 1) n ν1 ν2 := by
  obtain ⟨t, ht, hCs, hTop, hWr, hStr, hBow, hDen, hBou, hWhi, hCho, hPas, hGam, hLas, hMet, hFin, hShe⟩ := id h
  unfold f_X_lose f_M_lose
  rw [bSheet, bIsSheet]
  by_cases c1 : 0 ≤ a1.toInt ∧ a1.toInt ≤ 3
  · obtain ⟨s, hs, rfl⟩ := toN (n := 4) c1.1 (by omega)
    obtain ⟨l, q1, q2, q3, q4, q5⟩ := hShe s hs
    have es : (nI s).toInt.toNat = s := by rw [nI_t (by omega)]; omega
    rw [if_pos c1, if_pos c1, es]
    simp only [ib_n hs (by omega), ix_n (show s < 2147483648 by omega), bw, bn2, bOw, bOn, nme, b2s, bs, zn10, zn01, ze10, ze00, ze01, ze11, if_true, if_false, not_true_eq_false, not_false_eq_true, l32_0, l32_1, l32_2, l32_3, l32_4, l32_5, l32_7, l32_8, l32_9, l32_12, l32_20, l32_24, l32_25, l32_30, l32_31, l32_35, l32_40, l32_50, l32_60, l32_100, l32_120, l32_200, l32_255, l32_400, l32_m1, l32_m9, l32_m20, l32_m30, l32_m31, l64_0, l64_1, l64_2, l64_3, l64_4, l64_5, l64_7, l64_8, l64_9, l64_12, l64_20, l64_24, l64_25, l64_30, l64_31, l64_35, l64_40, l64_50, l64_60, l64_100, l64_120, l64_200, l64_255, l64_400, l64_m1, l64_m9, l64_m20, l64_m30, l64_m31]
    rcases q4 with ⟨z1, z2, z3⟩ | ⟨z1, z2⟩
    · have g : (0 : Int32) ≤ gI μ2 45 s := by rw [Int32.le_iff_toInt_le]; exact z3.1
      simp only [z1, if_true, if_pos g]
      refine ⟨_, _, sI μ2 45 s (-1), rfl, ?_, h.uShe (EqOn.rf.sI (by simp only [perX, pTop, pStr, pBow, pDen, pBou, pWhi, pCho, pPas, pGam, pLas, pMet, pFin, pShe, true_and, and_true, false_and, and_false, true_or, or_true, false_or, or_false, not_true_eq_false, not_false_eq_true] <;> omega)) (EqOn.rf.sI (by simp only [perM, qCs, qTop, qStr, qBow, qDen, qBou, qWhi, qCho, qPas, qGam, qLas, qMet, qFin, qShe, true_and, and_true, false_and, and_false, true_or, or_true, false_or, or_false, not_true_eq_false, not_false_eq_true] <;> omega)) (fun _ _ _ _ s' hs' => ?_)⟩
      · simp only [gI_sI, if_true, Nat.reduceEqDiff, if_false, q2, q3]
      · obtain ⟨l', p1, p2, p3, p4, p5⟩ := hShe s' hs'
        refine ⟨l', p1, ?_, ?_, ?_, ?_⟩
        · by_cases e : s' = s
          · subst e; simp only [gI_sI, if_true, Nat.reduceEqDiff, if_false]; exact p2
          · rw [gI_sI, if_neg (by omega)]; exact p2
        · rw [gI_sI, if_neg (by omega)]; exact p3
        · by_cases e : s' = s
          · subst e; simp only [gI_sI, if_true, Nat.reduceEqDiff, if_false]
            exact Or.inr ⟨trivial, trivial⟩
          · simp only [gI_sI, if_true, if_neg e, if_neg (show ¬ 48 + 2 * s' = 48 + 2 * s by omega)]; exact p4
        · intro i hi
          rw [gI_sI, if_neg (by omega), gI_sI, if_neg (by omega)]; exact p5 i hi
    · have g : ¬ (0 : Int32) ≤ gI μ2 45 s := by rw [z2]; decide
      simp only [z1, z2, if_neg g, ze10, if_false, if_neg (show ¬ (0 : Int32) ≤ -1 by decide)]
      exact ⟨_, _, _, rfl, rfl, h.fin 1⟩
  · rw [if_neg c1, if_neg c1]
    exact ⟨_, _, _, rfl, rfl, Inv_next h⟩
/-- a sheet, a form and a place that both sides take -/
theorem she_t {s l : Nat} {x m : Mem} {f v : Int32} (hs : s < 4) (hl : l ≤ 120) (q2 : gI x (48 + 2 * s) 2 = nI l) (q3 : gI m 46 s = nI l) (q4 : (gI x (48 + 2 * s) 0 = 0 ∧ gI x (48 + 2 * s) 1 = gI m 45 s ∧ bt (gI m 45 s) 0 2) ∨ (gI x (48 + 2 * s) 0 = 1 ∧ gI m 45 s = -1)) :
    (f_Sh_findingAt x (48 + 2 * s) f v = some 0 ∧ f_M_lacks m (nI s) f v = some (0, m) ∧ gI x (48 + 2 * s) 1 = f ∧ ∃ i, i < l ∧ v = nI i) ∨ ∃ w r, ¬ w = 0 ∧ ¬ r = 0 ∧ f_Sh_findingAt x (48 + 2 * s) f v = some w ∧ f_X_find x w = some (r, sI x 0 13 w) ∧ f_M_lacks m (nI s) f v = some (r, sI m 0 66 w) := by
  unfold f_Sh_findingAt f_M_lacks f_M_met2
  simp only [ib_n hs (by omega), ix_n (show s < 2147483648 by omega), q2, q3, bn2, Int32.toInt_toInt64, y_m1 (show l < 2147483648 by omega), Int32.lt_iff_toInt_lt, Int32.le_iff_toInt_le, nI_t (show l < 2147483648 by omega), bw, bn2, bOw, bOn, nme, b2s, bs, zn10, zn01, ze10, ze00, ze01, ze11, if_true, if_false, not_true_eq_false, not_false_eq_true, l32_0, l32_1, l32_2, l32_3, l32_4, l32_5, l32_7, l32_8, l32_9, l32_12, l32_20, l32_24, l32_25, l32_30, l32_31, l32_35, l32_40, l32_50, l32_60, l32_100, l32_120, l32_200, l32_255, l32_400, l32_m1, l32_m9, l32_m20, l32_m30, l32_m31, l64_0, l64_1, l64_2, l64_3, l64_4, l64_5, l64_7, l64_8, l64_9, l64_12, l64_20, l64_24, l64_25, l64_30, l64_31, l64_35, l64_40, l64_50, l64_60, l64_100, l64_120, l64_200, l64_255, l64_400, l64_m1, l64_m9, l64_m20, l64_m30, l64_m31]
  rcases q4 with ⟨z1, z2, z3⟩ | ⟨z1, z2⟩
  · rw [z1, z2, if_pos rfl, if_pos z3.1]
    by_cases e : f = gI m 45 s
    · rw [if_pos e, if_pos e.symm]
      by_cases c1 : 0 ≤ v.toInt ∧ v.toInt ≤ (l : Int) - 1
      · refine Or.inl ⟨?_, ?_, e.symm, toN c1.1 (by omega)⟩
        · rw [if_neg (by omega), if_neg (by omega)]
        · rw [if_pos c1]
      · refine Or.inr ⟨2, -10 - 2, by decide, by decide, ?_, rfl, ?_⟩
        · by_cases c2 : v.toInt < 0
          · rw [if_pos c2]
          · rw [if_neg c2, if_pos (by omega)]
        · rw [if_neg c1]
    · rw [if_neg e, if_neg (fun q => e q.symm)]
      exact Or.inr ⟨3, -10 - 3, by decide, by decide, rfl, rfl, rfl⟩
  · rw [z1, z2]
    exact Or.inr ⟨1, -10 - 1, by decide, by decide, rfl, rfl, rfl⟩
theorem s_get {c n : Nat} {μ1 μ2 : Mem} (h : Inv c n μ1 μ2) (hc : c < 512) (a1 : Int32) (a2 : Int32) (a3 : Int32) : ∃ (r : Int32) (ν1 : Mem) (ν2 : Mem), f_X_get μ1 a1 a2 a3 = some (r, ν1) ∧ f_M_get μ2 a1 a2 a3 = some (r, ν2) ∧ Inv (c + 1) n ν1 ν2 := by
  obtain ⟨t, ht, hCs, hTop, hWr, hStr, hBow, hDen, hBou, hWhi, hCho, hPas, hGam, hLas, hMet, hFin, hShe⟩ := id h
  unfold f_X_get f_M_get
  rw [bSheet, bIsSheet]
  by_cases c1 : 0 ≤ a1.toInt ∧ a1.toInt ≤ 3
  · obtain ⟨s, hs, rfl⟩ := toN (n := 4) c1.1 (by omega)
    obtain ⟨l, q1, q2, q3, q4, q5⟩ := hShe s hs
    have es : (nI s).toInt.toNat = s := by rw [nI_t (by omega)]; omega
    rw [if_pos c1, if_pos c1, es]
    simp only [bForm, bw, bn2, bOw, bOn, nme, b2s, bs, zn10, zn01, ze10, ze00, ze01, ze11, if_true, if_false, not_true_eq_false, not_false_eq_true, l32_0, l32_1, l32_2, l32_3, l32_4, l32_5, l32_7, l32_8, l32_9, l32_12, l32_20, l32_24, l32_25, l32_30, l32_31, l32_35, l32_40, l32_50, l32_60, l32_100, l32_120, l32_200, l32_255, l32_400, l32_m1, l32_m9, l32_m20, l32_m30, l32_m31, l64_0, l64_1, l64_2, l64_3, l64_4, l64_5, l64_7, l64_8, l64_9, l64_12, l64_20, l64_24, l64_25, l64_30, l64_31, l64_35, l64_40, l64_50, l64_60, l64_100, l64_120, l64_200, l64_255, l64_400, l64_m1, l64_m9, l64_m20, l64_m30, l64_m31]
    by_cases c2 : 0 ≤ a2.toInt ∧ a2.toInt ≤ 2
    · simp only [if_pos c2]
      rcases she_t (f := a2) (v := a3) hs q1 q2 q3 q4 with ⟨w1, w2, w3, i, hi, rfl⟩ | ⟨w, r, w0, r0, w1, w4, w2⟩
      · have hx : f_Sh_item μ1 (48 + 2 * s) (nI i) = some (gI μ1 (49 + 2 * s) i) := by
          unfold f_Sh_item
          simp only [q2, Int32.lt_iff_toInt_lt, Int32.le_iff_toInt_le, nI_t (show l < 2147483648 by omega), nI_t (show i < 2147483648 by omega), l32_0, ib_n (show i < 120 by omega) (by omega), ix_n (show i < 2147483648 by omega), sr3 s hs]
          rw [if_neg (by omega), if_neg (by omega), if_pos trivial]
        simp only [w1, w2, hx, m120, ib_n (show 120 * s + i < 480 by omega) (by omega), ix_n (show 120 * s + i < 2147483648 by omega), q5 i hi, bw, bn2, bOw, bOn, nme, b2s, bs, zn10, zn01, ze10, ze00, ze01, ze11, if_true, if_false, not_true_eq_false, not_false_eq_true, l32_0, l32_1, l32_2, l32_3, l32_4, l32_5, l32_7, l32_8, l32_9, l32_12, l32_20, l32_24, l32_25, l32_30, l32_31, l32_35, l32_40, l32_50, l32_60, l32_100, l32_120, l32_200, l32_255, l32_400, l32_m1, l32_m9, l32_m20, l32_m30, l32_m31, l64_0, l64_1, l64_2, l64_3, l64_4, l64_5, l64_7, l64_8, l64_9, l64_12, l64_20, l64_24, l64_25, l64_30, l64_31, l64_35, l64_40, l64_50, l64_60, l64_100, l64_120, l64_200, l64_255, l64_400, l64_m1, l64_m9, l64_m20, l64_m30, l64_m31]
        exact ⟨_, _, _, rfl, rfl, Inv_next h⟩
      · simp only [w1, w2, w4, if_neg w0, if_neg r0, bw, bn2, bOw, bOn, nme, b2s, bs, zn10, zn01, ze10, ze00, ze01, ze11, if_true, if_false, not_true_eq_false, not_false_eq_true, l32_0, l32_1, l32_2, l32_3, l32_4, l32_5, l32_7, l32_8, l32_9, l32_12, l32_20, l32_24, l32_25, l32_30, l32_31, l32_35, l32_40, l32_50, l32_60, l32_100, l32_120, l32_200, l32_255, l32_400, l32_m1, l32_m9, l32_m20, l32_m30, l32_m31, l64_0, l64_1, l64_2, l64_3, l64_4, l64_5, l64_7, l64_8, l64_9, l64_12, l64_20, l64_24, l64_25, l64_30, l64_31, l64_35, l64_40, l64_50, l64_60, l64_100, l64_120, l64_200, l64_255, l64_400, l64_m1, l64_m9, l64_m20, l64_m30, l64_m31]
        exact ⟨_, _, _, rfl, rfl, h.fin w⟩
    · simp only [if_neg c2]
      exact ⟨_, _, _, rfl, rfl, Inv_next h⟩
  · rw [if_neg c1, if_neg c1]
    exact ⟨_, _, _, rfl, rfl, Inv_next h⟩
theorem s_put {c n : Nat} {μ1 μ2 : Mem} (h : Inv c n μ1 μ2) (hc : c < 512) (a1 : Int32) (a2 : Int32) (a3 : Int32) (a4 : Int32) : ∃ (r : Int32) (ν1 : Mem) (ν2 : Mem), f_X_put μ1 a1 a2 a3 a4 = some (r, ν1) ∧ f_M_put μ2 a1 a2 a3 a4 = some (r, ν2) ∧ Inv (c + 1) n ν1 ν2 := by
  obtain ⟨t, ht, hCs, hTop, hWr, hStr, hBow, hDen, hBou, hWhi, hCho, hPas, hGam, hLas, hMet, hFin, hShe⟩ := id h
  unfold f_X_put f_M_put
  rw [bSheet, bIsSheet]
  by_cases c1 : 0 ≤ a1.toInt ∧ a1.toInt ≤ 3
  · obtain ⟨s, hs, rfl⟩ := toN (n := 4) c1.1 (by omega)
    obtain ⟨l, q1, q2, q3, q4, q5⟩ := hShe s hs
    have es : (nI s).toInt.toNat = s := by rw [nI_t (by omega)]; omega
    rw [if_pos c1, if_pos c1, es]
    simp only [bForm, bw, bn2, bOw, bOn, nme, b2s, bs, zn10, zn01, ze10, ze00, ze01, ze11, if_true, if_false, not_true_eq_false, not_false_eq_true, l32_0, l32_1, l32_2, l32_3, l32_4, l32_5, l32_7, l32_8, l32_9, l32_12, l32_20, l32_24, l32_25, l32_30, l32_31, l32_35, l32_40, l32_50, l32_60, l32_100, l32_120, l32_200, l32_255, l32_400, l32_m1, l32_m9, l32_m20, l32_m30, l32_m31, l64_0, l64_1, l64_2, l64_3, l64_4, l64_5, l64_7, l64_8, l64_9, l64_12, l64_20, l64_24, l64_25, l64_30, l64_31, l64_35, l64_40, l64_50, l64_60, l64_100, l64_120, l64_200, l64_255, l64_400, l64_m1, l64_m9, l64_m20, l64_m30, l64_m31]
    by_cases c2 : 0 ≤ a2.toInt ∧ a2.toInt ≤ 2
    · simp only [if_pos c2]
      rcases she_t (f := a2) (v := a3) hs q1 q2 q3 q4 with ⟨w1, w2, w3, i, hi, rfl⟩ | ⟨w, r, w0, r0, w1, w4, w2⟩
      · obtain ⟨g, hg1, hg2⟩ : ∃ g, f_Sh_narrowed μ1 (48 + 2 * s) a4 = some g ∧ f_M_cut a2 a4 = some g := by
          unfold f_Sh_narrowed f_M_cut
          rw [w3]
          by_cases d0 : a2 = 0
          · simp only [d0, bw, bn2, bOw, bOn, nme, b2s, bs, zn10, zn01, ze10, ze00, ze01, ze11, if_true, if_false, not_true_eq_false, not_false_eq_true, l32_0, l32_1, l32_2, l32_3, l32_4, l32_5, l32_7, l32_8, l32_9, l32_12, l32_20, l32_24, l32_25, l32_30, l32_31, l32_35, l32_40, l32_50, l32_60, l32_100, l32_120, l32_200, l32_255, l32_400, l32_m1, l32_m9, l32_m20, l32_m30, l32_m31, l64_0, l64_1, l64_2, l64_3, l64_4, l64_5, l64_7, l64_8, l64_9, l64_12, l64_20, l64_24, l64_25, l64_30, l64_31, l64_35, l64_40, l64_50, l64_60, l64_100, l64_120, l64_200, l64_255, l64_400, l64_m1, l64_m9, l64_m20, l64_m30, l64_m31]; exact ⟨_, rfl, rfl⟩
          by_cases d1 : a2 = 1
          · simp only [d1, bw, bn2, bOw, bOn, nme, b2s, bs, zn10, zn01, ze10, ze00, ze01, ze11, if_true, if_false, not_true_eq_false, not_false_eq_true, l32_0, l32_1, l32_2, l32_3, l32_4, l32_5, l32_7, l32_8, l32_9, l32_12, l32_20, l32_24, l32_25, l32_30, l32_31, l32_35, l32_40, l32_50, l32_60, l32_100, l32_120, l32_200, l32_255, l32_400, l32_m1, l32_m9, l32_m20, l32_m30, l32_m31, l64_0, l64_1, l64_2, l64_3, l64_4, l64_5, l64_7, l64_8, l64_9, l64_12, l64_20, l64_24, l64_25, l64_30, l64_31, l64_35, l64_40, l64_50, l64_60, l64_100, l64_120, l64_200, l64_255, l64_400, l64_m1, l64_m9, l64_m20, l64_m30, l64_m31]; exact ⟨_, rfl, rfl⟩
          simp only [d0, d1, bw, bn2, bOw, bOn, nme, b2s, bs, zn10, zn01, ze10, ze00, ze01, ze11, if_true, if_false, not_true_eq_false, not_false_eq_true, l32_0, l32_1, l32_2, l32_3, l32_4, l32_5, l32_7, l32_8, l32_9, l32_12, l32_20, l32_24, l32_25, l32_30, l32_31, l32_35, l32_40, l32_50, l32_60, l32_100, l32_120, l32_200, l32_255, l32_400, l32_m1, l32_m9, l32_m20, l32_m30, l32_m31, l64_0, l64_1, l64_2, l64_3, l64_4, l64_5, l64_7, l64_8, l64_9, l64_12, l64_20, l64_24, l64_25, l64_30, l64_31, l64_35, l64_40, l64_50, l64_60, l64_100, l64_120, l64_200, l64_255, l64_400, l64_m1, l64_m9, l64_m20, l64_m30, l64_m31]; exact ⟨_, rfl, rfl⟩
        have hx : f_Sh_store μ1 (48 + 2 * s) (nI i) a4 = some (sI μ1 (49 + 2 * s) i g) := by
          unfold f_Sh_store
          simp only [hg1, q2, Int32.lt_iff_toInt_lt, Int32.le_iff_toInt_le, nI_t (show l < 2147483648 by omega), nI_t (show i < 2147483648 by omega), ib_n (show i < 120 by omega) (by omega), ix_n (show i < 2147483648 by omega), sr3 s hs, bw, bn2, bOw, bOn, nme, b2s, bs, zn10, zn01, ze10, ze00, ze01, ze11, if_true, if_false, not_true_eq_false, not_false_eq_true, l32_0, l32_1, l32_2, l32_3, l32_4, l32_5, l32_7, l32_8, l32_9, l32_12, l32_20, l32_24, l32_25, l32_30, l32_31, l32_35, l32_40, l32_50, l32_60, l32_100, l32_120, l32_200, l32_255, l32_400, l32_m1, l32_m9, l32_m20, l32_m30, l32_m31, l64_0, l64_1, l64_2, l64_3, l64_4, l64_5, l64_7, l64_8, l64_9, l64_12, l64_20, l64_24, l64_25, l64_30, l64_31, l64_35, l64_40, l64_50, l64_60, l64_100, l64_120, l64_200, l64_255, l64_400, l64_m1, l64_m9, l64_m20, l64_m30, l64_m31]
          rw [if_neg (by omega), if_neg (by omega)]
        simp only [w1, w2, hx, hg2, m120, ib_n (show 120 * s + i < 480 by omega) (by omega), ix_n (show 120 * s + i < 2147483648 by omega), bw, bn2, bOw, bOn, nme, b2s, bs, zn10, zn01, ze10, ze00, ze01, ze11, if_true, if_false, not_true_eq_false, not_false_eq_true, l32_0, l32_1, l32_2, l32_3, l32_4, l32_5, l32_7, l32_8, l32_9, l32_12, l32_20, l32_24, l32_25, l32_30, l32_31, l32_35, l32_40, l32_50, l32_60, l32_100, l32_120, l32_200, l32_255, l32_400, l32_m1, l32_m9, l32_m20, l32_m30, l32_m31, l64_0, l64_1, l64_2, l64_3, l64_4, l64_5, l64_7, l64_8, l64_9, l64_12, l64_20, l64_24, l64_25, l64_30, l64_31, l64_35, l64_40, l64_50, l64_60, l64_100, l64_120, l64_200, l64_255, l64_400, l64_m1, l64_m9, l64_m20, l64_m30, l64_m31]
        refine ⟨_, _, _, rfl, rfl, h.uShe (EqOn.rf.sI (by simp only [perX, pTop, pStr, pBow, pDen, pBou, pWhi, pCho, pPas, pGam, pLas, pMet, pFin, pShe, true_and, and_true, false_and, and_false, true_or, or_true, false_or, or_false, not_true_eq_false, not_false_eq_true] <;> omega)) (EqOn.rf.sI (by simp only [perM, qCs, qTop, qStr, qBow, qDen, qBou, qWhi, qCho, qPas, qGam, qLas, qMet, qFin, qShe, true_and, and_true, false_and, and_false, true_or, or_true, false_or, or_false, not_true_eq_false, not_false_eq_true] <;> omega)) (fun _ _ _ _ s' hs' => ?_)⟩
        obtain ⟨l', p1, p2, p3, p4, p5⟩ := hShe s' hs'
        refine ⟨l', p1, ?_, ?_, ?_, ?_⟩
        · rw [gI_sI, if_neg (by omega)]; exact p2
        · rw [gI_sI, if_neg (by omega)]; exact p3
        · simp only [gI_sI, if_neg (show ¬ 48 + 2 * s' = 49 + 2 * s by omega), if_neg (show ¬ 45 = 47 by omega)]; exact p4
        · intro j hj
          simp only [gI_sI, if_true]
          by_cases e : s' = s
          · subst e
            by_cases e2 : j = i
            · subst e2; simp only [if_true]
            · rw [if_pos rfl, if_neg e2, if_neg (by omega)]; exact p5 j hj
          · rw [if_neg (by omega), if_neg (by omega)]; exact p5 j hj
      · simp only [w1, w2, w4, if_neg w0, if_neg r0, bw, bn2, bOw, bOn, nme, b2s, bs, zn10, zn01, ze10, ze00, ze01, ze11, if_true, if_false, not_true_eq_false, not_false_eq_true, l32_0, l32_1, l32_2, l32_3, l32_4, l32_5, l32_7, l32_8, l32_9, l32_12, l32_20, l32_24, l32_25, l32_30, l32_31, l32_35, l32_40, l32_50, l32_60, l32_100, l32_120, l32_200, l32_255, l32_400, l32_m1, l32_m9, l32_m20, l32_m30, l32_m31, l64_0, l64_1, l64_2, l64_3, l64_4, l64_5, l64_7, l64_8, l64_9, l64_12, l64_20, l64_24, l64_25, l64_30, l64_31, l64_35, l64_40, l64_50, l64_60, l64_100, l64_120, l64_200, l64_255, l64_400, l64_m1, l64_m9, l64_m20, l64_m30, l64_m31]
        exact ⟨_, _, _, rfl, rfl, h.fin w⟩
    · simp only [if_neg c2]
      exact ⟨_, _, _, rfl, rfl, Inv_next h⟩
  · rw [if_neg c1, if_neg c1]
    exact ⟨_, _, _, rfl, rfl, Inv_next h⟩

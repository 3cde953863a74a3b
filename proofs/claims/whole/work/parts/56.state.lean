theorem Inv.lower {c c' n : Nat} {x m : Mem} (h : Inv c' n x m) (hm : iMet c x m) : Inv c n x m := by
  obtain ⟨t, h1, hCs, hTop, hWr, hStr, hBow, hDen, hBou, hWhi, hCho, hPas, hGam, hLas, hMet, hFin, hShe⟩ := h
  exact ⟨t, h1, hCs, hTop, hWr, hStr, hBow, hDen, hBou, hWhi, hCho, hPas, hGam, hLas, hm, hFin, hShe⟩
theorem Inv.m {c n : Nat} {x m : Mem} (h : Inv c n x m) : iMet c x m := by
  obtain ⟨t, h1, hCs, hTop, hWr, hStr, hBow, hDen, hBou, hWhi, hCho, hPas, hGam, hLas, hMet, hFin, hShe⟩ := h
  exact hMet
theorem rS.eq {s u : SS} (h : rS False s u) : s = u := by
  obtain ⟨x, y, p, q, hh, s, l, f⟩ := s
  obtain ⟨x', y', p', q', hh', s', l', f'⟩ := u
  obtain ⟨e1, e2, e3, e4, e5, e6, e7, e8⟩ := h
  have e9 : f = f' := by
    rcases e8 with ⟨e, _⟩ | ⟨e, _⟩
    · exact e
    · exact absurd e id
  simp only at e1 e2 e3 e4 e5 e6 e7
  rw [e1, e2, e3, e4, e5, e6, e7, e9]
theorem fig_e {x m : Mem} {a i : Nat} (hi : i < 4) (h : stX x a = stM m i) (v : Int32) : ∃ r, f_Sp_figure x a v = some r ∧ f_M_stateOf m (nI i) v = some r := by
  have e1 : gL x a 10 = gL m 21 i := congrArg (fun s : SS => s.1) h
  have e2 : gL x a 11 = gL m 22 i := congrArg (fun s : SS => s.2.1) h
  have e3 : gL x a 12 = gL m 24 i := congrArg (fun s : SS => s.2.2.1) h
  have e4 : gL x a 13 = gL m 25 i := congrArg (fun s : SS => s.2.2.2.1) h
  have e5 : gI x a 14 = gI m 23 i := congrArg (fun s : SS => s.2.2.2.2.1) h
  have e6 : gI x a 15 = gI m 26 i := congrArg (fun s : SS => s.2.2.2.2.2.1) h
  have e7 : gI x a 16 = gI m 27 i := congrArg (fun s : SS => s.2.2.2.2.2.2.1) h
  have e8 : gI x a 17 = gI m 28 i := congrArg (fun s : SS => s.2.2.2.2.2.2.2) h
  have ei : ib (nI i) 4 = true := ib_n hi (by omega)
  unfold f_Sp_figure f_M_stateOf
  rw [e1, e2, e3, e4, e5, e6, e7, e8, ix_n (by omega)]
  simp only [if_pos ei]
  by_cases c0 : v = 0
  · simp only [if_pos c0]; exact ⟨_, rfl, rfl⟩
  by_cases c1 : v = 1
  · simp only [if_neg c0, if_pos c1]; exact ⟨_, rfl, rfl⟩
  by_cases c2 : v = 2
  · simp only [if_neg c0, if_neg c1, if_pos c2]; exact ⟨_, rfl, rfl⟩
  by_cases c3 : v = 3
  · simp only [if_neg c0, if_neg c1, if_neg c2, if_pos c3]; exact ⟨_, rfl, rfl⟩
  by_cases c4 : v = 4
  · simp only [if_neg c0, if_neg c1, if_neg c2, if_neg c3, if_pos c4]; exact ⟨_, rfl, rfl⟩
  by_cases c5 : v = 5
  · simp only [if_neg c0, if_neg c1, if_neg c2, if_neg c3, if_neg c4, if_pos c5]; exact ⟨_, rfl, rfl⟩
  by_cases c6 : v = 6
  · simp only [if_neg c0, if_neg c1, if_neg c2, if_neg c3, if_neg c4, if_neg c5, if_pos c6]; exact ⟨_, rfl, rfl⟩
  simp only [if_neg c0, if_neg c1, if_neg c2, if_neg c3, if_neg c4, if_neg c5, if_neg c6]; exact ⟨_, rfl, rfl⟩
theorem at_in {x : Mem} {i p : Nat} (hp : p ≤ 4) (h : gI x 5 1 = nI p) (hi : i < p) : f_Bt_at x 5 (nI i) = some (some (10 + i)) := by
  unfold f_Bt_at
  rw [h, if_neg (show ¬ nI i < 0 by show ¬ nI i < nI 0; rw [y_lt (by omega) (by omega)]; omega), if_neg (P_le hp hi), if_neg (show ¬ (4 : Int32) ≤ nI i by show ¬ nI 4 ≤ nI i; rw [y_le (by omega) (by omega)]; omega), if_pos (ib_n (show i < 4 by omega) (by omega)), ix_n (by omega), sr_b (Or.inl ⟨rfl, rfl⟩) (by omega)]
theorem at_out {x : Mem} {p : Nat} {v : Int32} (hp : p ≤ 4) (h : gI x 5 1 = nI p) (hv : ¬ (0 ≤ v.toInt ∧ v.toInt < (p : Int))) : f_Bt_at x 5 v = some none := by
  unfold f_Bt_at
  rw [h]
  simp only [Int32.lt_iff_toInt_lt, Int32.le_iff_toInt_le, show (0 : Int32).toInt = 0 from rfl, nI_t (show p < 2147483648 by omega)]
  by_cases c : v.toInt < 0
  · rw [if_pos c]
  · rw [if_neg c, if_pos (by omega)]
theorem s_state {c n : Nat} {μ1 μ2 : Mem} (h : Inv c n μ1 μ2) (hc : c < 512) (a1 : Int32) (a2 : Int32) (a3 : Int32) : ∃ (r : Int32) (ν1 : Mem) (ν2 : Mem), f_X_state FN μ1 a1 a2 a3 = some (r, ν1) ∧ f_M_state FN μ2 a1 a2 a3 = some (r, ν2) ∧ Inv (c + 1) n ν1 ν2 := by
  obtain ⟨t, ht, hCs, hTop, hWr, hStr, hBow, hDen, hBou, hWhi, hCho, hPas, hGam, hLas, hMet, hFin, hShe⟩ := id h
  obtain ⟨p, p1, p2, p3, p4⟩ := hBou
  unfold f_X_state f_M_state f_X_state_b35
  rw [bn2, p3, Int32.toInt_toInt64, nIm1 (by omega), show (0 : Int64).toInt = 0 from rfl]
  by_cases c1 : 0 ≤ a1.toInt ∧ a1.toInt ≤ (p : Int) - 1
  · obtain ⟨i, hi, rfl⟩ := toN (n := p) c1.1 (by omega)
    rw [if_pos c1, at_in p1 p2 hi, bs, bw]
    simp only [bn2, bw, bw, bn2, bOw, bOn, nme, b2s, bs, zn10, zn01, ze10, ze00, ze01, ze11, if_true, if_false, not_true_eq_false, not_false_eq_true, l32_0, l32_1, l32_2, l32_3, l32_4, l32_5, l32_7, l32_8, l32_9, l32_12, l32_20, l32_24, l32_25, l32_30, l32_31, l32_35, l32_40, l32_50, l32_60, l32_100, l32_120, l32_200, l32_255, l32_400, l32_m1, l32_m9, l32_m20, l32_m30, l32_m31, l64_0, l64_1, l64_2, l64_3, l64_4, l64_5, l64_7, l64_8, l64_9, l64_12, l64_20, l64_24, l64_25, l64_30, l64_31, l64_35, l64_40, l64_50, l64_60, l64_100, l64_120, l64_200, l64_255, l64_400, l64_m1, l64_m9, l64_m20, l64_m30, l64_m31]
    unfold f_X_state_b36
    simp only [bw, bn2, bOw, bOn, nme, b2s, bs, zn10, zn01, ze10, ze00, ze01, ze11, if_true, if_false, not_true_eq_false, not_false_eq_true, l32_0, l32_1, l32_2, l32_3, l32_4, l32_5, l32_7, l32_8, l32_9, l32_12, l32_20, l32_24, l32_25, l32_30, l32_31, l32_35, l32_40, l32_50, l32_60, l32_100, l32_120, l32_200, l32_255, l32_400, l32_m1, l32_m9, l32_m20, l32_m30, l32_m31, l64_0, l64_1, l64_2, l64_3, l64_4, l64_5, l64_7, l64_8, l64_9, l64_12, l64_20, l64_24, l64_25, l64_30, l64_31, l64_35, l64_40, l64_50, l64_60, l64_100, l64_120, l64_200, l64_255, l64_400, l64_m1, l64_m9, l64_m20, l64_m30, l64_m31]
    by_cases c2 : 0 ≤ a2.toInt ∧ a2.toInt ≤ 400
    · rw [if_pos c2, if_pos c2]
      by_cases c3 : 0 ≤ a3.toInt ∧ a3.toInt ≤ 7
      · rw [if_pos c3, if_pos c3, p2]
        by_cases c4 : 2 ≤ p
        · obtain ⟨la, hla, rfl⟩ := toN (v := a2) (n := 401) c2.1 (by omega)
          obtain ⟨r, t', x', m', q1, q2, q3, q4, q5, q6, q7, q8, q9⟩ := bout_j h p2 p1 (last := la) (by omega)
          obtain ⟨v, v1, v2⟩ := fig_e (show i < 4 by omega) ((q6 i hi).1.eq) a3
          rw [if_pos ((two_le p1).mpr c4), if_pos ((two_le p1).mpr c4), q1, q2, b2s, b2s, v1, v2, bs, bs]
          exact ⟨_, _, _, rfl, rfl, Inv_next q7⟩
        · rw [if_neg (fun q => c4 ((two_le p1).mp q)), if_neg (fun q => c4 ((two_le p1).mp q))]
          exact ⟨_, _, _, rfl, rfl, Inv_next h⟩
      · rw [if_neg c3, if_neg c3]
        exact ⟨_, _, _, rfl, rfl, Inv_next h⟩
    · rw [if_neg c2, if_neg c2]
      exact ⟨_, _, _, rfl, rfl, Inv_next h⟩
  · rw [if_neg c1, at_out p1 p2 (by omega), bs, bw]
    simp only [bw, bw, bn2, bOw, bOn, nme, b2s, bs, zn10, zn01, ze10, ze00, ze01, ze11, if_true, if_false, not_true_eq_false, not_false_eq_true, l32_0, l32_1, l32_2, l32_3, l32_4, l32_5, l32_7, l32_8, l32_9, l32_12, l32_20, l32_24, l32_25, l32_30, l32_31, l32_35, l32_40, l32_50, l32_60, l32_100, l32_120, l32_200, l32_255, l32_400, l32_m1, l32_m9, l32_m20, l32_m30, l32_m31, l64_0, l64_1, l64_2, l64_3, l64_4, l64_5, l64_7, l64_8, l64_9, l64_12, l64_20, l64_24, l64_25, l64_30, l64_31, l64_35, l64_40, l64_50, l64_60, l64_100, l64_120, l64_200, l64_255, l64_400, l64_m1, l64_m9, l64_m20, l64_m30, l64_m31]
    unfold f_X_state_b36
    simp only [ite_self]
    exact ⟨_, _, _, rfl, rfl, Inv_next h⟩
theorem k8 : ∀ k, k < 32 → nI k / 8 = nI (k / 8) ∧ nI k - nI k / 8 * 8 = nI (k % 8) := by decide +kernel
theorem write_l {c n0 s l p N0 : Nat} (hs : s < 4) (hl : l ≤ 120) (hp : p ≤ 4) (hN : N0 ≤ l) (hN2 : N0 ≤ 8 * p) : ∀ d n k x m, k + d = N0 → d < n → Inv c n0 x m → gI x (48 + 2 * s) 2 = nI l → gI x (48 + 2 * s) 1 = gI m 45 s → gI x 5 1 = nI p → (∀ i, i < p → stX x (10 + i) = stM m i) → ∃ x' m', f_X_write_l79 FN n (48 + 2 * s) (nI N0) (nI k) x = some (nI N0, x') ∧ f_M_write_l91 FN n (nI s) (nI N0) (nI k) m = some (nI N0, m') ∧ Inv c n0 x' m' := by
  intro d
  induction d with
  | zero =>
    intro n k x m h1 h2 h g2 g1 g5 hst
    obtain ⟨n', rfl⟩ : ∃ n', n = n' + 1 := ⟨n - 1, by omega⟩
    have hk : k = N0 := by omega
    subst hk
    refine ⟨x, m, ?_, ?_, h⟩
    · unfold f_X_write_l79
      rw [if_pos (by rw [y_le (by omega) (by omega)]; omega)]
    · unfold f_M_write_l91
      rw [if_pos (by rw [y_le (by omega) (by omega)]; omega)]
  | succ d ih =>
    intro n k x m h1 h2 h g2 g1 g5 hst
    obtain ⟨n', rfl⟩ : ∃ n', n = n' + 1 := ⟨n - 1, by omega⟩
    obtain ⟨e1, e2⟩ := k8 k (by omega)
    have hi : k / 8 < p := by omega
    obtain ⟨v, v1, v2⟩ := fig_e (show k / 8 < 4 by omega) (hst (k / 8) hi) (nI (k % 8))
    obtain ⟨g, hg1, hg2⟩ : ∃ g, f_Sh_narrowed x (48 + 2 * s) v = some g ∧ f_M_cut (gI m 45 s) v = some g := by
      unfold f_Sh_narrowed f_M_cut
      rw [g1]
      by_cases d0 : gI m 45 s = 0
      · simp only [d0, bw, bn2, bOw, bOn, nme, b2s, bs, zn10, zn01, ze10, ze00, ze01, ze11, if_true, if_false, not_true_eq_false, not_false_eq_true, l32_0, l32_1, l32_2, l32_3, l32_4, l32_5, l32_7, l32_8, l32_9, l32_12, l32_20, l32_24, l32_25, l32_30, l32_31, l32_35, l32_40, l32_50, l32_60, l32_100, l32_120, l32_200, l32_255, l32_400, l32_m1, l32_m9, l32_m20, l32_m30, l32_m31, l64_0, l64_1, l64_2, l64_3, l64_4, l64_5, l64_7, l64_8, l64_9, l64_12, l64_20, l64_24, l64_25, l64_30, l64_31, l64_35, l64_40, l64_50, l64_60, l64_100, l64_120, l64_200, l64_255, l64_400, l64_m1, l64_m9, l64_m20, l64_m30, l64_m31]; exact ⟨_, rfl, rfl⟩
      by_cases d1 : gI m 45 s = 1
      · simp only [d1, bw, bn2, bOw, bOn, nme, b2s, bs, zn10, zn01, ze10, ze00, ze01, ze11, if_true, if_false, not_true_eq_false, not_false_eq_true, l32_0, l32_1, l32_2, l32_3, l32_4, l32_5, l32_7, l32_8, l32_9, l32_12, l32_20, l32_24, l32_25, l32_30, l32_31, l32_35, l32_40, l32_50, l32_60, l32_100, l32_120, l32_200, l32_255, l32_400, l32_m1, l32_m9, l32_m20, l32_m30, l32_m31, l64_0, l64_1, l64_2, l64_3, l64_4, l64_5, l64_7, l64_8, l64_9, l64_12, l64_20, l64_24, l64_25, l64_30, l64_31, l64_35, l64_40, l64_50, l64_60, l64_100, l64_120, l64_200, l64_255, l64_400, l64_m1, l64_m9, l64_m20, l64_m30, l64_m31]; exact ⟨_, rfl, rfl⟩
      simp only [d0, d1, bw, bn2, bOw, bOn, nme, b2s, bs, zn10, zn01, ze10, ze00, ze01, ze11, if_true, if_false, not_true_eq_false, not_false_eq_true, l32_0, l32_1, l32_2, l32_3, l32_4, l32_5, l32_7, l32_8, l32_9, l32_12, l32_20, l32_24, l32_25, l32_30, l32_31, l32_35, l32_40, l32_50, l32_60, l32_100, l32_120, l32_200, l32_255, l32_400, l32_m1, l32_m9, l32_m20, l32_m30, l32_m31, l64_0, l64_1, l64_2, l64_3, l64_4, l64_5, l64_7, l64_8, l64_9, l64_12, l64_20, l64_24, l64_25, l64_30, l64_31, l64_35, l64_40, l64_50, l64_60, l64_100, l64_120, l64_200, l64_255, l64_400, l64_m1, l64_m9, l64_m20, l64_m30, l64_m31]; exact ⟨_, rfl, rfl⟩
    have hx : f_Sh_store x (48 + 2 * s) (nI k) v = some (sI x (49 + 2 * s) k g) := by
      unfold f_Sh_store
      simp only [hg1, g2, Int32.lt_iff_toInt_lt, Int32.le_iff_toInt_le, nI_t (show l < 2147483648 by omega), nI_t (show k < 2147483648 by omega), ib_n (show k < 120 by omega) (by omega), ix_n (show k < 2147483648 by omega), sr3 s hs, bw, bn2, bOw, bOn, nme, b2s, bs, zn10, zn01, ze10, ze00, ze01, ze11, if_true, if_false, not_true_eq_false, not_false_eq_true, l32_0, l32_1, l32_2, l32_3, l32_4, l32_5, l32_7, l32_8, l32_9, l32_12, l32_20, l32_24, l32_25, l32_30, l32_31, l32_35, l32_40, l32_50, l32_60, l32_100, l32_120, l32_200, l32_255, l32_400, l32_m1, l32_m9, l32_m20, l32_m30, l32_m31, l64_0, l64_1, l64_2, l64_3, l64_4, l64_5, l64_7, l64_8, l64_9, l64_12, l64_20, l64_24, l64_25, l64_30, l64_31, l64_35, l64_40, l64_50, l64_60, l64_100, l64_120, l64_200, l64_255, l64_400, l64_m1, l64_m9, l64_m20, l64_m30, l64_m31]
      rw [if_neg (by omega), if_neg (by omega)]
    have nk : ¬ nI N0 ≤ nI k := by rw [y_le (by omega) (by omega)]; omega
    have eX : f_X_write_l79 FN (n' + 1) (48 + 2 * s) (nI N0) (nI k) x = f_X_write_l79 FN n' (48 + 2 * s) (nI N0) (nI (k + 1)) (sI x (49 + 2 * s) k g) := by
      conv => lhs; unfold f_X_write_l79
      unfold f_X_write_b122
      rw [if_neg nk, e2, e1, at_in hp g5 hi, bs]
      simp only
      rw [v1, bs, hx, bs, nme, y_s]
    have eM : f_M_write_l91 FN (n' + 1) (nI s) (nI N0) (nI k) m = f_M_write_l91 FN n' (nI s) (nI N0) (nI (k + 1)) (sI m 47 (120 * s + k) g) := by
      conv => lhs; unfold f_M_write_l91
      rw [if_neg nk, if_pos (ib_n hs (by omega)), e2, e1, v2, bs, ix_n (by omega), hg2, bs, m120, if_pos (ib_n (show 120 * s + k < 480 by omega) (by omega)), ix_n (by omega), nme, nme, y_s]
    rw [eX, eM]
    have hShe : iShe x m := by
      obtain ⟨t, h1, hCs, hTop, hWr, hStr, hBow, hDen, hBou, hWhi, hCho, hPas, hGam, hLas, hMet, hFin, hShe⟩ := h
      exact hShe
    have h' : Inv c n0 (sI x (49 + 2 * s) k g) (sI m 47 (120 * s + k) g) := by
      refine Inv.lower (c' := c + 1) (h.uShe (EqOn.rf.sI (by simp only [perX, pTop, pStr, pBow, pDen, pBou, pWhi, pCho, pPas, pGam, pLas, pMet, pFin, pShe, true_and, and_true, false_and, and_false, true_or, or_true, false_or, or_false, not_true_eq_false, not_false_eq_true] <;> omega)) (EqOn.rf.sI (by simp only [perM, qCs, qTop, qStr, qBow, qDen, qBou, qWhi, qCho, qPas, qGam, qLas, qMet, qFin, qShe, true_and, and_true, false_and, and_false, true_or, or_true, false_or, or_false, not_true_eq_false, not_false_eq_true] <;> omega)) (fun _ _ _ _ s' hs' => ?_)) (h.m.cg (EqOn.rf.sI (by unfold pMet; omega)) (EqOn.rf.sI (by unfold qMet; omega)))
      obtain ⟨l', p1, p2, p3, p4, p5⟩ := hShe s' hs'
      refine ⟨l', p1, ?_, ?_, ?_, ?_⟩
      · rw [gI_sI, if_neg (by omega)]; exact p2
      · rw [gI_sI, if_neg (by omega)]; exact p3
      · simp only [gI_sI, if_neg (show ¬ 48 + 2 * s' = 49 + 2 * s by omega), if_neg (show ¬ 45 = 47 by omega)]; exact p4
      · intro j hj
        simp only [gI_sI, if_true]
        by_cases e : s' = s
        · subst e
          by_cases e2 : j = k
          · subst e2; simp only [if_true]
          · rw [if_pos rfl, if_neg e2, if_neg (by omega)]; exact p5 j hj
        · rw [if_neg (by omega), if_neg (by omega)]; exact p5 j hj
    refine ih n' (k + 1) _ _ (by omega) (by omega) h' ?_ ?_ ?_ (fun i hi => ?_)
    · rw [gI_sI, if_neg (by omega)]; exact g2
    · rw [gI_sI, if_neg (by omega), gI_sI, if_neg (by omega)]; exact g1
    · rw [gI_sI, if_neg (by omega)]; exact g5
    · rw [xI0 _ _ _ _ _ (by omega), show stM (sI m 47 (120 * s + k) g) i = stM m i by unfold stM; simp only [gI_sI, gL_sI, reduceIte, Nat.reduceEqDiff]]
      exact hst i hi
theorem s_write {c n : Nat} {μ1 μ2 : Mem} (h : Inv c n μ1 μ2) (hc : c < 512) (a1 : Int32) (a2 : Int32) : ∃ (r : Int32) (ν1 : Mem) (ν2 : Mem), f_X_write FN μ1 a1 a2 = some (r, ν1) ∧ f_M_write FN μ2 a1 a2 = some (r, ν2) ∧ Inv (c + 1) n ν1 ν2 := by
  obtain ⟨t, ht, hCs, hTop, hWr, hStr, hBow, hDen, hBou, hWhi, hCho, hPas, hGam, hLas, hMet, hFin, hShe⟩ := id h
  obtain ⟨p, p1, p2, p3, p4⟩ := hBou
  obtain ⟨r1, x1, m1, f1, f2, f3⟩ := fnd h 1
  unfold f_X_write f_M_write
  rw [bSheet, bIsSheet]
  by_cases c1 : 0 ≤ a1.toInt ∧ a1.toInt ≤ 3
  · obtain ⟨s, hs, rfl⟩ := toN (n := 4) c1.1 (by omega)
    obtain ⟨l, q1, q2, q3, q4, q5⟩ := hShe s hs
    have es : (nI s).toInt.toNat = s := by rw [nI_t (by omega)]; omega
    rw [if_pos c1, if_pos c1, es]
    simp only [ib_n hs (by omega), ix_n (show s < 2147483648 by omega), bw, bn2, bOw, bOn, nme, b2s, bs, zn10, zn01, ze10, ze00, ze01, ze11, if_true, if_false, not_true_eq_false, not_false_eq_true, l32_0, l32_1, l32_2, l32_3, l32_4, l32_5, l32_7, l32_8, l32_9, l32_12, l32_20, l32_24, l32_25, l32_30, l32_31, l32_35, l32_40, l32_50, l32_60, l32_100, l32_120, l32_200, l32_255, l32_400, l32_m1, l32_m9, l32_m20, l32_m30, l32_m31, l64_0, l64_1, l64_2, l64_3, l64_4, l64_5, l64_7, l64_8, l64_9, l64_12, l64_20, l64_24, l64_25, l64_30, l64_31, l64_35, l64_40, l64_50, l64_60, l64_100, l64_120, l64_200, l64_255, l64_400, l64_m1, l64_m9, l64_m20, l64_m30, l64_m31]
    by_cases c2 : 0 ≤ a2.toInt ∧ a2.toInt ≤ 400
    · rw [if_pos c2, if_pos c2]
      rcases q4 with ⟨z1, z2, z3⟩ | ⟨z1, z2⟩
      · have g : (0 : Int32) ≤ gI μ2 45 s := by rw [Int32.le_iff_toInt_le]; exact z3.1
        rw [if_pos z1, if_pos g, p2, p3]
        by_cases c4 : 2 ≤ p
        · obtain ⟨la, hla, rfl⟩ := toN (v := a2) (n := 401) c2.1 (by omega)
          obtain ⟨r, t', x', m', w1, w2, w3, w4, w5, w6, w7, w8, w9⟩ := bout_j h p2 p1 (last := la) (by omega)
          have fx : ∀ a k, 48 ≤ a → gI x' a k = gI μ1 a k := fun a k ha => (w8 a k (by unfold fbX bbX; omega)).1
          have fm : ∀ a k, 29 ≤ a → gI m' a k = gI μ2 a k := fun a k ha => (w9 a k (by unfold fbM; omega)).1
          have e5 : gI x' 5 1 = nI p := by rw [(w8 5 1 (by unfold fbX bbX; omega)).1]; exact p2
          have e15 : gI m' 0 15 = nI p := by rw [(w9 0 15 (by unfold fbM; omega)).1]; exact p3
          rw [if_pos ((two_le p1).mpr c4), if_pos ((two_le p1).mpr c4), w1, w2, b2s, b2s, e5, e15, fx _ _ (by omega), fm _ _ (by omega), q2, q3, mn_e, bs]
          have e8 : (8 : Int32) * nI p = nI (8 * p) := y_mul 8 p
          rw [e8]
          have key : ∀ N0, N0 ≤ l → N0 ≤ 8 * p → ∃ r ν1 ν2, f_X_write_l79 FN FN (48 + 2 * s) (nI N0) 0 x' = some (r, ν1) ∧ f_M_write_b86 FN (nI s) (nI N0) m' = some (r, ν2) ∧ Inv (c + 1) n ν1 ν2 := by
            intro N0 h1 h2
            obtain ⟨xx, mm, k1, k2, k3⟩ := write_l (N0 := N0) hs q1 p1 h1 h2 N0 FN 0 x' m' (by omega) (FN_lt (by omega)) w7 (by rw [fx _ _ (by omega)]; exact q2) (by rw [fx _ _ (by omega), fm _ _ (by omega)]; exact z2) e5 (fun i hi => (w6 i hi).1.eq)
            exact ⟨_, xx, mm, k1, k2, Inv_next k3⟩
          by_cases c5 : l ≤ 8 * p
          · have z : nI l ≤ nI (8 * p) := by rw [y_le (by omega) (by omega)]; exact c5
            rw [if_pos z]
            by_cases c6 : l < 8 * p
            · rw [if_pos (by rw [y_lt (by omega) (by omega)]; exact c6)]
              exact key l (by omega) c5
            · have c7 : 8 * p = l := by omega
              rw [if_neg (by rw [y_lt (by omega) (by omega)]; exact c6), c7]
              exact key l (by omega) c5
          · rw [if_neg (show ¬ nI l < nI (8 * p) by rw [y_lt (by omega) (by omega)]; omega), if_neg (show ¬ nI l ≤ nI (8 * p) by rw [y_le (by omega) (by omega)]; exact c5)]
            exact key (8 * p) (by omega) (by omega)
        · rw [if_neg (fun q => c4 ((two_le p1).mp q)), if_neg (fun q => c4 ((two_le p1).mp q))]
          exact ⟨_, _, _, rfl, rfl, Inv_next h⟩
      · rw [if_neg (by rw [z1]; decide), if_neg (by rw [z2]; decide), f1, f2, b2s, b2s]
        exact ⟨_, _, _, rfl, rfl, f3⟩
    · rw [if_neg c2, if_neg c2]
      exact ⟨_, _, _, rfl, rfl, Inv_next h⟩
  · rw [if_neg c1, if_neg c1]
    exact ⟨_, _, _, rfl, rfl, Inv_next h⟩

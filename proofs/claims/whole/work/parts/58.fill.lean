def hRC (R C : Nat) (x m : Mem) : Prop := R ≤ 4 ∧ C ≤ 4 ∧ gI x 23 0 = nI R ∧ gI m 0 37 = nI R ∧ gI x 23 1 = nI C ∧ gI m 0 38 = nI C
theorem fill_s {c n i j R C : Nat} {x m : Mem} (h : Inv c n x m) (hr : hRC R C x m) (hi : i < R) (hj : j < C) : ∃ v x' m', f_X_duel FN x (gI x 24 i) (gI x 25 j) 30 (-1) = some (v, x') ∧ f_M_expectedOf FN m (gI m 29 i) (gI m 30 j) = some (v, m') ∧ Inv c n (sI x' (27 + i) j v) (sI m' 31 (4 * i + j) v) ∧ hRC R C (sI x' (27 + i) j v) (sI m' 31 (4 * i + j) v) := by
  obtain ⟨t, ht, hCs, hTop, hWr, hStr, hBow, hDen, hBou, hWhi, hCho, hPas, hGam, hLas, hMet, hFin, hShe⟩ := id h
  obtain ⟨r1, r2, r3, r4, r5, r6⟩ := hr
  obtain ⟨r, k, p1, p2, p3, p4, p5, p6, p7, p8, p9, p10⟩ := id hCho
  have er : r = R := by have := p3.symm.trans r3; rw [y_eq (by omega) (by omega)] at this; exact this
  have ek : k = C := by have := p5.symm.trans r5; rw [y_eq (by omega) (by omega)] at this; exact this
  subst er; subst ek
  obtain ⟨a, ha, a1, a2⟩ := p7 i hi
  obtain ⟨b, hb, b1, b2⟩ := p8 j hj
  obtain ⟨v, x', m', q1, q2, q3, q4, q5⟩ := duel_j (tu := 30) (rg := -1) h ht ha hb (by unfold bt; decide) (by unfold bt; decide)
  have h' := h.dl q4 q5
  refine ⟨v, x', m', by rw [a1, b1]; exact q1, by unfold f_M_expectedOf; rw [a2, b2, q2, b2s], ?_, ?_⟩
  · refine Inv.lower (c' := c + 1) (h'.uCho (EqOn.rf.sI (by simp only [perX, pTop, pStr, pBow, pDen, pBou, pWhi, pCho, pPas, pGam, pLas, pMet, pFin, pShe, true_and, and_true, false_and, and_false, true_or, or_true, false_or, or_false, not_true_eq_false, not_false_eq_true] <;> omega)) (EqOn.rf.sI (by simp only [perM, qCs, qTop, qStr, qBow, qDen, qBou, qWhi, qCho, qPas, qGam, qLas, qMet, qFin, qShe, true_and, and_true, false_and, and_false, true_or, or_true, false_or, or_false, not_true_eq_false, not_false_eq_true] <;> omega)) (fun t' e' _ hc => ?_)) (h'.m.cg (EqOn.rf.sI (by unfold pMet; omega)) (EqOn.rf.sI (by unfold qMet; omega)))
    obtain ⟨r', k', s1, s2, s3, s4, s5, s6, s7, s8, s9, s10⟩ := hc
    have er' : r' = r := by
      have := s3
      rw [(q4 23 0 (by unfold dlX; omega)).1, p3] at this
      rw [y_eq (by omega) (by omega)] at this; omega
    have ek' : k' = k := by
      have := s5
      rw [(q4 23 1 (by unfold dlX; omega)).1, p5] at this
      rw [y_eq (by omega) (by omega)] at this; omega
    subst er'; subst ek'
    refine ⟨r', k', s1, s2, ?_, ?_, ?_, ?_, fun i' hi' => ?_, fun i' hi' => ?_, fun i' j' hi' hj' => ?_, fun i' j' hi' hj' hn => ?_⟩
    · rw [gI_sI, if_neg (by omega)]; exact s3
    · rw [gI_sI, if_neg (by omega)]; exact s4
    · rw [gI_sI, if_neg (by omega)]; exact s5
    · rw [gI_sI, if_neg (by omega)]; exact s6
    · rw [gI_sI, if_neg (by omega), gI_sI, if_neg (by omega)]; exact s7 i' hi'
    · rw [gI_sI, if_neg (by omega), gI_sI, if_neg (by omega)]; exact s8 i' hi'
    · rw [gI_sI, gI_sI, if_pos rfl]
      by_cases e1 : i' = i
      · subst e1
        rw [if_pos rfl]
        by_cases e2 : j' = j
        · subst e2
          rw [if_pos rfl, if_pos rfl]
          refine ⟨rfl, ?_⟩
          unfold bt at q3 ⊢
          omega
        · rw [if_neg e2, if_neg (by omega)]; exact s9 i' j' hi' hj'
      · rw [if_neg (by omega), if_neg (by omega)]; exact s9 i' j' hi' hj'
    · rw [gI_sI]
      by_cases e1 : i' = i
      · subst e1
        rw [if_pos rfl, if_neg (by omega)]; exact s10 i' j' hi' hj' hn
      · rw [if_neg (by omega)]; exact s10 i' j' hi' hj' hn
  · refine ⟨r1, r2, ?_, ?_, ?_, ?_⟩
    · rw [gI_sI, if_neg (by omega), (q4 23 0 (by unfold dlX; omega)).1]; exact r3
    · rw [gI_sI, if_neg (by omega), (q5 0 37 (by unfold fbM; omega)).1]; exact r4
    · rw [gI_sI, if_neg (by omega), (q4 23 1 (by unfold dlX; omega)).1]; exact r5
    · rw [gI_sI, if_neg (by omega), (q5 0 38 (by unfold fbM; omega)).1]; exact r6
theorem m4_n (i j : Nat) : (4 : Int32) * nI i + nI j = nI (4 * i + j) := by
  rw [show (4 : Int32) = nI 4 from rfl, y_mul, y_add]
theorem fill_1 {c n i R C : Nat} (kX kM : Int32 → Int32 → Mem → Option (Int32 × Mem)) (hi : i < R) : ∀ d nn j u x m, j + d = C → d < nn → Inv c n x m → hRC R C x m → ∃ u' x' m', f_X_fill_l30 FN kX nn u (nI i) (nI j) x = kX u' (nI (i + 1)) x' ∧ f_M_fill_l31 FN kM nn u (nI i) (nI j) m = kM u' (nI (i + 1)) m' ∧ Inv c n x' m' ∧ hRC R C x' m' := by
  intro d
  induction d with
  | zero =>
    intro nn j u x m h1 h2 h hr
    obtain ⟨n', rfl⟩ : ∃ n', nn = n' + 1 := ⟨nn - 1, by omega⟩
    have hj : j = C := by omega
    subst hj
    have hr' := hr
    obtain ⟨r1, r2, r3, r4, r5, r6⟩ := hr
    refine ⟨u, x, m, ?_, ?_, h, hr'⟩
    · unfold f_X_fill_l30
      rw [r5, if_pos (P_re r2), nme, y_s]
    · unfold f_M_fill_l31
      rw [r6, if_pos (P_re r2), nme, y_s]
  | succ d ih =>
    intro nn j u x m h1 h2 h hr
    obtain ⟨n', rfl⟩ : ∃ n', nn = n' + 1 := ⟨nn - 1, by omega⟩
    have hj : j < C := by omega
    obtain ⟨v, x', m', q1, q2, q3, q4⟩ := fill_s h hr hi hj
    obtain ⟨r1, r2, r3, r4, r5, r6⟩ := hr
    have ei : ib (nI i) 4 = true := ib_n (by omega) (by omega)
    have ej : ib (nI j) 4 = true := ib_n (by omega) (by omega)
    have eX : ∃ w, f_X_fill_l30 FN kX (n' + 1) u (nI i) (nI j) x = f_X_fill_l30 FN kX n' w (nI i) (nI (j + 1)) (sI x' (27 + i) j v) ∧ f_M_fill_l31 FN kM (n' + 1) u (nI i) (nI j) m = f_M_fill_l31 FN kM n' w (nI i) (nI (j + 1)) (sI m' 31 (4 * i + j) v) := by
      have ev : gI (sI m' 31 (4 * i + j) v) 31 (4 * i + j) = v := by rw [gI_sI, if_pos rfl, if_pos rfl]
      conv => congr; intro w; congr; lhs; unfold f_X_fill_l30
      conv => congr; intro w; rhs; lhs; unfold f_M_fill_l31
      unfold f_X_fill_b92 f_M_fill_b84
      rw [r5, r6, if_neg (P_le r2 hj), if_neg (P_le r2 hj), if_pos ei, if_pos ej, if_pos ei, if_pos ej, ix_n (show i < 2147483648 by omega), ix_n (show j < 2147483648 by omega), q1, q2, b2s, b2s, if_pos ei, if_pos ej, m4_n, if_pos (ib_n (show 4 * i + j < 16 by omega) (by omega)), ix_n (show 4 * i + j < 2147483648 by omega)]
      simp only [if_pos (ib_n (show 4 * i + j < 16 by omega) (by omega)), nme, y_s, ev, sr26 i (by omega)]
      by_cases c0 : v = 0
      · rw [if_neg (not_not_intro c0), if_pos c0]
        exact ⟨_, rfl, rfl⟩
      · rw [if_pos c0, if_neg c0]
        exact ⟨_, rfl, rfl⟩
    obtain ⟨w, e1, e2⟩ := eX
    rw [e1, e2]
    exact ih n' (j + 1) w _ _ (by omega) (by omega) q3 q4
theorem fill_2 {c n R C : Nat} : ∀ d nn i u x m, i + d = R → d < nn → Inv c n x m → hRC R C x m → ∃ u' x' m', f_X_fill_l17 FN nn u (nI i) x = some (u', x') ∧ f_M_fill_l21 FN nn u (nI i) m = some (u', m') ∧ Inv c n x' m' := by
  intro d
  induction d with
  | zero =>
    intro nn i u x m h1 h2 h hr
    obtain ⟨n', rfl⟩ : ∃ n', nn = n' + 1 := ⟨nn - 1, by omega⟩
    have hi : i = R := by omega
    subst hi
    obtain ⟨r1, r2, r3, r4, r5, r6⟩ := hr
    refine ⟨u, x, m, ?_, ?_, h⟩
    · unfold f_X_fill_l17
      rw [r3, if_pos (P_re r1)]
    · unfold f_M_fill_l21
      rw [r4, if_pos (P_re r1)]
  | succ d ih =>
    intro nn i u x m h1 h2 h hr
    obtain ⟨n', rfl⟩ : ∃ n', nn = n' + 1 := ⟨nn - 1, by omega⟩
    have hi : i < R := by omega
    have hr' := hr
    obtain ⟨r1, r2, r3, r4, r5, r6⟩ := hr
    obtain ⟨u', x', m', q1, q2, q3, q4⟩ := fill_1 (C := C) (f_X_fill_l17 FN n') (f_M_fill_l21 FN n') hi C FN 0 u x m (by omega) (FN_lt (by omega)) h hr'
    obtain ⟨u2, x2, m2, w1, w2, w3⟩ := ih n' (i + 1) u' x' m' (by omega) (by omega) q3 q4
    refine ⟨u2, x2, m2, ?_, ?_, w3⟩
    · unfold f_X_fill_l17
      rw [r3, if_neg (P_le r1 hi)]
      exact q1.trans w1
    · unfold f_M_fill_l21
      rw [r4, if_neg (P_le r1 hi)]
      exact q2.trans w2
theorem nI0 {k : Nat} (h : k < 2147483648) : (nI k = 0) ↔ k = 0 := by
  show nI k = nI 0 ↔ _
  rw [y_eq h (by omega)]
theorem s_fill {c n : Nat} {μ1 μ2 : Mem} (h : Inv c n μ1 μ2) (hc : c < 512) : ∃ (r : Int32) (ν1 : Mem) (ν2 : Mem), f_X_fill FN μ1 = some (r, ν1) ∧ f_M_fill FN μ2 = some (r, ν2) ∧ Inv (c + 1) n ν1 ν2 := by
  obtain ⟨t, ht, hCs, hTop, hWr, hStr, hBow, hDen, hBou, hWhi, hCho, hPas, hGam, hLas, hMet, hFin, hShe⟩ := id h
  obtain ⟨r, k, p1, p2, p3, p4, p5, p6, p7, p8, p9, p10⟩ := hCho
  unfold f_X_fill f_M_fill f_Ch_isOpen f_Ch_isOpen_b14
  rw [p3, p4, p5, p6]
  by_cases c1 : r = 0
  · simp only [if_pos ((nI0 (show r < 2147483648 by omega)).mpr c1), bw, bn2, bOw, bOn, nme, b2s, bs, zn10, zn01, ze10, ze00, ze01, ze11, if_true, if_false, not_true_eq_false, not_false_eq_true, l32_0, l32_1, l32_2, l32_3, l32_4, l32_5, l32_7, l32_8, l32_9, l32_12, l32_20, l32_24, l32_25, l32_30, l32_31, l32_35, l32_40, l32_50, l32_60, l32_100, l32_120, l32_200, l32_255, l32_400, l32_m1, l32_m9, l32_m20, l32_m30, l32_m31, l64_0, l64_1, l64_2, l64_3, l64_4, l64_5, l64_7, l64_8, l64_9, l64_12, l64_20, l64_24, l64_25, l64_30, l64_31, l64_35, l64_40, l64_50, l64_60, l64_100, l64_120, l64_200, l64_255, l64_400, l64_m1, l64_m9, l64_m20, l64_m30, l64_m31]
    exact ⟨_, _, _, rfl, rfl, Inv_next h⟩
  · by_cases c2 : k = 0
    · simp only [if_neg (fun q => c1 ((nI0 (show r < 2147483648 by omega)).mp q)), (nI0 (show k < 2147483648 by omega)).mpr c2, bw, bn2, bOw, bOn, nme, b2s, bs, zn10, zn01, ze10, ze00, ze01, ze11, if_true, if_false, not_true_eq_false, not_false_eq_true, l32_0, l32_1, l32_2, l32_3, l32_4, l32_5, l32_7, l32_8, l32_9, l32_12, l32_20, l32_24, l32_25, l32_30, l32_31, l32_35, l32_40, l32_50, l32_60, l32_100, l32_120, l32_200, l32_255, l32_400, l32_m1, l32_m9, l32_m20, l32_m30, l32_m31, l64_0, l64_1, l64_2, l64_3, l64_4, l64_5, l64_7, l64_8, l64_9, l64_12, l64_20, l64_24, l64_25, l64_30, l64_31, l64_35, l64_40, l64_50, l64_60, l64_100, l64_120, l64_200, l64_255, l64_400, l64_m1, l64_m9, l64_m20, l64_m30, l64_m31]
      exact ⟨_, _, _, rfl, rfl, Inv_next h⟩
    · simp only [if_neg (fun q => c1 ((nI0 (show r < 2147483648 by omega)).mp q)), (show ¬ nI k = 0 from fun q => c2 ((nI0 (show k < 2147483648 by omega)).mp q)), bw, bn2, bOw, bOn, nme, b2s, bs, zn10, zn01, ze10, ze00, ze01, ze11, if_true, if_false, not_true_eq_false, not_false_eq_true, l32_0, l32_1, l32_2, l32_3, l32_4, l32_5, l32_7, l32_8, l32_9, l32_12, l32_20, l32_24, l32_25, l32_30, l32_31, l32_35, l32_40, l32_50, l32_60, l32_100, l32_120, l32_200, l32_255, l32_400, l32_m1, l32_m9, l32_m20, l32_m30, l32_m31, l64_0, l64_1, l64_2, l64_3, l64_4, l64_5, l64_7, l64_8, l64_9, l64_12, l64_20, l64_24, l64_25, l64_30, l64_31, l64_35, l64_40, l64_50, l64_60, l64_100, l64_120, l64_200, l64_255, l64_400, l64_m1, l64_m9, l64_m20, l64_m30, l64_m31]
      obtain ⟨u', x', m', w1, w2, w3⟩ := fill_2 (C := k) r FN 0 0 μ1 μ2 (by omega) (FN_lt (by omega)) h ⟨p1, p2, p3, p4, p5, p6⟩
      exact ⟨u', x', m', w1, w2, Inv_next w3⟩

theorem l10_e {P : Nat} {J : Nat → Nat} {cx cy hh tu : Nat → Int32} {m0 m1 : Mem} {la : Int32} (hP : P ≤ 4) (h15 : gI m0 0 15 = nI P) (hA : ∀ k, k < P → gI m0 12 k = nI (J k) ∧ gI m0 13 k = cx k ∧ gI m0 14 k = cy k ∧ gI m0 15 k = hh k ∧ gI m0 16 k = tu k) : ∀ d n i m, i + d = P → d < n → EqOn bbM m0 m → rfB J cx cy hh tu i d m = some m1 → rfK J cx cy hh tu i d m → f_M_runsBout_l10 FN n la (nI i) m = bM2 (f_M_runsTo FN m1 la (gI m0 0 10) 1) (fun v1 μ2 => some (v1, μ2)) := by
  intro d
  induction d with
  | zero =>
    intro n i m h1 h2 h3 h4 h5
    obtain ⟨n', rfl⟩ : ∃ n', n = n' + 1 := ⟨n - 1, by omega⟩
    have hi : i = P := by omega
    subst hi
    unfold rfB at h4
    have h4' := Option.some.inj h4
    subst h4'
    unfold f_M_runsBout_l10
    rw [(h3 0 15 (by unfold bbM; omega)).1, h15, if_pos (P_re hP), (h3 0 10 (by unfold bbM; omega)).1]
  | succ d ih =>
    intro n i m h1 h2 h3 h4 h5
    obtain ⟨n', rfl⟩ : ∃ n', n = n' + 1 := ⟨n - 1, by omega⟩
    have hi : i < P := by omega
    unfold rfK at h5
    unfold rfB at h4
    obtain ⟨m', k1, k2, k3⟩ := h5
    rw [k1, bs] at h4
    obtain ⟨g1, g2, g3, g4, g5⟩ := hA i hi
    have ei : ib (nI i) 4 = true := ib_n (by omega) (by omega)
    unfold f_M_runsBout_l10
    rw [(h3 0 15 (by unfold bbM; omega)).1, h15, if_neg (P_le hP hi), if_pos ei, if_pos ei, if_pos ei, if_pos ei, if_pos ei, ix_n (by omega), (h3 12 i (by unfold bbM; omega)).1, (h3 13 i (by unfold bbM; omega)).1, (h3 14 i (by unfold bbM; omega)).1, (h3 15 i (by unfold bbM; omega)).1, (h3 16 i (by unfold bbM; omega)).1, g1, g2, g3, g4, g5, k1, bs, nme, y_s]
    exact ih n' (i + 1) m' (by omega) (by omega) (h3.tr k2) h4 k3
theorem Inv.fb {c n a0 b : Nat} {x m x' m' : Mem} (hab : hAB a0 b) (h : Inv c n x m) (e1 : EqOn (fbX a0 b) x x') (e2 : EqOn fbM m m') : Inv c n x' m' := by
  refine Inv.cg0 h (e1.mono ?_) (e2.mono ?_)
  · intro a k p
    unfold hAB at hab
    unfold perX at p; unfold fbX bbX
    unfold pTop pStr pBow pDen pBou pWhi pCho pPas pGam pLas pMet pFin pShe at p
    omega
  · intro a k p
    unfold perM at p; unfold fbM
    unfold qCs qTop qStr qBow qDen qBou qWhi qCho qPas qGam qLas qMet qFin qShe at p
    omega
/-- the yard's own bout, run on both sides -/
theorem bout_j {c n P : Nat} {x m : Mem} (h : Inv c n x m) (hsz : gI x 5 1 = nI P) (hP4 : P ≤ 4) {last : Nat} (hlast : last ≤ 400) : ∃ r t x' m', f_X_spinBout FN x (nI last) = some (r, x') ∧ f_M_runsBout FN m (nI last) = some (r, m') ∧ gI x' 5 6 = gI m' 0 35 ∧ gI x' 5 7 = gI m' 0 36 ∧ bRel 5 10 P t x' m' ∧ bSt 10 P False 798924800 1000000 8 x' m' ∧ Inv c n x' m' ∧ EqOn (fbX 5 10) x x' ∧ EqOn fbM m m' := by
  have hab : hAB 5 10 := Or.inl ⟨rfl, rfl⟩
  obtain ⟨t, ht, hCs, hTop, hWr, hStr, hBow, hDen, hBou, hWhi, hCho, hPas, hGam, hLas, hMet, hFin, hShe⟩ := id h
  obtain ⟨p, p1, p2, p3, p4⟩ := hBou
  obtain ⟨w, w1, w2, w3, w4⟩ := hWhi
  have hpP : p = P := by
    have := p2.symm.trans hsz
    rw [y_eq (by omega) (by omega)] at this; exact this
  subst hpP
  have e0 : EqOn fbM m (sI m 0 25 (nI p)) := EqOn.rf.sI (by unfold fbM; omega)
  have em : ∀ a k, ¬ (a = 0 ∧ k = 25) → gI (sI m 0 25 (nI p)) a k = gI m a k := fun a k hn => by
    rw [gI_sI]
    by_cases c1 : a = 0
    · by_cases c2 : k = 25
      · exact absurd ⟨c1, c2⟩ hn
      · rw [if_pos c1, if_neg c2]
    · rw [if_neg c1]
  have hz : hRg False (gI x 2 1) (gI m 0 10) := Or.inr ⟨id, by rw [hBow.2.1]; exact hBow.2.2.2.1, hBow.2.1.symm⟩
  have hJ : ∀ k, k < p → gI m 12 k = nI (ix (gI m 12 k)) ∧ ix (gI m 12 k) < t ∧ gR x (10 + k) 0 = some (56 + ix (gI m 12 k)) := fun k hk => by
    obtain ⟨j, j1, j2, j3, j4, _⟩ := p4 k hk
    have t40 := hTop.1
    rw [j2, ix_n (by omega)]
    exact ⟨rfl, j1, j4⟩
  obtain ⟨r, m1, x', m', q1, q2, q3, q4, q5, q6, q7, q8, q9, q10, q11⟩ := run_j (x0 := x) (m0 := sI m 0 25 (nI p)) (w := w) (fl := 1) (last := last) (J := fun k => ix (gI m 12 k)) (cx := fun k => gI m 13 k) (cy := fun k => gI m 14 k) (hh := fun k => gI m 15 k) (tu := fun k => gI m 16 k) hab hz hlast p1 hsz (by rw [gI_sI, if_pos rfl, if_pos rfl]) (hTop.cg EqOn.rf (e0.mono (fun a k q => by unfold qTop at q; unfold fbM; omega))) (hCs.cg (e0.mono (fun a k q => by unfold qCs at q; unfold fbM; omega))) (hStr.cg EqOn.rf (e0.mono (fun a k q => by unfold qStr at q; unfold fbM; omega))) (hDen.cg EqOn.rf (e0.mono (fun a k q => by unfold qDen at q; unfold fbM; omega))) (hBow.cg EqOn.rf (e0.mono (fun a k q => by unfold qBow at q; unfold fbM; omega))) (Or.inr ⟨rfl, rfl, w1, w2, by rw [em 0 21 (by omega)]; exact w3, fun k hk => by rw [em 17 k (by omega), em 18 k (by omega), em 19 k (by omega)]; exact w4 k hk⟩) (fun k hk => by
    obtain ⟨j, j1, j2, j3, j4, j5, j6, j7, j8, j9, j10, j11, j12⟩ := p4 k hk
    obtain ⟨u1, u2, u3⟩ := hJ k hk
    exact ⟨u2, u3, j5, j6, j7, j8, j9, j10, j11, j12⟩)
  refine ⟨r, t, x', m', ?_, ?_, q6, q7, q8, q9, h.fb hab q10 (e0.tr q11), q10, e0.tr q11⟩
  · unfold f_X_spinBout
    rw [q1, b2s]
  · unfold f_M_runsBout
    rw [nme, p3]
    have l := l10_e (m0 := sI m 0 25 (nI p)) (m1 := m1) (la := nI last) (J := fun k => ix (gI m 12 k)) (cx := fun k => gI m 13 k) (cy := fun k => gI m 14 k) (hh := fun k => gI m 15 k) (tu := fun k => gI m 16 k) p1 (by rw [em 0 15 (by omega)]; exact p3) (fun k hk => by
      rw [em 12 k (by omega), em 13 k (by omega), em 14 k (by omega), em 15 k (by omega), em 16 k (by omega)]
      exact ⟨(hJ k hk).1, rfl, rfl, rfl, rfl⟩) p FN 0 (sI m 0 25 (nI p)) (by omega) (FN_lt (by omega)) EqOn.rf q2 q3
    rw [show (0 : Int32) = nI 0 from rfl, l, em 0 10 (by omega), q5, b2s]
theorem two_le {P : Nat} (h : P ≤ 4) : ((2 : Int32) ≤ nI P) ↔ (2 ≤ P) := by
  show (nI 2 ≤ nI P) ↔ _
  rw [y_le (by omega) (by omega)]
theorem s_run {c n : Nat} {μ1 μ2 : Mem} (h : Inv c n μ1 μ2) (hc : c < 512) : ∃ (r : Int32) (ν1 : Mem) (ν2 : Mem), f_X_run FN μ1 = some (r, ν1) ∧ f_M_run FN μ2 = some (r, ν2) ∧ Inv (c + 1) n ν1 ν2 := by
  obtain ⟨t, ht, hCs, hTop, hWr, hStr, hBow, hDen, hBou, hWhi, hCho, hPas, hGam, hLas, hMet, hFin, hShe⟩ := id h
  obtain ⟨p, p1, p2, p3, p4⟩ := hBou
  unfold f_X_run f_M_run
  rw [p2, p3]
  by_cases c2 : 2 ≤ p
  · obtain ⟨r, t', x', m', q1, q2, q3, q4, q5, q6, q7, q8, q9⟩ := bout_j h p2 p1 (last := 400) (by omega)
    rw [if_pos ((two_le p1).mpr c2), if_pos ((two_le p1).mpr c2), show (400 : Int32) = nI 400 from rfl, q1, q2, b2s, b2s]
    exact ⟨r, x', m', rfl, rfl, Inv_next q7⟩
  · rw [if_neg (fun q => c2 ((two_le p1).mp q)), if_neg (fun q => c2 ((two_le p1).mp q))]
    exact ⟨_, _, _, rfl, rfl, Inv_next h⟩
theorem s_winner {c n : Nat} {μ1 μ2 : Mem} (h : Inv c n μ1 μ2) (hc : c < 512) : ∃ (r : Int32) (ν1 : Mem) (ν2 : Mem), f_X_winner FN μ1 = some (r, ν1) ∧ f_M_winner FN μ2 = some (r, ν2) ∧ Inv (c + 1) n ν1 ν2 := by
  obtain ⟨t, ht, hCs, hTop, hWr, hStr, hBow, hDen, hBou, hWhi, hCho, hPas, hGam, hLas, hMet, hFin, hShe⟩ := id h
  obtain ⟨p, p1, p2, p3, p4⟩ := hBou
  unfold f_X_winner f_M_winner
  rw [p2, p3]
  by_cases c2 : 2 ≤ p
  · obtain ⟨r, t', x', m', q1, q2, q3, q4, q5, q6, q7, q8, q9⟩ := bout_j h p2 p1 (last := 400) (by omega)
    obtain ⟨v, l1, l2, _⟩ := lone_e (Or.inl ⟨rfl, rfl⟩) q5 q6
    rw [if_pos ((two_le p1).mpr c2), if_pos ((two_le p1).mpr c2), show (400 : Int32) = nI 400 from rfl, q1, q2, b2s, b2s, l1, l2, bs, bs]
    exact ⟨v, x', m', rfl, rfl, Inv_next q7⟩
  · rw [if_neg (fun q => c2 ((two_le p1).mp q)), if_neg (fun q => c2 ((two_le p1).mp q))]
    exact ⟨_, _, _, rfl, rfl, Inv_next h⟩
theorem s_knocks {c n : Nat} {μ1 μ2 : Mem} (h : Inv c n μ1 μ2) (hc : c < 512) (a1 : Int32) : ∃ (r : Int32) (ν1 : Mem) (ν2 : Mem), f_X_knocks FN μ1 a1 = some (r, ν1) ∧ f_M_knocks FN μ2 a1 = some (r, ν2) ∧ Inv (c + 1) n ν1 ν2 := by
  obtain ⟨t, ht, hCs, hTop, hWr, hStr, hBow, hDen, hBou, hWhi, hCho, hPas, hGam, hLas, hMet, hFin, hShe⟩ := id h
  obtain ⟨p, p1, p2, p3, p4⟩ := hBou
  unfold f_X_knocks f_M_knocks
  rw [bw, bn2]
  simp only [bw, bn2, bOw, bOn, nme, b2s, bs, zn10, zn01, ze10, ze00, ze01, ze11, if_true, if_false, not_true_eq_false, not_false_eq_true, l32_0, l32_1, l32_2, l32_3, l32_4, l32_5, l32_7, l32_8, l32_9, l32_12, l32_20, l32_24, l32_25, l32_30, l32_31, l32_35, l32_40, l32_50, l32_60, l32_100, l32_120, l32_200, l32_255, l32_400, l32_m1, l32_m9, l32_m20, l32_m30, l32_m31, l64_0, l64_1, l64_2, l64_3, l64_4, l64_5, l64_7, l64_8, l64_9, l64_12, l64_20, l64_24, l64_25, l64_30, l64_31, l64_35, l64_40, l64_50, l64_60, l64_100, l64_120, l64_200, l64_255, l64_400, l64_m1, l64_m9, l64_m20, l64_m30, l64_m31]
  by_cases c1 : 0 ≤ a1.toInt ∧ a1.toInt ≤ 1
  · rw [if_pos c1, if_pos c1, p2, p3]
    by_cases c2 : 2 ≤ p
    · obtain ⟨r, t', x', m', q1, q2, q3, q4, q5, q6, q7, q8, q9⟩ := bout_j h p2 p1 (last := 400) (by omega)
      rw [if_pos ((two_le p1).mpr c2), if_pos ((two_le p1).mpr c2), show (400 : Int32) = nI 400 from rfl, q1, q2, b2s, b2s, q3, q4]
      by_cases c3 : a1 = 0
      · rw [if_neg (not_not_intro c3), if_neg (not_not_intro c3)]
        exact ⟨_, x', m', rfl, rfl, Inv_next q7⟩
      · rw [if_pos c3, if_pos c3]
        exact ⟨_, x', m', rfl, rfl, Inv_next q7⟩
    · rw [if_neg (fun q => c2 ((two_le p1).mp q)), if_neg (fun q => c2 ((two_le p1).mp q))]
      exact ⟨_, _, _, rfl, rfl, Inv_next h⟩
  · rw [if_neg c1, if_neg c1]
    exact ⟨_, _, _, rfl, rfl, Inv_next h⟩

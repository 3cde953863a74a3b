theorem wear_i {c n t k : Nat} {x m : Mem} {v : Int32} (h : Inv c n x m) (hn : n = 56 + t) (hk : k < t) (hv : bt v 0 9) : Inv c n (sI x (56 + k) 5 v) (sI m 7 k v) := by
  refine Inv.lower (c' := c + 1) (h.uTop (EqOn.rf.sI (by simp only [perX, pTop, pStr, pBow, pDen, pBou, pWhi, pCho, pPas, pGam, pLas, pMet, pFin, pShe, true_and, and_true, false_and, and_false, true_or, or_true, false_or, or_false, not_true_eq_false, not_false_eq_true] <;> omega)) (EqOn.rf.sI (by simp only [perM, qCs, qTop, qStr, qBow, qDen, qBou, qWhi, qCho, qPas, qGam, qLas, qMet, qFin, qShe, true_and, and_true, false_and, and_false, true_or, or_true, false_or, or_false, not_true_eq_false, not_false_eq_true] <;> omega)) (fun t' ht' hT hW => ?_)) (h.m.cg (EqOn.rf.sI (by unfold pMet; omega)) (EqOn.rf.sI (by unfold qMet; omega)))
  have htt : t' = t := by omega
  subst htt
  refine ⟨⟨hT.1, by rw [gI_sI, if_neg (by omega)]; exact hT.2.1, by rw [gI_sI, if_neg (by omega)]; exact hT.2.2.1, fun i hi => ?_⟩, fun i h1 h2 => by rw [gI_sI, if_pos rfl, if_neg (by omega)]; exact hW i h1 h2⟩
  have q := hT.2.2.2 i hi
  by_cases e : i = k
  · subst e
    simp only [gI_sI, gR_sI, if_true, Nat.reduceEqDiff, if_false]
    exact ⟨q.1, q.2.1, q.2.2.1, q.2.2.2.1, q.2.2.2.2.1, q.2.2.2.2.2.1, trivial, q.2.2.2.2.2.2.2.1, q.2.2.2.2.2.2.2.2.1, q.2.2.2.2.2.2.2.2.2.1, q.2.2.2.2.2.2.2.2.2.2.1, q.2.2.2.2.2.2.2.2.2.2.2.1, hv⟩
  · have e' : ¬ 56 + i = 56 + k := by omega
    simp only [gI_sI, gR_sI, if_neg e', if_neg e, if_true, Nat.reduceEqDiff, if_false]
    exact q
theorem asX {K t : Nat} {x m : Mem} {v : Int32} (h : hPa K t x m) (hE : ∀ r, r < K → spQ m v r → gI x 38 r = duV m (fa m r) (sb m r)) : ∀ d n i u, i + d = K → d < n → f_Pa_rowsAsTold_l4 FN x n v (nI u) (nI i) = some (nI (u + asR m v i d)) := by
  have hK := h.1
  intro d
  induction d with
  | zero =>
    intro n i u g1 g2
    obtain ⟨n', rfl⟩ : ∃ n', n = n' + 1 := ⟨n - 1, by omega⟩
    have hi : i = K := by omega
    subst hi
    unfold f_Pa_rowsAsTold_l4 asR
    rw [h.2.2.1, if_pos (by rw [y_le (by omega) (by omega)]; omega)]; rfl
  | succ d ih =>
    intro n i u g1 g2
    obtain ⟨n', rfl⟩ : ∃ n', n = n' + 1 := ⟨n - 1, by omega⟩
    have hi : i < K := by omega
    have ei : ib (nI i) 40 = true := ib_n (by omega) (by omega)
    obtain ⟨s1, s2⟩ := speaks_e h hi v
    have k8 := (h.2.2.2.2 i hi).2.2.2.2.2.2.1
    unfold f_Pa_rowsAsTold_l4 asR
    unfold f_Pa_rowsAsTold_b39
    rw [h.2.2.1, if_neg (show ¬ nI K ≤ nI i by rw [y_le (by omega) (by omega)]; omega)]
    simp only [nme, y_s]
    by_cases c0 : spQ m v i
    · rw [s1 c0, bs, if_neg (by decide), if_pos ei, if_pos ei, ix_n (by omega), k8, hE i hi c0, if_pos c0]
      by_cases c1 : duV m (fa m i) (sb m i) = gI m 38 i
      · rw [if_neg (not_not_intro c1.symm), if_pos c1, ih n' (i + 1) (u + 1) (by omega) (by omega), Nat.add_assoc]
      · rw [if_pos (fun q => c1 q.symm), if_neg c1, ih n' (i + 1) u (by omega) (by omega), Nat.zero_add]
    · rw [s2 c0, bs, if_pos rfl, if_neg c0, ih n' (i + 1) u (by omega) (by omega), Nat.zero_add]
theorem asM {c n0 K t : Nat} {x0 m0 : Mem} {v x2 x3 x4 x5 x6 : Int32} (kM : Int32 → Int32 → Int32 → Int32 → Int32 → Int32 → Mem → Option (Int32 × Mem)) (hv : ¬ v = -1) (h : Inv c n0 x0 m0) (hn : n0 = 56 + t) (hp : hPa K t x0 m0) : ∀ d n i m u, i + d = K → d < n → EqOn fbM m0 m → ∃ m', f_M_explained_l58 FN kM n v x2 x3 x4 x5 x6 (nI u) (nI i) m = (if nI (u + asR m0 v i d) ≤ x5 then f_M_explained_b136 FN kM v x2 x3 x4 x5 x6 m' else f_M_explained_b136 FN kM v x2 x3 x6 (nI (u + asR m0 v i d)) x6 m') ∧ EqOn fbM m0 m' := by
  obtain ⟨h1, h0, h2, h3, h4⟩ := id hp
  intro d
  induction d with
  | zero =>
    intro n i m u g1 g2 g3
    obtain ⟨n', rfl⟩ : ∃ n', n = n' + 1 := ⟨n - 1, by omega⟩
    have hi : i = K := by omega
    subst hi
    refine ⟨m, ?_, g3⟩
    unfold f_M_explained_l58 asR
    rw [(g3 0 48 (by unfold fbM; omega)).1, h3, if_pos (by rw [y_le (by omega) (by omega)]; omega)]
    rfl
  | succ d ih =>
    intro n i m u g1 g2 g3
    obtain ⟨n', rfl⟩ : ∃ n', n = n' + 1 := ⟨n - 1, by omega⟩
    have hi : i < K := by omega
    have ei : ib (nI i) 40 = true := ib_n (by omega) (by omega)
    have em : ∀ a k, 36 ≤ a → gI m a k = gI m0 a k := fun a k ha => (g3 a k (by unfold fbM; omega)).1
    have hpm : hPa K t x0 m := by
      refine ⟨h1, h0, h2, by rw [(g3 0 48 (by unfold fbM; omega)).1]; exact h3, fun r hr => ?_⟩
      have efa : fa m r = fa m0 r := by unfold fa; rw [em 36 r (by omega)]
      have esb : sb m r = sb m0 r := by unfold sb; rw [em 37 r (by omega)]
      rw [efa, esb, em 36 r (by omega), em 37 r (by omega), em 38 r (by omega)]
      exact h4 r hr
    obtain ⟨s1, s2⟩ := isOf_e hpm hi hv
    have esp : spQ m v i ↔ spQ m0 v i := by
      unfold spQ
      rw [em 36 i (by omega), em 37 i (by omega), em 38 i (by omega)]
    obtain ⟨k1, k2, k4, k5, k6, k7, k8, k9⟩ := h4 i hi
    have p0 : ∀ z : Nat, nI z + 0 = nI z := fun z => Int32.add_zero _
    conv => congr; intro m'; lhs; lhs; unfold f_M_explained_l58
    unfold f_M_explained_b111 f_M_explained_b112
    rw [(g3 0 48 (by unfold fbM; omega)).1, h3, if_neg (show ¬ nI K ≤ nI i by rw [y_le (by omega) (by omega)]; omega)]
    by_cases c0 : spQ m0 v i
    · obtain ⟨x1, m1, w1, w2, w3, w4, w5⟩ := du_e h hn EqOn.rf (show EqOn perM m0 m from g3.mono (fun a k p => by
        unfold perM at p; unfold fbM
        unfold qCs qTop qStr qBow qDen qBou qWhi qCho qPas qGam qLas qMet qFin qShe at p
        omega)) k1 k2
      have m1e : gI m1 38 i = gI m0 38 i := by rw [(w5 38 i (by unfold fbM; omega)).1]; exact em 38 i (by omega)
      have w2' : f_M_expectedOf FN m (gI m 36 i) (gI m 37 i) = some (duV m0 (fa m0 i) (sb m0 i), m1) := by rw [em 36 i (by omega), em 37 i (by omega), k5, k7]; exact w2
      rw [s1 (esp.mpr c0), bs, if_neg (by decide), if_pos ei, if_pos ei, ix_n (by omega), w2', b2s, if_pos ei, m1e]
      unfold asR
      rw [if_pos c0]
      simp only [nme, y_s, p0]
      by_cases c1 : duV m0 (fa m0 i) (sb m0 i) = gI m0 38 i
      · rw [if_neg (not_not_intro c1), if_pos c1, ← Nat.add_assoc]
        exact ih n' (i + 1) m1 (u + 1) (by omega) (by omega) (g3.tr w5)
      · rw [if_pos c1, if_neg c1, Nat.zero_add]
        exact ih n' (i + 1) m1 u (by omega) (by omega) (g3.tr w5)
    · rw [s2 (fun q => c0 (esp.mp q)), bs, if_pos rfl]
      unfold asR
      rw [if_neg c0, Nat.zero_add]
      simp only [nme, y_s, p0]
      exact ih n' (i + 1) m u (by omega) (by omega) g3
theorem expl_l {c n0 t j : Nat} {a2 W0 : Int32} (hj : j < t) (hn : n0 = 56 + t) (hW : bt W0 0 9) : ∀ d nn w x m best cnt, w + d = 10 → d < nn → Inv c n0 x m → ∃ r x' m', f_X_explained_l37 FN nn (nI j) a2 (56 + j) W0 best cnt (nI w) x = some (r, x') ∧ f_M_explained_l37 FN nn (nI j) a2 W0 best cnt (nI w) m = some (r, m') ∧ Inv c n0 x' m' := by
  intro d
  induction d with
  | zero =>
    intro nn w x m best cnt g1 g2 h
    obtain ⟨n', rfl⟩ : ∃ n', nn = n' + 1 := ⟨nn - 1, by omega⟩
    have t40 := (hPa.K h hn).1.1
    have hw : w = 10 := by omega
    subst hw
    unfold f_X_explained_l37 f_M_explained_l37
    rw [if_pos (by decide), if_pos (by decide), nme, if_pos (ib_n (show j < 40 by omega) (by omega)), nme, ix_n (by omega)]
    have h' := wear_i h hn hj hW
    by_cases c0 : a2 = 0
    · rw [if_neg (not_not_intro c0), if_neg (not_not_intro c0)]
      exact ⟨_, _, _, rfl, rfl, h'⟩
    · rw [if_pos c0, if_pos c0]
      exact ⟨_, _, _, rfl, rfl, h'⟩
  | succ d ih =>
    intro nn w x m best cnt g1 g2 h
    obtain ⟨n', rfl⟩ : ∃ n', nn = n' + 1 := ⟨nn - 1, by omega⟩
    have t40 := (hPa.K h hn).1.1
    have h' := wear_i (v := nI w) h hn hj (by unfold bt; rw [nI_t (by omega)]; omega)
    obtain ⟨hT, K, hp⟩ := hPa.K h' hn
    have hK := hp.1
    have hv : ¬ nI j = -1 := fun q => by
      have := congrArg Int32.toInt q
      rw [nI_t (by omega), show (-1 : Int32).toInt = -1 from rfl] at this; omega
    obtain ⟨x', q1, q2, q3⟩ := fore_l (nI j) h' hn hp K FN 0 _ (by omega) (FN_lt (by omega)) EqOn.rf (fun r hr => absurd hr (by omega))
    have q1' : f_X_foretellRows FN (sI x (56 + j) 5 (nI w)) (nI j) = some x' := q1
    have a1 := asX (hp.cx q2) q3 K FN 0 0 (by omega) (FN_lt (by omega))
    rw [Nat.zero_add] at a1
    have a1' : f_Pa_rowsAsTold FN x' (nI j) = some (nI (asR (sI m 7 j (nI w)) (nI j) 0 K)) := a1
    obtain ⟨m', r1, r2⟩ := asM (x2 := a2) (x3 := W0) (x4 := best) (x5 := cnt) (x6 := nI w) (f_M_explained_l37 FN n') hv h' hn hp K FN 0 _ 0 (by omega) (FN_lt (by omega)) EqOn.rf
    rw [Nat.zero_add] at r1
    have hI : Inv c n0 x' m' := h'.cg0 (foX_per q2) (r2.mono (fun a k p => by
        unfold perM at p; unfold fbM
        unfold qCs qTop qStr qBow qDen qBou qWhi qCho qPas qGam qLas qMet qFin qShe at p
        omega))
    conv => congr; intro r; congr; intro x'; congr; intro m'; congr; lhs; unfold f_X_explained_l37
    conv => congr; intro r; congr; intro x'; congr; intro m'; rhs; congr; lhs; unfold f_M_explained_l37
    unfold f_X_explained_b80
    rw [if_neg (show ¬ (9 : Int32) < nI w by show ¬ nI 9 < nI w; rw [y_lt (by omega) (by omega)]; omega), if_neg (show ¬ (10 : Int32) ≤ nI w by show ¬ nI 10 ≤ nI w; rw [y_le (by omega) (by omega)]; omega), nme, q1', bs, a1', bs, if_pos (ib_n (show j < 40 by omega) (by omega))]
    simp only [nme]
    rw [ix_n (show j < 2147483648 by omega), show (0 : Int32) = nI 0 from rfl, r1]
    unfold f_M_explained_b136
    simp only [nme, y_s]
    by_cases c0 : nI (asR (sI m 7 j (nI w)) (nI j) 0 K) ≤ cnt
    · rw [if_pos c0, if_pos c0]
      exact ih n' (w + 1) x' m' _ _ (by omega) (by omega) hI
    · rw [if_neg c0, if_neg c0]
      exact ih n' (w + 1) x' m' _ _ (by omega) (by omega) hI
theorem s_explained {c n : Nat} {μ1 μ2 : Mem} (h : Inv c n μ1 μ2) (hc : c < 512) (a1 : Int32) (a2 : Int32) : ∃ (r : Int32) (ν1 : Mem) (ν2 : Mem), f_X_explained FN μ1 a1 a2 = some (r, ν1) ∧ f_M_explained FN μ2 a1 a2 = some (r, ν2) ∧ Inv (c + 1) n ν1 ν2 := by
  obtain ⟨t, ht, hCs, hTop, hWr, hStr, hBow, hDen, hBou, hWhi, hCho, hPas, hGam, hLas, hMet, hFin, hShe⟩ := id h
  have t40 := hTop.1
  unfold f_X_explained f_M_explained
  rw [bTw hTop, bTn hTop]
  by_cases c1 : 0 ≤ a1.toInt ∧ a1.toInt < (t : Int)
  · obtain ⟨j, hj, rfl⟩ := toN c1.1 c1.2
    have es : (nI j).toInt.toNat = j := by rw [nI_t (by omega)]; omega
    rw [if_pos c1, if_pos c1, es]
    simp only [bw, bn2, bOw, bOn, nme, b2s, bs, zn10, zn01, ze10, ze00, ze01, ze11, if_true, if_false, not_true_eq_false, not_false_eq_true, l32_0, l32_1, l32_2, l32_3, l32_4, l32_5, l32_7, l32_8, l32_9, l32_12, l32_20, l32_24, l32_25, l32_30, l32_31, l32_35, l32_40, l32_50, l32_60, l32_100, l32_120, l32_200, l32_255, l32_400, l32_m1, l32_m9, l32_m20, l32_m30, l32_m31, l64_0, l64_1, l64_2, l64_3, l64_4, l64_5, l64_7, l64_8, l64_9, l64_12, l64_20, l64_24, l64_25, l64_30, l64_31, l64_35, l64_40, l64_50, l64_60, l64_100, l64_120, l64_200, l64_255, l64_400, l64_m1, l64_m9, l64_m20, l64_m30, l64_m31]
    by_cases c2 : 0 ≤ a2.toInt ∧ a2.toInt ≤ 1
    · obtain ⟨k1, k2, k3, k4, k5, k6, k7, k8, k9, k10, k11, k12, k13⟩ := hTop.2.2.2 j hj
      rw [if_pos c2, if_pos c2, if_pos (ib_n (show j < 40 by omega) (by omega)), ix_n (by omega), k7]
      obtain ⟨r, x', m', q1, q2, q3⟩ := expl_l (a2 := a2) hj ht k13 10 FN 0 μ1 μ2 0 (-1) (by omega) (FN_lt (by omega)) h
      exact ⟨r, x', m', q1, q2, Inv_next q3⟩
    · rw [if_neg c2, if_neg c2]
      exact ⟨_, _, _, rfl, rfl, Inv_next h⟩
  · rw [if_neg c1, if_neg c1]
    exact ⟨_, _, _, rfl, rfl, Inv_next h⟩

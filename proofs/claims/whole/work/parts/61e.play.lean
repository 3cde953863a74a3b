theorem str_d : ∀ s, s < 201 → (if nI s - 1 ≤ 0 then (0 : Int32) else nI s - 1) = (if nI s ≤ 0 then nI s - 0 else nI s - 1) ∧ 0 ≤ (if nI s ≤ 0 then nI s - 0 else nI s - 1).toInt ∧ (if nI s ≤ 0 then nI s - 0 else nI s - 1).toInt ≤ 200 := by decide +kernel
theorem str_i {c n o : Nat} {x m : Mem} {v : Int32} (h : Inv c n x m) (ho : o < 8) (hv : bt v 0 200) : Inv c n (sI x 4 o v) (sI m 8 o v) := by
  refine Inv.lower (c' := c + 1) (h.uStr (EqOn.rf.sI (by simp only [perX, pTop, pStr, pBow, pDen, pBou, pWhi, pCho, pPas, pGam, pLas, pMet, pFin, pShe, true_and, and_true, false_and, and_false, true_or, or_true, false_or, or_false, not_true_eq_false, not_false_eq_true] <;> omega)) (EqOn.rf.sI (by simp only [perM, qCs, qTop, qStr, qBow, qDen, qBou, qWhi, qCho, qPas, qGam, qLas, qMet, qFin, qShe, true_and, and_true, false_and, and_false, true_or, or_true, false_or, or_false, not_true_eq_false, not_false_eq_true] <;> omega)) (fun t' ht' hT hW k hk => ?_)) (h.m.cg (EqOn.rf.sI (by unfold pMet; omega)) (EqOn.rf.sI (by unfold qMet; omega)))
  rw [gI_sI, gI_sI, if_pos rfl, if_pos rfl]
  by_cases e : k = o
  · rw [if_pos e, if_pos e]; exact ⟨rfl, hv⟩
  · rw [if_neg e, if_neg e]; exact hW k hk
theorem Inv.str {c n o : Nat} {x m : Mem} (h : Inv c n x m) (ho : o < 8) : ∃ s, s < 201 ∧ gI x 4 o = nI s ∧ gI m 8 o = nI s := by
  obtain ⟨t, ht, hCs, hTop, hWr, hStr, hBow, hDen, hBou, hWhi, hCho, hPas, hGam, hLas, hMet, hFin, hShe⟩ := h
  obtain ⟨k1, k2⟩ := hStr o ho
  obtain ⟨s, hs, es⟩ := toN (v := gI m 8 o) (n := 201) k2.1 (by have := k2.2; omega)
  exact ⟨s, hs, by rw [k1]; exact es, es⟩
theorem Inv.T {c n t : Nat} {x m : Mem} (h : Inv c n x m) (hn : n = 56 + t) : iTop t x m := (hPa.K h hn).1
/-- both strings lose one -/
theorem strs {c n p q : Nat} {x m : Mem} (h : Inv c n x m) (hp : p < 8) (hq : q < 8) : ∃ x' m', (∀ K T1 T2 x5 k xs0 xs1, f_X_playBouts_b132 FN K (nI p) (nI q) T1 T2 x5 (nI k) xs0 xs1 x = K (nI p) (nI q) T1 T2 x5 (xs1 + xs0) (nI (k + 1)) x') ∧ (∀ K x3 k xs0 xs1, f_M_play_b164 FN K (nI p) (nI q) x3 (nI k) xs0 xs1 m = K (nI p) (nI q) x3 (xs1 + xs0) (nI (k + 1)) m') ∧ Inv c n x' m' ∧ EqOn (fun a _ => ¬ a = 4) x x' ∧ EqOn (fun a _ => ¬ a = 8) m m' := by
  obtain ⟨s1, h1, e1, e2⟩ := h.str hp
  have d1 := str_d s1 h1
  have ep : ib (nI p) 8 = true := ib_n hp (by omega)
  have eq : ib (nI q) 8 = true := ib_n hq (by omega)
  have ip : ix (nI p) = p := ix_n (by omega)
  have iq : ix (nI q) = q := ix_n (by omega)
  obtain ⟨v1, ev1⟩ : ∃ v, (if gI m 8 p ≤ 0 then gI m 8 p - 0 else gI m 8 p - 1) = v := ⟨_, rfl⟩
  have hv1 : bt v1 0 200 := by rw [← ev1, e2]; exact d1.2
  have h' := str_i h hp hv1
  obtain ⟨s2, h2, e3, e4⟩ := h'.str hq
  have d2 := str_d s2 h2
  obtain ⟨v2, ev2⟩ : ∃ v, (if gI (sI m 8 p v1) 8 q ≤ 0 then gI (sI m 8 p v1) 8 q - 0 else gI (sI m 8 p v1) 8 q - 1) = v := ⟨_, rfl⟩
  have hv2 : bt v2 0 200 := by rw [← ev2, e4]; exact d2.2
  have h'' := str_i h' hq hv2
  have x1 : (if gI x 4 p - 1 ≤ 0 then (0 : Int32) else gI x 4 p - 1) = v1 := by rw [← ev1, e1, e2]; exact d1.1
  have x2 : (if gI (sI x 4 p v1) 4 q - 1 ≤ 0 then (0 : Int32) else gI (sI x 4 p v1) 4 q - 1) = v2 := by rw [← ev2, e3, e4]; exact d2.1
  refine ⟨_, _, fun K T1 T2 x5 k xs0 xs1 => ?_, fun K x3 k xs0 xs1 => ?_, h'', (EqOn.rf.sI (by simp)).sI (by simp), (EqOn.rf.sI (by simp)).sI (by simp)⟩
  · unfold f_X_playBouts_b132
    rw [nme, if_pos ep, ip, max1_e, bs, if_pos ep, nme, if_pos eq, iq, x1, max1_e, bs, if_pos eq, nme, nme, x2, y_s]
  · unfold f_M_play_b164 f_M_play_b191 f_M_play_b214
    rw [nme, nme, if_pos ep, if_pos ep, ip, y_s]
    have k1 : ∀ z : Mem → Option (Int32 × Mem), (if gI m 8 p ≤ 0 then z (sI m 8 p (gI m 8 p - 0)) else z (sI m 8 p (gI m 8 p - 1))) = z (sI m 8 p v1) := fun z => by
      by_cases c : gI m 8 p ≤ 0
      · rw [if_pos c] at ev1 ⊢; rw [ev1]
      · rw [if_neg c] at ev1 ⊢; rw [ev1]
    have k2 : ∀ z : Mem → Option (Int32 × Mem), (if gI (sI m 8 p v1) 8 q ≤ 0 then z (sI (sI m 8 p v1) 8 q (gI (sI m 8 p v1) 8 q - 0)) else z (sI (sI m 8 p v1) 8 q (gI (sI m 8 p v1) 8 q - 1))) = z (sI (sI m 8 p v1) 8 q v2) := fun z => by
      by_cases c : gI (sI m 8 p v1) 8 q ≤ 0
      · rw [if_pos c] at ev2 ⊢; rw [ev2]
      · rw [if_neg c] at ev2 ⊢; rw [ev2]
    simp only [if_pos ep, if_pos eq, nme, iq]
    exact (k1 (fun μ2 => if gI μ2 8 q ≤ 0 then K (nI p) (nI q) x3 (xs1 + xs0) (nI (k + 1)) (sI μ2 8 q (gI μ2 8 q - 0)) else K (nI p) (nI q) x3 (xs1 + xs0) (nI (k + 1)) (sI μ2 8 q (gI μ2 8 q - 1)))).trans (k2 (fun μ => K (nI p) (nI q) x3 (xs1 + xs0) (nI (k + 1)) μ))
theorem bouts_l {c n t p q T1 T2 B : Nat} (hn : n = 56 + t) (hp : p < 8) (hq : q < 8) (h1 : 1 ≤ T1) (h2 : 1 ≤ T2) (hB : B ≤ 20) : ∀ d nn k w1 w2 x m, k + d = B → d < nn → Inv c n x m → gRu x m → gI m 40 1 = nI B → tc m (nI p) 0 t = T1 → tc m (nI q) 0 t = T2 → ∃ k' w1' w2' x' m', f_X_playBouts_l30 FN nn (nI p) (nI q) (nI T1) (nI T2) w1 w2 (nI k) x = f_X_playBouts_b177 FN w1' w2' k' x' ∧ f_M_play_l61 FN nn (nI p) (nI q) w1 w2 (nI k) m = f_M_play_b219 FN (nI p) (nI q) w1' w2' k' m' ∧ Inv c n x' m' ∧ gRu x' m' ∧ tc m' (nI p) 0 t = T1 ∧ tc m' (nI q) 0 t = T2 := by
  have i1 : ib (1 : Int32) 5 = true := by decide
  have i0 : ib (0 : Int32) 5 = true := by decide
  have i2 : ib (2 : Int32) 5 = true := by decide
  have i3 : ib (3 : Int32) 5 = true := by decide
  intro d
  induction d with
  | zero =>
    intro nn k w1 w2 x m g1 g2 h hR hb ht1 ht2
    obtain ⟨n', rfl⟩ : ∃ n', nn = n' + 1 := ⟨nn - 1, by omega⟩
    have hk : k = B := by omega
    subst hk
    refine ⟨nI k, w1, w2, x, m, ?_, ?_, h, hR, ht1, ht2⟩
    · unfold f_X_playBouts_l30 f_Ga_mostBouts
      rw [if_pos i1, bs, show ix (1 : Int32) = 1 from rfl, (hR 1 (by omega)).1, hb, if_pos (by rw [y_le (by omega) (by omega)]; omega)]
    · unfold f_M_play_l61
      rw [if_pos i1, show ix (1 : Int32) = 1 from rfl, hb, if_pos (by rw [y_le (by omega) (by omega)]; omega)]
  | succ d ih =>
    intro nn k w1 w2 x m g1 g2 h hR hb ht1 ht2
    obtain ⟨n', rfl⟩ : ∃ n', nn = n' + 1 := ⟨nn - 1, by omega⟩
    have hT := h.T hn
    have t40 := hT.1
    have tb1 := tc_b m (nI p) t 0
    have tb2 := tc_b m (nI q) t 0
    have nB : ¬ nI B ≤ nI k := by rw [y_le (by omega) (by omega)]; omega
    conv => congr; intro k'; congr; intro w1'; congr; intro w2'; congr; intro x'; congr; intro m'; congr; lhs; unfold f_X_playBouts_l30
    conv => congr; intro k'; congr; intro w1'; congr; intro w2'; congr; intro x'; congr; intro m'; rhs; congr; lhs; unfold f_M_play_l61
    unfold f_Ga_mostBouts f_Ga_winsNeeded f_Ga_turns f_Ga_ring
    simp only [if_pos i0, if_pos i1, if_pos i2, if_pos i3, bs, show ix (0 : Int32) = 0 from rfl, show ix (1 : Int32) = 1 from rfl, show ix (2 : Int32) = 2 from rfl, show ix (3 : Int32) = 3 from rfl, (hR 0 (by omega)).1, (hR 1 (by omega)).1, (hR 2 (by omega)).1, (hR 3 (by omega)).1, hb, if_neg nB]
    by_cases z1 : gI m 40 0 ≤ w1
    · simp only [if_pos z1]
      exact ⟨nI k, w1, w2, x, m, rfl, rfl, h, hR, ht1, ht2⟩
    by_cases z2 : gI m 40 0 ≤ w2
    · simp only [if_neg z1, if_pos z2]
      exact ⟨nI k, w1, w2, x, m, rfl, rfl, h, hR, ht1, ht2⟩
    simp only [if_neg z1, if_neg z2]
    have e1 := (tops_e hT (nI p)).2
    have e2 := (tops_e hT (nI q)).2
    rw [ht1] at e1
    rw [ht2] at e2
    have nT1 : ¬ nI T1 = 0 := by show ¬ nI T1 = nI 0; rw [y_eq (by omega) (by omega)]; omega
    have nT2 : ¬ nI T2 = 0 := by show ¬ nI T2 = nI 0; rw [y_eq (by omega) (by omega)]; omega
    have m1 : nI k - nI k / nI T1 * nI T1 = nI (k % T1) := (mod_e k (by omega) T1 (by omega)).resolve_left (by omega)
    have m2 : nI k - nI k / nI T2 * nI T2 = nI (k % T2) := (mod_e k (by omega) T2 (by omega)).resolve_left (by omega)
    obtain ⟨a, ha, a1, a2⟩ := nth_l hT (nI p) t FN 0 (k % T1) (by omega) (FN_lt (by omega)) (by rw [ht1]; exact Nat.mod_lt _ (by omega))
    obtain ⟨b, hb', b1, b2⟩ := nth_l hT (nI q) t FN 0 (k % T2) (by omega) (FN_lt (by omega)) (by rw [ht2]; exact Nat.mod_lt _ (by omega))
    have a1' : f_X_nthTopOf FN x (nI p) (nI (k % T1)) = some (nI a) := a1
    have a2' : f_M_topOf FN m (nI p) (nI (k % T1)) = some (nI a) := a2
    have b1' : f_X_nthTopOf FN x (nI q) (nI (k % T2)) = some (nI b) := b1
    have b2' : f_M_topOf FN m (nI q) (nI (k % T2)) = some (nI b) := b2
    have r3 := (hR 3 (by omega)).2
    have r2 := (hR 2 (by omega)).2
    have btu : bt (gI m 40 3) 1 60 := by
      rcases r3 with r | ⟨r, _⟩
      · exact r
      · omega
    have brg : bt (gI m 40 2) (-1) 30 := by
      rcases r2 with r | ⟨_, r⟩
      · have r' : 0 ≤ (gI m 40 2).toInt ∧ (gI m 40 2).toInt ≤ 30 := r
        unfold bt; omega
      · rw [r]; unfold bt; decide
    obtain ⟨v, x1, m1', q1, q2, q3, q4, q5⟩ := duel_j h hn ha hb' btu brg
    simp only [if_neg nT1, if_neg nT2, m1, m2, e1, e2, a1', a2', b1', b2', bs, q1, q2, b2s]
    have hI := h.dl q4 q5
    obtain ⟨x2, m2', s1, s2, s4, s5, s6⟩ := strs hI hp hq
    have go : ∀ u1 u2 : Int32, ∃ k' w1' w2' x' m', f_X_playBouts_l30 FN n' (nI p) (nI q) (nI T1) (nI T2) u1 u2 (nI (k + 1)) x2 = f_X_playBouts_b177 FN w1' w2' k' x' ∧ f_M_play_l61 FN n' (nI p) (nI q) u1 u2 (nI (k + 1)) m2' = f_M_play_b219 FN (nI p) (nI q) w1' w2' k' m' ∧ Inv c n x' m' ∧ gRu x' m' ∧ tc m' (nI p) 0 t = T1 ∧ tc m' (nI q) 0 t = T2 := by
      intro u1 u2
      have e6 : ∀ r, gI m2' 6 r = gI m 6 r := fun r => by rw [(s6 6 r (by omega)).1, (q5 6 r (by unfold fbM; omega)).1]
      have e40 : ∀ r, gI m2' 40 r = gI m 40 r := fun r => by rw [(s6 40 r (by omega)).1, (q5 40 r (by unfold fbM; omega)).1]
      have e41 : ∀ r, gI x2 41 r = gI x 41 r := fun r => by rw [(s5 41 r (by omega)).1, (q4 41 r (by unfold dlX; omega)).1]
      exact ih n' (k + 1) u1 u2 x2 m2' (by omega) (by omega) s4 (fun r hr => by rw [e41, e40]; exact hR r hr) (by rw [e40]; exact hb) (by rw [tc_cg e6]; exact ht1) (by rw [tc_cg e6]; exact ht2)
    have v3 : v = 1 ∨ v = 0 ∨ v = -1 := by
      unfold bt at q3
      by_cases w1 : v.toInt = 1
      · exact Or.inl (i32_inj w1)
      by_cases w2 : v.toInt = 0
      · exact Or.inr (Or.inl (i32_inj w2))
      · exact Or.inr (Or.inr (i32_inj (show v.toInt = -1 by omega)))
    unfold f_X_playBouts_b117 f_M_play_b149
    simp only [nme]
    rcases v3 with e | e | e
    · subst e
      rw [if_neg (show ¬ (1 : Int32) ≤ 0 by decide), if_pos (show (0 : Int32) ≤ 1 by decide), if_neg (show ¬ ¬ (1 : Int32) = 1 by decide), if_pos (show ¬ (1 : Int32) = -1 by decide)]
      simp only [s1, s2]
      exact go _ _
    · subst e
      rw [if_pos (show (0 : Int32) ≤ 0 by decide), if_pos (show ¬ (0 : Int32) = 1 by decide), if_pos (show (0 : Int32) ≤ 0 by decide), if_pos (show ¬ (0 : Int32) = -1 by decide)]
      simp only [s1, s2]
      exact go _ _
    · subst e
      rw [if_pos (show (-1 : Int32) ≤ 0 by decide), if_neg (show ¬ (0 : Int32) ≤ -1 by decide), if_pos (show ¬ (-1 : Int32) = 1 by decide), if_neg (show ¬ ¬ (-1 : Int32) = -1 by decide)]
      simp only [s1, s2]
      exact go _ _
theorem ix8 {p q : Nat} (hp : p < 8) (hq : q < 8) : nI p * 8 + nI q = nI (8 * p + q) ∧ (8 : Int32) * nI p + nI q = nI (8 * p + q) := by
  have e : (8 : Int32) * nI p = nI (8 * p) := y_mul 8 p
  have e2 : nI p * 8 = nI (8 * p) := by rw [← e]; grind
  rw [e, e2, y_add]
  exact ⟨rfl, rfl⟩
/-- the class's memory when a game's bouts are over -/
def gaX (p q : Nat) (k w1 w2 : Int32) (x : Mem) : Mem := sI (sI (sI (sI (sI (sI x 42 0 k) 42 1 w1) 42 2 w2) 43 (8 * p + q) (gI (sI (sI (sI x 42 0 k) 42 1 w1) 42 2 w2) 43 (8 * p + q) + 1)) 43 (8 * q + p) (gI (sI (sI (sI (sI x 42 0 k) 42 1 w1) 42 2 w2) 43 (8 * p + q) (gI (sI (sI (sI x 42 0 k) 42 1 w1) 42 2 w2) 43 (8 * p + q) + 1)) 43 (8 * q + p) + 1)) 42 3 0
theorem b310_e {p q : Nat} {w1 w2 k v kv : Int32} {m : Mem} (hp : p < 8) (hq : q < 8) : f_M_play_b310 FN (nI p) (nI q) w1 w2 k v kv m = some (v, sI (sI (sI (sI (sI (sI m 41 0 k) 41 1 w1) 41 2 w2) 41 3 kv) 42 (8 * p + q) (gI m 42 (8 * p + q) + 1)) 42 (8 * q + p) (gI (sI (sI (sI (sI (sI m 41 0 k) 41 1 w1) 41 2 w2) 41 3 kv) 42 (8 * p + q) (gI m 42 (8 * p + q) + 1)) 42 (8 * q + p) + 1)) := by
  have e1 : ib (nI (8 * p + q)) 64 = true := ib_n (by omega) (by omega)
  have e2 : ib (nI (8 * q + p)) 64 = true := ib_n (by omega) (by omega)
  unfold f_M_play_b310
  rw [if_pos (by decide), nme, if_pos (by decide), nme, if_pos (by decide), nme, if_pos (by decide), nme, (ix8 hp hq).2, (ix8 hq hp).2, if_pos e1, if_pos e1, nme, if_pos e2, if_pos e2, nme, ix_n (by omega), ix_n (by omega)]
  rfl
theorem fin_i {c n t p q : Nat} {x m x3 m2 : Mem} {k w1 w2 kv : Int32} (h : Inv c n x m) (hn : n = 56 + t) (hc : c < 512) (hp : p < 8) (hq : q < 8) (hpq : p ≠ q) (ex : EqOn (fun a k => gvX a k ∧ ¬ (a = 42 ∧ k = 3)) (gaX p q k w1 w2 x) x3) (e3 : gI x3 42 3 = kv) (em : EqOn gvM m m2) (hT : iTop t x3 m2) : Inv (c + 1) n x3 (sI (sI (sI (sI (sI (sI m2 41 0 k) 41 1 w1) 41 2 w2) 41 3 kv) 42 (8 * p + q) (gI m2 42 (8 * p + q) + 1)) 42 (8 * q + p) (gI (sI (sI (sI (sI (sI m2 41 0 k) 41 1 w1) 41 2 w2) 41 3 kv) 42 (8 * p + q) (gI m2 42 (8 * p + q) + 1)) 42 (8 * q + p) + 1)) := by
  obtain ⟨t', ht, hCs, hTop, hWr, hStr, hBow, hDen, hBou, hWhi, hCho, hPas, hGam, hLas, hMet, hFin, hShe⟩ := h
  have et : t' = t := by omega
  subst et
  have exx : EqOn (fun a k => gvX a k ∧ ¬ a = 42 ∧ ¬ a = 43) x x3 := by
    have e0 : EqOn (fun a k => gvX a k ∧ ¬ a = 42 ∧ ¬ a = 43) x (gaX p q k w1 w2 x) := by
      unfold gaX
      exact (((((EqOn.rf.sI (by simp)).sI (by simp)).sI (by simp)).sI (by simp)).sI (by simp)).sI (by simp)
    exact e0.tr (ex.mono (fun a k z => ⟨z.1, fun w => z.2.1 w.1⟩))
  have emm : ∀ mf, mf = (sI (sI (sI (sI (sI (sI m2 41 0 k) 41 1 w1) 41 2 w2) 41 3 kv) 42 (8 * p + q) (gI m2 42 (8 * p + q) + 1)) 42 (8 * q + p) (gI (sI (sI (sI (sI (sI m2 41 0 k) 41 1 w1) 41 2 w2) 41 3 kv) 42 (8 * p + q) (gI m2 42 (8 * p + q) + 1)) 42 (8 * q + p) + 1)) → EqOn (fun a _ => ¬ a = 41 ∧ ¬ a = 42) m2 mf := by
    intro mf e
    rw [e]
    exact (((((EqOn.rf.sI (by simp)).sI (by simp)).sI (by simp)).sI (by simp)).sI (by simp)).sI (by simp)
  have las : ∀ j, j < 4 → gI x3 42 j = gI (sI (sI (sI (sI (sI (sI m2 41 0 k) 41 1 w1) 41 2 w2) 41 3 kv) 42 (8 * p + q) (gI m2 42 (8 * p + q) + 1)) 42 (8 * q + p) (gI (sI (sI (sI (sI (sI m2 41 0 k) 41 1 w1) 41 2 w2) 41 3 kv) 42 (8 * p + q) (gI m2 42 (8 * p + q) + 1)) 42 (8 * q + p) + 1)) 41 j := by
    intro j hj
    have h4 : j = 0 ∨ j = 1 ∨ j = 2 ∨ j = 3 := by omega
    rcases h4 with e | e | e | e <;> subst e
    · rw [(ex 42 0 (by unfold gvX; omega)).1]; rfl
    · rw [(ex 42 1 (by unfold gvX; omega)).1]; rfl
    · rw [(ex 42 2 (by unfold gvX; omega)).1]; rfl
    · rw [e3]; rfl
  have met : iMet (c + 1) x3 (sI (sI (sI (sI (sI (sI m2 41 0 k) 41 1 w1) 41 2 w2) 41 3 kv) 42 (8 * p + q) (gI m2 42 (8 * p + q) + 1)) 42 (8 * q + p) (gI (sI (sI (sI (sI (sI m2 41 0 k) 41 1 w1) 41 2 w2) 41 3 kv) 42 (8 * p + q) (gI m2 42 (8 * p + q) + 1)) 42 (8 * q + p) + 1)) := by
    intro j hj
    have l1 : (1 : Int32).toInt = 1 := rfl
    obtain ⟨a1, a2, a3⟩ := hMet j hj
    have u : (gI m 42 j + 1).toInt = (gI m 42 j).toInt + 1 := a32 (by rw [l1]; omega) (by rw [l1]; omega)
    have m2e : gI m2 42 j = gI m 42 j := (em 42 j (by unfold gvM; omega)).1
    rw [(ex 43 j (by unfold gvX; omega)).1]
    have cx : gI (gaX p q k w1 w2 x) 43 j = if j = 8 * q + p then gI x 43 j + 1 else if j = 8 * p + q then gI x 43 j + 1 else gI x 43 j := by
      unfold gaX
      simp only [gI_sI, reduceIte, Nat.reduceEqDiff]
      by_cases z1 : j = 8 * q + p
      · subst z1
        simp only [if_true, if_neg (show ¬ 8 * q + p = 8 * p + q by omega)]
      · by_cases z2 : j = 8 * p + q
        · subst z2
          simp only [if_true, if_neg z1]
        · simp only [if_neg z1, if_neg z2]
    have cm : gI (sI (sI (sI (sI (sI (sI m2 41 0 k) 41 1 w1) 41 2 w2) 41 3 kv) 42 (8 * p + q) (gI m2 42 (8 * p + q) + 1)) 42 (8 * q + p) (gI (sI (sI (sI (sI (sI m2 41 0 k) 41 1 w1) 41 2 w2) 41 3 kv) 42 (8 * p + q) (gI m2 42 (8 * p + q) + 1)) 42 (8 * q + p) + 1)) 42 j = if j = 8 * q + p then gI m2 42 j + 1 else if j = 8 * p + q then gI m2 42 j + 1 else gI m2 42 j := by
      simp only [gI_sI, reduceIte, Nat.reduceEqDiff]
      by_cases z1 : j = 8 * q + p
      · subst z1
        simp only [if_true, if_neg (show ¬ 8 * q + p = 8 * p + q by omega)]
      · by_cases z2 : j = 8 * p + q
        · subst z2
          simp only [if_true, if_neg z1]
        · simp only [if_neg z1, if_neg z2]
    rw [cx, cm, m2e, a1]
    by_cases z1 : j = 8 * q + p
    · simp only [if_pos z1]; exact ⟨trivial, by unfold bt; rw [u]; omega⟩
    · by_cases z2 : j = 8 * p + q
      · simp only [if_neg z1, if_pos z2]; exact ⟨trivial, by unfold bt; rw [u]; omega⟩
      · simp only [if_neg z1, if_neg z2]; exact ⟨trivial, by unfold bt; omega⟩
  generalize hmf : (sI (sI (sI (sI (sI (sI m2 41 0 k) 41 1 w1) 41 2 w2) 41 3 kv) 42 (8 * p + q) (gI m2 42 (8 * p + q) + 1)) 42 (8 * q + p) (gI (sI (sI (sI (sI (sI m2 41 0 k) 41 1 w1) 41 2 w2) 41 3 kv) 42 (8 * p + q) (gI m2 42 (8 * p + q) + 1)) 42 (8 * q + p) + 1)) = mf at las met ⊢
  have e2f := emm mf hmf.symm
  have emf : EqOn (fun a _ => ¬ a = 41 ∧ ¬ a = 42 ∧ ¬ a = 6) m mf := (em.mono (fun a k z => by unfold gvM; exact z.2.2)).tr (e2f.mono (fun a k z => ⟨z.1, z.2.1⟩))
  have ox : ∀ {P : Nat → Nat → Prop}, (∀ a k, P a k → gvX a k ∧ ¬ a = 42 ∧ ¬ a = 43) → EqOn P x x3 := fun hP => exx.mono hP
  have om : ∀ {P : Nat → Nat → Prop}, (∀ a k, P a k → ¬ a = 41 ∧ ¬ a = 42 ∧ ¬ a = 6) → EqOn P m mf := fun hP => emf.mono hP
  refine ⟨t', ht, hCs.cg (om ?_), hT.cg EqOn.rf (e2f.mono (fun a k z => by unfold qTop at z; omega)), fun i h1 h2 => ?_, hStr.cg (ox ?_) (om ?_), hBow.cg (ox ?_) (om ?_), hDen.cg (ox ?_) (om ?_), hBou.cg (ox ?_) (om ?_), hWhi.cg (ox ?_) (om ?_), hCho.cg (ox ?_) (om ?_), hPas.cg (ox ?_) (om ?_), hGam.cg (ox ?_) (om ?_), fun j hj => las j hj, met, hFin.cg (ox ?_) (om ?_), hShe.cg (ox ?_) (om ?_)⟩
  case refine_2 => rw [(emf 7 i (by omega)).1]; exact hWr i h1 h2
  all_goals
    intro a k z
    simp only [qCs, pStr, qStr, pBow, qBow, pDen, qDen, pBou, qBou, pWhi, qWhi, pCho, qCho, pPas, qPas, pGam, qGam, pFin, qFin, pShe, qShe, gvX] at z ⊢
    omega

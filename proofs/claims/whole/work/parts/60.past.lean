/-- what a pair's bout comes to -/
def duV (m : Mem) (a b : Nat) : Int32 := ((f_M_comesTo FN m (nI a) (nI b) 30 (-1)).map (fun p => p.1)).getD 0
theorem du_e {c n t a b : Nat} {x0 m0 x m : Mem} (h : Inv c n x0 m0) (hn : n = 56 + t) (ex : EqOn perX x0 x) (em : EqOn perM m0 m) (ha : a < t) (hb : b < t) : ∃ x' m', f_X_duel FN x (nI a) (nI b) 30 (-1) = some (duV m0 a b, x') ∧ f_M_expectedOf FN m (nI a) (nI b) = some (duV m0 a b, m') ∧ bt (duV m0 a b) (-1) 1 ∧ EqOn dlX x x' ∧ EqOn fbM m m' := by
  obtain ⟨r, x1, m1, q1, q2, q3, q4, q5⟩ := duel_j (tu := 30) (rg := -1) (h.cg0 ex em) hn ha hb (by unfold bt; decide) (by unfold bt; decide)
  obtain ⟨r', x2, m2, w1, w2, w3, w4, w5⟩ := duel_j (tu := 30) (rg := -1) (h.cg0 ex EqOn.rf) hn ha hb (by unfold bt; decide) (by unfold bt; decide)
  have e : r' = r := by
    rw [q1] at w1
    have := Option.some.inj w1
    exact (Prod.mk.inj this).1.symm
  have ed : duV m0 a b = r := by
    unfold duV
    rw [w2, e]; rfl
  rw [ed]
  exact ⟨x1, m1, q1, by unfold f_M_expectedOf; rw [q2, b2s], q3, q4, q5⟩
def fa (m : Mem) (r : Nat) : Nat := ix (gI m 36 r)
def sb (m : Mem) (r : Nat) : Nat := ix (gI m 37 r)
/-- the rows of the past -/
def hPa (K t : Nat) (x m : Mem) : Prop := K ≤ 40 ∧ t ≤ 40 ∧ gI x 34 0 = nI K ∧ gI m 0 48 = nI K ∧ ∀ r, r < K → fa m r < t ∧ sb m r < t ∧ gI x 35 r = nI (fa m r) ∧ gI m 36 r = nI (fa m r) ∧ gI x 36 r = nI (sb m r) ∧ gI m 37 r = nI (sb m r) ∧ gI x 37 r = gI m 38 r ∧ bt (gI m 38 r) (-1) 2
theorem iPas.h {t : Nat} {x m : Mem} (h : iPas t x m) (ht : t ≤ 40) : ∃ K, hPa K t x m := by
  obtain ⟨K, h1, h2, h3, h4⟩ := h
  refine ⟨K, h1, ht, h2, h3, fun r hr => ?_⟩
  obtain ⟨a, b, k1, k2, k3, k4, k5, k6, k7, k8, k9⟩ := h4 r hr
  have e1 : fa m r = a := by unfold fa; rw [k5, ix_n (by omega)]
  have e2 : sb m r = b := by unfold sb; rw [k7, ix_n (by omega)]
  rw [e1, e2]
  exact ⟨k1, k2, k4, k5, k6, k7, k8, k9⟩
abbrev spQ (m : Mem) (v : Int32) (r : Nat) : Prop := ¬ gI m 38 r = 2 ∧ (v = -1 ∨ gI m 36 r = v ∨ gI m 37 r = v)
theorem speaks_e {K t r : Nat} {x m : Mem} (h : hPa K t x m) (hr : r < K) (v : Int32) : (spQ m v r → f_Pa_speaks x (nI r) v = some 1) ∧ (¬ spQ m v r → f_Pa_speaks x (nI r) v = some 0) := by
  obtain ⟨h1, h0, h2, h3, h4⟩ := h
  obtain ⟨k1, k2, k4, k5, k6, k7, k8, k9⟩ := h4 r hr
  have er : ib (nI r) 40 = true := ib_n (by omega) (by omega)
  have e : f_Pa_speaks x (nI r) v = if ¬ gI m 38 r = 2 then (if v = -1 then some 1 else if gI m 36 r = v then some 1 else if ¬ gI m 37 r = v then some 0 else some 1) else some 0 := by
    unfold f_Pa_speaks f_Pa_speaks_b49
    rw [if_neg (show ¬ nI r < 0 by show ¬ nI r < nI 0; rw [y_lt (by omega) (by omega)]; omega), h2, if_neg (show ¬ nI K ≤ nI r by rw [y_le (by omega) (by omega)]; omega), if_pos er, ix_n (by omega), if_pos er, if_pos er, k8, k4, k6, k5, k7]
  rw [e]
  unfold spQ
  by_cases c0 : gI m 38 r = 2
  · rw [if_neg (not_not_intro c0)]
    exact ⟨fun q => absurd c0 q.1, fun _ => rfl⟩
  rw [if_pos c0]
  by_cases c1 : v = -1
  · rw [if_pos c1]
    exact ⟨fun _ => rfl, fun q => absurd ⟨c0, Or.inl c1⟩ q⟩
  rw [if_neg c1]
  by_cases c2 : gI m 36 r = v
  · rw [if_pos c2]
    exact ⟨fun _ => rfl, fun q => absurd ⟨c0, Or.inr (Or.inl c2)⟩ q⟩
  rw [if_neg c2]
  by_cases c3 : gI m 37 r = v
  · rw [if_neg (not_not_intro c3)]
    exact ⟨fun _ => rfl, fun q => absurd ⟨c0, Or.inr (Or.inr c3)⟩ q⟩
  rw [if_pos c3]
  refine ⟨fun q => ?_, fun _ => rfl⟩
  rcases q.2 with z | z | z
  · exact absurd z c1
  · exact absurd z c2
  · exact absurd z c3
theorem isOf_e {K t r : Nat} {x m : Mem} (h : hPa K t x m) (hr : r < K) {v : Int32} (hv : ¬ v = -1) : (spQ m v r → f_M_isOf m (nI r) v = some 1) ∧ (¬ spQ m v r → f_M_isOf m (nI r) v = some 0) := by
  obtain ⟨h1, h0, h2, h3, h4⟩ := h
  have er : ib (nI r) 40 = true := ib_n (by omega) (by omega)
  have e : f_M_isOf m (nI r) v = if gI m 38 r = 2 then some 0 else (if gI m 36 r = v then some 1 else if ¬ gI m 37 r = v then some 0 else some 1) := by
    unfold f_M_isOf f_M_isOf_b30
    rw [if_pos er, ix_n (by omega), if_pos er, if_pos er]
  rw [e]
  unfold spQ
  by_cases c0 : gI m 38 r = 2
  · rw [if_pos c0]
    exact ⟨fun q => absurd c0 q.1, fun _ => rfl⟩
  rw [if_neg c0]
  by_cases c2 : gI m 36 r = v
  · rw [if_pos c2]
    exact ⟨fun _ => rfl, fun q => absurd ⟨c0, Or.inr (Or.inl c2)⟩ q⟩
  rw [if_neg c2]
  by_cases c3 : gI m 37 r = v
  · rw [if_neg (not_not_intro c3)]
    exact ⟨fun _ => rfl, fun q => absurd ⟨c0, Or.inr (Or.inr c3)⟩ q⟩
  rw [if_pos c3]
  refine ⟨fun q => ?_, fun _ => rfl⟩
  rcases q.2 with z | z | z
  · exact absurd z hv
  · exact absurd z c2
  · exact absurd z c3
theorem like_l {K t i : Nat} {x m : Mem} (h : hPa K t x m) (hi : i < K) : ∀ d n j, j + d = i → d < n → ∃ q, f_Pa_firstLike_l2 FN x n (nI i) (nI j) = some (nI q) ∧ q ≤ i ∧ (q < i → ¬ gI m 38 q = 2 ∧ fa m q = fa m i ∧ sb m q = sb m i) := by
  have h' := h
  obtain ⟨h1, h0, h2, h3, h4⟩ := h
  intro d
  induction d with
  | zero =>
    intro n j g1 g2
    obtain ⟨n', rfl⟩ : ∃ n', n = n' + 1 := ⟨n - 1, by omega⟩
    have hj : j = i := by omega
    subst hj
    refine ⟨j, ?_, by omega, fun q => absurd q (by omega)⟩
    unfold f_Pa_firstLike_l2
    rw [if_pos (by rw [y_le (by omega) (by omega)]; omega)]
  | succ d ih =>
    intro n j g1 g2
    obtain ⟨n', rfl⟩ : ∃ n', n = n' + 1 := ⟨n - 1, by omega⟩
    have hj : j < K := by omega
    obtain ⟨k1, k2, k4, k5, k6, k7, k8, k9⟩ := h4 j hj
    obtain ⟨l1, l2, l4, l5, l6, l7, l8, l9⟩ := h4 i hi
    have ei : ib (nI i) 40 = true := ib_n (by omega) (by omega)
    have ej : ib (nI j) 40 = true := ib_n (by omega) (by omega)
    have rec' := ih n' (j + 1) (by omega) (by omega)
    unfold f_Pa_firstLike_l2
    unfold f_Pa_firstLike_b57
    rw [if_neg (show ¬ nI i ≤ nI j by rw [y_le (by omega) (by omega)]; omega), h2, if_neg (show ¬ nI K ≤ nI i by rw [y_le (by omega) (by omega)]; omega), if_pos ej, ix_n (show j < 2147483648 by omega), ix_n (show i < 2147483648 by omega), k8, k4, k6, l4, l6, if_pos ej, if_pos ei, if_pos ej, if_pos ei]
    simp only [nme, y_s]
    by_cases c0 : gI m 38 j = 2
    · rw [if_pos c0]; exact rec'
    rw [if_neg c0]
    by_cases c1 : fa m j = fa m i
    · rw [if_neg (not_not_intro (by rw [c1]))]
      by_cases c2 : sb m j = sb m i
      · rw [if_neg (not_not_intro (by rw [c2]))]
        exact ⟨j, rfl, by omega, fun _ => ⟨c0, c1, c2⟩⟩
      · rw [if_pos (by rw [y_eq (by omega) (by omega)]; exact c2)]; exact rec'
    · rw [if_pos (by rw [y_eq (by omega) (by omega)]; exact c1)]; exact rec'
def foX (a k : Nat) : Prop := dlX a k ∧ ¬ a = 38
theorem foX_per {x x' : Mem} (e : EqOn foX x x') : EqOn perX x x' := e.mono (fun a k p => by
  unfold perX at p; unfold foX dlX
  unfold pTop pStr pBow pDen pBou pWhi pCho pPas pGam pLas pMet pFin pShe at p
  omega)
theorem hPa.cx {K t : Nat} {x x' m : Mem} (h : hPa K t x m) (e : EqOn foX x x') : hPa K t x' m := by
  obtain ⟨h1, h0, h2, h3, h4⟩ := h
  refine ⟨h1, h0, by rw [(e 34 0 (by unfold foX dlX; omega)).1]; exact h2, h3, fun r hr => ?_⟩
  rw [(e 35 r (by unfold foX dlX; omega)).1, (e 36 r (by unfold foX dlX; omega)).1, (e 37 r (by unfold foX dlX; omega)).1]
  exact h4 r hr
theorem fore_l {c n0 K t : Nat} {x0 m0 : Mem} (v : Int32) (h : Inv c n0 x0 m0) (hn : n0 = 56 + t) (hp : hPa K t x0 m0) : ∀ d n i x, i + d = K → d < n → EqOn foX x0 x → (∀ r, r < i → spQ m0 v r → gI x 38 r = duV m0 (fa m0 r) (sb m0 r)) → ∃ x', f_X_foretellRows_l2 FN n v (nI i) x = some x' ∧ EqOn foX x0 x' ∧ ∀ r, r < K → spQ m0 v r → gI x' 38 r = duV m0 (fa m0 r) (sb m0 r) := by
  intro d
  induction d with
  | zero =>
    intro n i x g1 g2 g3 g4
    obtain ⟨n', rfl⟩ : ∃ n', n = n' + 1 := ⟨n - 1, by omega⟩
    have hi : i = K := by omega
    subst hi
    have hp' := hp.cx g3
    refine ⟨x, ?_, g3, g4⟩
    unfold f_X_foretellRows_l2
    rw [hp'.2.2.1, if_pos (by rw [y_le (by have := hp.1; omega) (by have := hp.1; omega)]; omega)]
  | succ d ih =>
    intro n i x g1 g2 g3 g4
    obtain ⟨n', rfl⟩ : ∃ n', n = n' + 1 := ⟨n - 1, by omega⟩
    have hi : i < K := by omega
    have hp' := hp.cx g3
    obtain ⟨h1, h0, h2, h3, h4⟩ := hp'
    obtain ⟨k1, k2, k4, k5, k6, k7, k8, k9⟩ := h4 i hi
    obtain ⟨s1, s2⟩ := speaks_e (hp.cx g3) hi v
    have ei : ib (nI i) 40 = true := ib_n (by omega) (by omega)
    have nk : ¬ nI K ≤ nI i := by rw [y_le (by omega) (by omega)]; omega
    conv => congr; intro x'; lhs; lhs; unfold f_X_foretellRows_l2
    unfold f_X_foretellRows_b87 f_X_foretellRows_b88
    rw [h2, if_neg nk]
    by_cases c0 : spQ m0 v i
    · rw [s1 c0, bs, if_pos (by decide)]
      obtain ⟨q, q1, q2, q3⟩ := like_l (hp.cx g3) hi i FN 0 (by omega) (FN_lt (by omega))
      have q1' : f_Pa_firstLike FN x (nI i) = some (nI q) := q1
      rw [q1', bs]
      simp only [if_pos ei, ix_n (show i < 2147483648 by omega), k4, k6, nme, y_s]
      have go : ∀ x1 w, w = duV m0 (fa m0 i) (sb m0 i) → EqOn foX x x1 → (∀ r, r < i → gI x1 38 r = gI x 38 r) → ∃ x', f_X_foretellRows_l2 FN n' v (nI (i + 1)) (sI x1 38 i w) = some x' ∧ EqOn foX x0 x' ∧ ∀ r, r < K → spQ m0 v r → gI x' 38 r = duV m0 (fa m0 r) (sb m0 r) := by
        intro x1 w hw e1 e2
        refine ih n' (i + 1) _ (by omega) (by omega) ((g3.tr e1).sI (by unfold foX; omega)) (fun r hr hs => ?_)
        rw [gI_sI, if_pos rfl]
        by_cases z : r = i
        · rw [if_pos z, z]; exact hw
        · rw [if_neg z, e2 r (by omega)]; exact g4 r (by omega) hs
      by_cases c1 : q < i
      · rw [if_neg (show ¬ nI i ≤ nI q by rw [y_le (by omega) (by omega)]; omega), if_pos (ib_n (show q < 40 by omega) (by omega)), ix_n (show q < 2147483648 by omega)]
        obtain ⟨z1, z2, z3⟩ := q3 c1
        obtain ⟨l1, l2, l4, l5, l6, l7, l8, l9⟩ := h4 q (by omega)
        have sq : spQ m0 v q := by
          refine ⟨z1, ?_⟩
          rcases c0.2 with y | y | y
          · exact Or.inl y
          · exact Or.inr (Or.inl (by rw [l5, z2, ← k5]; exact y))
          · exact Or.inr (Or.inr (by rw [l7, z3, ← k7]; exact y))
        exact go x _ (by rw [g4 q c1 sq, z2, z3]) EqOn.rf (fun _ _ => rfl)
      · rw [if_pos (show nI i ≤ nI q by rw [y_le (by omega) (by omega)]; omega)]
        obtain ⟨x1, m1, w1, w2, w3, w4, w5⟩ := du_e h hn (foX_per g3) EqOn.rf k1 k2
        rw [w1, b2s]
        exact go x1 _ rfl (w4.mono (fun a k p => p.1)) (fun r _ => (w4 38 r (by unfold dlX; omega)).1)
    · rw [s2 c0, bs, if_neg (by decide), nme, y_s]
      exact ih n' (i + 1) x (by omega) (by omega) g3 (fun r hr hs => by
        by_cases z : r = i
        · subst z; exact absurd hs c0
        · exact g4 r (by omega) hs)

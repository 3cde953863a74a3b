theorem f9 {a : Nat → Nat → Int64} {r c s : Nat} (hP : posT a r c) (hs1 : 1 ≤ s) (hs : s ≤ 4) (k2 : Int32 → Mem → Option (Int32 × Mem)) : ∀ d n R m, R + d = 2 ^ r → d < n → cxM a r c m → ((∀ R' C', R ≤ R' → R' < 2 ^ r → 1 ≤ C' → C' < 2 ^ c → pop R' = s → pop C' = s → ¬ okN a r c R' C') → ∃ m', f_M_findMix_l9 FN k2 n (nI s) (nI R) m = k2 (nI (s + 1)) m' ∧ EqOn tkM m m') ∧ (∀ R1 C1, R ≤ R1 → R1 < 2 ^ r → 1 ≤ C1 → C1 < 2 ^ c → pop R1 = s → pop C1 = s → okN a r c R1 C1 → (∀ R' C', R ≤ R' → 1 ≤ C' → C' < 2 ^ c → (R' < R1 ∨ (R' = R1 ∧ C' < C1)) → pop R' = s → pop C' = s → ¬ okN a r c R' C') → ∃ m', f_M_findMix_l9 FN k2 n (nI s) (nI R) m = some (1, m') ∧ EqOn tkM m m' ∧ holM a R1 C1 m') := by
  intro d
  induction d with
  | zero =>
    intro n R m g1 g2 hm
    obtain ⟨n', rfl⟩ : ∃ n', n = n' + 1 := ⟨n - 1, by omega⟩
    have p2 := p2_16 hm.1
    refine ⟨fun _ => ⟨m, ?_, EqOn.rf⟩, fun R1 C1 h1 h2 => by omega⟩
    unfold f_M_findMix_l9
    rw [hm.2.2.1, sh_2 r (by have := hm.1; omega), if_pos (by rw [y_le (by omega) (by omega)]; omega), nme, y_s]
  | succ d ih =>
    intro n R m g1 g2 hm
    obtain ⟨n', rfl⟩ : ∃ n', n = n' + 1 := ⟨n - 1, by omega⟩
    have p2 := p2_16 hm.1
    have p3 := p2_16 hm.2.1
    have hd : f_M_findMix_l9 FN k2 (n' + 1) (nI s) (nI R) m = f_M_findMix_l21 FN k2 (f_M_findMix_l9 FN k2 n') FN (nI s) (nI R) (nI 1) m := by
      conv => lhs; unfold f_M_findMix_l9
      rw [hm.2.2.1, sh_2 r (by have := hm.1; omega), if_neg (by rw [y_le (by omega) (by omega)]; omega)]
      rfl
    obtain ⟨j1, j2⟩ := f21 (a := a) (r := r) (c := c) hP (show R < 2 ^ r by omega) hs1 hs k2 (f_M_findMix_l9 FN k2 n') (2 ^ c - 1) FN 1 m (by omega) (FN_lt (by omega)) hm
    refine ⟨fun q => ?_, fun R1 C1 h1 h2 h3 h4 h5 h6 h7 h8 => ?_⟩
    · obtain ⟨x1, w1, w2⟩ := j1 (fun C' k1 k2 k3 k4 => q R C' (by omega) (by omega) k1 k2 k3 k4)
      obtain ⟨x', v1, v2⟩ := (ih n' (R + 1) x1 (by omega) (by omega) (hm.cg w2)).1 (fun R' C' k1 k2 => q R' C' (by omega) k2)
      exact ⟨x', by rw [hd, w1]; exact v1, w2.tr v2⟩
    · by_cases z : R1 = R
      · subst z
        obtain ⟨x', w1, w2, w3⟩ := j2 C1 h3 h4 h5 h6 h7 (fun C' k1 k2 k3 => h8 R1 C' (by omega) k1 (by omega) (Or.inr ⟨rfl, k2⟩) h5 k3)
        exact ⟨x', by rw [hd]; exact w1, w2, w3⟩
      · obtain ⟨x1, w1, w2⟩ := j1 (fun C' k1 k2 k3 k4 => h8 R C' (by omega) k1 k2 (Or.inl (by omega)) k3 k4)
        obtain ⟨x', v1, v2, v3⟩ := (ih n' (R + 1) x1 (by omega) (by omega) (hm.cg w2)).2 R1 C1 (by omega) h2 h3 h4 h5 h6 h7 (fun R' C' k1 => h8 R' C' (by omega))
        exact ⟨x', by rw [hd, w1]; exact v1, w2.tr v2, v3⟩
theorem f2 {a : Nat → Nat → Int64} {r c s R C : Nat} (hP : posT a r c) (hf : fstP a r c s R C) : ∀ d n k m, k + d = s → d < n → 1 ≤ k → cxM a r c m → ∃ m', f_M_findMix_l2 FN n (nI k) m = some (1, m') ∧ EqOn tkM m m' ∧ holM a R C m' := by
  obtain ⟨f1, f2, f3, f4, f5, f6, f7, f8, f9', f10⟩ := hf
  intro d
  induction d with
  | zero =>
    intro n k m g1 g2 g3 hm
    obtain ⟨n', rfl⟩ : ∃ n', n = n' + 1 := ⟨n - 1, by omega⟩
    have hk : k = s := by omega
    subst hk
    obtain ⟨m', w1, w2, w3⟩ := (f9 (a := a) (r := r) (c := c) hP f1 f2 (f_M_findMix_l2 FN n') (2 ^ r - 1) FN 1 m (by omega) (FN_lt (by have := p2_16 hm.1; omega)) hm).2 R C f3 f4 f5 f6 f7 f8 f9' (fun R' C' h1 h2 h3 h4 h5 h6 => f10 k R' C' f1 h1 (by omega) h2 h3 h5 h6 (Or.inr ⟨rfl, h4⟩))
    refine ⟨m', ?_, w2, w3⟩
    unfold f_M_findMix_l2
    rw [if_neg (show ¬ (5 : Int32) ≤ nI k by show ¬ nI 5 ≤ nI k; rw [y_le (by omega) (by omega)]; omega)]
    exact w1
  | succ d ih =>
    intro n k m g1 g2 g3 hm
    obtain ⟨n', rfl⟩ : ∃ n', n = n' + 1 := ⟨n - 1, by omega⟩
    obtain ⟨m1, w1, w2⟩ := (f9 (a := a) (r := r) (c := c) (s := k) hP g3 (by omega) (f_M_findMix_l2 FN n') (2 ^ r - 1) FN 1 m (by have := p2_16 hm.1; omega) (FN_lt (by have := p2_16 hm.1; omega)) hm).1 (fun R' C' h1 h2 h3 h4 h5 h6 => f10 k R' C' g3 h1 h2 h3 h4 h5 h6 (Or.inl (by omega)))
    obtain ⟨m', v1, v2, v3⟩ := ih n' (k + 1) m1 (by omega) (by omega) (by omega) (hm.cg w2)
    refine ⟨m', ?_, w2.tr v2, v3⟩
    unfold f_M_findMix_l2
    rw [if_neg (show ¬ (5 : Int32) ≤ nI k by show ¬ nI 5 ≤ nI k; rw [y_le (by omega) (by omega)]; omega)]
    exact Eq.trans w1 v1
/-- the reference's mix is the first part that solves -/
theorem findM_ {m : Mem} {r c s R C : Nat} (hr : r ≤ 4) (hc : c ≤ 4) (h0 : gI m 0 37 = nI r) (h1 : gI m 0 38 = nI c) (hP : posT (aM m) r c) (hf : fstP (aM m) r c s R C) : ∃ m', f_M_findMix FN m = some (1, m') ∧ EqOn tkM m m' ∧ holM (aM m) R C m' :=
  f2 hP hf (s - 1) FN 1 m (by have := hf.1; omega) (FN_lt (by have := hf.2.1; omega)) (by omega) ⟨hr, hc, h0, h1, rfl⟩

theorem s2 {a : Nat → Nat → Int64} {r c s : Nat} (hs : s ≤ 4) : ∀ d n R x, R + d = 2 ^ r → d < n → cxS a r c x → ((∀ R' C', R ≤ R' → R' < 2 ^ r → 1 ≤ C' → C' < 2 ^ c → pop R' = s → pop C' = s → ¬ okN a r c R' C') → ∃ x', f_Ch_solveBySize_l2 FN n (nI s) (nI R) x = some (0, x') ∧ EqOn soX x x') ∧ (∀ R1 C1, R ≤ R1 → R1 < 2 ^ r → 1 ≤ C1 → C1 < 2 ^ c → pop R1 = s → pop C1 = s → okN a r c R1 C1 → (∀ R' C', R ≤ R' → 1 ≤ C' → C' < 2 ^ c → (R' < R1 ∨ (R' = R1 ∧ C' < C1)) → pop R' = s → pop C' = s → ¬ okN a r c R' C') → ∃ x', f_Ch_solveBySize_l2 FN n (nI s) (nI R) x = some (1, x') ∧ EqOn soX x x' ∧ holX a R1 C1 x') := by
  intro d
  induction d with
  | zero =>
    intro n R x g1 g2 hx
    obtain ⟨n', rfl⟩ : ∃ n', n = n' + 1 := ⟨n - 1, by omega⟩
    have p2 := p2_16 hx.1
    refine ⟨fun _ => ⟨x, ?_, EqOn.rf⟩, fun R1 C1 h1 h2 => by omega⟩
    unfold f_Ch_solveBySize_l2
    rw [hx.2.2.1, sh_2 r (by have := hx.1; omega), if_pos (by rw [y_le (by omega) (by omega)]; omega)]
  | succ d ih =>
    intro n R x g1 g2 hx
    obtain ⟨n', rfl⟩ : ∃ n', n = n' + 1 := ⟨n - 1, by omega⟩
    have p2 := p2_16 hx.1
    have p3 := p2_16 hx.2.1
    have hR : R < 16 := by omega
    have hd : f_Ch_solveBySize_l2 FN (n' + 1) (nI s) (nI R) x = f_Ch_solveBySize_l14 FN (f_Ch_solveBySize_l2 FN n') FN (nI s) (nI R) (nI 1) x := by
      conv => lhs; unfold f_Ch_solveBySize_l2
      rw [hx.2.2.1, sh_2 r (by have := hx.1; omega), if_neg (by rw [y_le (by omega) (by omega)]; omega)]
      rfl
    obtain ⟨j1, j2⟩ := s14 (a := a) (r := r) (c := c) hR hs (f_Ch_solveBySize_l2 FN n') (2 ^ c - 1) FN 1 x (by omega) (FN_lt (by omega)) hx
    refine ⟨fun q => ?_, fun R1 C1 h1 h2 h3 h4 h5 h6 h7 h8 => ?_⟩
    · obtain ⟨x1, w1, w2⟩ := j1 (fun C' k1 k2 k3 k4 => q R C' (by omega) (by omega) k1 k2 k3 k4)
      obtain ⟨x', v1, v2⟩ := (ih n' (R + 1) x1 (by omega) (by omega) (hx.cg w2)).1 (fun R' C' k1 k2 => q R' C' (by omega) k2)
      exact ⟨x', by rw [hd, w1]; exact v1, w2.tr v2⟩
    · by_cases z : R1 = R
      · subst z
        obtain ⟨x', w1, w2, w3⟩ := j2 C1 h3 h4 h5 h6 h7 (fun C' k1 k2 k3 => h8 R1 C' (by omega) k1 (by omega) (Or.inr ⟨rfl, k2⟩) h5 k3)
        exact ⟨x', by rw [hd]; exact w1, w2, w3⟩
      · obtain ⟨x1, w1, w2⟩ := j1 (fun C' k1 k2 k3 k4 => h8 R C' (by omega) k1 k2 (Or.inl (by omega)) k3 k4)
        obtain ⟨x', v1, v2, v3⟩ := (ih n' (R + 1) x1 (by omega) (by omega) (hx.cg w2)).2 R1 C1 (by omega) h2 h3 h4 h5 h6 h7 (fun R' C' k1 => h8 R' C' (by omega))
        exact ⟨x', by rw [hd, w1]; exact v1, w2.tr v2, v3⟩
/-- the first part that solves a choice -/
def fstP (a : Nat → Nat → Int64) (r c s R C : Nat) : Prop := 1 ≤ s ∧ s ≤ 4 ∧ 1 ≤ R ∧ R < 2 ^ r ∧ 1 ≤ C ∧ C < 2 ^ c ∧ pop R = s ∧ pop C = s ∧ okN a r c R C ∧ ∀ s' R' C', 1 ≤ s' → 1 ≤ R' → R' < 2 ^ r → 1 ≤ C' → C' < 2 ^ c → pop R' = s' → pop C' = s' → (s' < s ∨ (s' = s ∧ (R' < R ∨ (R' = R ∧ C' < C)))) → ¬ okN a r c R' C'
theorem s8 {a : Nat → Nat → Int64} {r c s R C : Nat} (hf : fstP a r c s R C) : ∀ d n k x, k + d = s → d + 1 < n → 1 ≤ k → cxS a r c x → ∃ x', f_Ch_solve_l8 FN n 0 (nI k) x = some x' ∧ EqOn soX x x' ∧ holX a R C x' := by
  obtain ⟨f1, f2, f3, f4, f5, f6, f7, f8, f9, f10⟩ := hf
  intro d
  induction d with
  | zero =>
    intro n k x g1 g2 g3 hx
    obtain ⟨n', rfl⟩ : ∃ n', n = n' + 1 + 1 := ⟨n - 2, by omega⟩
    have hk : k = s := by omega
    subst hk
    obtain ⟨x', w1, w2, w3⟩ := (s2 (a := a) (r := r) (c := c) f2 (2 ^ r - 1) FN 1 x (by omega) (FN_lt (by have := p2_16 hx.1; omega)) hx).2 R C f3 f4 f5 f6 f7 f8 f9 (fun R' C' h1 h2 h3 h4 h5 h6 => f10 k R' C' f1 h1 (by omega) h2 h3 h5 h6 (Or.inr ⟨rfl, h4⟩))
    have w1' : f_Ch_solveBySize FN x (nI k) = some (1, x') := w1
    refine ⟨x', ?_, w2, w3⟩
    unfold f_Ch_solve_l8
    rw [if_neg (show ¬ (4 : Int32) < nI k by show ¬ nI 4 < nI k; rw [y_lt (by omega) (by omega)]; omega), if_neg (by decide), w1', b2s, nme, y_s]
    unfold f_Ch_solve_l8
    by_cases z : (4 : Int32) < nI (k + 1)
    · rw [if_pos z]
    · rw [if_neg z, if_pos (by decide)]
  | succ d ih =>
    intro n k x g1 g2 g3 hx
    obtain ⟨n', rfl⟩ : ∃ n', n = n' + 1 := ⟨n - 1, by omega⟩
    obtain ⟨x1, w1, w2⟩ := (s2 (a := a) (r := r) (c := c) (s := k) (by omega) (2 ^ r - 1) FN 1 x (by have := p2_16 hx.1; omega) (FN_lt (by have := p2_16 hx.1; omega)) hx).1 (fun R' C' h1 h2 h3 h4 h5 h6 => f10 k R' C' g3 h1 h2 h3 h4 h5 h6 (Or.inl (by omega)))
    have w1' : f_Ch_solveBySize FN x (nI k) = some (0, x1) := w1
    obtain ⟨x', v1, v2, v3⟩ := ih n' (k + 1) x1 (by omega) (by omega) (by omega) (hx.cg w2)
    refine ⟨x', ?_, w2.tr v2, v3⟩
    unfold f_Ch_solve_l8
    rw [if_neg (show ¬ (4 : Int32) < nI k by show ¬ nI 4 < nI k; rw [y_lt (by omega) (by omega)]; omega), if_neg (by decide), w1', b2s, nme, y_s]
    exact v1
def solX (a k : Nat) : Prop := soX a k ∧ ¬ a = 33
/-- the class's solution is the first part that solves -/
theorem solveX {x : Mem} {r c s R C : Nat} (hr : r ≤ 4) (hc : c ≤ 4) (h0 : gI x 23 0 = nI r) (h1 : gI x 23 1 = nI c) (hf : fstP (aX x) r c s R C) : ∃ x', f_Ch_solve FN x = some x' ∧ EqOn solX x x' ∧ holX (aX x) R C x' := by
  obtain ⟨x1, q1, q2, q3⟩ := detsX x
  have hx : cxS (aX x) r c x1 := ⟨hr, hc, by rw [(q2 23 0 (by unfold n33; omega)).1]; exact h0, by rw [(q2 23 1 (by unfold n33; omega)).1]; exact h1, fun i j hi hj => aX_cg q2 hi, q3⟩
  obtain ⟨x', w1, w2, w3⟩ := s8 hf (s - 1) FN 1 x1 (by have := hf.1; omega) (FN_lt (by have := hf.2.1; omega)) (by omega) hx
  refine ⟨x', ?_, (q2.mono (fun a k z => z.2)).tr (w2.mono (fun a k z => z.1)), w3⟩
  unfold f_Ch_solve
  rw [q1, bs]
  exact w1

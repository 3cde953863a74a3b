theorem noneg_l {x : Mem} : ∀ d n k, k + d = 4 → d < n → ((∀ j, k ≤ j → j < 4 → ¬ gL x 31 j < 0 ∧ (0 : Int64) ≤ gL x 32 j) → f_Ch_noShareIsNegative_l2 FN x n (nI k) = some 1) ∧ ((¬ ∀ j, k ≤ j → j < 4 → ¬ gL x 31 j < 0 ∧ (0 : Int64) ≤ gL x 32 j) → f_Ch_noShareIsNegative_l2 FN x n (nI k) = some 0) := by
  intro d
  induction d with
  | zero =>
    intro n k g1 g2
    obtain ⟨n', rfl⟩ : ∃ n', n = n' + 1 := ⟨n - 1, by omega⟩
    have hk : k = 4 := by omega
    subst hk
    unfold f_Ch_noShareIsNegative_l2
    rw [if_pos (by decide)]
    exact ⟨fun _ => rfl, fun q => absurd (fun j h1 h2 => absurd h2 (by omega)) q⟩
  | succ d ih =>
    intro n k g1 g2
    obtain ⟨n', rfl⟩ : ∃ n', n = n' + 1 := ⟨n - 1, by omega⟩
    have hk : k < 4 := by omega
    have ek : ib (nI k) 4 = true := ib_n hk (by omega)
    obtain ⟨i1, i2⟩ := ih n' (k + 1) (by omega) (by omega)
    unfold f_Ch_noShareIsNegative_l2
    rw [if_neg (show ¬ (4 : Int32) ≤ nI k by show ¬ nI 4 ≤ nI k; rw [y_le (by omega) (by omega)]; omega), if_pos ek, if_pos ek, ix_n (by omega), nme, y_s]
    by_cases c1 : gL x 31 k < 0
    · rw [if_pos c1]
      exact ⟨fun q => absurd c1 (q k (by omega) hk).1, fun _ => rfl⟩
    rw [if_neg c1]
    by_cases c2 : (0 : Int64) ≤ gL x 32 k
    · rw [if_pos c2]
      refine ⟨fun q => i1 (fun j h1 h2 => q j (by omega) h2), fun q => i2 (fun w => q (fun j h1 h2 => ?_))⟩
      by_cases z : j = k
      · rw [z]; exact ⟨c1, c2⟩
      · exact w j (by omega) h2
    · rw [if_neg c2]
      exact ⟨fun q => absurd (q k (by omega) hk).2 c2, fun _ => rfl⟩
theorem hr15 {x : Mem} {i c : Nat} (hi : i < 4) (hc : c ≤ 4) (h1 : gI x 23 1 = nI c) (k2 : Int32 → Option Int32) : ∀ d n j, j + d = c → d < n → f_Ch_holdsForRows_l15 FN x k2 n (nI i) (sm (fun j => aX x i j * gL x 32 j) j) (nI j) = if sm (fun j => aX x i j * gL x 32 j) c ≤ gL x 23 9 then k2 (nI (i + 1)) else some 0 := by
  intro d
  induction d with
  | zero =>
    intro n j g1 g2
    obtain ⟨n', rfl⟩ : ∃ n', n = n' + 1 := ⟨n - 1, by omega⟩
    have hj : j = c := by omega
    subst hj
    unfold f_Ch_holdsForRows_l15
    rw [h1, if_pos (P_re hc), nme, y_s]
  | succ d ih =>
    intro n j g1 g2
    obtain ⟨n', rfl⟩ : ∃ n', n = n' + 1 := ⟨n - 1, by omega⟩
    have hj : j < c := by omega
    unfold f_Ch_holdsForRows_l15
    rw [h1, if_neg (P_le hc hj), if_pos (ib_n hi (by omega)), if_pos (ib_n (show j < 4 by omega) (by omega)), if_pos (ib_n (show j < 4 by omega) (by omega)), ix_n (by omega), ix_n (by omega), sr26 i hi, nme, nme, y_s]
    exact ih n' (j + 1) (by omega) (by omega)
theorem hr2 {x : Mem} {r c : Nat} (hr : r ≤ 4) (hc : c ≤ 4) (h0 : gI x 23 0 = nI r) (h1 : gI x 23 1 = nI c) : ∀ d n i, i + d = r → d < n → ((∀ k, i ≤ k → k < r → sm (fun j => aX x k j * gL x 32 j) c ≤ gL x 23 9) → f_Ch_holdsForRows_l2 FN x n (nI i) = some 1) ∧ ((¬ ∀ k, i ≤ k → k < r → sm (fun j => aX x k j * gL x 32 j) c ≤ gL x 23 9) → f_Ch_holdsForRows_l2 FN x n (nI i) = some 0) := by
  intro d
  induction d with
  | zero =>
    intro n i g1 g2
    obtain ⟨n', rfl⟩ : ∃ n', n = n' + 1 := ⟨n - 1, by omega⟩
    have hi : i = r := by omega
    subst hi
    unfold f_Ch_holdsForRows_l2
    rw [h0, if_pos (P_re hr)]
    exact ⟨fun _ => rfl, fun q => absurd (fun k h1 h2 => absurd h2 (by omega)) q⟩
  | succ d ih =>
    intro n i g1 g2
    obtain ⟨n', rfl⟩ : ∃ n', n = n' + 1 := ⟨n - 1, by omega⟩
    have hi : i < r := by omega
    obtain ⟨i1, i2⟩ := ih n' (i + 1) (by omega) (by omega)
    have l : f_Ch_holdsForRows_l15 FN x (f_Ch_holdsForRows_l2 FN x n') FN (nI i) 0 0 = _ := hr15 (show i < 4 by omega) hc h1 (f_Ch_holdsForRows_l2 FN x n') c FN 0 (by omega) (FN_lt (by omega))
    unfold f_Ch_holdsForRows_l2
    rw [h0, if_neg (P_le hr hi), l]
    by_cases z : sm (fun j => aX x i j * gL x 32 j) c ≤ gL x 23 9
    · rw [if_pos z]
      refine ⟨fun q => i1 (fun k h1 h2 => q k (by omega) h2), fun q => i2 (fun w => q (fun k h1 h2 => ?_))⟩
      by_cases y : k = i
      · rw [y]; exact z
      · exact w k (by omega) h2
    · rw [if_neg z]
      exact ⟨fun q => absurd (q i (by omega) hi) z, fun _ => rfl⟩
theorem hc15 {x : Mem} {j r : Nat} (hj : j < 4) (hr : r ≤ 4) (h0 : gI x 23 0 = nI r) (k2 : Int32 → Option Int32) : ∀ d n i, i + d = r → d < n → f_Ch_holdsForColumns_l15 FN x k2 n (nI j) (sm (fun i => aX x i j * gL x 31 i) i) (nI i) = if gL x 23 9 ≤ sm (fun i => aX x i j * gL x 31 i) r then k2 (nI (j + 1)) else some 0 := by
  intro d
  induction d with
  | zero =>
    intro n i g1 g2
    obtain ⟨n', rfl⟩ : ∃ n', n = n' + 1 := ⟨n - 1, by omega⟩
    have hi : i = r := by omega
    subst hi
    unfold f_Ch_holdsForColumns_l15
    rw [h0, if_pos (P_re hr), nme, y_s]
  | succ d ih =>
    intro n i g1 g2
    obtain ⟨n', rfl⟩ : ∃ n', n = n' + 1 := ⟨n - 1, by omega⟩
    have hi : i < r := by omega
    have i4 : i < 4 := by omega
    unfold f_Ch_holdsForColumns_l15
    rw [h0, if_neg (P_le hr hi), if_pos (ib_n i4 (by omega)), if_pos (ib_n hj (by omega)), if_pos (ib_n i4 (by omega)), ix_n (by omega), ix_n (by omega), sr26 i i4, nme, nme, y_s]
    exact ih n' (i + 1) (by omega) (by omega)
theorem hc2 {x : Mem} {r c : Nat} (hr : r ≤ 4) (hc : c ≤ 4) (h0 : gI x 23 0 = nI r) (h1 : gI x 23 1 = nI c) : ∀ d n j, j + d = c → d < n → ((∀ k, j ≤ k → k < c → gL x 23 9 ≤ sm (fun i => aX x i k * gL x 31 i) r) → f_Ch_holdsForColumns_l2 FN x n (nI j) = some 1) ∧ ((¬ ∀ k, j ≤ k → k < c → gL x 23 9 ≤ sm (fun i => aX x i k * gL x 31 i) r) → f_Ch_holdsForColumns_l2 FN x n (nI j) = some 0) := by
  intro d
  induction d with
  | zero =>
    intro n j g1 g2
    obtain ⟨n', rfl⟩ : ∃ n', n = n' + 1 := ⟨n - 1, by omega⟩
    have hj : j = c := by omega
    subst hj
    unfold f_Ch_holdsForColumns_l2
    rw [h1, if_pos (P_re hc)]
    exact ⟨fun _ => rfl, fun q => absurd (fun k h1 h2 => absurd h2 (by omega)) q⟩
  | succ d ih =>
    intro n j g1 g2
    obtain ⟨n', rfl⟩ : ∃ n', n = n' + 1 := ⟨n - 1, by omega⟩
    have hj : j < c := by omega
    obtain ⟨i1, i2⟩ := ih n' (j + 1) (by omega) (by omega)
    have l : f_Ch_holdsForColumns_l15 FN x (f_Ch_holdsForColumns_l2 FN x n') FN (nI j) 0 0 = _ := hc15 (show j < 4 by omega) hr h0 (f_Ch_holdsForColumns_l2 FN x n') r FN 0 (by omega) (FN_lt (by omega))
    unfold f_Ch_holdsForColumns_l2
    rw [h1, if_neg (P_le hc hj), l]
    by_cases z : gL x 23 9 ≤ sm (fun i => aX x i j * gL x 31 i) r
    · rw [if_pos z]
      refine ⟨fun q => i1 (fun k h1 h2 => q k (by omega) h2), fun q => i2 (fun w => q (fun k h1 h2 => ?_))⟩
      by_cases y : k = j
      · rw [y]; exact z
      · exact w k (by omega) h2
    · rw [if_neg z]
      exact ⟨fun q => absurd (q j (by omega) hj) z, fun _ => rfl⟩
/-- a part that solves the choice -/
def okP (a : Nat → Nat → Int64) (r c : Nat) (T D : Int64) (RS CS : Nat → Int64) : Prop := ¬ T = 0 ∧ (∀ j, 0 ≤ j → j < 4 → ¬ RS j < 0 ∧ (0 : Int64) ≤ CS j) ∧ (∀ k, 0 ≤ k → k < r → sm (fun j => a k j * CS j) c ≤ D) ∧ ∀ k, 0 ≤ k → k < c → D ≤ sm (fun i => a i k * RS i) r
theorem chkX {x : Mem} {r c : Nat} (hr : r ≤ 4) (hc : c ≤ 4) (h0 : gI x 23 0 = nI r) (h1 : gI x 23 1 = nI c) : (okP (aX x) r c (gL x 23 8) (gL x 23 9) (gL x 31) (gL x 32) → f_Ch_solveByPart_b126 FN x = some (1, x)) ∧ (¬ okP (aX x) r c (gL x 23 8) (gL x 23 9) (gL x 31) (gL x 32) → f_Ch_solveByPart_b126 FN x = some (0, x)) := by
  have a1 := noneg_l (x := x) 4 FN 0 (by omega) (FN_lt (by omega))
  have a2 := hr2 hr hc h0 h1 r FN 0 (by omega) (FN_lt (by omega))
  have a3 := hc2 hr hc h0 h1 c FN 0 (by omega) (FN_lt (by omega))
  have e1 : f_Ch_noShareIsNegative FN x = f_Ch_noShareIsNegative_l2 FN x FN (nI 0) := rfl
  have e2 : f_Ch_holdsForRows FN x = f_Ch_holdsForRows_l2 FN x FN (nI 0) := rfl
  have e3 : f_Ch_holdsForColumns FN x = f_Ch_holdsForColumns_l2 FN x FN (nI 0) := rfl
  unfold f_Ch_solveByPart_b126 okP
  rw [e1, e2, e3]
  by_cases c0 : gL x 23 8 = 0
  · rw [if_pos c0]
    exact ⟨fun q => absurd c0 q.1, fun _ => rfl⟩
  rw [if_neg c0]
  by_cases c1 : ∀ j, 0 ≤ j → j < 4 → ¬ gL x 31 j < 0 ∧ (0 : Int64) ≤ gL x 32 j
  · rw [a1.1 c1, bs, if_neg (by decide)]
    by_cases c2 : ∀ k, 0 ≤ k → k < r → sm (fun j => aX x k j * gL x 32 j) c ≤ gL x 23 9
    · rw [a2.1 c2, bs, if_neg (by decide)]
      by_cases c3 : ∀ k, 0 ≤ k → k < c → gL x 23 9 ≤ sm (fun i => aX x i k * gL x 31 i) r
      · rw [a3.1 c3, bs, if_neg (by decide)]
        exact ⟨fun _ => rfl, fun q => absurd ⟨c0, c1, c2, c3⟩ q⟩
      · rw [a3.2 c3, bs, if_pos rfl]
        exact ⟨fun q => absurd q.2.2.2 c3, fun _ => rfl⟩
    · rw [a2.2 c2, bs, if_pos rfl]
      exact ⟨fun q => absurd q.2.2.1 c2, fun _ => rfl⟩
  · rw [a1.2 c1, bs, if_pos rfl]
    exact ⟨fun q => absurd q.2.1 c1, fun _ => rfl⟩

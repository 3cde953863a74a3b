theorem ev_1_1 (a : Nat → Nat → Rat) : dR a 1 1 1 = a 0 0 ∧ cfR a 1 1 0 0 = (1) := by
  simp [cfR, dR, exR, lowB, pop] <;> grind
theorem cr_1_1 {a : Nat → Nat → Rat} {w u : Nat → Rat} (ha : ∀ i j, i < 4 → j < 4 → 1 ≤ a i j) (hw : ∀ i, i < 4 → bN 1 i → sr (fun j => a i j * w j) 4 = 1) (w0 : ∀ j, j < 4 → ¬ bN 1 j → w j = 0) (hu : ∀ j, j < 4 → bN 1 j → sr (fun i => a i j * u i) 4 = 1) (u0 : ∀ i, i < 4 → ¬ bN 1 i → u i = 0) (hz : ∀ z : Nat → Rat, (∀ j, j < 4 → ¬ bN 1 j → z j = 0) → (∀ i, i < 4 → bN 1 i → sr (fun j => a i j * z j) 4 = 0) → ∀ j, j < 4 → z j = 0) : crP a 1 1 w u := by
  have ep : pop 1 = 1 := by decide
  obtain ⟨eD, c00⟩ := ev_1_1 a
  have wz1 := w0 1 (by omega) (by decide)
  have wz2 := w0 2 (by omega) (by decide)
  have wz3 := w0 3 (by omega) (by decide)
  have uz1 := u0 1 (by omega) (by decide)
  have uz2 := u0 2 (by omega) (by decide)
  have uz3 := u0 3 (by omega) (by decide)
  have h0 : a 0 0 * w 0 = 1 := by
    have h := hw 0 (by omega) (by decide)
    simp only [sr] at h
    grind
  have g0 : a 0 0 * u 0 = 1 := by
    have h := hu 0 (by omega) (by decide)
    simp only [sr] at h
    grind
  obtain ⟨r0, t0⟩ := cram1 h0 g0
  unfold crP
  rw [ep, eD]
  refine ⟨fun hD => ?_, fun j hj => ?_, fun i hi => ?_⟩
  · have y := ha 0 0 (by omega) (by omega)
    rw [hD] at y
    grind
  · have hj' : j = 0 ∨ j = 1 ∨ j = 2 ∨ j = 3 := by omega
    rcases hj' with f | f | f | f <;> subst f
    · have n1 : cfR a 1 1 1 0 = 0 := if_neg (by decide)
      have n2 : cfR a 1 1 2 0 = 0 := if_neg (by decide)
      have n3 : cfR a 1 1 3 0 = 0 := if_neg (by decide)
      simp only [sr, c00, n1, n2, n3, Rat.zero_add, Rat.add_zero]
      exact r0
    · have n0 : cfR a 1 1 0 1 = 0 := if_neg (by decide)
      have n1 : cfR a 1 1 1 1 = 0 := if_neg (by decide)
      have n2 : cfR a 1 1 2 1 = 0 := if_neg (by decide)
      have n3 : cfR a 1 1 3 1 = 0 := if_neg (by decide)
      simp only [sr, wz1, n0, n1, n2, n3, Rat.zero_add, Rat.add_zero, Rat.mul_zero]
    · have n0 : cfR a 1 1 0 2 = 0 := if_neg (by decide)
      have n1 : cfR a 1 1 1 2 = 0 := if_neg (by decide)
      have n2 : cfR a 1 1 2 2 = 0 := if_neg (by decide)
      have n3 : cfR a 1 1 3 2 = 0 := if_neg (by decide)
      simp only [sr, wz2, n0, n1, n2, n3, Rat.zero_add, Rat.add_zero, Rat.mul_zero]
    · have n0 : cfR a 1 1 0 3 = 0 := if_neg (by decide)
      have n1 : cfR a 1 1 1 3 = 0 := if_neg (by decide)
      have n2 : cfR a 1 1 2 3 = 0 := if_neg (by decide)
      have n3 : cfR a 1 1 3 3 = 0 := if_neg (by decide)
      simp only [sr, wz3, n0, n1, n2, n3, Rat.zero_add, Rat.add_zero, Rat.mul_zero]
  · have hi' : i = 0 ∨ i = 1 ∨ i = 2 ∨ i = 3 := by omega
    rcases hi' with f | f | f | f <;> subst f
    · have n1 : cfR a 1 1 0 1 = 0 := if_neg (by decide)
      have n2 : cfR a 1 1 0 2 = 0 := if_neg (by decide)
      have n3 : cfR a 1 1 0 3 = 0 := if_neg (by decide)
      simp only [sr, c00, n1, n2, n3, Rat.zero_add, Rat.add_zero]
      exact t0
    · have n0 : cfR a 1 1 1 0 = 0 := if_neg (by decide)
      have n1 : cfR a 1 1 1 1 = 0 := if_neg (by decide)
      have n2 : cfR a 1 1 1 2 = 0 := if_neg (by decide)
      have n3 : cfR a 1 1 1 3 = 0 := if_neg (by decide)
      simp only [sr, uz1, n0, n1, n2, n3, Rat.zero_add, Rat.add_zero, Rat.mul_zero]
    · have n0 : cfR a 1 1 2 0 = 0 := if_neg (by decide)
      have n1 : cfR a 1 1 2 1 = 0 := if_neg (by decide)
      have n2 : cfR a 1 1 2 2 = 0 := if_neg (by decide)
      have n3 : cfR a 1 1 2 3 = 0 := if_neg (by decide)
      simp only [sr, uz2, n0, n1, n2, n3, Rat.zero_add, Rat.add_zero, Rat.mul_zero]
    · have n0 : cfR a 1 1 3 0 = 0 := if_neg (by decide)
      have n1 : cfR a 1 1 3 1 = 0 := if_neg (by decide)
      have n2 : cfR a 1 1 3 2 = 0 := if_neg (by decide)
      have n3 : cfR a 1 1 3 3 = 0 := if_neg (by decide)
      simp only [sr, uz3, n0, n1, n2, n3, Rat.zero_add, Rat.add_zero, Rat.mul_zero]
theorem ev_1_2 (a : Nat → Nat → Rat) : dR a 1 1 2 = a 0 1 ∧ cfR a 1 2 0 1 = (1) := by
  simp [cfR, dR, exR, lowB, pop] <;> grind
theorem cr_1_2 {a : Nat → Nat → Rat} {w u : Nat → Rat} (ha : ∀ i j, i < 4 → j < 4 → 1 ≤ a i j) (hw : ∀ i, i < 4 → bN 1 i → sr (fun j => a i j * w j) 4 = 1) (w0 : ∀ j, j < 4 → ¬ bN 2 j → w j = 0) (hu : ∀ j, j < 4 → bN 2 j → sr (fun i => a i j * u i) 4 = 1) (u0 : ∀ i, i < 4 → ¬ bN 1 i → u i = 0) (hz : ∀ z : Nat → Rat, (∀ j, j < 4 → ¬ bN 2 j → z j = 0) → (∀ i, i < 4 → bN 1 i → sr (fun j => a i j * z j) 4 = 0) → ∀ j, j < 4 → z j = 0) : crP a 1 2 w u := by
  have ep : pop 1 = 1 := by decide
  obtain ⟨eD, c00⟩ := ev_1_2 a
  have wz0 := w0 0 (by omega) (by decide)
  have wz2 := w0 2 (by omega) (by decide)
  have wz3 := w0 3 (by omega) (by decide)
  have uz1 := u0 1 (by omega) (by decide)
  have uz2 := u0 2 (by omega) (by decide)
  have uz3 := u0 3 (by omega) (by decide)
  have h0 : a 0 1 * w 1 = 1 := by
    have h := hw 0 (by omega) (by decide)
    simp only [sr] at h
    grind
  have g0 : a 0 1 * u 0 = 1 := by
    have h := hu 1 (by omega) (by decide)
    simp only [sr] at h
    grind
  obtain ⟨r0, t0⟩ := cram1 h0 g0
  unfold crP
  rw [ep, eD]
  refine ⟨fun hD => ?_, fun j hj => ?_, fun i hi => ?_⟩
  · have y := ha 0 1 (by omega) (by omega)
    rw [hD] at y
    grind
  · have hj' : j = 0 ∨ j = 1 ∨ j = 2 ∨ j = 3 := by omega
    rcases hj' with f | f | f | f <;> subst f
    · have n0 : cfR a 1 2 0 0 = 0 := if_neg (by decide)
      have n1 : cfR a 1 2 1 0 = 0 := if_neg (by decide)
      have n2 : cfR a 1 2 2 0 = 0 := if_neg (by decide)
      have n3 : cfR a 1 2 3 0 = 0 := if_neg (by decide)
      simp only [sr, wz0, n0, n1, n2, n3, Rat.zero_add, Rat.add_zero, Rat.mul_zero]
    · have n1 : cfR a 1 2 1 1 = 0 := if_neg (by decide)
      have n2 : cfR a 1 2 2 1 = 0 := if_neg (by decide)
      have n3 : cfR a 1 2 3 1 = 0 := if_neg (by decide)
      simp only [sr, c00, n1, n2, n3, Rat.zero_add, Rat.add_zero]
      exact r0
    · have n0 : cfR a 1 2 0 2 = 0 := if_neg (by decide)
      have n1 : cfR a 1 2 1 2 = 0 := if_neg (by decide)
      have n2 : cfR a 1 2 2 2 = 0 := if_neg (by decide)
      have n3 : cfR a 1 2 3 2 = 0 := if_neg (by decide)
      simp only [sr, wz2, n0, n1, n2, n3, Rat.zero_add, Rat.add_zero, Rat.mul_zero]
    · have n0 : cfR a 1 2 0 3 = 0 := if_neg (by decide)
      have n1 : cfR a 1 2 1 3 = 0 := if_neg (by decide)
      have n2 : cfR a 1 2 2 3 = 0 := if_neg (by decide)
      have n3 : cfR a 1 2 3 3 = 0 := if_neg (by decide)
      simp only [sr, wz3, n0, n1, n2, n3, Rat.zero_add, Rat.add_zero, Rat.mul_zero]
  · have hi' : i = 0 ∨ i = 1 ∨ i = 2 ∨ i = 3 := by omega
    rcases hi' with f | f | f | f <;> subst f
    · have n0 : cfR a 1 2 0 0 = 0 := if_neg (by decide)
      have n2 : cfR a 1 2 0 2 = 0 := if_neg (by decide)
      have n3 : cfR a 1 2 0 3 = 0 := if_neg (by decide)
      simp only [sr, c00, n0, n2, n3, Rat.zero_add, Rat.add_zero]
      exact t0
    · have n0 : cfR a 1 2 1 0 = 0 := if_neg (by decide)
      have n1 : cfR a 1 2 1 1 = 0 := if_neg (by decide)
      have n2 : cfR a 1 2 1 2 = 0 := if_neg (by decide)
      have n3 : cfR a 1 2 1 3 = 0 := if_neg (by decide)
      simp only [sr, uz1, n0, n1, n2, n3, Rat.zero_add, Rat.add_zero, Rat.mul_zero]
    · have n0 : cfR a 1 2 2 0 = 0 := if_neg (by decide)
      have n1 : cfR a 1 2 2 1 = 0 := if_neg (by decide)
      have n2 : cfR a 1 2 2 2 = 0 := if_neg (by decide)
      have n3 : cfR a 1 2 2 3 = 0 := if_neg (by decide)
      simp only [sr, uz2, n0, n1, n2, n3, Rat.zero_add, Rat.add_zero, Rat.mul_zero]
    · have n0 : cfR a 1 2 3 0 = 0 := if_neg (by decide)
      have n1 : cfR a 1 2 3 1 = 0 := if_neg (by decide)
      have n2 : cfR a 1 2 3 2 = 0 := if_neg (by decide)
      have n3 : cfR a 1 2 3 3 = 0 := if_neg (by decide)
      simp only [sr, uz3, n0, n1, n2, n3, Rat.zero_add, Rat.add_zero, Rat.mul_zero]
theorem ev_1_4 (a : Nat → Nat → Rat) : dR a 1 1 4 = a 0 2 ∧ cfR a 1 4 0 2 = (1) := by
  simp [cfR, dR, exR, lowB, pop] <;> grind
theorem cr_1_4 {a : Nat → Nat → Rat} {w u : Nat → Rat} (ha : ∀ i j, i < 4 → j < 4 → 1 ≤ a i j) (hw : ∀ i, i < 4 → bN 1 i → sr (fun j => a i j * w j) 4 = 1) (w0 : ∀ j, j < 4 → ¬ bN 4 j → w j = 0) (hu : ∀ j, j < 4 → bN 4 j → sr (fun i => a i j * u i) 4 = 1) (u0 : ∀ i, i < 4 → ¬ bN 1 i → u i = 0) (hz : ∀ z : Nat → Rat, (∀ j, j < 4 → ¬ bN 4 j → z j = 0) → (∀ i, i < 4 → bN 1 i → sr (fun j => a i j * z j) 4 = 0) → ∀ j, j < 4 → z j = 0) : crP a 1 4 w u := by
  have ep : pop 1 = 1 := by decide
  obtain ⟨eD, c00⟩ := ev_1_4 a
  have wz0 := w0 0 (by omega) (by decide)
  have wz1 := w0 1 (by omega) (by decide)
  have wz3 := w0 3 (by omega) (by decide)
  have uz1 := u0 1 (by omega) (by decide)
  have uz2 := u0 2 (by omega) (by decide)
  have uz3 := u0 3 (by omega) (by decide)
  have h0 : a 0 2 * w 2 = 1 := by
    have h := hw 0 (by omega) (by decide)
    simp only [sr] at h
    grind
  have g0 : a 0 2 * u 0 = 1 := by
    have h := hu 2 (by omega) (by decide)
    simp only [sr] at h
    grind
  obtain ⟨r0, t0⟩ := cram1 h0 g0
  unfold crP
  rw [ep, eD]
  refine ⟨fun hD => ?_, fun j hj => ?_, fun i hi => ?_⟩
  · have y := ha 0 2 (by omega) (by omega)
    rw [hD] at y
    grind
  · have hj' : j = 0 ∨ j = 1 ∨ j = 2 ∨ j = 3 := by omega
    rcases hj' with f | f | f | f <;> subst f
    · have n0 : cfR a 1 4 0 0 = 0 := if_neg (by decide)
      have n1 : cfR a 1 4 1 0 = 0 := if_neg (by decide)
      have n2 : cfR a 1 4 2 0 = 0 := if_neg (by decide)
      have n3 : cfR a 1 4 3 0 = 0 := if_neg (by decide)
      simp only [sr, wz0, n0, n1, n2, n3, Rat.zero_add, Rat.add_zero, Rat.mul_zero]
    · have n0 : cfR a 1 4 0 1 = 0 := if_neg (by decide)
      have n1 : cfR a 1 4 1 1 = 0 := if_neg (by decide)
      have n2 : cfR a 1 4 2 1 = 0 := if_neg (by decide)
      have n3 : cfR a 1 4 3 1 = 0 := if_neg (by decide)
      simp only [sr, wz1, n0, n1, n2, n3, Rat.zero_add, Rat.add_zero, Rat.mul_zero]
    · have n1 : cfR a 1 4 1 2 = 0 := if_neg (by decide)
      have n2 : cfR a 1 4 2 2 = 0 := if_neg (by decide)
      have n3 : cfR a 1 4 3 2 = 0 := if_neg (by decide)
      simp only [sr, c00, n1, n2, n3, Rat.zero_add, Rat.add_zero]
      exact r0
    · have n0 : cfR a 1 4 0 3 = 0 := if_neg (by decide)
      have n1 : cfR a 1 4 1 3 = 0 := if_neg (by decide)
      have n2 : cfR a 1 4 2 3 = 0 := if_neg (by decide)
      have n3 : cfR a 1 4 3 3 = 0 := if_neg (by decide)
      simp only [sr, wz3, n0, n1, n2, n3, Rat.zero_add, Rat.add_zero, Rat.mul_zero]
  · have hi' : i = 0 ∨ i = 1 ∨ i = 2 ∨ i = 3 := by omega
    rcases hi' with f | f | f | f <;> subst f
    · have n0 : cfR a 1 4 0 0 = 0 := if_neg (by decide)
      have n1 : cfR a 1 4 0 1 = 0 := if_neg (by decide)
      have n3 : cfR a 1 4 0 3 = 0 := if_neg (by decide)
      simp only [sr, c00, n0, n1, n3, Rat.zero_add, Rat.add_zero]
      exact t0
    · have n0 : cfR a 1 4 1 0 = 0 := if_neg (by decide)
      have n1 : cfR a 1 4 1 1 = 0 := if_neg (by decide)
      have n2 : cfR a 1 4 1 2 = 0 := if_neg (by decide)
      have n3 : cfR a 1 4 1 3 = 0 := if_neg (by decide)
      simp only [sr, uz1, n0, n1, n2, n3, Rat.zero_add, Rat.add_zero, Rat.mul_zero]
    · have n0 : cfR a 1 4 2 0 = 0 := if_neg (by decide)
      have n1 : cfR a 1 4 2 1 = 0 := if_neg (by decide)
      have n2 : cfR a 1 4 2 2 = 0 := if_neg (by decide)
      have n3 : cfR a 1 4 2 3 = 0 := if_neg (by decide)
      simp only [sr, uz2, n0, n1, n2, n3, Rat.zero_add, Rat.add_zero, Rat.mul_zero]
    · have n0 : cfR a 1 4 3 0 = 0 := if_neg (by decide)
      have n1 : cfR a 1 4 3 1 = 0 := if_neg (by decide)
      have n2 : cfR a 1 4 3 2 = 0 := if_neg (by decide)
      have n3 : cfR a 1 4 3 3 = 0 := if_neg (by decide)
      simp only [sr, uz3, n0, n1, n2, n3, Rat.zero_add, Rat.add_zero, Rat.mul_zero]
theorem ev_1_8 (a : Nat → Nat → Rat) : dR a 1 1 8 = a 0 3 ∧ cfR a 1 8 0 3 = (1) := by
  simp [cfR, dR, exR, lowB, pop] <;> grind
theorem cr_1_8 {a : Nat → Nat → Rat} {w u : Nat → Rat} (ha : ∀ i j, i < 4 → j < 4 → 1 ≤ a i j) (hw : ∀ i, i < 4 → bN 1 i → sr (fun j => a i j * w j) 4 = 1) (w0 : ∀ j, j < 4 → ¬ bN 8 j → w j = 0) (hu : ∀ j, j < 4 → bN 8 j → sr (fun i => a i j * u i) 4 = 1) (u0 : ∀ i, i < 4 → ¬ bN 1 i → u i = 0) (hz : ∀ z : Nat → Rat, (∀ j, j < 4 → ¬ bN 8 j → z j = 0) → (∀ i, i < 4 → bN 1 i → sr (fun j => a i j * z j) 4 = 0) → ∀ j, j < 4 → z j = 0) : crP a 1 8 w u := by
  have ep : pop 1 = 1 := by decide
  obtain ⟨eD, c00⟩ := ev_1_8 a
  have wz0 := w0 0 (by omega) (by decide)
  have wz1 := w0 1 (by omega) (by decide)
  have wz2 := w0 2 (by omega) (by decide)
  have uz1 := u0 1 (by omega) (by decide)
  have uz2 := u0 2 (by omega) (by decide)
  have uz3 := u0 3 (by omega) (by decide)
  have h0 : a 0 3 * w 3 = 1 := by
    have h := hw 0 (by omega) (by decide)
    simp only [sr] at h
    grind
  have g0 : a 0 3 * u 0 = 1 := by
    have h := hu 3 (by omega) (by decide)
    simp only [sr] at h
    grind
  obtain ⟨r0, t0⟩ := cram1 h0 g0
  unfold crP
  rw [ep, eD]
  refine ⟨fun hD => ?_, fun j hj => ?_, fun i hi => ?_⟩
  · have y := ha 0 3 (by omega) (by omega)
    rw [hD] at y
    grind
  · have hj' : j = 0 ∨ j = 1 ∨ j = 2 ∨ j = 3 := by omega
    rcases hj' with f | f | f | f <;> subst f
    · have n0 : cfR a 1 8 0 0 = 0 := if_neg (by decide)
      have n1 : cfR a 1 8 1 0 = 0 := if_neg (by decide)
      have n2 : cfR a 1 8 2 0 = 0 := if_neg (by decide)
      have n3 : cfR a 1 8 3 0 = 0 := if_neg (by decide)
      simp only [sr, wz0, n0, n1, n2, n3, Rat.zero_add, Rat.add_zero, Rat.mul_zero]
    · have n0 : cfR a 1 8 0 1 = 0 := if_neg (by decide)
      have n1 : cfR a 1 8 1 1 = 0 := if_neg (by decide)
      have n2 : cfR a 1 8 2 1 = 0 := if_neg (by decide)
      have n3 : cfR a 1 8 3 1 = 0 := if_neg (by decide)
      simp only [sr, wz1, n0, n1, n2, n3, Rat.zero_add, Rat.add_zero, Rat.mul_zero]
    · have n0 : cfR a 1 8 0 2 = 0 := if_neg (by decide)
      have n1 : cfR a 1 8 1 2 = 0 := if_neg (by decide)
      have n2 : cfR a 1 8 2 2 = 0 := if_neg (by decide)
      have n3 : cfR a 1 8 3 2 = 0 := if_neg (by decide)
      simp only [sr, wz2, n0, n1, n2, n3, Rat.zero_add, Rat.add_zero, Rat.mul_zero]
    · have n1 : cfR a 1 8 1 3 = 0 := if_neg (by decide)
      have n2 : cfR a 1 8 2 3 = 0 := if_neg (by decide)
      have n3 : cfR a 1 8 3 3 = 0 := if_neg (by decide)
      simp only [sr, c00, n1, n2, n3, Rat.zero_add, Rat.add_zero]
      exact r0
  · have hi' : i = 0 ∨ i = 1 ∨ i = 2 ∨ i = 3 := by omega
    rcases hi' with f | f | f | f <;> subst f
    · have n0 : cfR a 1 8 0 0 = 0 := if_neg (by decide)
      have n1 : cfR a 1 8 0 1 = 0 := if_neg (by decide)
      have n2 : cfR a 1 8 0 2 = 0 := if_neg (by decide)
      simp only [sr, c00, n0, n1, n2, Rat.zero_add, Rat.add_zero]
      exact t0
    · have n0 : cfR a 1 8 1 0 = 0 := if_neg (by decide)
      have n1 : cfR a 1 8 1 1 = 0 := if_neg (by decide)
      have n2 : cfR a 1 8 1 2 = 0 := if_neg (by decide)
      have n3 : cfR a 1 8 1 3 = 0 := if_neg (by decide)
      simp only [sr, uz1, n0, n1, n2, n3, Rat.zero_add, Rat.add_zero, Rat.mul_zero]
    · have n0 : cfR a 1 8 2 0 = 0 := if_neg (by decide)
      have n1 : cfR a 1 8 2 1 = 0 := if_neg (by decide)
      have n2 : cfR a 1 8 2 2 = 0 := if_neg (by decide)
      have n3 : cfR a 1 8 2 3 = 0 := if_neg (by decide)
      simp only [sr, uz2, n0, n1, n2, n3, Rat.zero_add, Rat.add_zero, Rat.mul_zero]
    · have n0 : cfR a 1 8 3 0 = 0 := if_neg (by decide)
      have n1 : cfR a 1 8 3 1 = 0 := if_neg (by decide)
      have n2 : cfR a 1 8 3 2 = 0 := if_neg (by decide)
      have n3 : cfR a 1 8 3 3 = 0 := if_neg (by decide)
      simp only [sr, uz3, n0, n1, n2, n3, Rat.zero_add, Rat.add_zero, Rat.mul_zero]
theorem ev_2_1 (a : Nat → Nat → Rat) : dR a 1 2 1 = a 1 0 ∧ cfR a 2 1 1 0 = (1) := by
  simp [cfR, dR, exR, lowB, pop] <;> grind
theorem cr_2_1 {a : Nat → Nat → Rat} {w u : Nat → Rat} (ha : ∀ i j, i < 4 → j < 4 → 1 ≤ a i j) (hw : ∀ i, i < 4 → bN 2 i → sr (fun j => a i j * w j) 4 = 1) (w0 : ∀ j, j < 4 → ¬ bN 1 j → w j = 0) (hu : ∀ j, j < 4 → bN 1 j → sr (fun i => a i j * u i) 4 = 1) (u0 : ∀ i, i < 4 → ¬ bN 2 i → u i = 0) (hz : ∀ z : Nat → Rat, (∀ j, j < 4 → ¬ bN 1 j → z j = 0) → (∀ i, i < 4 → bN 2 i → sr (fun j => a i j * z j) 4 = 0) → ∀ j, j < 4 → z j = 0) : crP a 2 1 w u := by
  have ep : pop 2 = 1 := by decide
  obtain ⟨eD, c00⟩ := ev_2_1 a
  have wz1 := w0 1 (by omega) (by decide)
  have wz2 := w0 2 (by omega) (by decide)
  have wz3 := w0 3 (by omega) (by decide)
  have uz0 := u0 0 (by omega) (by decide)
  have uz2 := u0 2 (by omega) (by decide)
  have uz3 := u0 3 (by omega) (by decide)
  have h0 : a 1 0 * w 0 = 1 := by
    have h := hw 1 (by omega) (by decide)
    simp only [sr] at h
    grind
  have g0 : a 1 0 * u 1 = 1 := by
    have h := hu 0 (by omega) (by decide)
    simp only [sr] at h
    grind
  obtain ⟨r0, t0⟩ := cram1 h0 g0
  unfold crP
  rw [ep, eD]
  refine ⟨fun hD => ?_, fun j hj => ?_, fun i hi => ?_⟩
  · have y := ha 1 0 (by omega) (by omega)
    rw [hD] at y
    grind
  · have hj' : j = 0 ∨ j = 1 ∨ j = 2 ∨ j = 3 := by omega
    rcases hj' with f | f | f | f <;> subst f
    · have n0 : cfR a 2 1 0 0 = 0 := if_neg (by decide)
      have n2 : cfR a 2 1 2 0 = 0 := if_neg (by decide)
      have n3 : cfR a 2 1 3 0 = 0 := if_neg (by decide)
      simp only [sr, c00, n0, n2, n3, Rat.zero_add, Rat.add_zero]
      exact r0
    · have n0 : cfR a 2 1 0 1 = 0 := if_neg (by decide)
      have n1 : cfR a 2 1 1 1 = 0 := if_neg (by decide)
      have n2 : cfR a 2 1 2 1 = 0 := if_neg (by decide)
      have n3 : cfR a 2 1 3 1 = 0 := if_neg (by decide)
      simp only [sr, wz1, n0, n1, n2, n3, Rat.zero_add, Rat.add_zero, Rat.mul_zero]
    · have n0 : cfR a 2 1 0 2 = 0 := if_neg (by decide)
      have n1 : cfR a 2 1 1 2 = 0 := if_neg (by decide)
      have n2 : cfR a 2 1 2 2 = 0 := if_neg (by decide)
      have n3 : cfR a 2 1 3 2 = 0 := if_neg (by decide)
      simp only [sr, wz2, n0, n1, n2, n3, Rat.zero_add, Rat.add_zero, Rat.mul_zero]
    · have n0 : cfR a 2 1 0 3 = 0 := if_neg (by decide)
      have n1 : cfR a 2 1 1 3 = 0 := if_neg (by decide)
      have n2 : cfR a 2 1 2 3 = 0 := if_neg (by decide)
      have n3 : cfR a 2 1 3 3 = 0 := if_neg (by decide)
      simp only [sr, wz3, n0, n1, n2, n3, Rat.zero_add, Rat.add_zero, Rat.mul_zero]
  · have hi' : i = 0 ∨ i = 1 ∨ i = 2 ∨ i = 3 := by omega
    rcases hi' with f | f | f | f <;> subst f
    · have n0 : cfR a 2 1 0 0 = 0 := if_neg (by decide)
      have n1 : cfR a 2 1 0 1 = 0 := if_neg (by decide)
      have n2 : cfR a 2 1 0 2 = 0 := if_neg (by decide)
      have n3 : cfR a 2 1 0 3 = 0 := if_neg (by decide)
      simp only [sr, uz0, n0, n1, n2, n3, Rat.zero_add, Rat.add_zero, Rat.mul_zero]
    · have n1 : cfR a 2 1 1 1 = 0 := if_neg (by decide)
      have n2 : cfR a 2 1 1 2 = 0 := if_neg (by decide)
      have n3 : cfR a 2 1 1 3 = 0 := if_neg (by decide)
      simp only [sr, c00, n1, n2, n3, Rat.zero_add, Rat.add_zero]
      exact t0
    · have n0 : cfR a 2 1 2 0 = 0 := if_neg (by decide)
      have n1 : cfR a 2 1 2 1 = 0 := if_neg (by decide)
      have n2 : cfR a 2 1 2 2 = 0 := if_neg (by decide)
      have n3 : cfR a 2 1 2 3 = 0 := if_neg (by decide)
      simp only [sr, uz2, n0, n1, n2, n3, Rat.zero_add, Rat.add_zero, Rat.mul_zero]
    · have n0 : cfR a 2 1 3 0 = 0 := if_neg (by decide)
      have n1 : cfR a 2 1 3 1 = 0 := if_neg (by decide)
      have n2 : cfR a 2 1 3 2 = 0 := if_neg (by decide)
      have n3 : cfR a 2 1 3 3 = 0 := if_neg (by decide)
      simp only [sr, uz3, n0, n1, n2, n3, Rat.zero_add, Rat.add_zero, Rat.mul_zero]
theorem ev_2_2 (a : Nat → Nat → Rat) : dR a 1 2 2 = a 1 1 ∧ cfR a 2 2 1 1 = (1) := by
  simp [cfR, dR, exR, lowB, pop] <;> grind
theorem cr_2_2 {a : Nat → Nat → Rat} {w u : Nat → Rat} (ha : ∀ i j, i < 4 → j < 4 → 1 ≤ a i j) (hw : ∀ i, i < 4 → bN 2 i → sr (fun j => a i j * w j) 4 = 1) (w0 : ∀ j, j < 4 → ¬ bN 2 j → w j = 0) (hu : ∀ j, j < 4 → bN 2 j → sr (fun i => a i j * u i) 4 = 1) (u0 : ∀ i, i < 4 → ¬ bN 2 i → u i = 0) (hz : ∀ z : Nat → Rat, (∀ j, j < 4 → ¬ bN 2 j → z j = 0) → (∀ i, i < 4 → bN 2 i → sr (fun j => a i j * z j) 4 = 0) → ∀ j, j < 4 → z j = 0) : crP a 2 2 w u := by
  have ep : pop 2 = 1 := by decide
  obtain ⟨eD, c00⟩ := ev_2_2 a
  have wz0 := w0 0 (by omega) (by decide)
  have wz2 := w0 2 (by omega) (by decide)
  have wz3 := w0 3 (by omega) (by decide)
  have uz0 := u0 0 (by omega) (by decide)
  have uz2 := u0 2 (by omega) (by decide)
  have uz3 := u0 3 (by omega) (by decide)
  have h0 : a 1 1 * w 1 = 1 := by
    have h := hw 1 (by omega) (by decide)
    simp only [sr] at h
    grind
  have g0 : a 1 1 * u 1 = 1 := by
    have h := hu 1 (by omega) (by decide)
    simp only [sr] at h
    grind
  obtain ⟨r0, t0⟩ := cram1 h0 g0
  unfold crP
  rw [ep, eD]
  refine ⟨fun hD => ?_, fun j hj => ?_, fun i hi => ?_⟩
  · have y := ha 1 1 (by omega) (by omega)
    rw [hD] at y
    grind
  · have hj' : j = 0 ∨ j = 1 ∨ j = 2 ∨ j = 3 := by omega
    rcases hj' with f | f | f | f <;> subst f
    · have n0 : cfR a 2 2 0 0 = 0 := if_neg (by decide)
      have n1 : cfR a 2 2 1 0 = 0 := if_neg (by decide)
      have n2 : cfR a 2 2 2 0 = 0 := if_neg (by decide)
      have n3 : cfR a 2 2 3 0 = 0 := if_neg (by decide)
      simp only [sr, wz0, n0, n1, n2, n3, Rat.zero_add, Rat.add_zero, Rat.mul_zero]
    · have n0 : cfR a 2 2 0 1 = 0 := if_neg (by decide)
      have n2 : cfR a 2 2 2 1 = 0 := if_neg (by decide)
      have n3 : cfR a 2 2 3 1 = 0 := if_neg (by decide)
      simp only [sr, c00, n0, n2, n3, Rat.zero_add, Rat.add_zero]
      exact r0
    · have n0 : cfR a 2 2 0 2 = 0 := if_neg (by decide)
      have n1 : cfR a 2 2 1 2 = 0 := if_neg (by decide)
      have n2 : cfR a 2 2 2 2 = 0 := if_neg (by decide)
      have n3 : cfR a 2 2 3 2 = 0 := if_neg (by decide)
      simp only [sr, wz2, n0, n1, n2, n3, Rat.zero_add, Rat.add_zero, Rat.mul_zero]
    · have n0 : cfR a 2 2 0 3 = 0 := if_neg (by decide)
      have n1 : cfR a 2 2 1 3 = 0 := if_neg (by decide)
      have n2 : cfR a 2 2 2 3 = 0 := if_neg (by decide)
      have n3 : cfR a 2 2 3 3 = 0 := if_neg (by decide)
      simp only [sr, wz3, n0, n1, n2, n3, Rat.zero_add, Rat.add_zero, Rat.mul_zero]
  · have hi' : i = 0 ∨ i = 1 ∨ i = 2 ∨ i = 3 := by omega
    rcases hi' with f | f | f | f <;> subst f
    · have n0 : cfR a 2 2 0 0 = 0 := if_neg (by decide)
      have n1 : cfR a 2 2 0 1 = 0 := if_neg (by decide)
      have n2 : cfR a 2 2 0 2 = 0 := if_neg (by decide)
      have n3 : cfR a 2 2 0 3 = 0 := if_neg (by decide)
      simp only [sr, uz0, n0, n1, n2, n3, Rat.zero_add, Rat.add_zero, Rat.mul_zero]
    · have n0 : cfR a 2 2 1 0 = 0 := if_neg (by decide)
      have n2 : cfR a 2 2 1 2 = 0 := if_neg (by decide)
      have n3 : cfR a 2 2 1 3 = 0 := if_neg (by decide)
      simp only [sr, c00, n0, n2, n3, Rat.zero_add, Rat.add_zero]
      exact t0
    · have n0 : cfR a 2 2 2 0 = 0 := if_neg (by decide)
      have n1 : cfR a 2 2 2 1 = 0 := if_neg (by decide)
      have n2 : cfR a 2 2 2 2 = 0 := if_neg (by decide)
      have n3 : cfR a 2 2 2 3 = 0 := if_neg (by decide)
      simp only [sr, uz2, n0, n1, n2, n3, Rat.zero_add, Rat.add_zero, Rat.mul_zero]
    · have n0 : cfR a 2 2 3 0 = 0 := if_neg (by decide)
      have n1 : cfR a 2 2 3 1 = 0 := if_neg (by decide)
      have n2 : cfR a 2 2 3 2 = 0 := if_neg (by decide)
      have n3 : cfR a 2 2 3 3 = 0 := if_neg (by decide)
      simp only [sr, uz3, n0, n1, n2, n3, Rat.zero_add, Rat.add_zero, Rat.mul_zero]
theorem ev_2_4 (a : Nat → Nat → Rat) : dR a 1 2 4 = a 1 2 ∧ cfR a 2 4 1 2 = (1) := by
  simp [cfR, dR, exR, lowB, pop] <;> grind
theorem cr_2_4 {a : Nat → Nat → Rat} {w u : Nat → Rat} (ha : ∀ i j, i < 4 → j < 4 → 1 ≤ a i j) (hw : ∀ i, i < 4 → bN 2 i → sr (fun j => a i j * w j) 4 = 1) (w0 : ∀ j, j < 4 → ¬ bN 4 j → w j = 0) (hu : ∀ j, j < 4 → bN 4 j → sr (fun i => a i j * u i) 4 = 1) (u0 : ∀ i, i < 4 → ¬ bN 2 i → u i = 0) (hz : ∀ z : Nat → Rat, (∀ j, j < 4 → ¬ bN 4 j → z j = 0) → (∀ i, i < 4 → bN 2 i → sr (fun j => a i j * z j) 4 = 0) → ∀ j, j < 4 → z j = 0) : crP a 2 4 w u := by
  have ep : pop 2 = 1 := by decide
  obtain ⟨eD, c00⟩ := ev_2_4 a
  have wz0 := w0 0 (by omega) (by decide)
  have wz1 := w0 1 (by omega) (by decide)
  have wz3 := w0 3 (by omega) (by decide)
  have uz0 := u0 0 (by omega) (by decide)
  have uz2 := u0 2 (by omega) (by decide)
  have uz3 := u0 3 (by omega) (by decide)
  have h0 : a 1 2 * w 2 = 1 := by
    have h := hw 1 (by omega) (by decide)
    simp only [sr] at h
    grind
  have g0 : a 1 2 * u 1 = 1 := by
    have h := hu 2 (by omega) (by decide)
    simp only [sr] at h
    grind
  obtain ⟨r0, t0⟩ := cram1 h0 g0
  unfold crP
  rw [ep, eD]
  refine ⟨fun hD => ?_, fun j hj => ?_, fun i hi => ?_⟩
  · have y := ha 1 2 (by omega) (by omega)
    rw [hD] at y
    grind
  · have hj' : j = 0 ∨ j = 1 ∨ j = 2 ∨ j = 3 := by omega
    rcases hj' with f | f | f | f <;> subst f
    · have n0 : cfR a 2 4 0 0 = 0 := if_neg (by decide)
      have n1 : cfR a 2 4 1 0 = 0 := if_neg (by decide)
      have n2 : cfR a 2 4 2 0 = 0 := if_neg (by decide)
      have n3 : cfR a 2 4 3 0 = 0 := if_neg (by decide)
      simp only [sr, wz0, n0, n1, n2, n3, Rat.zero_add, Rat.add_zero, Rat.mul_zero]
    · have n0 : cfR a 2 4 0 1 = 0 := if_neg (by decide)
      have n1 : cfR a 2 4 1 1 = 0 := if_neg (by decide)
      have n2 : cfR a 2 4 2 1 = 0 := if_neg (by decide)
      have n3 : cfR a 2 4 3 1 = 0 := if_neg (by decide)
      simp only [sr, wz1, n0, n1, n2, n3, Rat.zero_add, Rat.add_zero, Rat.mul_zero]
    · have n0 : cfR a 2 4 0 2 = 0 := if_neg (by decide)
      have n2 : cfR a 2 4 2 2 = 0 := if_neg (by decide)
      have n3 : cfR a 2 4 3 2 = 0 := if_neg (by decide)
      simp only [sr, c00, n0, n2, n3, Rat.zero_add, Rat.add_zero]
      exact r0
    · have n0 : cfR a 2 4 0 3 = 0 := if_neg (by decide)
      have n1 : cfR a 2 4 1 3 = 0 := if_neg (by decide)
      have n2 : cfR a 2 4 2 3 = 0 := if_neg (by decide)
      have n3 : cfR a 2 4 3 3 = 0 := if_neg (by decide)
      simp only [sr, wz3, n0, n1, n2, n3, Rat.zero_add, Rat.add_zero, Rat.mul_zero]
  · have hi' : i = 0 ∨ i = 1 ∨ i = 2 ∨ i = 3 := by omega
    rcases hi' with f | f | f | f <;> subst f
    · have n0 : cfR a 2 4 0 0 = 0 := if_neg (by decide)
      have n1 : cfR a 2 4 0 1 = 0 := if_neg (by decide)
      have n2 : cfR a 2 4 0 2 = 0 := if_neg (by decide)
      have n3 : cfR a 2 4 0 3 = 0 := if_neg (by decide)
      simp only [sr, uz0, n0, n1, n2, n3, Rat.zero_add, Rat.add_zero, Rat.mul_zero]
    · have n0 : cfR a 2 4 1 0 = 0 := if_neg (by decide)
      have n1 : cfR a 2 4 1 1 = 0 := if_neg (by decide)
      have n3 : cfR a 2 4 1 3 = 0 := if_neg (by decide)
      simp only [sr, c00, n0, n1, n3, Rat.zero_add, Rat.add_zero]
      exact t0
    · have n0 : cfR a 2 4 2 0 = 0 := if_neg (by decide)
      have n1 : cfR a 2 4 2 1 = 0 := if_neg (by decide)
      have n2 : cfR a 2 4 2 2 = 0 := if_neg (by decide)
      have n3 : cfR a 2 4 2 3 = 0 := if_neg (by decide)
      simp only [sr, uz2, n0, n1, n2, n3, Rat.zero_add, Rat.add_zero, Rat.mul_zero]
    · have n0 : cfR a 2 4 3 0 = 0 := if_neg (by decide)
      have n1 : cfR a 2 4 3 1 = 0 := if_neg (by decide)
      have n2 : cfR a 2 4 3 2 = 0 := if_neg (by decide)
      have n3 : cfR a 2 4 3 3 = 0 := if_neg (by decide)
      simp only [sr, uz3, n0, n1, n2, n3, Rat.zero_add, Rat.add_zero, Rat.mul_zero]
theorem ev_2_8 (a : Nat → Nat → Rat) : dR a 1 2 8 = a 1 3 ∧ cfR a 2 8 1 3 = (1) := by
  simp [cfR, dR, exR, lowB, pop] <;> grind
theorem cr_2_8 {a : Nat → Nat → Rat} {w u : Nat → Rat} (ha : ∀ i j, i < 4 → j < 4 → 1 ≤ a i j) (hw : ∀ i, i < 4 → bN 2 i → sr (fun j => a i j * w j) 4 = 1) (w0 : ∀ j, j < 4 → ¬ bN 8 j → w j = 0) (hu : ∀ j, j < 4 → bN 8 j → sr (fun i => a i j * u i) 4 = 1) (u0 : ∀ i, i < 4 → ¬ bN 2 i → u i = 0) (hz : ∀ z : Nat → Rat, (∀ j, j < 4 → ¬ bN 8 j → z j = 0) → (∀ i, i < 4 → bN 2 i → sr (fun j => a i j * z j) 4 = 0) → ∀ j, j < 4 → z j = 0) : crP a 2 8 w u := by
  have ep : pop 2 = 1 := by decide
  obtain ⟨eD, c00⟩ := ev_2_8 a
  have wz0 := w0 0 (by omega) (by decide)
  have wz1 := w0 1 (by omega) (by decide)
  have wz2 := w0 2 (by omega) (by decide)
  have uz0 := u0 0 (by omega) (by decide)
  have uz2 := u0 2 (by omega) (by decide)
  have uz3 := u0 3 (by omega) (by decide)
  have h0 : a 1 3 * w 3 = 1 := by
    have h := hw 1 (by omega) (by decide)
    simp only [sr] at h
    grind
  have g0 : a 1 3 * u 1 = 1 := by
    have h := hu 3 (by omega) (by decide)
    simp only [sr] at h
    grind
  obtain ⟨r0, t0⟩ := cram1 h0 g0
  unfold crP
  rw [ep, eD]
  refine ⟨fun hD => ?_, fun j hj => ?_, fun i hi => ?_⟩
  · have y := ha 1 3 (by omega) (by omega)
    rw [hD] at y
    grind
  · have hj' : j = 0 ∨ j = 1 ∨ j = 2 ∨ j = 3 := by omega
    rcases hj' with f | f | f | f <;> subst f
    · have n0 : cfR a 2 8 0 0 = 0 := if_neg (by decide)
      have n1 : cfR a 2 8 1 0 = 0 := if_neg (by decide)
      have n2 : cfR a 2 8 2 0 = 0 := if_neg (by decide)
      have n3 : cfR a 2 8 3 0 = 0 := if_neg (by decide)
      simp only [sr, wz0, n0, n1, n2, n3, Rat.zero_add, Rat.add_zero, Rat.mul_zero]
    · have n0 : cfR a 2 8 0 1 = 0 := if_neg (by decide)
      have n1 : cfR a 2 8 1 1 = 0 := if_neg (by decide)
      have n2 : cfR a 2 8 2 1 = 0 := if_neg (by decide)
      have n3 : cfR a 2 8 3 1 = 0 := if_neg (by decide)
      simp only [sr, wz1, n0, n1, n2, n3, Rat.zero_add, Rat.add_zero, Rat.mul_zero]
    · have n0 : cfR a 2 8 0 2 = 0 := if_neg (by decide)
      have n1 : cfR a 2 8 1 2 = 0 := if_neg (by decide)
      have n2 : cfR a 2 8 2 2 = 0 := if_neg (by decide)
      have n3 : cfR a 2 8 3 2 = 0 := if_neg (by decide)
      simp only [sr, wz2, n0, n1, n2, n3, Rat.zero_add, Rat.add_zero, Rat.mul_zero]
    · have n0 : cfR a 2 8 0 3 = 0 := if_neg (by decide)
      have n2 : cfR a 2 8 2 3 = 0 := if_neg (by decide)
      have n3 : cfR a 2 8 3 3 = 0 := if_neg (by decide)
      simp only [sr, c00, n0, n2, n3, Rat.zero_add, Rat.add_zero]
      exact r0
  · have hi' : i = 0 ∨ i = 1 ∨ i = 2 ∨ i = 3 := by omega
    rcases hi' with f | f | f | f <;> subst f
    · have n0 : cfR a 2 8 0 0 = 0 := if_neg (by decide)
      have n1 : cfR a 2 8 0 1 = 0 := if_neg (by decide)
      have n2 : cfR a 2 8 0 2 = 0 := if_neg (by decide)
      have n3 : cfR a 2 8 0 3 = 0 := if_neg (by decide)
      simp only [sr, uz0, n0, n1, n2, n3, Rat.zero_add, Rat.add_zero, Rat.mul_zero]
    · have n0 : cfR a 2 8 1 0 = 0 := if_neg (by decide)
      have n1 : cfR a 2 8 1 1 = 0 := if_neg (by decide)
      have n2 : cfR a 2 8 1 2 = 0 := if_neg (by decide)
      simp only [sr, c00, n0, n1, n2, Rat.zero_add, Rat.add_zero]
      exact t0
    · have n0 : cfR a 2 8 2 0 = 0 := if_neg (by decide)
      have n1 : cfR a 2 8 2 1 = 0 := if_neg (by decide)
      have n2 : cfR a 2 8 2 2 = 0 := if_neg (by decide)
      have n3 : cfR a 2 8 2 3 = 0 := if_neg (by decide)
      simp only [sr, uz2, n0, n1, n2, n3, Rat.zero_add, Rat.add_zero, Rat.mul_zero]
    · have n0 : cfR a 2 8 3 0 = 0 := if_neg (by decide)
      have n1 : cfR a 2 8 3 1 = 0 := if_neg (by decide)
      have n2 : cfR a 2 8 3 2 = 0 := if_neg (by decide)
      have n3 : cfR a 2 8 3 3 = 0 := if_neg (by decide)
      simp only [sr, uz3, n0, n1, n2, n3, Rat.zero_add, Rat.add_zero, Rat.mul_zero]
theorem ev_4_1 (a : Nat → Nat → Rat) : dR a 1 4 1 = a 2 0 ∧ cfR a 4 1 2 0 = (1) := by
  simp [cfR, dR, exR, lowB, pop] <;> grind
theorem cr_4_1 {a : Nat → Nat → Rat} {w u : Nat → Rat} (ha : ∀ i j, i < 4 → j < 4 → 1 ≤ a i j) (hw : ∀ i, i < 4 → bN 4 i → sr (fun j => a i j * w j) 4 = 1) (w0 : ∀ j, j < 4 → ¬ bN 1 j → w j = 0) (hu : ∀ j, j < 4 → bN 1 j → sr (fun i => a i j * u i) 4 = 1) (u0 : ∀ i, i < 4 → ¬ bN 4 i → u i = 0) (hz : ∀ z : Nat → Rat, (∀ j, j < 4 → ¬ bN 1 j → z j = 0) → (∀ i, i < 4 → bN 4 i → sr (fun j => a i j * z j) 4 = 0) → ∀ j, j < 4 → z j = 0) : crP a 4 1 w u := by
  have ep : pop 4 = 1 := by decide
  obtain ⟨eD, c00⟩ := ev_4_1 a
  have wz1 := w0 1 (by omega) (by decide)
  have wz2 := w0 2 (by omega) (by decide)
  have wz3 := w0 3 (by omega) (by decide)
  have uz0 := u0 0 (by omega) (by decide)
  have uz1 := u0 1 (by omega) (by decide)
  have uz3 := u0 3 (by omega) (by decide)
  have h0 : a 2 0 * w 0 = 1 := by
    have h := hw 2 (by omega) (by decide)
    simp only [sr] at h
    grind
  have g0 : a 2 0 * u 2 = 1 := by
    have h := hu 0 (by omega) (by decide)
    simp only [sr] at h
    grind
  obtain ⟨r0, t0⟩ := cram1 h0 g0
  unfold crP
  rw [ep, eD]
  refine ⟨fun hD => ?_, fun j hj => ?_, fun i hi => ?_⟩
  · have y := ha 2 0 (by omega) (by omega)
    rw [hD] at y
    grind
  · have hj' : j = 0 ∨ j = 1 ∨ j = 2 ∨ j = 3 := by omega
    rcases hj' with f | f | f | f <;> subst f
    · have n0 : cfR a 4 1 0 0 = 0 := if_neg (by decide)
      have n1 : cfR a 4 1 1 0 = 0 := if_neg (by decide)
      have n3 : cfR a 4 1 3 0 = 0 := if_neg (by decide)
      simp only [sr, c00, n0, n1, n3, Rat.zero_add, Rat.add_zero]
      exact r0
    · have n0 : cfR a 4 1 0 1 = 0 := if_neg (by decide)
      have n1 : cfR a 4 1 1 1 = 0 := if_neg (by decide)
      have n2 : cfR a 4 1 2 1 = 0 := if_neg (by decide)
      have n3 : cfR a 4 1 3 1 = 0 := if_neg (by decide)
      simp only [sr, wz1, n0, n1, n2, n3, Rat.zero_add, Rat.add_zero, Rat.mul_zero]
    · have n0 : cfR a 4 1 0 2 = 0 := if_neg (by decide)
      have n1 : cfR a 4 1 1 2 = 0 := if_neg (by decide)
      have n2 : cfR a 4 1 2 2 = 0 := if_neg (by decide)
      have n3 : cfR a 4 1 3 2 = 0 := if_neg (by decide)
      simp only [sr, wz2, n0, n1, n2, n3, Rat.zero_add, Rat.add_zero, Rat.mul_zero]
    · have n0 : cfR a 4 1 0 3 = 0 := if_neg (by decide)
      have n1 : cfR a 4 1 1 3 = 0 := if_neg (by decide)
      have n2 : cfR a 4 1 2 3 = 0 := if_neg (by decide)
      have n3 : cfR a 4 1 3 3 = 0 := if_neg (by decide)
      simp only [sr, wz3, n0, n1, n2, n3, Rat.zero_add, Rat.add_zero, Rat.mul_zero]
  · have hi' : i = 0 ∨ i = 1 ∨ i = 2 ∨ i = 3 := by omega
    rcases hi' with f | f | f | f <;> subst f
    · have n0 : cfR a 4 1 0 0 = 0 := if_neg (by decide)
      have n1 : cfR a 4 1 0 1 = 0 := if_neg (by decide)
      have n2 : cfR a 4 1 0 2 = 0 := if_neg (by decide)
      have n3 : cfR a 4 1 0 3 = 0 := if_neg (by decide)
      simp only [sr, uz0, n0, n1, n2, n3, Rat.zero_add, Rat.add_zero, Rat.mul_zero]
    · have n0 : cfR a 4 1 1 0 = 0 := if_neg (by decide)
      have n1 : cfR a 4 1 1 1 = 0 := if_neg (by decide)
      have n2 : cfR a 4 1 1 2 = 0 := if_neg (by decide)
      have n3 : cfR a 4 1 1 3 = 0 := if_neg (by decide)
      simp only [sr, uz1, n0, n1, n2, n3, Rat.zero_add, Rat.add_zero, Rat.mul_zero]
    · have n1 : cfR a 4 1 2 1 = 0 := if_neg (by decide)
      have n2 : cfR a 4 1 2 2 = 0 := if_neg (by decide)
      have n3 : cfR a 4 1 2 3 = 0 := if_neg (by decide)
      simp only [sr, c00, n1, n2, n3, Rat.zero_add, Rat.add_zero]
      exact t0
    · have n0 : cfR a 4 1 3 0 = 0 := if_neg (by decide)
      have n1 : cfR a 4 1 3 1 = 0 := if_neg (by decide)
      have n2 : cfR a 4 1 3 2 = 0 := if_neg (by decide)
      have n3 : cfR a 4 1 3 3 = 0 := if_neg (by decide)
      simp only [sr, uz3, n0, n1, n2, n3, Rat.zero_add, Rat.add_zero, Rat.mul_zero]
theorem ev_4_2 (a : Nat → Nat → Rat) : dR a 1 4 2 = a 2 1 ∧ cfR a 4 2 2 1 = (1) := by
  simp [cfR, dR, exR, lowB, pop] <;> grind
theorem cr_4_2 {a : Nat → Nat → Rat} {w u : Nat → Rat} (ha : ∀ i j, i < 4 → j < 4 → 1 ≤ a i j) (hw : ∀ i, i < 4 → bN 4 i → sr (fun j => a i j * w j) 4 = 1) (w0 : ∀ j, j < 4 → ¬ bN 2 j → w j = 0) (hu : ∀ j, j < 4 → bN 2 j → sr (fun i => a i j * u i) 4 = 1) (u0 : ∀ i, i < 4 → ¬ bN 4 i → u i = 0) (hz : ∀ z : Nat → Rat, (∀ j, j < 4 → ¬ bN 2 j → z j = 0) → (∀ i, i < 4 → bN 4 i → sr (fun j => a i j * z j) 4 = 0) → ∀ j, j < 4 → z j = 0) : crP a 4 2 w u := by
  have ep : pop 4 = 1 := by decide
  obtain ⟨eD, c00⟩ := ev_4_2 a
  have wz0 := w0 0 (by omega) (by decide)
  have wz2 := w0 2 (by omega) (by decide)
  have wz3 := w0 3 (by omega) (by decide)
  have uz0 := u0 0 (by omega) (by decide)
  have uz1 := u0 1 (by omega) (by decide)
  have uz3 := u0 3 (by omega) (by decide)
  have h0 : a 2 1 * w 1 = 1 := by
    have h := hw 2 (by omega) (by decide)
    simp only [sr] at h
    grind
  have g0 : a 2 1 * u 2 = 1 := by
    have h := hu 1 (by omega) (by decide)
    simp only [sr] at h
    grind
  obtain ⟨r0, t0⟩ := cram1 h0 g0
  unfold crP
  rw [ep, eD]
  refine ⟨fun hD => ?_, fun j hj => ?_, fun i hi => ?_⟩
  · have y := ha 2 1 (by omega) (by omega)
    rw [hD] at y
    grind
  · have hj' : j = 0 ∨ j = 1 ∨ j = 2 ∨ j = 3 := by omega
    rcases hj' with f | f | f | f <;> subst f
    · have n0 : cfR a 4 2 0 0 = 0 := if_neg (by decide)
      have n1 : cfR a 4 2 1 0 = 0 := if_neg (by decide)
      have n2 : cfR a 4 2 2 0 = 0 := if_neg (by decide)
      have n3 : cfR a 4 2 3 0 = 0 := if_neg (by decide)
      simp only [sr, wz0, n0, n1, n2, n3, Rat.zero_add, Rat.add_zero, Rat.mul_zero]
    · have n0 : cfR a 4 2 0 1 = 0 := if_neg (by decide)
      have n1 : cfR a 4 2 1 1 = 0 := if_neg (by decide)
      have n3 : cfR a 4 2 3 1 = 0 := if_neg (by decide)
      simp only [sr, c00, n0, n1, n3, Rat.zero_add, Rat.add_zero]
      exact r0
    · have n0 : cfR a 4 2 0 2 = 0 := if_neg (by decide)
      have n1 : cfR a 4 2 1 2 = 0 := if_neg (by decide)
      have n2 : cfR a 4 2 2 2 = 0 := if_neg (by decide)
      have n3 : cfR a 4 2 3 2 = 0 := if_neg (by decide)
      simp only [sr, wz2, n0, n1, n2, n3, Rat.zero_add, Rat.add_zero, Rat.mul_zero]
    · have n0 : cfR a 4 2 0 3 = 0 := if_neg (by decide)
      have n1 : cfR a 4 2 1 3 = 0 := if_neg (by decide)
      have n2 : cfR a 4 2 2 3 = 0 := if_neg (by decide)
      have n3 : cfR a 4 2 3 3 = 0 := if_neg (by decide)
      simp only [sr, wz3, n0, n1, n2, n3, Rat.zero_add, Rat.add_zero, Rat.mul_zero]
  · have hi' : i = 0 ∨ i = 1 ∨ i = 2 ∨ i = 3 := by omega
    rcases hi' with f | f | f | f <;> subst f
    · have n0 : cfR a 4 2 0 0 = 0 := if_neg (by decide)
      have n1 : cfR a 4 2 0 1 = 0 := if_neg (by decide)
      have n2 : cfR a 4 2 0 2 = 0 := if_neg (by decide)
      have n3 : cfR a 4 2 0 3 = 0 := if_neg (by decide)
      simp only [sr, uz0, n0, n1, n2, n3, Rat.zero_add, Rat.add_zero, Rat.mul_zero]
    · have n0 : cfR a 4 2 1 0 = 0 := if_neg (by decide)
      have n1 : cfR a 4 2 1 1 = 0 := if_neg (by decide)
      have n2 : cfR a 4 2 1 2 = 0 := if_neg (by decide)
      have n3 : cfR a 4 2 1 3 = 0 := if_neg (by decide)
      simp only [sr, uz1, n0, n1, n2, n3, Rat.zero_add, Rat.add_zero, Rat.mul_zero]
    · have n0 : cfR a 4 2 2 0 = 0 := if_neg (by decide)
      have n2 : cfR a 4 2 2 2 = 0 := if_neg (by decide)
      have n3 : cfR a 4 2 2 3 = 0 := if_neg (by decide)
      simp only [sr, c00, n0, n2, n3, Rat.zero_add, Rat.add_zero]
      exact t0
    · have n0 : cfR a 4 2 3 0 = 0 := if_neg (by decide)
      have n1 : cfR a 4 2 3 1 = 0 := if_neg (by decide)
      have n2 : cfR a 4 2 3 2 = 0 := if_neg (by decide)
      have n3 : cfR a 4 2 3 3 = 0 := if_neg (by decide)
      simp only [sr, uz3, n0, n1, n2, n3, Rat.zero_add, Rat.add_zero, Rat.mul_zero]
theorem ev_4_4 (a : Nat → Nat → Rat) : dR a 1 4 4 = a 2 2 ∧ cfR a 4 4 2 2 = (1) := by
  simp [cfR, dR, exR, lowB, pop] <;> grind
theorem cr_4_4 {a : Nat → Nat → Rat} {w u : Nat → Rat} (ha : ∀ i j, i < 4 → j < 4 → 1 ≤ a i j) (hw : ∀ i, i < 4 → bN 4 i → sr (fun j => a i j * w j) 4 = 1) (w0 : ∀ j, j < 4 → ¬ bN 4 j → w j = 0) (hu : ∀ j, j < 4 → bN 4 j → sr (fun i => a i j * u i) 4 = 1) (u0 : ∀ i, i < 4 → ¬ bN 4 i → u i = 0) (hz : ∀ z : Nat → Rat, (∀ j, j < 4 → ¬ bN 4 j → z j = 0) → (∀ i, i < 4 → bN 4 i → sr (fun j => a i j * z j) 4 = 0) → ∀ j, j < 4 → z j = 0) : crP a 4 4 w u := by
  have ep : pop 4 = 1 := by decide
  obtain ⟨eD, c00⟩ := ev_4_4 a
  have wz0 := w0 0 (by omega) (by decide)
  have wz1 := w0 1 (by omega) (by decide)
  have wz3 := w0 3 (by omega) (by decide)
  have uz0 := u0 0 (by omega) (by decide)
  have uz1 := u0 1 (by omega) (by decide)
  have uz3 := u0 3 (by omega) (by decide)
  have h0 : a 2 2 * w 2 = 1 := by
    have h := hw 2 (by omega) (by decide)
    simp only [sr] at h
    grind
  have g0 : a 2 2 * u 2 = 1 := by
    have h := hu 2 (by omega) (by decide)
    simp only [sr] at h
    grind
  obtain ⟨r0, t0⟩ := cram1 h0 g0
  unfold crP
  rw [ep, eD]
  refine ⟨fun hD => ?_, fun j hj => ?_, fun i hi => ?_⟩
  · have y := ha 2 2 (by omega) (by omega)
    rw [hD] at y
    grind
  · have hj' : j = 0 ∨ j = 1 ∨ j = 2 ∨ j = 3 := by omega
    rcases hj' with f | f | f | f <;> subst f
    · have n0 : cfR a 4 4 0 0 = 0 := if_neg (by decide)
      have n1 : cfR a 4 4 1 0 = 0 := if_neg (by decide)
      have n2 : cfR a 4 4 2 0 = 0 := if_neg (by decide)
      have n3 : cfR a 4 4 3 0 = 0 := if_neg (by decide)
      simp only [sr, wz0, n0, n1, n2, n3, Rat.zero_add, Rat.add_zero, Rat.mul_zero]
    · have n0 : cfR a 4 4 0 1 = 0 := if_neg (by decide)
      have n1 : cfR a 4 4 1 1 = 0 := if_neg (by decide)
      have n2 : cfR a 4 4 2 1 = 0 := if_neg (by decide)
      have n3 : cfR a 4 4 3 1 = 0 := if_neg (by decide)
      simp only [sr, wz1, n0, n1, n2, n3, Rat.zero_add, Rat.add_zero, Rat.mul_zero]
    · have n0 : cfR a 4 4 0 2 = 0 := if_neg (by decide)
      have n1 : cfR a 4 4 1 2 = 0 := if_neg (by decide)
      have n3 : cfR a 4 4 3 2 = 0 := if_neg (by decide)
      simp only [sr, c00, n0, n1, n3, Rat.zero_add, Rat.add_zero]
      exact r0
    · have n0 : cfR a 4 4 0 3 = 0 := if_neg (by decide)
      have n1 : cfR a 4 4 1 3 = 0 := if_neg (by decide)
      have n2 : cfR a 4 4 2 3 = 0 := if_neg (by decide)
      have n3 : cfR a 4 4 3 3 = 0 := if_neg (by decide)
      simp only [sr, wz3, n0, n1, n2, n3, Rat.zero_add, Rat.add_zero, Rat.mul_zero]
  · have hi' : i = 0 ∨ i = 1 ∨ i = 2 ∨ i = 3 := by omega
    rcases hi' with f | f | f | f <;> subst f
    · have n0 : cfR a 4 4 0 0 = 0 := if_neg (by decide)
      have n1 : cfR a 4 4 0 1 = 0 := if_neg (by decide)
      have n2 : cfR a 4 4 0 2 = 0 := if_neg (by decide)
      have n3 : cfR a 4 4 0 3 = 0 := if_neg (by decide)
      simp only [sr, uz0, n0, n1, n2, n3, Rat.zero_add, Rat.add_zero, Rat.mul_zero]
    · have n0 : cfR a 4 4 1 0 = 0 := if_neg (by decide)
      have n1 : cfR a 4 4 1 1 = 0 := if_neg (by decide)
      have n2 : cfR a 4 4 1 2 = 0 := if_neg (by decide)
      have n3 : cfR a 4 4 1 3 = 0 := if_neg (by decide)
      simp only [sr, uz1, n0, n1, n2, n3, Rat.zero_add, Rat.add_zero, Rat.mul_zero]
    · have n0 : cfR a 4 4 2 0 = 0 := if_neg (by decide)
      have n1 : cfR a 4 4 2 1 = 0 := if_neg (by decide)
      have n3 : cfR a 4 4 2 3 = 0 := if_neg (by decide)
      simp only [sr, c00, n0, n1, n3, Rat.zero_add, Rat.add_zero]
      exact t0
    · have n0 : cfR a 4 4 3 0 = 0 := if_neg (by decide)
      have n1 : cfR a 4 4 3 1 = 0 := if_neg (by decide)
      have n2 : cfR a 4 4 3 2 = 0 := if_neg (by decide)
      have n3 : cfR a 4 4 3 3 = 0 := if_neg (by decide)
      simp only [sr, uz3, n0, n1, n2, n3, Rat.zero_add, Rat.add_zero, Rat.mul_zero]
theorem ev_4_8 (a : Nat → Nat → Rat) : dR a 1 4 8 = a 2 3 ∧ cfR a 4 8 2 3 = (1) := by
  simp [cfR, dR, exR, lowB, pop] <;> grind
theorem cr_4_8 {a : Nat → Nat → Rat} {w u : Nat → Rat} (ha : ∀ i j, i < 4 → j < 4 → 1 ≤ a i j) (hw : ∀ i, i < 4 → bN 4 i → sr (fun j => a i j * w j) 4 = 1) (w0 : ∀ j, j < 4 → ¬ bN 8 j → w j = 0) (hu : ∀ j, j < 4 → bN 8 j → sr (fun i => a i j * u i) 4 = 1) (u0 : ∀ i, i < 4 → ¬ bN 4 i → u i = 0) (hz : ∀ z : Nat → Rat, (∀ j, j < 4 → ¬ bN 8 j → z j = 0) → (∀ i, i < 4 → bN 4 i → sr (fun j => a i j * z j) 4 = 0) → ∀ j, j < 4 → z j = 0) : crP a 4 8 w u := by
  have ep : pop 4 = 1 := by decide
  obtain ⟨eD, c00⟩ := ev_4_8 a
  have wz0 := w0 0 (by omega) (by decide)
  have wz1 := w0 1 (by omega) (by decide)
  have wz2 := w0 2 (by omega) (by decide)
  have uz0 := u0 0 (by omega) (by decide)
  have uz1 := u0 1 (by omega) (by decide)
  have uz3 := u0 3 (by omega) (by decide)
  have h0 : a 2 3 * w 3 = 1 := by
    have h := hw 2 (by omega) (by decide)
    simp only [sr] at h
    grind
  have g0 : a 2 3 * u 2 = 1 := by
    have h := hu 3 (by omega) (by decide)
    simp only [sr] at h
    grind
  obtain ⟨r0, t0⟩ := cram1 h0 g0
  unfold crP
  rw [ep, eD]
  refine ⟨fun hD => ?_, fun j hj => ?_, fun i hi => ?_⟩
  · have y := ha 2 3 (by omega) (by omega)
    rw [hD] at y
    grind
  · have hj' : j = 0 ∨ j = 1 ∨ j = 2 ∨ j = 3 := by omega
    rcases hj' with f | f | f | f <;> subst f
    · have n0 : cfR a 4 8 0 0 = 0 := if_neg (by decide)
      have n1 : cfR a 4 8 1 0 = 0 := if_neg (by decide)
      have n2 : cfR a 4 8 2 0 = 0 := if_neg (by decide)
      have n3 : cfR a 4 8 3 0 = 0 := if_neg (by decide)
      simp only [sr, wz0, n0, n1, n2, n3, Rat.zero_add, Rat.add_zero, Rat.mul_zero]
    · have n0 : cfR a 4 8 0 1 = 0 := if_neg (by decide)
      have n1 : cfR a 4 8 1 1 = 0 := if_neg (by decide)
      have n2 : cfR a 4 8 2 1 = 0 := if_neg (by decide)
      have n3 : cfR a 4 8 3 1 = 0 := if_neg (by decide)
      simp only [sr, wz1, n0, n1, n2, n3, Rat.zero_add, Rat.add_zero, Rat.mul_zero]
    · have n0 : cfR a 4 8 0 2 = 0 := if_neg (by decide)
      have n1 : cfR a 4 8 1 2 = 0 := if_neg (by decide)
      have n2 : cfR a 4 8 2 2 = 0 := if_neg (by decide)
      have n3 : cfR a 4 8 3 2 = 0 := if_neg (by decide)
      simp only [sr, wz2, n0, n1, n2, n3, Rat.zero_add, Rat.add_zero, Rat.mul_zero]
    · have n0 : cfR a 4 8 0 3 = 0 := if_neg (by decide)
      have n1 : cfR a 4 8 1 3 = 0 := if_neg (by decide)
      have n3 : cfR a 4 8 3 3 = 0 := if_neg (by decide)
      simp only [sr, c00, n0, n1, n3, Rat.zero_add, Rat.add_zero]
      exact r0
  · have hi' : i = 0 ∨ i = 1 ∨ i = 2 ∨ i = 3 := by omega
    rcases hi' with f | f | f | f <;> subst f
    · have n0 : cfR a 4 8 0 0 = 0 := if_neg (by decide)
      have n1 : cfR a 4 8 0 1 = 0 := if_neg (by decide)
      have n2 : cfR a 4 8 0 2 = 0 := if_neg (by decide)
      have n3 : cfR a 4 8 0 3 = 0 := if_neg (by decide)
      simp only [sr, uz0, n0, n1, n2, n3, Rat.zero_add, Rat.add_zero, Rat.mul_zero]
    · have n0 : cfR a 4 8 1 0 = 0 := if_neg (by decide)
      have n1 : cfR a 4 8 1 1 = 0 := if_neg (by decide)
      have n2 : cfR a 4 8 1 2 = 0 := if_neg (by decide)
      have n3 : cfR a 4 8 1 3 = 0 := if_neg (by decide)
      simp only [sr, uz1, n0, n1, n2, n3, Rat.zero_add, Rat.add_zero, Rat.mul_zero]
    · have n0 : cfR a 4 8 2 0 = 0 := if_neg (by decide)
      have n1 : cfR a 4 8 2 1 = 0 := if_neg (by decide)
      have n2 : cfR a 4 8 2 2 = 0 := if_neg (by decide)
      simp only [sr, c00, n0, n1, n2, Rat.zero_add, Rat.add_zero]
      exact t0
    · have n0 : cfR a 4 8 3 0 = 0 := if_neg (by decide)
      have n1 : cfR a 4 8 3 1 = 0 := if_neg (by decide)
      have n2 : cfR a 4 8 3 2 = 0 := if_neg (by decide)
      have n3 : cfR a 4 8 3 3 = 0 := if_neg (by decide)
      simp only [sr, uz3, n0, n1, n2, n3, Rat.zero_add, Rat.add_zero, Rat.mul_zero]
theorem ev_8_1 (a : Nat → Nat → Rat) : dR a 1 8 1 = a 3 0 ∧ cfR a 8 1 3 0 = (1) := by
  simp [cfR, dR, exR, lowB, pop] <;> grind
theorem cr_8_1 {a : Nat → Nat → Rat} {w u : Nat → Rat} (ha : ∀ i j, i < 4 → j < 4 → 1 ≤ a i j) (hw : ∀ i, i < 4 → bN 8 i → sr (fun j => a i j * w j) 4 = 1) (w0 : ∀ j, j < 4 → ¬ bN 1 j → w j = 0) (hu : ∀ j, j < 4 → bN 1 j → sr (fun i => a i j * u i) 4 = 1) (u0 : ∀ i, i < 4 → ¬ bN 8 i → u i = 0) (hz : ∀ z : Nat → Rat, (∀ j, j < 4 → ¬ bN 1 j → z j = 0) → (∀ i, i < 4 → bN 8 i → sr (fun j => a i j * z j) 4 = 0) → ∀ j, j < 4 → z j = 0) : crP a 8 1 w u := by
  have ep : pop 8 = 1 := by decide
  obtain ⟨eD, c00⟩ := ev_8_1 a
  have wz1 := w0 1 (by omega) (by decide)
  have wz2 := w0 2 (by omega) (by decide)
  have wz3 := w0 3 (by omega) (by decide)
  have uz0 := u0 0 (by omega) (by decide)
  have uz1 := u0 1 (by omega) (by decide)
  have uz2 := u0 2 (by omega) (by decide)
  have h0 : a 3 0 * w 0 = 1 := by
    have h := hw 3 (by omega) (by decide)
    simp only [sr] at h
    grind
  have g0 : a 3 0 * u 3 = 1 := by
    have h := hu 0 (by omega) (by decide)
    simp only [sr] at h
    grind
  obtain ⟨r0, t0⟩ := cram1 h0 g0
  unfold crP
  rw [ep, eD]
  refine ⟨fun hD => ?_, fun j hj => ?_, fun i hi => ?_⟩
  · have y := ha 3 0 (by omega) (by omega)
    rw [hD] at y
    grind
  · have hj' : j = 0 ∨ j = 1 ∨ j = 2 ∨ j = 3 := by omega
    rcases hj' with f | f | f | f <;> subst f
    · have n0 : cfR a 8 1 0 0 = 0 := if_neg (by decide)
      have n1 : cfR a 8 1 1 0 = 0 := if_neg (by decide)
      have n2 : cfR a 8 1 2 0 = 0 := if_neg (by decide)
      simp only [sr, c00, n0, n1, n2, Rat.zero_add, Rat.add_zero]
      exact r0
    · have n0 : cfR a 8 1 0 1 = 0 := if_neg (by decide)
      have n1 : cfR a 8 1 1 1 = 0 := if_neg (by decide)
      have n2 : cfR a 8 1 2 1 = 0 := if_neg (by decide)
      have n3 : cfR a 8 1 3 1 = 0 := if_neg (by decide)
      simp only [sr, wz1, n0, n1, n2, n3, Rat.zero_add, Rat.add_zero, Rat.mul_zero]
    · have n0 : cfR a 8 1 0 2 = 0 := if_neg (by decide)
      have n1 : cfR a 8 1 1 2 = 0 := if_neg (by decide)
      have n2 : cfR a 8 1 2 2 = 0 := if_neg (by decide)
      have n3 : cfR a 8 1 3 2 = 0 := if_neg (by decide)
      simp only [sr, wz2, n0, n1, n2, n3, Rat.zero_add, Rat.add_zero, Rat.mul_zero]
    · have n0 : cfR a 8 1 0 3 = 0 := if_neg (by decide)
      have n1 : cfR a 8 1 1 3 = 0 := if_neg (by decide)
      have n2 : cfR a 8 1 2 3 = 0 := if_neg (by decide)
      have n3 : cfR a 8 1 3 3 = 0 := if_neg (by decide)
      simp only [sr, wz3, n0, n1, n2, n3, Rat.zero_add, Rat.add_zero, Rat.mul_zero]
  · have hi' : i = 0 ∨ i = 1 ∨ i = 2 ∨ i = 3 := by omega
    rcases hi' with f | f | f | f <;> subst f
    · have n0 : cfR a 8 1 0 0 = 0 := if_neg (by decide)
      have n1 : cfR a 8 1 0 1 = 0 := if_neg (by decide)
      have n2 : cfR a 8 1 0 2 = 0 := if_neg (by decide)
      have n3 : cfR a 8 1 0 3 = 0 := if_neg (by decide)
      simp only [sr, uz0, n0, n1, n2, n3, Rat.zero_add, Rat.add_zero, Rat.mul_zero]
    · have n0 : cfR a 8 1 1 0 = 0 := if_neg (by decide)
      have n1 : cfR a 8 1 1 1 = 0 := if_neg (by decide)
      have n2 : cfR a 8 1 1 2 = 0 := if_neg (by decide)
      have n3 : cfR a 8 1 1 3 = 0 := if_neg (by decide)
      simp only [sr, uz1, n0, n1, n2, n3, Rat.zero_add, Rat.add_zero, Rat.mul_zero]
    · have n0 : cfR a 8 1 2 0 = 0 := if_neg (by decide)
      have n1 : cfR a 8 1 2 1 = 0 := if_neg (by decide)
      have n2 : cfR a 8 1 2 2 = 0 := if_neg (by decide)
      have n3 : cfR a 8 1 2 3 = 0 := if_neg (by decide)
      simp only [sr, uz2, n0, n1, n2, n3, Rat.zero_add, Rat.add_zero, Rat.mul_zero]
    · have n1 : cfR a 8 1 3 1 = 0 := if_neg (by decide)
      have n2 : cfR a 8 1 3 2 = 0 := if_neg (by decide)
      have n3 : cfR a 8 1 3 3 = 0 := if_neg (by decide)
      simp only [sr, c00, n1, n2, n3, Rat.zero_add, Rat.add_zero]
      exact t0
theorem ev_8_2 (a : Nat → Nat → Rat) : dR a 1 8 2 = a 3 1 ∧ cfR a 8 2 3 1 = (1) := by
  simp [cfR, dR, exR, lowB, pop] <;> grind
theorem cr_8_2 {a : Nat → Nat → Rat} {w u : Nat → Rat} (ha : ∀ i j, i < 4 → j < 4 → 1 ≤ a i j) (hw : ∀ i, i < 4 → bN 8 i → sr (fun j => a i j * w j) 4 = 1) (w0 : ∀ j, j < 4 → ¬ bN 2 j → w j = 0) (hu : ∀ j, j < 4 → bN 2 j → sr (fun i => a i j * u i) 4 = 1) (u0 : ∀ i, i < 4 → ¬ bN 8 i → u i = 0) (hz : ∀ z : Nat → Rat, (∀ j, j < 4 → ¬ bN 2 j → z j = 0) → (∀ i, i < 4 → bN 8 i → sr (fun j => a i j * z j) 4 = 0) → ∀ j, j < 4 → z j = 0) : crP a 8 2 w u := by
  have ep : pop 8 = 1 := by decide
  obtain ⟨eD, c00⟩ := ev_8_2 a
  have wz0 := w0 0 (by omega) (by decide)
  have wz2 := w0 2 (by omega) (by decide)
  have wz3 := w0 3 (by omega) (by decide)
  have uz0 := u0 0 (by omega) (by decide)
  have uz1 := u0 1 (by omega) (by decide)
  have uz2 := u0 2 (by omega) (by decide)
  have h0 : a 3 1 * w 1 = 1 := by
    have h := hw 3 (by omega) (by decide)
    simp only [sr] at h
    grind
  have g0 : a 3 1 * u 3 = 1 := by
    have h := hu 1 (by omega) (by decide)
    simp only [sr] at h
    grind
  obtain ⟨r0, t0⟩ := cram1 h0 g0
  unfold crP
  rw [ep, eD]
  refine ⟨fun hD => ?_, fun j hj => ?_, fun i hi => ?_⟩
  · have y := ha 3 1 (by omega) (by omega)
    rw [hD] at y
    grind
  · have hj' : j = 0 ∨ j = 1 ∨ j = 2 ∨ j = 3 := by omega
    rcases hj' with f | f | f | f <;> subst f
    · have n0 : cfR a 8 2 0 0 = 0 := if_neg (by decide)
      have n1 : cfR a 8 2 1 0 = 0 := if_neg (by decide)
      have n2 : cfR a 8 2 2 0 = 0 := if_neg (by decide)
      have n3 : cfR a 8 2 3 0 = 0 := if_neg (by decide)
      simp only [sr, wz0, n0, n1, n2, n3, Rat.zero_add, Rat.add_zero, Rat.mul_zero]
    · have n0 : cfR a 8 2 0 1 = 0 := if_neg (by decide)
      have n1 : cfR a 8 2 1 1 = 0 := if_neg (by decide)
      have n2 : cfR a 8 2 2 1 = 0 := if_neg (by decide)
      simp only [sr, c00, n0, n1, n2, Rat.zero_add, Rat.add_zero]
      exact r0
    · have n0 : cfR a 8 2 0 2 = 0 := if_neg (by decide)
      have n1 : cfR a 8 2 1 2 = 0 := if_neg (by decide)
      have n2 : cfR a 8 2 2 2 = 0 := if_neg (by decide)
      have n3 : cfR a 8 2 3 2 = 0 := if_neg (by decide)
      simp only [sr, wz2, n0, n1, n2, n3, Rat.zero_add, Rat.add_zero, Rat.mul_zero]
    · have n0 : cfR a 8 2 0 3 = 0 := if_neg (by decide)
      have n1 : cfR a 8 2 1 3 = 0 := if_neg (by decide)
      have n2 : cfR a 8 2 2 3 = 0 := if_neg (by decide)
      have n3 : cfR a 8 2 3 3 = 0 := if_neg (by decide)
      simp only [sr, wz3, n0, n1, n2, n3, Rat.zero_add, Rat.add_zero, Rat.mul_zero]
  · have hi' : i = 0 ∨ i = 1 ∨ i = 2 ∨ i = 3 := by omega
    rcases hi' with f | f | f | f <;> subst f
    · have n0 : cfR a 8 2 0 0 = 0 := if_neg (by decide)
      have n1 : cfR a 8 2 0 1 = 0 := if_neg (by decide)
      have n2 : cfR a 8 2 0 2 = 0 := if_neg (by decide)
      have n3 : cfR a 8 2 0 3 = 0 := if_neg (by decide)
      simp only [sr, uz0, n0, n1, n2, n3, Rat.zero_add, Rat.add_zero, Rat.mul_zero]
    · have n0 : cfR a 8 2 1 0 = 0 := if_neg (by decide)
      have n1 : cfR a 8 2 1 1 = 0 := if_neg (by decide)
      have n2 : cfR a 8 2 1 2 = 0 := if_neg (by decide)
      have n3 : cfR a 8 2 1 3 = 0 := if_neg (by decide)
      simp only [sr, uz1, n0, n1, n2, n3, Rat.zero_add, Rat.add_zero, Rat.mul_zero]
    · have n0 : cfR a 8 2 2 0 = 0 := if_neg (by decide)
      have n1 : cfR a 8 2 2 1 = 0 := if_neg (by decide)
      have n2 : cfR a 8 2 2 2 = 0 := if_neg (by decide)
      have n3 : cfR a 8 2 2 3 = 0 := if_neg (by decide)
      simp only [sr, uz2, n0, n1, n2, n3, Rat.zero_add, Rat.add_zero, Rat.mul_zero]
    · have n0 : cfR a 8 2 3 0 = 0 := if_neg (by decide)
      have n2 : cfR a 8 2 3 2 = 0 := if_neg (by decide)
      have n3 : cfR a 8 2 3 3 = 0 := if_neg (by decide)
      simp only [sr, c00, n0, n2, n3, Rat.zero_add, Rat.add_zero]
      exact t0
theorem ev_8_4 (a : Nat → Nat → Rat) : dR a 1 8 4 = a 3 2 ∧ cfR a 8 4 3 2 = (1) := by
  simp [cfR, dR, exR, lowB, pop] <;> grind
theorem cr_8_4 {a : Nat → Nat → Rat} {w u : Nat → Rat} (ha : ∀ i j, i < 4 → j < 4 → 1 ≤ a i j) (hw : ∀ i, i < 4 → bN 8 i → sr (fun j => a i j * w j) 4 = 1) (w0 : ∀ j, j < 4 → ¬ bN 4 j → w j = 0) (hu : ∀ j, j < 4 → bN 4 j → sr (fun i => a i j * u i) 4 = 1) (u0 : ∀ i, i < 4 → ¬ bN 8 i → u i = 0) (hz : ∀ z : Nat → Rat, (∀ j, j < 4 → ¬ bN 4 j → z j = 0) → (∀ i, i < 4 → bN 8 i → sr (fun j => a i j * z j) 4 = 0) → ∀ j, j < 4 → z j = 0) : crP a 8 4 w u := by
  have ep : pop 8 = 1 := by decide
  obtain ⟨eD, c00⟩ := ev_8_4 a
  have wz0 := w0 0 (by omega) (by decide)
  have wz1 := w0 1 (by omega) (by decide)
  have wz3 := w0 3 (by omega) (by decide)
  have uz0 := u0 0 (by omega) (by decide)
  have uz1 := u0 1 (by omega) (by decide)
  have uz2 := u0 2 (by omega) (by decide)
  have h0 : a 3 2 * w 2 = 1 := by
    have h := hw 3 (by omega) (by decide)
    simp only [sr] at h
    grind
  have g0 : a 3 2 * u 3 = 1 := by
    have h := hu 2 (by omega) (by decide)
    simp only [sr] at h
    grind
  obtain ⟨r0, t0⟩ := cram1 h0 g0
  unfold crP
  rw [ep, eD]
  refine ⟨fun hD => ?_, fun j hj => ?_, fun i hi => ?_⟩
  · have y := ha 3 2 (by omega) (by omega)
    rw [hD] at y
    grind
  · have hj' : j = 0 ∨ j = 1 ∨ j = 2 ∨ j = 3 := by omega
    rcases hj' with f | f | f | f <;> subst f
    · have n0 : cfR a 8 4 0 0 = 0 := if_neg (by decide)
      have n1 : cfR a 8 4 1 0 = 0 := if_neg (by decide)
      have n2 : cfR a 8 4 2 0 = 0 := if_neg (by decide)
      have n3 : cfR a 8 4 3 0 = 0 := if_neg (by decide)
      simp only [sr, wz0, n0, n1, n2, n3, Rat.zero_add, Rat.add_zero, Rat.mul_zero]
    · have n0 : cfR a 8 4 0 1 = 0 := if_neg (by decide)
      have n1 : cfR a 8 4 1 1 = 0 := if_neg (by decide)
      have n2 : cfR a 8 4 2 1 = 0 := if_neg (by decide)
      have n3 : cfR a 8 4 3 1 = 0 := if_neg (by decide)
      simp only [sr, wz1, n0, n1, n2, n3, Rat.zero_add, Rat.add_zero, Rat.mul_zero]
    · have n0 : cfR a 8 4 0 2 = 0 := if_neg (by decide)
      have n1 : cfR a 8 4 1 2 = 0 := if_neg (by decide)
      have n2 : cfR a 8 4 2 2 = 0 := if_neg (by decide)
      simp only [sr, c00, n0, n1, n2, Rat.zero_add, Rat.add_zero]
      exact r0
    · have n0 : cfR a 8 4 0 3 = 0 := if_neg (by decide)
      have n1 : cfR a 8 4 1 3 = 0 := if_neg (by decide)
      have n2 : cfR a 8 4 2 3 = 0 := if_neg (by decide)
      have n3 : cfR a 8 4 3 3 = 0 := if_neg (by decide)
      simp only [sr, wz3, n0, n1, n2, n3, Rat.zero_add, Rat.add_zero, Rat.mul_zero]
  · have hi' : i = 0 ∨ i = 1 ∨ i = 2 ∨ i = 3 := by omega
    rcases hi' with f | f | f | f <;> subst f
    · have n0 : cfR a 8 4 0 0 = 0 := if_neg (by decide)
      have n1 : cfR a 8 4 0 1 = 0 := if_neg (by decide)
      have n2 : cfR a 8 4 0 2 = 0 := if_neg (by decide)
      have n3 : cfR a 8 4 0 3 = 0 := if_neg (by decide)
      simp only [sr, uz0, n0, n1, n2, n3, Rat.zero_add, Rat.add_zero, Rat.mul_zero]
    · have n0 : cfR a 8 4 1 0 = 0 := if_neg (by decide)
      have n1 : cfR a 8 4 1 1 = 0 := if_neg (by decide)
      have n2 : cfR a 8 4 1 2 = 0 := if_neg (by decide)
      have n3 : cfR a 8 4 1 3 = 0 := if_neg (by decide)
      simp only [sr, uz1, n0, n1, n2, n3, Rat.zero_add, Rat.add_zero, Rat.mul_zero]
    · have n0 : cfR a 8 4 2 0 = 0 := if_neg (by decide)
      have n1 : cfR a 8 4 2 1 = 0 := if_neg (by decide)
      have n2 : cfR a 8 4 2 2 = 0 := if_neg (by decide)
      have n3 : cfR a 8 4 2 3 = 0 := if_neg (by decide)
      simp only [sr, uz2, n0, n1, n2, n3, Rat.zero_add, Rat.add_zero, Rat.mul_zero]
    · have n0 : cfR a 8 4 3 0 = 0 := if_neg (by decide)
      have n1 : cfR a 8 4 3 1 = 0 := if_neg (by decide)
      have n3 : cfR a 8 4 3 3 = 0 := if_neg (by decide)
      simp only [sr, c00, n0, n1, n3, Rat.zero_add, Rat.add_zero]
      exact t0
theorem ev_8_8 (a : Nat → Nat → Rat) : dR a 1 8 8 = a 3 3 ∧ cfR a 8 8 3 3 = (1) := by
  simp [cfR, dR, exR, lowB, pop] <;> grind
theorem cr_8_8 {a : Nat → Nat → Rat} {w u : Nat → Rat} (ha : ∀ i j, i < 4 → j < 4 → 1 ≤ a i j) (hw : ∀ i, i < 4 → bN 8 i → sr (fun j => a i j * w j) 4 = 1) (w0 : ∀ j, j < 4 → ¬ bN 8 j → w j = 0) (hu : ∀ j, j < 4 → bN 8 j → sr (fun i => a i j * u i) 4 = 1) (u0 : ∀ i, i < 4 → ¬ bN 8 i → u i = 0) (hz : ∀ z : Nat → Rat, (∀ j, j < 4 → ¬ bN 8 j → z j = 0) → (∀ i, i < 4 → bN 8 i → sr (fun j => a i j * z j) 4 = 0) → ∀ j, j < 4 → z j = 0) : crP a 8 8 w u := by
  have ep : pop 8 = 1 := by decide
  obtain ⟨eD, c00⟩ := ev_8_8 a
  have wz0 := w0 0 (by omega) (by decide)
  have wz1 := w0 1 (by omega) (by decide)
  have wz2 := w0 2 (by omega) (by decide)
  have uz0 := u0 0 (by omega) (by decide)
  have uz1 := u0 1 (by omega) (by decide)
  have uz2 := u0 2 (by omega) (by decide)
  have h0 : a 3 3 * w 3 = 1 := by
    have h := hw 3 (by omega) (by decide)
    simp only [sr] at h
    grind
  have g0 : a 3 3 * u 3 = 1 := by
    have h := hu 3 (by omega) (by decide)
    simp only [sr] at h
    grind
  obtain ⟨r0, t0⟩ := cram1 h0 g0
  unfold crP
  rw [ep, eD]
  refine ⟨fun hD => ?_, fun j hj => ?_, fun i hi => ?_⟩
  · have y := ha 3 3 (by omega) (by omega)
    rw [hD] at y
    grind
  · have hj' : j = 0 ∨ j = 1 ∨ j = 2 ∨ j = 3 := by omega
    rcases hj' with f | f | f | f <;> subst f
    · have n0 : cfR a 8 8 0 0 = 0 := if_neg (by decide)
      have n1 : cfR a 8 8 1 0 = 0 := if_neg (by decide)
      have n2 : cfR a 8 8 2 0 = 0 := if_neg (by decide)
      have n3 : cfR a 8 8 3 0 = 0 := if_neg (by decide)
      simp only [sr, wz0, n0, n1, n2, n3, Rat.zero_add, Rat.add_zero, Rat.mul_zero]
    · have n0 : cfR a 8 8 0 1 = 0 := if_neg (by decide)
      have n1 : cfR a 8 8 1 1 = 0 := if_neg (by decide)
      have n2 : cfR a 8 8 2 1 = 0 := if_neg (by decide)
      have n3 : cfR a 8 8 3 1 = 0 := if_neg (by decide)
      simp only [sr, wz1, n0, n1, n2, n3, Rat.zero_add, Rat.add_zero, Rat.mul_zero]
    · have n0 : cfR a 8 8 0 2 = 0 := if_neg (by decide)
      have n1 : cfR a 8 8 1 2 = 0 := if_neg (by decide)
      have n2 : cfR a 8 8 2 2 = 0 := if_neg (by decide)
      have n3 : cfR a 8 8 3 2 = 0 := if_neg (by decide)
      simp only [sr, wz2, n0, n1, n2, n3, Rat.zero_add, Rat.add_zero, Rat.mul_zero]
    · have n0 : cfR a 8 8 0 3 = 0 := if_neg (by decide)
      have n1 : cfR a 8 8 1 3 = 0 := if_neg (by decide)
      have n2 : cfR a 8 8 2 3 = 0 := if_neg (by decide)
      simp only [sr, c00, n0, n1, n2, Rat.zero_add, Rat.add_zero]
      exact r0
  · have hi' : i = 0 ∨ i = 1 ∨ i = 2 ∨ i = 3 := by omega
    rcases hi' with f | f | f | f <;> subst f
    · have n0 : cfR a 8 8 0 0 = 0 := if_neg (by decide)
      have n1 : cfR a 8 8 0 1 = 0 := if_neg (by decide)
      have n2 : cfR a 8 8 0 2 = 0 := if_neg (by decide)
      have n3 : cfR a 8 8 0 3 = 0 := if_neg (by decide)
      simp only [sr, uz0, n0, n1, n2, n3, Rat.zero_add, Rat.add_zero, Rat.mul_zero]
    · have n0 : cfR a 8 8 1 0 = 0 := if_neg (by decide)
      have n1 : cfR a 8 8 1 1 = 0 := if_neg (by decide)
      have n2 : cfR a 8 8 1 2 = 0 := if_neg (by decide)
      have n3 : cfR a 8 8 1 3 = 0 := if_neg (by decide)
      simp only [sr, uz1, n0, n1, n2, n3, Rat.zero_add, Rat.add_zero, Rat.mul_zero]
    · have n0 : cfR a 8 8 2 0 = 0 := if_neg (by decide)
      have n1 : cfR a 8 8 2 1 = 0 := if_neg (by decide)
      have n2 : cfR a 8 8 2 2 = 0 := if_neg (by decide)
      have n3 : cfR a 8 8 2 3 = 0 := if_neg (by decide)
      simp only [sr, uz2, n0, n1, n2, n3, Rat.zero_add, Rat.add_zero, Rat.mul_zero]
    · have n0 : cfR a 8 8 3 0 = 0 := if_neg (by decide)
      have n1 : cfR a 8 8 3 1 = 0 := if_neg (by decide)
      have n2 : cfR a 8 8 3 2 = 0 := if_neg (by decide)
      simp only [sr, c00, n0, n1, n2, Rat.zero_add, Rat.add_zero]
      exact t0
theorem ev_3_3 (a : Nat → Nat → Rat) : dR a 2 3 3 = a 0 0 * a 1 1 - a 0 1 * a 1 0 ∧ cfR a 3 3 0 0 = (a 1 1) ∧ cfR a 3 3 0 1 = (-(a 1 0)) ∧ cfR a 3 3 1 0 = (-(a 0 1)) ∧ cfR a 3 3 1 1 = (a 0 0) := by
  simp [cfR, dR, exR, lowB, pop] <;> grind
theorem cr_3_3 {a : Nat → Nat → Rat} {w u : Nat → Rat} (ha : ∀ i j, i < 4 → j < 4 → 1 ≤ a i j) (hw : ∀ i, i < 4 → bN 3 i → sr (fun j => a i j * w j) 4 = 1) (w0 : ∀ j, j < 4 → ¬ bN 3 j → w j = 0) (hu : ∀ j, j < 4 → bN 3 j → sr (fun i => a i j * u i) 4 = 1) (u0 : ∀ i, i < 4 → ¬ bN 3 i → u i = 0) (hz : ∀ z : Nat → Rat, (∀ j, j < 4 → ¬ bN 3 j → z j = 0) → (∀ i, i < 4 → bN 3 i → sr (fun j => a i j * z j) 4 = 0) → ∀ j, j < 4 → z j = 0) : crP a 3 3 w u := by
  have ep : pop 3 = 2 := by decide
  obtain ⟨eD, c00, c01, c10, c11⟩ := ev_3_3 a
  have wz2 := w0 2 (by omega) (by decide)
  have wz3 := w0 3 (by omega) (by decide)
  have uz2 := u0 2 (by omega) (by decide)
  have uz3 := u0 3 (by omega) (by decide)
  have h0 : a 0 0 * w 0 + a 0 1 * w 1 = 1 := by
    have h := hw 0 (by omega) (by decide)
    simp only [sr] at h
    grind
  have h1 : a 1 0 * w 0 + a 1 1 * w 1 = 1 := by
    have h := hw 1 (by omega) (by decide)
    simp only [sr] at h
    grind
  have g0 : a 0 0 * u 0 + a 1 0 * u 1 = 1 := by
    have h := hu 0 (by omega) (by decide)
    simp only [sr] at h
    grind
  have g1 : a 0 1 * u 0 + a 1 1 * u 1 = 1 := by
    have h := hu 1 (by omega) (by decide)
    simp only [sr] at h
    grind
  obtain ⟨r0, r1, t0, t1⟩ := cram2 h0 h1 g0 g1
  unfold crP
  rw [ep, eD]
  refine ⟨fun hD => ?_, fun j hj => ?_, fun i hi => ?_⟩
  · obtain ⟨z0, z1, n, e0, e1⟩ := ker2 hD
    have y := hz (fun j => if j = 0 then z0 else if j = 1 then z1 else 0) (fun j hj nj => ?_) (fun i hi bi => ?_)
    · apply n
      refine ⟨?_, ?_⟩
      · have y1 := y 0 (by omega)
        simpa using y1
      · have y1 := y 1 (by omega)
        simpa using y1
    · have hj' : j = 0 ∨ j = 1 ∨ j = 2 ∨ j = 3 := by omega
      rcases hj' with f | f | f | f <;> subst f <;> first | exact absurd (by decide) nj | rfl
    · have hi' : i = 0 ∨ i = 1 ∨ i = 2 ∨ i = 3 := by omega
      rcases hi' with f | f | f | f <;> subst f <;> first | exact absurd bi (by decide) | (simp [sr] <;> grind)
  · have hj' : j = 0 ∨ j = 1 ∨ j = 2 ∨ j = 3 := by omega
    rcases hj' with f | f | f | f <;> subst f
    · have n2 : cfR a 3 3 2 0 = 0 := if_neg (by decide)
      have n3 : cfR a 3 3 3 0 = 0 := if_neg (by decide)
      simp only [sr, c00, c10, n2, n3, Rat.zero_add, Rat.add_zero]
      exact r0
    · have n2 : cfR a 3 3 2 1 = 0 := if_neg (by decide)
      have n3 : cfR a 3 3 3 1 = 0 := if_neg (by decide)
      simp only [sr, c01, c11, n2, n3, Rat.zero_add, Rat.add_zero]
      exact r1
    · have n0 : cfR a 3 3 0 2 = 0 := if_neg (by decide)
      have n1 : cfR a 3 3 1 2 = 0 := if_neg (by decide)
      have n2 : cfR a 3 3 2 2 = 0 := if_neg (by decide)
      have n3 : cfR a 3 3 3 2 = 0 := if_neg (by decide)
      simp only [sr, wz2, n0, n1, n2, n3, Rat.zero_add, Rat.add_zero, Rat.mul_zero]
    · have n0 : cfR a 3 3 0 3 = 0 := if_neg (by decide)
      have n1 : cfR a 3 3 1 3 = 0 := if_neg (by decide)
      have n2 : cfR a 3 3 2 3 = 0 := if_neg (by decide)
      have n3 : cfR a 3 3 3 3 = 0 := if_neg (by decide)
      simp only [sr, wz3, n0, n1, n2, n3, Rat.zero_add, Rat.add_zero, Rat.mul_zero]
  · have hi' : i = 0 ∨ i = 1 ∨ i = 2 ∨ i = 3 := by omega
    rcases hi' with f | f | f | f <;> subst f
    · have n2 : cfR a 3 3 0 2 = 0 := if_neg (by decide)
      have n3 : cfR a 3 3 0 3 = 0 := if_neg (by decide)
      simp only [sr, c00, c01, n2, n3, Rat.zero_add, Rat.add_zero]
      exact t0
    · have n2 : cfR a 3 3 1 2 = 0 := if_neg (by decide)
      have n3 : cfR a 3 3 1 3 = 0 := if_neg (by decide)
      simp only [sr, c10, c11, n2, n3, Rat.zero_add, Rat.add_zero]
      exact t1
    · have n0 : cfR a 3 3 2 0 = 0 := if_neg (by decide)
      have n1 : cfR a 3 3 2 1 = 0 := if_neg (by decide)
      have n2 : cfR a 3 3 2 2 = 0 := if_neg (by decide)
      have n3 : cfR a 3 3 2 3 = 0 := if_neg (by decide)
      simp only [sr, uz2, n0, n1, n2, n3, Rat.zero_add, Rat.add_zero, Rat.mul_zero]
    · have n0 : cfR a 3 3 3 0 = 0 := if_neg (by decide)
      have n1 : cfR a 3 3 3 1 = 0 := if_neg (by decide)
      have n2 : cfR a 3 3 3 2 = 0 := if_neg (by decide)
      have n3 : cfR a 3 3 3 3 = 0 := if_neg (by decide)
      simp only [sr, uz3, n0, n1, n2, n3, Rat.zero_add, Rat.add_zero, Rat.mul_zero]
theorem ev_3_5 (a : Nat → Nat → Rat) : dR a 2 3 5 = a 0 0 * a 1 2 - a 0 2 * a 1 0 ∧ cfR a 3 5 0 0 = (a 1 2) ∧ cfR a 3 5 0 2 = (-(a 1 0)) ∧ cfR a 3 5 1 0 = (-(a 0 2)) ∧ cfR a 3 5 1 2 = (a 0 0) := by
  simp [cfR, dR, exR, lowB, pop] <;> grind
theorem cr_3_5 {a : Nat → Nat → Rat} {w u : Nat → Rat} (ha : ∀ i j, i < 4 → j < 4 → 1 ≤ a i j) (hw : ∀ i, i < 4 → bN 3 i → sr (fun j => a i j * w j) 4 = 1) (w0 : ∀ j, j < 4 → ¬ bN 5 j → w j = 0) (hu : ∀ j, j < 4 → bN 5 j → sr (fun i => a i j * u i) 4 = 1) (u0 : ∀ i, i < 4 → ¬ bN 3 i → u i = 0) (hz : ∀ z : Nat → Rat, (∀ j, j < 4 → ¬ bN 5 j → z j = 0) → (∀ i, i < 4 → bN 3 i → sr (fun j => a i j * z j) 4 = 0) → ∀ j, j < 4 → z j = 0) : crP a 3 5 w u := by
  have ep : pop 3 = 2 := by decide
  obtain ⟨eD, c00, c01, c10, c11⟩ := ev_3_5 a
  have wz1 := w0 1 (by omega) (by decide)
  have wz3 := w0 3 (by omega) (by decide)
  have uz2 := u0 2 (by omega) (by decide)
  have uz3 := u0 3 (by omega) (by decide)
  have h0 : a 0 0 * w 0 + a 0 2 * w 2 = 1 := by
    have h := hw 0 (by omega) (by decide)
    simp only [sr] at h
    grind
  have h1 : a 1 0 * w 0 + a 1 2 * w 2 = 1 := by
    have h := hw 1 (by omega) (by decide)
    simp only [sr] at h
    grind
  have g0 : a 0 0 * u 0 + a 1 0 * u 1 = 1 := by
    have h := hu 0 (by omega) (by decide)
    simp only [sr] at h
    grind
  have g1 : a 0 2 * u 0 + a 1 2 * u 1 = 1 := by
    have h := hu 2 (by omega) (by decide)
    simp only [sr] at h
    grind
  obtain ⟨r0, r1, t0, t1⟩ := cram2 h0 h1 g0 g1
  unfold crP
  rw [ep, eD]
  refine ⟨fun hD => ?_, fun j hj => ?_, fun i hi => ?_⟩
  · obtain ⟨z0, z1, n, e0, e1⟩ := ker2 hD
    have y := hz (fun j => if j = 0 then z0 else if j = 2 then z1 else 0) (fun j hj nj => ?_) (fun i hi bi => ?_)
    · apply n
      refine ⟨?_, ?_⟩
      · have y1 := y 0 (by omega)
        simpa using y1
      · have y1 := y 2 (by omega)
        simpa using y1
    · have hj' : j = 0 ∨ j = 1 ∨ j = 2 ∨ j = 3 := by omega
      rcases hj' with f | f | f | f <;> subst f <;> first | exact absurd (by decide) nj | rfl
    · have hi' : i = 0 ∨ i = 1 ∨ i = 2 ∨ i = 3 := by omega
      rcases hi' with f | f | f | f <;> subst f <;> first | exact absurd bi (by decide) | (simp [sr] <;> grind)
  · have hj' : j = 0 ∨ j = 1 ∨ j = 2 ∨ j = 3 := by omega
    rcases hj' with f | f | f | f <;> subst f
    · have n2 : cfR a 3 5 2 0 = 0 := if_neg (by decide)
      have n3 : cfR a 3 5 3 0 = 0 := if_neg (by decide)
      simp only [sr, c00, c10, n2, n3, Rat.zero_add, Rat.add_zero]
      exact r0
    · have n0 : cfR a 3 5 0 1 = 0 := if_neg (by decide)
      have n1 : cfR a 3 5 1 1 = 0 := if_neg (by decide)
      have n2 : cfR a 3 5 2 1 = 0 := if_neg (by decide)
      have n3 : cfR a 3 5 3 1 = 0 := if_neg (by decide)
      simp only [sr, wz1, n0, n1, n2, n3, Rat.zero_add, Rat.add_zero, Rat.mul_zero]
    · have n2 : cfR a 3 5 2 2 = 0 := if_neg (by decide)
      have n3 : cfR a 3 5 3 2 = 0 := if_neg (by decide)
      simp only [sr, c01, c11, n2, n3, Rat.zero_add, Rat.add_zero]
      exact r1
    · have n0 : cfR a 3 5 0 3 = 0 := if_neg (by decide)
      have n1 : cfR a 3 5 1 3 = 0 := if_neg (by decide)
      have n2 : cfR a 3 5 2 3 = 0 := if_neg (by decide)
      have n3 : cfR a 3 5 3 3 = 0 := if_neg (by decide)
      simp only [sr, wz3, n0, n1, n2, n3, Rat.zero_add, Rat.add_zero, Rat.mul_zero]
  · have hi' : i = 0 ∨ i = 1 ∨ i = 2 ∨ i = 3 := by omega
    rcases hi' with f | f | f | f <;> subst f
    · have n1 : cfR a 3 5 0 1 = 0 := if_neg (by decide)
      have n3 : cfR a 3 5 0 3 = 0 := if_neg (by decide)
      simp only [sr, c00, c01, n1, n3, Rat.zero_add, Rat.add_zero]
      exact t0
    · have n1 : cfR a 3 5 1 1 = 0 := if_neg (by decide)
      have n3 : cfR a 3 5 1 3 = 0 := if_neg (by decide)
      simp only [sr, c10, c11, n1, n3, Rat.zero_add, Rat.add_zero]
      exact t1
    · have n0 : cfR a 3 5 2 0 = 0 := if_neg (by decide)
      have n1 : cfR a 3 5 2 1 = 0 := if_neg (by decide)
      have n2 : cfR a 3 5 2 2 = 0 := if_neg (by decide)
      have n3 : cfR a 3 5 2 3 = 0 := if_neg (by decide)
      simp only [sr, uz2, n0, n1, n2, n3, Rat.zero_add, Rat.add_zero, Rat.mul_zero]
    · have n0 : cfR a 3 5 3 0 = 0 := if_neg (by decide)
      have n1 : cfR a 3 5 3 1 = 0 := if_neg (by decide)
      have n2 : cfR a 3 5 3 2 = 0 := if_neg (by decide)
      have n3 : cfR a 3 5 3 3 = 0 := if_neg (by decide)
      simp only [sr, uz3, n0, n1, n2, n3, Rat.zero_add, Rat.add_zero, Rat.mul_zero]
theorem ev_3_6 (a : Nat → Nat → Rat) : dR a 2 3 6 = a 0 1 * a 1 2 - a 0 2 * a 1 1 ∧ cfR a 3 6 0 1 = (a 1 2) ∧ cfR a 3 6 0 2 = (-(a 1 1)) ∧ cfR a 3 6 1 1 = (-(a 0 2)) ∧ cfR a 3 6 1 2 = (a 0 1) := by
  simp [cfR, dR, exR, lowB, pop] <;> grind
theorem cr_3_6 {a : Nat → Nat → Rat} {w u : Nat → Rat} (ha : ∀ i j, i < 4 → j < 4 → 1 ≤ a i j) (hw : ∀ i, i < 4 → bN 3 i → sr (fun j => a i j * w j) 4 = 1) (w0 : ∀ j, j < 4 → ¬ bN 6 j → w j = 0) (hu : ∀ j, j < 4 → bN 6 j → sr (fun i => a i j * u i) 4 = 1) (u0 : ∀ i, i < 4 → ¬ bN 3 i → u i = 0) (hz : ∀ z : Nat → Rat, (∀ j, j < 4 → ¬ bN 6 j → z j = 0) → (∀ i, i < 4 → bN 3 i → sr (fun j => a i j * z j) 4 = 0) → ∀ j, j < 4 → z j = 0) : crP a 3 6 w u := by
  have ep : pop 3 = 2 := by decide
  obtain ⟨eD, c00, c01, c10, c11⟩ := ev_3_6 a
  have wz0 := w0 0 (by omega) (by decide)
  have wz3 := w0 3 (by omega) (by decide)
  have uz2 := u0 2 (by omega) (by decide)
  have uz3 := u0 3 (by omega) (by decide)
  have h0 : a 0 1 * w 1 + a 0 2 * w 2 = 1 := by
    have h := hw 0 (by omega) (by decide)
    simp only [sr] at h
    grind
  have h1 : a 1 1 * w 1 + a 1 2 * w 2 = 1 := by
    have h := hw 1 (by omega) (by decide)
    simp only [sr] at h
    grind
  have g0 : a 0 1 * u 0 + a 1 1 * u 1 = 1 := by
    have h := hu 1 (by omega) (by decide)
    simp only [sr] at h
    grind
  have g1 : a 0 2 * u 0 + a 1 2 * u 1 = 1 := by
    have h := hu 2 (by omega) (by decide)
    simp only [sr] at h
    grind
  obtain ⟨r0, r1, t0, t1⟩ := cram2 h0 h1 g0 g1
  unfold crP
  rw [ep, eD]
  refine ⟨fun hD => ?_, fun j hj => ?_, fun i hi => ?_⟩
  · obtain ⟨z0, z1, n, e0, e1⟩ := ker2 hD
    have y := hz (fun j => if j = 1 then z0 else if j = 2 then z1 else 0) (fun j hj nj => ?_) (fun i hi bi => ?_)
    · apply n
      refine ⟨?_, ?_⟩
      · have y1 := y 1 (by omega)
        simpa using y1
      · have y1 := y 2 (by omega)
        simpa using y1
    · have hj' : j = 0 ∨ j = 1 ∨ j = 2 ∨ j = 3 := by omega
      rcases hj' with f | f | f | f <;> subst f <;> first | exact absurd (by decide) nj | rfl
    · have hi' : i = 0 ∨ i = 1 ∨ i = 2 ∨ i = 3 := by omega
      rcases hi' with f | f | f | f <;> subst f <;> first | exact absurd bi (by decide) | (simp [sr] <;> grind)
  · have hj' : j = 0 ∨ j = 1 ∨ j = 2 ∨ j = 3 := by omega
    rcases hj' with f | f | f | f <;> subst f
    · have n0 : cfR a 3 6 0 0 = 0 := if_neg (by decide)
      have n1 : cfR a 3 6 1 0 = 0 := if_neg (by decide)
      have n2 : cfR a 3 6 2 0 = 0 := if_neg (by decide)
      have n3 : cfR a 3 6 3 0 = 0 := if_neg (by decide)
      simp only [sr, wz0, n0, n1, n2, n3, Rat.zero_add, Rat.add_zero, Rat.mul_zero]
    · have n2 : cfR a 3 6 2 1 = 0 := if_neg (by decide)
      have n3 : cfR a 3 6 3 1 = 0 := if_neg (by decide)
      simp only [sr, c00, c10, n2, n3, Rat.zero_add, Rat.add_zero]
      exact r0
    · have n2 : cfR a 3 6 2 2 = 0 := if_neg (by decide)
      have n3 : cfR a 3 6 3 2 = 0 := if_neg (by decide)
      simp only [sr, c01, c11, n2, n3, Rat.zero_add, Rat.add_zero]
      exact r1
    · have n0 : cfR a 3 6 0 3 = 0 := if_neg (by decide)
      have n1 : cfR a 3 6 1 3 = 0 := if_neg (by decide)
      have n2 : cfR a 3 6 2 3 = 0 := if_neg (by decide)
      have n3 : cfR a 3 6 3 3 = 0 := if_neg (by decide)
      simp only [sr, wz3, n0, n1, n2, n3, Rat.zero_add, Rat.add_zero, Rat.mul_zero]
  · have hi' : i = 0 ∨ i = 1 ∨ i = 2 ∨ i = 3 := by omega
    rcases hi' with f | f | f | f <;> subst f
    · have n0 : cfR a 3 6 0 0 = 0 := if_neg (by decide)
      have n3 : cfR a 3 6 0 3 = 0 := if_neg (by decide)
      simp only [sr, c00, c01, n0, n3, Rat.zero_add, Rat.add_zero]
      exact t0
    · have n0 : cfR a 3 6 1 0 = 0 := if_neg (by decide)
      have n3 : cfR a 3 6 1 3 = 0 := if_neg (by decide)
      simp only [sr, c10, c11, n0, n3, Rat.zero_add, Rat.add_zero]
      exact t1
    · have n0 : cfR a 3 6 2 0 = 0 := if_neg (by decide)
      have n1 : cfR a 3 6 2 1 = 0 := if_neg (by decide)
      have n2 : cfR a 3 6 2 2 = 0 := if_neg (by decide)
      have n3 : cfR a 3 6 2 3 = 0 := if_neg (by decide)
      simp only [sr, uz2, n0, n1, n2, n3, Rat.zero_add, Rat.add_zero, Rat.mul_zero]
    · have n0 : cfR a 3 6 3 0 = 0 := if_neg (by decide)
      have n1 : cfR a 3 6 3 1 = 0 := if_neg (by decide)
      have n2 : cfR a 3 6 3 2 = 0 := if_neg (by decide)
      have n3 : cfR a 3 6 3 3 = 0 := if_neg (by decide)
      simp only [sr, uz3, n0, n1, n2, n3, Rat.zero_add, Rat.add_zero, Rat.mul_zero]
theorem ev_3_9 (a : Nat → Nat → Rat) : dR a 2 3 9 = a 0 0 * a 1 3 - a 0 3 * a 1 0 ∧ cfR a 3 9 0 0 = (a 1 3) ∧ cfR a 3 9 0 3 = (-(a 1 0)) ∧ cfR a 3 9 1 0 = (-(a 0 3)) ∧ cfR a 3 9 1 3 = (a 0 0) := by
  simp [cfR, dR, exR, lowB, pop] <;> grind
theorem cr_3_9 {a : Nat → Nat → Rat} {w u : Nat → Rat} (ha : ∀ i j, i < 4 → j < 4 → 1 ≤ a i j) (hw : ∀ i, i < 4 → bN 3 i → sr (fun j => a i j * w j) 4 = 1) (w0 : ∀ j, j < 4 → ¬ bN 9 j → w j = 0) (hu : ∀ j, j < 4 → bN 9 j → sr (fun i => a i j * u i) 4 = 1) (u0 : ∀ i, i < 4 → ¬ bN 3 i → u i = 0) (hz : ∀ z : Nat → Rat, (∀ j, j < 4 → ¬ bN 9 j → z j = 0) → (∀ i, i < 4 → bN 3 i → sr (fun j => a i j * z j) 4 = 0) → ∀ j, j < 4 → z j = 0) : crP a 3 9 w u := by
  have ep : pop 3 = 2 := by decide
  obtain ⟨eD, c00, c01, c10, c11⟩ := ev_3_9 a
  have wz1 := w0 1 (by omega) (by decide)
  have wz2 := w0 2 (by omega) (by decide)
  have uz2 := u0 2 (by omega) (by decide)
  have uz3 := u0 3 (by omega) (by decide)
  have h0 : a 0 0 * w 0 + a 0 3 * w 3 = 1 := by
    have h := hw 0 (by omega) (by decide)
    simp only [sr] at h
    grind
  have h1 : a 1 0 * w 0 + a 1 3 * w 3 = 1 := by
    have h := hw 1 (by omega) (by decide)
    simp only [sr] at h
    grind
  have g0 : a 0 0 * u 0 + a 1 0 * u 1 = 1 := by
    have h := hu 0 (by omega) (by decide)
    simp only [sr] at h
    grind
  have g1 : a 0 3 * u 0 + a 1 3 * u 1 = 1 := by
    have h := hu 3 (by omega) (by decide)
    simp only [sr] at h
    grind
  obtain ⟨r0, r1, t0, t1⟩ := cram2 h0 h1 g0 g1
  unfold crP
  rw [ep, eD]
  refine ⟨fun hD => ?_, fun j hj => ?_, fun i hi => ?_⟩
  · obtain ⟨z0, z1, n, e0, e1⟩ := ker2 hD
    have y := hz (fun j => if j = 0 then z0 else if j = 3 then z1 else 0) (fun j hj nj => ?_) (fun i hi bi => ?_)
    · apply n
      refine ⟨?_, ?_⟩
      · have y1 := y 0 (by omega)
        simpa using y1
      · have y1 := y 3 (by omega)
        simpa using y1
    · have hj' : j = 0 ∨ j = 1 ∨ j = 2 ∨ j = 3 := by omega
      rcases hj' with f | f | f | f <;> subst f <;> first | exact absurd (by decide) nj | rfl
    · have hi' : i = 0 ∨ i = 1 ∨ i = 2 ∨ i = 3 := by omega
      rcases hi' with f | f | f | f <;> subst f <;> first | exact absurd bi (by decide) | (simp [sr] <;> grind)
  · have hj' : j = 0 ∨ j = 1 ∨ j = 2 ∨ j = 3 := by omega
    rcases hj' with f | f | f | f <;> subst f
    · have n2 : cfR a 3 9 2 0 = 0 := if_neg (by decide)
      have n3 : cfR a 3 9 3 0 = 0 := if_neg (by decide)
      simp only [sr, c00, c10, n2, n3, Rat.zero_add, Rat.add_zero]
      exact r0
    · have n0 : cfR a 3 9 0 1 = 0 := if_neg (by decide)
      have n1 : cfR a 3 9 1 1 = 0 := if_neg (by decide)
      have n2 : cfR a 3 9 2 1 = 0 := if_neg (by decide)
      have n3 : cfR a 3 9 3 1 = 0 := if_neg (by decide)
      simp only [sr, wz1, n0, n1, n2, n3, Rat.zero_add, Rat.add_zero, Rat.mul_zero]
    · have n0 : cfR a 3 9 0 2 = 0 := if_neg (by decide)
      have n1 : cfR a 3 9 1 2 = 0 := if_neg (by decide)
      have n2 : cfR a 3 9 2 2 = 0 := if_neg (by decide)
      have n3 : cfR a 3 9 3 2 = 0 := if_neg (by decide)
      simp only [sr, wz2, n0, n1, n2, n3, Rat.zero_add, Rat.add_zero, Rat.mul_zero]
    · have n2 : cfR a 3 9 2 3 = 0 := if_neg (by decide)
      have n3 : cfR a 3 9 3 3 = 0 := if_neg (by decide)
      simp only [sr, c01, c11, n2, n3, Rat.zero_add, Rat.add_zero]
      exact r1
  · have hi' : i = 0 ∨ i = 1 ∨ i = 2 ∨ i = 3 := by omega
    rcases hi' with f | f | f | f <;> subst f
    · have n1 : cfR a 3 9 0 1 = 0 := if_neg (by decide)
      have n2 : cfR a 3 9 0 2 = 0 := if_neg (by decide)
      simp only [sr, c00, c01, n1, n2, Rat.zero_add, Rat.add_zero]
      exact t0
    · have n1 : cfR a 3 9 1 1 = 0 := if_neg (by decide)
      have n2 : cfR a 3 9 1 2 = 0 := if_neg (by decide)
      simp only [sr, c10, c11, n1, n2, Rat.zero_add, Rat.add_zero]
      exact t1
    · have n0 : cfR a 3 9 2 0 = 0 := if_neg (by decide)
      have n1 : cfR a 3 9 2 1 = 0 := if_neg (by decide)
      have n2 : cfR a 3 9 2 2 = 0 := if_neg (by decide)
      have n3 : cfR a 3 9 2 3 = 0 := if_neg (by decide)
      simp only [sr, uz2, n0, n1, n2, n3, Rat.zero_add, Rat.add_zero, Rat.mul_zero]
    · have n0 : cfR a 3 9 3 0 = 0 := if_neg (by decide)
      have n1 : cfR a 3 9 3 1 = 0 := if_neg (by decide)
      have n2 : cfR a 3 9 3 2 = 0 := if_neg (by decide)
      have n3 : cfR a 3 9 3 3 = 0 := if_neg (by decide)
      simp only [sr, uz3, n0, n1, n2, n3, Rat.zero_add, Rat.add_zero, Rat.mul_zero]
theorem ev_3_10 (a : Nat → Nat → Rat) : dR a 2 3 10 = a 0 1 * a 1 3 - a 0 3 * a 1 1 ∧ cfR a 3 10 0 1 = (a 1 3) ∧ cfR a 3 10 0 3 = (-(a 1 1)) ∧ cfR a 3 10 1 1 = (-(a 0 3)) ∧ cfR a 3 10 1 3 = (a 0 1) := by
  simp [cfR, dR, exR, lowB, pop] <;> grind
theorem cr_3_10 {a : Nat → Nat → Rat} {w u : Nat → Rat} (ha : ∀ i j, i < 4 → j < 4 → 1 ≤ a i j) (hw : ∀ i, i < 4 → bN 3 i → sr (fun j => a i j * w j) 4 = 1) (w0 : ∀ j, j < 4 → ¬ bN 10 j → w j = 0) (hu : ∀ j, j < 4 → bN 10 j → sr (fun i => a i j * u i) 4 = 1) (u0 : ∀ i, i < 4 → ¬ bN 3 i → u i = 0) (hz : ∀ z : Nat → Rat, (∀ j, j < 4 → ¬ bN 10 j → z j = 0) → (∀ i, i < 4 → bN 3 i → sr (fun j => a i j * z j) 4 = 0) → ∀ j, j < 4 → z j = 0) : crP a 3 10 w u := by
  have ep : pop 3 = 2 := by decide
  obtain ⟨eD, c00, c01, c10, c11⟩ := ev_3_10 a
  have wz0 := w0 0 (by omega) (by decide)
  have wz2 := w0 2 (by omega) (by decide)
  have uz2 := u0 2 (by omega) (by decide)
  have uz3 := u0 3 (by omega) (by decide)
  have h0 : a 0 1 * w 1 + a 0 3 * w 3 = 1 := by
    have h := hw 0 (by omega) (by decide)
    simp only [sr] at h
    grind
  have h1 : a 1 1 * w 1 + a 1 3 * w 3 = 1 := by
    have h := hw 1 (by omega) (by decide)
    simp only [sr] at h
    grind
  have g0 : a 0 1 * u 0 + a 1 1 * u 1 = 1 := by
    have h := hu 1 (by omega) (by decide)
    simp only [sr] at h
    grind
  have g1 : a 0 3 * u 0 + a 1 3 * u 1 = 1 := by
    have h := hu 3 (by omega) (by decide)
    simp only [sr] at h
    grind
  obtain ⟨r0, r1, t0, t1⟩ := cram2 h0 h1 g0 g1
  unfold crP
  rw [ep, eD]
  refine ⟨fun hD => ?_, fun j hj => ?_, fun i hi => ?_⟩
  · obtain ⟨z0, z1, n, e0, e1⟩ := ker2 hD
    have y := hz (fun j => if j = 1 then z0 else if j = 3 then z1 else 0) (fun j hj nj => ?_) (fun i hi bi => ?_)
    · apply n
      refine ⟨?_, ?_⟩
      · have y1 := y 1 (by omega)
        simpa using y1
      · have y1 := y 3 (by omega)
        simpa using y1
    · have hj' : j = 0 ∨ j = 1 ∨ j = 2 ∨ j = 3 := by omega
      rcases hj' with f | f | f | f <;> subst f <;> first | exact absurd (by decide) nj | rfl
    · have hi' : i = 0 ∨ i = 1 ∨ i = 2 ∨ i = 3 := by omega
      rcases hi' with f | f | f | f <;> subst f <;> first | exact absurd bi (by decide) | (simp [sr] <;> grind)
  · have hj' : j = 0 ∨ j = 1 ∨ j = 2 ∨ j = 3 := by omega
    rcases hj' with f | f | f | f <;> subst f
    · have n0 : cfR a 3 10 0 0 = 0 := if_neg (by decide)
      have n1 : cfR a 3 10 1 0 = 0 := if_neg (by decide)
      have n2 : cfR a 3 10 2 0 = 0 := if_neg (by decide)
      have n3 : cfR a 3 10 3 0 = 0 := if_neg (by decide)
      simp only [sr, wz0, n0, n1, n2, n3, Rat.zero_add, Rat.add_zero, Rat.mul_zero]
    · have n2 : cfR a 3 10 2 1 = 0 := if_neg (by decide)
      have n3 : cfR a 3 10 3 1 = 0 := if_neg (by decide)
      simp only [sr, c00, c10, n2, n3, Rat.zero_add, Rat.add_zero]
      exact r0
    · have n0 : cfR a 3 10 0 2 = 0 := if_neg (by decide)
      have n1 : cfR a 3 10 1 2 = 0 := if_neg (by decide)
      have n2 : cfR a 3 10 2 2 = 0 := if_neg (by decide)
      have n3 : cfR a 3 10 3 2 = 0 := if_neg (by decide)
      simp only [sr, wz2, n0, n1, n2, n3, Rat.zero_add, Rat.add_zero, Rat.mul_zero]
    · have n2 : cfR a 3 10 2 3 = 0 := if_neg (by decide)
      have n3 : cfR a 3 10 3 3 = 0 := if_neg (by decide)
      simp only [sr, c01, c11, n2, n3, Rat.zero_add, Rat.add_zero]
      exact r1
  · have hi' : i = 0 ∨ i = 1 ∨ i = 2 ∨ i = 3 := by omega
    rcases hi' with f | f | f | f <;> subst f
    · have n0 : cfR a 3 10 0 0 = 0 := if_neg (by decide)
      have n2 : cfR a 3 10 0 2 = 0 := if_neg (by decide)
      simp only [sr, c00, c01, n0, n2, Rat.zero_add, Rat.add_zero]
      exact t0
    · have n0 : cfR a 3 10 1 0 = 0 := if_neg (by decide)
      have n2 : cfR a 3 10 1 2 = 0 := if_neg (by decide)
      simp only [sr, c10, c11, n0, n2, Rat.zero_add, Rat.add_zero]
      exact t1
    · have n0 : cfR a 3 10 2 0 = 0 := if_neg (by decide)
      have n1 : cfR a 3 10 2 1 = 0 := if_neg (by decide)
      have n2 : cfR a 3 10 2 2 = 0 := if_neg (by decide)
      have n3 : cfR a 3 10 2 3 = 0 := if_neg (by decide)
      simp only [sr, uz2, n0, n1, n2, n3, Rat.zero_add, Rat.add_zero, Rat.mul_zero]
    · have n0 : cfR a 3 10 3 0 = 0 := if_neg (by decide)
      have n1 : cfR a 3 10 3 1 = 0 := if_neg (by decide)
      have n2 : cfR a 3 10 3 2 = 0 := if_neg (by decide)
      have n3 : cfR a 3 10 3 3 = 0 := if_neg (by decide)
      simp only [sr, uz3, n0, n1, n2, n3, Rat.zero_add, Rat.add_zero, Rat.mul_zero]
theorem ev_3_12 (a : Nat → Nat → Rat) : dR a 2 3 12 = a 0 2 * a 1 3 - a 0 3 * a 1 2 ∧ cfR a 3 12 0 2 = (a 1 3) ∧ cfR a 3 12 0 3 = (-(a 1 2)) ∧ cfR a 3 12 1 2 = (-(a 0 3)) ∧ cfR a 3 12 1 3 = (a 0 2) := by
  simp [cfR, dR, exR, lowB, pop] <;> grind
theorem cr_3_12 {a : Nat → Nat → Rat} {w u : Nat → Rat} (ha : ∀ i j, i < 4 → j < 4 → 1 ≤ a i j) (hw : ∀ i, i < 4 → bN 3 i → sr (fun j => a i j * w j) 4 = 1) (w0 : ∀ j, j < 4 → ¬ bN 12 j → w j = 0) (hu : ∀ j, j < 4 → bN 12 j → sr (fun i => a i j * u i) 4 = 1) (u0 : ∀ i, i < 4 → ¬ bN 3 i → u i = 0) (hz : ∀ z : Nat → Rat, (∀ j, j < 4 → ¬ bN 12 j → z j = 0) → (∀ i, i < 4 → bN 3 i → sr (fun j => a i j * z j) 4 = 0) → ∀ j, j < 4 → z j = 0) : crP a 3 12 w u := by
  have ep : pop 3 = 2 := by decide
  obtain ⟨eD, c00, c01, c10, c11⟩ := ev_3_12 a
  have wz0 := w0 0 (by omega) (by decide)
  have wz1 := w0 1 (by omega) (by decide)
  have uz2 := u0 2 (by omega) (by decide)
  have uz3 := u0 3 (by omega) (by decide)
  have h0 : a 0 2 * w 2 + a 0 3 * w 3 = 1 := by
    have h := hw 0 (by omega) (by decide)
    simp only [sr] at h
    grind
  have h1 : a 1 2 * w 2 + a 1 3 * w 3 = 1 := by
    have h := hw 1 (by omega) (by decide)
    simp only [sr] at h
    grind
  have g0 : a 0 2 * u 0 + a 1 2 * u 1 = 1 := by
    have h := hu 2 (by omega) (by decide)
    simp only [sr] at h
    grind
  have g1 : a 0 3 * u 0 + a 1 3 * u 1 = 1 := by
    have h := hu 3 (by omega) (by decide)
    simp only [sr] at h
    grind
  obtain ⟨r0, r1, t0, t1⟩ := cram2 h0 h1 g0 g1
  unfold crP
  rw [ep, eD]
  refine ⟨fun hD => ?_, fun j hj => ?_, fun i hi => ?_⟩
  · obtain ⟨z0, z1, n, e0, e1⟩ := ker2 hD
    have y := hz (fun j => if j = 2 then z0 else if j = 3 then z1 else 0) (fun j hj nj => ?_) (fun i hi bi => ?_)
    · apply n
      refine ⟨?_, ?_⟩
      · have y1 := y 2 (by omega)
        simpa using y1
      · have y1 := y 3 (by omega)
        simpa using y1
    · have hj' : j = 0 ∨ j = 1 ∨ j = 2 ∨ j = 3 := by omega
      rcases hj' with f | f | f | f <;> subst f <;> first | exact absurd (by decide) nj | rfl
    · have hi' : i = 0 ∨ i = 1 ∨ i = 2 ∨ i = 3 := by omega
      rcases hi' with f | f | f | f <;> subst f <;> first | exact absurd bi (by decide) | (simp [sr] <;> grind)
  · have hj' : j = 0 ∨ j = 1 ∨ j = 2 ∨ j = 3 := by omega
    rcases hj' with f | f | f | f <;> subst f
    · have n0 : cfR a 3 12 0 0 = 0 := if_neg (by decide)
      have n1 : cfR a 3 12 1 0 = 0 := if_neg (by decide)
      have n2 : cfR a 3 12 2 0 = 0 := if_neg (by decide)
      have n3 : cfR a 3 12 3 0 = 0 := if_neg (by decide)
      simp only [sr, wz0, n0, n1, n2, n3, Rat.zero_add, Rat.add_zero, Rat.mul_zero]
    · have n0 : cfR a 3 12 0 1 = 0 := if_neg (by decide)
      have n1 : cfR a 3 12 1 1 = 0 := if_neg (by decide)
      have n2 : cfR a 3 12 2 1 = 0 := if_neg (by decide)
      have n3 : cfR a 3 12 3 1 = 0 := if_neg (by decide)
      simp only [sr, wz1, n0, n1, n2, n3, Rat.zero_add, Rat.add_zero, Rat.mul_zero]
    · have n2 : cfR a 3 12 2 2 = 0 := if_neg (by decide)
      have n3 : cfR a 3 12 3 2 = 0 := if_neg (by decide)
      simp only [sr, c00, c10, n2, n3, Rat.zero_add, Rat.add_zero]
      exact r0
    · have n2 : cfR a 3 12 2 3 = 0 := if_neg (by decide)
      have n3 : cfR a 3 12 3 3 = 0 := if_neg (by decide)
      simp only [sr, c01, c11, n2, n3, Rat.zero_add, Rat.add_zero]
      exact r1
  · have hi' : i = 0 ∨ i = 1 ∨ i = 2 ∨ i = 3 := by omega
    rcases hi' with f | f | f | f <;> subst f
    · have n0 : cfR a 3 12 0 0 = 0 := if_neg (by decide)
      have n1 : cfR a 3 12 0 1 = 0 := if_neg (by decide)
      simp only [sr, c00, c01, n0, n1, Rat.zero_add, Rat.add_zero]
      exact t0
    · have n0 : cfR a 3 12 1 0 = 0 := if_neg (by decide)
      have n1 : cfR a 3 12 1 1 = 0 := if_neg (by decide)
      simp only [sr, c10, c11, n0, n1, Rat.zero_add, Rat.add_zero]
      exact t1
    · have n0 : cfR a 3 12 2 0 = 0 := if_neg (by decide)
      have n1 : cfR a 3 12 2 1 = 0 := if_neg (by decide)
      have n2 : cfR a 3 12 2 2 = 0 := if_neg (by decide)
      have n3 : cfR a 3 12 2 3 = 0 := if_neg (by decide)
      simp only [sr, uz2, n0, n1, n2, n3, Rat.zero_add, Rat.add_zero, Rat.mul_zero]
    · have n0 : cfR a 3 12 3 0 = 0 := if_neg (by decide)
      have n1 : cfR a 3 12 3 1 = 0 := if_neg (by decide)
      have n2 : cfR a 3 12 3 2 = 0 := if_neg (by decide)
      have n3 : cfR a 3 12 3 3 = 0 := if_neg (by decide)
      simp only [sr, uz3, n0, n1, n2, n3, Rat.zero_add, Rat.add_zero, Rat.mul_zero]
theorem ev_5_3 (a : Nat → Nat → Rat) : dR a 2 5 3 = a 0 0 * a 2 1 - a 0 1 * a 2 0 ∧ cfR a 5 3 0 0 = (a 2 1) ∧ cfR a 5 3 0 1 = (-(a 2 0)) ∧ cfR a 5 3 2 0 = (-(a 0 1)) ∧ cfR a 5 3 2 1 = (a 0 0) := by
  simp [cfR, dR, exR, lowB, pop] <;> grind
theorem cr_5_3 {a : Nat → Nat → Rat} {w u : Nat → Rat} (ha : ∀ i j, i < 4 → j < 4 → 1 ≤ a i j) (hw : ∀ i, i < 4 → bN 5 i → sr (fun j => a i j * w j) 4 = 1) (w0 : ∀ j, j < 4 → ¬ bN 3 j → w j = 0) (hu : ∀ j, j < 4 → bN 3 j → sr (fun i => a i j * u i) 4 = 1) (u0 : ∀ i, i < 4 → ¬ bN 5 i → u i = 0) (hz : ∀ z : Nat → Rat, (∀ j, j < 4 → ¬ bN 3 j → z j = 0) → (∀ i, i < 4 → bN 5 i → sr (fun j => a i j * z j) 4 = 0) → ∀ j, j < 4 → z j = 0) : crP a 5 3 w u := by
  have ep : pop 5 = 2 := by decide
  obtain ⟨eD, c00, c01, c10, c11⟩ := ev_5_3 a
  have wz2 := w0 2 (by omega) (by decide)
  have wz3 := w0 3 (by omega) (by decide)
  have uz1 := u0 1 (by omega) (by decide)
  have uz3 := u0 3 (by omega) (by decide)
  have h0 : a 0 0 * w 0 + a 0 1 * w 1 = 1 := by
    have h := hw 0 (by omega) (by decide)
    simp only [sr] at h
    grind
  have h1 : a 2 0 * w 0 + a 2 1 * w 1 = 1 := by
    have h := hw 2 (by omega) (by decide)
    simp only [sr] at h
    grind
  have g0 : a 0 0 * u 0 + a 2 0 * u 2 = 1 := by
    have h := hu 0 (by omega) (by decide)
    simp only [sr] at h
    grind
  have g1 : a 0 1 * u 0 + a 2 1 * u 2 = 1 := by
    have h := hu 1 (by omega) (by decide)
    simp only [sr] at h
    grind
  obtain ⟨r0, r1, t0, t1⟩ := cram2 h0 h1 g0 g1
  unfold crP
  rw [ep, eD]
  refine ⟨fun hD => ?_, fun j hj => ?_, fun i hi => ?_⟩
  · obtain ⟨z0, z1, n, e0, e1⟩ := ker2 hD
    have y := hz (fun j => if j = 0 then z0 else if j = 1 then z1 else 0) (fun j hj nj => ?_) (fun i hi bi => ?_)
    · apply n
      refine ⟨?_, ?_⟩
      · have y1 := y 0 (by omega)
        simpa using y1
      · have y1 := y 1 (by omega)
        simpa using y1
    · have hj' : j = 0 ∨ j = 1 ∨ j = 2 ∨ j = 3 := by omega
      rcases hj' with f | f | f | f <;> subst f <;> first | exact absurd (by decide) nj | rfl
    · have hi' : i = 0 ∨ i = 1 ∨ i = 2 ∨ i = 3 := by omega
      rcases hi' with f | f | f | f <;> subst f <;> first | exact absurd bi (by decide) | (simp [sr] <;> grind)
  · have hj' : j = 0 ∨ j = 1 ∨ j = 2 ∨ j = 3 := by omega
    rcases hj' with f | f | f | f <;> subst f
    · have n1 : cfR a 5 3 1 0 = 0 := if_neg (by decide)
      have n3 : cfR a 5 3 3 0 = 0 := if_neg (by decide)
      simp only [sr, c00, c10, n1, n3, Rat.zero_add, Rat.add_zero]
      exact r0
    · have n1 : cfR a 5 3 1 1 = 0 := if_neg (by decide)
      have n3 : cfR a 5 3 3 1 = 0 := if_neg (by decide)
      simp only [sr, c01, c11, n1, n3, Rat.zero_add, Rat.add_zero]
      exact r1
    · have n0 : cfR a 5 3 0 2 = 0 := if_neg (by decide)
      have n1 : cfR a 5 3 1 2 = 0 := if_neg (by decide)
      have n2 : cfR a 5 3 2 2 = 0 := if_neg (by decide)
      have n3 : cfR a 5 3 3 2 = 0 := if_neg (by decide)
      simp only [sr, wz2, n0, n1, n2, n3, Rat.zero_add, Rat.add_zero, Rat.mul_zero]
    · have n0 : cfR a 5 3 0 3 = 0 := if_neg (by decide)
      have n1 : cfR a 5 3 1 3 = 0 := if_neg (by decide)
      have n2 : cfR a 5 3 2 3 = 0 := if_neg (by decide)
      have n3 : cfR a 5 3 3 3 = 0 := if_neg (by decide)
      simp only [sr, wz3, n0, n1, n2, n3, Rat.zero_add, Rat.add_zero, Rat.mul_zero]
  · have hi' : i = 0 ∨ i = 1 ∨ i = 2 ∨ i = 3 := by omega
    rcases hi' with f | f | f | f <;> subst f
    · have n2 : cfR a 5 3 0 2 = 0 := if_neg (by decide)
      have n3 : cfR a 5 3 0 3 = 0 := if_neg (by decide)
      simp only [sr, c00, c01, n2, n3, Rat.zero_add, Rat.add_zero]
      exact t0
    · have n0 : cfR a 5 3 1 0 = 0 := if_neg (by decide)
      have n1 : cfR a 5 3 1 1 = 0 := if_neg (by decide)
      have n2 : cfR a 5 3 1 2 = 0 := if_neg (by decide)
      have n3 : cfR a 5 3 1 3 = 0 := if_neg (by decide)
      simp only [sr, uz1, n0, n1, n2, n3, Rat.zero_add, Rat.add_zero, Rat.mul_zero]
    · have n2 : cfR a 5 3 2 2 = 0 := if_neg (by decide)
      have n3 : cfR a 5 3 2 3 = 0 := if_neg (by decide)
      simp only [sr, c10, c11, n2, n3, Rat.zero_add, Rat.add_zero]
      exact t1
    · have n0 : cfR a 5 3 3 0 = 0 := if_neg (by decide)
      have n1 : cfR a 5 3 3 1 = 0 := if_neg (by decide)
      have n2 : cfR a 5 3 3 2 = 0 := if_neg (by decide)
      have n3 : cfR a 5 3 3 3 = 0 := if_neg (by decide)
      simp only [sr, uz3, n0, n1, n2, n3, Rat.zero_add, Rat.add_zero, Rat.mul_zero]
theorem ev_5_5 (a : Nat → Nat → Rat) : dR a 2 5 5 = a 0 0 * a 2 2 - a 0 2 * a 2 0 ∧ cfR a 5 5 0 0 = (a 2 2) ∧ cfR a 5 5 0 2 = (-(a 2 0)) ∧ cfR a 5 5 2 0 = (-(a 0 2)) ∧ cfR a 5 5 2 2 = (a 0 0) := by
  simp [cfR, dR, exR, lowB, pop] <;> grind
theorem cr_5_5 {a : Nat → Nat → Rat} {w u : Nat → Rat} (ha : ∀ i j, i < 4 → j < 4 → 1 ≤ a i j) (hw : ∀ i, i < 4 → bN 5 i → sr (fun j => a i j * w j) 4 = 1) (w0 : ∀ j, j < 4 → ¬ bN 5 j → w j = 0) (hu : ∀ j, j < 4 → bN 5 j → sr (fun i => a i j * u i) 4 = 1) (u0 : ∀ i, i < 4 → ¬ bN 5 i → u i = 0) (hz : ∀ z : Nat → Rat, (∀ j, j < 4 → ¬ bN 5 j → z j = 0) → (∀ i, i < 4 → bN 5 i → sr (fun j => a i j * z j) 4 = 0) → ∀ j, j < 4 → z j = 0) : crP a 5 5 w u := by
  have ep : pop 5 = 2 := by decide
  obtain ⟨eD, c00, c01, c10, c11⟩ := ev_5_5 a
  have wz1 := w0 1 (by omega) (by decide)
  have wz3 := w0 3 (by omega) (by decide)
  have uz1 := u0 1 (by omega) (by decide)
  have uz3 := u0 3 (by omega) (by decide)
  have h0 : a 0 0 * w 0 + a 0 2 * w 2 = 1 := by
    have h := hw 0 (by omega) (by decide)
    simp only [sr] at h
    grind
  have h1 : a 2 0 * w 0 + a 2 2 * w 2 = 1 := by
    have h := hw 2 (by omega) (by decide)
    simp only [sr] at h
    grind
  have g0 : a 0 0 * u 0 + a 2 0 * u 2 = 1 := by
    have h := hu 0 (by omega) (by decide)
    simp only [sr] at h
    grind
  have g1 : a 0 2 * u 0 + a 2 2 * u 2 = 1 := by
    have h := hu 2 (by omega) (by decide)
    simp only [sr] at h
    grind
  obtain ⟨r0, r1, t0, t1⟩ := cram2 h0 h1 g0 g1
  unfold crP
  rw [ep, eD]
  refine ⟨fun hD => ?_, fun j hj => ?_, fun i hi => ?_⟩
  · obtain ⟨z0, z1, n, e0, e1⟩ := ker2 hD
    have y := hz (fun j => if j = 0 then z0 else if j = 2 then z1 else 0) (fun j hj nj => ?_) (fun i hi bi => ?_)
    · apply n
      refine ⟨?_, ?_⟩
      · have y1 := y 0 (by omega)
        simpa using y1
      · have y1 := y 2 (by omega)
        simpa using y1
    · have hj' : j = 0 ∨ j = 1 ∨ j = 2 ∨ j = 3 := by omega
      rcases hj' with f | f | f | f <;> subst f <;> first | exact absurd (by decide) nj | rfl
    · have hi' : i = 0 ∨ i = 1 ∨ i = 2 ∨ i = 3 := by omega
      rcases hi' with f | f | f | f <;> subst f <;> first | exact absurd bi (by decide) | (simp [sr] <;> grind)
  · have hj' : j = 0 ∨ j = 1 ∨ j = 2 ∨ j = 3 := by omega
    rcases hj' with f | f | f | f <;> subst f
    · have n1 : cfR a 5 5 1 0 = 0 := if_neg (by decide)
      have n3 : cfR a 5 5 3 0 = 0 := if_neg (by decide)
      simp only [sr, c00, c10, n1, n3, Rat.zero_add, Rat.add_zero]
      exact r0
    · have n0 : cfR a 5 5 0 1 = 0 := if_neg (by decide)
      have n1 : cfR a 5 5 1 1 = 0 := if_neg (by decide)
      have n2 : cfR a 5 5 2 1 = 0 := if_neg (by decide)
      have n3 : cfR a 5 5 3 1 = 0 := if_neg (by decide)
      simp only [sr, wz1, n0, n1, n2, n3, Rat.zero_add, Rat.add_zero, Rat.mul_zero]
    · have n1 : cfR a 5 5 1 2 = 0 := if_neg (by decide)
      have n3 : cfR a 5 5 3 2 = 0 := if_neg (by decide)
      simp only [sr, c01, c11, n1, n3, Rat.zero_add, Rat.add_zero]
      exact r1
    · have n0 : cfR a 5 5 0 3 = 0 := if_neg (by decide)
      have n1 : cfR a 5 5 1 3 = 0 := if_neg (by decide)
      have n2 : cfR a 5 5 2 3 = 0 := if_neg (by decide)
      have n3 : cfR a 5 5 3 3 = 0 := if_neg (by decide)
      simp only [sr, wz3, n0, n1, n2, n3, Rat.zero_add, Rat.add_zero, Rat.mul_zero]
  · have hi' : i = 0 ∨ i = 1 ∨ i = 2 ∨ i = 3 := by omega
    rcases hi' with f | f | f | f <;> subst f
    · have n1 : cfR a 5 5 0 1 = 0 := if_neg (by decide)
      have n3 : cfR a 5 5 0 3 = 0 := if_neg (by decide)
      simp only [sr, c00, c01, n1, n3, Rat.zero_add, Rat.add_zero]
      exact t0
    · have n0 : cfR a 5 5 1 0 = 0 := if_neg (by decide)
      have n1 : cfR a 5 5 1 1 = 0 := if_neg (by decide)
      have n2 : cfR a 5 5 1 2 = 0 := if_neg (by decide)
      have n3 : cfR a 5 5 1 3 = 0 := if_neg (by decide)
      simp only [sr, uz1, n0, n1, n2, n3, Rat.zero_add, Rat.add_zero, Rat.mul_zero]
    · have n1 : cfR a 5 5 2 1 = 0 := if_neg (by decide)
      have n3 : cfR a 5 5 2 3 = 0 := if_neg (by decide)
      simp only [sr, c10, c11, n1, n3, Rat.zero_add, Rat.add_zero]
      exact t1
    · have n0 : cfR a 5 5 3 0 = 0 := if_neg (by decide)
      have n1 : cfR a 5 5 3 1 = 0 := if_neg (by decide)
      have n2 : cfR a 5 5 3 2 = 0 := if_neg (by decide)
      have n3 : cfR a 5 5 3 3 = 0 := if_neg (by decide)
      simp only [sr, uz3, n0, n1, n2, n3, Rat.zero_add, Rat.add_zero, Rat.mul_zero]
theorem ev_5_6 (a : Nat → Nat → Rat) : dR a 2 5 6 = a 0 1 * a 2 2 - a 0 2 * a 2 1 ∧ cfR a 5 6 0 1 = (a 2 2) ∧ cfR a 5 6 0 2 = (-(a 2 1)) ∧ cfR a 5 6 2 1 = (-(a 0 2)) ∧ cfR a 5 6 2 2 = (a 0 1) := by
  simp [cfR, dR, exR, lowB, pop] <;> grind
theorem cr_5_6 {a : Nat → Nat → Rat} {w u : Nat → Rat} (ha : ∀ i j, i < 4 → j < 4 → 1 ≤ a i j) (hw : ∀ i, i < 4 → bN 5 i → sr (fun j => a i j * w j) 4 = 1) (w0 : ∀ j, j < 4 → ¬ bN 6 j → w j = 0) (hu : ∀ j, j < 4 → bN 6 j → sr (fun i => a i j * u i) 4 = 1) (u0 : ∀ i, i < 4 → ¬ bN 5 i → u i = 0) (hz : ∀ z : Nat → Rat, (∀ j, j < 4 → ¬ bN 6 j → z j = 0) → (∀ i, i < 4 → bN 5 i → sr (fun j => a i j * z j) 4 = 0) → ∀ j, j < 4 → z j = 0) : crP a 5 6 w u := by
  have ep : pop 5 = 2 := by decide
  obtain ⟨eD, c00, c01, c10, c11⟩ := ev_5_6 a
  have wz0 := w0 0 (by omega) (by decide)
  have wz3 := w0 3 (by omega) (by decide)
  have uz1 := u0 1 (by omega) (by decide)
  have uz3 := u0 3 (by omega) (by decide)
  have h0 : a 0 1 * w 1 + a 0 2 * w 2 = 1 := by
    have h := hw 0 (by omega) (by decide)
    simp only [sr] at h
    grind
  have h1 : a 2 1 * w 1 + a 2 2 * w 2 = 1 := by
    have h := hw 2 (by omega) (by decide)
    simp only [sr] at h
    grind
  have g0 : a 0 1 * u 0 + a 2 1 * u 2 = 1 := by
    have h := hu 1 (by omega) (by decide)
    simp only [sr] at h
    grind
  have g1 : a 0 2 * u 0 + a 2 2 * u 2 = 1 := by
    have h := hu 2 (by omega) (by decide)
    simp only [sr] at h
    grind
  obtain ⟨r0, r1, t0, t1⟩ := cram2 h0 h1 g0 g1
  unfold crP
  rw [ep, eD]
  refine ⟨fun hD => ?_, fun j hj => ?_, fun i hi => ?_⟩
  · obtain ⟨z0, z1, n, e0, e1⟩ := ker2 hD
    have y := hz (fun j => if j = 1 then z0 else if j = 2 then z1 else 0) (fun j hj nj => ?_) (fun i hi bi => ?_)
    · apply n
      refine ⟨?_, ?_⟩
      · have y1 := y 1 (by omega)
        simpa using y1
      · have y1 := y 2 (by omega)
        simpa using y1
    · have hj' : j = 0 ∨ j = 1 ∨ j = 2 ∨ j = 3 := by omega
      rcases hj' with f | f | f | f <;> subst f <;> first | exact absurd (by decide) nj | rfl
    · have hi' : i = 0 ∨ i = 1 ∨ i = 2 ∨ i = 3 := by omega
      rcases hi' with f | f | f | f <;> subst f <;> first | exact absurd bi (by decide) | (simp [sr] <;> grind)
  · have hj' : j = 0 ∨ j = 1 ∨ j = 2 ∨ j = 3 := by omega
    rcases hj' with f | f | f | f <;> subst f
    · have n0 : cfR a 5 6 0 0 = 0 := if_neg (by decide)
      have n1 : cfR a 5 6 1 0 = 0 := if_neg (by decide)
      have n2 : cfR a 5 6 2 0 = 0 := if_neg (by decide)
      have n3 : cfR a 5 6 3 0 = 0 := if_neg (by decide)
      simp only [sr, wz0, n0, n1, n2, n3, Rat.zero_add, Rat.add_zero, Rat.mul_zero]
    · have n1 : cfR a 5 6 1 1 = 0 := if_neg (by decide)
      have n3 : cfR a 5 6 3 1 = 0 := if_neg (by decide)
      simp only [sr, c00, c10, n1, n3, Rat.zero_add, Rat.add_zero]
      exact r0
    · have n1 : cfR a 5 6 1 2 = 0 := if_neg (by decide)
      have n3 : cfR a 5 6 3 2 = 0 := if_neg (by decide)
      simp only [sr, c01, c11, n1, n3, Rat.zero_add, Rat.add_zero]
      exact r1
    · have n0 : cfR a 5 6 0 3 = 0 := if_neg (by decide)
      have n1 : cfR a 5 6 1 3 = 0 := if_neg (by decide)
      have n2 : cfR a 5 6 2 3 = 0 := if_neg (by decide)
      have n3 : cfR a 5 6 3 3 = 0 := if_neg (by decide)
      simp only [sr, wz3, n0, n1, n2, n3, Rat.zero_add, Rat.add_zero, Rat.mul_zero]
  · have hi' : i = 0 ∨ i = 1 ∨ i = 2 ∨ i = 3 := by omega
    rcases hi' with f | f | f | f <;> subst f
    · have n0 : cfR a 5 6 0 0 = 0 := if_neg (by decide)
      have n3 : cfR a 5 6 0 3 = 0 := if_neg (by decide)
      simp only [sr, c00, c01, n0, n3, Rat.zero_add, Rat.add_zero]
      exact t0
    · have n0 : cfR a 5 6 1 0 = 0 := if_neg (by decide)
      have n1 : cfR a 5 6 1 1 = 0 := if_neg (by decide)
      have n2 : cfR a 5 6 1 2 = 0 := if_neg (by decide)
      have n3 : cfR a 5 6 1 3 = 0 := if_neg (by decide)
      simp only [sr, uz1, n0, n1, n2, n3, Rat.zero_add, Rat.add_zero, Rat.mul_zero]
    · have n0 : cfR a 5 6 2 0 = 0 := if_neg (by decide)
      have n3 : cfR a 5 6 2 3 = 0 := if_neg (by decide)
      simp only [sr, c10, c11, n0, n3, Rat.zero_add, Rat.add_zero]
      exact t1
    · have n0 : cfR a 5 6 3 0 = 0 := if_neg (by decide)
      have n1 : cfR a 5 6 3 1 = 0 := if_neg (by decide)
      have n2 : cfR a 5 6 3 2 = 0 := if_neg (by decide)
      have n3 : cfR a 5 6 3 3 = 0 := if_neg (by decide)
      simp only [sr, uz3, n0, n1, n2, n3, Rat.zero_add, Rat.add_zero, Rat.mul_zero]
theorem ev_5_9 (a : Nat → Nat → Rat) : dR a 2 5 9 = a 0 0 * a 2 3 - a 0 3 * a 2 0 ∧ cfR a 5 9 0 0 = (a 2 3) ∧ cfR a 5 9 0 3 = (-(a 2 0)) ∧ cfR a 5 9 2 0 = (-(a 0 3)) ∧ cfR a 5 9 2 3 = (a 0 0) := by
  simp [cfR, dR, exR, lowB, pop] <;> grind
theorem cr_5_9 {a : Nat → Nat → Rat} {w u : Nat → Rat} (ha : ∀ i j, i < 4 → j < 4 → 1 ≤ a i j) (hw : ∀ i, i < 4 → bN 5 i → sr (fun j => a i j * w j) 4 = 1) (w0 : ∀ j, j < 4 → ¬ bN 9 j → w j = 0) (hu : ∀ j, j < 4 → bN 9 j → sr (fun i => a i j * u i) 4 = 1) (u0 : ∀ i, i < 4 → ¬ bN 5 i → u i = 0) (hz : ∀ z : Nat → Rat, (∀ j, j < 4 → ¬ bN 9 j → z j = 0) → (∀ i, i < 4 → bN 5 i → sr (fun j => a i j * z j) 4 = 0) → ∀ j, j < 4 → z j = 0) : crP a 5 9 w u := by
  have ep : pop 5 = 2 := by decide
  obtain ⟨eD, c00, c01, c10, c11⟩ := ev_5_9 a
  have wz1 := w0 1 (by omega) (by decide)
  have wz2 := w0 2 (by omega) (by decide)
  have uz1 := u0 1 (by omega) (by decide)
  have uz3 := u0 3 (by omega) (by decide)
  have h0 : a 0 0 * w 0 + a 0 3 * w 3 = 1 := by
    have h := hw 0 (by omega) (by decide)
    simp only [sr] at h
    grind
  have h1 : a 2 0 * w 0 + a 2 3 * w 3 = 1 := by
    have h := hw 2 (by omega) (by decide)
    simp only [sr] at h
    grind
  have g0 : a 0 0 * u 0 + a 2 0 * u 2 = 1 := by
    have h := hu 0 (by omega) (by decide)
    simp only [sr] at h
    grind
  have g1 : a 0 3 * u 0 + a 2 3 * u 2 = 1 := by
    have h := hu 3 (by omega) (by decide)
    simp only [sr] at h
    grind
  obtain ⟨r0, r1, t0, t1⟩ := cram2 h0 h1 g0 g1
  unfold crP
  rw [ep, eD]
  refine ⟨fun hD => ?_, fun j hj => ?_, fun i hi => ?_⟩
  · obtain ⟨z0, z1, n, e0, e1⟩ := ker2 hD
    have y := hz (fun j => if j = 0 then z0 else if j = 3 then z1 else 0) (fun j hj nj => ?_) (fun i hi bi => ?_)
    · apply n
      refine ⟨?_, ?_⟩
      · have y1 := y 0 (by omega)
        simpa using y1
      · have y1 := y 3 (by omega)
        simpa using y1
    · have hj' : j = 0 ∨ j = 1 ∨ j = 2 ∨ j = 3 := by omega
      rcases hj' with f | f | f | f <;> subst f <;> first | exact absurd (by decide) nj | rfl
    · have hi' : i = 0 ∨ i = 1 ∨ i = 2 ∨ i = 3 := by omega
      rcases hi' with f | f | f | f <;> subst f <;> first | exact absurd bi (by decide) | (simp [sr] <;> grind)
  · have hj' : j = 0 ∨ j = 1 ∨ j = 2 ∨ j = 3 := by omega
    rcases hj' with f | f | f | f <;> subst f
    · have n1 : cfR a 5 9 1 0 = 0 := if_neg (by decide)
      have n3 : cfR a 5 9 3 0 = 0 := if_neg (by decide)
      simp only [sr, c00, c10, n1, n3, Rat.zero_add, Rat.add_zero]
      exact r0
    · have n0 : cfR a 5 9 0 1 = 0 := if_neg (by decide)
      have n1 : cfR a 5 9 1 1 = 0 := if_neg (by decide)
      have n2 : cfR a 5 9 2 1 = 0 := if_neg (by decide)
      have n3 : cfR a 5 9 3 1 = 0 := if_neg (by decide)
      simp only [sr, wz1, n0, n1, n2, n3, Rat.zero_add, Rat.add_zero, Rat.mul_zero]
    · have n0 : cfR a 5 9 0 2 = 0 := if_neg (by decide)
      have n1 : cfR a 5 9 1 2 = 0 := if_neg (by decide)
      have n2 : cfR a 5 9 2 2 = 0 := if_neg (by decide)
      have n3 : cfR a 5 9 3 2 = 0 := if_neg (by decide)
      simp only [sr, wz2, n0, n1, n2, n3, Rat.zero_add, Rat.add_zero, Rat.mul_zero]
    · have n1 : cfR a 5 9 1 3 = 0 := if_neg (by decide)
      have n3 : cfR a 5 9 3 3 = 0 := if_neg (by decide)
      simp only [sr, c01, c11, n1, n3, Rat.zero_add, Rat.add_zero]
      exact r1
  · have hi' : i = 0 ∨ i = 1 ∨ i = 2 ∨ i = 3 := by omega
    rcases hi' with f | f | f | f <;> subst f
    · have n1 : cfR a 5 9 0 1 = 0 := if_neg (by decide)
      have n2 : cfR a 5 9 0 2 = 0 := if_neg (by decide)
      simp only [sr, c00, c01, n1, n2, Rat.zero_add, Rat.add_zero]
      exact t0
    · have n0 : cfR a 5 9 1 0 = 0 := if_neg (by decide)
      have n1 : cfR a 5 9 1 1 = 0 := if_neg (by decide)
      have n2 : cfR a 5 9 1 2 = 0 := if_neg (by decide)
      have n3 : cfR a 5 9 1 3 = 0 := if_neg (by decide)
      simp only [sr, uz1, n0, n1, n2, n3, Rat.zero_add, Rat.add_zero, Rat.mul_zero]
    · have n1 : cfR a 5 9 2 1 = 0 := if_neg (by decide)
      have n2 : cfR a 5 9 2 2 = 0 := if_neg (by decide)
      simp only [sr, c10, c11, n1, n2, Rat.zero_add, Rat.add_zero]
      exact t1
    · have n0 : cfR a 5 9 3 0 = 0 := if_neg (by decide)
      have n1 : cfR a 5 9 3 1 = 0 := if_neg (by decide)
      have n2 : cfR a 5 9 3 2 = 0 := if_neg (by decide)
      have n3 : cfR a 5 9 3 3 = 0 := if_neg (by decide)
      simp only [sr, uz3, n0, n1, n2, n3, Rat.zero_add, Rat.add_zero, Rat.mul_zero]
theorem ev_5_10 (a : Nat → Nat → Rat) : dR a 2 5 10 = a 0 1 * a 2 3 - a 0 3 * a 2 1 ∧ cfR a 5 10 0 1 = (a 2 3) ∧ cfR a 5 10 0 3 = (-(a 2 1)) ∧ cfR a 5 10 2 1 = (-(a 0 3)) ∧ cfR a 5 10 2 3 = (a 0 1) := by
  simp [cfR, dR, exR, lowB, pop] <;> grind
theorem cr_5_10 {a : Nat → Nat → Rat} {w u : Nat → Rat} (ha : ∀ i j, i < 4 → j < 4 → 1 ≤ a i j) (hw : ∀ i, i < 4 → bN 5 i → sr (fun j => a i j * w j) 4 = 1) (w0 : ∀ j, j < 4 → ¬ bN 10 j → w j = 0) (hu : ∀ j, j < 4 → bN 10 j → sr (fun i => a i j * u i) 4 = 1) (u0 : ∀ i, i < 4 → ¬ bN 5 i → u i = 0) (hz : ∀ z : Nat → Rat, (∀ j, j < 4 → ¬ bN 10 j → z j = 0) → (∀ i, i < 4 → bN 5 i → sr (fun j => a i j * z j) 4 = 0) → ∀ j, j < 4 → z j = 0) : crP a 5 10 w u := by
  have ep : pop 5 = 2 := by decide
  obtain ⟨eD, c00, c01, c10, c11⟩ := ev_5_10 a
  have wz0 := w0 0 (by omega) (by decide)
  have wz2 := w0 2 (by omega) (by decide)
  have uz1 := u0 1 (by omega) (by decide)
  have uz3 := u0 3 (by omega) (by decide)
  have h0 : a 0 1 * w 1 + a 0 3 * w 3 = 1 := by
    have h := hw 0 (by omega) (by decide)
    simp only [sr] at h
    grind
  have h1 : a 2 1 * w 1 + a 2 3 * w 3 = 1 := by
    have h := hw 2 (by omega) (by decide)
    simp only [sr] at h
    grind
  have g0 : a 0 1 * u 0 + a 2 1 * u 2 = 1 := by
    have h := hu 1 (by omega) (by decide)
    simp only [sr] at h
    grind
  have g1 : a 0 3 * u 0 + a 2 3 * u 2 = 1 := by
    have h := hu 3 (by omega) (by decide)
    simp only [sr] at h
    grind
  obtain ⟨r0, r1, t0, t1⟩ := cram2 h0 h1 g0 g1
  unfold crP
  rw [ep, eD]
  refine ⟨fun hD => ?_, fun j hj => ?_, fun i hi => ?_⟩
  · obtain ⟨z0, z1, n, e0, e1⟩ := ker2 hD
    have y := hz (fun j => if j = 1 then z0 else if j = 3 then z1 else 0) (fun j hj nj => ?_) (fun i hi bi => ?_)
    · apply n
      refine ⟨?_, ?_⟩
      · have y1 := y 1 (by omega)
        simpa using y1
      · have y1 := y 3 (by omega)
        simpa using y1
    · have hj' : j = 0 ∨ j = 1 ∨ j = 2 ∨ j = 3 := by omega
      rcases hj' with f | f | f | f <;> subst f <;> first | exact absurd (by decide) nj | rfl
    · have hi' : i = 0 ∨ i = 1 ∨ i = 2 ∨ i = 3 := by omega
      rcases hi' with f | f | f | f <;> subst f <;> first | exact absurd bi (by decide) | (simp [sr] <;> grind)
  · have hj' : j = 0 ∨ j = 1 ∨ j = 2 ∨ j = 3 := by omega
    rcases hj' with f | f | f | f <;> subst f
    · have n0 : cfR a 5 10 0 0 = 0 := if_neg (by decide)
      have n1 : cfR a 5 10 1 0 = 0 := if_neg (by decide)
      have n2 : cfR a 5 10 2 0 = 0 := if_neg (by decide)
      have n3 : cfR a 5 10 3 0 = 0 := if_neg (by decide)
      simp only [sr, wz0, n0, n1, n2, n3, Rat.zero_add, Rat.add_zero, Rat.mul_zero]
    · have n1 : cfR a 5 10 1 1 = 0 := if_neg (by decide)
      have n3 : cfR a 5 10 3 1 = 0 := if_neg (by decide)
      simp only [sr, c00, c10, n1, n3, Rat.zero_add, Rat.add_zero]
      exact r0
    · have n0 : cfR a 5 10 0 2 = 0 := if_neg (by decide)
      have n1 : cfR a 5 10 1 2 = 0 := if_neg (by decide)
      have n2 : cfR a 5 10 2 2 = 0 := if_neg (by decide)
      have n3 : cfR a 5 10 3 2 = 0 := if_neg (by decide)
      simp only [sr, wz2, n0, n1, n2, n3, Rat.zero_add, Rat.add_zero, Rat.mul_zero]
    · have n1 : cfR a 5 10 1 3 = 0 := if_neg (by decide)
      have n3 : cfR a 5 10 3 3 = 0 := if_neg (by decide)
      simp only [sr, c01, c11, n1, n3, Rat.zero_add, Rat.add_zero]
      exact r1
  · have hi' : i = 0 ∨ i = 1 ∨ i = 2 ∨ i = 3 := by omega
    rcases hi' with f | f | f | f <;> subst f
    · have n0 : cfR a 5 10 0 0 = 0 := if_neg (by decide)
      have n2 : cfR a 5 10 0 2 = 0 := if_neg (by decide)
      simp only [sr, c00, c01, n0, n2, Rat.zero_add, Rat.add_zero]
      exact t0
    · have n0 : cfR a 5 10 1 0 = 0 := if_neg (by decide)
      have n1 : cfR a 5 10 1 1 = 0 := if_neg (by decide)
      have n2 : cfR a 5 10 1 2 = 0 := if_neg (by decide)
      have n3 : cfR a 5 10 1 3 = 0 := if_neg (by decide)
      simp only [sr, uz1, n0, n1, n2, n3, Rat.zero_add, Rat.add_zero, Rat.mul_zero]
    · have n0 : cfR a 5 10 2 0 = 0 := if_neg (by decide)
      have n2 : cfR a 5 10 2 2 = 0 := if_neg (by decide)
      simp only [sr, c10, c11, n0, n2, Rat.zero_add, Rat.add_zero]
      exact t1
    · have n0 : cfR a 5 10 3 0 = 0 := if_neg (by decide)
      have n1 : cfR a 5 10 3 1 = 0 := if_neg (by decide)
      have n2 : cfR a 5 10 3 2 = 0 := if_neg (by decide)
      have n3 : cfR a 5 10 3 3 = 0 := if_neg (by decide)
      simp only [sr, uz3, n0, n1, n2, n3, Rat.zero_add, Rat.add_zero, Rat.mul_zero]
theorem ev_5_12 (a : Nat → Nat → Rat) : dR a 2 5 12 = a 0 2 * a 2 3 - a 0 3 * a 2 2 ∧ cfR a 5 12 0 2 = (a 2 3) ∧ cfR a 5 12 0 3 = (-(a 2 2)) ∧ cfR a 5 12 2 2 = (-(a 0 3)) ∧ cfR a 5 12 2 3 = (a 0 2) := by
  simp [cfR, dR, exR, lowB, pop] <;> grind
theorem cr_5_12 {a : Nat → Nat → Rat} {w u : Nat → Rat} (ha : ∀ i j, i < 4 → j < 4 → 1 ≤ a i j) (hw : ∀ i, i < 4 → bN 5 i → sr (fun j => a i j * w j) 4 = 1) (w0 : ∀ j, j < 4 → ¬ bN 12 j → w j = 0) (hu : ∀ j, j < 4 → bN 12 j → sr (fun i => a i j * u i) 4 = 1) (u0 : ∀ i, i < 4 → ¬ bN 5 i → u i = 0) (hz : ∀ z : Nat → Rat, (∀ j, j < 4 → ¬ bN 12 j → z j = 0) → (∀ i, i < 4 → bN 5 i → sr (fun j => a i j * z j) 4 = 0) → ∀ j, j < 4 → z j = 0) : crP a 5 12 w u := by
  have ep : pop 5 = 2 := by decide
  obtain ⟨eD, c00, c01, c10, c11⟩ := ev_5_12 a
  have wz0 := w0 0 (by omega) (by decide)
  have wz1 := w0 1 (by omega) (by decide)
  have uz1 := u0 1 (by omega) (by decide)
  have uz3 := u0 3 (by omega) (by decide)
  have h0 : a 0 2 * w 2 + a 0 3 * w 3 = 1 := by
    have h := hw 0 (by omega) (by decide)
    simp only [sr] at h
    grind
  have h1 : a 2 2 * w 2 + a 2 3 * w 3 = 1 := by
    have h := hw 2 (by omega) (by decide)
    simp only [sr] at h
    grind
  have g0 : a 0 2 * u 0 + a 2 2 * u 2 = 1 := by
    have h := hu 2 (by omega) (by decide)
    simp only [sr] at h
    grind
  have g1 : a 0 3 * u 0 + a 2 3 * u 2 = 1 := by
    have h := hu 3 (by omega) (by decide)
    simp only [sr] at h
    grind
  obtain ⟨r0, r1, t0, t1⟩ := cram2 h0 h1 g0 g1
  unfold crP
  rw [ep, eD]
  refine ⟨fun hD => ?_, fun j hj => ?_, fun i hi => ?_⟩
  · obtain ⟨z0, z1, n, e0, e1⟩ := ker2 hD
    have y := hz (fun j => if j = 2 then z0 else if j = 3 then z1 else 0) (fun j hj nj => ?_) (fun i hi bi => ?_)
    · apply n
      refine ⟨?_, ?_⟩
      · have y1 := y 2 (by omega)
        simpa using y1
      · have y1 := y 3 (by omega)
        simpa using y1
    · have hj' : j = 0 ∨ j = 1 ∨ j = 2 ∨ j = 3 := by omega
      rcases hj' with f | f | f | f <;> subst f <;> first | exact absurd (by decide) nj | rfl
    · have hi' : i = 0 ∨ i = 1 ∨ i = 2 ∨ i = 3 := by omega
      rcases hi' with f | f | f | f <;> subst f <;> first | exact absurd bi (by decide) | (simp [sr] <;> grind)
  · have hj' : j = 0 ∨ j = 1 ∨ j = 2 ∨ j = 3 := by omega
    rcases hj' with f | f | f | f <;> subst f
    · have n0 : cfR a 5 12 0 0 = 0 := if_neg (by decide)
      have n1 : cfR a 5 12 1 0 = 0 := if_neg (by decide)
      have n2 : cfR a 5 12 2 0 = 0 := if_neg (by decide)
      have n3 : cfR a 5 12 3 0 = 0 := if_neg (by decide)
      simp only [sr, wz0, n0, n1, n2, n3, Rat.zero_add, Rat.add_zero, Rat.mul_zero]
    · have n0 : cfR a 5 12 0 1 = 0 := if_neg (by decide)
      have n1 : cfR a 5 12 1 1 = 0 := if_neg (by decide)
      have n2 : cfR a 5 12 2 1 = 0 := if_neg (by decide)
      have n3 : cfR a 5 12 3 1 = 0 := if_neg (by decide)
      simp only [sr, wz1, n0, n1, n2, n3, Rat.zero_add, Rat.add_zero, Rat.mul_zero]
    · have n1 : cfR a 5 12 1 2 = 0 := if_neg (by decide)
      have n3 : cfR a 5 12 3 2 = 0 := if_neg (by decide)
      simp only [sr, c00, c10, n1, n3, Rat.zero_add, Rat.add_zero]
      exact r0
    · have n1 : cfR a 5 12 1 3 = 0 := if_neg (by decide)
      have n3 : cfR a 5 12 3 3 = 0 := if_neg (by decide)
      simp only [sr, c01, c11, n1, n3, Rat.zero_add, Rat.add_zero]
      exact r1
  · have hi' : i = 0 ∨ i = 1 ∨ i = 2 ∨ i = 3 := by omega
    rcases hi' with f | f | f | f <;> subst f
    · have n0 : cfR a 5 12 0 0 = 0 := if_neg (by decide)
      have n1 : cfR a 5 12 0 1 = 0 := if_neg (by decide)
      simp only [sr, c00, c01, n0, n1, Rat.zero_add, Rat.add_zero]
      exact t0
    · have n0 : cfR a 5 12 1 0 = 0 := if_neg (by decide)
      have n1 : cfR a 5 12 1 1 = 0 := if_neg (by decide)
      have n2 : cfR a 5 12 1 2 = 0 := if_neg (by decide)
      have n3 : cfR a 5 12 1 3 = 0 := if_neg (by decide)
      simp only [sr, uz1, n0, n1, n2, n3, Rat.zero_add, Rat.add_zero, Rat.mul_zero]
    · have n0 : cfR a 5 12 2 0 = 0 := if_neg (by decide)
      have n1 : cfR a 5 12 2 1 = 0 := if_neg (by decide)
      simp only [sr, c10, c11, n0, n1, Rat.zero_add, Rat.add_zero]
      exact t1
    · have n0 : cfR a 5 12 3 0 = 0 := if_neg (by decide)
      have n1 : cfR a 5 12 3 1 = 0 := if_neg (by decide)
      have n2 : cfR a 5 12 3 2 = 0 := if_neg (by decide)
      have n3 : cfR a 5 12 3 3 = 0 := if_neg (by decide)
      simp only [sr, uz3, n0, n1, n2, n3, Rat.zero_add, Rat.add_zero, Rat.mul_zero]
theorem ev_6_3 (a : Nat → Nat → Rat) : dR a 2 6 3 = a 1 0 * a 2 1 - a 1 1 * a 2 0 ∧ cfR a 6 3 1 0 = (a 2 1) ∧ cfR a 6 3 1 1 = (-(a 2 0)) ∧ cfR a 6 3 2 0 = (-(a 1 1)) ∧ cfR a 6 3 2 1 = (a 1 0) := by
  simp [cfR, dR, exR, lowB, pop] <;> grind
theorem cr_6_3 {a : Nat → Nat → Rat} {w u : Nat → Rat} (ha : ∀ i j, i < 4 → j < 4 → 1 ≤ a i j) (hw : ∀ i, i < 4 → bN 6 i → sr (fun j => a i j * w j) 4 = 1) (w0 : ∀ j, j < 4 → ¬ bN 3 j → w j = 0) (hu : ∀ j, j < 4 → bN 3 j → sr (fun i => a i j * u i) 4 = 1) (u0 : ∀ i, i < 4 → ¬ bN 6 i → u i = 0) (hz : ∀ z : Nat → Rat, (∀ j, j < 4 → ¬ bN 3 j → z j = 0) → (∀ i, i < 4 → bN 6 i → sr (fun j => a i j * z j) 4 = 0) → ∀ j, j < 4 → z j = 0) : crP a 6 3 w u := by
  have ep : pop 6 = 2 := by decide
  obtain ⟨eD, c00, c01, c10, c11⟩ := ev_6_3 a
  have wz2 := w0 2 (by omega) (by decide)
  have wz3 := w0 3 (by omega) (by decide)
  have uz0 := u0 0 (by omega) (by decide)
  have uz3 := u0 3 (by omega) (by decide)
  have h0 : a 1 0 * w 0 + a 1 1 * w 1 = 1 := by
    have h := hw 1 (by omega) (by decide)
    simp only [sr] at h
    grind
  have h1 : a 2 0 * w 0 + a 2 1 * w 1 = 1 := by
    have h := hw 2 (by omega) (by decide)
    simp only [sr] at h
    grind
  have g0 : a 1 0 * u 1 + a 2 0 * u 2 = 1 := by
    have h := hu 0 (by omega) (by decide)
    simp only [sr] at h
    grind
  have g1 : a 1 1 * u 1 + a 2 1 * u 2 = 1 := by
    have h := hu 1 (by omega) (by decide)
    simp only [sr] at h
    grind
  obtain ⟨r0, r1, t0, t1⟩ := cram2 h0 h1 g0 g1
  unfold crP
  rw [ep, eD]
  refine ⟨fun hD => ?_, fun j hj => ?_, fun i hi => ?_⟩
  · obtain ⟨z0, z1, n, e0, e1⟩ := ker2 hD
    have y := hz (fun j => if j = 0 then z0 else if j = 1 then z1 else 0) (fun j hj nj => ?_) (fun i hi bi => ?_)
    · apply n
      refine ⟨?_, ?_⟩
      · have y1 := y 0 (by omega)
        simpa using y1
      · have y1 := y 1 (by omega)
        simpa using y1
    · have hj' : j = 0 ∨ j = 1 ∨ j = 2 ∨ j = 3 := by omega
      rcases hj' with f | f | f | f <;> subst f <;> first | exact absurd (by decide) nj | rfl
    · have hi' : i = 0 ∨ i = 1 ∨ i = 2 ∨ i = 3 := by omega
      rcases hi' with f | f | f | f <;> subst f <;> first | exact absurd bi (by decide) | (simp [sr] <;> grind)
  · have hj' : j = 0 ∨ j = 1 ∨ j = 2 ∨ j = 3 := by omega
    rcases hj' with f | f | f | f <;> subst f
    · have n0 : cfR a 6 3 0 0 = 0 := if_neg (by decide)
      have n3 : cfR a 6 3 3 0 = 0 := if_neg (by decide)
      simp only [sr, c00, c10, n0, n3, Rat.zero_add, Rat.add_zero]
      exact r0
    · have n0 : cfR a 6 3 0 1 = 0 := if_neg (by decide)
      have n3 : cfR a 6 3 3 1 = 0 := if_neg (by decide)
      simp only [sr, c01, c11, n0, n3, Rat.zero_add, Rat.add_zero]
      exact r1
    · have n0 : cfR a 6 3 0 2 = 0 := if_neg (by decide)
      have n1 : cfR a 6 3 1 2 = 0 := if_neg (by decide)
      have n2 : cfR a 6 3 2 2 = 0 := if_neg (by decide)
      have n3 : cfR a 6 3 3 2 = 0 := if_neg (by decide)
      simp only [sr, wz2, n0, n1, n2, n3, Rat.zero_add, Rat.add_zero, Rat.mul_zero]
    · have n0 : cfR a 6 3 0 3 = 0 := if_neg (by decide)
      have n1 : cfR a 6 3 1 3 = 0 := if_neg (by decide)
      have n2 : cfR a 6 3 2 3 = 0 := if_neg (by decide)
      have n3 : cfR a 6 3 3 3 = 0 := if_neg (by decide)
      simp only [sr, wz3, n0, n1, n2, n3, Rat.zero_add, Rat.add_zero, Rat.mul_zero]
  · have hi' : i = 0 ∨ i = 1 ∨ i = 2 ∨ i = 3 := by omega
    rcases hi' with f | f | f | f <;> subst f
    · have n0 : cfR a 6 3 0 0 = 0 := if_neg (by decide)
      have n1 : cfR a 6 3 0 1 = 0 := if_neg (by decide)
      have n2 : cfR a 6 3 0 2 = 0 := if_neg (by decide)
      have n3 : cfR a 6 3 0 3 = 0 := if_neg (by decide)
      simp only [sr, uz0, n0, n1, n2, n3, Rat.zero_add, Rat.add_zero, Rat.mul_zero]
    · have n2 : cfR a 6 3 1 2 = 0 := if_neg (by decide)
      have n3 : cfR a 6 3 1 3 = 0 := if_neg (by decide)
      simp only [sr, c00, c01, n2, n3, Rat.zero_add, Rat.add_zero]
      exact t0
    · have n2 : cfR a 6 3 2 2 = 0 := if_neg (by decide)
      have n3 : cfR a 6 3 2 3 = 0 := if_neg (by decide)
      simp only [sr, c10, c11, n2, n3, Rat.zero_add, Rat.add_zero]
      exact t1
    · have n0 : cfR a 6 3 3 0 = 0 := if_neg (by decide)
      have n1 : cfR a 6 3 3 1 = 0 := if_neg (by decide)
      have n2 : cfR a 6 3 3 2 = 0 := if_neg (by decide)
      have n3 : cfR a 6 3 3 3 = 0 := if_neg (by decide)
      simp only [sr, uz3, n0, n1, n2, n3, Rat.zero_add, Rat.add_zero, Rat.mul_zero]
theorem ev_6_5 (a : Nat → Nat → Rat) : dR a 2 6 5 = a 1 0 * a 2 2 - a 1 2 * a 2 0 ∧ cfR a 6 5 1 0 = (a 2 2) ∧ cfR a 6 5 1 2 = (-(a 2 0)) ∧ cfR a 6 5 2 0 = (-(a 1 2)) ∧ cfR a 6 5 2 2 = (a 1 0) := by
  simp [cfR, dR, exR, lowB, pop] <;> grind
theorem cr_6_5 {a : Nat → Nat → Rat} {w u : Nat → Rat} (ha : ∀ i j, i < 4 → j < 4 → 1 ≤ a i j) (hw : ∀ i, i < 4 → bN 6 i → sr (fun j => a i j * w j) 4 = 1) (w0 : ∀ j, j < 4 → ¬ bN 5 j → w j = 0) (hu : ∀ j, j < 4 → bN 5 j → sr (fun i => a i j * u i) 4 = 1) (u0 : ∀ i, i < 4 → ¬ bN 6 i → u i = 0) (hz : ∀ z : Nat → Rat, (∀ j, j < 4 → ¬ bN 5 j → z j = 0) → (∀ i, i < 4 → bN 6 i → sr (fun j => a i j * z j) 4 = 0) → ∀ j, j < 4 → z j = 0) : crP a 6 5 w u := by
  have ep : pop 6 = 2 := by decide
  obtain ⟨eD, c00, c01, c10, c11⟩ := ev_6_5 a
  have wz1 := w0 1 (by omega) (by decide)
  have wz3 := w0 3 (by omega) (by decide)
  have uz0 := u0 0 (by omega) (by decide)
  have uz3 := u0 3 (by omega) (by decide)
  have h0 : a 1 0 * w 0 + a 1 2 * w 2 = 1 := by
    have h := hw 1 (by omega) (by decide)
    simp only [sr] at h
    grind
  have h1 : a 2 0 * w 0 + a 2 2 * w 2 = 1 := by
    have h := hw 2 (by omega) (by decide)
    simp only [sr] at h
    grind
  have g0 : a 1 0 * u 1 + a 2 0 * u 2 = 1 := by
    have h := hu 0 (by omega) (by decide)
    simp only [sr] at h
    grind
  have g1 : a 1 2 * u 1 + a 2 2 * u 2 = 1 := by
    have h := hu 2 (by omega) (by decide)
    simp only [sr] at h
    grind
  obtain ⟨r0, r1, t0, t1⟩ := cram2 h0 h1 g0 g1
  unfold crP
  rw [ep, eD]
  refine ⟨fun hD => ?_, fun j hj => ?_, fun i hi => ?_⟩
  · obtain ⟨z0, z1, n, e0, e1⟩ := ker2 hD
    have y := hz (fun j => if j = 0 then z0 else if j = 2 then z1 else 0) (fun j hj nj => ?_) (fun i hi bi => ?_)
    · apply n
      refine ⟨?_, ?_⟩
      · have y1 := y 0 (by omega)
        simpa using y1
      · have y1 := y 2 (by omega)
        simpa using y1
    · have hj' : j = 0 ∨ j = 1 ∨ j = 2 ∨ j = 3 := by omega
      rcases hj' with f | f | f | f <;> subst f <;> first | exact absurd (by decide) nj | rfl
    · have hi' : i = 0 ∨ i = 1 ∨ i = 2 ∨ i = 3 := by omega
      rcases hi' with f | f | f | f <;> subst f <;> first | exact absurd bi (by decide) | (simp [sr] <;> grind)
  · have hj' : j = 0 ∨ j = 1 ∨ j = 2 ∨ j = 3 := by omega
    rcases hj' with f | f | f | f <;> subst f
    · have n0 : cfR a 6 5 0 0 = 0 := if_neg (by decide)
      have n3 : cfR a 6 5 3 0 = 0 := if_neg (by decide)
      simp only [sr, c00, c10, n0, n3, Rat.zero_add, Rat.add_zero]
      exact r0
    · have n0 : cfR a 6 5 0 1 = 0 := if_neg (by decide)
      have n1 : cfR a 6 5 1 1 = 0 := if_neg (by decide)
      have n2 : cfR a 6 5 2 1 = 0 := if_neg (by decide)
      have n3 : cfR a 6 5 3 1 = 0 := if_neg (by decide)
      simp only [sr, wz1, n0, n1, n2, n3, Rat.zero_add, Rat.add_zero, Rat.mul_zero]
    · have n0 : cfR a 6 5 0 2 = 0 := if_neg (by decide)
      have n3 : cfR a 6 5 3 2 = 0 := if_neg (by decide)
      simp only [sr, c01, c11, n0, n3, Rat.zero_add, Rat.add_zero]
      exact r1
    · have n0 : cfR a 6 5 0 3 = 0 := if_neg (by decide)
      have n1 : cfR a 6 5 1 3 = 0 := if_neg (by decide)
      have n2 : cfR a 6 5 2 3 = 0 := if_neg (by decide)
      have n3 : cfR a 6 5 3 3 = 0 := if_neg (by decide)
      simp only [sr, wz3, n0, n1, n2, n3, Rat.zero_add, Rat.add_zero, Rat.mul_zero]
  · have hi' : i = 0 ∨ i = 1 ∨ i = 2 ∨ i = 3 := by omega
    rcases hi' with f | f | f | f <;> subst f
    · have n0 : cfR a 6 5 0 0 = 0 := if_neg (by decide)
      have n1 : cfR a 6 5 0 1 = 0 := if_neg (by decide)
      have n2 : cfR a 6 5 0 2 = 0 := if_neg (by decide)
      have n3 : cfR a 6 5 0 3 = 0 := if_neg (by decide)
      simp only [sr, uz0, n0, n1, n2, n3, Rat.zero_add, Rat.add_zero, Rat.mul_zero]
    · have n1 : cfR a 6 5 1 1 = 0 := if_neg (by decide)
      have n3 : cfR a 6 5 1 3 = 0 := if_neg (by decide)
      simp only [sr, c00, c01, n1, n3, Rat.zero_add, Rat.add_zero]
      exact t0
    · have n1 : cfR a 6 5 2 1 = 0 := if_neg (by decide)
      have n3 : cfR a 6 5 2 3 = 0 := if_neg (by decide)
      simp only [sr, c10, c11, n1, n3, Rat.zero_add, Rat.add_zero]
      exact t1
    · have n0 : cfR a 6 5 3 0 = 0 := if_neg (by decide)
      have n1 : cfR a 6 5 3 1 = 0 := if_neg (by decide)
      have n2 : cfR a 6 5 3 2 = 0 := if_neg (by decide)
      have n3 : cfR a 6 5 3 3 = 0 := if_neg (by decide)
      simp only [sr, uz3, n0, n1, n2, n3, Rat.zero_add, Rat.add_zero, Rat.mul_zero]
theorem ev_6_6 (a : Nat → Nat → Rat) : dR a 2 6 6 = a 1 1 * a 2 2 - a 1 2 * a 2 1 ∧ cfR a 6 6 1 1 = (a 2 2) ∧ cfR a 6 6 1 2 = (-(a 2 1)) ∧ cfR a 6 6 2 1 = (-(a 1 2)) ∧ cfR a 6 6 2 2 = (a 1 1) := by
  simp [cfR, dR, exR, lowB, pop] <;> grind
theorem cr_6_6 {a : Nat → Nat → Rat} {w u : Nat → Rat} (ha : ∀ i j, i < 4 → j < 4 → 1 ≤ a i j) (hw : ∀ i, i < 4 → bN 6 i → sr (fun j => a i j * w j) 4 = 1) (w0 : ∀ j, j < 4 → ¬ bN 6 j → w j = 0) (hu : ∀ j, j < 4 → bN 6 j → sr (fun i => a i j * u i) 4 = 1) (u0 : ∀ i, i < 4 → ¬ bN 6 i → u i = 0) (hz : ∀ z : Nat → Rat, (∀ j, j < 4 → ¬ bN 6 j → z j = 0) → (∀ i, i < 4 → bN 6 i → sr (fun j => a i j * z j) 4 = 0) → ∀ j, j < 4 → z j = 0) : crP a 6 6 w u := by
  have ep : pop 6 = 2 := by decide
  obtain ⟨eD, c00, c01, c10, c11⟩ := ev_6_6 a
  have wz0 := w0 0 (by omega) (by decide)
  have wz3 := w0 3 (by omega) (by decide)
  have uz0 := u0 0 (by omega) (by decide)
  have uz3 := u0 3 (by omega) (by decide)
  have h0 : a 1 1 * w 1 + a 1 2 * w 2 = 1 := by
    have h := hw 1 (by omega) (by decide)
    simp only [sr] at h
    grind
  have h1 : a 2 1 * w 1 + a 2 2 * w 2 = 1 := by
    have h := hw 2 (by omega) (by decide)
    simp only [sr] at h
    grind
  have g0 : a 1 1 * u 1 + a 2 1 * u 2 = 1 := by
    have h := hu 1 (by omega) (by decide)
    simp only [sr] at h
    grind
  have g1 : a 1 2 * u 1 + a 2 2 * u 2 = 1 := by
    have h := hu 2 (by omega) (by decide)
    simp only [sr] at h
    grind
  obtain ⟨r0, r1, t0, t1⟩ := cram2 h0 h1 g0 g1
  unfold crP
  rw [ep, eD]
  refine ⟨fun hD => ?_, fun j hj => ?_, fun i hi => ?_⟩
  · obtain ⟨z0, z1, n, e0, e1⟩ := ker2 hD
    have y := hz (fun j => if j = 1 then z0 else if j = 2 then z1 else 0) (fun j hj nj => ?_) (fun i hi bi => ?_)
    · apply n
      refine ⟨?_, ?_⟩
      · have y1 := y 1 (by omega)
        simpa using y1
      · have y1 := y 2 (by omega)
        simpa using y1
    · have hj' : j = 0 ∨ j = 1 ∨ j = 2 ∨ j = 3 := by omega
      rcases hj' with f | f | f | f <;> subst f <;> first | exact absurd (by decide) nj | rfl
    · have hi' : i = 0 ∨ i = 1 ∨ i = 2 ∨ i = 3 := by omega
      rcases hi' with f | f | f | f <;> subst f <;> first | exact absurd bi (by decide) | (simp [sr] <;> grind)
  · have hj' : j = 0 ∨ j = 1 ∨ j = 2 ∨ j = 3 := by omega
    rcases hj' with f | f | f | f <;> subst f
    · have n0 : cfR a 6 6 0 0 = 0 := if_neg (by decide)
      have n1 : cfR a 6 6 1 0 = 0 := if_neg (by decide)
      have n2 : cfR a 6 6 2 0 = 0 := if_neg (by decide)
      have n3 : cfR a 6 6 3 0 = 0 := if_neg (by decide)
      simp only [sr, wz0, n0, n1, n2, n3, Rat.zero_add, Rat.add_zero, Rat.mul_zero]
    · have n0 : cfR a 6 6 0 1 = 0 := if_neg (by decide)
      have n3 : cfR a 6 6 3 1 = 0 := if_neg (by decide)
      simp only [sr, c00, c10, n0, n3, Rat.zero_add, Rat.add_zero]
      exact r0
    · have n0 : cfR a 6 6 0 2 = 0 := if_neg (by decide)
      have n3 : cfR a 6 6 3 2 = 0 := if_neg (by decide)
      simp only [sr, c01, c11, n0, n3, Rat.zero_add, Rat.add_zero]
      exact r1
    · have n0 : cfR a 6 6 0 3 = 0 := if_neg (by decide)
      have n1 : cfR a 6 6 1 3 = 0 := if_neg (by decide)
      have n2 : cfR a 6 6 2 3 = 0 := if_neg (by decide)
      have n3 : cfR a 6 6 3 3 = 0 := if_neg (by decide)
      simp only [sr, wz3, n0, n1, n2, n3, Rat.zero_add, Rat.add_zero, Rat.mul_zero]
  · have hi' : i = 0 ∨ i = 1 ∨ i = 2 ∨ i = 3 := by omega
    rcases hi' with f | f | f | f <;> subst f
    · have n0 : cfR a 6 6 0 0 = 0 := if_neg (by decide)
      have n1 : cfR a 6 6 0 1 = 0 := if_neg (by decide)
      have n2 : cfR a 6 6 0 2 = 0 := if_neg (by decide)
      have n3 : cfR a 6 6 0 3 = 0 := if_neg (by decide)
      simp only [sr, uz0, n0, n1, n2, n3, Rat.zero_add, Rat.add_zero, Rat.mul_zero]
    · have n0 : cfR a 6 6 1 0 = 0 := if_neg (by decide)
      have n3 : cfR a 6 6 1 3 = 0 := if_neg (by decide)
      simp only [sr, c00, c01, n0, n3, Rat.zero_add, Rat.add_zero]
      exact t0
    · have n0 : cfR a 6 6 2 0 = 0 := if_neg (by decide)
      have n3 : cfR a 6 6 2 3 = 0 := if_neg (by decide)
      simp only [sr, c10, c11, n0, n3, Rat.zero_add, Rat.add_zero]
      exact t1
    · have n0 : cfR a 6 6 3 0 = 0 := if_neg (by decide)
      have n1 : cfR a 6 6 3 1 = 0 := if_neg (by decide)
      have n2 : cfR a 6 6 3 2 = 0 := if_neg (by decide)
      have n3 : cfR a 6 6 3 3 = 0 := if_neg (by decide)
      simp only [sr, uz3, n0, n1, n2, n3, Rat.zero_add, Rat.add_zero, Rat.mul_zero]
theorem ev_6_9 (a : Nat → Nat → Rat) : dR a 2 6 9 = a 1 0 * a 2 3 - a 1 3 * a 2 0 ∧ cfR a 6 9 1 0 = (a 2 3) ∧ cfR a 6 9 1 3 = (-(a 2 0)) ∧ cfR a 6 9 2 0 = (-(a 1 3)) ∧ cfR a 6 9 2 3 = (a 1 0) := by
  simp [cfR, dR, exR, lowB, pop] <;> grind
theorem cr_6_9 {a : Nat → Nat → Rat} {w u : Nat → Rat} (ha : ∀ i j, i < 4 → j < 4 → 1 ≤ a i j) (hw : ∀ i, i < 4 → bN 6 i → sr (fun j => a i j * w j) 4 = 1) (w0 : ∀ j, j < 4 → ¬ bN 9 j → w j = 0) (hu : ∀ j, j < 4 → bN 9 j → sr (fun i => a i j * u i) 4 = 1) (u0 : ∀ i, i < 4 → ¬ bN 6 i → u i = 0) (hz : ∀ z : Nat → Rat, (∀ j, j < 4 → ¬ bN 9 j → z j = 0) → (∀ i, i < 4 → bN 6 i → sr (fun j => a i j * z j) 4 = 0) → ∀ j, j < 4 → z j = 0) : crP a 6 9 w u := by
  have ep : pop 6 = 2 := by decide
  obtain ⟨eD, c00, c01, c10, c11⟩ := ev_6_9 a
  have wz1 := w0 1 (by omega) (by decide)
  have wz2 := w0 2 (by omega) (by decide)
  have uz0 := u0 0 (by omega) (by decide)
  have uz3 := u0 3 (by omega) (by decide)
  have h0 : a 1 0 * w 0 + a 1 3 * w 3 = 1 := by
    have h := hw 1 (by omega) (by decide)
    simp only [sr] at h
    grind
  have h1 : a 2 0 * w 0 + a 2 3 * w 3 = 1 := by
    have h := hw 2 (by omega) (by decide)
    simp only [sr] at h
    grind
  have g0 : a 1 0 * u 1 + a 2 0 * u 2 = 1 := by
    have h := hu 0 (by omega) (by decide)
    simp only [sr] at h
    grind
  have g1 : a 1 3 * u 1 + a 2 3 * u 2 = 1 := by
    have h := hu 3 (by omega) (by decide)
    simp only [sr] at h
    grind
  obtain ⟨r0, r1, t0, t1⟩ := cram2 h0 h1 g0 g1
  unfold crP
  rw [ep, eD]
  refine ⟨fun hD => ?_, fun j hj => ?_, fun i hi => ?_⟩
  · obtain ⟨z0, z1, n, e0, e1⟩ := ker2 hD
    have y := hz (fun j => if j = 0 then z0 else if j = 3 then z1 else 0) (fun j hj nj => ?_) (fun i hi bi => ?_)
    · apply n
      refine ⟨?_, ?_⟩
      · have y1 := y 0 (by omega)
        simpa using y1
      · have y1 := y 3 (by omega)
        simpa using y1
    · have hj' : j = 0 ∨ j = 1 ∨ j = 2 ∨ j = 3 := by omega
      rcases hj' with f | f | f | f <;> subst f <;> first | exact absurd (by decide) nj | rfl
    · have hi' : i = 0 ∨ i = 1 ∨ i = 2 ∨ i = 3 := by omega
      rcases hi' with f | f | f | f <;> subst f <;> first | exact absurd bi (by decide) | (simp [sr] <;> grind)
  · have hj' : j = 0 ∨ j = 1 ∨ j = 2 ∨ j = 3 := by omega
    rcases hj' with f | f | f | f <;> subst f
    · have n0 : cfR a 6 9 0 0 = 0 := if_neg (by decide)
      have n3 : cfR a 6 9 3 0 = 0 := if_neg (by decide)
      simp only [sr, c00, c10, n0, n3, Rat.zero_add, Rat.add_zero]
      exact r0
    · have n0 : cfR a 6 9 0 1 = 0 := if_neg (by decide)
      have n1 : cfR a 6 9 1 1 = 0 := if_neg (by decide)
      have n2 : cfR a 6 9 2 1 = 0 := if_neg (by decide)
      have n3 : cfR a 6 9 3 1 = 0 := if_neg (by decide)
      simp only [sr, wz1, n0, n1, n2, n3, Rat.zero_add, Rat.add_zero, Rat.mul_zero]
    · have n0 : cfR a 6 9 0 2 = 0 := if_neg (by decide)
      have n1 : cfR a 6 9 1 2 = 0 := if_neg (by decide)
      have n2 : cfR a 6 9 2 2 = 0 := if_neg (by decide)
      have n3 : cfR a 6 9 3 2 = 0 := if_neg (by decide)
      simp only [sr, wz2, n0, n1, n2, n3, Rat.zero_add, Rat.add_zero, Rat.mul_zero]
    · have n0 : cfR a 6 9 0 3 = 0 := if_neg (by decide)
      have n3 : cfR a 6 9 3 3 = 0 := if_neg (by decide)
      simp only [sr, c01, c11, n0, n3, Rat.zero_add, Rat.add_zero]
      exact r1
  · have hi' : i = 0 ∨ i = 1 ∨ i = 2 ∨ i = 3 := by omega
    rcases hi' with f | f | f | f <;> subst f
    · have n0 : cfR a 6 9 0 0 = 0 := if_neg (by decide)
      have n1 : cfR a 6 9 0 1 = 0 := if_neg (by decide)
      have n2 : cfR a 6 9 0 2 = 0 := if_neg (by decide)
      have n3 : cfR a 6 9 0 3 = 0 := if_neg (by decide)
      simp only [sr, uz0, n0, n1, n2, n3, Rat.zero_add, Rat.add_zero, Rat.mul_zero]
    · have n1 : cfR a 6 9 1 1 = 0 := if_neg (by decide)
      have n2 : cfR a 6 9 1 2 = 0 := if_neg (by decide)
      simp only [sr, c00, c01, n1, n2, Rat.zero_add, Rat.add_zero]
      exact t0
    · have n1 : cfR a 6 9 2 1 = 0 := if_neg (by decide)
      have n2 : cfR a 6 9 2 2 = 0 := if_neg (by decide)
      simp only [sr, c10, c11, n1, n2, Rat.zero_add, Rat.add_zero]
      exact t1
    · have n0 : cfR a 6 9 3 0 = 0 := if_neg (by decide)
      have n1 : cfR a 6 9 3 1 = 0 := if_neg (by decide)
      have n2 : cfR a 6 9 3 2 = 0 := if_neg (by decide)
      have n3 : cfR a 6 9 3 3 = 0 := if_neg (by decide)
      simp only [sr, uz3, n0, n1, n2, n3, Rat.zero_add, Rat.add_zero, Rat.mul_zero]
theorem ev_6_10 (a : Nat → Nat → Rat) : dR a 2 6 10 = a 1 1 * a 2 3 - a 1 3 * a 2 1 ∧ cfR a 6 10 1 1 = (a 2 3) ∧ cfR a 6 10 1 3 = (-(a 2 1)) ∧ cfR a 6 10 2 1 = (-(a 1 3)) ∧ cfR a 6 10 2 3 = (a 1 1) := by
  simp [cfR, dR, exR, lowB, pop] <;> grind
theorem cr_6_10 {a : Nat → Nat → Rat} {w u : Nat → Rat} (ha : ∀ i j, i < 4 → j < 4 → 1 ≤ a i j) (hw : ∀ i, i < 4 → bN 6 i → sr (fun j => a i j * w j) 4 = 1) (w0 : ∀ j, j < 4 → ¬ bN 10 j → w j = 0) (hu : ∀ j, j < 4 → bN 10 j → sr (fun i => a i j * u i) 4 = 1) (u0 : ∀ i, i < 4 → ¬ bN 6 i → u i = 0) (hz : ∀ z : Nat → Rat, (∀ j, j < 4 → ¬ bN 10 j → z j = 0) → (∀ i, i < 4 → bN 6 i → sr (fun j => a i j * z j) 4 = 0) → ∀ j, j < 4 → z j = 0) : crP a 6 10 w u := by
  have ep : pop 6 = 2 := by decide
  obtain ⟨eD, c00, c01, c10, c11⟩ := ev_6_10 a
  have wz0 := w0 0 (by omega) (by decide)
  have wz2 := w0 2 (by omega) (by decide)
  have uz0 := u0 0 (by omega) (by decide)
  have uz3 := u0 3 (by omega) (by decide)
  have h0 : a 1 1 * w 1 + a 1 3 * w 3 = 1 := by
    have h := hw 1 (by omega) (by decide)
    simp only [sr] at h
    grind
  have h1 : a 2 1 * w 1 + a 2 3 * w 3 = 1 := by
    have h := hw 2 (by omega) (by decide)
    simp only [sr] at h
    grind
  have g0 : a 1 1 * u 1 + a 2 1 * u 2 = 1 := by
    have h := hu 1 (by omega) (by decide)
    simp only [sr] at h
    grind
  have g1 : a 1 3 * u 1 + a 2 3 * u 2 = 1 := by
    have h := hu 3 (by omega) (by decide)
    simp only [sr] at h
    grind
  obtain ⟨r0, r1, t0, t1⟩ := cram2 h0 h1 g0 g1
  unfold crP
  rw [ep, eD]
  refine ⟨fun hD => ?_, fun j hj => ?_, fun i hi => ?_⟩
  · obtain ⟨z0, z1, n, e0, e1⟩ := ker2 hD
    have y := hz (fun j => if j = 1 then z0 else if j = 3 then z1 else 0) (fun j hj nj => ?_) (fun i hi bi => ?_)
    · apply n
      refine ⟨?_, ?_⟩
      · have y1 := y 1 (by omega)
        simpa using y1
      · have y1 := y 3 (by omega)
        simpa using y1
    · have hj' : j = 0 ∨ j = 1 ∨ j = 2 ∨ j = 3 := by omega
      rcases hj' with f | f | f | f <;> subst f <;> first | exact absurd (by decide) nj | rfl
    · have hi' : i = 0 ∨ i = 1 ∨ i = 2 ∨ i = 3 := by omega
      rcases hi' with f | f | f | f <;> subst f <;> first | exact absurd bi (by decide) | (simp [sr] <;> grind)
  · have hj' : j = 0 ∨ j = 1 ∨ j = 2 ∨ j = 3 := by omega
    rcases hj' with f | f | f | f <;> subst f
    · have n0 : cfR a 6 10 0 0 = 0 := if_neg (by decide)
      have n1 : cfR a 6 10 1 0 = 0 := if_neg (by decide)
      have n2 : cfR a 6 10 2 0 = 0 := if_neg (by decide)
      have n3 : cfR a 6 10 3 0 = 0 := if_neg (by decide)
      simp only [sr, wz0, n0, n1, n2, n3, Rat.zero_add, Rat.add_zero, Rat.mul_zero]
    · have n0 : cfR a 6 10 0 1 = 0 := if_neg (by decide)
      have n3 : cfR a 6 10 3 1 = 0 := if_neg (by decide)
      simp only [sr, c00, c10, n0, n3, Rat.zero_add, Rat.add_zero]
      exact r0
    · have n0 : cfR a 6 10 0 2 = 0 := if_neg (by decide)
      have n1 : cfR a 6 10 1 2 = 0 := if_neg (by decide)
      have n2 : cfR a 6 10 2 2 = 0 := if_neg (by decide)
      have n3 : cfR a 6 10 3 2 = 0 := if_neg (by decide)
      simp only [sr, wz2, n0, n1, n2, n3, Rat.zero_add, Rat.add_zero, Rat.mul_zero]
    · have n0 : cfR a 6 10 0 3 = 0 := if_neg (by decide)
      have n3 : cfR a 6 10 3 3 = 0 := if_neg (by decide)
      simp only [sr, c01, c11, n0, n3, Rat.zero_add, Rat.add_zero]
      exact r1
  · have hi' : i = 0 ∨ i = 1 ∨ i = 2 ∨ i = 3 := by omega
    rcases hi' with f | f | f | f <;> subst f
    · have n0 : cfR a 6 10 0 0 = 0 := if_neg (by decide)
      have n1 : cfR a 6 10 0 1 = 0 := if_neg (by decide)
      have n2 : cfR a 6 10 0 2 = 0 := if_neg (by decide)
      have n3 : cfR a 6 10 0 3 = 0 := if_neg (by decide)
      simp only [sr, uz0, n0, n1, n2, n3, Rat.zero_add, Rat.add_zero, Rat.mul_zero]
    · have n0 : cfR a 6 10 1 0 = 0 := if_neg (by decide)
      have n2 : cfR a 6 10 1 2 = 0 := if_neg (by decide)
      simp only [sr, c00, c01, n0, n2, Rat.zero_add, Rat.add_zero]
      exact t0
    · have n0 : cfR a 6 10 2 0 = 0 := if_neg (by decide)
      have n2 : cfR a 6 10 2 2 = 0 := if_neg (by decide)
      simp only [sr, c10, c11, n0, n2, Rat.zero_add, Rat.add_zero]
      exact t1
    · have n0 : cfR a 6 10 3 0 = 0 := if_neg (by decide)
      have n1 : cfR a 6 10 3 1 = 0 := if_neg (by decide)
      have n2 : cfR a 6 10 3 2 = 0 := if_neg (by decide)
      have n3 : cfR a 6 10 3 3 = 0 := if_neg (by decide)
      simp only [sr, uz3, n0, n1, n2, n3, Rat.zero_add, Rat.add_zero, Rat.mul_zero]
theorem ev_6_12 (a : Nat → Nat → Rat) : dR a 2 6 12 = a 1 2 * a 2 3 - a 1 3 * a 2 2 ∧ cfR a 6 12 1 2 = (a 2 3) ∧ cfR a 6 12 1 3 = (-(a 2 2)) ∧ cfR a 6 12 2 2 = (-(a 1 3)) ∧ cfR a 6 12 2 3 = (a 1 2) := by
  simp [cfR, dR, exR, lowB, pop] <;> grind
theorem cr_6_12 {a : Nat → Nat → Rat} {w u : Nat → Rat} (ha : ∀ i j, i < 4 → j < 4 → 1 ≤ a i j) (hw : ∀ i, i < 4 → bN 6 i → sr (fun j => a i j * w j) 4 = 1) (w0 : ∀ j, j < 4 → ¬ bN 12 j → w j = 0) (hu : ∀ j, j < 4 → bN 12 j → sr (fun i => a i j * u i) 4 = 1) (u0 : ∀ i, i < 4 → ¬ bN 6 i → u i = 0) (hz : ∀ z : Nat → Rat, (∀ j, j < 4 → ¬ bN 12 j → z j = 0) → (∀ i, i < 4 → bN 6 i → sr (fun j => a i j * z j) 4 = 0) → ∀ j, j < 4 → z j = 0) : crP a 6 12 w u := by
  have ep : pop 6 = 2 := by decide
  obtain ⟨eD, c00, c01, c10, c11⟩ := ev_6_12 a
  have wz0 := w0 0 (by omega) (by decide)
  have wz1 := w0 1 (by omega) (by decide)
  have uz0 := u0 0 (by omega) (by decide)
  have uz3 := u0 3 (by omega) (by decide)
  have h0 : a 1 2 * w 2 + a 1 3 * w 3 = 1 := by
    have h := hw 1 (by omega) (by decide)
    simp only [sr] at h
    grind
  have h1 : a 2 2 * w 2 + a 2 3 * w 3 = 1 := by
    have h := hw 2 (by omega) (by decide)
    simp only [sr] at h
    grind
  have g0 : a 1 2 * u 1 + a 2 2 * u 2 = 1 := by
    have h := hu 2 (by omega) (by decide)
    simp only [sr] at h
    grind
  have g1 : a 1 3 * u 1 + a 2 3 * u 2 = 1 := by
    have h := hu 3 (by omega) (by decide)
    simp only [sr] at h
    grind
  obtain ⟨r0, r1, t0, t1⟩ := cram2 h0 h1 g0 g1
  unfold crP
  rw [ep, eD]
  refine ⟨fun hD => ?_, fun j hj => ?_, fun i hi => ?_⟩
  · obtain ⟨z0, z1, n, e0, e1⟩ := ker2 hD
    have y := hz (fun j => if j = 2 then z0 else if j = 3 then z1 else 0) (fun j hj nj => ?_) (fun i hi bi => ?_)
    · apply n
      refine ⟨?_, ?_⟩
      · have y1 := y 2 (by omega)
        simpa using y1
      · have y1 := y 3 (by omega)
        simpa using y1
    · have hj' : j = 0 ∨ j = 1 ∨ j = 2 ∨ j = 3 := by omega
      rcases hj' with f | f | f | f <;> subst f <;> first | exact absurd (by decide) nj | rfl
    · have hi' : i = 0 ∨ i = 1 ∨ i = 2 ∨ i = 3 := by omega
      rcases hi' with f | f | f | f <;> subst f <;> first | exact absurd bi (by decide) | (simp [sr] <;> grind)
  · have hj' : j = 0 ∨ j = 1 ∨ j = 2 ∨ j = 3 := by omega
    rcases hj' with f | f | f | f <;> subst f
    · have n0 : cfR a 6 12 0 0 = 0 := if_neg (by decide)
      have n1 : cfR a 6 12 1 0 = 0 := if_neg (by decide)
      have n2 : cfR a 6 12 2 0 = 0 := if_neg (by decide)
      have n3 : cfR a 6 12 3 0 = 0 := if_neg (by decide)
      simp only [sr, wz0, n0, n1, n2, n3, Rat.zero_add, Rat.add_zero, Rat.mul_zero]
    · have n0 : cfR a 6 12 0 1 = 0 := if_neg (by decide)
      have n1 : cfR a 6 12 1 1 = 0 := if_neg (by decide)
      have n2 : cfR a 6 12 2 1 = 0 := if_neg (by decide)
      have n3 : cfR a 6 12 3 1 = 0 := if_neg (by decide)
      simp only [sr, wz1, n0, n1, n2, n3, Rat.zero_add, Rat.add_zero, Rat.mul_zero]
    · have n0 : cfR a 6 12 0 2 = 0 := if_neg (by decide)
      have n3 : cfR a 6 12 3 2 = 0 := if_neg (by decide)
      simp only [sr, c00, c10, n0, n3, Rat.zero_add, Rat.add_zero]
      exact r0
    · have n0 : cfR a 6 12 0 3 = 0 := if_neg (by decide)
      have n3 : cfR a 6 12 3 3 = 0 := if_neg (by decide)
      simp only [sr, c01, c11, n0, n3, Rat.zero_add, Rat.add_zero]
      exact r1
  · have hi' : i = 0 ∨ i = 1 ∨ i = 2 ∨ i = 3 := by omega
    rcases hi' with f | f | f | f <;> subst f
    · have n0 : cfR a 6 12 0 0 = 0 := if_neg (by decide)
      have n1 : cfR a 6 12 0 1 = 0 := if_neg (by decide)
      have n2 : cfR a 6 12 0 2 = 0 := if_neg (by decide)
      have n3 : cfR a 6 12 0 3 = 0 := if_neg (by decide)
      simp only [sr, uz0, n0, n1, n2, n3, Rat.zero_add, Rat.add_zero, Rat.mul_zero]
    · have n0 : cfR a 6 12 1 0 = 0 := if_neg (by decide)
      have n1 : cfR a 6 12 1 1 = 0 := if_neg (by decide)
      simp only [sr, c00, c01, n0, n1, Rat.zero_add, Rat.add_zero]
      exact t0
    · have n0 : cfR a 6 12 2 0 = 0 := if_neg (by decide)
      have n1 : cfR a 6 12 2 1 = 0 := if_neg (by decide)
      simp only [sr, c10, c11, n0, n1, Rat.zero_add, Rat.add_zero]
      exact t1
    · have n0 : cfR a 6 12 3 0 = 0 := if_neg (by decide)
      have n1 : cfR a 6 12 3 1 = 0 := if_neg (by decide)
      have n2 : cfR a 6 12 3 2 = 0 := if_neg (by decide)
      have n3 : cfR a 6 12 3 3 = 0 := if_neg (by decide)
      simp only [sr, uz3, n0, n1, n2, n3, Rat.zero_add, Rat.add_zero, Rat.mul_zero]
theorem ev_9_3 (a : Nat → Nat → Rat) : dR a 2 9 3 = a 0 0 * a 3 1 - a 0 1 * a 3 0 ∧ cfR a 9 3 0 0 = (a 3 1) ∧ cfR a 9 3 0 1 = (-(a 3 0)) ∧ cfR a 9 3 3 0 = (-(a 0 1)) ∧ cfR a 9 3 3 1 = (a 0 0) := by
  simp [cfR, dR, exR, lowB, pop] <;> grind
theorem cr_9_3 {a : Nat → Nat → Rat} {w u : Nat → Rat} (ha : ∀ i j, i < 4 → j < 4 → 1 ≤ a i j) (hw : ∀ i, i < 4 → bN 9 i → sr (fun j => a i j * w j) 4 = 1) (w0 : ∀ j, j < 4 → ¬ bN 3 j → w j = 0) (hu : ∀ j, j < 4 → bN 3 j → sr (fun i => a i j * u i) 4 = 1) (u0 : ∀ i, i < 4 → ¬ bN 9 i → u i = 0) (hz : ∀ z : Nat → Rat, (∀ j, j < 4 → ¬ bN 3 j → z j = 0) → (∀ i, i < 4 → bN 9 i → sr (fun j => a i j * z j) 4 = 0) → ∀ j, j < 4 → z j = 0) : crP a 9 3 w u := by
  have ep : pop 9 = 2 := by decide
  obtain ⟨eD, c00, c01, c10, c11⟩ := ev_9_3 a
  have wz2 := w0 2 (by omega) (by decide)
  have wz3 := w0 3 (by omega) (by decide)
  have uz1 := u0 1 (by omega) (by decide)
  have uz2 := u0 2 (by omega) (by decide)
  have h0 : a 0 0 * w 0 + a 0 1 * w 1 = 1 := by
    have h := hw 0 (by omega) (by decide)
    simp only [sr] at h
    grind
  have h1 : a 3 0 * w 0 + a 3 1 * w 1 = 1 := by
    have h := hw 3 (by omega) (by decide)
    simp only [sr] at h
    grind
  have g0 : a 0 0 * u 0 + a 3 0 * u 3 = 1 := by
    have h := hu 0 (by omega) (by decide)
    simp only [sr] at h
    grind
  have g1 : a 0 1 * u 0 + a 3 1 * u 3 = 1 := by
    have h := hu 1 (by omega) (by decide)
    simp only [sr] at h
    grind
  obtain ⟨r0, r1, t0, t1⟩ := cram2 h0 h1 g0 g1
  unfold crP
  rw [ep, eD]
  refine ⟨fun hD => ?_, fun j hj => ?_, fun i hi => ?_⟩
  · obtain ⟨z0, z1, n, e0, e1⟩ := ker2 hD
    have y := hz (fun j => if j = 0 then z0 else if j = 1 then z1 else 0) (fun j hj nj => ?_) (fun i hi bi => ?_)
    · apply n
      refine ⟨?_, ?_⟩
      · have y1 := y 0 (by omega)
        simpa using y1
      · have y1 := y 1 (by omega)
        simpa using y1
    · have hj' : j = 0 ∨ j = 1 ∨ j = 2 ∨ j = 3 := by omega
      rcases hj' with f | f | f | f <;> subst f <;> first | exact absurd (by decide) nj | rfl
    · have hi' : i = 0 ∨ i = 1 ∨ i = 2 ∨ i = 3 := by omega
      rcases hi' with f | f | f | f <;> subst f <;> first | exact absurd bi (by decide) | (simp [sr] <;> grind)
  · have hj' : j = 0 ∨ j = 1 ∨ j = 2 ∨ j = 3 := by omega
    rcases hj' with f | f | f | f <;> subst f
    · have n1 : cfR a 9 3 1 0 = 0 := if_neg (by decide)
      have n2 : cfR a 9 3 2 0 = 0 := if_neg (by decide)
      simp only [sr, c00, c10, n1, n2, Rat.zero_add, Rat.add_zero]
      exact r0
    · have n1 : cfR a 9 3 1 1 = 0 := if_neg (by decide)
      have n2 : cfR a 9 3 2 1 = 0 := if_neg (by decide)
      simp only [sr, c01, c11, n1, n2, Rat.zero_add, Rat.add_zero]
      exact r1
    · have n0 : cfR a 9 3 0 2 = 0 := if_neg (by decide)
      have n1 : cfR a 9 3 1 2 = 0 := if_neg (by decide)
      have n2 : cfR a 9 3 2 2 = 0 := if_neg (by decide)
      have n3 : cfR a 9 3 3 2 = 0 := if_neg (by decide)
      simp only [sr, wz2, n0, n1, n2, n3, Rat.zero_add, Rat.add_zero, Rat.mul_zero]
    · have n0 : cfR a 9 3 0 3 = 0 := if_neg (by decide)
      have n1 : cfR a 9 3 1 3 = 0 := if_neg (by decide)
      have n2 : cfR a 9 3 2 3 = 0 := if_neg (by decide)
      have n3 : cfR a 9 3 3 3 = 0 := if_neg (by decide)
      simp only [sr, wz3, n0, n1, n2, n3, Rat.zero_add, Rat.add_zero, Rat.mul_zero]
  · have hi' : i = 0 ∨ i = 1 ∨ i = 2 ∨ i = 3 := by omega
    rcases hi' with f | f | f | f <;> subst f
    · have n2 : cfR a 9 3 0 2 = 0 := if_neg (by decide)
      have n3 : cfR a 9 3 0 3 = 0 := if_neg (by decide)
      simp only [sr, c00, c01, n2, n3, Rat.zero_add, Rat.add_zero]
      exact t0
    · have n0 : cfR a 9 3 1 0 = 0 := if_neg (by decide)
      have n1 : cfR a 9 3 1 1 = 0 := if_neg (by decide)
      have n2 : cfR a 9 3 1 2 = 0 := if_neg (by decide)
      have n3 : cfR a 9 3 1 3 = 0 := if_neg (by decide)
      simp only [sr, uz1, n0, n1, n2, n3, Rat.zero_add, Rat.add_zero, Rat.mul_zero]
    · have n0 : cfR a 9 3 2 0 = 0 := if_neg (by decide)
      have n1 : cfR a 9 3 2 1 = 0 := if_neg (by decide)
      have n2 : cfR a 9 3 2 2 = 0 := if_neg (by decide)
      have n3 : cfR a 9 3 2 3 = 0 := if_neg (by decide)
      simp only [sr, uz2, n0, n1, n2, n3, Rat.zero_add, Rat.add_zero, Rat.mul_zero]
    · have n2 : cfR a 9 3 3 2 = 0 := if_neg (by decide)
      have n3 : cfR a 9 3 3 3 = 0 := if_neg (by decide)
      simp only [sr, c10, c11, n2, n3, Rat.zero_add, Rat.add_zero]
      exact t1
theorem ev_9_5 (a : Nat → Nat → Rat) : dR a 2 9 5 = a 0 0 * a 3 2 - a 0 2 * a 3 0 ∧ cfR a 9 5 0 0 = (a 3 2) ∧ cfR a 9 5 0 2 = (-(a 3 0)) ∧ cfR a 9 5 3 0 = (-(a 0 2)) ∧ cfR a 9 5 3 2 = (a 0 0) := by
  simp [cfR, dR, exR, lowB, pop] <;> grind
theorem cr_9_5 {a : Nat → Nat → Rat} {w u : Nat → Rat} (ha : ∀ i j, i < 4 → j < 4 → 1 ≤ a i j) (hw : ∀ i, i < 4 → bN 9 i → sr (fun j => a i j * w j) 4 = 1) (w0 : ∀ j, j < 4 → ¬ bN 5 j → w j = 0) (hu : ∀ j, j < 4 → bN 5 j → sr (fun i => a i j * u i) 4 = 1) (u0 : ∀ i, i < 4 → ¬ bN 9 i → u i = 0) (hz : ∀ z : Nat → Rat, (∀ j, j < 4 → ¬ bN 5 j → z j = 0) → (∀ i, i < 4 → bN 9 i → sr (fun j => a i j * z j) 4 = 0) → ∀ j, j < 4 → z j = 0) : crP a 9 5 w u := by
  have ep : pop 9 = 2 := by decide
  obtain ⟨eD, c00, c01, c10, c11⟩ := ev_9_5 a
  have wz1 := w0 1 (by omega) (by decide)
  have wz3 := w0 3 (by omega) (by decide)
  have uz1 := u0 1 (by omega) (by decide)
  have uz2 := u0 2 (by omega) (by decide)
  have h0 : a 0 0 * w 0 + a 0 2 * w 2 = 1 := by
    have h := hw 0 (by omega) (by decide)
    simp only [sr] at h
    grind
  have h1 : a 3 0 * w 0 + a 3 2 * w 2 = 1 := by
    have h := hw 3 (by omega) (by decide)
    simp only [sr] at h
    grind
  have g0 : a 0 0 * u 0 + a 3 0 * u 3 = 1 := by
    have h := hu 0 (by omega) (by decide)
    simp only [sr] at h
    grind
  have g1 : a 0 2 * u 0 + a 3 2 * u 3 = 1 := by
    have h := hu 2 (by omega) (by decide)
    simp only [sr] at h
    grind
  obtain ⟨r0, r1, t0, t1⟩ := cram2 h0 h1 g0 g1
  unfold crP
  rw [ep, eD]
  refine ⟨fun hD => ?_, fun j hj => ?_, fun i hi => ?_⟩
  · obtain ⟨z0, z1, n, e0, e1⟩ := ker2 hD
    have y := hz (fun j => if j = 0 then z0 else if j = 2 then z1 else 0) (fun j hj nj => ?_) (fun i hi bi => ?_)
    · apply n
      refine ⟨?_, ?_⟩
      · have y1 := y 0 (by omega)
        simpa using y1
      · have y1 := y 2 (by omega)
        simpa using y1
    · have hj' : j = 0 ∨ j = 1 ∨ j = 2 ∨ j = 3 := by omega
      rcases hj' with f | f | f | f <;> subst f <;> first | exact absurd (by decide) nj | rfl
    · have hi' : i = 0 ∨ i = 1 ∨ i = 2 ∨ i = 3 := by omega
      rcases hi' with f | f | f | f <;> subst f <;> first | exact absurd bi (by decide) | (simp [sr] <;> grind)
  · have hj' : j = 0 ∨ j = 1 ∨ j = 2 ∨ j = 3 := by omega
    rcases hj' with f | f | f | f <;> subst f
    · have n1 : cfR a 9 5 1 0 = 0 := if_neg (by decide)
      have n2 : cfR a 9 5 2 0 = 0 := if_neg (by decide)
      simp only [sr, c00, c10, n1, n2, Rat.zero_add, Rat.add_zero]
      exact r0
    · have n0 : cfR a 9 5 0 1 = 0 := if_neg (by decide)
      have n1 : cfR a 9 5 1 1 = 0 := if_neg (by decide)
      have n2 : cfR a 9 5 2 1 = 0 := if_neg (by decide)
      have n3 : cfR a 9 5 3 1 = 0 := if_neg (by decide)
      simp only [sr, wz1, n0, n1, n2, n3, Rat.zero_add, Rat.add_zero, Rat.mul_zero]
    · have n1 : cfR a 9 5 1 2 = 0 := if_neg (by decide)
      have n2 : cfR a 9 5 2 2 = 0 := if_neg (by decide)
      simp only [sr, c01, c11, n1, n2, Rat.zero_add, Rat.add_zero]
      exact r1
    · have n0 : cfR a 9 5 0 3 = 0 := if_neg (by decide)
      have n1 : cfR a 9 5 1 3 = 0 := if_neg (by decide)
      have n2 : cfR a 9 5 2 3 = 0 := if_neg (by decide)
      have n3 : cfR a 9 5 3 3 = 0 := if_neg (by decide)
      simp only [sr, wz3, n0, n1, n2, n3, Rat.zero_add, Rat.add_zero, Rat.mul_zero]
  · have hi' : i = 0 ∨ i = 1 ∨ i = 2 ∨ i = 3 := by omega
    rcases hi' with f | f | f | f <;> subst f
    · have n1 : cfR a 9 5 0 1 = 0 := if_neg (by decide)
      have n3 : cfR a 9 5 0 3 = 0 := if_neg (by decide)
      simp only [sr, c00, c01, n1, n3, Rat.zero_add, Rat.add_zero]
      exact t0
    · have n0 : cfR a 9 5 1 0 = 0 := if_neg (by decide)
      have n1 : cfR a 9 5 1 1 = 0 := if_neg (by decide)
      have n2 : cfR a 9 5 1 2 = 0 := if_neg (by decide)
      have n3 : cfR a 9 5 1 3 = 0 := if_neg (by decide)
      simp only [sr, uz1, n0, n1, n2, n3, Rat.zero_add, Rat.add_zero, Rat.mul_zero]
    · have n0 : cfR a 9 5 2 0 = 0 := if_neg (by decide)
      have n1 : cfR a 9 5 2 1 = 0 := if_neg (by decide)
      have n2 : cfR a 9 5 2 2 = 0 := if_neg (by decide)
      have n3 : cfR a 9 5 2 3 = 0 := if_neg (by decide)
      simp only [sr, uz2, n0, n1, n2, n3, Rat.zero_add, Rat.add_zero, Rat.mul_zero]
    · have n1 : cfR a 9 5 3 1 = 0 := if_neg (by decide)
      have n3 : cfR a 9 5 3 3 = 0 := if_neg (by decide)
      simp only [sr, c10, c11, n1, n3, Rat.zero_add, Rat.add_zero]
      exact t1
theorem ev_9_6 (a : Nat → Nat → Rat) : dR a 2 9 6 = a 0 1 * a 3 2 - a 0 2 * a 3 1 ∧ cfR a 9 6 0 1 = (a 3 2) ∧ cfR a 9 6 0 2 = (-(a 3 1)) ∧ cfR a 9 6 3 1 = (-(a 0 2)) ∧ cfR a 9 6 3 2 = (a 0 1) := by
  simp [cfR, dR, exR, lowB, pop] <;> grind
theorem cr_9_6 {a : Nat → Nat → Rat} {w u : Nat → Rat} (ha : ∀ i j, i < 4 → j < 4 → 1 ≤ a i j) (hw : ∀ i, i < 4 → bN 9 i → sr (fun j => a i j * w j) 4 = 1) (w0 : ∀ j, j < 4 → ¬ bN 6 j → w j = 0) (hu : ∀ j, j < 4 → bN 6 j → sr (fun i => a i j * u i) 4 = 1) (u0 : ∀ i, i < 4 → ¬ bN 9 i → u i = 0) (hz : ∀ z : Nat → Rat, (∀ j, j < 4 → ¬ bN 6 j → z j = 0) → (∀ i, i < 4 → bN 9 i → sr (fun j => a i j * z j) 4 = 0) → ∀ j, j < 4 → z j = 0) : crP a 9 6 w u := by
  have ep : pop 9 = 2 := by decide
  obtain ⟨eD, c00, c01, c10, c11⟩ := ev_9_6 a
  have wz0 := w0 0 (by omega) (by decide)
  have wz3 := w0 3 (by omega) (by decide)
  have uz1 := u0 1 (by omega) (by decide)
  have uz2 := u0 2 (by omega) (by decide)
  have h0 : a 0 1 * w 1 + a 0 2 * w 2 = 1 := by
    have h := hw 0 (by omega) (by decide)
    simp only [sr] at h
    grind
  have h1 : a 3 1 * w 1 + a 3 2 * w 2 = 1 := by
    have h := hw 3 (by omega) (by decide)
    simp only [sr] at h
    grind
  have g0 : a 0 1 * u 0 + a 3 1 * u 3 = 1 := by
    have h := hu 1 (by omega) (by decide)
    simp only [sr] at h
    grind
  have g1 : a 0 2 * u 0 + a 3 2 * u 3 = 1 := by
    have h := hu 2 (by omega) (by decide)
    simp only [sr] at h
    grind
  obtain ⟨r0, r1, t0, t1⟩ := cram2 h0 h1 g0 g1
  unfold crP
  rw [ep, eD]
  refine ⟨fun hD => ?_, fun j hj => ?_, fun i hi => ?_⟩
  · obtain ⟨z0, z1, n, e0, e1⟩ := ker2 hD
    have y := hz (fun j => if j = 1 then z0 else if j = 2 then z1 else 0) (fun j hj nj => ?_) (fun i hi bi => ?_)
    · apply n
      refine ⟨?_, ?_⟩
      · have y1 := y 1 (by omega)
        simpa using y1
      · have y1 := y 2 (by omega)
        simpa using y1
    · have hj' : j = 0 ∨ j = 1 ∨ j = 2 ∨ j = 3 := by omega
      rcases hj' with f | f | f | f <;> subst f <;> first | exact absurd (by decide) nj | rfl
    · have hi' : i = 0 ∨ i = 1 ∨ i = 2 ∨ i = 3 := by omega
      rcases hi' with f | f | f | f <;> subst f <;> first | exact absurd bi (by decide) | (simp [sr] <;> grind)
  · have hj' : j = 0 ∨ j = 1 ∨ j = 2 ∨ j = 3 := by omega
    rcases hj' with f | f | f | f <;> subst f
    · have n0 : cfR a 9 6 0 0 = 0 := if_neg (by decide)
      have n1 : cfR a 9 6 1 0 = 0 := if_neg (by decide)
      have n2 : cfR a 9 6 2 0 = 0 := if_neg (by decide)
      have n3 : cfR a 9 6 3 0 = 0 := if_neg (by decide)
      simp only [sr, wz0, n0, n1, n2, n3, Rat.zero_add, Rat.add_zero, Rat.mul_zero]
    · have n1 : cfR a 9 6 1 1 = 0 := if_neg (by decide)
      have n2 : cfR a 9 6 2 1 = 0 := if_neg (by decide)
      simp only [sr, c00, c10, n1, n2, Rat.zero_add, Rat.add_zero]
      exact r0
    · have n1 : cfR a 9 6 1 2 = 0 := if_neg (by decide)
      have n2 : cfR a 9 6 2 2 = 0 := if_neg (by decide)
      simp only [sr, c01, c11, n1, n2, Rat.zero_add, Rat.add_zero]
      exact r1
    · have n0 : cfR a 9 6 0 3 = 0 := if_neg (by decide)
      have n1 : cfR a 9 6 1 3 = 0 := if_neg (by decide)
      have n2 : cfR a 9 6 2 3 = 0 := if_neg (by decide)
      have n3 : cfR a 9 6 3 3 = 0 := if_neg (by decide)
      simp only [sr, wz3, n0, n1, n2, n3, Rat.zero_add, Rat.add_zero, Rat.mul_zero]
  · have hi' : i = 0 ∨ i = 1 ∨ i = 2 ∨ i = 3 := by omega
    rcases hi' with f | f | f | f <;> subst f
    · have n0 : cfR a 9 6 0 0 = 0 := if_neg (by decide)
      have n3 : cfR a 9 6 0 3 = 0 := if_neg (by decide)
      simp only [sr, c00, c01, n0, n3, Rat.zero_add, Rat.add_zero]
      exact t0
    · have n0 : cfR a 9 6 1 0 = 0 := if_neg (by decide)
      have n1 : cfR a 9 6 1 1 = 0 := if_neg (by decide)
      have n2 : cfR a 9 6 1 2 = 0 := if_neg (by decide)
      have n3 : cfR a 9 6 1 3 = 0 := if_neg (by decide)
      simp only [sr, uz1, n0, n1, n2, n3, Rat.zero_add, Rat.add_zero, Rat.mul_zero]
    · have n0 : cfR a 9 6 2 0 = 0 := if_neg (by decide)
      have n1 : cfR a 9 6 2 1 = 0 := if_neg (by decide)
      have n2 : cfR a 9 6 2 2 = 0 := if_neg (by decide)
      have n3 : cfR a 9 6 2 3 = 0 := if_neg (by decide)
      simp only [sr, uz2, n0, n1, n2, n3, Rat.zero_add, Rat.add_zero, Rat.mul_zero]
    · have n0 : cfR a 9 6 3 0 = 0 := if_neg (by decide)
      have n3 : cfR a 9 6 3 3 = 0 := if_neg (by decide)
      simp only [sr, c10, c11, n0, n3, Rat.zero_add, Rat.add_zero]
      exact t1
theorem ev_9_9 (a : Nat → Nat → Rat) : dR a 2 9 9 = a 0 0 * a 3 3 - a 0 3 * a 3 0 ∧ cfR a 9 9 0 0 = (a 3 3) ∧ cfR a 9 9 0 3 = (-(a 3 0)) ∧ cfR a 9 9 3 0 = (-(a 0 3)) ∧ cfR a 9 9 3 3 = (a 0 0) := by
  simp [cfR, dR, exR, lowB, pop] <;> grind
theorem cr_9_9 {a : Nat → Nat → Rat} {w u : Nat → Rat} (ha : ∀ i j, i < 4 → j < 4 → 1 ≤ a i j) (hw : ∀ i, i < 4 → bN 9 i → sr (fun j => a i j * w j) 4 = 1) (w0 : ∀ j, j < 4 → ¬ bN 9 j → w j = 0) (hu : ∀ j, j < 4 → bN 9 j → sr (fun i => a i j * u i) 4 = 1) (u0 : ∀ i, i < 4 → ¬ bN 9 i → u i = 0) (hz : ∀ z : Nat → Rat, (∀ j, j < 4 → ¬ bN 9 j → z j = 0) → (∀ i, i < 4 → bN 9 i → sr (fun j => a i j * z j) 4 = 0) → ∀ j, j < 4 → z j = 0) : crP a 9 9 w u := by
  have ep : pop 9 = 2 := by decide
  obtain ⟨eD, c00, c01, c10, c11⟩ := ev_9_9 a
  have wz1 := w0 1 (by omega) (by decide)
  have wz2 := w0 2 (by omega) (by decide)
  have uz1 := u0 1 (by omega) (by decide)
  have uz2 := u0 2 (by omega) (by decide)
  have h0 : a 0 0 * w 0 + a 0 3 * w 3 = 1 := by
    have h := hw 0 (by omega) (by decide)
    simp only [sr] at h
    grind
  have h1 : a 3 0 * w 0 + a 3 3 * w 3 = 1 := by
    have h := hw 3 (by omega) (by decide)
    simp only [sr] at h
    grind
  have g0 : a 0 0 * u 0 + a 3 0 * u 3 = 1 := by
    have h := hu 0 (by omega) (by decide)
    simp only [sr] at h
    grind
  have g1 : a 0 3 * u 0 + a 3 3 * u 3 = 1 := by
    have h := hu 3 (by omega) (by decide)
    simp only [sr] at h
    grind
  obtain ⟨r0, r1, t0, t1⟩ := cram2 h0 h1 g0 g1
  unfold crP
  rw [ep, eD]
  refine ⟨fun hD => ?_, fun j hj => ?_, fun i hi => ?_⟩
  · obtain ⟨z0, z1, n, e0, e1⟩ := ker2 hD
    have y := hz (fun j => if j = 0 then z0 else if j = 3 then z1 else 0) (fun j hj nj => ?_) (fun i hi bi => ?_)
    · apply n
      refine ⟨?_, ?_⟩
      · have y1 := y 0 (by omega)
        simpa using y1
      · have y1 := y 3 (by omega)
        simpa using y1
    · have hj' : j = 0 ∨ j = 1 ∨ j = 2 ∨ j = 3 := by omega
      rcases hj' with f | f | f | f <;> subst f <;> first | exact absurd (by decide) nj | rfl
    · have hi' : i = 0 ∨ i = 1 ∨ i = 2 ∨ i = 3 := by omega
      rcases hi' with f | f | f | f <;> subst f <;> first | exact absurd bi (by decide) | (simp [sr] <;> grind)
  · have hj' : j = 0 ∨ j = 1 ∨ j = 2 ∨ j = 3 := by omega
    rcases hj' with f | f | f | f <;> subst f
    · have n1 : cfR a 9 9 1 0 = 0 := if_neg (by decide)
      have n2 : cfR a 9 9 2 0 = 0 := if_neg (by decide)
      simp only [sr, c00, c10, n1, n2, Rat.zero_add, Rat.add_zero]
      exact r0
    · have n0 : cfR a 9 9 0 1 = 0 := if_neg (by decide)
      have n1 : cfR a 9 9 1 1 = 0 := if_neg (by decide)
      have n2 : cfR a 9 9 2 1 = 0 := if_neg (by decide)
      have n3 : cfR a 9 9 3 1 = 0 := if_neg (by decide)
      simp only [sr, wz1, n0, n1, n2, n3, Rat.zero_add, Rat.add_zero, Rat.mul_zero]
    · have n0 : cfR a 9 9 0 2 = 0 := if_neg (by decide)
      have n1 : cfR a 9 9 1 2 = 0 := if_neg (by decide)
      have n2 : cfR a 9 9 2 2 = 0 := if_neg (by decide)
      have n3 : cfR a 9 9 3 2 = 0 := if_neg (by decide)
      simp only [sr, wz2, n0, n1, n2, n3, Rat.zero_add, Rat.add_zero, Rat.mul_zero]
    · have n1 : cfR a 9 9 1 3 = 0 := if_neg (by decide)
      have n2 : cfR a 9 9 2 3 = 0 := if_neg (by decide)
      simp only [sr, c01, c11, n1, n2, Rat.zero_add, Rat.add_zero]
      exact r1
  · have hi' : i = 0 ∨ i = 1 ∨ i = 2 ∨ i = 3 := by omega
    rcases hi' with f | f | f | f <;> subst f
    · have n1 : cfR a 9 9 0 1 = 0 := if_neg (by decide)
      have n2 : cfR a 9 9 0 2 = 0 := if_neg (by decide)
      simp only [sr, c00, c01, n1, n2, Rat.zero_add, Rat.add_zero]
      exact t0
    · have n0 : cfR a 9 9 1 0 = 0 := if_neg (by decide)
      have n1 : cfR a 9 9 1 1 = 0 := if_neg (by decide)
      have n2 : cfR a 9 9 1 2 = 0 := if_neg (by decide)
      have n3 : cfR a 9 9 1 3 = 0 := if_neg (by decide)
      simp only [sr, uz1, n0, n1, n2, n3, Rat.zero_add, Rat.add_zero, Rat.mul_zero]
    · have n0 : cfR a 9 9 2 0 = 0 := if_neg (by decide)
      have n1 : cfR a 9 9 2 1 = 0 := if_neg (by decide)
      have n2 : cfR a 9 9 2 2 = 0 := if_neg (by decide)
      have n3 : cfR a 9 9 2 3 = 0 := if_neg (by decide)
      simp only [sr, uz2, n0, n1, n2, n3, Rat.zero_add, Rat.add_zero, Rat.mul_zero]
    · have n1 : cfR a 9 9 3 1 = 0 := if_neg (by decide)
      have n2 : cfR a 9 9 3 2 = 0 := if_neg (by decide)
      simp only [sr, c10, c11, n1, n2, Rat.zero_add, Rat.add_zero]
      exact t1
theorem ev_9_10 (a : Nat → Nat → Rat) : dR a 2 9 10 = a 0 1 * a 3 3 - a 0 3 * a 3 1 ∧ cfR a 9 10 0 1 = (a 3 3) ∧ cfR a 9 10 0 3 = (-(a 3 1)) ∧ cfR a 9 10 3 1 = (-(a 0 3)) ∧ cfR a 9 10 3 3 = (a 0 1) := by
  simp [cfR, dR, exR, lowB, pop] <;> grind
theorem cr_9_10 {a : Nat → Nat → Rat} {w u : Nat → Rat} (ha : ∀ i j, i < 4 → j < 4 → 1 ≤ a i j) (hw : ∀ i, i < 4 → bN 9 i → sr (fun j => a i j * w j) 4 = 1) (w0 : ∀ j, j < 4 → ¬ bN 10 j → w j = 0) (hu : ∀ j, j < 4 → bN 10 j → sr (fun i => a i j * u i) 4 = 1) (u0 : ∀ i, i < 4 → ¬ bN 9 i → u i = 0) (hz : ∀ z : Nat → Rat, (∀ j, j < 4 → ¬ bN 10 j → z j = 0) → (∀ i, i < 4 → bN 9 i → sr (fun j => a i j * z j) 4 = 0) → ∀ j, j < 4 → z j = 0) : crP a 9 10 w u := by
  have ep : pop 9 = 2 := by decide
  obtain ⟨eD, c00, c01, c10, c11⟩ := ev_9_10 a
  have wz0 := w0 0 (by omega) (by decide)
  have wz2 := w0 2 (by omega) (by decide)
  have uz1 := u0 1 (by omega) (by decide)
  have uz2 := u0 2 (by omega) (by decide)
  have h0 : a 0 1 * w 1 + a 0 3 * w 3 = 1 := by
    have h := hw 0 (by omega) (by decide)
    simp only [sr] at h
    grind
  have h1 : a 3 1 * w 1 + a 3 3 * w 3 = 1 := by
    have h := hw 3 (by omega) (by decide)
    simp only [sr] at h
    grind
  have g0 : a 0 1 * u 0 + a 3 1 * u 3 = 1 := by
    have h := hu 1 (by omega) (by decide)
    simp only [sr] at h
    grind
  have g1 : a 0 3 * u 0 + a 3 3 * u 3 = 1 := by
    have h := hu 3 (by omega) (by decide)
    simp only [sr] at h
    grind
  obtain ⟨r0, r1, t0, t1⟩ := cram2 h0 h1 g0 g1
  unfold crP
  rw [ep, eD]
  refine ⟨fun hD => ?_, fun j hj => ?_, fun i hi => ?_⟩
  · obtain ⟨z0, z1, n, e0, e1⟩ := ker2 hD
    have y := hz (fun j => if j = 1 then z0 else if j = 3 then z1 else 0) (fun j hj nj => ?_) (fun i hi bi => ?_)
    · apply n
      refine ⟨?_, ?_⟩
      · have y1 := y 1 (by omega)
        simpa using y1
      · have y1 := y 3 (by omega)
        simpa using y1
    · have hj' : j = 0 ∨ j = 1 ∨ j = 2 ∨ j = 3 := by omega
      rcases hj' with f | f | f | f <;> subst f <;> first | exact absurd (by decide) nj | rfl
    · have hi' : i = 0 ∨ i = 1 ∨ i = 2 ∨ i = 3 := by omega
      rcases hi' with f | f | f | f <;> subst f <;> first | exact absurd bi (by decide) | (simp [sr] <;> grind)
  · have hj' : j = 0 ∨ j = 1 ∨ j = 2 ∨ j = 3 := by omega
    rcases hj' with f | f | f | f <;> subst f
    · have n0 : cfR a 9 10 0 0 = 0 := if_neg (by decide)
      have n1 : cfR a 9 10 1 0 = 0 := if_neg (by decide)
      have n2 : cfR a 9 10 2 0 = 0 := if_neg (by decide)
      have n3 : cfR a 9 10 3 0 = 0 := if_neg (by decide)
      simp only [sr, wz0, n0, n1, n2, n3, Rat.zero_add, Rat.add_zero, Rat.mul_zero]
    · have n1 : cfR a 9 10 1 1 = 0 := if_neg (by decide)
      have n2 : cfR a 9 10 2 1 = 0 := if_neg (by decide)
      simp only [sr, c00, c10, n1, n2, Rat.zero_add, Rat.add_zero]
      exact r0
    · have n0 : cfR a 9 10 0 2 = 0 := if_neg (by decide)
      have n1 : cfR a 9 10 1 2 = 0 := if_neg (by decide)
      have n2 : cfR a 9 10 2 2 = 0 := if_neg (by decide)
      have n3 : cfR a 9 10 3 2 = 0 := if_neg (by decide)
      simp only [sr, wz2, n0, n1, n2, n3, Rat.zero_add, Rat.add_zero, Rat.mul_zero]
    · have n1 : cfR a 9 10 1 3 = 0 := if_neg (by decide)
      have n2 : cfR a 9 10 2 3 = 0 := if_neg (by decide)
      simp only [sr, c01, c11, n1, n2, Rat.zero_add, Rat.add_zero]
      exact r1
  · have hi' : i = 0 ∨ i = 1 ∨ i = 2 ∨ i = 3 := by omega
    rcases hi' with f | f | f | f <;> subst f
    · have n0 : cfR a 9 10 0 0 = 0 := if_neg (by decide)
      have n2 : cfR a 9 10 0 2 = 0 := if_neg (by decide)
      simp only [sr, c00, c01, n0, n2, Rat.zero_add, Rat.add_zero]
      exact t0
    · have n0 : cfR a 9 10 1 0 = 0 := if_neg (by decide)
      have n1 : cfR a 9 10 1 1 = 0 := if_neg (by decide)
      have n2 : cfR a 9 10 1 2 = 0 := if_neg (by decide)
      have n3 : cfR a 9 10 1 3 = 0 := if_neg (by decide)
      simp only [sr, uz1, n0, n1, n2, n3, Rat.zero_add, Rat.add_zero, Rat.mul_zero]
    · have n0 : cfR a 9 10 2 0 = 0 := if_neg (by decide)
      have n1 : cfR a 9 10 2 1 = 0 := if_neg (by decide)
      have n2 : cfR a 9 10 2 2 = 0 := if_neg (by decide)
      have n3 : cfR a 9 10 2 3 = 0 := if_neg (by decide)
      simp only [sr, uz2, n0, n1, n2, n3, Rat.zero_add, Rat.add_zero, Rat.mul_zero]
    · have n0 : cfR a 9 10 3 0 = 0 := if_neg (by decide)
      have n2 : cfR a 9 10 3 2 = 0 := if_neg (by decide)
      simp only [sr, c10, c11, n0, n2, Rat.zero_add, Rat.add_zero]
      exact t1
theorem ev_9_12 (a : Nat → Nat → Rat) : dR a 2 9 12 = a 0 2 * a 3 3 - a 0 3 * a 3 2 ∧ cfR a 9 12 0 2 = (a 3 3) ∧ cfR a 9 12 0 3 = (-(a 3 2)) ∧ cfR a 9 12 3 2 = (-(a 0 3)) ∧ cfR a 9 12 3 3 = (a 0 2) := by
  simp [cfR, dR, exR, lowB, pop] <;> grind
theorem cr_9_12 {a : Nat → Nat → Rat} {w u : Nat → Rat} (ha : ∀ i j, i < 4 → j < 4 → 1 ≤ a i j) (hw : ∀ i, i < 4 → bN 9 i → sr (fun j => a i j * w j) 4 = 1) (w0 : ∀ j, j < 4 → ¬ bN 12 j → w j = 0) (hu : ∀ j, j < 4 → bN 12 j → sr (fun i => a i j * u i) 4 = 1) (u0 : ∀ i, i < 4 → ¬ bN 9 i → u i = 0) (hz : ∀ z : Nat → Rat, (∀ j, j < 4 → ¬ bN 12 j → z j = 0) → (∀ i, i < 4 → bN 9 i → sr (fun j => a i j * z j) 4 = 0) → ∀ j, j < 4 → z j = 0) : crP a 9 12 w u := by
  have ep : pop 9 = 2 := by decide
  obtain ⟨eD, c00, c01, c10, c11⟩ := ev_9_12 a
  have wz0 := w0 0 (by omega) (by decide)
  have wz1 := w0 1 (by omega) (by decide)
  have uz1 := u0 1 (by omega) (by decide)
  have uz2 := u0 2 (by omega) (by decide)
  have h0 : a 0 2 * w 2 + a 0 3 * w 3 = 1 := by
    have h := hw 0 (by omega) (by decide)
    simp only [sr] at h
    grind
  have h1 : a 3 2 * w 2 + a 3 3 * w 3 = 1 := by
    have h := hw 3 (by omega) (by decide)
    simp only [sr] at h
    grind
  have g0 : a 0 2 * u 0 + a 3 2 * u 3 = 1 := by
    have h := hu 2 (by omega) (by decide)
    simp only [sr] at h
    grind
  have g1 : a 0 3 * u 0 + a 3 3 * u 3 = 1 := by
    have h := hu 3 (by omega) (by decide)
    simp only [sr] at h
    grind
  obtain ⟨r0, r1, t0, t1⟩ := cram2 h0 h1 g0 g1
  unfold crP
  rw [ep, eD]
  refine ⟨fun hD => ?_, fun j hj => ?_, fun i hi => ?_⟩
  · obtain ⟨z0, z1, n, e0, e1⟩ := ker2 hD
    have y := hz (fun j => if j = 2 then z0 else if j = 3 then z1 else 0) (fun j hj nj => ?_) (fun i hi bi => ?_)
    · apply n
      refine ⟨?_, ?_⟩
      · have y1 := y 2 (by omega)
        simpa using y1
      · have y1 := y 3 (by omega)
        simpa using y1
    · have hj' : j = 0 ∨ j = 1 ∨ j = 2 ∨ j = 3 := by omega
      rcases hj' with f | f | f | f <;> subst f <;> first | exact absurd (by decide) nj | rfl
    · have hi' : i = 0 ∨ i = 1 ∨ i = 2 ∨ i = 3 := by omega
      rcases hi' with f | f | f | f <;> subst f <;> first | exact absurd bi (by decide) | (simp [sr] <;> grind)
  · have hj' : j = 0 ∨ j = 1 ∨ j = 2 ∨ j = 3 := by omega
    rcases hj' with f | f | f | f <;> subst f
    · have n0 : cfR a 9 12 0 0 = 0 := if_neg (by decide)
      have n1 : cfR a 9 12 1 0 = 0 := if_neg (by decide)
      have n2 : cfR a 9 12 2 0 = 0 := if_neg (by decide)
      have n3 : cfR a 9 12 3 0 = 0 := if_neg (by decide)
      simp only [sr, wz0, n0, n1, n2, n3, Rat.zero_add, Rat.add_zero, Rat.mul_zero]
    · have n0 : cfR a 9 12 0 1 = 0 := if_neg (by decide)
      have n1 : cfR a 9 12 1 1 = 0 := if_neg (by decide)
      have n2 : cfR a 9 12 2 1 = 0 := if_neg (by decide)
      have n3 : cfR a 9 12 3 1 = 0 := if_neg (by decide)
      simp only [sr, wz1, n0, n1, n2, n3, Rat.zero_add, Rat.add_zero, Rat.mul_zero]
    · have n1 : cfR a 9 12 1 2 = 0 := if_neg (by decide)
      have n2 : cfR a 9 12 2 2 = 0 := if_neg (by decide)
      simp only [sr, c00, c10, n1, n2, Rat.zero_add, Rat.add_zero]
      exact r0
    · have n1 : cfR a 9 12 1 3 = 0 := if_neg (by decide)
      have n2 : cfR a 9 12 2 3 = 0 := if_neg (by decide)
      simp only [sr, c01, c11, n1, n2, Rat.zero_add, Rat.add_zero]
      exact r1
  · have hi' : i = 0 ∨ i = 1 ∨ i = 2 ∨ i = 3 := by omega
    rcases hi' with f | f | f | f <;> subst f
    · have n0 : cfR a 9 12 0 0 = 0 := if_neg (by decide)
      have n1 : cfR a 9 12 0 1 = 0 := if_neg (by decide)
      simp only [sr, c00, c01, n0, n1, Rat.zero_add, Rat.add_zero]
      exact t0
    · have n0 : cfR a 9 12 1 0 = 0 := if_neg (by decide)
      have n1 : cfR a 9 12 1 1 = 0 := if_neg (by decide)
      have n2 : cfR a 9 12 1 2 = 0 := if_neg (by decide)
      have n3 : cfR a 9 12 1 3 = 0 := if_neg (by decide)
      simp only [sr, uz1, n0, n1, n2, n3, Rat.zero_add, Rat.add_zero, Rat.mul_zero]
    · have n0 : cfR a 9 12 2 0 = 0 := if_neg (by decide)
      have n1 : cfR a 9 12 2 1 = 0 := if_neg (by decide)
      have n2 : cfR a 9 12 2 2 = 0 := if_neg (by decide)
      have n3 : cfR a 9 12 2 3 = 0 := if_neg (by decide)
      simp only [sr, uz2, n0, n1, n2, n3, Rat.zero_add, Rat.add_zero, Rat.mul_zero]
    · have n0 : cfR a 9 12 3 0 = 0 := if_neg (by decide)
      have n1 : cfR a 9 12 3 1 = 0 := if_neg (by decide)
      simp only [sr, c10, c11, n0, n1, Rat.zero_add, Rat.add_zero]
      exact t1
theorem ev_10_3 (a : Nat → Nat → Rat) : dR a 2 10 3 = a 1 0 * a 3 1 - a 1 1 * a 3 0 ∧ cfR a 10 3 1 0 = (a 3 1) ∧ cfR a 10 3 1 1 = (-(a 3 0)) ∧ cfR a 10 3 3 0 = (-(a 1 1)) ∧ cfR a 10 3 3 1 = (a 1 0) := by
  simp [cfR, dR, exR, lowB, pop] <;> grind
theorem cr_10_3 {a : Nat → Nat → Rat} {w u : Nat → Rat} (ha : ∀ i j, i < 4 → j < 4 → 1 ≤ a i j) (hw : ∀ i, i < 4 → bN 10 i → sr (fun j => a i j * w j) 4 = 1) (w0 : ∀ j, j < 4 → ¬ bN 3 j → w j = 0) (hu : ∀ j, j < 4 → bN 3 j → sr (fun i => a i j * u i) 4 = 1) (u0 : ∀ i, i < 4 → ¬ bN 10 i → u i = 0) (hz : ∀ z : Nat → Rat, (∀ j, j < 4 → ¬ bN 3 j → z j = 0) → (∀ i, i < 4 → bN 10 i → sr (fun j => a i j * z j) 4 = 0) → ∀ j, j < 4 → z j = 0) : crP a 10 3 w u := by
  have ep : pop 10 = 2 := by decide
  obtain ⟨eD, c00, c01, c10, c11⟩ := ev_10_3 a
  have wz2 := w0 2 (by omega) (by decide)
  have wz3 := w0 3 (by omega) (by decide)
  have uz0 := u0 0 (by omega) (by decide)
  have uz2 := u0 2 (by omega) (by decide)
  have h0 : a 1 0 * w 0 + a 1 1 * w 1 = 1 := by
    have h := hw 1 (by omega) (by decide)
    simp only [sr] at h
    grind
  have h1 : a 3 0 * w 0 + a 3 1 * w 1 = 1 := by
    have h := hw 3 (by omega) (by decide)
    simp only [sr] at h
    grind
  have g0 : a 1 0 * u 1 + a 3 0 * u 3 = 1 := by
    have h := hu 0 (by omega) (by decide)
    simp only [sr] at h
    grind
  have g1 : a 1 1 * u 1 + a 3 1 * u 3 = 1 := by
    have h := hu 1 (by omega) (by decide)
    simp only [sr] at h
    grind
  obtain ⟨r0, r1, t0, t1⟩ := cram2 h0 h1 g0 g1
  unfold crP
  rw [ep, eD]
  refine ⟨fun hD => ?_, fun j hj => ?_, fun i hi => ?_⟩
  · obtain ⟨z0, z1, n, e0, e1⟩ := ker2 hD
    have y := hz (fun j => if j = 0 then z0 else if j = 1 then z1 else 0) (fun j hj nj => ?_) (fun i hi bi => ?_)
    · apply n
      refine ⟨?_, ?_⟩
      · have y1 := y 0 (by omega)
        simpa using y1
      · have y1 := y 1 (by omega)
        simpa using y1
    · have hj' : j = 0 ∨ j = 1 ∨ j = 2 ∨ j = 3 := by omega
      rcases hj' with f | f | f | f <;> subst f <;> first | exact absurd (by decide) nj | rfl
    · have hi' : i = 0 ∨ i = 1 ∨ i = 2 ∨ i = 3 := by omega
      rcases hi' with f | f | f | f <;> subst f <;> first | exact absurd bi (by decide) | (simp [sr] <;> grind)
  · have hj' : j = 0 ∨ j = 1 ∨ j = 2 ∨ j = 3 := by omega
    rcases hj' with f | f | f | f <;> subst f
    · have n0 : cfR a 10 3 0 0 = 0 := if_neg (by decide)
      have n2 : cfR a 10 3 2 0 = 0 := if_neg (by decide)
      simp only [sr, c00, c10, n0, n2, Rat.zero_add, Rat.add_zero]
      exact r0
    · have n0 : cfR a 10 3 0 1 = 0 := if_neg (by decide)
      have n2 : cfR a 10 3 2 1 = 0 := if_neg (by decide)
      simp only [sr, c01, c11, n0, n2, Rat.zero_add, Rat.add_zero]
      exact r1
    · have n0 : cfR a 10 3 0 2 = 0 := if_neg (by decide)
      have n1 : cfR a 10 3 1 2 = 0 := if_neg (by decide)
      have n2 : cfR a 10 3 2 2 = 0 := if_neg (by decide)
      have n3 : cfR a 10 3 3 2 = 0 := if_neg (by decide)
      simp only [sr, wz2, n0, n1, n2, n3, Rat.zero_add, Rat.add_zero, Rat.mul_zero]
    · have n0 : cfR a 10 3 0 3 = 0 := if_neg (by decide)
      have n1 : cfR a 10 3 1 3 = 0 := if_neg (by decide)
      have n2 : cfR a 10 3 2 3 = 0 := if_neg (by decide)
      have n3 : cfR a 10 3 3 3 = 0 := if_neg (by decide)
      simp only [sr, wz3, n0, n1, n2, n3, Rat.zero_add, Rat.add_zero, Rat.mul_zero]
  · have hi' : i = 0 ∨ i = 1 ∨ i = 2 ∨ i = 3 := by omega
    rcases hi' with f | f | f | f <;> subst f
    · have n0 : cfR a 10 3 0 0 = 0 := if_neg (by decide)
      have n1 : cfR a 10 3 0 1 = 0 := if_neg (by decide)
      have n2 : cfR a 10 3 0 2 = 0 := if_neg (by decide)
      have n3 : cfR a 10 3 0 3 = 0 := if_neg (by decide)
      simp only [sr, uz0, n0, n1, n2, n3, Rat.zero_add, Rat.add_zero, Rat.mul_zero]
    · have n2 : cfR a 10 3 1 2 = 0 := if_neg (by decide)
      have n3 : cfR a 10 3 1 3 = 0 := if_neg (by decide)
      simp only [sr, c00, c01, n2, n3, Rat.zero_add, Rat.add_zero]
      exact t0
    · have n0 : cfR a 10 3 2 0 = 0 := if_neg (by decide)
      have n1 : cfR a 10 3 2 1 = 0 := if_neg (by decide)
      have n2 : cfR a 10 3 2 2 = 0 := if_neg (by decide)
      have n3 : cfR a 10 3 2 3 = 0 := if_neg (by decide)
      simp only [sr, uz2, n0, n1, n2, n3, Rat.zero_add, Rat.add_zero, Rat.mul_zero]
    · have n2 : cfR a 10 3 3 2 = 0 := if_neg (by decide)
      have n3 : cfR a 10 3 3 3 = 0 := if_neg (by decide)
      simp only [sr, c10, c11, n2, n3, Rat.zero_add, Rat.add_zero]
      exact t1
theorem ev_10_5 (a : Nat → Nat → Rat) : dR a 2 10 5 = a 1 0 * a 3 2 - a 1 2 * a 3 0 ∧ cfR a 10 5 1 0 = (a 3 2) ∧ cfR a 10 5 1 2 = (-(a 3 0)) ∧ cfR a 10 5 3 0 = (-(a 1 2)) ∧ cfR a 10 5 3 2 = (a 1 0) := by
  simp [cfR, dR, exR, lowB, pop] <;> grind
theorem cr_10_5 {a : Nat → Nat → Rat} {w u : Nat → Rat} (ha : ∀ i j, i < 4 → j < 4 → 1 ≤ a i j) (hw : ∀ i, i < 4 → bN 10 i → sr (fun j => a i j * w j) 4 = 1) (w0 : ∀ j, j < 4 → ¬ bN 5 j → w j = 0) (hu : ∀ j, j < 4 → bN 5 j → sr (fun i => a i j * u i) 4 = 1) (u0 : ∀ i, i < 4 → ¬ bN 10 i → u i = 0) (hz : ∀ z : Nat → Rat, (∀ j, j < 4 → ¬ bN 5 j → z j = 0) → (∀ i, i < 4 → bN 10 i → sr (fun j => a i j * z j) 4 = 0) → ∀ j, j < 4 → z j = 0) : crP a 10 5 w u := by
  have ep : pop 10 = 2 := by decide
  obtain ⟨eD, c00, c01, c10, c11⟩ := ev_10_5 a
  have wz1 := w0 1 (by omega) (by decide)
  have wz3 := w0 3 (by omega) (by decide)
  have uz0 := u0 0 (by omega) (by decide)
  have uz2 := u0 2 (by omega) (by decide)
  have h0 : a 1 0 * w 0 + a 1 2 * w 2 = 1 := by
    have h := hw 1 (by omega) (by decide)
    simp only [sr] at h
    grind
  have h1 : a 3 0 * w 0 + a 3 2 * w 2 = 1 := by
    have h := hw 3 (by omega) (by decide)
    simp only [sr] at h
    grind
  have g0 : a 1 0 * u 1 + a 3 0 * u 3 = 1 := by
    have h := hu 0 (by omega) (by decide)
    simp only [sr] at h
    grind
  have g1 : a 1 2 * u 1 + a 3 2 * u 3 = 1 := by
    have h := hu 2 (by omega) (by decide)
    simp only [sr] at h
    grind
  obtain ⟨r0, r1, t0, t1⟩ := cram2 h0 h1 g0 g1
  unfold crP
  rw [ep, eD]
  refine ⟨fun hD => ?_, fun j hj => ?_, fun i hi => ?_⟩
  · obtain ⟨z0, z1, n, e0, e1⟩ := ker2 hD
    have y := hz (fun j => if j = 0 then z0 else if j = 2 then z1 else 0) (fun j hj nj => ?_) (fun i hi bi => ?_)
    · apply n
      refine ⟨?_, ?_⟩
      · have y1 := y 0 (by omega)
        simpa using y1
      · have y1 := y 2 (by omega)
        simpa using y1
    · have hj' : j = 0 ∨ j = 1 ∨ j = 2 ∨ j = 3 := by omega
      rcases hj' with f | f | f | f <;> subst f <;> first | exact absurd (by decide) nj | rfl
    · have hi' : i = 0 ∨ i = 1 ∨ i = 2 ∨ i = 3 := by omega
      rcases hi' with f | f | f | f <;> subst f <;> first | exact absurd bi (by decide) | (simp [sr] <;> grind)
  · have hj' : j = 0 ∨ j = 1 ∨ j = 2 ∨ j = 3 := by omega
    rcases hj' with f | f | f | f <;> subst f
    · have n0 : cfR a 10 5 0 0 = 0 := if_neg (by decide)
      have n2 : cfR a 10 5 2 0 = 0 := if_neg (by decide)
      simp only [sr, c00, c10, n0, n2, Rat.zero_add, Rat.add_zero]
      exact r0
    · have n0 : cfR a 10 5 0 1 = 0 := if_neg (by decide)
      have n1 : cfR a 10 5 1 1 = 0 := if_neg (by decide)
      have n2 : cfR a 10 5 2 1 = 0 := if_neg (by decide)
      have n3 : cfR a 10 5 3 1 = 0 := if_neg (by decide)
      simp only [sr, wz1, n0, n1, n2, n3, Rat.zero_add, Rat.add_zero, Rat.mul_zero]
    · have n0 : cfR a 10 5 0 2 = 0 := if_neg (by decide)
      have n2 : cfR a 10 5 2 2 = 0 := if_neg (by decide)
      simp only [sr, c01, c11, n0, n2, Rat.zero_add, Rat.add_zero]
      exact r1
    · have n0 : cfR a 10 5 0 3 = 0 := if_neg (by decide)
      have n1 : cfR a 10 5 1 3 = 0 := if_neg (by decide)
      have n2 : cfR a 10 5 2 3 = 0 := if_neg (by decide)
      have n3 : cfR a 10 5 3 3 = 0 := if_neg (by decide)
      simp only [sr, wz3, n0, n1, n2, n3, Rat.zero_add, Rat.add_zero, Rat.mul_zero]
  · have hi' : i = 0 ∨ i = 1 ∨ i = 2 ∨ i = 3 := by omega
    rcases hi' with f | f | f | f <;> subst f
    · have n0 : cfR a 10 5 0 0 = 0 := if_neg (by decide)
      have n1 : cfR a 10 5 0 1 = 0 := if_neg (by decide)
      have n2 : cfR a 10 5 0 2 = 0 := if_neg (by decide)
      have n3 : cfR a 10 5 0 3 = 0 := if_neg (by decide)
      simp only [sr, uz0, n0, n1, n2, n3, Rat.zero_add, Rat.add_zero, Rat.mul_zero]
    · have n1 : cfR a 10 5 1 1 = 0 := if_neg (by decide)
      have n3 : cfR a 10 5 1 3 = 0 := if_neg (by decide)
      simp only [sr, c00, c01, n1, n3, Rat.zero_add, Rat.add_zero]
      exact t0
    · have n0 : cfR a 10 5 2 0 = 0 := if_neg (by decide)
      have n1 : cfR a 10 5 2 1 = 0 := if_neg (by decide)
      have n2 : cfR a 10 5 2 2 = 0 := if_neg (by decide)
      have n3 : cfR a 10 5 2 3 = 0 := if_neg (by decide)
      simp only [sr, uz2, n0, n1, n2, n3, Rat.zero_add, Rat.add_zero, Rat.mul_zero]
    · have n1 : cfR a 10 5 3 1 = 0 := if_neg (by decide)
      have n3 : cfR a 10 5 3 3 = 0 := if_neg (by decide)
      simp only [sr, c10, c11, n1, n3, Rat.zero_add, Rat.add_zero]
      exact t1
theorem ev_10_6 (a : Nat → Nat → Rat) : dR a 2 10 6 = a 1 1 * a 3 2 - a 1 2 * a 3 1 ∧ cfR a 10 6 1 1 = (a 3 2) ∧ cfR a 10 6 1 2 = (-(a 3 1)) ∧ cfR a 10 6 3 1 = (-(a 1 2)) ∧ cfR a 10 6 3 2 = (a 1 1) := by
  simp [cfR, dR, exR, lowB, pop] <;> grind
theorem cr_10_6 {a : Nat → Nat → Rat} {w u : Nat → Rat} (ha : ∀ i j, i < 4 → j < 4 → 1 ≤ a i j) (hw : ∀ i, i < 4 → bN 10 i → sr (fun j => a i j * w j) 4 = 1) (w0 : ∀ j, j < 4 → ¬ bN 6 j → w j = 0) (hu : ∀ j, j < 4 → bN 6 j → sr (fun i => a i j * u i) 4 = 1) (u0 : ∀ i, i < 4 → ¬ bN 10 i → u i = 0) (hz : ∀ z : Nat → Rat, (∀ j, j < 4 → ¬ bN 6 j → z j = 0) → (∀ i, i < 4 → bN 10 i → sr (fun j => a i j * z j) 4 = 0) → ∀ j, j < 4 → z j = 0) : crP a 10 6 w u := by
  have ep : pop 10 = 2 := by decide
  obtain ⟨eD, c00, c01, c10, c11⟩ := ev_10_6 a
  have wz0 := w0 0 (by omega) (by decide)
  have wz3 := w0 3 (by omega) (by decide)
  have uz0 := u0 0 (by omega) (by decide)
  have uz2 := u0 2 (by omega) (by decide)
  have h0 : a 1 1 * w 1 + a 1 2 * w 2 = 1 := by
    have h := hw 1 (by omega) (by decide)
    simp only [sr] at h
    grind
  have h1 : a 3 1 * w 1 + a 3 2 * w 2 = 1 := by
    have h := hw 3 (by omega) (by decide)
    simp only [sr] at h
    grind
  have g0 : a 1 1 * u 1 + a 3 1 * u 3 = 1 := by
    have h := hu 1 (by omega) (by decide)
    simp only [sr] at h
    grind
  have g1 : a 1 2 * u 1 + a 3 2 * u 3 = 1 := by
    have h := hu 2 (by omega) (by decide)
    simp only [sr] at h
    grind
  obtain ⟨r0, r1, t0, t1⟩ := cram2 h0 h1 g0 g1
  unfold crP
  rw [ep, eD]
  refine ⟨fun hD => ?_, fun j hj => ?_, fun i hi => ?_⟩
  · obtain ⟨z0, z1, n, e0, e1⟩ := ker2 hD
    have y := hz (fun j => if j = 1 then z0 else if j = 2 then z1 else 0) (fun j hj nj => ?_) (fun i hi bi => ?_)
    · apply n
      refine ⟨?_, ?_⟩
      · have y1 := y 1 (by omega)
        simpa using y1
      · have y1 := y 2 (by omega)
        simpa using y1
    · have hj' : j = 0 ∨ j = 1 ∨ j = 2 ∨ j = 3 := by omega
      rcases hj' with f | f | f | f <;> subst f <;> first | exact absurd (by decide) nj | rfl
    · have hi' : i = 0 ∨ i = 1 ∨ i = 2 ∨ i = 3 := by omega
      rcases hi' with f | f | f | f <;> subst f <;> first | exact absurd bi (by decide) | (simp [sr] <;> grind)
  · have hj' : j = 0 ∨ j = 1 ∨ j = 2 ∨ j = 3 := by omega
    rcases hj' with f | f | f | f <;> subst f
    · have n0 : cfR a 10 6 0 0 = 0 := if_neg (by decide)
      have n1 : cfR a 10 6 1 0 = 0 := if_neg (by decide)
      have n2 : cfR a 10 6 2 0 = 0 := if_neg (by decide)
      have n3 : cfR a 10 6 3 0 = 0 := if_neg (by decide)
      simp only [sr, wz0, n0, n1, n2, n3, Rat.zero_add, Rat.add_zero, Rat.mul_zero]
    · have n0 : cfR a 10 6 0 1 = 0 := if_neg (by decide)
      have n2 : cfR a 10 6 2 1 = 0 := if_neg (by decide)
      simp only [sr, c00, c10, n0, n2, Rat.zero_add, Rat.add_zero]
      exact r0
    · have n0 : cfR a 10 6 0 2 = 0 := if_neg (by decide)
      have n2 : cfR a 10 6 2 2 = 0 := if_neg (by decide)
      simp only [sr, c01, c11, n0, n2, Rat.zero_add, Rat.add_zero]
      exact r1
    · have n0 : cfR a 10 6 0 3 = 0 := if_neg (by decide)
      have n1 : cfR a 10 6 1 3 = 0 := if_neg (by decide)
      have n2 : cfR a 10 6 2 3 = 0 := if_neg (by decide)
      have n3 : cfR a 10 6 3 3 = 0 := if_neg (by decide)
      simp only [sr, wz3, n0, n1, n2, n3, Rat.zero_add, Rat.add_zero, Rat.mul_zero]
  · have hi' : i = 0 ∨ i = 1 ∨ i = 2 ∨ i = 3 := by omega
    rcases hi' with f | f | f | f <;> subst f
    · have n0 : cfR a 10 6 0 0 = 0 := if_neg (by decide)
      have n1 : cfR a 10 6 0 1 = 0 := if_neg (by decide)
      have n2 : cfR a 10 6 0 2 = 0 := if_neg (by decide)
      have n3 : cfR a 10 6 0 3 = 0 := if_neg (by decide)
      simp only [sr, uz0, n0, n1, n2, n3, Rat.zero_add, Rat.add_zero, Rat.mul_zero]
    · have n0 : cfR a 10 6 1 0 = 0 := if_neg (by decide)
      have n3 : cfR a 10 6 1 3 = 0 := if_neg (by decide)
      simp only [sr, c00, c01, n0, n3, Rat.zero_add, Rat.add_zero]
      exact t0
    · have n0 : cfR a 10 6 2 0 = 0 := if_neg (by decide)
      have n1 : cfR a 10 6 2 1 = 0 := if_neg (by decide)
      have n2 : cfR a 10 6 2 2 = 0 := if_neg (by decide)
      have n3 : cfR a 10 6 2 3 = 0 := if_neg (by decide)
      simp only [sr, uz2, n0, n1, n2, n3, Rat.zero_add, Rat.add_zero, Rat.mul_zero]
    · have n0 : cfR a 10 6 3 0 = 0 := if_neg (by decide)
      have n3 : cfR a 10 6 3 3 = 0 := if_neg (by decide)
      simp only [sr, c10, c11, n0, n3, Rat.zero_add, Rat.add_zero]
      exact t1
theorem ev_10_9 (a : Nat → Nat → Rat) : dR a 2 10 9 = a 1 0 * a 3 3 - a 1 3 * a 3 0 ∧ cfR a 10 9 1 0 = (a 3 3) ∧ cfR a 10 9 1 3 = (-(a 3 0)) ∧ cfR a 10 9 3 0 = (-(a 1 3)) ∧ cfR a 10 9 3 3 = (a 1 0) := by
  simp [cfR, dR, exR, lowB, pop] <;> grind
theorem cr_10_9 {a : Nat → Nat → Rat} {w u : Nat → Rat} (ha : ∀ i j, i < 4 → j < 4 → 1 ≤ a i j) (hw : ∀ i, i < 4 → bN 10 i → sr (fun j => a i j * w j) 4 = 1) (w0 : ∀ j, j < 4 → ¬ bN 9 j → w j = 0) (hu : ∀ j, j < 4 → bN 9 j → sr (fun i => a i j * u i) 4 = 1) (u0 : ∀ i, i < 4 → ¬ bN 10 i → u i = 0) (hz : ∀ z : Nat → Rat, (∀ j, j < 4 → ¬ bN 9 j → z j = 0) → (∀ i, i < 4 → bN 10 i → sr (fun j => a i j * z j) 4 = 0) → ∀ j, j < 4 → z j = 0) : crP a 10 9 w u := by
  have ep : pop 10 = 2 := by decide
  obtain ⟨eD, c00, c01, c10, c11⟩ := ev_10_9 a
  have wz1 := w0 1 (by omega) (by decide)
  have wz2 := w0 2 (by omega) (by decide)
  have uz0 := u0 0 (by omega) (by decide)
  have uz2 := u0 2 (by omega) (by decide)
  have h0 : a 1 0 * w 0 + a 1 3 * w 3 = 1 := by
    have h := hw 1 (by omega) (by decide)
    simp only [sr] at h
    grind
  have h1 : a 3 0 * w 0 + a 3 3 * w 3 = 1 := by
    have h := hw 3 (by omega) (by decide)
    simp only [sr] at h
    grind
  have g0 : a 1 0 * u 1 + a 3 0 * u 3 = 1 := by
    have h := hu 0 (by omega) (by decide)
    simp only [sr] at h
    grind
  have g1 : a 1 3 * u 1 + a 3 3 * u 3 = 1 := by
    have h := hu 3 (by omega) (by decide)
    simp only [sr] at h
    grind
  obtain ⟨r0, r1, t0, t1⟩ := cram2 h0 h1 g0 g1
  unfold crP
  rw [ep, eD]
  refine ⟨fun hD => ?_, fun j hj => ?_, fun i hi => ?_⟩
  · obtain ⟨z0, z1, n, e0, e1⟩ := ker2 hD
    have y := hz (fun j => if j = 0 then z0 else if j = 3 then z1 else 0) (fun j hj nj => ?_) (fun i hi bi => ?_)
    · apply n
      refine ⟨?_, ?_⟩
      · have y1 := y 0 (by omega)
        simpa using y1
      · have y1 := y 3 (by omega)
        simpa using y1
    · have hj' : j = 0 ∨ j = 1 ∨ j = 2 ∨ j = 3 := by omega
      rcases hj' with f | f | f | f <;> subst f <;> first | exact absurd (by decide) nj | rfl
    · have hi' : i = 0 ∨ i = 1 ∨ i = 2 ∨ i = 3 := by omega
      rcases hi' with f | f | f | f <;> subst f <;> first | exact absurd bi (by decide) | (simp [sr] <;> grind)
  · have hj' : j = 0 ∨ j = 1 ∨ j = 2 ∨ j = 3 := by omega
    rcases hj' with f | f | f | f <;> subst f
    · have n0 : cfR a 10 9 0 0 = 0 := if_neg (by decide)
      have n2 : cfR a 10 9 2 0 = 0 := if_neg (by decide)
      simp only [sr, c00, c10, n0, n2, Rat.zero_add, Rat.add_zero]
      exact r0
    · have n0 : cfR a 10 9 0 1 = 0 := if_neg (by decide)
      have n1 : cfR a 10 9 1 1 = 0 := if_neg (by decide)
      have n2 : cfR a 10 9 2 1 = 0 := if_neg (by decide)
      have n3 : cfR a 10 9 3 1 = 0 := if_neg (by decide)
      simp only [sr, wz1, n0, n1, n2, n3, Rat.zero_add, Rat.add_zero, Rat.mul_zero]
    · have n0 : cfR a 10 9 0 2 = 0 := if_neg (by decide)
      have n1 : cfR a 10 9 1 2 = 0 := if_neg (by decide)
      have n2 : cfR a 10 9 2 2 = 0 := if_neg (by decide)
      have n3 : cfR a 10 9 3 2 = 0 := if_neg (by decide)
      simp only [sr, wz2, n0, n1, n2, n3, Rat.zero_add, Rat.add_zero, Rat.mul_zero]
    · have n0 : cfR a 10 9 0 3 = 0 := if_neg (by decide)
      have n2 : cfR a 10 9 2 3 = 0 := if_neg (by decide)
      simp only [sr, c01, c11, n0, n2, Rat.zero_add, Rat.add_zero]
      exact r1
  · have hi' : i = 0 ∨ i = 1 ∨ i = 2 ∨ i = 3 := by omega
    rcases hi' with f | f | f | f <;> subst f
    · have n0 : cfR a 10 9 0 0 = 0 := if_neg (by decide)
      have n1 : cfR a 10 9 0 1 = 0 := if_neg (by decide)
      have n2 : cfR a 10 9 0 2 = 0 := if_neg (by decide)
      have n3 : cfR a 10 9 0 3 = 0 := if_neg (by decide)
      simp only [sr, uz0, n0, n1, n2, n3, Rat.zero_add, Rat.add_zero, Rat.mul_zero]
    · have n1 : cfR a 10 9 1 1 = 0 := if_neg (by decide)
      have n2 : cfR a 10 9 1 2 = 0 := if_neg (by decide)
      simp only [sr, c00, c01, n1, n2, Rat.zero_add, Rat.add_zero]
      exact t0
    · have n0 : cfR a 10 9 2 0 = 0 := if_neg (by decide)
      have n1 : cfR a 10 9 2 1 = 0 := if_neg (by decide)
      have n2 : cfR a 10 9 2 2 = 0 := if_neg (by decide)
      have n3 : cfR a 10 9 2 3 = 0 := if_neg (by decide)
      simp only [sr, uz2, n0, n1, n2, n3, Rat.zero_add, Rat.add_zero, Rat.mul_zero]
    · have n1 : cfR a 10 9 3 1 = 0 := if_neg (by decide)
      have n2 : cfR a 10 9 3 2 = 0 := if_neg (by decide)
      simp only [sr, c10, c11, n1, n2, Rat.zero_add, Rat.add_zero]
      exact t1
theorem ev_10_10 (a : Nat → Nat → Rat) : dR a 2 10 10 = a 1 1 * a 3 3 - a 1 3 * a 3 1 ∧ cfR a 10 10 1 1 = (a 3 3) ∧ cfR a 10 10 1 3 = (-(a 3 1)) ∧ cfR a 10 10 3 1 = (-(a 1 3)) ∧ cfR a 10 10 3 3 = (a 1 1) := by
  simp [cfR, dR, exR, lowB, pop] <;> grind
theorem cr_10_10 {a : Nat → Nat → Rat} {w u : Nat → Rat} (ha : ∀ i j, i < 4 → j < 4 → 1 ≤ a i j) (hw : ∀ i, i < 4 → bN 10 i → sr (fun j => a i j * w j) 4 = 1) (w0 : ∀ j, j < 4 → ¬ bN 10 j → w j = 0) (hu : ∀ j, j < 4 → bN 10 j → sr (fun i => a i j * u i) 4 = 1) (u0 : ∀ i, i < 4 → ¬ bN 10 i → u i = 0) (hz : ∀ z : Nat → Rat, (∀ j, j < 4 → ¬ bN 10 j → z j = 0) → (∀ i, i < 4 → bN 10 i → sr (fun j => a i j * z j) 4 = 0) → ∀ j, j < 4 → z j = 0) : crP a 10 10 w u := by
  have ep : pop 10 = 2 := by decide
  obtain ⟨eD, c00, c01, c10, c11⟩ := ev_10_10 a
  have wz0 := w0 0 (by omega) (by decide)
  have wz2 := w0 2 (by omega) (by decide)
  have uz0 := u0 0 (by omega) (by decide)
  have uz2 := u0 2 (by omega) (by decide)
  have h0 : a 1 1 * w 1 + a 1 3 * w 3 = 1 := by
    have h := hw 1 (by omega) (by decide)
    simp only [sr] at h
    grind
  have h1 : a 3 1 * w 1 + a 3 3 * w 3 = 1 := by
    have h := hw 3 (by omega) (by decide)
    simp only [sr] at h
    grind
  have g0 : a 1 1 * u 1 + a 3 1 * u 3 = 1 := by
    have h := hu 1 (by omega) (by decide)
    simp only [sr] at h
    grind
  have g1 : a 1 3 * u 1 + a 3 3 * u 3 = 1 := by
    have h := hu 3 (by omega) (by decide)
    simp only [sr] at h
    grind
  obtain ⟨r0, r1, t0, t1⟩ := cram2 h0 h1 g0 g1
  unfold crP
  rw [ep, eD]
  refine ⟨fun hD => ?_, fun j hj => ?_, fun i hi => ?_⟩
  · obtain ⟨z0, z1, n, e0, e1⟩ := ker2 hD
    have y := hz (fun j => if j = 1 then z0 else if j = 3 then z1 else 0) (fun j hj nj => ?_) (fun i hi bi => ?_)
    · apply n
      refine ⟨?_, ?_⟩
      · have y1 := y 1 (by omega)
        simpa using y1
      · have y1 := y 3 (by omega)
        simpa using y1
    · have hj' : j = 0 ∨ j = 1 ∨ j = 2 ∨ j = 3 := by omega
      rcases hj' with f | f | f | f <;> subst f <;> first | exact absurd (by decide) nj | rfl
    · have hi' : i = 0 ∨ i = 1 ∨ i = 2 ∨ i = 3 := by omega
      rcases hi' with f | f | f | f <;> subst f <;> first | exact absurd bi (by decide) | (simp [sr] <;> grind)
  · have hj' : j = 0 ∨ j = 1 ∨ j = 2 ∨ j = 3 := by omega
    rcases hj' with f | f | f | f <;> subst f
    · have n0 : cfR a 10 10 0 0 = 0 := if_neg (by decide)
      have n1 : cfR a 10 10 1 0 = 0 := if_neg (by decide)
      have n2 : cfR a 10 10 2 0 = 0 := if_neg (by decide)
      have n3 : cfR a 10 10 3 0 = 0 := if_neg (by decide)
      simp only [sr, wz0, n0, n1, n2, n3, Rat.zero_add, Rat.add_zero, Rat.mul_zero]
    · have n0 : cfR a 10 10 0 1 = 0 := if_neg (by decide)
      have n2 : cfR a 10 10 2 1 = 0 := if_neg (by decide)
      simp only [sr, c00, c10, n0, n2, Rat.zero_add, Rat.add_zero]
      exact r0
    · have n0 : cfR a 10 10 0 2 = 0 := if_neg (by decide)
      have n1 : cfR a 10 10 1 2 = 0 := if_neg (by decide)
      have n2 : cfR a 10 10 2 2 = 0 := if_neg (by decide)
      have n3 : cfR a 10 10 3 2 = 0 := if_neg (by decide)
      simp only [sr, wz2, n0, n1, n2, n3, Rat.zero_add, Rat.add_zero, Rat.mul_zero]
    · have n0 : cfR a 10 10 0 3 = 0 := if_neg (by decide)
      have n2 : cfR a 10 10 2 3 = 0 := if_neg (by decide)
      simp only [sr, c01, c11, n0, n2, Rat.zero_add, Rat.add_zero]
      exact r1
  · have hi' : i = 0 ∨ i = 1 ∨ i = 2 ∨ i = 3 := by omega
    rcases hi' with f | f | f | f <;> subst f
    · have n0 : cfR a 10 10 0 0 = 0 := if_neg (by decide)
      have n1 : cfR a 10 10 0 1 = 0 := if_neg (by decide)
      have n2 : cfR a 10 10 0 2 = 0 := if_neg (by decide)
      have n3 : cfR a 10 10 0 3 = 0 := if_neg (by decide)
      simp only [sr, uz0, n0, n1, n2, n3, Rat.zero_add, Rat.add_zero, Rat.mul_zero]
    · have n0 : cfR a 10 10 1 0 = 0 := if_neg (by decide)
      have n2 : cfR a 10 10 1 2 = 0 := if_neg (by decide)
      simp only [sr, c00, c01, n0, n2, Rat.zero_add, Rat.add_zero]
      exact t0
    · have n0 : cfR a 10 10 2 0 = 0 := if_neg (by decide)
      have n1 : cfR a 10 10 2 1 = 0 := if_neg (by decide)
      have n2 : cfR a 10 10 2 2 = 0 := if_neg (by decide)
      have n3 : cfR a 10 10 2 3 = 0 := if_neg (by decide)
      simp only [sr, uz2, n0, n1, n2, n3, Rat.zero_add, Rat.add_zero, Rat.mul_zero]
    · have n0 : cfR a 10 10 3 0 = 0 := if_neg (by decide)
      have n2 : cfR a 10 10 3 2 = 0 := if_neg (by decide)
      simp only [sr, c10, c11, n0, n2, Rat.zero_add, Rat.add_zero]
      exact t1
theorem ev_10_12 (a : Nat → Nat → Rat) : dR a 2 10 12 = a 1 2 * a 3 3 - a 1 3 * a 3 2 ∧ cfR a 10 12 1 2 = (a 3 3) ∧ cfR a 10 12 1 3 = (-(a 3 2)) ∧ cfR a 10 12 3 2 = (-(a 1 3)) ∧ cfR a 10 12 3 3 = (a 1 2) := by
  simp [cfR, dR, exR, lowB, pop] <;> grind
theorem cr_10_12 {a : Nat → Nat → Rat} {w u : Nat → Rat} (ha : ∀ i j, i < 4 → j < 4 → 1 ≤ a i j) (hw : ∀ i, i < 4 → bN 10 i → sr (fun j => a i j * w j) 4 = 1) (w0 : ∀ j, j < 4 → ¬ bN 12 j → w j = 0) (hu : ∀ j, j < 4 → bN 12 j → sr (fun i => a i j * u i) 4 = 1) (u0 : ∀ i, i < 4 → ¬ bN 10 i → u i = 0) (hz : ∀ z : Nat → Rat, (∀ j, j < 4 → ¬ bN 12 j → z j = 0) → (∀ i, i < 4 → bN 10 i → sr (fun j => a i j * z j) 4 = 0) → ∀ j, j < 4 → z j = 0) : crP a 10 12 w u := by
  have ep : pop 10 = 2 := by decide
  obtain ⟨eD, c00, c01, c10, c11⟩ := ev_10_12 a
  have wz0 := w0 0 (by omega) (by decide)
  have wz1 := w0 1 (by omega) (by decide)
  have uz0 := u0 0 (by omega) (by decide)
  have uz2 := u0 2 (by omega) (by decide)
  have h0 : a 1 2 * w 2 + a 1 3 * w 3 = 1 := by
    have h := hw 1 (by omega) (by decide)
    simp only [sr] at h
    grind
  have h1 : a 3 2 * w 2 + a 3 3 * w 3 = 1 := by
    have h := hw 3 (by omega) (by decide)
    simp only [sr] at h
    grind
  have g0 : a 1 2 * u 1 + a 3 2 * u 3 = 1 := by
    have h := hu 2 (by omega) (by decide)
    simp only [sr] at h
    grind
  have g1 : a 1 3 * u 1 + a 3 3 * u 3 = 1 := by
    have h := hu 3 (by omega) (by decide)
    simp only [sr] at h
    grind
  obtain ⟨r0, r1, t0, t1⟩ := cram2 h0 h1 g0 g1
  unfold crP
  rw [ep, eD]
  refine ⟨fun hD => ?_, fun j hj => ?_, fun i hi => ?_⟩
  · obtain ⟨z0, z1, n, e0, e1⟩ := ker2 hD
    have y := hz (fun j => if j = 2 then z0 else if j = 3 then z1 else 0) (fun j hj nj => ?_) (fun i hi bi => ?_)
    · apply n
      refine ⟨?_, ?_⟩
      · have y1 := y 2 (by omega)
        simpa using y1
      · have y1 := y 3 (by omega)
        simpa using y1
    · have hj' : j = 0 ∨ j = 1 ∨ j = 2 ∨ j = 3 := by omega
      rcases hj' with f | f | f | f <;> subst f <;> first | exact absurd (by decide) nj | rfl
    · have hi' : i = 0 ∨ i = 1 ∨ i = 2 ∨ i = 3 := by omega
      rcases hi' with f | f | f | f <;> subst f <;> first | exact absurd bi (by decide) | (simp [sr] <;> grind)
  · have hj' : j = 0 ∨ j = 1 ∨ j = 2 ∨ j = 3 := by omega
    rcases hj' with f | f | f | f <;> subst f
    · have n0 : cfR a 10 12 0 0 = 0 := if_neg (by decide)
      have n1 : cfR a 10 12 1 0 = 0 := if_neg (by decide)
      have n2 : cfR a 10 12 2 0 = 0 := if_neg (by decide)
      have n3 : cfR a 10 12 3 0 = 0 := if_neg (by decide)
      simp only [sr, wz0, n0, n1, n2, n3, Rat.zero_add, Rat.add_zero, Rat.mul_zero]
    · have n0 : cfR a 10 12 0 1 = 0 := if_neg (by decide)
      have n1 : cfR a 10 12 1 1 = 0 := if_neg (by decide)
      have n2 : cfR a 10 12 2 1 = 0 := if_neg (by decide)
      have n3 : cfR a 10 12 3 1 = 0 := if_neg (by decide)
      simp only [sr, wz1, n0, n1, n2, n3, Rat.zero_add, Rat.add_zero, Rat.mul_zero]
    · have n0 : cfR a 10 12 0 2 = 0 := if_neg (by decide)
      have n2 : cfR a 10 12 2 2 = 0 := if_neg (by decide)
      simp only [sr, c00, c10, n0, n2, Rat.zero_add, Rat.add_zero]
      exact r0
    · have n0 : cfR a 10 12 0 3 = 0 := if_neg (by decide)
      have n2 : cfR a 10 12 2 3 = 0 := if_neg (by decide)
      simp only [sr, c01, c11, n0, n2, Rat.zero_add, Rat.add_zero]
      exact r1
  · have hi' : i = 0 ∨ i = 1 ∨ i = 2 ∨ i = 3 := by omega
    rcases hi' with f | f | f | f <;> subst f
    · have n0 : cfR a 10 12 0 0 = 0 := if_neg (by decide)
      have n1 : cfR a 10 12 0 1 = 0 := if_neg (by decide)
      have n2 : cfR a 10 12 0 2 = 0 := if_neg (by decide)
      have n3 : cfR a 10 12 0 3 = 0 := if_neg (by decide)
      simp only [sr, uz0, n0, n1, n2, n3, Rat.zero_add, Rat.add_zero, Rat.mul_zero]
    · have n0 : cfR a 10 12 1 0 = 0 := if_neg (by decide)
      have n1 : cfR a 10 12 1 1 = 0 := if_neg (by decide)
      simp only [sr, c00, c01, n0, n1, Rat.zero_add, Rat.add_zero]
      exact t0
    · have n0 : cfR a 10 12 2 0 = 0 := if_neg (by decide)
      have n1 : cfR a 10 12 2 1 = 0 := if_neg (by decide)
      have n2 : cfR a 10 12 2 2 = 0 := if_neg (by decide)
      have n3 : cfR a 10 12 2 3 = 0 := if_neg (by decide)
      simp only [sr, uz2, n0, n1, n2, n3, Rat.zero_add, Rat.add_zero, Rat.mul_zero]
    · have n0 : cfR a 10 12 3 0 = 0 := if_neg (by decide)
      have n1 : cfR a 10 12 3 1 = 0 := if_neg (by decide)
      simp only [sr, c10, c11, n0, n1, Rat.zero_add, Rat.add_zero]
      exact t1
theorem ev_12_3 (a : Nat → Nat → Rat) : dR a 2 12 3 = a 2 0 * a 3 1 - a 2 1 * a 3 0 ∧ cfR a 12 3 2 0 = (a 3 1) ∧ cfR a 12 3 2 1 = (-(a 3 0)) ∧ cfR a 12 3 3 0 = (-(a 2 1)) ∧ cfR a 12 3 3 1 = (a 2 0) := by
  simp [cfR, dR, exR, lowB, pop] <;> grind
theorem cr_12_3 {a : Nat → Nat → Rat} {w u : Nat → Rat} (ha : ∀ i j, i < 4 → j < 4 → 1 ≤ a i j) (hw : ∀ i, i < 4 → bN 12 i → sr (fun j => a i j * w j) 4 = 1) (w0 : ∀ j, j < 4 → ¬ bN 3 j → w j = 0) (hu : ∀ j, j < 4 → bN 3 j → sr (fun i => a i j * u i) 4 = 1) (u0 : ∀ i, i < 4 → ¬ bN 12 i → u i = 0) (hz : ∀ z : Nat → Rat, (∀ j, j < 4 → ¬ bN 3 j → z j = 0) → (∀ i, i < 4 → bN 12 i → sr (fun j => a i j * z j) 4 = 0) → ∀ j, j < 4 → z j = 0) : crP a 12 3 w u := by
  have ep : pop 12 = 2 := by decide
  obtain ⟨eD, c00, c01, c10, c11⟩ := ev_12_3 a
  have wz2 := w0 2 (by omega) (by decide)
  have wz3 := w0 3 (by omega) (by decide)
  have uz0 := u0 0 (by omega) (by decide)
  have uz1 := u0 1 (by omega) (by decide)
  have h0 : a 2 0 * w 0 + a 2 1 * w 1 = 1 := by
    have h := hw 2 (by omega) (by decide)
    simp only [sr] at h
    grind
  have h1 : a 3 0 * w 0 + a 3 1 * w 1 = 1 := by
    have h := hw 3 (by omega) (by decide)
    simp only [sr] at h
    grind
  have g0 : a 2 0 * u 2 + a 3 0 * u 3 = 1 := by
    have h := hu 0 (by omega) (by decide)
    simp only [sr] at h
    grind
  have g1 : a 2 1 * u 2 + a 3 1 * u 3 = 1 := by
    have h := hu 1 (by omega) (by decide)
    simp only [sr] at h
    grind
  obtain ⟨r0, r1, t0, t1⟩ := cram2 h0 h1 g0 g1
  unfold crP
  rw [ep, eD]
  refine ⟨fun hD => ?_, fun j hj => ?_, fun i hi => ?_⟩
  · obtain ⟨z0, z1, n, e0, e1⟩ := ker2 hD
    have y := hz (fun j => if j = 0 then z0 else if j = 1 then z1 else 0) (fun j hj nj => ?_) (fun i hi bi => ?_)
    · apply n
      refine ⟨?_, ?_⟩
      · have y1 := y 0 (by omega)
        simpa using y1
      · have y1 := y 1 (by omega)
        simpa using y1
    · have hj' : j = 0 ∨ j = 1 ∨ j = 2 ∨ j = 3 := by omega
      rcases hj' with f | f | f | f <;> subst f <;> first | exact absurd (by decide) nj | rfl
    · have hi' : i = 0 ∨ i = 1 ∨ i = 2 ∨ i = 3 := by omega
      rcases hi' with f | f | f | f <;> subst f <;> first | exact absurd bi (by decide) | (simp [sr] <;> grind)
  · have hj' : j = 0 ∨ j = 1 ∨ j = 2 ∨ j = 3 := by omega
    rcases hj' with f | f | f | f <;> subst f
    · have n0 : cfR a 12 3 0 0 = 0 := if_neg (by decide)
      have n1 : cfR a 12 3 1 0 = 0 := if_neg (by decide)
      simp only [sr, c00, c10, n0, n1, Rat.zero_add, Rat.add_zero]
      exact r0
    · have n0 : cfR a 12 3 0 1 = 0 := if_neg (by decide)
      have n1 : cfR a 12 3 1 1 = 0 := if_neg (by decide)
      simp only [sr, c01, c11, n0, n1, Rat.zero_add, Rat.add_zero]
      exact r1
    · have n0 : cfR a 12 3 0 2 = 0 := if_neg (by decide)
      have n1 : cfR a 12 3 1 2 = 0 := if_neg (by decide)
      have n2 : cfR a 12 3 2 2 = 0 := if_neg (by decide)
      have n3 : cfR a 12 3 3 2 = 0 := if_neg (by decide)
      simp only [sr, wz2, n0, n1, n2, n3, Rat.zero_add, Rat.add_zero, Rat.mul_zero]
    · have n0 : cfR a 12 3 0 3 = 0 := if_neg (by decide)
      have n1 : cfR a 12 3 1 3 = 0 := if_neg (by decide)
      have n2 : cfR a 12 3 2 3 = 0 := if_neg (by decide)
      have n3 : cfR a 12 3 3 3 = 0 := if_neg (by decide)
      simp only [sr, wz3, n0, n1, n2, n3, Rat.zero_add, Rat.add_zero, Rat.mul_zero]
  · have hi' : i = 0 ∨ i = 1 ∨ i = 2 ∨ i = 3 := by omega
    rcases hi' with f | f | f | f <;> subst f
    · have n0 : cfR a 12 3 0 0 = 0 := if_neg (by decide)
      have n1 : cfR a 12 3 0 1 = 0 := if_neg (by decide)
      have n2 : cfR a 12 3 0 2 = 0 := if_neg (by decide)
      have n3 : cfR a 12 3 0 3 = 0 := if_neg (by decide)
      simp only [sr, uz0, n0, n1, n2, n3, Rat.zero_add, Rat.add_zero, Rat.mul_zero]
    · have n0 : cfR a 12 3 1 0 = 0 := if_neg (by decide)
      have n1 : cfR a 12 3 1 1 = 0 := if_neg (by decide)
      have n2 : cfR a 12 3 1 2 = 0 := if_neg (by decide)
      have n3 : cfR a 12 3 1 3 = 0 := if_neg (by decide)
      simp only [sr, uz1, n0, n1, n2, n3, Rat.zero_add, Rat.add_zero, Rat.mul_zero]
    · have n2 : cfR a 12 3 2 2 = 0 := if_neg (by decide)
      have n3 : cfR a 12 3 2 3 = 0 := if_neg (by decide)
      simp only [sr, c00, c01, n2, n3, Rat.zero_add, Rat.add_zero]
      exact t0
    · have n2 : cfR a 12 3 3 2 = 0 := if_neg (by decide)
      have n3 : cfR a 12 3 3 3 = 0 := if_neg (by decide)
      simp only [sr, c10, c11, n2, n3, Rat.zero_add, Rat.add_zero]
      exact t1
theorem ev_12_5 (a : Nat → Nat → Rat) : dR a 2 12 5 = a 2 0 * a 3 2 - a 2 2 * a 3 0 ∧ cfR a 12 5 2 0 = (a 3 2) ∧ cfR a 12 5 2 2 = (-(a 3 0)) ∧ cfR a 12 5 3 0 = (-(a 2 2)) ∧ cfR a 12 5 3 2 = (a 2 0) := by
  simp [cfR, dR, exR, lowB, pop] <;> grind
theorem cr_12_5 {a : Nat → Nat → Rat} {w u : Nat → Rat} (ha : ∀ i j, i < 4 → j < 4 → 1 ≤ a i j) (hw : ∀ i, i < 4 → bN 12 i → sr (fun j => a i j * w j) 4 = 1) (w0 : ∀ j, j < 4 → ¬ bN 5 j → w j = 0) (hu : ∀ j, j < 4 → bN 5 j → sr (fun i => a i j * u i) 4 = 1) (u0 : ∀ i, i < 4 → ¬ bN 12 i → u i = 0) (hz : ∀ z : Nat → Rat, (∀ j, j < 4 → ¬ bN 5 j → z j = 0) → (∀ i, i < 4 → bN 12 i → sr (fun j => a i j * z j) 4 = 0) → ∀ j, j < 4 → z j = 0) : crP a 12 5 w u := by
  have ep : pop 12 = 2 := by decide
  obtain ⟨eD, c00, c01, c10, c11⟩ := ev_12_5 a
  have wz1 := w0 1 (by omega) (by decide)
  have wz3 := w0 3 (by omega) (by decide)
  have uz0 := u0 0 (by omega) (by decide)
  have uz1 := u0 1 (by omega) (by decide)
  have h0 : a 2 0 * w 0 + a 2 2 * w 2 = 1 := by
    have h := hw 2 (by omega) (by decide)
    simp only [sr] at h
    grind
  have h1 : a 3 0 * w 0 + a 3 2 * w 2 = 1 := by
    have h := hw 3 (by omega) (by decide)
    simp only [sr] at h
    grind
  have g0 : a 2 0 * u 2 + a 3 0 * u 3 = 1 := by
    have h := hu 0 (by omega) (by decide)
    simp only [sr] at h
    grind
  have g1 : a 2 2 * u 2 + a 3 2 * u 3 = 1 := by
    have h := hu 2 (by omega) (by decide)
    simp only [sr] at h
    grind
  obtain ⟨r0, r1, t0, t1⟩ := cram2 h0 h1 g0 g1
  unfold crP
  rw [ep, eD]
  refine ⟨fun hD => ?_, fun j hj => ?_, fun i hi => ?_⟩
  · obtain ⟨z0, z1, n, e0, e1⟩ := ker2 hD
    have y := hz (fun j => if j = 0 then z0 else if j = 2 then z1 else 0) (fun j hj nj => ?_) (fun i hi bi => ?_)
    · apply n
      refine ⟨?_, ?_⟩
      · have y1 := y 0 (by omega)
        simpa using y1
      · have y1 := y 2 (by omega)
        simpa using y1
    · have hj' : j = 0 ∨ j = 1 ∨ j = 2 ∨ j = 3 := by omega
      rcases hj' with f | f | f | f <;> subst f <;> first | exact absurd (by decide) nj | rfl
    · have hi' : i = 0 ∨ i = 1 ∨ i = 2 ∨ i = 3 := by omega
      rcases hi' with f | f | f | f <;> subst f <;> first | exact absurd bi (by decide) | (simp [sr] <;> grind)
  · have hj' : j = 0 ∨ j = 1 ∨ j = 2 ∨ j = 3 := by omega
    rcases hj' with f | f | f | f <;> subst f
    · have n0 : cfR a 12 5 0 0 = 0 := if_neg (by decide)
      have n1 : cfR a 12 5 1 0 = 0 := if_neg (by decide)
      simp only [sr, c00, c10, n0, n1, Rat.zero_add, Rat.add_zero]
      exact r0
    · have n0 : cfR a 12 5 0 1 = 0 := if_neg (by decide)
      have n1 : cfR a 12 5 1 1 = 0 := if_neg (by decide)
      have n2 : cfR a 12 5 2 1 = 0 := if_neg (by decide)
      have n3 : cfR a 12 5 3 1 = 0 := if_neg (by decide)
      simp only [sr, wz1, n0, n1, n2, n3, Rat.zero_add, Rat.add_zero, Rat.mul_zero]
    · have n0 : cfR a 12 5 0 2 = 0 := if_neg (by decide)
      have n1 : cfR a 12 5 1 2 = 0 := if_neg (by decide)
      simp only [sr, c01, c11, n0, n1, Rat.zero_add, Rat.add_zero]
      exact r1
    · have n0 : cfR a 12 5 0 3 = 0 := if_neg (by decide)
      have n1 : cfR a 12 5 1 3 = 0 := if_neg (by decide)
      have n2 : cfR a 12 5 2 3 = 0 := if_neg (by decide)
      have n3 : cfR a 12 5 3 3 = 0 := if_neg (by decide)
      simp only [sr, wz3, n0, n1, n2, n3, Rat.zero_add, Rat.add_zero, Rat.mul_zero]
  · have hi' : i = 0 ∨ i = 1 ∨ i = 2 ∨ i = 3 := by omega
    rcases hi' with f | f | f | f <;> subst f
    · have n0 : cfR a 12 5 0 0 = 0 := if_neg (by decide)
      have n1 : cfR a 12 5 0 1 = 0 := if_neg (by decide)
      have n2 : cfR a 12 5 0 2 = 0 := if_neg (by decide)
      have n3 : cfR a 12 5 0 3 = 0 := if_neg (by decide)
      simp only [sr, uz0, n0, n1, n2, n3, Rat.zero_add, Rat.add_zero, Rat.mul_zero]
    · have n0 : cfR a 12 5 1 0 = 0 := if_neg (by decide)
      have n1 : cfR a 12 5 1 1 = 0 := if_neg (by decide)
      have n2 : cfR a 12 5 1 2 = 0 := if_neg (by decide)
      have n3 : cfR a 12 5 1 3 = 0 := if_neg (by decide)
      simp only [sr, uz1, n0, n1, n2, n3, Rat.zero_add, Rat.add_zero, Rat.mul_zero]
    · have n1 : cfR a 12 5 2 1 = 0 := if_neg (by decide)
      have n3 : cfR a 12 5 2 3 = 0 := if_neg (by decide)
      simp only [sr, c00, c01, n1, n3, Rat.zero_add, Rat.add_zero]
      exact t0
    · have n1 : cfR a 12 5 3 1 = 0 := if_neg (by decide)
      have n3 : cfR a 12 5 3 3 = 0 := if_neg (by decide)
      simp only [sr, c10, c11, n1, n3, Rat.zero_add, Rat.add_zero]
      exact t1
theorem ev_12_6 (a : Nat → Nat → Rat) : dR a 2 12 6 = a 2 1 * a 3 2 - a 2 2 * a 3 1 ∧ cfR a 12 6 2 1 = (a 3 2) ∧ cfR a 12 6 2 2 = (-(a 3 1)) ∧ cfR a 12 6 3 1 = (-(a 2 2)) ∧ cfR a 12 6 3 2 = (a 2 1) := by
  simp [cfR, dR, exR, lowB, pop] <;> grind
theorem cr_12_6 {a : Nat → Nat → Rat} {w u : Nat → Rat} (ha : ∀ i j, i < 4 → j < 4 → 1 ≤ a i j) (hw : ∀ i, i < 4 → bN 12 i → sr (fun j => a i j * w j) 4 = 1) (w0 : ∀ j, j < 4 → ¬ bN 6 j → w j = 0) (hu : ∀ j, j < 4 → bN 6 j → sr (fun i => a i j * u i) 4 = 1) (u0 : ∀ i, i < 4 → ¬ bN 12 i → u i = 0) (hz : ∀ z : Nat → Rat, (∀ j, j < 4 → ¬ bN 6 j → z j = 0) → (∀ i, i < 4 → bN 12 i → sr (fun j => a i j * z j) 4 = 0) → ∀ j, j < 4 → z j = 0) : crP a 12 6 w u := by
  have ep : pop 12 = 2 := by decide
  obtain ⟨eD, c00, c01, c10, c11⟩ := ev_12_6 a
  have wz0 := w0 0 (by omega) (by decide)
  have wz3 := w0 3 (by omega) (by decide)
  have uz0 := u0 0 (by omega) (by decide)
  have uz1 := u0 1 (by omega) (by decide)
  have h0 : a 2 1 * w 1 + a 2 2 * w 2 = 1 := by
    have h := hw 2 (by omega) (by decide)
    simp only [sr] at h
    grind
  have h1 : a 3 1 * w 1 + a 3 2 * w 2 = 1 := by
    have h := hw 3 (by omega) (by decide)
    simp only [sr] at h
    grind
  have g0 : a 2 1 * u 2 + a 3 1 * u 3 = 1 := by
    have h := hu 1 (by omega) (by decide)
    simp only [sr] at h
    grind
  have g1 : a 2 2 * u 2 + a 3 2 * u 3 = 1 := by
    have h := hu 2 (by omega) (by decide)
    simp only [sr] at h
    grind
  obtain ⟨r0, r1, t0, t1⟩ := cram2 h0 h1 g0 g1
  unfold crP
  rw [ep, eD]
  refine ⟨fun hD => ?_, fun j hj => ?_, fun i hi => ?_⟩
  · obtain ⟨z0, z1, n, e0, e1⟩ := ker2 hD
    have y := hz (fun j => if j = 1 then z0 else if j = 2 then z1 else 0) (fun j hj nj => ?_) (fun i hi bi => ?_)
    · apply n
      refine ⟨?_, ?_⟩
      · have y1 := y 1 (by omega)
        simpa using y1
      · have y1 := y 2 (by omega)
        simpa using y1
    · have hj' : j = 0 ∨ j = 1 ∨ j = 2 ∨ j = 3 := by omega
      rcases hj' with f | f | f | f <;> subst f <;> first | exact absurd (by decide) nj | rfl
    · have hi' : i = 0 ∨ i = 1 ∨ i = 2 ∨ i = 3 := by omega
      rcases hi' with f | f | f | f <;> subst f <;> first | exact absurd bi (by decide) | (simp [sr] <;> grind)
  · have hj' : j = 0 ∨ j = 1 ∨ j = 2 ∨ j = 3 := by omega
    rcases hj' with f | f | f | f <;> subst f
    · have n0 : cfR a 12 6 0 0 = 0 := if_neg (by decide)
      have n1 : cfR a 12 6 1 0 = 0 := if_neg (by decide)
      have n2 : cfR a 12 6 2 0 = 0 := if_neg (by decide)
      have n3 : cfR a 12 6 3 0 = 0 := if_neg (by decide)
      simp only [sr, wz0, n0, n1, n2, n3, Rat.zero_add, Rat.add_zero, Rat.mul_zero]
    · have n0 : cfR a 12 6 0 1 = 0 := if_neg (by decide)
      have n1 : cfR a 12 6 1 1 = 0 := if_neg (by decide)
      simp only [sr, c00, c10, n0, n1, Rat.zero_add, Rat.add_zero]
      exact r0
    · have n0 : cfR a 12 6 0 2 = 0 := if_neg (by decide)
      have n1 : cfR a 12 6 1 2 = 0 := if_neg (by decide)
      simp only [sr, c01, c11, n0, n1, Rat.zero_add, Rat.add_zero]
      exact r1
    · have n0 : cfR a 12 6 0 3 = 0 := if_neg (by decide)
      have n1 : cfR a 12 6 1 3 = 0 := if_neg (by decide)
      have n2 : cfR a 12 6 2 3 = 0 := if_neg (by decide)
      have n3 : cfR a 12 6 3 3 = 0 := if_neg (by decide)
      simp only [sr, wz3, n0, n1, n2, n3, Rat.zero_add, Rat.add_zero, Rat.mul_zero]
  · have hi' : i = 0 ∨ i = 1 ∨ i = 2 ∨ i = 3 := by omega
    rcases hi' with f | f | f | f <;> subst f
    · have n0 : cfR a 12 6 0 0 = 0 := if_neg (by decide)
      have n1 : cfR a 12 6 0 1 = 0 := if_neg (by decide)
      have n2 : cfR a 12 6 0 2 = 0 := if_neg (by decide)
      have n3 : cfR a 12 6 0 3 = 0 := if_neg (by decide)
      simp only [sr, uz0, n0, n1, n2, n3, Rat.zero_add, Rat.add_zero, Rat.mul_zero]
    · have n0 : cfR a 12 6 1 0 = 0 := if_neg (by decide)
      have n1 : cfR a 12 6 1 1 = 0 := if_neg (by decide)
      have n2 : cfR a 12 6 1 2 = 0 := if_neg (by decide)
      have n3 : cfR a 12 6 1 3 = 0 := if_neg (by decide)
      simp only [sr, uz1, n0, n1, n2, n3, Rat.zero_add, Rat.add_zero, Rat.mul_zero]
    · have n0 : cfR a 12 6 2 0 = 0 := if_neg (by decide)
      have n3 : cfR a 12 6 2 3 = 0 := if_neg (by decide)
      simp only [sr, c00, c01, n0, n3, Rat.zero_add, Rat.add_zero]
      exact t0
    · have n0 : cfR a 12 6 3 0 = 0 := if_neg (by decide)
      have n3 : cfR a 12 6 3 3 = 0 := if_neg (by decide)
      simp only [sr, c10, c11, n0, n3, Rat.zero_add, Rat.add_zero]
      exact t1
theorem ev_12_9 (a : Nat → Nat → Rat) : dR a 2 12 9 = a 2 0 * a 3 3 - a 2 3 * a 3 0 ∧ cfR a 12 9 2 0 = (a 3 3) ∧ cfR a 12 9 2 3 = (-(a 3 0)) ∧ cfR a 12 9 3 0 = (-(a 2 3)) ∧ cfR a 12 9 3 3 = (a 2 0) := by
  simp [cfR, dR, exR, lowB, pop] <;> grind
theorem cr_12_9 {a : Nat → Nat → Rat} {w u : Nat → Rat} (ha : ∀ i j, i < 4 → j < 4 → 1 ≤ a i j) (hw : ∀ i, i < 4 → bN 12 i → sr (fun j => a i j * w j) 4 = 1) (w0 : ∀ j, j < 4 → ¬ bN 9 j → w j = 0) (hu : ∀ j, j < 4 → bN 9 j → sr (fun i => a i j * u i) 4 = 1) (u0 : ∀ i, i < 4 → ¬ bN 12 i → u i = 0) (hz : ∀ z : Nat → Rat, (∀ j, j < 4 → ¬ bN 9 j → z j = 0) → (∀ i, i < 4 → bN 12 i → sr (fun j => a i j * z j) 4 = 0) → ∀ j, j < 4 → z j = 0) : crP a 12 9 w u := by
  have ep : pop 12 = 2 := by decide
  obtain ⟨eD, c00, c01, c10, c11⟩ := ev_12_9 a
  have wz1 := w0 1 (by omega) (by decide)
  have wz2 := w0 2 (by omega) (by decide)
  have uz0 := u0 0 (by omega) (by decide)
  have uz1 := u0 1 (by omega) (by decide)
  have h0 : a 2 0 * w 0 + a 2 3 * w 3 = 1 := by
    have h := hw 2 (by omega) (by decide)
    simp only [sr] at h
    grind
  have h1 : a 3 0 * w 0 + a 3 3 * w 3 = 1 := by
    have h := hw 3 (by omega) (by decide)
    simp only [sr] at h
    grind
  have g0 : a 2 0 * u 2 + a 3 0 * u 3 = 1 := by
    have h := hu 0 (by omega) (by decide)
    simp only [sr] at h
    grind
  have g1 : a 2 3 * u 2 + a 3 3 * u 3 = 1 := by
    have h := hu 3 (by omega) (by decide)
    simp only [sr] at h
    grind
  obtain ⟨r0, r1, t0, t1⟩ := cram2 h0 h1 g0 g1
  unfold crP
  rw [ep, eD]
  refine ⟨fun hD => ?_, fun j hj => ?_, fun i hi => ?_⟩
  · obtain ⟨z0, z1, n, e0, e1⟩ := ker2 hD
    have y := hz (fun j => if j = 0 then z0 else if j = 3 then z1 else 0) (fun j hj nj => ?_) (fun i hi bi => ?_)
    · apply n
      refine ⟨?_, ?_⟩
      · have y1 := y 0 (by omega)
        simpa using y1
      · have y1 := y 3 (by omega)
        simpa using y1
    · have hj' : j = 0 ∨ j = 1 ∨ j = 2 ∨ j = 3 := by omega
      rcases hj' with f | f | f | f <;> subst f <;> first | exact absurd (by decide) nj | rfl
    · have hi' : i = 0 ∨ i = 1 ∨ i = 2 ∨ i = 3 := by omega
      rcases hi' with f | f | f | f <;> subst f <;> first | exact absurd bi (by decide) | (simp [sr] <;> grind)
  · have hj' : j = 0 ∨ j = 1 ∨ j = 2 ∨ j = 3 := by omega
    rcases hj' with f | f | f | f <;> subst f
    · have n0 : cfR a 12 9 0 0 = 0 := if_neg (by decide)
      have n1 : cfR a 12 9 1 0 = 0 := if_neg (by decide)
      simp only [sr, c00, c10, n0, n1, Rat.zero_add, Rat.add_zero]
      exact r0
    · have n0 : cfR a 12 9 0 1 = 0 := if_neg (by decide)
      have n1 : cfR a 12 9 1 1 = 0 := if_neg (by decide)
      have n2 : cfR a 12 9 2 1 = 0 := if_neg (by decide)
      have n3 : cfR a 12 9 3 1 = 0 := if_neg (by decide)
      simp only [sr, wz1, n0, n1, n2, n3, Rat.zero_add, Rat.add_zero, Rat.mul_zero]
    · have n0 : cfR a 12 9 0 2 = 0 := if_neg (by decide)
      have n1 : cfR a 12 9 1 2 = 0 := if_neg (by decide)
      have n2 : cfR a 12 9 2 2 = 0 := if_neg (by decide)
      have n3 : cfR a 12 9 3 2 = 0 := if_neg (by decide)
      simp only [sr, wz2, n0, n1, n2, n3, Rat.zero_add, Rat.add_zero, Rat.mul_zero]
    · have n0 : cfR a 12 9 0 3 = 0 := if_neg (by decide)
      have n1 : cfR a 12 9 1 3 = 0 := if_neg (by decide)
      simp only [sr, c01, c11, n0, n1, Rat.zero_add, Rat.add_zero]
      exact r1
  · have hi' : i = 0 ∨ i = 1 ∨ i = 2 ∨ i = 3 := by omega
    rcases hi' with f | f | f | f <;> subst f
    · have n0 : cfR a 12 9 0 0 = 0 := if_neg (by decide)
      have n1 : cfR a 12 9 0 1 = 0 := if_neg (by decide)
      have n2 : cfR a 12 9 0 2 = 0 := if_neg (by decide)
      have n3 : cfR a 12 9 0 3 = 0 := if_neg (by decide)
      simp only [sr, uz0, n0, n1, n2, n3, Rat.zero_add, Rat.add_zero, Rat.mul_zero]
    · have n0 : cfR a 12 9 1 0 = 0 := if_neg (by decide)
      have n1 : cfR a 12 9 1 1 = 0 := if_neg (by decide)
      have n2 : cfR a 12 9 1 2 = 0 := if_neg (by decide)
      have n3 : cfR a 12 9 1 3 = 0 := if_neg (by decide)
      simp only [sr, uz1, n0, n1, n2, n3, Rat.zero_add, Rat.add_zero, Rat.mul_zero]
    · have n1 : cfR a 12 9 2 1 = 0 := if_neg (by decide)
      have n2 : cfR a 12 9 2 2 = 0 := if_neg (by decide)
      simp only [sr, c00, c01, n1, n2, Rat.zero_add, Rat.add_zero]
      exact t0
    · have n1 : cfR a 12 9 3 1 = 0 := if_neg (by decide)
      have n2 : cfR a 12 9 3 2 = 0 := if_neg (by decide)
      simp only [sr, c10, c11, n1, n2, Rat.zero_add, Rat.add_zero]
      exact t1
theorem ev_12_10 (a : Nat → Nat → Rat) : dR a 2 12 10 = a 2 1 * a 3 3 - a 2 3 * a 3 1 ∧ cfR a 12 10 2 1 = (a 3 3) ∧ cfR a 12 10 2 3 = (-(a 3 1)) ∧ cfR a 12 10 3 1 = (-(a 2 3)) ∧ cfR a 12 10 3 3 = (a 2 1) := by
  simp [cfR, dR, exR, lowB, pop] <;> grind
theorem cr_12_10 {a : Nat → Nat → Rat} {w u : Nat → Rat} (ha : ∀ i j, i < 4 → j < 4 → 1 ≤ a i j) (hw : ∀ i, i < 4 → bN 12 i → sr (fun j => a i j * w j) 4 = 1) (w0 : ∀ j, j < 4 → ¬ bN 10 j → w j = 0) (hu : ∀ j, j < 4 → bN 10 j → sr (fun i => a i j * u i) 4 = 1) (u0 : ∀ i, i < 4 → ¬ bN 12 i → u i = 0) (hz : ∀ z : Nat → Rat, (∀ j, j < 4 → ¬ bN 10 j → z j = 0) → (∀ i, i < 4 → bN 12 i → sr (fun j => a i j * z j) 4 = 0) → ∀ j, j < 4 → z j = 0) : crP a 12 10 w u := by
  have ep : pop 12 = 2 := by decide
  obtain ⟨eD, c00, c01, c10, c11⟩ := ev_12_10 a
  have wz0 := w0 0 (by omega) (by decide)
  have wz2 := w0 2 (by omega) (by decide)
  have uz0 := u0 0 (by omega) (by decide)
  have uz1 := u0 1 (by omega) (by decide)
  have h0 : a 2 1 * w 1 + a 2 3 * w 3 = 1 := by
    have h := hw 2 (by omega) (by decide)
    simp only [sr] at h
    grind
  have h1 : a 3 1 * w 1 + a 3 3 * w 3 = 1 := by
    have h := hw 3 (by omega) (by decide)
    simp only [sr] at h
    grind
  have g0 : a 2 1 * u 2 + a 3 1 * u 3 = 1 := by
    have h := hu 1 (by omega) (by decide)
    simp only [sr] at h
    grind
  have g1 : a 2 3 * u 2 + a 3 3 * u 3 = 1 := by
    have h := hu 3 (by omega) (by decide)
    simp only [sr] at h
    grind
  obtain ⟨r0, r1, t0, t1⟩ := cram2 h0 h1 g0 g1
  unfold crP
  rw [ep, eD]
  refine ⟨fun hD => ?_, fun j hj => ?_, fun i hi => ?_⟩
  · obtain ⟨z0, z1, n, e0, e1⟩ := ker2 hD
    have y := hz (fun j => if j = 1 then z0 else if j = 3 then z1 else 0) (fun j hj nj => ?_) (fun i hi bi => ?_)
    · apply n
      refine ⟨?_, ?_⟩
      · have y1 := y 1 (by omega)
        simpa using y1
      · have y1 := y 3 (by omega)
        simpa using y1
    · have hj' : j = 0 ∨ j = 1 ∨ j = 2 ∨ j = 3 := by omega
      rcases hj' with f | f | f | f <;> subst f <;> first | exact absurd (by decide) nj | rfl
    · have hi' : i = 0 ∨ i = 1 ∨ i = 2 ∨ i = 3 := by omega
      rcases hi' with f | f | f | f <;> subst f <;> first | exact absurd bi (by decide) | (simp [sr] <;> grind)
  · have hj' : j = 0 ∨ j = 1 ∨ j = 2 ∨ j = 3 := by omega
    rcases hj' with f | f | f | f <;> subst f
    · have n0 : cfR a 12 10 0 0 = 0 := if_neg (by decide)
      have n1 : cfR a 12 10 1 0 = 0 := if_neg (by decide)
      have n2 : cfR a 12 10 2 0 = 0 := if_neg (by decide)
      have n3 : cfR a 12 10 3 0 = 0 := if_neg (by decide)
      simp only [sr, wz0, n0, n1, n2, n3, Rat.zero_add, Rat.add_zero, Rat.mul_zero]
    · have n0 : cfR a 12 10 0 1 = 0 := if_neg (by decide)
      have n1 : cfR a 12 10 1 1 = 0 := if_neg (by decide)
      simp only [sr, c00, c10, n0, n1, Rat.zero_add, Rat.add_zero]
      exact r0
    · have n0 : cfR a 12 10 0 2 = 0 := if_neg (by decide)
      have n1 : cfR a 12 10 1 2 = 0 := if_neg (by decide)
      have n2 : cfR a 12 10 2 2 = 0 := if_neg (by decide)
      have n3 : cfR a 12 10 3 2 = 0 := if_neg (by decide)
      simp only [sr, wz2, n0, n1, n2, n3, Rat.zero_add, Rat.add_zero, Rat.mul_zero]
    · have n0 : cfR a 12 10 0 3 = 0 := if_neg (by decide)
      have n1 : cfR a 12 10 1 3 = 0 := if_neg (by decide)
      simp only [sr, c01, c11, n0, n1, Rat.zero_add, Rat.add_zero]
      exact r1
  · have hi' : i = 0 ∨ i = 1 ∨ i = 2 ∨ i = 3 := by omega
    rcases hi' with f | f | f | f <;> subst f
    · have n0 : cfR a 12 10 0 0 = 0 := if_neg (by decide)
      have n1 : cfR a 12 10 0 1 = 0 := if_neg (by decide)
      have n2 : cfR a 12 10 0 2 = 0 := if_neg (by decide)
      have n3 : cfR a 12 10 0 3 = 0 := if_neg (by decide)
      simp only [sr, uz0, n0, n1, n2, n3, Rat.zero_add, Rat.add_zero, Rat.mul_zero]
    · have n0 : cfR a 12 10 1 0 = 0 := if_neg (by decide)
      have n1 : cfR a 12 10 1 1 = 0 := if_neg (by decide)
      have n2 : cfR a 12 10 1 2 = 0 := if_neg (by decide)
      have n3 : cfR a 12 10 1 3 = 0 := if_neg (by decide)
      simp only [sr, uz1, n0, n1, n2, n3, Rat.zero_add, Rat.add_zero, Rat.mul_zero]
    · have n0 : cfR a 12 10 2 0 = 0 := if_neg (by decide)
      have n2 : cfR a 12 10 2 2 = 0 := if_neg (by decide)
      simp only [sr, c00, c01, n0, n2, Rat.zero_add, Rat.add_zero]
      exact t0
    · have n0 : cfR a 12 10 3 0 = 0 := if_neg (by decide)
      have n2 : cfR a 12 10 3 2 = 0 := if_neg (by decide)
      simp only [sr, c10, c11, n0, n2, Rat.zero_add, Rat.add_zero]
      exact t1
theorem ev_12_12 (a : Nat → Nat → Rat) : dR a 2 12 12 = a 2 2 * a 3 3 - a 2 3 * a 3 2 ∧ cfR a 12 12 2 2 = (a 3 3) ∧ cfR a 12 12 2 3 = (-(a 3 2)) ∧ cfR a 12 12 3 2 = (-(a 2 3)) ∧ cfR a 12 12 3 3 = (a 2 2) := by
  simp [cfR, dR, exR, lowB, pop] <;> grind
theorem cr_12_12 {a : Nat → Nat → Rat} {w u : Nat → Rat} (ha : ∀ i j, i < 4 → j < 4 → 1 ≤ a i j) (hw : ∀ i, i < 4 → bN 12 i → sr (fun j => a i j * w j) 4 = 1) (w0 : ∀ j, j < 4 → ¬ bN 12 j → w j = 0) (hu : ∀ j, j < 4 → bN 12 j → sr (fun i => a i j * u i) 4 = 1) (u0 : ∀ i, i < 4 → ¬ bN 12 i → u i = 0) (hz : ∀ z : Nat → Rat, (∀ j, j < 4 → ¬ bN 12 j → z j = 0) → (∀ i, i < 4 → bN 12 i → sr (fun j => a i j * z j) 4 = 0) → ∀ j, j < 4 → z j = 0) : crP a 12 12 w u := by
  have ep : pop 12 = 2 := by decide
  obtain ⟨eD, c00, c01, c10, c11⟩ := ev_12_12 a
  have wz0 := w0 0 (by omega) (by decide)
  have wz1 := w0 1 (by omega) (by decide)
  have uz0 := u0 0 (by omega) (by decide)
  have uz1 := u0 1 (by omega) (by decide)
  have h0 : a 2 2 * w 2 + a 2 3 * w 3 = 1 := by
    have h := hw 2 (by omega) (by decide)
    simp only [sr] at h
    grind
  have h1 : a 3 2 * w 2 + a 3 3 * w 3 = 1 := by
    have h := hw 3 (by omega) (by decide)
    simp only [sr] at h
    grind
  have g0 : a 2 2 * u 2 + a 3 2 * u 3 = 1 := by
    have h := hu 2 (by omega) (by decide)
    simp only [sr] at h
    grind
  have g1 : a 2 3 * u 2 + a 3 3 * u 3 = 1 := by
    have h := hu 3 (by omega) (by decide)
    simp only [sr] at h
    grind
  obtain ⟨r0, r1, t0, t1⟩ := cram2 h0 h1 g0 g1
  unfold crP
  rw [ep, eD]
  refine ⟨fun hD => ?_, fun j hj => ?_, fun i hi => ?_⟩
  · obtain ⟨z0, z1, n, e0, e1⟩ := ker2 hD
    have y := hz (fun j => if j = 2 then z0 else if j = 3 then z1 else 0) (fun j hj nj => ?_) (fun i hi bi => ?_)
    · apply n
      refine ⟨?_, ?_⟩
      · have y1 := y 2 (by omega)
        simpa using y1
      · have y1 := y 3 (by omega)
        simpa using y1
    · have hj' : j = 0 ∨ j = 1 ∨ j = 2 ∨ j = 3 := by omega
      rcases hj' with f | f | f | f <;> subst f <;> first | exact absurd (by decide) nj | rfl
    · have hi' : i = 0 ∨ i = 1 ∨ i = 2 ∨ i = 3 := by omega
      rcases hi' with f | f | f | f <;> subst f <;> first | exact absurd bi (by decide) | (simp [sr] <;> grind)
  · have hj' : j = 0 ∨ j = 1 ∨ j = 2 ∨ j = 3 := by omega
    rcases hj' with f | f | f | f <;> subst f
    · have n0 : cfR a 12 12 0 0 = 0 := if_neg (by decide)
      have n1 : cfR a 12 12 1 0 = 0 := if_neg (by decide)
      have n2 : cfR a 12 12 2 0 = 0 := if_neg (by decide)
      have n3 : cfR a 12 12 3 0 = 0 := if_neg (by decide)
      simp only [sr, wz0, n0, n1, n2, n3, Rat.zero_add, Rat.add_zero, Rat.mul_zero]
    · have n0 : cfR a 12 12 0 1 = 0 := if_neg (by decide)
      have n1 : cfR a 12 12 1 1 = 0 := if_neg (by decide)
      have n2 : cfR a 12 12 2 1 = 0 := if_neg (by decide)
      have n3 : cfR a 12 12 3 1 = 0 := if_neg (by decide)
      simp only [sr, wz1, n0, n1, n2, n3, Rat.zero_add, Rat.add_zero, Rat.mul_zero]
    · have n0 : cfR a 12 12 0 2 = 0 := if_neg (by decide)
      have n1 : cfR a 12 12 1 2 = 0 := if_neg (by decide)
      simp only [sr, c00, c10, n0, n1, Rat.zero_add, Rat.add_zero]
      exact r0
    · have n0 : cfR a 12 12 0 3 = 0 := if_neg (by decide)
      have n1 : cfR a 12 12 1 3 = 0 := if_neg (by decide)
      simp only [sr, c01, c11, n0, n1, Rat.zero_add, Rat.add_zero]
      exact r1
  · have hi' : i = 0 ∨ i = 1 ∨ i = 2 ∨ i = 3 := by omega
    rcases hi' with f | f | f | f <;> subst f
    · have n0 : cfR a 12 12 0 0 = 0 := if_neg (by decide)
      have n1 : cfR a 12 12 0 1 = 0 := if_neg (by decide)
      have n2 : cfR a 12 12 0 2 = 0 := if_neg (by decide)
      have n3 : cfR a 12 12 0 3 = 0 := if_neg (by decide)
      simp only [sr, uz0, n0, n1, n2, n3, Rat.zero_add, Rat.add_zero, Rat.mul_zero]
    · have n0 : cfR a 12 12 1 0 = 0 := if_neg (by decide)
      have n1 : cfR a 12 12 1 1 = 0 := if_neg (by decide)
      have n2 : cfR a 12 12 1 2 = 0 := if_neg (by decide)
      have n3 : cfR a 12 12 1 3 = 0 := if_neg (by decide)
      simp only [sr, uz1, n0, n1, n2, n3, Rat.zero_add, Rat.add_zero, Rat.mul_zero]
    · have n0 : cfR a 12 12 2 0 = 0 := if_neg (by decide)
      have n1 : cfR a 12 12 2 1 = 0 := if_neg (by decide)
      simp only [sr, c00, c01, n0, n1, Rat.zero_add, Rat.add_zero]
      exact t0
    · have n0 : cfR a 12 12 3 0 = 0 := if_neg (by decide)
      have n1 : cfR a 12 12 3 1 = 0 := if_neg (by decide)
      simp only [sr, c10, c11, n0, n1, Rat.zero_add, Rat.add_zero]
      exact t1

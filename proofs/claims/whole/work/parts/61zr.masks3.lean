theorem ev_7_7 (a : Nat → Nat → Rat) : dR a 3 7 7 = a 0 0 * (a 1 1 * a 2 2 - a 1 2 * a 2 1) - a 0 1 * (a 1 0 * a 2 2 - a 1 2 * a 2 0) + a 0 2 * (a 1 0 * a 2 1 - a 1 1 * a 2 0) ∧ cfR a 7 7 0 0 = (a 1 1 * a 2 2 - a 1 2 * a 2 1) ∧ cfR a 7 7 0 1 = (-(a 1 0 * a 2 2 - a 1 2 * a 2 0)) ∧ cfR a 7 7 0 2 = (a 1 0 * a 2 1 - a 1 1 * a 2 0) ∧ cfR a 7 7 1 0 = (-(a 0 1 * a 2 2 - a 0 2 * a 2 1)) ∧ cfR a 7 7 1 1 = (a 0 0 * a 2 2 - a 0 2 * a 2 0) ∧ cfR a 7 7 1 2 = (-(a 0 0 * a 2 1 - a 0 1 * a 2 0)) ∧ cfR a 7 7 2 0 = (a 0 1 * a 1 2 - a 0 2 * a 1 1) ∧ cfR a 7 7 2 1 = (-(a 0 0 * a 1 2 - a 0 2 * a 1 0)) ∧ cfR a 7 7 2 2 = (a 0 0 * a 1 1 - a 0 1 * a 1 0) := by
  simp [cfR, dR, exR, lowB, pop] <;> grind
theorem cr_7_7 {a : Nat → Nat → Rat} {w u : Nat → Rat} (ha : ∀ i j, i < 4 → j < 4 → 1 ≤ a i j) (hw : ∀ i, i < 4 → bN 7 i → sr (fun j => a i j * w j) 4 = 1) (w0 : ∀ j, j < 4 → ¬ bN 7 j → w j = 0) (hu : ∀ j, j < 4 → bN 7 j → sr (fun i => a i j * u i) 4 = 1) (u0 : ∀ i, i < 4 → ¬ bN 7 i → u i = 0) (hz : ∀ z : Nat → Rat, (∀ j, j < 4 → ¬ bN 7 j → z j = 0) → (∀ i, i < 4 → bN 7 i → sr (fun j => a i j * z j) 4 = 0) → ∀ j, j < 4 → z j = 0) : crP a 7 7 w u := by
  have ep : pop 7 = 3 := by decide
  obtain ⟨eD, c00, c01, c02, c10, c11, c12, c20, c21, c22⟩ := ev_7_7 a
  have wz3 := w0 3 (by omega) (by decide)
  have uz3 := u0 3 (by omega) (by decide)
  have h0 : a 0 0 * w 0 + a 0 1 * w 1 + a 0 2 * w 2 = 1 := by
    have h := hw 0 (by omega) (by decide)
    simp only [sr] at h
    grind
  have h1 : a 1 0 * w 0 + a 1 1 * w 1 + a 1 2 * w 2 = 1 := by
    have h := hw 1 (by omega) (by decide)
    simp only [sr] at h
    grind
  have h2 : a 2 0 * w 0 + a 2 1 * w 1 + a 2 2 * w 2 = 1 := by
    have h := hw 2 (by omega) (by decide)
    simp only [sr] at h
    grind
  have g0 : a 0 0 * u 0 + a 1 0 * u 1 + a 2 0 * u 2 = 1 := by
    have h := hu 0 (by omega) (by decide)
    simp only [sr] at h
    grind
  have g1 : a 0 1 * u 0 + a 1 1 * u 1 + a 2 1 * u 2 = 1 := by
    have h := hu 1 (by omega) (by decide)
    simp only [sr] at h
    grind
  have g2 : a 0 2 * u 0 + a 1 2 * u 1 + a 2 2 * u 2 = 1 := by
    have h := hu 2 (by omega) (by decide)
    simp only [sr] at h
    grind
  obtain ⟨r0, r1, r2, t0, t1, t2⟩ := cram3 h0 h1 h2 g0 g1 g2
  unfold crP
  rw [ep, eD]
  refine ⟨fun hD => ?_, fun j hj => ?_, fun i hi => ?_⟩
  · obtain ⟨z0, z1, z2, n, e0, e1, e2⟩ := ker3 hD
    have y := hz (fun j => if j = 0 then z0 else if j = 1 then z1 else if j = 2 then z2 else 0) (fun j hj nj => ?_) (fun i hi bi => ?_)
    · apply n
      refine ⟨?_, ?_, ?_⟩
      · have y1 := y 0 (by omega)
        simpa using y1
      · have y1 := y 1 (by omega)
        simpa using y1
      · have y1 := y 2 (by omega)
        simpa using y1
    · have hj' : j = 0 ∨ j = 1 ∨ j = 2 ∨ j = 3 := by omega
      rcases hj' with f | f | f | f <;> subst f <;> first | exact absurd (by decide) nj | rfl
    · have hi' : i = 0 ∨ i = 1 ∨ i = 2 ∨ i = 3 := by omega
      rcases hi' with f | f | f | f <;> subst f <;> first | exact absurd bi (by decide) | (simp [sr] <;> grind)
  · have hj' : j = 0 ∨ j = 1 ∨ j = 2 ∨ j = 3 := by omega
    rcases hj' with f | f | f | f <;> subst f
    · have n3 : cfR a 7 7 3 0 = 0 := if_neg (by decide)
      simp only [sr, c00, c10, c20, n3, Rat.zero_add, Rat.add_zero]
      exact r0
    · have n3 : cfR a 7 7 3 1 = 0 := if_neg (by decide)
      simp only [sr, c01, c11, c21, n3, Rat.zero_add, Rat.add_zero]
      exact r1
    · have n3 : cfR a 7 7 3 2 = 0 := if_neg (by decide)
      simp only [sr, c02, c12, c22, n3, Rat.zero_add, Rat.add_zero]
      exact r2
    · have n0 : cfR a 7 7 0 3 = 0 := if_neg (by decide)
      have n1 : cfR a 7 7 1 3 = 0 := if_neg (by decide)
      have n2 : cfR a 7 7 2 3 = 0 := if_neg (by decide)
      have n3 : cfR a 7 7 3 3 = 0 := if_neg (by decide)
      simp only [sr, wz3, n0, n1, n2, n3, Rat.zero_add, Rat.add_zero, Rat.mul_zero]
  · have hi' : i = 0 ∨ i = 1 ∨ i = 2 ∨ i = 3 := by omega
    rcases hi' with f | f | f | f <;> subst f
    · have n3 : cfR a 7 7 0 3 = 0 := if_neg (by decide)
      simp only [sr, c00, c01, c02, n3, Rat.zero_add, Rat.add_zero]
      exact t0
    · have n3 : cfR a 7 7 1 3 = 0 := if_neg (by decide)
      simp only [sr, c10, c11, c12, n3, Rat.zero_add, Rat.add_zero]
      exact t1
    · have n3 : cfR a 7 7 2 3 = 0 := if_neg (by decide)
      simp only [sr, c20, c21, c22, n3, Rat.zero_add, Rat.add_zero]
      exact t2
    · have n0 : cfR a 7 7 3 0 = 0 := if_neg (by decide)
      have n1 : cfR a 7 7 3 1 = 0 := if_neg (by decide)
      have n2 : cfR a 7 7 3 2 = 0 := if_neg (by decide)
      have n3 : cfR a 7 7 3 3 = 0 := if_neg (by decide)
      simp only [sr, uz3, n0, n1, n2, n3, Rat.zero_add, Rat.add_zero, Rat.mul_zero]
theorem ev_7_11 (a : Nat → Nat → Rat) : dR a 3 7 11 = a 0 0 * (a 1 1 * a 2 3 - a 1 3 * a 2 1) - a 0 1 * (a 1 0 * a 2 3 - a 1 3 * a 2 0) + a 0 3 * (a 1 0 * a 2 1 - a 1 1 * a 2 0) ∧ cfR a 7 11 0 0 = (a 1 1 * a 2 3 - a 1 3 * a 2 1) ∧ cfR a 7 11 0 1 = (-(a 1 0 * a 2 3 - a 1 3 * a 2 0)) ∧ cfR a 7 11 0 3 = (a 1 0 * a 2 1 - a 1 1 * a 2 0) ∧ cfR a 7 11 1 0 = (-(a 0 1 * a 2 3 - a 0 3 * a 2 1)) ∧ cfR a 7 11 1 1 = (a 0 0 * a 2 3 - a 0 3 * a 2 0) ∧ cfR a 7 11 1 3 = (-(a 0 0 * a 2 1 - a 0 1 * a 2 0)) ∧ cfR a 7 11 2 0 = (a 0 1 * a 1 3 - a 0 3 * a 1 1) ∧ cfR a 7 11 2 1 = (-(a 0 0 * a 1 3 - a 0 3 * a 1 0)) ∧ cfR a 7 11 2 3 = (a 0 0 * a 1 1 - a 0 1 * a 1 0) := by
  simp [cfR, dR, exR, lowB, pop] <;> grind
theorem cr_7_11 {a : Nat → Nat → Rat} {w u : Nat → Rat} (ha : ∀ i j, i < 4 → j < 4 → 1 ≤ a i j) (hw : ∀ i, i < 4 → bN 7 i → sr (fun j => a i j * w j) 4 = 1) (w0 : ∀ j, j < 4 → ¬ bN 11 j → w j = 0) (hu : ∀ j, j < 4 → bN 11 j → sr (fun i => a i j * u i) 4 = 1) (u0 : ∀ i, i < 4 → ¬ bN 7 i → u i = 0) (hz : ∀ z : Nat → Rat, (∀ j, j < 4 → ¬ bN 11 j → z j = 0) → (∀ i, i < 4 → bN 7 i → sr (fun j => a i j * z j) 4 = 0) → ∀ j, j < 4 → z j = 0) : crP a 7 11 w u := by
  have ep : pop 7 = 3 := by decide
  obtain ⟨eD, c00, c01, c02, c10, c11, c12, c20, c21, c22⟩ := ev_7_11 a
  have wz2 := w0 2 (by omega) (by decide)
  have uz3 := u0 3 (by omega) (by decide)
  have h0 : a 0 0 * w 0 + a 0 1 * w 1 + a 0 3 * w 3 = 1 := by
    have h := hw 0 (by omega) (by decide)
    simp only [sr] at h
    grind
  have h1 : a 1 0 * w 0 + a 1 1 * w 1 + a 1 3 * w 3 = 1 := by
    have h := hw 1 (by omega) (by decide)
    simp only [sr] at h
    grind
  have h2 : a 2 0 * w 0 + a 2 1 * w 1 + a 2 3 * w 3 = 1 := by
    have h := hw 2 (by omega) (by decide)
    simp only [sr] at h
    grind
  have g0 : a 0 0 * u 0 + a 1 0 * u 1 + a 2 0 * u 2 = 1 := by
    have h := hu 0 (by omega) (by decide)
    simp only [sr] at h
    grind
  have g1 : a 0 1 * u 0 + a 1 1 * u 1 + a 2 1 * u 2 = 1 := by
    have h := hu 1 (by omega) (by decide)
    simp only [sr] at h
    grind
  have g2 : a 0 3 * u 0 + a 1 3 * u 1 + a 2 3 * u 2 = 1 := by
    have h := hu 3 (by omega) (by decide)
    simp only [sr] at h
    grind
  obtain ⟨r0, r1, r2, t0, t1, t2⟩ := cram3 h0 h1 h2 g0 g1 g2
  unfold crP
  rw [ep, eD]
  refine ⟨fun hD => ?_, fun j hj => ?_, fun i hi => ?_⟩
  · obtain ⟨z0, z1, z2, n, e0, e1, e2⟩ := ker3 hD
    have y := hz (fun j => if j = 0 then z0 else if j = 1 then z1 else if j = 3 then z2 else 0) (fun j hj nj => ?_) (fun i hi bi => ?_)
    · apply n
      refine ⟨?_, ?_, ?_⟩
      · have y1 := y 0 (by omega)
        simpa using y1
      · have y1 := y 1 (by omega)
        simpa using y1
      · have y1 := y 3 (by omega)
        simpa using y1
    · have hj' : j = 0 ∨ j = 1 ∨ j = 2 ∨ j = 3 := by omega
      rcases hj' with f | f | f | f <;> subst f <;> first | exact absurd (by decide) nj | rfl
    · have hi' : i = 0 ∨ i = 1 ∨ i = 2 ∨ i = 3 := by omega
      rcases hi' with f | f | f | f <;> subst f <;> first | exact absurd bi (by decide) | (simp [sr] <;> grind)
  · have hj' : j = 0 ∨ j = 1 ∨ j = 2 ∨ j = 3 := by omega
    rcases hj' with f | f | f | f <;> subst f
    · have n3 : cfR a 7 11 3 0 = 0 := if_neg (by decide)
      simp only [sr, c00, c10, c20, n3, Rat.zero_add, Rat.add_zero]
      exact r0
    · have n3 : cfR a 7 11 3 1 = 0 := if_neg (by decide)
      simp only [sr, c01, c11, c21, n3, Rat.zero_add, Rat.add_zero]
      exact r1
    · have n0 : cfR a 7 11 0 2 = 0 := if_neg (by decide)
      have n1 : cfR a 7 11 1 2 = 0 := if_neg (by decide)
      have n2 : cfR a 7 11 2 2 = 0 := if_neg (by decide)
      have n3 : cfR a 7 11 3 2 = 0 := if_neg (by decide)
      simp only [sr, wz2, n0, n1, n2, n3, Rat.zero_add, Rat.add_zero, Rat.mul_zero]
    · have n3 : cfR a 7 11 3 3 = 0 := if_neg (by decide)
      simp only [sr, c02, c12, c22, n3, Rat.zero_add, Rat.add_zero]
      exact r2
  · have hi' : i = 0 ∨ i = 1 ∨ i = 2 ∨ i = 3 := by omega
    rcases hi' with f | f | f | f <;> subst f
    · have n2 : cfR a 7 11 0 2 = 0 := if_neg (by decide)
      simp only [sr, c00, c01, c02, n2, Rat.zero_add, Rat.add_zero]
      exact t0
    · have n2 : cfR a 7 11 1 2 = 0 := if_neg (by decide)
      simp only [sr, c10, c11, c12, n2, Rat.zero_add, Rat.add_zero]
      exact t1
    · have n2 : cfR a 7 11 2 2 = 0 := if_neg (by decide)
      simp only [sr, c20, c21, c22, n2, Rat.zero_add, Rat.add_zero]
      exact t2
    · have n0 : cfR a 7 11 3 0 = 0 := if_neg (by decide)
      have n1 : cfR a 7 11 3 1 = 0 := if_neg (by decide)
      have n2 : cfR a 7 11 3 2 = 0 := if_neg (by decide)
      have n3 : cfR a 7 11 3 3 = 0 := if_neg (by decide)
      simp only [sr, uz3, n0, n1, n2, n3, Rat.zero_add, Rat.add_zero, Rat.mul_zero]
theorem ev_7_13 (a : Nat → Nat → Rat) : dR a 3 7 13 = a 0 0 * (a 1 2 * a 2 3 - a 1 3 * a 2 2) - a 0 2 * (a 1 0 * a 2 3 - a 1 3 * a 2 0) + a 0 3 * (a 1 0 * a 2 2 - a 1 2 * a 2 0) ∧ cfR a 7 13 0 0 = (a 1 2 * a 2 3 - a 1 3 * a 2 2) ∧ cfR a 7 13 0 2 = (-(a 1 0 * a 2 3 - a 1 3 * a 2 0)) ∧ cfR a 7 13 0 3 = (a 1 0 * a 2 2 - a 1 2 * a 2 0) ∧ cfR a 7 13 1 0 = (-(a 0 2 * a 2 3 - a 0 3 * a 2 2)) ∧ cfR a 7 13 1 2 = (a 0 0 * a 2 3 - a 0 3 * a 2 0) ∧ cfR a 7 13 1 3 = (-(a 0 0 * a 2 2 - a 0 2 * a 2 0)) ∧ cfR a 7 13 2 0 = (a 0 2 * a 1 3 - a 0 3 * a 1 2) ∧ cfR a 7 13 2 2 = (-(a 0 0 * a 1 3 - a 0 3 * a 1 0)) ∧ cfR a 7 13 2 3 = (a 0 0 * a 1 2 - a 0 2 * a 1 0) := by
  simp [cfR, dR, exR, lowB, pop] <;> grind
theorem cr_7_13 {a : Nat → Nat → Rat} {w u : Nat → Rat} (ha : ∀ i j, i < 4 → j < 4 → 1 ≤ a i j) (hw : ∀ i, i < 4 → bN 7 i → sr (fun j => a i j * w j) 4 = 1) (w0 : ∀ j, j < 4 → ¬ bN 13 j → w j = 0) (hu : ∀ j, j < 4 → bN 13 j → sr (fun i => a i j * u i) 4 = 1) (u0 : ∀ i, i < 4 → ¬ bN 7 i → u i = 0) (hz : ∀ z : Nat → Rat, (∀ j, j < 4 → ¬ bN 13 j → z j = 0) → (∀ i, i < 4 → bN 7 i → sr (fun j => a i j * z j) 4 = 0) → ∀ j, j < 4 → z j = 0) : crP a 7 13 w u := by
  have ep : pop 7 = 3 := by decide
  obtain ⟨eD, c00, c01, c02, c10, c11, c12, c20, c21, c22⟩ := ev_7_13 a
  have wz1 := w0 1 (by omega) (by decide)
  have uz3 := u0 3 (by omega) (by decide)
  have h0 : a 0 0 * w 0 + a 0 2 * w 2 + a 0 3 * w 3 = 1 := by
    have h := hw 0 (by omega) (by decide)
    simp only [sr] at h
    grind
  have h1 : a 1 0 * w 0 + a 1 2 * w 2 + a 1 3 * w 3 = 1 := by
    have h := hw 1 (by omega) (by decide)
    simp only [sr] at h
    grind
  have h2 : a 2 0 * w 0 + a 2 2 * w 2 + a 2 3 * w 3 = 1 := by
    have h := hw 2 (by omega) (by decide)
    simp only [sr] at h
    grind
  have g0 : a 0 0 * u 0 + a 1 0 * u 1 + a 2 0 * u 2 = 1 := by
    have h := hu 0 (by omega) (by decide)
    simp only [sr] at h
    grind
  have g1 : a 0 2 * u 0 + a 1 2 * u 1 + a 2 2 * u 2 = 1 := by
    have h := hu 2 (by omega) (by decide)
    simp only [sr] at h
    grind
  have g2 : a 0 3 * u 0 + a 1 3 * u 1 + a 2 3 * u 2 = 1 := by
    have h := hu 3 (by omega) (by decide)
    simp only [sr] at h
    grind
  obtain ⟨r0, r1, r2, t0, t1, t2⟩ := cram3 h0 h1 h2 g0 g1 g2
  unfold crP
  rw [ep, eD]
  refine ⟨fun hD => ?_, fun j hj => ?_, fun i hi => ?_⟩
  · obtain ⟨z0, z1, z2, n, e0, e1, e2⟩ := ker3 hD
    have y := hz (fun j => if j = 0 then z0 else if j = 2 then z1 else if j = 3 then z2 else 0) (fun j hj nj => ?_) (fun i hi bi => ?_)
    · apply n
      refine ⟨?_, ?_, ?_⟩
      · have y1 := y 0 (by omega)
        simpa using y1
      · have y1 := y 2 (by omega)
        simpa using y1
      · have y1 := y 3 (by omega)
        simpa using y1
    · have hj' : j = 0 ∨ j = 1 ∨ j = 2 ∨ j = 3 := by omega
      rcases hj' with f | f | f | f <;> subst f <;> first | exact absurd (by decide) nj | rfl
    · have hi' : i = 0 ∨ i = 1 ∨ i = 2 ∨ i = 3 := by omega
      rcases hi' with f | f | f | f <;> subst f <;> first | exact absurd bi (by decide) | (simp [sr] <;> grind)
  · have hj' : j = 0 ∨ j = 1 ∨ j = 2 ∨ j = 3 := by omega
    rcases hj' with f | f | f | f <;> subst f
    · have n3 : cfR a 7 13 3 0 = 0 := if_neg (by decide)
      simp only [sr, c00, c10, c20, n3, Rat.zero_add, Rat.add_zero]
      exact r0
    · have n0 : cfR a 7 13 0 1 = 0 := if_neg (by decide)
      have n1 : cfR a 7 13 1 1 = 0 := if_neg (by decide)
      have n2 : cfR a 7 13 2 1 = 0 := if_neg (by decide)
      have n3 : cfR a 7 13 3 1 = 0 := if_neg (by decide)
      simp only [sr, wz1, n0, n1, n2, n3, Rat.zero_add, Rat.add_zero, Rat.mul_zero]
    · have n3 : cfR a 7 13 3 2 = 0 := if_neg (by decide)
      simp only [sr, c01, c11, c21, n3, Rat.zero_add, Rat.add_zero]
      exact r1
    · have n3 : cfR a 7 13 3 3 = 0 := if_neg (by decide)
      simp only [sr, c02, c12, c22, n3, Rat.zero_add, Rat.add_zero]
      exact r2
  · have hi' : i = 0 ∨ i = 1 ∨ i = 2 ∨ i = 3 := by omega
    rcases hi' with f | f | f | f <;> subst f
    · have n1 : cfR a 7 13 0 1 = 0 := if_neg (by decide)
      simp only [sr, c00, c01, c02, n1, Rat.zero_add, Rat.add_zero]
      exact t0
    · have n1 : cfR a 7 13 1 1 = 0 := if_neg (by decide)
      simp only [sr, c10, c11, c12, n1, Rat.zero_add, Rat.add_zero]
      exact t1
    · have n1 : cfR a 7 13 2 1 = 0 := if_neg (by decide)
      simp only [sr, c20, c21, c22, n1, Rat.zero_add, Rat.add_zero]
      exact t2
    · have n0 : cfR a 7 13 3 0 = 0 := if_neg (by decide)
      have n1 : cfR a 7 13 3 1 = 0 := if_neg (by decide)
      have n2 : cfR a 7 13 3 2 = 0 := if_neg (by decide)
      have n3 : cfR a 7 13 3 3 = 0 := if_neg (by decide)
      simp only [sr, uz3, n0, n1, n2, n3, Rat.zero_add, Rat.add_zero, Rat.mul_zero]
theorem ev_7_14 (a : Nat → Nat → Rat) : dR a 3 7 14 = a 0 1 * (a 1 2 * a 2 3 - a 1 3 * a 2 2) - a 0 2 * (a 1 1 * a 2 3 - a 1 3 * a 2 1) + a 0 3 * (a 1 1 * a 2 2 - a 1 2 * a 2 1) ∧ cfR a 7 14 0 1 = (a 1 2 * a 2 3 - a 1 3 * a 2 2) ∧ cfR a 7 14 0 2 = (-(a 1 1 * a 2 3 - a 1 3 * a 2 1)) ∧ cfR a 7 14 0 3 = (a 1 1 * a 2 2 - a 1 2 * a 2 1) ∧ cfR a 7 14 1 1 = (-(a 0 2 * a 2 3 - a 0 3 * a 2 2)) ∧ cfR a 7 14 1 2 = (a 0 1 * a 2 3 - a 0 3 * a 2 1) ∧ cfR a 7 14 1 3 = (-(a 0 1 * a 2 2 - a 0 2 * a 2 1)) ∧ cfR a 7 14 2 1 = (a 0 2 * a 1 3 - a 0 3 * a 1 2) ∧ cfR a 7 14 2 2 = (-(a 0 1 * a 1 3 - a 0 3 * a 1 1)) ∧ cfR a 7 14 2 3 = (a 0 1 * a 1 2 - a 0 2 * a 1 1) := by
  simp [cfR, dR, exR, lowB, pop] <;> grind
theorem cr_7_14 {a : Nat → Nat → Rat} {w u : Nat → Rat} (ha : ∀ i j, i < 4 → j < 4 → 1 ≤ a i j) (hw : ∀ i, i < 4 → bN 7 i → sr (fun j => a i j * w j) 4 = 1) (w0 : ∀ j, j < 4 → ¬ bN 14 j → w j = 0) (hu : ∀ j, j < 4 → bN 14 j → sr (fun i => a i j * u i) 4 = 1) (u0 : ∀ i, i < 4 → ¬ bN 7 i → u i = 0) (hz : ∀ z : Nat → Rat, (∀ j, j < 4 → ¬ bN 14 j → z j = 0) → (∀ i, i < 4 → bN 7 i → sr (fun j => a i j * z j) 4 = 0) → ∀ j, j < 4 → z j = 0) : crP a 7 14 w u := by
  have ep : pop 7 = 3 := by decide
  obtain ⟨eD, c00, c01, c02, c10, c11, c12, c20, c21, c22⟩ := ev_7_14 a
  have wz0 := w0 0 (by omega) (by decide)
  have uz3 := u0 3 (by omega) (by decide)
  have h0 : a 0 1 * w 1 + a 0 2 * w 2 + a 0 3 * w 3 = 1 := by
    have h := hw 0 (by omega) (by decide)
    simp only [sr] at h
    grind
  have h1 : a 1 1 * w 1 + a 1 2 * w 2 + a 1 3 * w 3 = 1 := by
    have h := hw 1 (by omega) (by decide)
    simp only [sr] at h
    grind
  have h2 : a 2 1 * w 1 + a 2 2 * w 2 + a 2 3 * w 3 = 1 := by
    have h := hw 2 (by omega) (by decide)
    simp only [sr] at h
    grind
  have g0 : a 0 1 * u 0 + a 1 1 * u 1 + a 2 1 * u 2 = 1 := by
    have h := hu 1 (by omega) (by decide)
    simp only [sr] at h
    grind
  have g1 : a 0 2 * u 0 + a 1 2 * u 1 + a 2 2 * u 2 = 1 := by
    have h := hu 2 (by omega) (by decide)
    simp only [sr] at h
    grind
  have g2 : a 0 3 * u 0 + a 1 3 * u 1 + a 2 3 * u 2 = 1 := by
    have h := hu 3 (by omega) (by decide)
    simp only [sr] at h
    grind
  obtain ⟨r0, r1, r2, t0, t1, t2⟩ := cram3 h0 h1 h2 g0 g1 g2
  unfold crP
  rw [ep, eD]
  refine ⟨fun hD => ?_, fun j hj => ?_, fun i hi => ?_⟩
  · obtain ⟨z0, z1, z2, n, e0, e1, e2⟩ := ker3 hD
    have y := hz (fun j => if j = 1 then z0 else if j = 2 then z1 else if j = 3 then z2 else 0) (fun j hj nj => ?_) (fun i hi bi => ?_)
    · apply n
      refine ⟨?_, ?_, ?_⟩
      · have y1 := y 1 (by omega)
        simpa using y1
      · have y1 := y 2 (by omega)
        simpa using y1
      · have y1 := y 3 (by omega)
        simpa using y1
    · have hj' : j = 0 ∨ j = 1 ∨ j = 2 ∨ j = 3 := by omega
      rcases hj' with f | f | f | f <;> subst f <;> first | exact absurd (by decide) nj | rfl
    · have hi' : i = 0 ∨ i = 1 ∨ i = 2 ∨ i = 3 := by omega
      rcases hi' with f | f | f | f <;> subst f <;> first | exact absurd bi (by decide) | (simp [sr] <;> grind)
  · have hj' : j = 0 ∨ j = 1 ∨ j = 2 ∨ j = 3 := by omega
    rcases hj' with f | f | f | f <;> subst f
    · have n0 : cfR a 7 14 0 0 = 0 := if_neg (by decide)
      have n1 : cfR a 7 14 1 0 = 0 := if_neg (by decide)
      have n2 : cfR a 7 14 2 0 = 0 := if_neg (by decide)
      have n3 : cfR a 7 14 3 0 = 0 := if_neg (by decide)
      simp only [sr, wz0, n0, n1, n2, n3, Rat.zero_add, Rat.add_zero, Rat.mul_zero]
    · have n3 : cfR a 7 14 3 1 = 0 := if_neg (by decide)
      simp only [sr, c00, c10, c20, n3, Rat.zero_add, Rat.add_zero]
      exact r0
    · have n3 : cfR a 7 14 3 2 = 0 := if_neg (by decide)
      simp only [sr, c01, c11, c21, n3, Rat.zero_add, Rat.add_zero]
      exact r1
    · have n3 : cfR a 7 14 3 3 = 0 := if_neg (by decide)
      simp only [sr, c02, c12, c22, n3, Rat.zero_add, Rat.add_zero]
      exact r2
  · have hi' : i = 0 ∨ i = 1 ∨ i = 2 ∨ i = 3 := by omega
    rcases hi' with f | f | f | f <;> subst f
    · have n0 : cfR a 7 14 0 0 = 0 := if_neg (by decide)
      simp only [sr, c00, c01, c02, n0, Rat.zero_add, Rat.add_zero]
      exact t0
    · have n0 : cfR a 7 14 1 0 = 0 := if_neg (by decide)
      simp only [sr, c10, c11, c12, n0, Rat.zero_add, Rat.add_zero]
      exact t1
    · have n0 : cfR a 7 14 2 0 = 0 := if_neg (by decide)
      simp only [sr, c20, c21, c22, n0, Rat.zero_add, Rat.add_zero]
      exact t2
    · have n0 : cfR a 7 14 3 0 = 0 := if_neg (by decide)
      have n1 : cfR a 7 14 3 1 = 0 := if_neg (by decide)
      have n2 : cfR a 7 14 3 2 = 0 := if_neg (by decide)
      have n3 : cfR a 7 14 3 3 = 0 := if_neg (by decide)
      simp only [sr, uz3, n0, n1, n2, n3, Rat.zero_add, Rat.add_zero, Rat.mul_zero]
theorem ev_11_7 (a : Nat → Nat → Rat) : dR a 3 11 7 = a 0 0 * (a 1 1 * a 3 2 - a 1 2 * a 3 1) - a 0 1 * (a 1 0 * a 3 2 - a 1 2 * a 3 0) + a 0 2 * (a 1 0 * a 3 1 - a 1 1 * a 3 0) ∧ cfR a 11 7 0 0 = (a 1 1 * a 3 2 - a 1 2 * a 3 1) ∧ cfR a 11 7 0 1 = (-(a 1 0 * a 3 2 - a 1 2 * a 3 0)) ∧ cfR a 11 7 0 2 = (a 1 0 * a 3 1 - a 1 1 * a 3 0) ∧ cfR a 11 7 1 0 = (-(a 0 1 * a 3 2 - a 0 2 * a 3 1)) ∧ cfR a 11 7 1 1 = (a 0 0 * a 3 2 - a 0 2 * a 3 0) ∧ cfR a 11 7 1 2 = (-(a 0 0 * a 3 1 - a 0 1 * a 3 0)) ∧ cfR a 11 7 3 0 = (a 0 1 * a 1 2 - a 0 2 * a 1 1) ∧ cfR a 11 7 3 1 = (-(a 0 0 * a 1 2 - a 0 2 * a 1 0)) ∧ cfR a 11 7 3 2 = (a 0 0 * a 1 1 - a 0 1 * a 1 0) := by
  simp [cfR, dR, exR, lowB, pop] <;> grind
theorem cr_11_7 {a : Nat → Nat → Rat} {w u : Nat → Rat} (ha : ∀ i j, i < 4 → j < 4 → 1 ≤ a i j) (hw : ∀ i, i < 4 → bN 11 i → sr (fun j => a i j * w j) 4 = 1) (w0 : ∀ j, j < 4 → ¬ bN 7 j → w j = 0) (hu : ∀ j, j < 4 → bN 7 j → sr (fun i => a i j * u i) 4 = 1) (u0 : ∀ i, i < 4 → ¬ bN 11 i → u i = 0) (hz : ∀ z : Nat → Rat, (∀ j, j < 4 → ¬ bN 7 j → z j = 0) → (∀ i, i < 4 → bN 11 i → sr (fun j => a i j * z j) 4 = 0) → ∀ j, j < 4 → z j = 0) : crP a 11 7 w u := by
  have ep : pop 11 = 3 := by decide
  obtain ⟨eD, c00, c01, c02, c10, c11, c12, c20, c21, c22⟩ := ev_11_7 a
  have wz3 := w0 3 (by omega) (by decide)
  have uz2 := u0 2 (by omega) (by decide)
  have h0 : a 0 0 * w 0 + a 0 1 * w 1 + a 0 2 * w 2 = 1 := by
    have h := hw 0 (by omega) (by decide)
    simp only [sr] at h
    grind
  have h1 : a 1 0 * w 0 + a 1 1 * w 1 + a 1 2 * w 2 = 1 := by
    have h := hw 1 (by omega) (by decide)
    simp only [sr] at h
    grind
  have h2 : a 3 0 * w 0 + a 3 1 * w 1 + a 3 2 * w 2 = 1 := by
    have h := hw 3 (by omega) (by decide)
    simp only [sr] at h
    grind
  have g0 : a 0 0 * u 0 + a 1 0 * u 1 + a 3 0 * u 3 = 1 := by
    have h := hu 0 (by omega) (by decide)
    simp only [sr] at h
    grind
  have g1 : a 0 1 * u 0 + a 1 1 * u 1 + a 3 1 * u 3 = 1 := by
    have h := hu 1 (by omega) (by decide)
    simp only [sr] at h
    grind
  have g2 : a 0 2 * u 0 + a 1 2 * u 1 + a 3 2 * u 3 = 1 := by
    have h := hu 2 (by omega) (by decide)
    simp only [sr] at h
    grind
  obtain ⟨r0, r1, r2, t0, t1, t2⟩ := cram3 h0 h1 h2 g0 g1 g2
  unfold crP
  rw [ep, eD]
  refine ⟨fun hD => ?_, fun j hj => ?_, fun i hi => ?_⟩
  · obtain ⟨z0, z1, z2, n, e0, e1, e2⟩ := ker3 hD
    have y := hz (fun j => if j = 0 then z0 else if j = 1 then z1 else if j = 2 then z2 else 0) (fun j hj nj => ?_) (fun i hi bi => ?_)
    · apply n
      refine ⟨?_, ?_, ?_⟩
      · have y1 := y 0 (by omega)
        simpa using y1
      · have y1 := y 1 (by omega)
        simpa using y1
      · have y1 := y 2 (by omega)
        simpa using y1
    · have hj' : j = 0 ∨ j = 1 ∨ j = 2 ∨ j = 3 := by omega
      rcases hj' with f | f | f | f <;> subst f <;> first | exact absurd (by decide) nj | rfl
    · have hi' : i = 0 ∨ i = 1 ∨ i = 2 ∨ i = 3 := by omega
      rcases hi' with f | f | f | f <;> subst f <;> first | exact absurd bi (by decide) | (simp [sr] <;> grind)
  · have hj' : j = 0 ∨ j = 1 ∨ j = 2 ∨ j = 3 := by omega
    rcases hj' with f | f | f | f <;> subst f
    · have n2 : cfR a 11 7 2 0 = 0 := if_neg (by decide)
      simp only [sr, c00, c10, c20, n2, Rat.zero_add, Rat.add_zero]
      exact r0
    · have n2 : cfR a 11 7 2 1 = 0 := if_neg (by decide)
      simp only [sr, c01, c11, c21, n2, Rat.zero_add, Rat.add_zero]
      exact r1
    · have n2 : cfR a 11 7 2 2 = 0 := if_neg (by decide)
      simp only [sr, c02, c12, c22, n2, Rat.zero_add, Rat.add_zero]
      exact r2
    · have n0 : cfR a 11 7 0 3 = 0 := if_neg (by decide)
      have n1 : cfR a 11 7 1 3 = 0 := if_neg (by decide)
      have n2 : cfR a 11 7 2 3 = 0 := if_neg (by decide)
      have n3 : cfR a 11 7 3 3 = 0 := if_neg (by decide)
      simp only [sr, wz3, n0, n1, n2, n3, Rat.zero_add, Rat.add_zero, Rat.mul_zero]
  · have hi' : i = 0 ∨ i = 1 ∨ i = 2 ∨ i = 3 := by omega
    rcases hi' with f | f | f | f <;> subst f
    · have n3 : cfR a 11 7 0 3 = 0 := if_neg (by decide)
      simp only [sr, c00, c01, c02, n3, Rat.zero_add, Rat.add_zero]
      exact t0
    · have n3 : cfR a 11 7 1 3 = 0 := if_neg (by decide)
      simp only [sr, c10, c11, c12, n3, Rat.zero_add, Rat.add_zero]
      exact t1
    · have n0 : cfR a 11 7 2 0 = 0 := if_neg (by decide)
      have n1 : cfR a 11 7 2 1 = 0 := if_neg (by decide)
      have n2 : cfR a 11 7 2 2 = 0 := if_neg (by decide)
      have n3 : cfR a 11 7 2 3 = 0 := if_neg (by decide)
      simp only [sr, uz2, n0, n1, n2, n3, Rat.zero_add, Rat.add_zero, Rat.mul_zero]
    · have n3 : cfR a 11 7 3 3 = 0 := if_neg (by decide)
      simp only [sr, c20, c21, c22, n3, Rat.zero_add, Rat.add_zero]
      exact t2
theorem ev_11_11 (a : Nat → Nat → Rat) : dR a 3 11 11 = a 0 0 * (a 1 1 * a 3 3 - a 1 3 * a 3 1) - a 0 1 * (a 1 0 * a 3 3 - a 1 3 * a 3 0) + a 0 3 * (a 1 0 * a 3 1 - a 1 1 * a 3 0) ∧ cfR a 11 11 0 0 = (a 1 1 * a 3 3 - a 1 3 * a 3 1) ∧ cfR a 11 11 0 1 = (-(a 1 0 * a 3 3 - a 1 3 * a 3 0)) ∧ cfR a 11 11 0 3 = (a 1 0 * a 3 1 - a 1 1 * a 3 0) ∧ cfR a 11 11 1 0 = (-(a 0 1 * a 3 3 - a 0 3 * a 3 1)) ∧ cfR a 11 11 1 1 = (a 0 0 * a 3 3 - a 0 3 * a 3 0) ∧ cfR a 11 11 1 3 = (-(a 0 0 * a 3 1 - a 0 1 * a 3 0)) ∧ cfR a 11 11 3 0 = (a 0 1 * a 1 3 - a 0 3 * a 1 1) ∧ cfR a 11 11 3 1 = (-(a 0 0 * a 1 3 - a 0 3 * a 1 0)) ∧ cfR a 11 11 3 3 = (a 0 0 * a 1 1 - a 0 1 * a 1 0) := by
  simp [cfR, dR, exR, lowB, pop] <;> grind
theorem cr_11_11 {a : Nat → Nat → Rat} {w u : Nat → Rat} (ha : ∀ i j, i < 4 → j < 4 → 1 ≤ a i j) (hw : ∀ i, i < 4 → bN 11 i → sr (fun j => a i j * w j) 4 = 1) (w0 : ∀ j, j < 4 → ¬ bN 11 j → w j = 0) (hu : ∀ j, j < 4 → bN 11 j → sr (fun i => a i j * u i) 4 = 1) (u0 : ∀ i, i < 4 → ¬ bN 11 i → u i = 0) (hz : ∀ z : Nat → Rat, (∀ j, j < 4 → ¬ bN 11 j → z j = 0) → (∀ i, i < 4 → bN 11 i → sr (fun j => a i j * z j) 4 = 0) → ∀ j, j < 4 → z j = 0) : crP a 11 11 w u := by
  have ep : pop 11 = 3 := by decide
  obtain ⟨eD, c00, c01, c02, c10, c11, c12, c20, c21, c22⟩ := ev_11_11 a
  have wz2 := w0 2 (by omega) (by decide)
  have uz2 := u0 2 (by omega) (by decide)
  have h0 : a 0 0 * w 0 + a 0 1 * w 1 + a 0 3 * w 3 = 1 := by
    have h := hw 0 (by omega) (by decide)
    simp only [sr] at h
    grind
  have h1 : a 1 0 * w 0 + a 1 1 * w 1 + a 1 3 * w 3 = 1 := by
    have h := hw 1 (by omega) (by decide)
    simp only [sr] at h
    grind
  have h2 : a 3 0 * w 0 + a 3 1 * w 1 + a 3 3 * w 3 = 1 := by
    have h := hw 3 (by omega) (by decide)
    simp only [sr] at h
    grind
  have g0 : a 0 0 * u 0 + a 1 0 * u 1 + a 3 0 * u 3 = 1 := by
    have h := hu 0 (by omega) (by decide)
    simp only [sr] at h
    grind
  have g1 : a 0 1 * u 0 + a 1 1 * u 1 + a 3 1 * u 3 = 1 := by
    have h := hu 1 (by omega) (by decide)
    simp only [sr] at h
    grind
  have g2 : a 0 3 * u 0 + a 1 3 * u 1 + a 3 3 * u 3 = 1 := by
    have h := hu 3 (by omega) (by decide)
    simp only [sr] at h
    grind
  obtain ⟨r0, r1, r2, t0, t1, t2⟩ := cram3 h0 h1 h2 g0 g1 g2
  unfold crP
  rw [ep, eD]
  refine ⟨fun hD => ?_, fun j hj => ?_, fun i hi => ?_⟩
  · obtain ⟨z0, z1, z2, n, e0, e1, e2⟩ := ker3 hD
    have y := hz (fun j => if j = 0 then z0 else if j = 1 then z1 else if j = 3 then z2 else 0) (fun j hj nj => ?_) (fun i hi bi => ?_)
    · apply n
      refine ⟨?_, ?_, ?_⟩
      · have y1 := y 0 (by omega)
        simpa using y1
      · have y1 := y 1 (by omega)
        simpa using y1
      · have y1 := y 3 (by omega)
        simpa using y1
    · have hj' : j = 0 ∨ j = 1 ∨ j = 2 ∨ j = 3 := by omega
      rcases hj' with f | f | f | f <;> subst f <;> first | exact absurd (by decide) nj | rfl
    · have hi' : i = 0 ∨ i = 1 ∨ i = 2 ∨ i = 3 := by omega
      rcases hi' with f | f | f | f <;> subst f <;> first | exact absurd bi (by decide) | (simp [sr] <;> grind)
  · have hj' : j = 0 ∨ j = 1 ∨ j = 2 ∨ j = 3 := by omega
    rcases hj' with f | f | f | f <;> subst f
    · have n2 : cfR a 11 11 2 0 = 0 := if_neg (by decide)
      simp only [sr, c00, c10, c20, n2, Rat.zero_add, Rat.add_zero]
      exact r0
    · have n2 : cfR a 11 11 2 1 = 0 := if_neg (by decide)
      simp only [sr, c01, c11, c21, n2, Rat.zero_add, Rat.add_zero]
      exact r1
    · have n0 : cfR a 11 11 0 2 = 0 := if_neg (by decide)
      have n1 : cfR a 11 11 1 2 = 0 := if_neg (by decide)
      have n2 : cfR a 11 11 2 2 = 0 := if_neg (by decide)
      have n3 : cfR a 11 11 3 2 = 0 := if_neg (by decide)
      simp only [sr, wz2, n0, n1, n2, n3, Rat.zero_add, Rat.add_zero, Rat.mul_zero]
    · have n2 : cfR a 11 11 2 3 = 0 := if_neg (by decide)
      simp only [sr, c02, c12, c22, n2, Rat.zero_add, Rat.add_zero]
      exact r2
  · have hi' : i = 0 ∨ i = 1 ∨ i = 2 ∨ i = 3 := by omega
    rcases hi' with f | f | f | f <;> subst f
    · have n2 : cfR a 11 11 0 2 = 0 := if_neg (by decide)
      simp only [sr, c00, c01, c02, n2, Rat.zero_add, Rat.add_zero]
      exact t0
    · have n2 : cfR a 11 11 1 2 = 0 := if_neg (by decide)
      simp only [sr, c10, c11, c12, n2, Rat.zero_add, Rat.add_zero]
      exact t1
    · have n0 : cfR a 11 11 2 0 = 0 := if_neg (by decide)
      have n1 : cfR a 11 11 2 1 = 0 := if_neg (by decide)
      have n2 : cfR a 11 11 2 2 = 0 := if_neg (by decide)
      have n3 : cfR a 11 11 2 3 = 0 := if_neg (by decide)
      simp only [sr, uz2, n0, n1, n2, n3, Rat.zero_add, Rat.add_zero, Rat.mul_zero]
    · have n2 : cfR a 11 11 3 2 = 0 := if_neg (by decide)
      simp only [sr, c20, c21, c22, n2, Rat.zero_add, Rat.add_zero]
      exact t2
theorem ev_11_13 (a : Nat → Nat → Rat) : dR a 3 11 13 = a 0 0 * (a 1 2 * a 3 3 - a 1 3 * a 3 2) - a 0 2 * (a 1 0 * a 3 3 - a 1 3 * a 3 0) + a 0 3 * (a 1 0 * a 3 2 - a 1 2 * a 3 0) ∧ cfR a 11 13 0 0 = (a 1 2 * a 3 3 - a 1 3 * a 3 2) ∧ cfR a 11 13 0 2 = (-(a 1 0 * a 3 3 - a 1 3 * a 3 0)) ∧ cfR a 11 13 0 3 = (a 1 0 * a 3 2 - a 1 2 * a 3 0) ∧ cfR a 11 13 1 0 = (-(a 0 2 * a 3 3 - a 0 3 * a 3 2)) ∧ cfR a 11 13 1 2 = (a 0 0 * a 3 3 - a 0 3 * a 3 0) ∧ cfR a 11 13 1 3 = (-(a 0 0 * a 3 2 - a 0 2 * a 3 0)) ∧ cfR a 11 13 3 0 = (a 0 2 * a 1 3 - a 0 3 * a 1 2) ∧ cfR a 11 13 3 2 = (-(a 0 0 * a 1 3 - a 0 3 * a 1 0)) ∧ cfR a 11 13 3 3 = (a 0 0 * a 1 2 - a 0 2 * a 1 0) := by
  simp [cfR, dR, exR, lowB, pop] <;> grind
theorem cr_11_13 {a : Nat → Nat → Rat} {w u : Nat → Rat} (ha : ∀ i j, i < 4 → j < 4 → 1 ≤ a i j) (hw : ∀ i, i < 4 → bN 11 i → sr (fun j => a i j * w j) 4 = 1) (w0 : ∀ j, j < 4 → ¬ bN 13 j → w j = 0) (hu : ∀ j, j < 4 → bN 13 j → sr (fun i => a i j * u i) 4 = 1) (u0 : ∀ i, i < 4 → ¬ bN 11 i → u i = 0) (hz : ∀ z : Nat → Rat, (∀ j, j < 4 → ¬ bN 13 j → z j = 0) → (∀ i, i < 4 → bN 11 i → sr (fun j => a i j * z j) 4 = 0) → ∀ j, j < 4 → z j = 0) : crP a 11 13 w u := by
  have ep : pop 11 = 3 := by decide
  obtain ⟨eD, c00, c01, c02, c10, c11, c12, c20, c21, c22⟩ := ev_11_13 a
  have wz1 := w0 1 (by omega) (by decide)
  have uz2 := u0 2 (by omega) (by decide)
  have h0 : a 0 0 * w 0 + a 0 2 * w 2 + a 0 3 * w 3 = 1 := by
    have h := hw 0 (by omega) (by decide)
    simp only [sr] at h
    grind
  have h1 : a 1 0 * w 0 + a 1 2 * w 2 + a 1 3 * w 3 = 1 := by
    have h := hw 1 (by omega) (by decide)
    simp only [sr] at h
    grind
  have h2 : a 3 0 * w 0 + a 3 2 * w 2 + a 3 3 * w 3 = 1 := by
    have h := hw 3 (by omega) (by decide)
    simp only [sr] at h
    grind
  have g0 : a 0 0 * u 0 + a 1 0 * u 1 + a 3 0 * u 3 = 1 := by
    have h := hu 0 (by omega) (by decide)
    simp only [sr] at h
    grind
  have g1 : a 0 2 * u 0 + a 1 2 * u 1 + a 3 2 * u 3 = 1 := by
    have h := hu 2 (by omega) (by decide)
    simp only [sr] at h
    grind
  have g2 : a 0 3 * u 0 + a 1 3 * u 1 + a 3 3 * u 3 = 1 := by
    have h := hu 3 (by omega) (by decide)
    simp only [sr] at h
    grind
  obtain ⟨r0, r1, r2, t0, t1, t2⟩ := cram3 h0 h1 h2 g0 g1 g2
  unfold crP
  rw [ep, eD]
  refine ⟨fun hD => ?_, fun j hj => ?_, fun i hi => ?_⟩
  · obtain ⟨z0, z1, z2, n, e0, e1, e2⟩ := ker3 hD
    have y := hz (fun j => if j = 0 then z0 else if j = 2 then z1 else if j = 3 then z2 else 0) (fun j hj nj => ?_) (fun i hi bi => ?_)
    · apply n
      refine ⟨?_, ?_, ?_⟩
      · have y1 := y 0 (by omega)
        simpa using y1
      · have y1 := y 2 (by omega)
        simpa using y1
      · have y1 := y 3 (by omega)
        simpa using y1
    · have hj' : j = 0 ∨ j = 1 ∨ j = 2 ∨ j = 3 := by omega
      rcases hj' with f | f | f | f <;> subst f <;> first | exact absurd (by decide) nj | rfl
    · have hi' : i = 0 ∨ i = 1 ∨ i = 2 ∨ i = 3 := by omega
      rcases hi' with f | f | f | f <;> subst f <;> first | exact absurd bi (by decide) | (simp [sr] <;> grind)
  · have hj' : j = 0 ∨ j = 1 ∨ j = 2 ∨ j = 3 := by omega
    rcases hj' with f | f | f | f <;> subst f
    · have n2 : cfR a 11 13 2 0 = 0 := if_neg (by decide)
      simp only [sr, c00, c10, c20, n2, Rat.zero_add, Rat.add_zero]
      exact r0
    · have n0 : cfR a 11 13 0 1 = 0 := if_neg (by decide)
      have n1 : cfR a 11 13 1 1 = 0 := if_neg (by decide)
      have n2 : cfR a 11 13 2 1 = 0 := if_neg (by decide)
      have n3 : cfR a 11 13 3 1 = 0 := if_neg (by decide)
      simp only [sr, wz1, n0, n1, n2, n3, Rat.zero_add, Rat.add_zero, Rat.mul_zero]
    · have n2 : cfR a 11 13 2 2 = 0 := if_neg (by decide)
      simp only [sr, c01, c11, c21, n2, Rat.zero_add, Rat.add_zero]
      exact r1
    · have n2 : cfR a 11 13 2 3 = 0 := if_neg (by decide)
      simp only [sr, c02, c12, c22, n2, Rat.zero_add, Rat.add_zero]
      exact r2
  · have hi' : i = 0 ∨ i = 1 ∨ i = 2 ∨ i = 3 := by omega
    rcases hi' with f | f | f | f <;> subst f
    · have n1 : cfR a 11 13 0 1 = 0 := if_neg (by decide)
      simp only [sr, c00, c01, c02, n1, Rat.zero_add, Rat.add_zero]
      exact t0
    · have n1 : cfR a 11 13 1 1 = 0 := if_neg (by decide)
      simp only [sr, c10, c11, c12, n1, Rat.zero_add, Rat.add_zero]
      exact t1
    · have n0 : cfR a 11 13 2 0 = 0 := if_neg (by decide)
      have n1 : cfR a 11 13 2 1 = 0 := if_neg (by decide)
      have n2 : cfR a 11 13 2 2 = 0 := if_neg (by decide)
      have n3 : cfR a 11 13 2 3 = 0 := if_neg (by decide)
      simp only [sr, uz2, n0, n1, n2, n3, Rat.zero_add, Rat.add_zero, Rat.mul_zero]
    · have n1 : cfR a 11 13 3 1 = 0 := if_neg (by decide)
      simp only [sr, c20, c21, c22, n1, Rat.zero_add, Rat.add_zero]
      exact t2
theorem ev_11_14 (a : Nat → Nat → Rat) : dR a 3 11 14 = a 0 1 * (a 1 2 * a 3 3 - a 1 3 * a 3 2) - a 0 2 * (a 1 1 * a 3 3 - a 1 3 * a 3 1) + a 0 3 * (a 1 1 * a 3 2 - a 1 2 * a 3 1) ∧ cfR a 11 14 0 1 = (a 1 2 * a 3 3 - a 1 3 * a 3 2) ∧ cfR a 11 14 0 2 = (-(a 1 1 * a 3 3 - a 1 3 * a 3 1)) ∧ cfR a 11 14 0 3 = (a 1 1 * a 3 2 - a 1 2 * a 3 1) ∧ cfR a 11 14 1 1 = (-(a 0 2 * a 3 3 - a 0 3 * a 3 2)) ∧ cfR a 11 14 1 2 = (a 0 1 * a 3 3 - a 0 3 * a 3 1) ∧ cfR a 11 14 1 3 = (-(a 0 1 * a 3 2 - a 0 2 * a 3 1)) ∧ cfR a 11 14 3 1 = (a 0 2 * a 1 3 - a 0 3 * a 1 2) ∧ cfR a 11 14 3 2 = (-(a 0 1 * a 1 3 - a 0 3 * a 1 1)) ∧ cfR a 11 14 3 3 = (a 0 1 * a 1 2 - a 0 2 * a 1 1) := by
  simp [cfR, dR, exR, lowB, pop] <;> grind
theorem cr_11_14 {a : Nat → Nat → Rat} {w u : Nat → Rat} (ha : ∀ i j, i < 4 → j < 4 → 1 ≤ a i j) (hw : ∀ i, i < 4 → bN 11 i → sr (fun j => a i j * w j) 4 = 1) (w0 : ∀ j, j < 4 → ¬ bN 14 j → w j = 0) (hu : ∀ j, j < 4 → bN 14 j → sr (fun i => a i j * u i) 4 = 1) (u0 : ∀ i, i < 4 → ¬ bN 11 i → u i = 0) (hz : ∀ z : Nat → Rat, (∀ j, j < 4 → ¬ bN 14 j → z j = 0) → (∀ i, i < 4 → bN 11 i → sr (fun j => a i j * z j) 4 = 0) → ∀ j, j < 4 → z j = 0) : crP a 11 14 w u := by
  have ep : pop 11 = 3 := by decide
  obtain ⟨eD, c00, c01, c02, c10, c11, c12, c20, c21, c22⟩ := ev_11_14 a
  have wz0 := w0 0 (by omega) (by decide)
  have uz2 := u0 2 (by omega) (by decide)
  have h0 : a 0 1 * w 1 + a 0 2 * w 2 + a 0 3 * w 3 = 1 := by
    have h := hw 0 (by omega) (by decide)
    simp only [sr] at h
    grind
  have h1 : a 1 1 * w 1 + a 1 2 * w 2 + a 1 3 * w 3 = 1 := by
    have h := hw 1 (by omega) (by decide)
    simp only [sr] at h
    grind
  have h2 : a 3 1 * w 1 + a 3 2 * w 2 + a 3 3 * w 3 = 1 := by
    have h := hw 3 (by omega) (by decide)
    simp only [sr] at h
    grind
  have g0 : a 0 1 * u 0 + a 1 1 * u 1 + a 3 1 * u 3 = 1 := by
    have h := hu 1 (by omega) (by decide)
    simp only [sr] at h
    grind
  have g1 : a 0 2 * u 0 + a 1 2 * u 1 + a 3 2 * u 3 = 1 := by
    have h := hu 2 (by omega) (by decide)
    simp only [sr] at h
    grind
  have g2 : a 0 3 * u 0 + a 1 3 * u 1 + a 3 3 * u 3 = 1 := by
    have h := hu 3 (by omega) (by decide)
    simp only [sr] at h
    grind
  obtain ⟨r0, r1, r2, t0, t1, t2⟩ := cram3 h0 h1 h2 g0 g1 g2
  unfold crP
  rw [ep, eD]
  refine ⟨fun hD => ?_, fun j hj => ?_, fun i hi => ?_⟩
  · obtain ⟨z0, z1, z2, n, e0, e1, e2⟩ := ker3 hD
    have y := hz (fun j => if j = 1 then z0 else if j = 2 then z1 else if j = 3 then z2 else 0) (fun j hj nj => ?_) (fun i hi bi => ?_)
    · apply n
      refine ⟨?_, ?_, ?_⟩
      · have y1 := y 1 (by omega)
        simpa using y1
      · have y1 := y 2 (by omega)
        simpa using y1
      · have y1 := y 3 (by omega)
        simpa using y1
    · have hj' : j = 0 ∨ j = 1 ∨ j = 2 ∨ j = 3 := by omega
      rcases hj' with f | f | f | f <;> subst f <;> first | exact absurd (by decide) nj | rfl
    · have hi' : i = 0 ∨ i = 1 ∨ i = 2 ∨ i = 3 := by omega
      rcases hi' with f | f | f | f <;> subst f <;> first | exact absurd bi (by decide) | (simp [sr] <;> grind)
  · have hj' : j = 0 ∨ j = 1 ∨ j = 2 ∨ j = 3 := by omega
    rcases hj' with f | f | f | f <;> subst f
    · have n0 : cfR a 11 14 0 0 = 0 := if_neg (by decide)
      have n1 : cfR a 11 14 1 0 = 0 := if_neg (by decide)
      have n2 : cfR a 11 14 2 0 = 0 := if_neg (by decide)
      have n3 : cfR a 11 14 3 0 = 0 := if_neg (by decide)
      simp only [sr, wz0, n0, n1, n2, n3, Rat.zero_add, Rat.add_zero, Rat.mul_zero]
    · have n2 : cfR a 11 14 2 1 = 0 := if_neg (by decide)
      simp only [sr, c00, c10, c20, n2, Rat.zero_add, Rat.add_zero]
      exact r0
    · have n2 : cfR a 11 14 2 2 = 0 := if_neg (by decide)
      simp only [sr, c01, c11, c21, n2, Rat.zero_add, Rat.add_zero]
      exact r1
    · have n2 : cfR a 11 14 2 3 = 0 := if_neg (by decide)
      simp only [sr, c02, c12, c22, n2, Rat.zero_add, Rat.add_zero]
      exact r2
  · have hi' : i = 0 ∨ i = 1 ∨ i = 2 ∨ i = 3 := by omega
    rcases hi' with f | f | f | f <;> subst f
    · have n0 : cfR a 11 14 0 0 = 0 := if_neg (by decide)
      simp only [sr, c00, c01, c02, n0, Rat.zero_add, Rat.add_zero]
      exact t0
    · have n0 : cfR a 11 14 1 0 = 0 := if_neg (by decide)
      simp only [sr, c10, c11, c12, n0, Rat.zero_add, Rat.add_zero]
      exact t1
    · have n0 : cfR a 11 14 2 0 = 0 := if_neg (by decide)
      have n1 : cfR a 11 14 2 1 = 0 := if_neg (by decide)
      have n2 : cfR a 11 14 2 2 = 0 := if_neg (by decide)
      have n3 : cfR a 11 14 2 3 = 0 := if_neg (by decide)
      simp only [sr, uz2, n0, n1, n2, n3, Rat.zero_add, Rat.add_zero, Rat.mul_zero]
    · have n0 : cfR a 11 14 3 0 = 0 := if_neg (by decide)
      simp only [sr, c20, c21, c22, n0, Rat.zero_add, Rat.add_zero]
      exact t2
theorem ev_13_7 (a : Nat → Nat → Rat) : dR a 3 13 7 = a 0 0 * (a 2 1 * a 3 2 - a 2 2 * a 3 1) - a 0 1 * (a 2 0 * a 3 2 - a 2 2 * a 3 0) + a 0 2 * (a 2 0 * a 3 1 - a 2 1 * a 3 0) ∧ cfR a 13 7 0 0 = (a 2 1 * a 3 2 - a 2 2 * a 3 1) ∧ cfR a 13 7 0 1 = (-(a 2 0 * a 3 2 - a 2 2 * a 3 0)) ∧ cfR a 13 7 0 2 = (a 2 0 * a 3 1 - a 2 1 * a 3 0) ∧ cfR a 13 7 2 0 = (-(a 0 1 * a 3 2 - a 0 2 * a 3 1)) ∧ cfR a 13 7 2 1 = (a 0 0 * a 3 2 - a 0 2 * a 3 0) ∧ cfR a 13 7 2 2 = (-(a 0 0 * a 3 1 - a 0 1 * a 3 0)) ∧ cfR a 13 7 3 0 = (a 0 1 * a 2 2 - a 0 2 * a 2 1) ∧ cfR a 13 7 3 1 = (-(a 0 0 * a 2 2 - a 0 2 * a 2 0)) ∧ cfR a 13 7 3 2 = (a 0 0 * a 2 1 - a 0 1 * a 2 0) := by
  simp [cfR, dR, exR, lowB, pop] <;> grind
theorem cr_13_7 {a : Nat → Nat → Rat} {w u : Nat → Rat} (ha : ∀ i j, i < 4 → j < 4 → 1 ≤ a i j) (hw : ∀ i, i < 4 → bN 13 i → sr (fun j => a i j * w j) 4 = 1) (w0 : ∀ j, j < 4 → ¬ bN 7 j → w j = 0) (hu : ∀ j, j < 4 → bN 7 j → sr (fun i => a i j * u i) 4 = 1) (u0 : ∀ i, i < 4 → ¬ bN 13 i → u i = 0) (hz : ∀ z : Nat → Rat, (∀ j, j < 4 → ¬ bN 7 j → z j = 0) → (∀ i, i < 4 → bN 13 i → sr (fun j => a i j * z j) 4 = 0) → ∀ j, j < 4 → z j = 0) : crP a 13 7 w u := by
  have ep : pop 13 = 3 := by decide
  obtain ⟨eD, c00, c01, c02, c10, c11, c12, c20, c21, c22⟩ := ev_13_7 a
  have wz3 := w0 3 (by omega) (by decide)
  have uz1 := u0 1 (by omega) (by decide)
  have h0 : a 0 0 * w 0 + a 0 1 * w 1 + a 0 2 * w 2 = 1 := by
    have h := hw 0 (by omega) (by decide)
    simp only [sr] at h
    grind
  have h1 : a 2 0 * w 0 + a 2 1 * w 1 + a 2 2 * w 2 = 1 := by
    have h := hw 2 (by omega) (by decide)
    simp only [sr] at h
    grind
  have h2 : a 3 0 * w 0 + a 3 1 * w 1 + a 3 2 * w 2 = 1 := by
    have h := hw 3 (by omega) (by decide)
    simp only [sr] at h
    grind
  have g0 : a 0 0 * u 0 + a 2 0 * u 2 + a 3 0 * u 3 = 1 := by
    have h := hu 0 (by omega) (by decide)
    simp only [sr] at h
    grind
  have g1 : a 0 1 * u 0 + a 2 1 * u 2 + a 3 1 * u 3 = 1 := by
    have h := hu 1 (by omega) (by decide)
    simp only [sr] at h
    grind
  have g2 : a 0 2 * u 0 + a 2 2 * u 2 + a 3 2 * u 3 = 1 := by
    have h := hu 2 (by omega) (by decide)
    simp only [sr] at h
    grind
  obtain ⟨r0, r1, r2, t0, t1, t2⟩ := cram3 h0 h1 h2 g0 g1 g2
  unfold crP
  rw [ep, eD]
  refine ⟨fun hD => ?_, fun j hj => ?_, fun i hi => ?_⟩
  · obtain ⟨z0, z1, z2, n, e0, e1, e2⟩ := ker3 hD
    have y := hz (fun j => if j = 0 then z0 else if j = 1 then z1 else if j = 2 then z2 else 0) (fun j hj nj => ?_) (fun i hi bi => ?_)
    · apply n
      refine ⟨?_, ?_, ?_⟩
      · have y1 := y 0 (by omega)
        simpa using y1
      · have y1 := y 1 (by omega)
        simpa using y1
      · have y1 := y 2 (by omega)
        simpa using y1
    · have hj' : j = 0 ∨ j = 1 ∨ j = 2 ∨ j = 3 := by omega
      rcases hj' with f | f | f | f <;> subst f <;> first | exact absurd (by decide) nj | rfl
    · have hi' : i = 0 ∨ i = 1 ∨ i = 2 ∨ i = 3 := by omega
      rcases hi' with f | f | f | f <;> subst f <;> first | exact absurd bi (by decide) | (simp [sr] <;> grind)
  · have hj' : j = 0 ∨ j = 1 ∨ j = 2 ∨ j = 3 := by omega
    rcases hj' with f | f | f | f <;> subst f
    · have n1 : cfR a 13 7 1 0 = 0 := if_neg (by decide)
      simp only [sr, c00, c10, c20, n1, Rat.zero_add, Rat.add_zero]
      exact r0
    · have n1 : cfR a 13 7 1 1 = 0 := if_neg (by decide)
      simp only [sr, c01, c11, c21, n1, Rat.zero_add, Rat.add_zero]
      exact r1
    · have n1 : cfR a 13 7 1 2 = 0 := if_neg (by decide)
      simp only [sr, c02, c12, c22, n1, Rat.zero_add, Rat.add_zero]
      exact r2
    · have n0 : cfR a 13 7 0 3 = 0 := if_neg (by decide)
      have n1 : cfR a 13 7 1 3 = 0 := if_neg (by decide)
      have n2 : cfR a 13 7 2 3 = 0 := if_neg (by decide)
      have n3 : cfR a 13 7 3 3 = 0 := if_neg (by decide)
      simp only [sr, wz3, n0, n1, n2, n3, Rat.zero_add, Rat.add_zero, Rat.mul_zero]
  · have hi' : i = 0 ∨ i = 1 ∨ i = 2 ∨ i = 3 := by omega
    rcases hi' with f | f | f | f <;> subst f
    · have n3 : cfR a 13 7 0 3 = 0 := if_neg (by decide)
      simp only [sr, c00, c01, c02, n3, Rat.zero_add, Rat.add_zero]
      exact t0
    · have n0 : cfR a 13 7 1 0 = 0 := if_neg (by decide)
      have n1 : cfR a 13 7 1 1 = 0 := if_neg (by decide)
      have n2 : cfR a 13 7 1 2 = 0 := if_neg (by decide)
      have n3 : cfR a 13 7 1 3 = 0 := if_neg (by decide)
      simp only [sr, uz1, n0, n1, n2, n3, Rat.zero_add, Rat.add_zero, Rat.mul_zero]
    · have n3 : cfR a 13 7 2 3 = 0 := if_neg (by decide)
      simp only [sr, c10, c11, c12, n3, Rat.zero_add, Rat.add_zero]
      exact t1
    · have n3 : cfR a 13 7 3 3 = 0 := if_neg (by decide)
      simp only [sr, c20, c21, c22, n3, Rat.zero_add, Rat.add_zero]
      exact t2
theorem ev_13_11 (a : Nat → Nat → Rat) : dR a 3 13 11 = a 0 0 * (a 2 1 * a 3 3 - a 2 3 * a 3 1) - a 0 1 * (a 2 0 * a 3 3 - a 2 3 * a 3 0) + a 0 3 * (a 2 0 * a 3 1 - a 2 1 * a 3 0) ∧ cfR a 13 11 0 0 = (a 2 1 * a 3 3 - a 2 3 * a 3 1) ∧ cfR a 13 11 0 1 = (-(a 2 0 * a 3 3 - a 2 3 * a 3 0)) ∧ cfR a 13 11 0 3 = (a 2 0 * a 3 1 - a 2 1 * a 3 0) ∧ cfR a 13 11 2 0 = (-(a 0 1 * a 3 3 - a 0 3 * a 3 1)) ∧ cfR a 13 11 2 1 = (a 0 0 * a 3 3 - a 0 3 * a 3 0) ∧ cfR a 13 11 2 3 = (-(a 0 0 * a 3 1 - a 0 1 * a 3 0)) ∧ cfR a 13 11 3 0 = (a 0 1 * a 2 3 - a 0 3 * a 2 1) ∧ cfR a 13 11 3 1 = (-(a 0 0 * a 2 3 - a 0 3 * a 2 0)) ∧ cfR a 13 11 3 3 = (a 0 0 * a 2 1 - a 0 1 * a 2 0) := by
  simp [cfR, dR, exR, lowB, pop] <;> grind
theorem cr_13_11 {a : Nat → Nat → Rat} {w u : Nat → Rat} (ha : ∀ i j, i < 4 → j < 4 → 1 ≤ a i j) (hw : ∀ i, i < 4 → bN 13 i → sr (fun j => a i j * w j) 4 = 1) (w0 : ∀ j, j < 4 → ¬ bN 11 j → w j = 0) (hu : ∀ j, j < 4 → bN 11 j → sr (fun i => a i j * u i) 4 = 1) (u0 : ∀ i, i < 4 → ¬ bN 13 i → u i = 0) (hz : ∀ z : Nat → Rat, (∀ j, j < 4 → ¬ bN 11 j → z j = 0) → (∀ i, i < 4 → bN 13 i → sr (fun j => a i j * z j) 4 = 0) → ∀ j, j < 4 → z j = 0) : crP a 13 11 w u := by
  have ep : pop 13 = 3 := by decide
  obtain ⟨eD, c00, c01, c02, c10, c11, c12, c20, c21, c22⟩ := ev_13_11 a
  have wz2 := w0 2 (by omega) (by decide)
  have uz1 := u0 1 (by omega) (by decide)
  have h0 : a 0 0 * w 0 + a 0 1 * w 1 + a 0 3 * w 3 = 1 := by
    have h := hw 0 (by omega) (by decide)
    simp only [sr] at h
    grind
  have h1 : a 2 0 * w 0 + a 2 1 * w 1 + a 2 3 * w 3 = 1 := by
    have h := hw 2 (by omega) (by decide)
    simp only [sr] at h
    grind
  have h2 : a 3 0 * w 0 + a 3 1 * w 1 + a 3 3 * w 3 = 1 := by
    have h := hw 3 (by omega) (by decide)
    simp only [sr] at h
    grind
  have g0 : a 0 0 * u 0 + a 2 0 * u 2 + a 3 0 * u 3 = 1 := by
    have h := hu 0 (by omega) (by decide)
    simp only [sr] at h
    grind
  have g1 : a 0 1 * u 0 + a 2 1 * u 2 + a 3 1 * u 3 = 1 := by
    have h := hu 1 (by omega) (by decide)
    simp only [sr] at h
    grind
  have g2 : a 0 3 * u 0 + a 2 3 * u 2 + a 3 3 * u 3 = 1 := by
    have h := hu 3 (by omega) (by decide)
    simp only [sr] at h
    grind
  obtain ⟨r0, r1, r2, t0, t1, t2⟩ := cram3 h0 h1 h2 g0 g1 g2
  unfold crP
  rw [ep, eD]
  refine ⟨fun hD => ?_, fun j hj => ?_, fun i hi => ?_⟩
  · obtain ⟨z0, z1, z2, n, e0, e1, e2⟩ := ker3 hD
    have y := hz (fun j => if j = 0 then z0 else if j = 1 then z1 else if j = 3 then z2 else 0) (fun j hj nj => ?_) (fun i hi bi => ?_)
    · apply n
      refine ⟨?_, ?_, ?_⟩
      · have y1 := y 0 (by omega)
        simpa using y1
      · have y1 := y 1 (by omega)
        simpa using y1
      · have y1 := y 3 (by omega)
        simpa using y1
    · have hj' : j = 0 ∨ j = 1 ∨ j = 2 ∨ j = 3 := by omega
      rcases hj' with f | f | f | f <;> subst f <;> first | exact absurd (by decide) nj | rfl
    · have hi' : i = 0 ∨ i = 1 ∨ i = 2 ∨ i = 3 := by omega
      rcases hi' with f | f | f | f <;> subst f <;> first | exact absurd bi (by decide) | (simp [sr] <;> grind)
  · have hj' : j = 0 ∨ j = 1 ∨ j = 2 ∨ j = 3 := by omega
    rcases hj' with f | f | f | f <;> subst f
    · have n1 : cfR a 13 11 1 0 = 0 := if_neg (by decide)
      simp only [sr, c00, c10, c20, n1, Rat.zero_add, Rat.add_zero]
      exact r0
    · have n1 : cfR a 13 11 1 1 = 0 := if_neg (by decide)
      simp only [sr, c01, c11, c21, n1, Rat.zero_add, Rat.add_zero]
      exact r1
    · have n0 : cfR a 13 11 0 2 = 0 := if_neg (by decide)
      have n1 : cfR a 13 11 1 2 = 0 := if_neg (by decide)
      have n2 : cfR a 13 11 2 2 = 0 := if_neg (by decide)
      have n3 : cfR a 13 11 3 2 = 0 := if_neg (by decide)
      simp only [sr, wz2, n0, n1, n2, n3, Rat.zero_add, Rat.add_zero, Rat.mul_zero]
    · have n1 : cfR a 13 11 1 3 = 0 := if_neg (by decide)
      simp only [sr, c02, c12, c22, n1, Rat.zero_add, Rat.add_zero]
      exact r2
  · have hi' : i = 0 ∨ i = 1 ∨ i = 2 ∨ i = 3 := by omega
    rcases hi' with f | f | f | f <;> subst f
    · have n2 : cfR a 13 11 0 2 = 0 := if_neg (by decide)
      simp only [sr, c00, c01, c02, n2, Rat.zero_add, Rat.add_zero]
      exact t0
    · have n0 : cfR a 13 11 1 0 = 0 := if_neg (by decide)
      have n1 : cfR a 13 11 1 1 = 0 := if_neg (by decide)
      have n2 : cfR a 13 11 1 2 = 0 := if_neg (by decide)
      have n3 : cfR a 13 11 1 3 = 0 := if_neg (by decide)
      simp only [sr, uz1, n0, n1, n2, n3, Rat.zero_add, Rat.add_zero, Rat.mul_zero]
    · have n2 : cfR a 13 11 2 2 = 0 := if_neg (by decide)
      simp only [sr, c10, c11, c12, n2, Rat.zero_add, Rat.add_zero]
      exact t1
    · have n2 : cfR a 13 11 3 2 = 0 := if_neg (by decide)
      simp only [sr, c20, c21, c22, n2, Rat.zero_add, Rat.add_zero]
      exact t2
theorem ev_13_13 (a : Nat → Nat → Rat) : dR a 3 13 13 = a 0 0 * (a 2 2 * a 3 3 - a 2 3 * a 3 2) - a 0 2 * (a 2 0 * a 3 3 - a 2 3 * a 3 0) + a 0 3 * (a 2 0 * a 3 2 - a 2 2 * a 3 0) ∧ cfR a 13 13 0 0 = (a 2 2 * a 3 3 - a 2 3 * a 3 2) ∧ cfR a 13 13 0 2 = (-(a 2 0 * a 3 3 - a 2 3 * a 3 0)) ∧ cfR a 13 13 0 3 = (a 2 0 * a 3 2 - a 2 2 * a 3 0) ∧ cfR a 13 13 2 0 = (-(a 0 2 * a 3 3 - a 0 3 * a 3 2)) ∧ cfR a 13 13 2 2 = (a 0 0 * a 3 3 - a 0 3 * a 3 0) ∧ cfR a 13 13 2 3 = (-(a 0 0 * a 3 2 - a 0 2 * a 3 0)) ∧ cfR a 13 13 3 0 = (a 0 2 * a 2 3 - a 0 3 * a 2 2) ∧ cfR a 13 13 3 2 = (-(a 0 0 * a 2 3 - a 0 3 * a 2 0)) ∧ cfR a 13 13 3 3 = (a 0 0 * a 2 2 - a 0 2 * a 2 0) := by
  simp [cfR, dR, exR, lowB, pop] <;> grind
theorem cr_13_13 {a : Nat → Nat → Rat} {w u : Nat → Rat} (ha : ∀ i j, i < 4 → j < 4 → 1 ≤ a i j) (hw : ∀ i, i < 4 → bN 13 i → sr (fun j => a i j * w j) 4 = 1) (w0 : ∀ j, j < 4 → ¬ bN 13 j → w j = 0) (hu : ∀ j, j < 4 → bN 13 j → sr (fun i => a i j * u i) 4 = 1) (u0 : ∀ i, i < 4 → ¬ bN 13 i → u i = 0) (hz : ∀ z : Nat → Rat, (∀ j, j < 4 → ¬ bN 13 j → z j = 0) → (∀ i, i < 4 → bN 13 i → sr (fun j => a i j * z j) 4 = 0) → ∀ j, j < 4 → z j = 0) : crP a 13 13 w u := by
  have ep : pop 13 = 3 := by decide
  obtain ⟨eD, c00, c01, c02, c10, c11, c12, c20, c21, c22⟩ := ev_13_13 a
  have wz1 := w0 1 (by omega) (by decide)
  have uz1 := u0 1 (by omega) (by decide)
  have h0 : a 0 0 * w 0 + a 0 2 * w 2 + a 0 3 * w 3 = 1 := by
    have h := hw 0 (by omega) (by decide)
    simp only [sr] at h
    grind
  have h1 : a 2 0 * w 0 + a 2 2 * w 2 + a 2 3 * w 3 = 1 := by
    have h := hw 2 (by omega) (by decide)
    simp only [sr] at h
    grind
  have h2 : a 3 0 * w 0 + a 3 2 * w 2 + a 3 3 * w 3 = 1 := by
    have h := hw 3 (by omega) (by decide)
    simp only [sr] at h
    grind
  have g0 : a 0 0 * u 0 + a 2 0 * u 2 + a 3 0 * u 3 = 1 := by
    have h := hu 0 (by omega) (by decide)
    simp only [sr] at h
    grind
  have g1 : a 0 2 * u 0 + a 2 2 * u 2 + a 3 2 * u 3 = 1 := by
    have h := hu 2 (by omega) (by decide)
    simp only [sr] at h
    grind
  have g2 : a 0 3 * u 0 + a 2 3 * u 2 + a 3 3 * u 3 = 1 := by
    have h := hu 3 (by omega) (by decide)
    simp only [sr] at h
    grind
  obtain ⟨r0, r1, r2, t0, t1, t2⟩ := cram3 h0 h1 h2 g0 g1 g2
  unfold crP
  rw [ep, eD]
  refine ⟨fun hD => ?_, fun j hj => ?_, fun i hi => ?_⟩
  · obtain ⟨z0, z1, z2, n, e0, e1, e2⟩ := ker3 hD
    have y := hz (fun j => if j = 0 then z0 else if j = 2 then z1 else if j = 3 then z2 else 0) (fun j hj nj => ?_) (fun i hi bi => ?_)
    · apply n
      refine ⟨?_, ?_, ?_⟩
      · have y1 := y 0 (by omega)
        simpa using y1
      · have y1 := y 2 (by omega)
        simpa using y1
      · have y1 := y 3 (by omega)
        simpa using y1
    · have hj' : j = 0 ∨ j = 1 ∨ j = 2 ∨ j = 3 := by omega
      rcases hj' with f | f | f | f <;> subst f <;> first | exact absurd (by decide) nj | rfl
    · have hi' : i = 0 ∨ i = 1 ∨ i = 2 ∨ i = 3 := by omega
      rcases hi' with f | f | f | f <;> subst f <;> first | exact absurd bi (by decide) | (simp [sr] <;> grind)
  · have hj' : j = 0 ∨ j = 1 ∨ j = 2 ∨ j = 3 := by omega
    rcases hj' with f | f | f | f <;> subst f
    · have n1 : cfR a 13 13 1 0 = 0 := if_neg (by decide)
      simp only [sr, c00, c10, c20, n1, Rat.zero_add, Rat.add_zero]
      exact r0
    · have n0 : cfR a 13 13 0 1 = 0 := if_neg (by decide)
      have n1 : cfR a 13 13 1 1 = 0 := if_neg (by decide)
      have n2 : cfR a 13 13 2 1 = 0 := if_neg (by decide)
      have n3 : cfR a 13 13 3 1 = 0 := if_neg (by decide)
      simp only [sr, wz1, n0, n1, n2, n3, Rat.zero_add, Rat.add_zero, Rat.mul_zero]
    · have n1 : cfR a 13 13 1 2 = 0 := if_neg (by decide)
      simp only [sr, c01, c11, c21, n1, Rat.zero_add, Rat.add_zero]
      exact r1
    · have n1 : cfR a 13 13 1 3 = 0 := if_neg (by decide)
      simp only [sr, c02, c12, c22, n1, Rat.zero_add, Rat.add_zero]
      exact r2
  · have hi' : i = 0 ∨ i = 1 ∨ i = 2 ∨ i = 3 := by omega
    rcases hi' with f | f | f | f <;> subst f
    · have n1 : cfR a 13 13 0 1 = 0 := if_neg (by decide)
      simp only [sr, c00, c01, c02, n1, Rat.zero_add, Rat.add_zero]
      exact t0
    · have n0 : cfR a 13 13 1 0 = 0 := if_neg (by decide)
      have n1 : cfR a 13 13 1 1 = 0 := if_neg (by decide)
      have n2 : cfR a 13 13 1 2 = 0 := if_neg (by decide)
      have n3 : cfR a 13 13 1 3 = 0 := if_neg (by decide)
      simp only [sr, uz1, n0, n1, n2, n3, Rat.zero_add, Rat.add_zero, Rat.mul_zero]
    · have n1 : cfR a 13 13 2 1 = 0 := if_neg (by decide)
      simp only [sr, c10, c11, c12, n1, Rat.zero_add, Rat.add_zero]
      exact t1
    · have n1 : cfR a 13 13 3 1 = 0 := if_neg (by decide)
      simp only [sr, c20, c21, c22, n1, Rat.zero_add, Rat.add_zero]
      exact t2
theorem ev_13_14 (a : Nat → Nat → Rat) : dR a 3 13 14 = a 0 1 * (a 2 2 * a 3 3 - a 2 3 * a 3 2) - a 0 2 * (a 2 1 * a 3 3 - a 2 3 * a 3 1) + a 0 3 * (a 2 1 * a 3 2 - a 2 2 * a 3 1) ∧ cfR a 13 14 0 1 = (a 2 2 * a 3 3 - a 2 3 * a 3 2) ∧ cfR a 13 14 0 2 = (-(a 2 1 * a 3 3 - a 2 3 * a 3 1)) ∧ cfR a 13 14 0 3 = (a 2 1 * a 3 2 - a 2 2 * a 3 1) ∧ cfR a 13 14 2 1 = (-(a 0 2 * a 3 3 - a 0 3 * a 3 2)) ∧ cfR a 13 14 2 2 = (a 0 1 * a 3 3 - a 0 3 * a 3 1) ∧ cfR a 13 14 2 3 = (-(a 0 1 * a 3 2 - a 0 2 * a 3 1)) ∧ cfR a 13 14 3 1 = (a 0 2 * a 2 3 - a 0 3 * a 2 2) ∧ cfR a 13 14 3 2 = (-(a 0 1 * a 2 3 - a 0 3 * a 2 1)) ∧ cfR a 13 14 3 3 = (a 0 1 * a 2 2 - a 0 2 * a 2 1) := by
  simp [cfR, dR, exR, lowB, pop] <;> grind
theorem cr_13_14 {a : Nat → Nat → Rat} {w u : Nat → Rat} (ha : ∀ i j, i < 4 → j < 4 → 1 ≤ a i j) (hw : ∀ i, i < 4 → bN 13 i → sr (fun j => a i j * w j) 4 = 1) (w0 : ∀ j, j < 4 → ¬ bN 14 j → w j = 0) (hu : ∀ j, j < 4 → bN 14 j → sr (fun i => a i j * u i) 4 = 1) (u0 : ∀ i, i < 4 → ¬ bN 13 i → u i = 0) (hz : ∀ z : Nat → Rat, (∀ j, j < 4 → ¬ bN 14 j → z j = 0) → (∀ i, i < 4 → bN 13 i → sr (fun j => a i j * z j) 4 = 0) → ∀ j, j < 4 → z j = 0) : crP a 13 14 w u := by
  have ep : pop 13 = 3 := by decide
  obtain ⟨eD, c00, c01, c02, c10, c11, c12, c20, c21, c22⟩ := ev_13_14 a
  have wz0 := w0 0 (by omega) (by decide)
  have uz1 := u0 1 (by omega) (by decide)
  have h0 : a 0 1 * w 1 + a 0 2 * w 2 + a 0 3 * w 3 = 1 := by
    have h := hw 0 (by omega) (by decide)
    simp only [sr] at h
    grind
  have h1 : a 2 1 * w 1 + a 2 2 * w 2 + a 2 3 * w 3 = 1 := by
    have h := hw 2 (by omega) (by decide)
    simp only [sr] at h
    grind
  have h2 : a 3 1 * w 1 + a 3 2 * w 2 + a 3 3 * w 3 = 1 := by
    have h := hw 3 (by omega) (by decide)
    simp only [sr] at h
    grind
  have g0 : a 0 1 * u 0 + a 2 1 * u 2 + a 3 1 * u 3 = 1 := by
    have h := hu 1 (by omega) (by decide)
    simp only [sr] at h
    grind
  have g1 : a 0 2 * u 0 + a 2 2 * u 2 + a 3 2 * u 3 = 1 := by
    have h := hu 2 (by omega) (by decide)
    simp only [sr] at h
    grind
  have g2 : a 0 3 * u 0 + a 2 3 * u 2 + a 3 3 * u 3 = 1 := by
    have h := hu 3 (by omega) (by decide)
    simp only [sr] at h
    grind
  obtain ⟨r0, r1, r2, t0, t1, t2⟩ := cram3 h0 h1 h2 g0 g1 g2
  unfold crP
  rw [ep, eD]
  refine ⟨fun hD => ?_, fun j hj => ?_, fun i hi => ?_⟩
  · obtain ⟨z0, z1, z2, n, e0, e1, e2⟩ := ker3 hD
    have y := hz (fun j => if j = 1 then z0 else if j = 2 then z1 else if j = 3 then z2 else 0) (fun j hj nj => ?_) (fun i hi bi => ?_)
    · apply n
      refine ⟨?_, ?_, ?_⟩
      · have y1 := y 1 (by omega)
        simpa using y1
      · have y1 := y 2 (by omega)
        simpa using y1
      · have y1 := y 3 (by omega)
        simpa using y1
    · have hj' : j = 0 ∨ j = 1 ∨ j = 2 ∨ j = 3 := by omega
      rcases hj' with f | f | f | f <;> subst f <;> first | exact absurd (by decide) nj | rfl
    · have hi' : i = 0 ∨ i = 1 ∨ i = 2 ∨ i = 3 := by omega
      rcases hi' with f | f | f | f <;> subst f <;> first | exact absurd bi (by decide) | (simp [sr] <;> grind)
  · have hj' : j = 0 ∨ j = 1 ∨ j = 2 ∨ j = 3 := by omega
    rcases hj' with f | f | f | f <;> subst f
    · have n0 : cfR a 13 14 0 0 = 0 := if_neg (by decide)
      have n1 : cfR a 13 14 1 0 = 0 := if_neg (by decide)
      have n2 : cfR a 13 14 2 0 = 0 := if_neg (by decide)
      have n3 : cfR a 13 14 3 0 = 0 := if_neg (by decide)
      simp only [sr, wz0, n0, n1, n2, n3, Rat.zero_add, Rat.add_zero, Rat.mul_zero]
    · have n1 : cfR a 13 14 1 1 = 0 := if_neg (by decide)
      simp only [sr, c00, c10, c20, n1, Rat.zero_add, Rat.add_zero]
      exact r0
    · have n1 : cfR a 13 14 1 2 = 0 := if_neg (by decide)
      simp only [sr, c01, c11, c21, n1, Rat.zero_add, Rat.add_zero]
      exact r1
    · have n1 : cfR a 13 14 1 3 = 0 := if_neg (by decide)
      simp only [sr, c02, c12, c22, n1, Rat.zero_add, Rat.add_zero]
      exact r2
  · have hi' : i = 0 ∨ i = 1 ∨ i = 2 ∨ i = 3 := by omega
    rcases hi' with f | f | f | f <;> subst f
    · have n0 : cfR a 13 14 0 0 = 0 := if_neg (by decide)
      simp only [sr, c00, c01, c02, n0, Rat.zero_add, Rat.add_zero]
      exact t0
    · have n0 : cfR a 13 14 1 0 = 0 := if_neg (by decide)
      have n1 : cfR a 13 14 1 1 = 0 := if_neg (by decide)
      have n2 : cfR a 13 14 1 2 = 0 := if_neg (by decide)
      have n3 : cfR a 13 14 1 3 = 0 := if_neg (by decide)
      simp only [sr, uz1, n0, n1, n2, n3, Rat.zero_add, Rat.add_zero, Rat.mul_zero]
    · have n0 : cfR a 13 14 2 0 = 0 := if_neg (by decide)
      simp only [sr, c10, c11, c12, n0, Rat.zero_add, Rat.add_zero]
      exact t1
    · have n0 : cfR a 13 14 3 0 = 0 := if_neg (by decide)
      simp only [sr, c20, c21, c22, n0, Rat.zero_add, Rat.add_zero]
      exact t2
theorem ev_14_7 (a : Nat → Nat → Rat) : dR a 3 14 7 = a 1 0 * (a 2 1 * a 3 2 - a 2 2 * a 3 1) - a 1 1 * (a 2 0 * a 3 2 - a 2 2 * a 3 0) + a 1 2 * (a 2 0 * a 3 1 - a 2 1 * a 3 0) ∧ cfR a 14 7 1 0 = (a 2 1 * a 3 2 - a 2 2 * a 3 1) ∧ cfR a 14 7 1 1 = (-(a 2 0 * a 3 2 - a 2 2 * a 3 0)) ∧ cfR a 14 7 1 2 = (a 2 0 * a 3 1 - a 2 1 * a 3 0) ∧ cfR a 14 7 2 0 = (-(a 1 1 * a 3 2 - a 1 2 * a 3 1)) ∧ cfR a 14 7 2 1 = (a 1 0 * a 3 2 - a 1 2 * a 3 0) ∧ cfR a 14 7 2 2 = (-(a 1 0 * a 3 1 - a 1 1 * a 3 0)) ∧ cfR a 14 7 3 0 = (a 1 1 * a 2 2 - a 1 2 * a 2 1) ∧ cfR a 14 7 3 1 = (-(a 1 0 * a 2 2 - a 1 2 * a 2 0)) ∧ cfR a 14 7 3 2 = (a 1 0 * a 2 1 - a 1 1 * a 2 0) := by
  simp [cfR, dR, exR, lowB, pop] <;> grind
theorem cr_14_7 {a : Nat → Nat → Rat} {w u : Nat → Rat} (ha : ∀ i j, i < 4 → j < 4 → 1 ≤ a i j) (hw : ∀ i, i < 4 → bN 14 i → sr (fun j => a i j * w j) 4 = 1) (w0 : ∀ j, j < 4 → ¬ bN 7 j → w j = 0) (hu : ∀ j, j < 4 → bN 7 j → sr (fun i => a i j * u i) 4 = 1) (u0 : ∀ i, i < 4 → ¬ bN 14 i → u i = 0) (hz : ∀ z : Nat → Rat, (∀ j, j < 4 → ¬ bN 7 j → z j = 0) → (∀ i, i < 4 → bN 14 i → sr (fun j => a i j * z j) 4 = 0) → ∀ j, j < 4 → z j = 0) : crP a 14 7 w u := by
  have ep : pop 14 = 3 := by decide
  obtain ⟨eD, c00, c01, c02, c10, c11, c12, c20, c21, c22⟩ := ev_14_7 a
  have wz3 := w0 3 (by omega) (by decide)
  have uz0 := u0 0 (by omega) (by decide)
  have h0 : a 1 0 * w 0 + a 1 1 * w 1 + a 1 2 * w 2 = 1 := by
    have h := hw 1 (by omega) (by decide)
    simp only [sr] at h
    grind
  have h1 : a 2 0 * w 0 + a 2 1 * w 1 + a 2 2 * w 2 = 1 := by
    have h := hw 2 (by omega) (by decide)
    simp only [sr] at h
    grind
  have h2 : a 3 0 * w 0 + a 3 1 * w 1 + a 3 2 * w 2 = 1 := by
    have h := hw 3 (by omega) (by decide)
    simp only [sr] at h
    grind
  have g0 : a 1 0 * u 1 + a 2 0 * u 2 + a 3 0 * u 3 = 1 := by
    have h := hu 0 (by omega) (by decide)
    simp only [sr] at h
    grind
  have g1 : a 1 1 * u 1 + a 2 1 * u 2 + a 3 1 * u 3 = 1 := by
    have h := hu 1 (by omega) (by decide)
    simp only [sr] at h
    grind
  have g2 : a 1 2 * u 1 + a 2 2 * u 2 + a 3 2 * u 3 = 1 := by
    have h := hu 2 (by omega) (by decide)
    simp only [sr] at h
    grind
  obtain ⟨r0, r1, r2, t0, t1, t2⟩ := cram3 h0 h1 h2 g0 g1 g2
  unfold crP
  rw [ep, eD]
  refine ⟨fun hD => ?_, fun j hj => ?_, fun i hi => ?_⟩
  · obtain ⟨z0, z1, z2, n, e0, e1, e2⟩ := ker3 hD
    have y := hz (fun j => if j = 0 then z0 else if j = 1 then z1 else if j = 2 then z2 else 0) (fun j hj nj => ?_) (fun i hi bi => ?_)
    · apply n
      refine ⟨?_, ?_, ?_⟩
      · have y1 := y 0 (by omega)
        simpa using y1
      · have y1 := y 1 (by omega)
        simpa using y1
      · have y1 := y 2 (by omega)
        simpa using y1
    · have hj' : j = 0 ∨ j = 1 ∨ j = 2 ∨ j = 3 := by omega
      rcases hj' with f | f | f | f <;> subst f <;> first | exact absurd (by decide) nj | rfl
    · have hi' : i = 0 ∨ i = 1 ∨ i = 2 ∨ i = 3 := by omega
      rcases hi' with f | f | f | f <;> subst f <;> first | exact absurd bi (by decide) | (simp [sr] <;> grind)
  · have hj' : j = 0 ∨ j = 1 ∨ j = 2 ∨ j = 3 := by omega
    rcases hj' with f | f | f | f <;> subst f
    · have n0 : cfR a 14 7 0 0 = 0 := if_neg (by decide)
      simp only [sr, c00, c10, c20, n0, Rat.zero_add, Rat.add_zero]
      exact r0
    · have n0 : cfR a 14 7 0 1 = 0 := if_neg (by decide)
      simp only [sr, c01, c11, c21, n0, Rat.zero_add, Rat.add_zero]
      exact r1
    · have n0 : cfR a 14 7 0 2 = 0 := if_neg (by decide)
      simp only [sr, c02, c12, c22, n0, Rat.zero_add, Rat.add_zero]
      exact r2
    · have n0 : cfR a 14 7 0 3 = 0 := if_neg (by decide)
      have n1 : cfR a 14 7 1 3 = 0 := if_neg (by decide)
      have n2 : cfR a 14 7 2 3 = 0 := if_neg (by decide)
      have n3 : cfR a 14 7 3 3 = 0 := if_neg (by decide)
      simp only [sr, wz3, n0, n1, n2, n3, Rat.zero_add, Rat.add_zero, Rat.mul_zero]
  · have hi' : i = 0 ∨ i = 1 ∨ i = 2 ∨ i = 3 := by omega
    rcases hi' with f | f | f | f <;> subst f
    · have n0 : cfR a 14 7 0 0 = 0 := if_neg (by decide)
      have n1 : cfR a 14 7 0 1 = 0 := if_neg (by decide)
      have n2 : cfR a 14 7 0 2 = 0 := if_neg (by decide)
      have n3 : cfR a 14 7 0 3 = 0 := if_neg (by decide)
      simp only [sr, uz0, n0, n1, n2, n3, Rat.zero_add, Rat.add_zero, Rat.mul_zero]
    · have n3 : cfR a 14 7 1 3 = 0 := if_neg (by decide)
      simp only [sr, c00, c01, c02, n3, Rat.zero_add, Rat.add_zero]
      exact t0
    · have n3 : cfR a 14 7 2 3 = 0 := if_neg (by decide)
      simp only [sr, c10, c11, c12, n3, Rat.zero_add, Rat.add_zero]
      exact t1
    · have n3 : cfR a 14 7 3 3 = 0 := if_neg (by decide)
      simp only [sr, c20, c21, c22, n3, Rat.zero_add, Rat.add_zero]
      exact t2
theorem ev_14_11 (a : Nat → Nat → Rat) : dR a 3 14 11 = a 1 0 * (a 2 1 * a 3 3 - a 2 3 * a 3 1) - a 1 1 * (a 2 0 * a 3 3 - a 2 3 * a 3 0) + a 1 3 * (a 2 0 * a 3 1 - a 2 1 * a 3 0) ∧ cfR a 14 11 1 0 = (a 2 1 * a 3 3 - a 2 3 * a 3 1) ∧ cfR a 14 11 1 1 = (-(a 2 0 * a 3 3 - a 2 3 * a 3 0)) ∧ cfR a 14 11 1 3 = (a 2 0 * a 3 1 - a 2 1 * a 3 0) ∧ cfR a 14 11 2 0 = (-(a 1 1 * a 3 3 - a 1 3 * a 3 1)) ∧ cfR a 14 11 2 1 = (a 1 0 * a 3 3 - a 1 3 * a 3 0) ∧ cfR a 14 11 2 3 = (-(a 1 0 * a 3 1 - a 1 1 * a 3 0)) ∧ cfR a 14 11 3 0 = (a 1 1 * a 2 3 - a 1 3 * a 2 1) ∧ cfR a 14 11 3 1 = (-(a 1 0 * a 2 3 - a 1 3 * a 2 0)) ∧ cfR a 14 11 3 3 = (a 1 0 * a 2 1 - a 1 1 * a 2 0) := by
  simp [cfR, dR, exR, lowB, pop] <;> grind
theorem cr_14_11 {a : Nat → Nat → Rat} {w u : Nat → Rat} (ha : ∀ i j, i < 4 → j < 4 → 1 ≤ a i j) (hw : ∀ i, i < 4 → bN 14 i → sr (fun j => a i j * w j) 4 = 1) (w0 : ∀ j, j < 4 → ¬ bN 11 j → w j = 0) (hu : ∀ j, j < 4 → bN 11 j → sr (fun i => a i j * u i) 4 = 1) (u0 : ∀ i, i < 4 → ¬ bN 14 i → u i = 0) (hz : ∀ z : Nat → Rat, (∀ j, j < 4 → ¬ bN 11 j → z j = 0) → (∀ i, i < 4 → bN 14 i → sr (fun j => a i j * z j) 4 = 0) → ∀ j, j < 4 → z j = 0) : crP a 14 11 w u := by
  have ep : pop 14 = 3 := by decide
  obtain ⟨eD, c00, c01, c02, c10, c11, c12, c20, c21, c22⟩ := ev_14_11 a
  have wz2 := w0 2 (by omega) (by decide)
  have uz0 := u0 0 (by omega) (by decide)
  have h0 : a 1 0 * w 0 + a 1 1 * w 1 + a 1 3 * w 3 = 1 := by
    have h := hw 1 (by omega) (by decide)
    simp only [sr] at h
    grind
  have h1 : a 2 0 * w 0 + a 2 1 * w 1 + a 2 3 * w 3 = 1 := by
    have h := hw 2 (by omega) (by decide)
    simp only [sr] at h
    grind
  have h2 : a 3 0 * w 0 + a 3 1 * w 1 + a 3 3 * w 3 = 1 := by
    have h := hw 3 (by omega) (by decide)
    simp only [sr] at h
    grind
  have g0 : a 1 0 * u 1 + a 2 0 * u 2 + a 3 0 * u 3 = 1 := by
    have h := hu 0 (by omega) (by decide)
    simp only [sr] at h
    grind
  have g1 : a 1 1 * u 1 + a 2 1 * u 2 + a 3 1 * u 3 = 1 := by
    have h := hu 1 (by omega) (by decide)
    simp only [sr] at h
    grind
  have g2 : a 1 3 * u 1 + a 2 3 * u 2 + a 3 3 * u 3 = 1 := by
    have h := hu 3 (by omega) (by decide)
    simp only [sr] at h
    grind
  obtain ⟨r0, r1, r2, t0, t1, t2⟩ := cram3 h0 h1 h2 g0 g1 g2
  unfold crP
  rw [ep, eD]
  refine ⟨fun hD => ?_, fun j hj => ?_, fun i hi => ?_⟩
  · obtain ⟨z0, z1, z2, n, e0, e1, e2⟩ := ker3 hD
    have y := hz (fun j => if j = 0 then z0 else if j = 1 then z1 else if j = 3 then z2 else 0) (fun j hj nj => ?_) (fun i hi bi => ?_)
    · apply n
      refine ⟨?_, ?_, ?_⟩
      · have y1 := y 0 (by omega)
        simpa using y1
      · have y1 := y 1 (by omega)
        simpa using y1
      · have y1 := y 3 (by omega)
        simpa using y1
    · have hj' : j = 0 ∨ j = 1 ∨ j = 2 ∨ j = 3 := by omega
      rcases hj' with f | f | f | f <;> subst f <;> first | exact absurd (by decide) nj | rfl
    · have hi' : i = 0 ∨ i = 1 ∨ i = 2 ∨ i = 3 := by omega
      rcases hi' with f | f | f | f <;> subst f <;> first | exact absurd bi (by decide) | (simp [sr] <;> grind)
  · have hj' : j = 0 ∨ j = 1 ∨ j = 2 ∨ j = 3 := by omega
    rcases hj' with f | f | f | f <;> subst f
    · have n0 : cfR a 14 11 0 0 = 0 := if_neg (by decide)
      simp only [sr, c00, c10, c20, n0, Rat.zero_add, Rat.add_zero]
      exact r0
    · have n0 : cfR a 14 11 0 1 = 0 := if_neg (by decide)
      simp only [sr, c01, c11, c21, n0, Rat.zero_add, Rat.add_zero]
      exact r1
    · have n0 : cfR a 14 11 0 2 = 0 := if_neg (by decide)
      have n1 : cfR a 14 11 1 2 = 0 := if_neg (by decide)
      have n2 : cfR a 14 11 2 2 = 0 := if_neg (by decide)
      have n3 : cfR a 14 11 3 2 = 0 := if_neg (by decide)
      simp only [sr, wz2, n0, n1, n2, n3, Rat.zero_add, Rat.add_zero, Rat.mul_zero]
    · have n0 : cfR a 14 11 0 3 = 0 := if_neg (by decide)
      simp only [sr, c02, c12, c22, n0, Rat.zero_add, Rat.add_zero]
      exact r2
  · have hi' : i = 0 ∨ i = 1 ∨ i = 2 ∨ i = 3 := by omega
    rcases hi' with f | f | f | f <;> subst f
    · have n0 : cfR a 14 11 0 0 = 0 := if_neg (by decide)
      have n1 : cfR a 14 11 0 1 = 0 := if_neg (by decide)
      have n2 : cfR a 14 11 0 2 = 0 := if_neg (by decide)
      have n3 : cfR a 14 11 0 3 = 0 := if_neg (by decide)
      simp only [sr, uz0, n0, n1, n2, n3, Rat.zero_add, Rat.add_zero, Rat.mul_zero]
    · have n2 : cfR a 14 11 1 2 = 0 := if_neg (by decide)
      simp only [sr, c00, c01, c02, n2, Rat.zero_add, Rat.add_zero]
      exact t0
    · have n2 : cfR a 14 11 2 2 = 0 := if_neg (by decide)
      simp only [sr, c10, c11, c12, n2, Rat.zero_add, Rat.add_zero]
      exact t1
    · have n2 : cfR a 14 11 3 2 = 0 := if_neg (by decide)
      simp only [sr, c20, c21, c22, n2, Rat.zero_add, Rat.add_zero]
      exact t2
theorem ev_14_13 (a : Nat → Nat → Rat) : dR a 3 14 13 = a 1 0 * (a 2 2 * a 3 3 - a 2 3 * a 3 2) - a 1 2 * (a 2 0 * a 3 3 - a 2 3 * a 3 0) + a 1 3 * (a 2 0 * a 3 2 - a 2 2 * a 3 0) ∧ cfR a 14 13 1 0 = (a 2 2 * a 3 3 - a 2 3 * a 3 2) ∧ cfR a 14 13 1 2 = (-(a 2 0 * a 3 3 - a 2 3 * a 3 0)) ∧ cfR a 14 13 1 3 = (a 2 0 * a 3 2 - a 2 2 * a 3 0) ∧ cfR a 14 13 2 0 = (-(a 1 2 * a 3 3 - a 1 3 * a 3 2)) ∧ cfR a 14 13 2 2 = (a 1 0 * a 3 3 - a 1 3 * a 3 0) ∧ cfR a 14 13 2 3 = (-(a 1 0 * a 3 2 - a 1 2 * a 3 0)) ∧ cfR a 14 13 3 0 = (a 1 2 * a 2 3 - a 1 3 * a 2 2) ∧ cfR a 14 13 3 2 = (-(a 1 0 * a 2 3 - a 1 3 * a 2 0)) ∧ cfR a 14 13 3 3 = (a 1 0 * a 2 2 - a 1 2 * a 2 0) := by
  simp [cfR, dR, exR, lowB, pop] <;> grind
theorem cr_14_13 {a : Nat → Nat → Rat} {w u : Nat → Rat} (ha : ∀ i j, i < 4 → j < 4 → 1 ≤ a i j) (hw : ∀ i, i < 4 → bN 14 i → sr (fun j => a i j * w j) 4 = 1) (w0 : ∀ j, j < 4 → ¬ bN 13 j → w j = 0) (hu : ∀ j, j < 4 → bN 13 j → sr (fun i => a i j * u i) 4 = 1) (u0 : ∀ i, i < 4 → ¬ bN 14 i → u i = 0) (hz : ∀ z : Nat → Rat, (∀ j, j < 4 → ¬ bN 13 j → z j = 0) → (∀ i, i < 4 → bN 14 i → sr (fun j => a i j * z j) 4 = 0) → ∀ j, j < 4 → z j = 0) : crP a 14 13 w u := by
  have ep : pop 14 = 3 := by decide
  obtain ⟨eD, c00, c01, c02, c10, c11, c12, c20, c21, c22⟩ := ev_14_13 a
  have wz1 := w0 1 (by omega) (by decide)
  have uz0 := u0 0 (by omega) (by decide)
  have h0 : a 1 0 * w 0 + a 1 2 * w 2 + a 1 3 * w 3 = 1 := by
    have h := hw 1 (by omega) (by decide)
    simp only [sr] at h
    grind
  have h1 : a 2 0 * w 0 + a 2 2 * w 2 + a 2 3 * w 3 = 1 := by
    have h := hw 2 (by omega) (by decide)
    simp only [sr] at h
    grind
  have h2 : a 3 0 * w 0 + a 3 2 * w 2 + a 3 3 * w 3 = 1 := by
    have h := hw 3 (by omega) (by decide)
    simp only [sr] at h
    grind
  have g0 : a 1 0 * u 1 + a 2 0 * u 2 + a 3 0 * u 3 = 1 := by
    have h := hu 0 (by omega) (by decide)
    simp only [sr] at h
    grind
  have g1 : a 1 2 * u 1 + a 2 2 * u 2 + a 3 2 * u 3 = 1 := by
    have h := hu 2 (by omega) (by decide)
    simp only [sr] at h
    grind
  have g2 : a 1 3 * u 1 + a 2 3 * u 2 + a 3 3 * u 3 = 1 := by
    have h := hu 3 (by omega) (by decide)
    simp only [sr] at h
    grind
  obtain ⟨r0, r1, r2, t0, t1, t2⟩ := cram3 h0 h1 h2 g0 g1 g2
  unfold crP
  rw [ep, eD]
  refine ⟨fun hD => ?_, fun j hj => ?_, fun i hi => ?_⟩
  · obtain ⟨z0, z1, z2, n, e0, e1, e2⟩ := ker3 hD
    have y := hz (fun j => if j = 0 then z0 else if j = 2 then z1 else if j = 3 then z2 else 0) (fun j hj nj => ?_) (fun i hi bi => ?_)
    · apply n
      refine ⟨?_, ?_, ?_⟩
      · have y1 := y 0 (by omega)
        simpa using y1
      · have y1 := y 2 (by omega)
        simpa using y1
      · have y1 := y 3 (by omega)
        simpa using y1
    · have hj' : j = 0 ∨ j = 1 ∨ j = 2 ∨ j = 3 := by omega
      rcases hj' with f | f | f | f <;> subst f <;> first | exact absurd (by decide) nj | rfl
    · have hi' : i = 0 ∨ i = 1 ∨ i = 2 ∨ i = 3 := by omega
      rcases hi' with f | f | f | f <;> subst f <;> first | exact absurd bi (by decide) | (simp [sr] <;> grind)
  · have hj' : j = 0 ∨ j = 1 ∨ j = 2 ∨ j = 3 := by omega
    rcases hj' with f | f | f | f <;> subst f
    · have n0 : cfR a 14 13 0 0 = 0 := if_neg (by decide)
      simp only [sr, c00, c10, c20, n0, Rat.zero_add, Rat.add_zero]
      exact r0
    · have n0 : cfR a 14 13 0 1 = 0 := if_neg (by decide)
      have n1 : cfR a 14 13 1 1 = 0 := if_neg (by decide)
      have n2 : cfR a 14 13 2 1 = 0 := if_neg (by decide)
      have n3 : cfR a 14 13 3 1 = 0 := if_neg (by decide)
      simp only [sr, wz1, n0, n1, n2, n3, Rat.zero_add, Rat.add_zero, Rat.mul_zero]
    · have n0 : cfR a 14 13 0 2 = 0 := if_neg (by decide)
      simp only [sr, c01, c11, c21, n0, Rat.zero_add, Rat.add_zero]
      exact r1
    · have n0 : cfR a 14 13 0 3 = 0 := if_neg (by decide)
      simp only [sr, c02, c12, c22, n0, Rat.zero_add, Rat.add_zero]
      exact r2
  · have hi' : i = 0 ∨ i = 1 ∨ i = 2 ∨ i = 3 := by omega
    rcases hi' with f | f | f | f <;> subst f
    · have n0 : cfR a 14 13 0 0 = 0 := if_neg (by decide)
      have n1 : cfR a 14 13 0 1 = 0 := if_neg (by decide)
      have n2 : cfR a 14 13 0 2 = 0 := if_neg (by decide)
      have n3 : cfR a 14 13 0 3 = 0 := if_neg (by decide)
      simp only [sr, uz0, n0, n1, n2, n3, Rat.zero_add, Rat.add_zero, Rat.mul_zero]
    · have n1 : cfR a 14 13 1 1 = 0 := if_neg (by decide)
      simp only [sr, c00, c01, c02, n1, Rat.zero_add, Rat.add_zero]
      exact t0
    · have n1 : cfR a 14 13 2 1 = 0 := if_neg (by decide)
      simp only [sr, c10, c11, c12, n1, Rat.zero_add, Rat.add_zero]
      exact t1
    · have n1 : cfR a 14 13 3 1 = 0 := if_neg (by decide)
      simp only [sr, c20, c21, c22, n1, Rat.zero_add, Rat.add_zero]
      exact t2
theorem ev_14_14 (a : Nat → Nat → Rat) : dR a 3 14 14 = a 1 1 * (a 2 2 * a 3 3 - a 2 3 * a 3 2) - a 1 2 * (a 2 1 * a 3 3 - a 2 3 * a 3 1) + a 1 3 * (a 2 1 * a 3 2 - a 2 2 * a 3 1) ∧ cfR a 14 14 1 1 = (a 2 2 * a 3 3 - a 2 3 * a 3 2) ∧ cfR a 14 14 1 2 = (-(a 2 1 * a 3 3 - a 2 3 * a 3 1)) ∧ cfR a 14 14 1 3 = (a 2 1 * a 3 2 - a 2 2 * a 3 1) ∧ cfR a 14 14 2 1 = (-(a 1 2 * a 3 3 - a 1 3 * a 3 2)) ∧ cfR a 14 14 2 2 = (a 1 1 * a 3 3 - a 1 3 * a 3 1) ∧ cfR a 14 14 2 3 = (-(a 1 1 * a 3 2 - a 1 2 * a 3 1)) ∧ cfR a 14 14 3 1 = (a 1 2 * a 2 3 - a 1 3 * a 2 2) ∧ cfR a 14 14 3 2 = (-(a 1 1 * a 2 3 - a 1 3 * a 2 1)) ∧ cfR a 14 14 3 3 = (a 1 1 * a 2 2 - a 1 2 * a 2 1) := by
  simp [cfR, dR, exR, lowB, pop] <;> grind
theorem cr_14_14 {a : Nat → Nat → Rat} {w u : Nat → Rat} (ha : ∀ i j, i < 4 → j < 4 → 1 ≤ a i j) (hw : ∀ i, i < 4 → bN 14 i → sr (fun j => a i j * w j) 4 = 1) (w0 : ∀ j, j < 4 → ¬ bN 14 j → w j = 0) (hu : ∀ j, j < 4 → bN 14 j → sr (fun i => a i j * u i) 4 = 1) (u0 : ∀ i, i < 4 → ¬ bN 14 i → u i = 0) (hz : ∀ z : Nat → Rat, (∀ j, j < 4 → ¬ bN 14 j → z j = 0) → (∀ i, i < 4 → bN 14 i → sr (fun j => a i j * z j) 4 = 0) → ∀ j, j < 4 → z j = 0) : crP a 14 14 w u := by
  have ep : pop 14 = 3 := by decide
  obtain ⟨eD, c00, c01, c02, c10, c11, c12, c20, c21, c22⟩ := ev_14_14 a
  have wz0 := w0 0 (by omega) (by decide)
  have uz0 := u0 0 (by omega) (by decide)
  have h0 : a 1 1 * w 1 + a 1 2 * w 2 + a 1 3 * w 3 = 1 := by
    have h := hw 1 (by omega) (by decide)
    simp only [sr] at h
    grind
  have h1 : a 2 1 * w 1 + a 2 2 * w 2 + a 2 3 * w 3 = 1 := by
    have h := hw 2 (by omega) (by decide)
    simp only [sr] at h
    grind
  have h2 : a 3 1 * w 1 + a 3 2 * w 2 + a 3 3 * w 3 = 1 := by
    have h := hw 3 (by omega) (by decide)
    simp only [sr] at h
    grind
  have g0 : a 1 1 * u 1 + a 2 1 * u 2 + a 3 1 * u 3 = 1 := by
    have h := hu 1 (by omega) (by decide)
    simp only [sr] at h
    grind
  have g1 : a 1 2 * u 1 + a 2 2 * u 2 + a 3 2 * u 3 = 1 := by
    have h := hu 2 (by omega) (by decide)
    simp only [sr] at h
    grind
  have g2 : a 1 3 * u 1 + a 2 3 * u 2 + a 3 3 * u 3 = 1 := by
    have h := hu 3 (by omega) (by decide)
    simp only [sr] at h
    grind
  obtain ⟨r0, r1, r2, t0, t1, t2⟩ := cram3 h0 h1 h2 g0 g1 g2
  unfold crP
  rw [ep, eD]
  refine ⟨fun hD => ?_, fun j hj => ?_, fun i hi => ?_⟩
  · obtain ⟨z0, z1, z2, n, e0, e1, e2⟩ := ker3 hD
    have y := hz (fun j => if j = 1 then z0 else if j = 2 then z1 else if j = 3 then z2 else 0) (fun j hj nj => ?_) (fun i hi bi => ?_)
    · apply n
      refine ⟨?_, ?_, ?_⟩
      · have y1 := y 1 (by omega)
        simpa using y1
      · have y1 := y 2 (by omega)
        simpa using y1
      · have y1 := y 3 (by omega)
        simpa using y1
    · have hj' : j = 0 ∨ j = 1 ∨ j = 2 ∨ j = 3 := by omega
      rcases hj' with f | f | f | f <;> subst f <;> first | exact absurd (by decide) nj | rfl
    · have hi' : i = 0 ∨ i = 1 ∨ i = 2 ∨ i = 3 := by omega
      rcases hi' with f | f | f | f <;> subst f <;> first | exact absurd bi (by decide) | (simp [sr] <;> grind)
  · have hj' : j = 0 ∨ j = 1 ∨ j = 2 ∨ j = 3 := by omega
    rcases hj' with f | f | f | f <;> subst f
    · have n0 : cfR a 14 14 0 0 = 0 := if_neg (by decide)
      have n1 : cfR a 14 14 1 0 = 0 := if_neg (by decide)
      have n2 : cfR a 14 14 2 0 = 0 := if_neg (by decide)
      have n3 : cfR a 14 14 3 0 = 0 := if_neg (by decide)
      simp only [sr, wz0, n0, n1, n2, n3, Rat.zero_add, Rat.add_zero, Rat.mul_zero]
    · have n0 : cfR a 14 14 0 1 = 0 := if_neg (by decide)
      simp only [sr, c00, c10, c20, n0, Rat.zero_add, Rat.add_zero]
      exact r0
    · have n0 : cfR a 14 14 0 2 = 0 := if_neg (by decide)
      simp only [sr, c01, c11, c21, n0, Rat.zero_add, Rat.add_zero]
      exact r1
    · have n0 : cfR a 14 14 0 3 = 0 := if_neg (by decide)
      simp only [sr, c02, c12, c22, n0, Rat.zero_add, Rat.add_zero]
      exact r2
  · have hi' : i = 0 ∨ i = 1 ∨ i = 2 ∨ i = 3 := by omega
    rcases hi' with f | f | f | f <;> subst f
    · have n0 : cfR a 14 14 0 0 = 0 := if_neg (by decide)
      have n1 : cfR a 14 14 0 1 = 0 := if_neg (by decide)
      have n2 : cfR a 14 14 0 2 = 0 := if_neg (by decide)
      have n3 : cfR a 14 14 0 3 = 0 := if_neg (by decide)
      simp only [sr, uz0, n0, n1, n2, n3, Rat.zero_add, Rat.add_zero, Rat.mul_zero]
    · have n0 : cfR a 14 14 1 0 = 0 := if_neg (by decide)
      simp only [sr, c00, c01, c02, n0, Rat.zero_add, Rat.add_zero]
      exact t0
    · have n0 : cfR a 14 14 2 0 = 0 := if_neg (by decide)
      simp only [sr, c10, c11, c12, n0, Rat.zero_add, Rat.add_zero]
      exact t1
    · have n0 : cfR a 14 14 3 0 = 0 := if_neg (by decide)
      simp only [sr, c20, c21, c22, n0, Rat.zero_add, Rat.add_zero]
      exact t2

theorem ev_15_15 (a : Nat → Nat → Rat) : dR a 4 15 15 = a 0 0 * (a 1 1 * (a 2 2 * a 3 3 - a 2 3 * a 3 2) - a 1 2 * (a 2 1 * a 3 3 - a 2 3 * a 3 1) + a 1 3 * (a 2 1 * a 3 2 - a 2 2 * a 3 1)) - a 0 1 * (a 1 0 * (a 2 2 * a 3 3 - a 2 3 * a 3 2) - a 1 2 * (a 2 0 * a 3 3 - a 2 3 * a 3 0) + a 1 3 * (a 2 0 * a 3 2 - a 2 2 * a 3 0)) + a 0 2 * (a 1 0 * (a 2 1 * a 3 3 - a 2 3 * a 3 1) - a 1 1 * (a 2 0 * a 3 3 - a 2 3 * a 3 0) + a 1 3 * (a 2 0 * a 3 1 - a 2 1 * a 3 0)) - a 0 3 * (a 1 0 * (a 2 1 * a 3 2 - a 2 2 * a 3 1) - a 1 1 * (a 2 0 * a 3 2 - a 2 2 * a 3 0) + a 1 2 * (a 2 0 * a 3 1 - a 2 1 * a 3 0)) ∧ cfR a 15 15 0 0 = (a 1 1 * (a 2 2 * a 3 3 - a 2 3 * a 3 2) - a 1 2 * (a 2 1 * a 3 3 - a 2 3 * a 3 1) + a 1 3 * (a 2 1 * a 3 2 - a 2 2 * a 3 1)) ∧ cfR a 15 15 0 1 = (-(a 1 0 * (a 2 2 * a 3 3 - a 2 3 * a 3 2) - a 1 2 * (a 2 0 * a 3 3 - a 2 3 * a 3 0) + a 1 3 * (a 2 0 * a 3 2 - a 2 2 * a 3 0))) ∧ cfR a 15 15 0 2 = (a 1 0 * (a 2 1 * a 3 3 - a 2 3 * a 3 1) - a 1 1 * (a 2 0 * a 3 3 - a 2 3 * a 3 0) + a 1 3 * (a 2 0 * a 3 1 - a 2 1 * a 3 0)) ∧ cfR a 15 15 0 3 = (-(a 1 0 * (a 2 1 * a 3 2 - a 2 2 * a 3 1) - a 1 1 * (a 2 0 * a 3 2 - a 2 2 * a 3 0) + a 1 2 * (a 2 0 * a 3 1 - a 2 1 * a 3 0))) ∧ cfR a 15 15 1 0 = (-(a 0 1 * (a 2 2 * a 3 3 - a 2 3 * a 3 2) - a 0 2 * (a 2 1 * a 3 3 - a 2 3 * a 3 1) + a 0 3 * (a 2 1 * a 3 2 - a 2 2 * a 3 1))) ∧ cfR a 15 15 1 1 = (a 0 0 * (a 2 2 * a 3 3 - a 2 3 * a 3 2) - a 0 2 * (a 2 0 * a 3 3 - a 2 3 * a 3 0) + a 0 3 * (a 2 0 * a 3 2 - a 2 2 * a 3 0)) ∧ cfR a 15 15 1 2 = (-(a 0 0 * (a 2 1 * a 3 3 - a 2 3 * a 3 1) - a 0 1 * (a 2 0 * a 3 3 - a 2 3 * a 3 0) + a 0 3 * (a 2 0 * a 3 1 - a 2 1 * a 3 0))) ∧ cfR a 15 15 1 3 = (a 0 0 * (a 2 1 * a 3 2 - a 2 2 * a 3 1) - a 0 1 * (a 2 0 * a 3 2 - a 2 2 * a 3 0) + a 0 2 * (a 2 0 * a 3 1 - a 2 1 * a 3 0)) ∧ cfR a 15 15 2 0 = (a 0 1 * (a 1 2 * a 3 3 - a 1 3 * a 3 2) - a 0 2 * (a 1 1 * a 3 3 - a 1 3 * a 3 1) + a 0 3 * (a 1 1 * a 3 2 - a 1 2 * a 3 1)) ∧ cfR a 15 15 2 1 = (-(a 0 0 * (a 1 2 * a 3 3 - a 1 3 * a 3 2) - a 0 2 * (a 1 0 * a 3 3 - a 1 3 * a 3 0) + a 0 3 * (a 1 0 * a 3 2 - a 1 2 * a 3 0))) ∧ cfR a 15 15 2 2 = (a 0 0 * (a 1 1 * a 3 3 - a 1 3 * a 3 1) - a 0 1 * (a 1 0 * a 3 3 - a 1 3 * a 3 0) + a 0 3 * (a 1 0 * a 3 1 - a 1 1 * a 3 0)) ∧ cfR a 15 15 2 3 = (-(a 0 0 * (a 1 1 * a 3 2 - a 1 2 * a 3 1) - a 0 1 * (a 1 0 * a 3 2 - a 1 2 * a 3 0) + a 0 2 * (a 1 0 * a 3 1 - a 1 1 * a 3 0))) ∧ cfR a 15 15 3 0 = (-(a 0 1 * (a 1 2 * a 2 3 - a 1 3 * a 2 2) - a 0 2 * (a 1 1 * a 2 3 - a 1 3 * a 2 1) + a 0 3 * (a 1 1 * a 2 2 - a 1 2 * a 2 1))) ∧ cfR a 15 15 3 1 = (a 0 0 * (a 1 2 * a 2 3 - a 1 3 * a 2 2) - a 0 2 * (a 1 0 * a 2 3 - a 1 3 * a 2 0) + a 0 3 * (a 1 0 * a 2 2 - a 1 2 * a 2 0)) ∧ cfR a 15 15 3 2 = (-(a 0 0 * (a 1 1 * a 2 3 - a 1 3 * a 2 1) - a 0 1 * (a 1 0 * a 2 3 - a 1 3 * a 2 0) + a 0 3 * (a 1 0 * a 2 1 - a 1 1 * a 2 0))) ∧ cfR a 15 15 3 3 = (a 0 0 * (a 1 1 * a 2 2 - a 1 2 * a 2 1) - a 0 1 * (a 1 0 * a 2 2 - a 1 2 * a 2 0) + a 0 2 * (a 1 0 * a 2 1 - a 1 1 * a 2 0)) := by
  simp [cfR, dR, exR, lowB, pop] <;> grind
theorem cr_15_15 {a : Nat → Nat → Rat} {w u : Nat → Rat} (ha : ∀ i j, i < 4 → j < 4 → 1 ≤ a i j) (hw : ∀ i, i < 4 → bN 15 i → sr (fun j => a i j * w j) 4 = 1) (w0 : ∀ j, j < 4 → ¬ bN 15 j → w j = 0) (hu : ∀ j, j < 4 → bN 15 j → sr (fun i => a i j * u i) 4 = 1) (u0 : ∀ i, i < 4 → ¬ bN 15 i → u i = 0) (hz : ∀ z : Nat → Rat, (∀ j, j < 4 → ¬ bN 15 j → z j = 0) → (∀ i, i < 4 → bN 15 i → sr (fun j => a i j * z j) 4 = 0) → ∀ j, j < 4 → z j = 0) : crP a 15 15 w u := by
  have ep : pop 15 = 4 := by decide
  obtain ⟨eD, c00, c01, c02, c03, c10, c11, c12, c13, c20, c21, c22, c23, c30, c31, c32, c33⟩ := ev_15_15 a
  have h0 : a 0 0 * w 0 + a 0 1 * w 1 + a 0 2 * w 2 + a 0 3 * w 3 = 1 := by
    have h := hw 0 (by omega) (by decide)
    simp only [sr] at h
    grind
  have h1 : a 1 0 * w 0 + a 1 1 * w 1 + a 1 2 * w 2 + a 1 3 * w 3 = 1 := by
    have h := hw 1 (by omega) (by decide)
    simp only [sr] at h
    grind
  have h2 : a 2 0 * w 0 + a 2 1 * w 1 + a 2 2 * w 2 + a 2 3 * w 3 = 1 := by
    have h := hw 2 (by omega) (by decide)
    simp only [sr] at h
    grind
  have h3 : a 3 0 * w 0 + a 3 1 * w 1 + a 3 2 * w 2 + a 3 3 * w 3 = 1 := by
    have h := hw 3 (by omega) (by decide)
    simp only [sr] at h
    grind
  have g0 : a 0 0 * u 0 + a 1 0 * u 1 + a 2 0 * u 2 + a 3 0 * u 3 = 1 := by
    have h := hu 0 (by omega) (by decide)
    simp only [sr] at h
    grind
  have g1 : a 0 1 * u 0 + a 1 1 * u 1 + a 2 1 * u 2 + a 3 1 * u 3 = 1 := by
    have h := hu 1 (by omega) (by decide)
    simp only [sr] at h
    grind
  have g2 : a 0 2 * u 0 + a 1 2 * u 1 + a 2 2 * u 2 + a 3 2 * u 3 = 1 := by
    have h := hu 2 (by omega) (by decide)
    simp only [sr] at h
    grind
  have g3 : a 0 3 * u 0 + a 1 3 * u 1 + a 2 3 * u 2 + a 3 3 * u 3 = 1 := by
    have h := hu 3 (by omega) (by decide)
    simp only [sr] at h
    grind
  obtain ⟨r0, r1, r2, r3, t0, t1, t2, t3⟩ := cram4 h0 h1 h2 h3 g0 g1 g2 g3
  unfold crP
  rw [ep, eD]
  refine ⟨fun hD => ?_, fun j hj => ?_, fun i hi => ?_⟩
  · obtain ⟨z0, z1, z2, z3, n, e0, e1, e2, e3⟩ := ker4 (by have y := ha 0 0 (by omega) (by omega); grind) hD
    have y := hz (fun j => if j = 0 then z0 else if j = 1 then z1 else if j = 2 then z2 else if j = 3 then z3 else 0) (fun j hj nj => ?_) (fun i hi bi => ?_)
    · apply n
      refine ⟨?_, ?_, ?_, ?_⟩
      · have y1 := y 0 (by omega)
        simpa using y1
      · have y1 := y 1 (by omega)
        simpa using y1
      · have y1 := y 2 (by omega)
        simpa using y1
      · have y1 := y 3 (by omega)
        simpa using y1
    · have hj' : j = 0 ∨ j = 1 ∨ j = 2 ∨ j = 3 := by omega
      rcases hj' with f | f | f | f <;> subst f <;> first | exact absurd (by decide) nj | rfl
    · have hi' : i = 0 ∨ i = 1 ∨ i = 2 ∨ i = 3 := by omega
      rcases hi' with f | f | f | f <;> subst f <;> first | exact absurd bi (by decide) | (simp [sr] <;> grind)
  · have hj' : j = 0 ∨ j = 1 ∨ j = 2 ∨ j = 3 := by omega
    rcases hj' with f | f | f | f <;> subst f
    · simp only [sr, c00, c10, c20, c30, Rat.zero_add, Rat.add_zero]
      exact r0
    · simp only [sr, c01, c11, c21, c31, Rat.zero_add, Rat.add_zero]
      exact r1
    · simp only [sr, c02, c12, c22, c32, Rat.zero_add, Rat.add_zero]
      exact r2
    · simp only [sr, c03, c13, c23, c33, Rat.zero_add, Rat.add_zero]
      exact r3
  · have hi' : i = 0 ∨ i = 1 ∨ i = 2 ∨ i = 3 := by omega
    rcases hi' with f | f | f | f <;> subst f
    · simp only [sr, c00, c01, c02, c03, Rat.zero_add, Rat.add_zero]
      exact t0
    · simp only [sr, c10, c11, c12, c13, Rat.zero_add, Rat.add_zero]
      exact t1
    · simp only [sr, c20, c21, c22, c23, Rat.zero_add, Rat.add_zero]
      exact t2
    · simp only [sr, c30, c31, c32, c33, Rat.zero_add, Rat.add_zero]
      exact t3
theorem cr_all {a : Nat → Nat → Rat} {w u : Nat → Rat} {R C : Nat} (hR : R < 16) (hC : C < 16) (hp : pop R = pop C) (h0 : 1 ≤ R) (ha : ∀ i j, i < 4 → j < 4 → 1 ≤ a i j) (hw : ∀ i, i < 4 → bN R i → sr (fun j => a i j * w j) 4 = 1) (w0 : ∀ j, j < 4 → ¬ bN C j → w j = 0) (hu : ∀ j, j < 4 → bN C j → sr (fun i => a i j * u i) 4 = 1) (u0 : ∀ i, i < 4 → ¬ bN R i → u i = 0) (hz : ∀ z : Nat → Rat, (∀ j, j < 4 → ¬ bN C j → z j = 0) → (∀ i, i < 4 → bN R i → sr (fun j => a i j * z j) 4 = 0) → ∀ j, j < 4 → z j = 0) : crP a R C w u := by
  have hR' : R = 1 ∨ R = 2 ∨ R = 3 ∨ R = 4 ∨ R = 5 ∨ R = 6 ∨ R = 7 ∨ R = 8 ∨ R = 9 ∨ R = 10 ∨ R = 11 ∨ R = 12 ∨ R = 13 ∨ R = 14 ∨ R = 15 := by omega
  have hC' : C = 0 ∨ C = 1 ∨ C = 2 ∨ C = 3 ∨ C = 4 ∨ C = 5 ∨ C = 6 ∨ C = 7 ∨ C = 8 ∨ C = 9 ∨ C = 10 ∨ C = 11 ∨ C = 12 ∨ C = 13 ∨ C = 14 ∨ C = 15 := by omega
  rcases hR' with e | e | e | e | e | e | e | e | e | e | e | e | e | e | e <;> subst e
  · rcases hC' with e | e | e | e | e | e | e | e | e | e | e | e | e | e | e | e <;> subst e
    · exact absurd hp (by decide)
    · exact cr_1_1 ha hw w0 hu u0 hz
    · exact cr_1_2 ha hw w0 hu u0 hz
    · exact absurd hp (by decide)
    · exact cr_1_4 ha hw w0 hu u0 hz
    · exact absurd hp (by decide)
    · exact absurd hp (by decide)
    · exact absurd hp (by decide)
    · exact cr_1_8 ha hw w0 hu u0 hz
    · exact absurd hp (by decide)
    · exact absurd hp (by decide)
    · exact absurd hp (by decide)
    · exact absurd hp (by decide)
    · exact absurd hp (by decide)
    · exact absurd hp (by decide)
    · exact absurd hp (by decide)
  · rcases hC' with e | e | e | e | e | e | e | e | e | e | e | e | e | e | e | e <;> subst e
    · exact absurd hp (by decide)
    · exact cr_2_1 ha hw w0 hu u0 hz
    · exact cr_2_2 ha hw w0 hu u0 hz
    · exact absurd hp (by decide)
    · exact cr_2_4 ha hw w0 hu u0 hz
    · exact absurd hp (by decide)
    · exact absurd hp (by decide)
    · exact absurd hp (by decide)
    · exact cr_2_8 ha hw w0 hu u0 hz
    · exact absurd hp (by decide)
    · exact absurd hp (by decide)
    · exact absurd hp (by decide)
    · exact absurd hp (by decide)
    · exact absurd hp (by decide)
    · exact absurd hp (by decide)
    · exact absurd hp (by decide)
  · rcases hC' with e | e | e | e | e | e | e | e | e | e | e | e | e | e | e | e <;> subst e
    · exact absurd hp (by decide)
    · exact absurd hp (by decide)
    · exact absurd hp (by decide)
    · exact cr_3_3 ha hw w0 hu u0 hz
    · exact absurd hp (by decide)
    · exact cr_3_5 ha hw w0 hu u0 hz
    · exact cr_3_6 ha hw w0 hu u0 hz
    · exact absurd hp (by decide)
    · exact absurd hp (by decide)
    · exact cr_3_9 ha hw w0 hu u0 hz
    · exact cr_3_10 ha hw w0 hu u0 hz
    · exact absurd hp (by decide)
    · exact cr_3_12 ha hw w0 hu u0 hz
    · exact absurd hp (by decide)
    · exact absurd hp (by decide)
    · exact absurd hp (by decide)
  · rcases hC' with e | e | e | e | e | e | e | e | e | e | e | e | e | e | e | e <;> subst e
    · exact absurd hp (by decide)
    · exact cr_4_1 ha hw w0 hu u0 hz
    · exact cr_4_2 ha hw w0 hu u0 hz
    · exact absurd hp (by decide)
    · exact cr_4_4 ha hw w0 hu u0 hz
    · exact absurd hp (by decide)
    · exact absurd hp (by decide)
    · exact absurd hp (by decide)
    · exact cr_4_8 ha hw w0 hu u0 hz
    · exact absurd hp (by decide)
    · exact absurd hp (by decide)
    · exact absurd hp (by decide)
    · exact absurd hp (by decide)
    · exact absurd hp (by decide)
    · exact absurd hp (by decide)
    · exact absurd hp (by decide)
  · rcases hC' with e | e | e | e | e | e | e | e | e | e | e | e | e | e | e | e <;> subst e
    · exact absurd hp (by decide)
    · exact absurd hp (by decide)
    · exact absurd hp (by decide)
    · exact cr_5_3 ha hw w0 hu u0 hz
    · exact absurd hp (by decide)
    · exact cr_5_5 ha hw w0 hu u0 hz
    · exact cr_5_6 ha hw w0 hu u0 hz
    · exact absurd hp (by decide)
    · exact absurd hp (by decide)
    · exact cr_5_9 ha hw w0 hu u0 hz
    · exact cr_5_10 ha hw w0 hu u0 hz
    · exact absurd hp (by decide)
    · exact cr_5_12 ha hw w0 hu u0 hz
    · exact absurd hp (by decide)
    · exact absurd hp (by decide)
    · exact absurd hp (by decide)
  · rcases hC' with e | e | e | e | e | e | e | e | e | e | e | e | e | e | e | e <;> subst e
    · exact absurd hp (by decide)
    · exact absurd hp (by decide)
    · exact absurd hp (by decide)
    · exact cr_6_3 ha hw w0 hu u0 hz
    · exact absurd hp (by decide)
    · exact cr_6_5 ha hw w0 hu u0 hz
    · exact cr_6_6 ha hw w0 hu u0 hz
    · exact absurd hp (by decide)
    · exact absurd hp (by decide)
    · exact cr_6_9 ha hw w0 hu u0 hz
    · exact cr_6_10 ha hw w0 hu u0 hz
    · exact absurd hp (by decide)
    · exact cr_6_12 ha hw w0 hu u0 hz
    · exact absurd hp (by decide)
    · exact absurd hp (by decide)
    · exact absurd hp (by decide)
  · rcases hC' with e | e | e | e | e | e | e | e | e | e | e | e | e | e | e | e <;> subst e
    · exact absurd hp (by decide)
    · exact absurd hp (by decide)
    · exact absurd hp (by decide)
    · exact absurd hp (by decide)
    · exact absurd hp (by decide)
    · exact absurd hp (by decide)
    · exact absurd hp (by decide)
    · exact cr_7_7 ha hw w0 hu u0 hz
    · exact absurd hp (by decide)
    · exact absurd hp (by decide)
    · exact absurd hp (by decide)
    · exact cr_7_11 ha hw w0 hu u0 hz
    · exact absurd hp (by decide)
    · exact cr_7_13 ha hw w0 hu u0 hz
    · exact cr_7_14 ha hw w0 hu u0 hz
    · exact absurd hp (by decide)
  · rcases hC' with e | e | e | e | e | e | e | e | e | e | e | e | e | e | e | e <;> subst e
    · exact absurd hp (by decide)
    · exact cr_8_1 ha hw w0 hu u0 hz
    · exact cr_8_2 ha hw w0 hu u0 hz
    · exact absurd hp (by decide)
    · exact cr_8_4 ha hw w0 hu u0 hz
    · exact absurd hp (by decide)
    · exact absurd hp (by decide)
    · exact absurd hp (by decide)
    · exact cr_8_8 ha hw w0 hu u0 hz
    · exact absurd hp (by decide)
    · exact absurd hp (by decide)
    · exact absurd hp (by decide)
    · exact absurd hp (by decide)
    · exact absurd hp (by decide)
    · exact absurd hp (by decide)
    · exact absurd hp (by decide)
  · rcases hC' with e | e | e | e | e | e | e | e | e | e | e | e | e | e | e | e <;> subst e
    · exact absurd hp (by decide)
    · exact absurd hp (by decide)
    · exact absurd hp (by decide)
    · exact cr_9_3 ha hw w0 hu u0 hz
    · exact absurd hp (by decide)
    · exact cr_9_5 ha hw w0 hu u0 hz
    · exact cr_9_6 ha hw w0 hu u0 hz
    · exact absurd hp (by decide)
    · exact absurd hp (by decide)
    · exact cr_9_9 ha hw w0 hu u0 hz
    · exact cr_9_10 ha hw w0 hu u0 hz
    · exact absurd hp (by decide)
    · exact cr_9_12 ha hw w0 hu u0 hz
    · exact absurd hp (by decide)
    · exact absurd hp (by decide)
    · exact absurd hp (by decide)
  · rcases hC' with e | e | e | e | e | e | e | e | e | e | e | e | e | e | e | e <;> subst e
    · exact absurd hp (by decide)
    · exact absurd hp (by decide)
    · exact absurd hp (by decide)
    · exact cr_10_3 ha hw w0 hu u0 hz
    · exact absurd hp (by decide)
    · exact cr_10_5 ha hw w0 hu u0 hz
    · exact cr_10_6 ha hw w0 hu u0 hz
    · exact absurd hp (by decide)
    · exact absurd hp (by decide)
    · exact cr_10_9 ha hw w0 hu u0 hz
    · exact cr_10_10 ha hw w0 hu u0 hz
    · exact absurd hp (by decide)
    · exact cr_10_12 ha hw w0 hu u0 hz
    · exact absurd hp (by decide)
    · exact absurd hp (by decide)
    · exact absurd hp (by decide)
  · rcases hC' with e | e | e | e | e | e | e | e | e | e | e | e | e | e | e | e <;> subst e
    · exact absurd hp (by decide)
    · exact absurd hp (by decide)
    · exact absurd hp (by decide)
    · exact absurd hp (by decide)
    · exact absurd hp (by decide)
    · exact absurd hp (by decide)
    · exact absurd hp (by decide)
    · exact cr_11_7 ha hw w0 hu u0 hz
    · exact absurd hp (by decide)
    · exact absurd hp (by decide)
    · exact absurd hp (by decide)
    · exact cr_11_11 ha hw w0 hu u0 hz
    · exact absurd hp (by decide)
    · exact cr_11_13 ha hw w0 hu u0 hz
    · exact cr_11_14 ha hw w0 hu u0 hz
    · exact absurd hp (by decide)
  · rcases hC' with e | e | e | e | e | e | e | e | e | e | e | e | e | e | e | e <;> subst e
    · exact absurd hp (by decide)
    · exact absurd hp (by decide)
    · exact absurd hp (by decide)
    · exact cr_12_3 ha hw w0 hu u0 hz
    · exact absurd hp (by decide)
    · exact cr_12_5 ha hw w0 hu u0 hz
    · exact cr_12_6 ha hw w0 hu u0 hz
    · exact absurd hp (by decide)
    · exact absurd hp (by decide)
    · exact cr_12_9 ha hw w0 hu u0 hz
    · exact cr_12_10 ha hw w0 hu u0 hz
    · exact absurd hp (by decide)
    · exact cr_12_12 ha hw w0 hu u0 hz
    · exact absurd hp (by decide)
    · exact absurd hp (by decide)
    · exact absurd hp (by decide)
  · rcases hC' with e | e | e | e | e | e | e | e | e | e | e | e | e | e | e | e <;> subst e
    · exact absurd hp (by decide)
    · exact absurd hp (by decide)
    · exact absurd hp (by decide)
    · exact absurd hp (by decide)
    · exact absurd hp (by decide)
    · exact absurd hp (by decide)
    · exact absurd hp (by decide)
    · exact cr_13_7 ha hw w0 hu u0 hz
    · exact absurd hp (by decide)
    · exact absurd hp (by decide)
    · exact absurd hp (by decide)
    · exact cr_13_11 ha hw w0 hu u0 hz
    · exact absurd hp (by decide)
    · exact cr_13_13 ha hw w0 hu u0 hz
    · exact cr_13_14 ha hw w0 hu u0 hz
    · exact absurd hp (by decide)
  · rcases hC' with e | e | e | e | e | e | e | e | e | e | e | e | e | e | e | e <;> subst e
    · exact absurd hp (by decide)
    · exact absurd hp (by decide)
    · exact absurd hp (by decide)
    · exact absurd hp (by decide)
    · exact absurd hp (by decide)
    · exact absurd hp (by decide)
    · exact absurd hp (by decide)
    · exact cr_14_7 ha hw w0 hu u0 hz
    · exact absurd hp (by decide)
    · exact absurd hp (by decide)
    · exact absurd hp (by decide)
    · exact cr_14_11 ha hw w0 hu u0 hz
    · exact absurd hp (by decide)
    · exact cr_14_13 ha hw w0 hu u0 hz
    · exact cr_14_14 ha hw w0 hu u0 hz
    · exact absurd hp (by decide)
  · rcases hC' with e | e | e | e | e | e | e | e | e | e | e | e | e | e | e | e <;> subst e
    · exact absurd hp (by decide)
    · exact absurd hp (by decide)
    · exact absurd hp (by decide)
    · exact absurd hp (by decide)
    · exact absurd hp (by decide)
    · exact absurd hp (by decide)
    · exact absurd hp (by decide)
    · exact absurd hp (by decide)
    · exact absurd hp (by decide)
    · exact absurd hp (by decide)
    · exact absurd hp (by decide)
    · exact absurd hp (by decide)
    · exact absurd hp (by decide)
    · exact absurd hp (by decide)
    · exact absurd hp (by decide)
    · exact cr_15_15 ha hw w0 hu u0 hz

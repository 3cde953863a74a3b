/-! which layout a world has -/
def IsX (Y : Lay) : Prop := ykd Y = kdX ∧ yln Y = lnX ∧ ysr Y = srX ∧ ymd Y = true ∧ t0X ≤ yn Y
def IsM (Y : Lay) : Prop := ykd Y = kdM ∧ yln Y = lnM ∧ ysr Y = srM ∧ ymd Y = true ∧ t0M ≤ yn Y
theorem ibl {i : Int32} {n : Nat} (h : ib i n = true) : ix i < n := by
  simp only [ib, Bool.and_eq_true, decide_eq_true_eq] at h
  exact h.2
theorem rf_cat (o : Option Nat) : (va_rf o).category = 1 := by cases o <;> rfl
theorem kX {Y : Lay} {a k : Nat} (hY : IsX Y) (h : kdX a = k) : ykd Y a = k := by rw [hY.1]; exact h
theorem lX {Y : Lay} {a k : Nat} (hY : IsX Y) (h : lnX a = k) : yln Y a = k := by rw [hY.2.1]; exact h
theorem nX {Y : Lay} {a : Nat} (hY : IsX Y) (h : a < t0X) : a < yn Y := Nat.lt_of_lt_of_le h hY.2.2.2.2
theorem sX {Y : Lay} {a j b : Nat} (hY : IsX Y) (h : srX a j = b) : ysr Y a j = b := by rw [hY.2.2.1]; exact h
theorem kdX_out {b : Nat} (h : t0X ≤ b) : kdX b = 8 := by
  unfold kdX
  rw [List.getD_eq_getElem?_getD, List.getElem?_eq_none (by simpa [t0X] using h)]
  rfl
theorem kdX_in {b k : Nat} (h : kdX b = k) (hk : k ≠ 8) : b < t0X := by
  rcases Nat.lt_or_ge b t0X with q | q
  · exact q
  · exact absurd (h.symm.trans (kdX_out q)) hk
theorem kM {Y : Lay} {a k : Nat} (hY : IsM Y) (h : kdM a = k) : ykd Y a = k := by rw [hY.1]; exact h
theorem lM {Y : Lay} {a k : Nat} (hY : IsM Y) (h : lnM a = k) : yln Y a = k := by rw [hY.2.1]; exact h
theorem nM {Y : Lay} {a : Nat} (hY : IsM Y) (h : a < t0M) : a < yn Y := Nat.lt_of_lt_of_le h hY.2.2.2.2
theorem sM {Y : Lay} {a j b : Nat} (hY : IsM Y) (h : srM a j = b) : ysr Y a j = b := by rw [hY.2.2.1]; exact h
theorem kdM_out {b : Nat} (h : t0M ≤ b) : kdM b = 8 := by
  unfold kdM
  rw [List.getD_eq_getElem?_getD, List.getElem?_eq_none (by simpa [t0M] using h)]
  rfl
theorem kdM_in {b k : Nat} (h : kdM b = k) (hk : k ≠ 8) : b < t0M := by
  rcases Nat.lt_or_ge b t0M with q | q
  · exact q
  · exact absurd (h.symm.trans (kdM_out q)) hk
theorem tbX_0_0_a : ∀ b, b < t0X → kdX b = 0 → kdX (srX b 0) = 14 ∧ srX b 0 < t0X ∧ lnX (srX b 0) = 4 := by decide +kernel
theorem tbX_0_0 {Y : Lay} {b : Nat} (hY : IsX Y) (h : ykd Y b = 0) : ykd Y (srX b 0) = 14 ∧ srX b 0 < yn Y ∧ yln Y (srX b 0) = 4 := by
  rw [hY.1] at h
  obtain ⟨h1, h2, h3⟩ := tbX_0_0_a b (kdX_in h (by decide)) h
  exact ⟨kX hY h1, nX hY h2, lX hY h3⟩
theorem tbX_0_2_a : ∀ b, b < t0X → kdX b = 0 → kdX (srX b 2) = 11 ∧ srX b 2 < t0X ∧ lnX (srX b 2) = 8 := by decide +kernel
theorem tbX_0_2 {Y : Lay} {b : Nat} (hY : IsX Y) (h : ykd Y b = 0) : ykd Y (srX b 2) = 11 ∧ srX b 2 < yn Y ∧ yln Y (srX b 2) = 8 := by
  rw [hY.1] at h
  obtain ⟨h1, h2, h3⟩ := tbX_0_2_a b (kdX_in h (by decide)) h
  exact ⟨kX hY h1, nX hY h2, lX hY h3⟩
theorem tbX_0_3_a : ∀ b, b < t0X → kdX b = 0 → kdX (srX b 3) = 11 ∧ srX b 3 < t0X ∧ lnX (srX b 3) = 8 := by decide +kernel
theorem tbX_0_3 {Y : Lay} {b : Nat} (hY : IsX Y) (h : ykd Y b = 0) : ykd Y (srX b 3) = 11 ∧ srX b 3 < yn Y ∧ yln Y (srX b 3) = 8 := by
  rw [hY.1] at h
  obtain ⟨h1, h2, h3⟩ := tbX_0_3_a b (kdX_in h (by decide)) h
  exact ⟨kX hY h1, nX hY h2, lX hY h3⟩
theorem tbX_0_4_a : ∀ b, b < t0X → kdX b = 0 → kdX (srX b 4) = 11 ∧ srX b 4 < t0X ∧ lnX (srX b 4) = 8 := by decide +kernel
theorem tbX_0_4 {Y : Lay} {b : Nat} (hY : IsX Y) (h : ykd Y b = 0) : ykd Y (srX b 4) = 11 ∧ srX b 4 < yn Y ∧ yln Y (srX b 4) = 8 := by
  rw [hY.1] at h
  obtain ⟨h1, h2, h3⟩ := tbX_0_4_a b (kdX_in h (by decide)) h
  exact ⟨kX hY h1, nX hY h2, lX hY h3⟩
theorem tbX_6_3_a : ∀ b, b < t0X → kdX b = 6 → kdX (srX b 3) = 11 ∧ srX b 3 < t0X ∧ lnX (srX b 3) = 120 := by decide +kernel
theorem tbX_6_3 {Y : Lay} {b : Nat} (hY : IsX Y) (h : ykd Y b = 6) : ykd Y (srX b 3) = 11 ∧ srX b 3 < yn Y ∧ yln Y (srX b 3) = 120 := by
  rw [hY.1] at h
  obtain ⟨h1, h2, h3⟩ := tbX_6_3_a b (kdX_in h (by decide)) h
  exact ⟨kX hY h1, nX hY h2, lX hY h3⟩
theorem teX_13_a : ∀ b, b < t0X → kdX b = 13 → ∀ i, i < 4 → kdX (srX b i) = 6 ∧ srX b i < t0X ∧ lnX (srX b i) = 0 := by decide +kernel
theorem teX_13 {Y : Lay} {b i : Nat} (hY : IsX Y) (h : ykd Y b = 13) (hi : i < 4) : ykd Y (srX b i) = 6 ∧ srX b i < yn Y ∧ yln Y (srX b i) = 0 := by
  rw [hY.1] at h
  obtain ⟨h1, h2, h3⟩ := teX_13_a b (kdX_in h (by decide)) h i hi
  exact ⟨kX hY h1, nX hY h2, lX hY h3⟩
theorem teX_14_a : ∀ b, b < t0X → kdX b = 14 → ∀ i, i < 4 → kdX (srX b i) = 7 ∧ srX b i < t0X ∧ lnX (srX b i) = 0 := by decide +kernel
theorem teX_14 {Y : Lay} {b i : Nat} (hY : IsX Y) (h : ykd Y b = 14) (hi : i < 4) : ykd Y (srX b i) = 7 ∧ srX b i < yn Y ∧ yln Y (srX b i) = 0 := by
  rw [hY.1] at h
  obtain ⟨h1, h2, h3⟩ := teX_14_a b (kdX_in h (by decide)) h i hi
  exact ⟨kX hY h1, nX hY h2, lX hY h3⟩
theorem teX_16_a : ∀ b, b < t0X → kdX b = 16 → ∀ i, i < 4 → kdX (srX b i) = 11 ∧ srX b i < t0X ∧ lnX (srX b i) = 4 := by decide +kernel
theorem teX_16 {Y : Lay} {b i : Nat} (hY : IsX Y) (h : ykd Y b = 16) (hi : i < 4) : ykd Y (srX b i) = 11 ∧ srX b i < yn Y ∧ yln Y (srX b i) = 4 := by
  rw [hY.1] at h
  obtain ⟨h1, h2, h3⟩ := teX_16_a b (kdX_in h (by decide)) h i hi
  exact ⟨kX hY h1, nX hY h2, lX hY h3⟩

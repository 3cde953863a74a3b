theorem she_item {x : Mem} {s l i : Nat} (hs : s < 4) (hl : l ≤ 120) (q2 : gI x (48 + 2 * s) 2 = nI l) (hi : i < l) : f_Sh_item x (48 + 2 * s) (nI i) = some (gI x (49 + 2 * s) i) := by
  unfold f_Sh_item
  simp only [q2, Int32.lt_iff_toInt_lt, Int32.le_iff_toInt_le, nI_t (show l < 2147483648 by omega), nI_t (show i < 2147483648 by omega), l32_0, ib_n (show i < 120 by omega) (by omega), ix_n (show i < 2147483648 by omega), sr3 s hs]
  rw [if_neg (by omega), if_neg (by omega), if_pos trivial]
theorem y_p2 (k : Nat) : nI k + 2 = nI (k + 2) := y_add k 2
theorem y_p3 (k : Nat) : nI k + 3 = nI (k + 3) := y_add k 3
theorem y_t3 (k : Nat) : (3 : Int32) * nI k = nI (3 * k) := y_mul 3 k
theorem read_l {c n s l : Nat} (hs : s < 4) (hl : l ≤ 120) : ∀ N j μ1 μ2, 3 * j ≤ l → l - 3 * j < N → Inv c n μ1 μ2 → gI μ1 (48 + 2 * s) 2 = nI l → gI μ2 46 s = nI l → (∀ i, i < l → gI μ1 (49 + 2 * s) i = gI μ2 47 (120 * s + i)) → ∃ r ν1 ν2, f_X_read_l31 FN N (48 + 2 * s) (nI j) (nI (3 * j)) μ1 = some (r, ν1) ∧ f_M_read_l27 FN N (nI s) (nI j) μ2 = some (r, ν2) ∧ Inv c n ν1 ν2 := by
  intro N
  induction N with
  | zero => intro j μ1 μ2 _ h; omega
  | succ N ih =>
    intro j μ1 μ2 hj hn h p2 p3 p5
    unfold f_X_read_l31 f_M_read_l27
    rw [p2, y_t3, y_p2, if_pos (ib_n hs (by omega)), ix_n (show s < 2147483648 by omega), p3, m120]
    by_cases e : l ≤ 3 * j + 2
    · have z : nI l ≤ nI (3 * j + 2) := by rw [y_le (by omega) (by omega)]; exact e
      rw [if_pos z, if_pos z]
      exact ⟨_, _, _, rfl, rfl, h⟩
    · have z : ¬ nI l ≤ nI (3 * j + 2) := by rw [y_le (by omega) (by omega)]; exact e
      simp only [if_neg z, y_s, y_p2, y_p3, ib_n (show 120 * s + 3 * j < 480 by omega) (by omega), ib_n (show 120 * s + 3 * j + 1 < 480 by omega) (by omega), ib_n (show 120 * s + 3 * j + 2 < 480 by omega) (by omega), ix_n (show 120 * s + 3 * j < 2147483648 by omega), ix_n (show 120 * s + 3 * j + 1 < 2147483648 by omega), ix_n (show 120 * s + 3 * j + 2 < 2147483648 by omega), if_true]
      rw [she_item hs hl p2 (show 3 * j < l by omega), she_item hs hl p2 (show 3 * j + 1 < l by omega), she_item hs hl p2 (show 3 * j + 2 < l by omega), p5 _ (by omega), p5 _ (by omega), p5 _ (by omega)]
      simp only [bs]
      rw [show 120 * s + (3 * j + 1) = 120 * s + 3 * j + 1 by omega, show 120 * s + (3 * j + 2) = 120 * s + 3 * j + 2 by omega]
      rcases was_core h (gI μ2 47 (120 * s + 3 * j)) (gI μ2 47 (120 * s + 3 * j + 1)) (gI μ2 47 (120 * s + 3 * j + 2)) with ⟨w1, w2⟩ | ⟨w1, w2, w3⟩ | ⟨u, ν1, ν2, u1, u2, u3, u4, u5, u6, u7, u8, u9⟩
      · rw [w1, w2]
        simp only [if_pos (show (-2 : Int32) ≤ 0 by decide), bw, bn2, bOw, bOn, nme, b2s, bs, zn10, zn01, ze10, ze00, ze01, ze11, if_true, if_false, not_true_eq_false, not_false_eq_true, l32_0, l32_1, l32_2, l32_3, l32_4, l32_5, l32_7, l32_8, l32_9, l32_12, l32_20, l32_24, l32_25, l32_30, l32_31, l32_35, l32_40, l32_50, l32_60, l32_100, l32_120, l32_200, l32_255, l32_400, l32_m1, l32_m9, l32_m20, l32_m30, l32_m31, l64_0, l64_1, l64_2, l64_3, l64_4, l64_5, l64_7, l64_8, l64_9, l64_12, l64_20, l64_24, l64_25, l64_30, l64_31, l64_35, l64_40, l64_50, l64_60, l64_100, l64_120, l64_200, l64_255, l64_400, l64_m1, l64_m9, l64_m20, l64_m30, l64_m31]
        exact ⟨_, _, _, rfl, rfl, h⟩
      · rw [w1, w2, w3]
        simp only [if_pos (show (-4 : Int32) ≤ 0 by decide), bw, bn2, bOw, bOn, nme, b2s, bs, zn10, zn01, ze10, ze00, ze01, ze11, if_true, if_false, not_true_eq_false, not_false_eq_true, l32_0, l32_1, l32_2, l32_3, l32_4, l32_5, l32_7, l32_8, l32_9, l32_12, l32_20, l32_24, l32_25, l32_30, l32_31, l32_35, l32_40, l32_50, l32_60, l32_100, l32_120, l32_200, l32_255, l32_400, l32_m1, l32_m9, l32_m20, l32_m30, l32_m31, l64_0, l64_1, l64_2, l64_3, l64_4, l64_5, l64_7, l64_8, l64_9, l64_12, l64_20, l64_24, l64_25, l64_30, l64_31, l64_35, l64_40, l64_50, l64_60, l64_100, l64_120, l64_200, l64_255, l64_400, l64_m1, l64_m9, l64_m20, l64_m30, l64_m31]
        exact ⟨_, _, _, rfl, rfl, h⟩
      · rw [u4, u5, u6]
        have z2 : ¬ nI (u + 1) ≤ 0 := by
          show ¬ nI (u + 1) ≤ nI 0
          rw [y_le (by omega) (by omega)]; omega
        simp only [if_neg z2, y_s, y_p3, bw, bn2, bOw, bOn, nme, b2s, bs, zn10, zn01, ze10, ze00, ze01, ze11, if_true, if_false, not_true_eq_false, not_false_eq_true, l32_0, l32_1, l32_2, l32_3, l32_4, l32_5, l32_7, l32_8, l32_9, l32_12, l32_20, l32_24, l32_25, l32_30, l32_31, l32_35, l32_40, l32_50, l32_60, l32_100, l32_120, l32_200, l32_255, l32_400, l32_m1, l32_m9, l32_m20, l32_m30, l32_m31, l64_0, l64_1, l64_2, l64_3, l64_4, l64_5, l64_7, l64_8, l64_9, l64_12, l64_20, l64_24, l64_25, l64_30, l64_31, l64_35, l64_40, l64_50, l64_60, l64_100, l64_120, l64_200, l64_255, l64_400, l64_m1, l64_m9, l64_m20, l64_m30, l64_m31]
        have ex : ∀ a k, 48 ≤ a → a ≤ 55 → gI ν1 a k = gI μ1 a k := fun a k h1 h2 => (u8 a k ⟨by unfold perX pShe; omega, by unfold pPas; omega⟩).1
        have em : ∀ a k, 45 ≤ a → a ≤ 47 → gI ν2 a k = gI μ2 a k := fun a k h1 h2 => (u9 a k ⟨by unfold perM qShe; omega, by unfold qPas; omega⟩).1
        exact ih (j + 1) ν1 ν2 (by omega) (by omega) u7 (by rw [ex _ _ (by omega) (by omega)]; exact p2) (by rw [em _ _ (by omega) (by omega)]; exact p3) (fun i hi => by rw [ex _ _ (by omega) (by omega), em _ _ (by omega) (by omega)]; exact p5 i hi)
theorem s_read {c n : Nat} {μ1 μ2 : Mem} (h : Inv c n μ1 μ2) (hc : c < 512) (a1 : Int32) : ∃ (r : Int32) (ν1 : Mem) (ν2 : Mem), f_X_read FN μ1 a1 = some (r, ν1) ∧ f_M_read FN μ2 a1 = some (r, ν2) ∧ Inv (c + 1) n ν1 ν2 := by
  obtain ⟨t, ht, hCs, hTop, hWr, hStr, hBow, hDen, hBou, hWhi, hCho, hPas, hGam, hLas, hMet, hFin, hShe⟩ := id h
  obtain ⟨r1, x1, m1, f1, f2, f3⟩ := fnd h 1
  unfold f_X_read f_M_read
  rw [bSheet, bIsSheet, f1, f2]
  by_cases c1 : 0 ≤ a1.toInt ∧ a1.toInt ≤ 3
  · obtain ⟨s, hs, rfl⟩ := toN (n := 4) c1.1 (by omega)
    obtain ⟨l, q1, q2, q3, q4, q5⟩ := hShe s hs
    have es : (nI s).toInt.toNat = s := by rw [nI_t (by omega)]; omega
    rw [if_pos c1, if_pos c1, es]
    simp only [ib_n hs (by omega), ix_n (show s < 2147483648 by omega), bw, bn2, bOw, bOn, nme, b2s, bs, zn10, zn01, ze10, ze00, ze01, ze11, if_true, if_false, not_true_eq_false, not_false_eq_true, l32_0, l32_1, l32_2, l32_3, l32_4, l32_5, l32_7, l32_8, l32_9, l32_12, l32_20, l32_24, l32_25, l32_30, l32_31, l32_35, l32_40, l32_50, l32_60, l32_100, l32_120, l32_200, l32_255, l32_400, l32_m1, l32_m9, l32_m20, l32_m30, l32_m31, l64_0, l64_1, l64_2, l64_3, l64_4, l64_5, l64_7, l64_8, l64_9, l64_12, l64_20, l64_24, l64_25, l64_30, l64_31, l64_35, l64_40, l64_50, l64_60, l64_100, l64_120, l64_200, l64_255, l64_400, l64_m1, l64_m9, l64_m20, l64_m30, l64_m31]
    rcases q4 with ⟨z1, z2, z3⟩ | ⟨z1, z2⟩
    · have g : (0 : Int32) ≤ gI μ2 45 s := by rw [Int32.le_iff_toInt_le]; exact z3.1
      simp only [z1, if_true, if_pos g]
      obtain ⟨r, ν1, ν2, w1, w2, w3⟩ := read_l hs q1 FN 0 μ1 μ2 (by omega) (FN_lt (by omega)) h q2 q3 q5
      exact ⟨r, ν1, ν2, w1, w2, Inv_next w3⟩
    · simp only [z1, z2, ze10, if_false, if_neg (show ¬ (0 : Int32) ≤ -1 by decide)]
      exact ⟨_, _, _, rfl, rfl, f3⟩
  · rw [if_neg c1, if_neg c1]
    exact ⟨_, _, _, rfl, rfl, Inv_next h⟩

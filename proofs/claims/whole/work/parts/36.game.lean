def fg (b : Int32) : Prop := 48 ≤ b.toInt ∧ b.toInt ≤ 57
theorem l48_ : (48 : Int32).toInt = 48 ∧ (57 : Int32).toInt = 57 ∧ (48 : Int64).toInt = 48 ∧ (57 : Int64).toInt = 57 := by decide
theorem figX {b : Int32} (h : fg b) : f_Ga_isFigure b = some 1 := by
  unfold f_Ga_isFigure
  simp only [Int32.lt_iff_toInt_lt, l48_.1, l48_.2.1]
  rw [if_neg (by have := h.1; omega), if_neg (by have := h.2; omega)]
theorem figX0 {b : Int32} (h : ¬ fg b) : f_Ga_isFigure b = some 0 := by
  unfold f_Ga_isFigure
  simp only [Int32.lt_iff_toInt_lt, l48_.1, l48_.2.1]
  by_cases c : b.toInt < 48
  · rw [if_pos c]
  · rw [if_neg c, if_pos (by unfold fg at h; omega)]
theorem fg_lt {g p : Nat} {m : Mem} (h : fg (byt g m p)) : p < g := by
  unfold byt at h
  by_cases c : p < g
  · exact c
  · rw [if_neg c] at h
    exact absurd h (by unfold fg; decide)
theorem figM {g p : Nat} {x m : Mem} (h : gTx g x m) (hp : p < 2147483648) (hf : fg (byt g m p)) : f_M_isFigure m (nI p) = some 1 := by
  have hl := fg_lt hf
  obtain ⟨h1, h2, h3, h4⟩ := h
  unfold f_M_isFigure
  unfold byt at hf
  rw [if_pos hl] at hf
  rw [h3, if_neg (by rw [y_le (by omega) (by omega)]; omega), if_pos (ib_n (by omega) hp), ix_n hp, bn2]
  simp only [l48_.2.2.1, l48_.2.2.2]
  unfold fg at hf
  rw [if_pos hf]; rfl
theorem figM0 {g p : Nat} {x m : Mem} (h : gTx g x m) (hp : p < 2147483648) (hf : ¬ fg (byt g m p)) : f_M_isFigure m (nI p) = some 0 := by
  obtain ⟨h1, h2, h3, h4⟩ := h
  unfold f_M_isFigure
  by_cases hl : p < g
  · unfold byt at hf
    rw [if_pos hl] at hf
    rw [h3, if_neg (by rw [y_le (by omega) (by omega)]; omega), if_pos (ib_n (by omega) hp), ix_n hp, bn2]
    simp only [l48_.2.2.1, l48_.2.2.2]
    unfold fg at hf
    rw [if_neg hf]; rfl
  · rw [h3, if_pos (by rw [y_le (by omega) (by omega)]; omega)]
theorem byt_in {g p : Nat} {m : Mem} (h : p < g) : byt g m p = gI m 39 p := by unfold byt; rw [if_pos h]
/-- the figures from a place on, and their number -/
theorem fig_l {g q : Nat} {x m : Mem} (h : gTx g x m) (hq : q ≤ 1000) (n : Nat) : ∃ F v, F ≤ 2 ∧ (F = 0 ∨ q + F ≤ g) ∧ f_Ga_figuresAt x (nI q) = some (nI F) ∧ f_Ga_numberAt_l5 FN x (n + 1 + 1 + 1) (nI q) (nI F) 0 0 = some v ∧ ∀ k47 M a, f_M_reads_l114 FN k47 (n + 1 + 1 + 1) M (nI q) a (nI q) 0 m = f_M_reads_b153 FN k47 M (nI (q + F)) a (nI q) v m := by
  have hg := h.1
  have e2 : ¬ nI q + 2 ≤ nI q := by rw [y_p2, y_le (by omega) (by omega)]; omega
  have e3 : ¬ nI q + 2 ≤ nI (q + 1) := by rw [y_p2, y_le (by omega) (by omega)]; omega
  have e4 : nI q + 2 ≤ nI (q + 2) := by rw [y_p2, y_le (by omega) (by omega)]; omega
  by_cases c1 : fg (byt g m q)
  · have l1 := fg_lt c1
    by_cases c2 : fg (byt g m (q + 1))
    · have l2 := fg_lt c2
      refine ⟨2, 10 * (10 * 0 + gI m 39 q - 48) + gI m 39 (q + 1) - 48, by omega, Or.inr (by omega), ?_, ?_, ?_⟩
      · unfold f_Ga_figuresAt
        rw [byte_e h (by omega), bs, figX c1, bs, y_s, byte_e h (by omega)]
        simp only [bs, figX c2, bw, bn2, bOw, bOn, nme, b2s, bs, zn10, zn01, ze10, ze00, ze01, ze11, if_true, if_false, not_true_eq_false, not_false_eq_true, l32_0, l32_1, l32_2, l32_3, l32_4, l32_5, l32_7, l32_8, l32_9, l32_12, l32_20, l32_24, l32_25, l32_30, l32_31, l32_35, l32_40, l32_50, l32_60, l32_100, l32_120, l32_200, l32_255, l32_400, l32_m1, l32_m9, l32_m20, l32_m30, l32_m31, l64_0, l64_1, l64_2, l64_3, l64_4, l64_5, l64_7, l64_8, l64_9, l64_12, l64_20, l64_24, l64_25, l64_30, l64_31, l64_35, l64_40, l64_50, l64_60, l64_100, l64_120, l64_200, l64_255, l64_400, l64_m1, l64_m9, l64_m20, l64_m30, l64_m31]
        rfl
      · have z0 : ¬ nI 2 ≤ 0 := by decide
        have z1 : ¬ nI 2 ≤ 0 + 1 := by decide
        have z2 : nI 2 ≤ 0 + 1 + 1 := by decide
        conv => lhs; unfold f_Ga_numberAt_l5
        rw [if_neg z0, Int32.add_zero, byte_e h (by omega)]
        simp only [bs, nme]
        conv => lhs; unfold f_Ga_numberAt_l5
        rw [if_neg z1, show nI q + (0 + 1) = nI (q + 1) from y_s q, byte_e h (by omega)]
        simp only [bs, nme]
        conv => lhs; unfold f_Ga_numberAt_l5
        rw [if_pos z2, byt_in l1, byt_in l2]
      · intro k47 M a
        conv => lhs; unfold f_M_reads_l114
        rw [if_neg e2, figM h (by omega) c1]
        simp only [bw, bn2, bOw, bOn, nme, b2s, bs, zn10, zn01, ze10, ze00, ze01, ze11, if_true, if_false, not_true_eq_false, not_false_eq_true, l32_0, l32_1, l32_2, l32_3, l32_4, l32_5, l32_7, l32_8, l32_9, l32_12, l32_20, l32_24, l32_25, l32_30, l32_31, l32_35, l32_40, l32_50, l32_60, l32_100, l32_120, l32_200, l32_255, l32_400, l32_m1, l32_m9, l32_m20, l32_m30, l32_m31, l64_0, l64_1, l64_2, l64_3, l64_4, l64_5, l64_7, l64_8, l64_9, l64_12, l64_20, l64_24, l64_25, l64_30, l64_31, l64_35, l64_40, l64_50, l64_60, l64_100, l64_120, l64_200, l64_255, l64_400, l64_m1, l64_m9, l64_m20, l64_m30, l64_m31, ib_n (show q < 40 by omega) (by omega), ix_n (show q < 2147483648 by omega), y_s]
        conv => lhs; unfold f_M_reads_l114
        rw [if_neg e3, figM h (by omega) c2]
        simp only [bw, bn2, bOw, bOn, nme, b2s, bs, zn10, zn01, ze10, ze00, ze01, ze11, if_true, if_false, not_true_eq_false, not_false_eq_true, l32_0, l32_1, l32_2, l32_3, l32_4, l32_5, l32_7, l32_8, l32_9, l32_12, l32_20, l32_24, l32_25, l32_30, l32_31, l32_35, l32_40, l32_50, l32_60, l32_100, l32_120, l32_200, l32_255, l32_400, l32_m1, l32_m9, l32_m20, l32_m30, l32_m31, l64_0, l64_1, l64_2, l64_3, l64_4, l64_5, l64_7, l64_8, l64_9, l64_12, l64_20, l64_24, l64_25, l64_30, l64_31, l64_35, l64_40, l64_50, l64_60, l64_100, l64_120, l64_200, l64_255, l64_400, l64_m1, l64_m9, l64_m20, l64_m30, l64_m31, ib_n (show q + 1 < 40 by omega) (by omega), ix_n (show q + 1 < 2147483648 by omega), y_s]
        conv => lhs; unfold f_M_reads_l114
        rw [if_pos e4]
    · refine ⟨1, 10 * 0 + gI m 39 q - 48, by omega, Or.inr (by omega), ?_, ?_, ?_⟩
      · unfold f_Ga_figuresAt
        rw [byte_e h (by omega), bs, figX c1, bs, y_s, byte_e h (by omega)]
        simp only [bs, figX0 c2, bw, bn2, bOw, bOn, nme, b2s, bs, zn10, zn01, ze10, ze00, ze01, ze11, if_true, if_false, not_true_eq_false, not_false_eq_true, l32_0, l32_1, l32_2, l32_3, l32_4, l32_5, l32_7, l32_8, l32_9, l32_12, l32_20, l32_24, l32_25, l32_30, l32_31, l32_35, l32_40, l32_50, l32_60, l32_100, l32_120, l32_200, l32_255, l32_400, l32_m1, l32_m9, l32_m20, l32_m30, l32_m31, l64_0, l64_1, l64_2, l64_3, l64_4, l64_5, l64_7, l64_8, l64_9, l64_12, l64_20, l64_24, l64_25, l64_30, l64_31, l64_35, l64_40, l64_50, l64_60, l64_100, l64_120, l64_200, l64_255, l64_400, l64_m1, l64_m9, l64_m20, l64_m30, l64_m31]
        rfl
      · have z0 : ¬ nI 1 ≤ 0 := by decide
        have z1 : nI 1 ≤ 0 + 1 := by decide
        conv => lhs; unfold f_Ga_numberAt_l5
        rw [if_neg z0, Int32.add_zero, byte_e h (by omega)]
        simp only [bs, nme]
        conv => lhs; unfold f_Ga_numberAt_l5
        rw [if_pos z1, byt_in l1]
      · intro k47 M a
        conv => lhs; unfold f_M_reads_l114
        rw [if_neg e2, figM h (by omega) c1]
        simp only [bw, bn2, bOw, bOn, nme, b2s, bs, zn10, zn01, ze10, ze00, ze01, ze11, if_true, if_false, not_true_eq_false, not_false_eq_true, l32_0, l32_1, l32_2, l32_3, l32_4, l32_5, l32_7, l32_8, l32_9, l32_12, l32_20, l32_24, l32_25, l32_30, l32_31, l32_35, l32_40, l32_50, l32_60, l32_100, l32_120, l32_200, l32_255, l32_400, l32_m1, l32_m9, l32_m20, l32_m30, l32_m31, l64_0, l64_1, l64_2, l64_3, l64_4, l64_5, l64_7, l64_8, l64_9, l64_12, l64_20, l64_24, l64_25, l64_30, l64_31, l64_35, l64_40, l64_50, l64_60, l64_100, l64_120, l64_200, l64_255, l64_400, l64_m1, l64_m9, l64_m20, l64_m30, l64_m31, ib_n (show q < 40 by omega) (by omega), ix_n (show q < 2147483648 by omega), y_s]
        conv => lhs; unfold f_M_reads_l114
        rw [if_neg e3, figM0 h (by omega) c2]
        simp only [bw, bn2, bOw, bOn, nme, b2s, bs, zn10, zn01, ze10, ze00, ze01, ze11, if_true, if_false, not_true_eq_false, not_false_eq_true, l32_0, l32_1, l32_2, l32_3, l32_4, l32_5, l32_7, l32_8, l32_9, l32_12, l32_20, l32_24, l32_25, l32_30, l32_31, l32_35, l32_40, l32_50, l32_60, l32_100, l32_120, l32_200, l32_255, l32_400, l32_m1, l32_m9, l32_m20, l32_m30, l32_m31, l64_0, l64_1, l64_2, l64_3, l64_4, l64_5, l64_7, l64_8, l64_9, l64_12, l64_20, l64_24, l64_25, l64_30, l64_31, l64_35, l64_40, l64_50, l64_60, l64_100, l64_120, l64_200, l64_255, l64_400, l64_m1, l64_m9, l64_m20, l64_m30, l64_m31]
  · refine ⟨0, 0, by omega, Or.inl rfl, ?_, ?_, ?_⟩
    · unfold f_Ga_figuresAt
      rw [byte_e h (by omega), bs, figX0 c1]
      simp only [bs, bw, bn2, bOw, bOn, nme, b2s, bs, zn10, zn01, ze10, ze00, ze01, ze11, if_true, if_false, not_true_eq_false, not_false_eq_true, l32_0, l32_1, l32_2, l32_3, l32_4, l32_5, l32_7, l32_8, l32_9, l32_12, l32_20, l32_24, l32_25, l32_30, l32_31, l32_35, l32_40, l32_50, l32_60, l32_100, l32_120, l32_200, l32_255, l32_400, l32_m1, l32_m9, l32_m20, l32_m30, l32_m31, l64_0, l64_1, l64_2, l64_3, l64_4, l64_5, l64_7, l64_8, l64_9, l64_12, l64_20, l64_24, l64_25, l64_30, l64_31, l64_35, l64_40, l64_50, l64_60, l64_100, l64_120, l64_200, l64_255, l64_400, l64_m1, l64_m9, l64_m20, l64_m30, l64_m31]
      rfl
    · have z0 : nI 0 ≤ 0 := by decide
      conv => lhs; unfold f_Ga_numberAt_l5
      rw [if_pos z0]
    · intro k47 M a
      conv => lhs; unfold f_M_reads_l114
      rw [if_neg e2, figM0 h (by omega) c1]
      simp only [bw, bn2, bOw, bOn, nme, b2s, bs, zn10, zn01, ze10, ze00, ze01, ze11, if_true, if_false, not_true_eq_false, not_false_eq_true, l32_0, l32_1, l32_2, l32_3, l32_4, l32_5, l32_7, l32_8, l32_9, l32_12, l32_20, l32_24, l32_25, l32_30, l32_31, l32_35, l32_40, l32_50, l32_60, l32_100, l32_120, l32_200, l32_255, l32_400, l32_m1, l32_m9, l32_m20, l32_m30, l32_m31, l64_0, l64_1, l64_2, l64_3, l64_4, l64_5, l64_7, l64_8, l64_9, l64_12, l64_20, l64_24, l64_25, l64_30, l64_31, l64_35, l64_40, l64_50, l64_60, l64_100, l64_120, l64_200, l64_255, l64_400, l64_m1, l64_m9, l64_m20, l64_m30, l64_m31]
      rfl

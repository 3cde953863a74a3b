theorem copy_l1 {s a k s2 b : Nat} (hs : s < 4) (ha : a + k ≤ 120) : ∀ n i μ, i ≤ k → k - i < n → ∃ μ', f_M_copy_l120 FN n (nI s) (nI a) (nI s2) (nI b) (nI k) (nI i) μ = f_M_copy_l157 FN FN (nI s2) (nI b) (nI k) 0 μ' ∧ (∀ c j, gI μ' c j = if c = 48 ∧ i ≤ j ∧ j < k then gI μ 47 (120 * s + a + j) else gI μ c j) ∧ (∀ b j, gL μ' b j = gL μ b j) ∧ (∀ b j, gR μ' b j = gR μ b j) := by
  intro n
  induction n with
  | zero => intro i μ _ h; omega
  | succ n ih =>
    intro i μ hi hn
    unfold f_M_copy_l120
    by_cases e : i = k
    · subst e
      refine ⟨μ, by rw [if_pos (by rw [y_le (by omega) (by omega)]; omega)], fun c j => by rw [if_neg (by omega)], fun b j => rfl, fun b j => rfl⟩
    · obtain ⟨μ', w1, w2, w3, w4⟩ := ih (i + 1) (sI μ 48 i (gI μ 47 (120 * s + a + i))) (by omega) (by omega)
      refine ⟨μ', ?_, fun c j => ?_, fun b j => by rw [w3, gL_sI], fun b j => by rw [w4, gR_sI]⟩
      · rw [if_neg (by rw [y_le (by omega) (by omega)]; omega), m120, y_add, if_pos (ib_n (by omega) (by omega)), if_pos (ib_n (by omega) (by omega)), ix_n (by omega), ix_n (by omega)]
        simp only [nme, y_s]
        exact w1
      · rw [w2, gI_sI, gI_sI, if_neg (show ¬ 47 = 48 by omega)]
        by_cases q : c = 48
        · rw [if_pos q]
          by_cases q2 : j = i
          · subst q2
            rw [if_neg (by omega), if_pos rfl, if_pos (by omega)]
          · rw [if_neg q2]
            by_cases q3 : i ≤ j ∧ j < k
            · rw [if_pos (by omega), if_pos (by omega)]
            · rw [if_neg (by omega), if_neg (by omega)]
        · rw [if_neg q, if_neg (by omega), if_neg (by omega)]
theorem copy_l2 {k s2 b : Nat} (hs : s2 < 4) (hb : b + k ≤ 120) : ∀ n i μ, i ≤ k → k - i < n → ∃ μ', f_M_copy_l157 FN n (nI s2) (nI b) (nI k) (nI i) μ = some (1, μ') ∧ (∀ c j, gI μ' c j = if c = 47 ∧ 120 * s2 + b + i ≤ j ∧ j < 120 * s2 + b + k then gI μ 48 (j - (120 * s2 + b)) else gI μ c j) ∧ (∀ b j, gL μ' b j = gL μ b j) ∧ (∀ b j, gR μ' b j = gR μ b j) := by
  intro n
  induction n with
  | zero => intro i μ _ h; omega
  | succ n ih =>
    intro i μ hi hn
    unfold f_M_copy_l157
    by_cases e : i = k
    · subst e
      refine ⟨μ, by rw [if_pos (by rw [y_le (by omega) (by omega)]; omega)], fun c j => by rw [if_neg (by omega)], fun b j => rfl, fun b j => rfl⟩
    · obtain ⟨μ', w1, w2, w3, w4⟩ := ih (i + 1) (sI μ 47 (120 * s2 + b + i) (gI μ 48 i)) (by omega) (by omega)
      refine ⟨μ', ?_, fun c j => ?_, fun b j => by rw [w3, gL_sI], fun b j => by rw [w4, gR_sI]⟩
      · rw [if_neg (by rw [y_le (by omega) (by omega)]; omega), m120, y_add, if_pos (ib_n (by omega) (by omega)), if_pos (ib_n (by omega) (by omega)), ix_n (by omega), ix_n (by omega)]
        simp only [nme, y_s]
        exact w1
      · rw [w2, gI_sI, gI_sI, if_neg (show ¬ 48 = 47 by omega)]
        by_cases q : c = 47
        · rw [if_pos q]
          by_cases q2 : j = 120 * s2 + b + i
          · subst q2
            rw [if_neg (by omega), if_pos rfl, if_pos (by omega), show 120 * s2 + b + i - (120 * s2 + b) = i by omega]
          · rw [if_neg q2]
            by_cases q3 : 120 * s2 + b + i ≤ j ∧ j < 120 * s2 + b + k
            · rw [if_pos (by omega), if_pos (by omega)]
            · rw [if_neg (by omega), if_neg (by omega)]
        · rw [if_neg q, if_neg (by omega), if_neg (by omega)]
theorem sum64 (a b : Int32) : (a.toInt64 + b.toInt64).toInt = a.toInt + b.toInt := by
  have h1 := Int32.toInt_lt a
  have h2 := Int32.toInt_lt b
  have h3 := Int32.le_toInt a
  have h4 := Int32.le_toInt b
  rw [a64 (by rw [Int32.toInt_toInt64, Int32.toInt_toInt64]; omega) (by rw [Int32.toInt_toInt64, Int32.toInt_toInt64]; omega), Int32.toInt_toInt64, Int32.toInt_toInt64]
theorem bSpans {β : Type} {x : Mem} {e l : Nat} (hl : l ≤ 120) (h : gI x e 2 = nI l) (a b : Int32) (k : Int32 → Option β) : Option.bind (f_Sh_spans x e a b) k = if 0 ≤ a.toInt ∧ 0 ≤ b.toInt ∧ a.toInt + b.toInt ≤ (l : Int) then k 1 else k 0 := by
  unfold f_Sh_spans
  rw [h]
  simp only [Int32.lt_iff_toInt_lt, Int64.lt_iff_toInt_lt, sum64, Int32.toInt_toInt64, nI_t (show l < 2147483648 by omega), l32_0]
  by_cases c1 : a.toInt < 0
  · rw [if_pos c1, if_neg (by omega)]; rfl
  by_cases c2 : b.toInt < 0
  · rw [if_neg c1, if_pos c2, if_neg (by omega)]; rfl
  by_cases c3 : (l : Int) < a.toInt + b.toInt
  · rw [if_neg c1, if_neg c2, if_pos c3, if_neg (by omega)]; rfl
  rw [if_neg c1, if_neg c2, if_neg c3, if_pos (by omega)]; rfl

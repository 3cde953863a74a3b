/-- the game's text on both sides -/
def gTx (g : Nat) (x m : Mem) : Prop := g ≤ 40 ∧ gI x 39 0 = nI g ∧ gI m 0 55 = nI g ∧ ∀ k, k < g → gI x 40 k = gI m 39 k ∧ bt (gI m 39 k) 0 255
/-- a byte of the text, -1 past its end -/
def byt (g : Nat) (m : Mem) (p : Nat) : Int32 := if p < g then gI m 39 p else -1
def rul (b : Int32) : Int32 := if b = 119 then 0 else if b = 98 then 1 else if b = 114 then 2 else if b = 116 then 3 else if b = 107 then 4 else -1
theorem byte_e {g p : Nat} {x m : Mem} (h : gTx g x m) (hp : p < 2147483648) : f_Ga_byteAt x (nI p) = some (byt g m p) := by
  obtain ⟨h1, h2, h3, h4⟩ := h
  unfold f_Ga_byteAt byt
  simp only [h2, Int32.lt_iff_toInt_lt, Int32.le_iff_toInt_le, nI_t hp, nI_t (show g < 2147483648 by omega), l32_0, l32_40]
  rw [if_neg (by omega)]
  by_cases c : p < g
  · rw [if_neg (by omega), if_neg (by omega), if_pos (ib_n (by omega) hp), ix_n hp, if_pos c, (h4 p c).1]
  · rw [if_pos (by omega), if_neg c]
theorem letter_l {g p : Nat} {x m : Mem} (h : gTx g x m) (hp : p < 2147483648) (n : Nat) : f_Ga_letterAt_l2 FN x (n + 1 + 1 + 1 + 1 + 1 + 1) (nI p) 0 = some (rul (byt g m p)) := by
  have b0 : ib 0 5 = true := by decide
  have b1 : ib (0 + 1) 5 = true := by decide
  have b2 : ib (0 + 1 + 1) 5 = true := by decide
  have b3 : ib (0 + 1 + 1 + 1) 5 = true := by decide
  have b4 : ib (0 + 1 + 1 + 1 + 1) 5 = true := by decide
  have z0 : ¬ (5 : Int32) ≤ 0 := by decide
  have z1 : ¬ (5 : Int32) ≤ 0 + 1 := by decide
  have z2 : ¬ (5 : Int32) ≤ 0 + 1 + 1 := by decide
  have z3 : ¬ (5 : Int32) ≤ 0 + 1 + 1 + 1 := by decide
  have z4 : ¬ (5 : Int32) ≤ 0 + 1 + 1 + 1 + 1 := by decide
  have z5 : (5 : Int32) ≤ 0 + 1 + 1 + 1 + 1 + 1 := by decide
  have d0 : ([119, 98, 114, 116, 107] : List Int32).getD (ix 0) 0 = 119 := by decide
  have d1 : ([119, 98, 114, 116, 107] : List Int32).getD (ix (0 + 1)) 0 = 98 := by decide
  have d2 : ([119, 98, 114, 116, 107] : List Int32).getD (ix (0 + 1 + 1)) 0 = 114 := by decide
  have d3 : ([119, 98, 114, 116, 107] : List Int32).getD (ix (0 + 1 + 1 + 1)) 0 = 116 := by decide
  have d4 : ([119, 98, 114, 116, 107] : List Int32).getD (ix (0 + 1 + 1 + 1 + 1)) 0 = 107 := by decide
  unfold rul
  conv => lhs; unfold f_Ga_letterAt_l2
  rw [if_neg z0, byte_e h hp, bs, if_pos b0, d0]
  by_cases c0 : byt g m p = 119
  · rw [if_neg (not_not_intro c0), if_pos c0]
  rw [if_pos c0, if_neg c0, nme]
  conv => lhs; unfold f_Ga_letterAt_l2
  rw [if_neg z1, byte_e h hp, bs, if_pos b1, d1]
  by_cases c1 : byt g m p = 98
  · rw [if_neg (not_not_intro c1), if_pos c1]; rfl
  rw [if_pos c1, if_neg c1, nme]
  conv => lhs; unfold f_Ga_letterAt_l2
  rw [if_neg z2, byte_e h hp, bs, if_pos b2, d2]
  by_cases c2 : byt g m p = 114
  · rw [if_neg (not_not_intro c2), if_pos c2]; rfl
  rw [if_pos c2, if_neg c2, nme]
  conv => lhs; unfold f_Ga_letterAt_l2
  rw [if_neg z3, byte_e h hp, bs, if_pos b3, d3]
  by_cases c3 : byt g m p = 116
  · rw [if_neg (not_not_intro c3), if_pos c3]; rfl
  rw [if_pos c3, if_neg c3, nme]
  conv => lhs; unfold f_Ga_letterAt_l2
  rw [if_neg z4, byte_e h hp, bs, if_pos b4, d4]
  by_cases c4 : byt g m p = 107
  · rw [if_neg (not_not_intro c4), if_pos c4]; rfl
  rw [if_pos c4, if_neg c4, nme]
  conv => lhs; unfold f_Ga_letterAt_l2
  rw [if_pos z5]
theorem letter_e {g p : Nat} {x m : Mem} (h : gTx g x m) (hp : p < 2147483648) : f_Ga_letterAt FN x (nI p) = some (rul (byt g m p)) := letter_l h hp 69994
theorem rule_e (b : Int32) : f_M_ruleOf b = some (rul b) := by
  unfold f_M_ruleOf rul
  by_cases c0 : b = 98
  · subst c0; rfl
  by_cases c1 : b = 107
  · subst c1; rfl
  by_cases c2 : b = 114
  · subst c2; rfl
  by_cases c3 : b = 116
  · subst c3; rfl
  by_cases c4 : b = 119
  · subst c4; rfl
  simp only [if_neg c0, if_neg c1, if_neg c2, if_neg c3, if_neg c4]

def rlo (k : Nat) : Int := [1, 1, 0, 1, 0].getD k 0
def rhi (k : Nat) : Int := [9, 20, 30, 60, 3].getD k 0
/-- a rule's number lies within its bounds, or it is the ring left as it is -/
def rbo (k : Nat) (v : Int32) : Prop := (rlo k ≤ v.toInt ∧ v.toInt ≤ rhi k) ∨ (k = 2 ∧ v = -1)
def gRu (x m : Mem) : Prop := ∀ k, k < 5 → gI x 41 k = gI m 40 k ∧ rbo k (gI m 40 k)
def pc (M : Nat) : Nat := M % 2 + M / 2 % 2 + M / 4 % 2 + M / 8 % 2 + M / 16 % 2
theorem bit_l : ∀ M, M < 32 → ∀ a, a < 5 → ((((nI M >>> (nI a &&& 31)) &&& 1) = 0 ∧ (nI M ||| ((1 : Int32) <<< (nI a &&& 31))) = nI (M + 2 ^ a) ∧ M + 2 ^ a < 32 ∧ pc (M + 2 ^ a) = pc M + 1) ∨ ((nI M >>> (nI a &&& 31)) &&& 1) = 1) := by decide +kernel
theorem pc_b : ∀ M, M < 32 → pc M ≤ 5 := by decide +kernel
theorem rul_c (b : Int32) : rul b = -1 ∨ ∃ a, a < 5 ∧ rul b = nI a := by
  unfold rul
  split
  · exact Or.inr ⟨0, by omega, rfl⟩
  split
  · exact Or.inr ⟨1, by omega, rfl⟩
  split
  · exact Or.inr ⟨2, by omega, rfl⟩
  split
  · exact Or.inr ⟨3, by omega, rfl⟩
  split
  · exact Or.inr ⟨4, by omega, rfl⟩
  exact Or.inl rfl
theorem lo_l : ∀ a, a < 5 → (([1, 1, 0, 1, 0] : List Int32).getD (ix (nI a)) 0).toInt = rlo a ∧ (([9, 20, 30, 60, 3] : List Int32).getD (ix (nI a)) 0).toInt = rhi a := by decide +kernel
theorem isRule_e {a : Nat} (ha : a < 5) (v : Int32) : (rlo a ≤ v.toInt ∧ v.toInt ≤ rhi a → f_M_isRule (nI a) v = some 1) ∧ (¬ (rlo a ≤ v.toInt ∧ v.toInt ≤ rhi a) → f_M_isRule (nI a) v = some 0) := by
  have k0 : ∀ (lo hi : Int64), (Option.bind (f_M_in v.toInt64 lo hi) (fun v1 => if v1 = 0 ∨ v1 = 1 then some v1 else none) = if lo.toInt ≤ v.toInt ∧ v.toInt ≤ hi.toInt then some 1 else some 0) := by
    intro lo hi
    rw [bn2]
    split <;> rfl
  unfold f_M_isRule
  simp only [k0, bw, bn2, bOw, bOn, nme, b2s, bs, zn10, zn01, ze10, ze00, ze01, ze11, if_true, if_false, not_true_eq_false, not_false_eq_true, l32_0, l32_1, l32_2, l32_3, l32_4, l32_5, l32_7, l32_8, l32_9, l32_12, l32_20, l32_24, l32_25, l32_30, l32_31, l32_35, l32_40, l32_50, l32_60, l32_100, l32_120, l32_200, l32_255, l32_400, l32_m1, l32_m9, l32_m20, l32_m30, l32_m31, l64_0, l64_1, l64_2, l64_3, l64_4, l64_5, l64_7, l64_8, l64_9, l64_12, l64_20, l64_24, l64_25, l64_30, l64_31, l64_35, l64_40, l64_50, l64_60, l64_100, l64_120, l64_200, l64_255, l64_400, l64_m1, l64_m9, l64_m20, l64_m30, l64_m31]
  have h5 : a = 0 ∨ a = 1 ∨ a = 2 ∨ a = 3 ∨ a = 4 := by omega
  rcases h5 with e | e | e | e | e <;> subst e
  · exact ⟨fun q => if_pos q, fun q => if_neg q⟩
  · exact ⟨fun q => if_pos q, fun q => if_neg q⟩
  · exact ⟨fun q => if_pos q, fun q => if_neg q⟩
  · exact ⟨fun q => if_pos q, fun q => if_neg q⟩
  · exact ⟨fun q => if_pos q, fun q => if_neg q⟩

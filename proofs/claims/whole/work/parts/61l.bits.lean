theorem sh_1 : ∀ j, j < 16 → ((nI j &&& 31).toBitVec.smod 32).toNat = j := by decide +kernel
theorem sh_2 : ∀ i, i < 16 → (1 : Int32) <<< (nI i &&& 31) = nI (2 ^ i) := by decide +kernel
theorem sh_3 : ∀ a, a < 256 → ∀ b, b < 256 → (nI (256 * a + b) &&& 1) = nI (b % 2) := by decide +kernel
theorem shr_n {S j : Nat} (hS : S < 65536) (hj : j < 16) : nI S >>> (nI j &&& 31) = nI (S / 2 ^ j) := by
  apply i32_inj
  have e : (nI S >>> (nI j &&& 31)).toInt = (nI S >>> (nI j &&& 31)).toBitVec.toInt := rfl
  have b : S / 2 ^ j ≤ S := Nat.div_le_self _ _
  rw [e, Int32.toBitVec_shiftRight, BitVec.sshiftRight', sh_1 j hj, BitVec.toInt_sshiftRight, show (nI S).toBitVec.toInt = (nI S).toInt from rfl, nI_t (by omega), nI_t (by omega), Int.shiftRight_eq_div_pow]
  rfl
theorem bit_16 {S j : Nat} (hS : S < 65536) (hj : j < 16) : ((nI S >>> (nI j &&& 31)) &&& 1) = nI (S / 2 ^ j % 2) := by
  have b : S / 2 ^ j ≤ S := Nat.div_le_self _ _
  rw [shr_n hS hj]
  generalize S / 2 ^ j = T at b ⊢
  have := sh_3 (T / 256) (by omega) (T % 256) (by omega)
  rw [show 256 * (T / 256) + T % 256 = T by omega] at this
  rw [this]
  congr 1
  omega
theorem or_n {B i : Nat} (hi : i < 16) (hB : B < 2 ^ i) : nI B ||| ((1 : Int32) <<< (nI i &&& 31)) = nI (B + 2 ^ i) := by
  have p : (2 : Nat) ^ i ≤ 2 ^ 15 := Nat.pow_le_pow_right (by omega) (by omega)
  rw [sh_2 i hi]
  have q : 2 ^ i * 1 + B = 2 ^ i * 1 ||| B := Nat.two_pow_add_eq_or_of_lt hB 1
  rw [Nat.mul_one] at q
  have e : (nI B ||| nI (2 ^ i)).toBitVec = (nI (B + 2 ^ i)).toBitVec := by
    rw [Int32.toBitVec_or]
    apply BitVec.eq_of_toNat_eq
    rw [BitVec.toNat_or]
    have t : ∀ k, k < 2 ^ 32 → (nI k).toBitVec.toNat = k := fun k hk => by
      show (BitVec.ofNat 32 k).toNat = k
      rw [BitVec.toNat_ofNat]; exact Nat.mod_eq_of_lt hk
    rw [t B (by omega), t (2 ^ i) (by omega), t (B + 2 ^ i) (by omega), Nat.add_comm, q, Nat.or_comm]
  exact Int32.toBitVec_inj.mp e

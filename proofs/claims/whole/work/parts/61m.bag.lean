def sW (w : Nat → Nat) : Nat → Nat → Nat
  | 0, _ => 0
  | i + 1, M => sW w i M + (if M / 2 ^ i % 2 = 1 then w i else 0)
def sV (v : Nat → Int) : Nat → Nat → Int
  | 0, _ => 0
  | i + 1, M => sV v i M + (if M / 2 ^ i % 2 = 1 then v i else 0)
theorem bit_lo {i j M : Nat} (h : j < i) : (M + 2 ^ i) / 2 ^ j % 2 = M / 2 ^ j % 2 := by
  obtain ⟨d, rfl⟩ : ∃ d, i = j + (d + 1) := ⟨i - j - 1, by omega⟩
  rw [Nat.pow_add, Nat.add_mul_div_left _ _ (Nat.two_pow_pos j), Nat.pow_succ]
  omega
theorem bit_hi {i M : Nat} (h : M < 2 ^ i) : M / 2 ^ i % 2 = 0 ∧ (M + 2 ^ i) / 2 ^ i % 2 = 1 := by
  have p : 0 < 2 ^ i := Nat.two_pow_pos i
  rw [Nat.div_eq_of_lt h, Nat.add_div_right _ p, Nat.div_eq_of_lt h]
  exact ⟨rfl, rfl⟩
theorem sW_lo {w : Nat → Nat} {i M : Nat} (h : M < 2 ^ i) : sW w (i + 1) M = sW w i M := by
  conv => lhs; unfold sW
  rw [(bit_hi h).1, if_neg (by omega)]; rfl
theorem sV_lo {v : Nat → Int} {i M : Nat} (h : M < 2 ^ i) : sV v (i + 1) M = sV v i M := by
  conv => lhs; unfold sV
  rw [(bit_hi h).1, if_neg (by omega)]; simp
theorem sW_cg {w : Nat → Nat} {i M : Nat} : ∀ j, j ≤ i → sW w j (M + 2 ^ i) = sW w j M := by
  intro j
  induction j with
  | zero => intro _; rfl
  | succ j ih =>
    intro h
    unfold sW
    rw [ih (by omega), bit_lo (by omega)]
theorem sV_cg {v : Nat → Int} {i M : Nat} : ∀ j, j ≤ i → sV v j (M + 2 ^ i) = sV v j M := by
  intro j
  induction j with
  | zero => intro _; rfl
  | succ j ih =>
    intro h
    unfold sV
    rw [ih (by omega), bit_lo (by omega)]
theorem sW_hi {w : Nat → Nat} {i M : Nat} (h : M < 2 ^ i) : sW w (i + 1) (M + 2 ^ i) = sW w i M + w i := by
  conv => lhs; unfold sW
  rw [(bit_hi h).2, if_pos rfl, sW_cg i (by omega)]
theorem sV_hi {v : Nat → Int} {i M : Nat} (h : M < 2 ^ i) : sV v (i + 1) (M + 2 ^ i) = sV v i M + v i := by
  conv => lhs; unfold sV
  rw [(bit_hi h).2, if_pos rfl, sV_cg i (by omega)]
theorem split2 {i M : Nat} (h : M < 2 ^ (i + 1)) : M < 2 ^ i ∨ ∃ M', M' < 2 ^ i ∧ M = M' + 2 ^ i := by
  rw [Nat.pow_succ] at h
  by_cases c : M < 2 ^ i
  · exact Or.inl c
  · exact Or.inr ⟨M - 2 ^ i, by omega, by omega⟩
/-- the best of a weight among the first -/
def good (w : Nat → Nat) (v : Nat → Int) (i a B : Nat) : Prop := B < 2 ^ i ∧ sW w i B = a ∧ ∀ M, M < 2 ^ i → sW w i M = a → sV v i M < sV v i B ∨ (sV v i M = sV v i B ∧ B ≤ M)
def nobag (w : Nat → Nat) (i a : Nat) : Prop := ∀ M, M < 2 ^ i → sW w i M ≠ a
theorem good_n {w : Nat → Nat} {v : Nat → Int} {i a B : Nat} (h : good w v i a B) (hn : a < w i ∨ nobag w i (a - w i)) : good w v (i + 1) a B := by
  obtain ⟨h1, h2, h3⟩ := h
  have p : 2 ^ (i + 1) = 2 ^ i + 2 ^ i := by rw [Nat.pow_succ]; omega
  refine ⟨by omega, by rw [sW_lo h1]; exact h2, fun M hM e => ?_⟩
  rw [sV_lo h1]
  rcases split2 hM with c | ⟨M', c, rfl⟩
  · rw [sW_lo c] at e
    rw [sV_lo c]; exact h3 M c e
  · rw [sW_hi c] at e
    rcases hn with z | z
    · omega
    · exact absurd (by omega) (z M' c)
theorem nobag_n {w : Nat → Nat} {i a : Nat} (h : nobag w i a) (hn : a < w i ∨ nobag w i (a - w i)) : nobag w (i + 1) a := by
  intro M hM e
  rcases split2 hM with c | ⟨M', c, rfl⟩
  · rw [sW_lo c] at e; exact h M c e
  · rw [sW_hi c] at e
    rcases hn with z | z
    · omega
    · exact absurd (by omega) (z M' c)
theorem good_s {w : Nat → Nat} {v : Nat → Int} {i a B1 : Nat} (hw : w i ≤ a) (h : good w v i (a - w i) B1) (h0 : nobag w i a ∨ ∃ B0, good w v i a B0 ∧ sV v i B0 < sV v i B1 + v i) : good w v (i + 1) a (B1 + 2 ^ i) ∧ sV v (i + 1) (B1 + 2 ^ i) = sV v i B1 + v i := by
  obtain ⟨h1, h2, h3⟩ := h
  have p : 2 ^ (i + 1) = 2 ^ i + 2 ^ i := by rw [Nat.pow_succ]; omega
  have e1 := sV_hi (v := v) h1
  refine ⟨⟨by omega, by rw [sW_hi h1]; omega, fun M hM e => ?_⟩, e1⟩
  rw [e1]
  rcases split2 hM with c | ⟨M', c, rfl⟩
  · rw [sW_lo c] at e
    rw [sV_lo c]
    rcases h0 with z | ⟨B0, z1, z2⟩
    · exact absurd e (z M c)
    · have := z1.2.2 M c e
      omega
  · rw [sW_hi c] at e
    rw [sV_hi c]
    have := h3 M' c (by omega)
    omega
theorem good_k {w : Nat → Nat} {v : Nat → Int} {i a B0 B1 : Nat} (h : good w v i (a - w i) B1) (h0 : good w v i a B0) (hle : sV v i B1 + v i ≤ sV v i B0) : good w v (i + 1) a B0 := by
  obtain ⟨g1, g2, g3⟩ := h0
  obtain ⟨h1, h2, h3⟩ := h
  have p : 2 ^ (i + 1) = 2 ^ i + 2 ^ i := by rw [Nat.pow_succ]; omega
  refine ⟨by omega, by rw [sW_lo g1]; exact g2, fun M hM e => ?_⟩
  rw [sV_lo g1]
  rcases split2 hM with c | ⟨M', c, rfl⟩
  · rw [sW_lo c] at e
    rw [sV_lo c]; exact g3 M c e
  · rw [sW_hi c] at e
    rw [sV_hi c]
    have := h3 M' c (by omega)
    omega
theorem sV_b {v : Nat → Int} (hv : ∀ i, i < 16 → -100 ≤ v i ∧ v i ≤ 100) : ∀ i : Nat, i ≤ 16 → ∀ M, -(100 * (i : Int)) ≤ sV v i M ∧ sV v i M ≤ 100 * (i : Int) := by
  intro i
  induction i with
  | zero => intro _ M; unfold sV; omega
  | succ i ih =>
    intro hi M
    unfold sV
    have a := ih (by omega) M
    have b := hv i (by omega)
    split
    · omega
    · omega
/-- the best bag of all -/
def bst (w : Nat → Nat) (v : Nat → Int) (k L B : Nat) : Prop := B < 2 ^ k ∧ sW w k B ≤ L ∧ ∀ M, M < 2 ^ k → sW w k M ≤ L → sV v k M < sV v k B ∨ (sV v k M = sV v k B ∧ (sW w k B < sW w k M ∨ (sW w k B = sW w k M ∧ B ≤ M)))
theorem bst_u {w : Nat → Nat} {v : Nat → Int} {k L B B' : Nat} (h : bst w v k L B) (h' : bst w v k L B') : B = B' := by
  obtain ⟨h1, h2, h3⟩ := h
  obtain ⟨g1, g2, g3⟩ := h'
  have a := h3 B' g1 g2
  have b := g3 B h1 h2
  omega

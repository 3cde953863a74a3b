/-- is an owner in a set -/
abbrev bN (S j : Nat) : Prop := S / 2 ^ j % 2 = 1
def lowB (S : Nat) : Nat := if S % 2 = 1 then 0 else if S / 2 % 2 = 1 then 1 else if S / 4 % 2 = 1 then 2 else if S / 8 % 2 = 1 then 3 else if S / 16 % 2 = 1 then 4 else if S / 32 % 2 = 1 then 5 else if S / 64 % 2 = 1 then 6 else 7
def pop (S : Nat) : Nat := S % 2 + S / 2 % 2 + S / 4 % 2 + S / 8 % 2 + S / 16 % 2 + S / 32 % 2 + S / 64 % 2 + S / 128 % 2
def wo (S p q : Nat) : Nat := S - 2 ^ p - 2 ^ q
theorem mk1 : ∀ S, S < 256 → ∀ j, j < 8 → ((nI S >>> (nI j &&& 31)) &&& 1) = (if bN S j then 1 else 0) := by decide +kernel
theorem mk2 : ∀ S, S < 256 → S = 0 ∨ (bN S (lowB S) ∧ lowB S < 8 ∧ f_JI_numberOfTrailingZeros (nI S) = some (nI (lowB S))) := by decide +kernel
theorem mk2b : ∀ S, S < 256 → ∀ j, j < 8 → j < lowB S → ¬ bN S j := by decide +kernel
def mk3P (S p q : Nat) : Bool := !(decide (bN S p) && decide (bN S q) && !decide (p = q)) || (decide ((nI S &&& ((((1 : Int32) <<< (nI p &&& 31)) ||| ((1 : Int32) <<< (nI q &&& 31))) ^^^ (-1))) = nI (wo S p q)) && decide (((nI S &&& (((1 : Int32) <<< (nI p &&& 31)) ^^^ (-1))) &&& (((1 : Int32) <<< (nI q &&& 31)) ^^^ (-1))) = nI (wo S p q)) && decide (wo S p q < S) && decide (pop (wo S p q) + 2 = pop S))
theorem mk3a : ∀ S, S < 256 → ∀ p, p < 8 → ∀ q, q < 8 → mk3P S p q = true := by decide +kernel
theorem mk3 {S p q : Nat} (hS : S < 256) (hp : p < 8) (hq : q < 8) (b1 : bN S p) (b2 : bN S q) (hpq : p ≠ q) : (nI S &&& ((((1 : Int32) <<< (nI p &&& 31)) ||| ((1 : Int32) <<< (nI q &&& 31))) ^^^ (-1))) = nI (wo S p q) ∧ ((nI S &&& (((1 : Int32) <<< (nI p &&& 31)) ^^^ (-1))) &&& (((1 : Int32) <<< (nI q &&& 31)) ^^^ (-1))) = nI (wo S p q) ∧ wo S p q < S ∧ pop (wo S p q) + 2 = pop S := by
  have h := mk3a S hS p hp q hq
  unfold mk3P at h
  have d1 : decide (bN S p) = true := decide_eq_true b1
  have d2 : decide (bN S q) = true := decide_eq_true b2
  have d3 : decide (p = q) = false := decide_eq_false hpq
  rw [d1, d2, d3] at h
  simp only [Bool.and_true, Bool.not_false, Bool.not_true, Bool.false_or, Bool.and_eq_true, decide_eq_true_eq] at h
  exact ⟨h.1.1.1, h.1.1.2, h.1.2, h.2⟩
theorem mk4 : ∀ S, S < 256 → f_JI_bitCount (nI S) = some (nI (pop S)) ∧ (S ≠ 0 → (nI S &&& (nI S - 1)) = nI (S - 2 ^ lowB S) ∧ pop (S - 2 ^ lowB S) + 1 = pop S ∧ S - 2 ^ lowB S < S) := by decide +kernel
theorem mk5 : ∀ k, k < 9 → (nI k - nI k / 2 * 2 = 0 ↔ k % 2 = 0) := by decide +kernel
theorem pop_b : ∀ S, S < 256 → pop S ≤ 8 ∧ (S ≠ 0 → 1 ≤ pop S) := by decide +kernel

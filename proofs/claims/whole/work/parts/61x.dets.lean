theorem dD1 (a : Nat → Nat → Int64) {i j : Nat} (hi : i < 4) (hj : j < 4) : dD a 1 (2 ^ i) (2 ^ j) = a i j := by
  have h1 : i = 0 ∨ i = 1 ∨ i = 2 ∨ i = 3 := by omega
  have h2 : j = 0 ∨ j = 1 ∨ j = 2 ∨ j = 3 := by omega
  rcases h1 with e | e | e | e <;> subst e <;> rcases h2 with e | e | e | e <;> subst e <;> simp [dD, exL, lowB] <;> grind
theorem dD2 (a : Nat → Nat → Int64) {i i' j j' : Nat} (hi : i < i') (hi' : i' < 4) (hj : j < j') (hj' : j' < 4) : dD a 2 (2 ^ i + 2 ^ i') (2 ^ j + 2 ^ j') = a i j * a i' j' - a i j' * a i' j := by
  have h1 : (i = 0 ∧ i' = 1) ∨ (i = 0 ∧ i' = 2) ∨ (i = 0 ∧ i' = 3) ∨ (i = 1 ∧ i' = 2) ∨ (i = 1 ∧ i' = 3) ∨ (i = 2 ∧ i' = 3) := by omega
  have h2 : (j = 0 ∧ j' = 1) ∨ (j = 0 ∧ j' = 2) ∨ (j = 0 ∧ j' = 3) ∨ (j = 1 ∧ j' = 2) ∨ (j = 1 ∧ j' = 3) ∨ (j = 2 ∧ j' = 3) := by omega
  rcases h1 with ⟨e, f⟩ | ⟨e, f⟩ | ⟨e, f⟩ | ⟨e, f⟩ | ⟨e, f⟩ | ⟨e, f⟩ <;> subst e <;> subst f <;> rcases h2 with ⟨e, f⟩ | ⟨e, f⟩ | ⟨e, f⟩ | ⟨e, f⟩ | ⟨e, f⟩ | ⟨e, f⟩ <;> subst e <;> subst f <;> simp [dD, exL, lowB] <;> grind

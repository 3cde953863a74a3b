theorem dD1 (a : Nat → Nat → Int64) {i j : Nat} (hi : i < 4) (hj : j < 4) : dD a 1 (2 ^ i) (2 ^ j) = a i j := by
  have h1 : i = 0 ∨ i = 1 ∨ i = 2 ∨ i = 3 := by omega
  have h2 : j = 0 ∨ j = 1 ∨ j = 2 ∨ j = 3 := by omega
  rcases h1 with e | e | e | e <;> subst e <;> rcases h2 with e | e | e | e <;> subst e <;> simp [dD, exL, lowB] <;> grind
theorem dD2 (a : Nat → Nat → Int64) {i i' j j' : Nat} (hi : i < i') (hi' : i' < 4) (hj : j < j') (hj' : j' < 4) : dD a 2 (2 ^ i + 2 ^ i') (2 ^ j + 2 ^ j') = a i j * a i' j' - a i j' * a i' j := by
  have h1 : (i = 0 ∧ i' = 1) ∨ (i = 0 ∧ i' = 2) ∨ (i = 0 ∧ i' = 3) ∨ (i = 1 ∧ i' = 2) ∨ (i = 1 ∧ i' = 3) ∨ (i = 2 ∧ i' = 3) := by omega
  have h2 : (j = 0 ∧ j' = 1) ∨ (j = 0 ∧ j' = 2) ∨ (j = 0 ∧ j' = 3) ∨ (j = 1 ∧ j' = 2) ∨ (j = 1 ∧ j' = 3) ∨ (j = 2 ∧ j' = 3) := by omega
  rcases h1 with ⟨e, f⟩ | ⟨e, f⟩ | ⟨e, f⟩ | ⟨e, f⟩ | ⟨e, f⟩ | ⟨e, f⟩ <;> subst e <;> subst f <;> rcases h2 with ⟨e, f⟩ | ⟨e, f⟩ | ⟨e, f⟩ | ⟨e, f⟩ | ⟨e, f⟩ | ⟨e, f⟩ <;> subst e <;> subst f <;> simp [dD, exL, lowB] <;> grind
theorem dD3 (a : Nat → Nat → Int64) {i i' i'' j j' j'' : Nat} (hi : i < i') (hi' : i' < i'') (hi'' : i'' < 4) (hj : j < j') (hj' : j' < j'') (hj'' : j'' < 4) : dD a 3 (2 ^ i + 2 ^ i' + 2 ^ i'') (2 ^ j + 2 ^ j' + 2 ^ j'') = a i j * (a i' j' * a i'' j'' - a i' j'' * a i'' j') - a i j' * (a i' j * a i'' j'' - a i' j'' * a i'' j) + a i j'' * (a i' j * a i'' j' - a i' j' * a i'' j) := by
  have h1 : (i = 0 ∧ i' = 1 ∧ i'' = 2) ∨ (i = 0 ∧ i' = 1 ∧ i'' = 3) ∨ (i = 0 ∧ i' = 2 ∧ i'' = 3) ∨ (i = 1 ∧ i' = 2 ∧ i'' = 3) := by omega
  have h2 : (j = 0 ∧ j' = 1 ∧ j'' = 2) ∨ (j = 0 ∧ j' = 1 ∧ j'' = 3) ∨ (j = 0 ∧ j' = 2 ∧ j'' = 3) ∨ (j = 1 ∧ j' = 2 ∧ j'' = 3) := by omega
  rcases h1 with ⟨e, f, g⟩ | ⟨e, f, g⟩ | ⟨e, f, g⟩ | ⟨e, f, g⟩ <;> subst e <;> subst f <;> subst g <;> rcases h2 with ⟨e, f, g⟩ | ⟨e, f, g⟩ | ⟨e, f, g⟩ | ⟨e, f, g⟩ <;> subst e <;> subst f <;> subst g <;> simp [dD, exL, lowB] <;> grind
/-- the place of a member within a set -/
def pos (S i : Nat) : Nat := pop (S % 2 ^ i)
def mkAP (S i : Nat) : Bool := decide (pos S i ≤ i) && decide (pos S (i + 1) = pos S i + (if bN S i then 1 else 0)) && decide (pos S 0 = 0) && decide (pos S 4 = pop S)
theorem mkAa : ∀ S, S < 16 → ∀ i, i < 4 → mkAP S i = true := by decide +kernel
theorem mkA {S i : Nat} (hS : S < 16) (hi : i < 4) : pos S i ≤ i ∧ pos S (i + 1) = pos S i + (if bN S i then 1 else 0) ∧ pos S 0 = 0 ∧ pos S 4 = pop S := by
  have h := mkAa S hS i hi
  unfold mkAP at h
  simp only [Bool.and_eq_true, decide_eq_true_eq] at h
  exact ⟨h.1.1.1, h.1.1.2, h.1.2, h.2⟩
def aM (m : Mem) (i j : Nat) : Int64 := (gI m 31 (4 * i + j) + 20).toInt64
def n32 (a _k : Nat) : Prop := ¬ a = 32
/-- a row of the part, laid out by the reference -/
theorem tp30 {m0 : Mem} {R C r c i : Nat} (hC : C < 2 ^ c) (hc : c ≤ 4) (hR : R < 16) (hi : i < 4) (h1 : gI m0 0 38 = nI c) (k5 : Int32 → Int32 → Int32 → Int32 → Mem → Option Mem) : ∀ d n j m, j + d = c → d < n → EqOn n32 m0 m → ∃ m', f_M_takesPart_l30 FN k5 n (nI R) (nI C) (nI (pos R i)) (nI i) (nI (pos C j)) (nI j) m = k5 (nI R) (nI C) (nI (pos R i + 1)) (nI (i + 1)) m' ∧ EqOn n32 m0 m' ∧ (∀ b, ¬ (4 * pos R i + pos C j ≤ b ∧ b < 4 * pos R i + 4) → gL m' 32 b = gL m 32 b) ∧ ∀ j', j ≤ j' → j' < c → bN C j' → gL m' 32 (4 * pos R i + pos C j') = aM m0 i j' := by
  have p2 := p2_16 hc
  have hC16 : C < 16 := by omega
  have pr := (mkA hR hi).1
  intro d
  induction d with
  | zero =>
    intro n j m g1 g2 e
    obtain ⟨n', rfl⟩ : ∃ n', n = n' + 1 := ⟨n - 1, by omega⟩
    have hj : j = c := by omega
    subst hj
    refine ⟨m, ?_, e, fun _ _ => rfl, fun j' h1 h2 => by omega⟩
    unfold f_M_takesPart_l30 f_M_takesPart_b88
    rw [(e 0 38 (by unfold n32; omega)).1, h1, if_pos (P_re hc), nme, nme, y_s, y_s]
  | succ d ih =>
    intro n j m g1 g2 e
    obtain ⟨n', rfl⟩ : ∃ n', n = n' + 1 := ⟨n - 1, by omega⟩
    have hj : j < c := by omega
    obtain ⟨a1, a2, a3, a4⟩ := mkA hC16 (show j < 4 by omega)
    conv => congr; intro m'; lhs; lhs; unfold f_M_takesPart_l30
    unfold f_M_takesPart_b79
    rw [(e 0 38 (by unfold n32; omega)).1, h1, if_neg (P_le hc hj), mk1 C (by omega) j (by omega)]
    simp only [nme, y_s]
    by_cases b : bN C j
    · rw [if_pos b] at a2
      rw [if_pos b, if_neg (by decide), m4_n, m4_n, if_pos (ib_n (show 4 * i + j < 16 by omega) (by omega)), if_pos (ib_n (show 4 * pos R i + pos C j < 16 by omega) (by omega)), ix_n (by omega), ix_n (by omega), ← a2, (e 31 _ (by unfold n32; omega)).1]
      obtain ⟨m', q1, q2, q3, q4⟩ := ih n' (j + 1) (sL m 32 (4 * pos R i + pos C j) (aM m0 i j)) (by omega) (by omega) (e.sL (by unfold n32; omega))
      refine ⟨m', q1, q2, fun z hz => ?_, fun j' k1 k2 k3 => ?_⟩
      · rw [q3 z (by omega), gL_sL, if_pos rfl, if_neg (by omega)]
      · by_cases y : j' = j
        · subst y
          rw [q3 _ (by omega), gL_sL, if_pos rfl, if_pos rfl]
        · exact q4 j' (by omega) k2 k3
    · rw [if_neg b] at a2
      have a5 : pos C (j + 1) = pos C j := by omega
      rw [if_neg b, if_pos (by decide), ← a5]
      obtain ⟨m', q1, q2, q3, q4⟩ := ih n' (j + 1) m (by omega) (by omega) e
      refine ⟨m', q1, q2, fun z hz => q3 z (by omega), fun j' k1 k2 k3 => ?_⟩
      by_cases y : j' = j
      · subst y; exact absurd k3 b
      · exact q4 j' (by omega) k2 k3

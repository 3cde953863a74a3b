theorem minF_cg {m : Mem} {L L' : Nat → Int} {S : Nat} (h : ∀ j, j < 8 → bN S j → j ≠ lowB S → L (wo S (lowB S) j) = L' (wo S (lowB S) j)) : ∀ d j a, j + d ≤ 8 → minF m L S d j a = minF m L' S d j a := by
  intro d
  induction d with
  | zero => intro j a _; rfl
  | succ d ih =>
    intro j a hj
    unfold minF
    by_cases c : bN S j ∧ j ≠ lowB S
    · rw [if_pos c, if_pos c, h j (by omega) c.1 c.2]
      exact ih (j + 1) _ (by omega)
    · rw [if_neg c, if_neg c]
      exact ih (j + 1) _ (by omega)
theorem lc_up {m : Mem} : ∀ P S, S < 256 → pop S ≤ 2 * P → pop S % 2 = 0 → lcF m P S = lcF m (P + 1) S := by
  intro P
  induction P with
  | zero =>
    intro S hS h1 h2
    have c : S = 0 := by
      by_cases z : S = 0
      · exact z
      · have := (pop_b S hS).2 z
        omega
    subst c
    unfold lcF
    rw [if_pos rfl]
  | succ P ih =>
    intro S hS h1 h2
    unfold lcF
    by_cases c : S = 0
    · rw [if_pos c, if_pos c]
    · rw [if_neg c, if_neg c]
      obtain ⟨l1, l2, l3⟩ := (mk2 S hS).resolve_left c
      rw [minF_cg (L := lcF m P) (L' := lcF m (P + 1)) (fun j hj b1 b2 => by
        obtain ⟨_, _, w3, w4⟩ := mk3 hS l2 hj l1 b1 (Ne.symm b2)
        exact ih _ (by omega) (by omega) (by omega)) 8 0 none (by omega)]
theorem lc_4 {m : Mem} {P S : Nat} (hP : P ≤ 4) (hS : S < 256) (h1 : pop S ≤ 2 * P) (h2 : pop S % 2 = 0) : lcF m P S = lcF m 4 S := by
  have h5 : P = 0 ∨ P = 1 ∨ P = 2 ∨ P = 3 ∨ P = 4 := by omega
  rcases h5 with e | e | e | e | e <;> subst e
  · rw [lc_up 0 S hS h1 h2, lc_up 1 S hS (by omega) h2, lc_up 2 S hS (by omega) h2, lc_up 3 S hS (by omega) h2]
  · rw [lc_up 1 S hS (by omega) h2, lc_up 2 S hS (by omega) h2, lc_up 3 S hS (by omega) h2]
  · rw [lc_up 2 S hS (by omega) h2, lc_up 3 S hS (by omega) h2]
  · rw [lc_up 3 S hS (by omega) h2]
  · rfl
/-- what a pair and the rest cost -/
def vlF (m : Mem) (S j : Nat) : Int := cst m (lowB S) j + lcF m 4 (wo S (lowB S) j)
theorem vl_b {m : Mem} (hB : mtB m) {S j : Nat} (hS : S < 256) (h0 : S ≠ 0) (hj : j < 8) (b1 : bN S j) (b2 : j ≠ lowB S) : 0 ≤ vlF m S j ∧ vlF m S j ≤ 2000000 := by
  obtain ⟨l1, l2, l3⟩ := (mk2 S hS).resolve_left h0
  obtain ⟨_, _, w3, w4⟩ := mk3 hS l2 hj l1 b1 (Ne.symm b2)
  have c1 := cst_b hB l2 hj
  have c2 := lcF_b hB 4 (wo S (lowB S) j) (by omega)
  unfold vlF
  omega
theorem sec_b : ∀ S, S < 256 → S = 0 ∨ ¬ pop S % 2 = 0 ∨ (bN S (lowB (S - 2 ^ lowB S)) ∧ lowB (S - 2 ^ lowB S) ≠ lowB S ∧ lowB (S - 2 ^ lowB S) < 8) := by decide +kernel
theorem min_p {m : Mem} {S : Nat} : ∀ d j a t, j + d ≤ 8 → minF m (lcF m 4) S d j a = some t → (∀ k, j ≤ k → k < j + d → bN S k → k ≠ lowB S → t ≤ vlF m S k) ∧ (∀ u, a = some u → t ≤ u) ∧ (a = some t ∨ ∃ k, j ≤ k ∧ k < j + d ∧ bN S k ∧ k ≠ lowB S ∧ vlF m S k = t) := by
  intro d
  induction d with
  | zero =>
    intro j a t _ h
    unfold minF at h
    exact ⟨fun k h1 h2 => absurd h2 (by omega), fun u hu => by rw [h] at hu; have := Option.some.inj hu; omega, Or.inl h⟩
  | succ d ih =>
    intro j a t hj h
    unfold minF at h
    obtain ⟨p1, p2, p3⟩ := ih (j + 1) _ t (by omega) h
    by_cases c : bN S j ∧ j ≠ lowB S
    · rw [if_pos c] at p2 p3
      have e : cst m (lowB S) j + lcF m 4 (wo S (lowB S) j) = vlF m S j := rfl
      rw [e] at p2 p3
      have q : t ≤ vlF m S j ∧ (∀ u, a = some u → t ≤ u) ∧ (stp a (vlF m S j) = some t → a = some t ∨ vlF m S j = t) := by
        unfold stp at p2 ⊢
        cases a with
        | none => exact ⟨p2 _ rfl, fun u hu => (by cases hu), fun z => Or.inr (Option.some.inj z)⟩
        | some u =>
          simp only at p2 ⊢
          by_cases z : u ≤ vlF m S j
          · simp only [if_pos z] at p2 ⊢
            have := p2 u rfl
            exact ⟨by omega, fun w hw => by have := Option.some.inj hw; omega, fun z => Or.inl z⟩
          · simp only [if_neg z] at p2 ⊢
            have := p2 _ rfl
            exact ⟨this, fun w hw => by have := Option.some.inj hw; omega, fun z => Or.inr (Option.some.inj z)⟩
      refine ⟨fun k h1 h2 b1 b2 => ?_, q.2.1, ?_⟩
      · by_cases z : k = j
        · rw [z]; exact q.1
        · exact p1 k (by omega) (by omega) b1 b2
      · rcases p3 with z | ⟨k, z1, z2, z3⟩
        · rcases q.2.2 z with y | y
          · exact Or.inl y
          · exact Or.inr ⟨j, by omega, by omega, c.1, c.2, y⟩
        · exact Or.inr ⟨k, by omega, by omega, z3⟩
    · rw [if_neg c] at p2 p3
      refine ⟨fun k h1 h2 b1 b2 => ?_, p2, ?_⟩
      · by_cases z : k = j
        · subst z; exact absurd ⟨b1, b2⟩ c
        · exact p1 k (by omega) (by omega) b1 b2
      · rcases p3 with z | ⟨k, z1, z2, z3⟩
        · exact Or.inl z
        · exact Or.inr ⟨k, by omega, by omega, z3⟩
theorem min_s {m : Mem} {L : Nat → Int} {S : Nat} : ∀ d j a, (a ≠ none ∨ ∃ k, j ≤ k ∧ k < j + d ∧ bN S k ∧ k ≠ lowB S) → minF m L S d j a ≠ none := by
  intro d
  induction d with
  | zero =>
    intro j a h
    unfold minF
    rcases h with h | ⟨k, h1, h2, _⟩
    · exact h
    · omega
  | succ d ih =>
    intro j a h
    unfold minF
    apply ih
    by_cases c : bN S j ∧ j ≠ lowB S
    · rw [if_pos c]
      left
      unfold stp
      cases a with
      | none => simp
      | some u => simp only; split <;> simp
    · rw [if_neg c]
      rcases h with h | ⟨k, h1, h2, h3⟩
      · exact Or.inl h
      · right
        refine ⟨k, ?_, by omega, h3⟩
        by_cases z : k = j
        · subst z; exact absurd h3 c
        · omega
/-- the least of an even set, told by its recursion -/
theorem TS_e {m : Mem} {S : Nat} (hS : S < 256) (h0 : S ≠ 0) (hev : pop S % 2 = 0) : minF m (lcF m 4) S 8 0 none = some (lcF m 4 S) := by
  obtain ⟨l1, l2, l3⟩ := (mk2 S hS).resolve_left h0
  have pb := (pop_b S hS).1
  have e : lcF m 4 S = (minF m (lcF m 4) S 8 0 none).getD 0 := by
    conv => lhs; unfold lcF
    rw [if_neg h0, minF_cg (L := lcF m 3) (L' := lcF m 4) (fun j hj b1 b2 => by
      obtain ⟨_, _, w3, w4⟩ := mk3 hS l2 hj l1 b1 (Ne.symm b2)
      exact lc_4 (by omega) (by omega) (by omega) (by omega)) 8 0 none (by omega)]
  have s := ((sec_b S hS).resolve_left h0).resolve_left (not_not_intro hev)
  have n := min_s (m := m) (L := lcF m 4) 8 0 none (Or.inr ⟨_, by omega, by omega, s.1, s.2.1⟩)
  rw [e]
  cases z : minF m (lcF m 4) S 8 0 none with
  | none => exact absurd z n
  | some v => rfl
theorem firstM {S : Nat} (hS : S < 256) (h0 : S ≠ 0) : f_M_first FN (nI S) = some (nI (lowB S)) := by
  obtain ⟨l1, l2, l3⟩ := (mk2 S hS).resolve_left h0
  have key : ∀ d n i, i + d = lowB S → d < n → f_M_first_l2 FN n (nI S) (nI i) = some (nI (lowB S)) := by
    intro d
    induction d with
    | zero =>
      intro n i h1 h2
      obtain ⟨n', rfl⟩ : ∃ n', n = n' + 1 := ⟨n - 1, by omega⟩
      have hi : i = lowB S := by omega
      subst hi
      unfold f_M_first_l2
      rw [mk1 S hS _ l2, if_pos l1, if_pos (by decide)]
    | succ d ih =>
      intro n i h1 h2
      obtain ⟨n', rfl⟩ : ∃ n', n = n' + 1 := ⟨n - 1, by omega⟩
      unfold f_M_first_l2
      rw [mk1 S hS i (by omega), if_neg (mk2b S hS i (by omega) (by omega)), if_neg (by decide), nme, y_s]
      exact ih n' (i + 1) (by omega) (by omega)
  exact key (lowB S) FN 0 (by omega) (FN_lt (by omega))
theorem onesM : ∀ k S u n, S < 256 → pop S ≤ k → k < n → f_M_ones_l4 FN n (nI u) (nI S) = some (nI (u + pop S)) := by
  intro k
  induction k with
  | zero =>
    intro S u n hS h1 h2
    obtain ⟨n', rfl⟩ : ∃ n', n = n' + 1 := ⟨n - 1, by omega⟩
    have c : S = 0 := by
      by_cases z : S = 0
      · exact z
      · have := (pop_b S hS).2 z
        omega
    subst c
    unfold f_M_ones_l4
    rw [if_pos (show nI 0 = 0 from rfl)]; rfl
  | succ k ih =>
    intro S u n hS h1 h2
    obtain ⟨n', rfl⟩ : ∃ n', n = n' + 1 := ⟨n - 1, by omega⟩
    unfold f_M_ones_l4
    by_cases c : S = 0
    · subst c
      rw [if_pos (show nI 0 = 0 from rfl)]; rfl
    · obtain ⟨e1, e2, e3⟩ := (mk4 S hS).2 c
      rw [if_neg (fun q => c ((nI0 (by omega)).mp q)), nme, nme, y_s, e1, ih (S - 2 ^ lowB S) (u + 1) n' (by omega) (by omega) (by omega)]
      congr 2
      omega
theorem ones_e {S : Nat} (hS : S < 256) : f_M_ones FN (nI S) = some (nI (pop S)) := by
  have := onesM 8 S 0 FN hS (pop_b S hS).1 (FN_lt (by omega))
  rw [Nat.zero_add] at this
  exact this
theorem costsM {m : Mem} (hB : mtB m) {S j : Nat} (hS : S < 256) (h0 : S ≠ 0) (hj : j < 8) (b1 : bN S j) (b2 : j ≠ lowB S) (hT : gI m 43 (wo S (lowB S) j) = Int32.ofInt (lcF m 4 (wo S (lowB S) j))) : f_M_costs FN m (nI S) (nI j) = some (Int32.ofInt (vlF m S j)) := by
  obtain ⟨l1, l2, l3⟩ := (mk2 S hS).resolve_left h0
  obtain ⟨_, w2, w3, w4⟩ := mk3 hS l2 hj l1 b1 (Ne.symm b2)
  have b := hB (8 * lowB S + j) (by omega)
  have cb := cst_b hB l2 hj
  have lb := lcF_b hB 4 (wo S (lowB S) j) (by omega)
  have e1 : (gI m 42 (8 * lowB S + j) + 1).toInt = (gI m 42 (8 * lowB S + j)).toInt + 1 := a32 (by rw [l32_1]; omega) (by rw [l32_1]; omega)
  unfold f_M_costs
  rw [firstM hS h0, bs, (ix8 l2 hj).2, if_pos (ib_n (by omega) (by omega)), nme, ix_n (by omega), w2, if_pos (ib_n (by omega) (by omega)), ix_n (by omega), hT]
  congr 1
  apply i32_inj
  have e2 : ((gI m 42 (8 * lowB S + j) + 1) * (gI m 42 (8 * lowB S + j) + 1)).toInt = cst m (lowB S) j := by
    have cb' := cb
    unfold cst at cb' ⊢
    rw [m32, e1] <;> rw [e1] <;> omega
  unfold vlF
  rw [o32 (by omega), a32, e2, o32 (by omega)] <;> rw [e2, o32 (by omega)] <;> omega
def eM (a : Option Int) : Int32 := match a with
  | none => -2147483648
  | some v => Int32.ofInt v

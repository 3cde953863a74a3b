def mkEP (S p i : Nat) : Bool := !(decide (bN S p) && decide (bN (S - 2 ^ p) i)) || decide (bN S i)
theorem mkEa : ∀ S, S < 16 → ∀ p, p < 4 → ∀ i, i < 4 → mkEP S p i = true := by decide +kernel
theorem mkE {S p i : Nat} (hS : S < 16) (hp : p < 4) (hi : i < 4) (b : bN S p) (b2 : bN (S - 2 ^ p) i) : bN S i := by
  have q := mkEa S hS p hp i hi
  unfold mkEP at q
  rw [decide_eq_true b, decide_eq_true b2] at q
  simp only [Bool.and_true, Bool.not_true, Bool.false_or, decide_eq_true_eq] at q
  exact q
theorem exL_ext {A A' D D' : Nat → Int64} {C : Nat} : ∀ d j s g, j + d ≤ 4 → (∀ k, k < 4 → bN C k → A k = A' k ∧ D k = D' k) → exL A D C d j s g = exL A' D' C d j s g := by
  intro d
  induction d with
  | zero => intro j s g _ _; rfl
  | succ d ih =>
    intro j s g hj h
    unfold exL
    by_cases c : bN C j
    · rw [if_pos c, if_pos c, (h j (by omega) c).1, (h j (by omega) c).2]
      exact ih (j + 1) _ _ (by omega) h
    · rw [if_neg c, if_neg c]
      exact ih (j + 1) _ _ (by omega) h
theorem dD_ext {a b : Nat → Nat → Int64} : ∀ s R C, R < 16 → C < 16 → pop R = s → pop C = s → (∀ i j, i < 4 → j < 4 → bN R i → bN C j → a i j = b i j) → dD a s R C = dD b s R C := by
  intro s
  induction s with
  | zero => intro R C _ _ _ _ _; rfl
  | succ s ih =>
    intro R C hR hC h1 h2 h
    have hR0 : R ≠ 0 := fun q => by subst q; exact absurd h1 (by show ¬ 0 = s + 1; omega)
    have l4 : lowB R < 4 := (mk8 R hR).1.resolve_left hR0
    have lb := ((mk2 R (by omega)).resolve_left hR0).1
    obtain ⟨_, m2, m3⟩ := mk7 hR l4 lb
    unfold dD
    refine exL_ext 4 0 0 1 (by omega) (fun k hk bk => ⟨h _ _ l4 hk lb bk, ?_⟩)
    obtain ⟨_, f2, f3⟩ := mk7 hC hk bk
    exact ih _ _ (by omega) (by omega) (by omega) (by omega) (fun i j hi hj b1 b2 => h i j hi hj (mkE hR l4 hi lb b1) (mkE hC hk hj bk b2))
theorem cfX_ext {a b : Nat → Nat → Int64} {R C i j : Nat} (hR : R < 16) (hC : C < 16) (hp : pop R = pop C) (hi : i < 4) (hj : j < 4) (h : ∀ i j, i < 4 → j < 4 → bN R i → bN C j → a i j = b i j) : cfX a R C i j = cfX b R C i j := by
  unfold cfX
  by_cases c : bN R i ∧ bN C j
  · rw [if_pos c, if_pos c]
    obtain ⟨_, m2, m3⟩ := mk7 hR hi c.1
    obtain ⟨_, f2, f3⟩ := mk7 hC hj c.2
    rw [dD_ext _ _ _ (by omega) (by omega) rfl (by omega) (fun i' j' hi' hj' b1 b2 => h i' j' hi' hj' (mkE hR hi hi' c.1 b1) (mkE hC hj hj' c.2 b2))]
  · rw [if_neg c, if_neg c]

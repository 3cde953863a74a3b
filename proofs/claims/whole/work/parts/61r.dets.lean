def mk7P (S p : Nat) : Bool := !(decide (bN S p)) || (decide ((nI S &&& (((1 : Int32) <<< (nI p &&& 31)) ^^^ (-1))) = nI (S - 2 ^ p)) && decide (S - 2 ^ p < S) && decide (pop (S - 2 ^ p) + 1 = pop S))
theorem mk7a : ∀ S, S < 16 → ∀ p, p < 4 → mk7P S p = true := by decide +kernel
theorem mk7 {S p : Nat} (hS : S < 16) (hp : p < 4) (b : bN S p) : (nI S &&& (((1 : Int32) <<< (nI p &&& 31)) ^^^ (-1))) = nI (S - 2 ^ p) ∧ S - 2 ^ p < S ∧ pop (S - 2 ^ p) + 1 = pop S := by
  have h := mk7a S hS p hp
  unfold mk7P at h
  have d1 : decide (bN S p) = true := decide_eq_true b
  rw [d1] at h
  simp only [Bool.not_true, Bool.false_or, Bool.and_eq_true, decide_eq_true_eq] at h
  exact ⟨h.1.1, h.1.2, h.2⟩
theorem mk8 : ∀ S, S < 16 → (S = 0 ∨ lowB S < 4) ∧ (pop S = 0 ↔ S = 0) ∧ pop S ≤ 4 := by decide +kernel
/-- the sum along a row -/
def exL (a D : Nat → Int64) (C : Nat) : Nat → Nat → Int64 → Int64 → Int64
  | 0, _, s, _ => s
  | d + 1, j, s, g => if bN C j then exL a D C d (j + 1) (s + (g * a j) * D j) (-g) else exL a D C d (j + 1) s g
/-- the determinant of a part -/
def dD (a : Nat → Nat → Int64) : Nat → Nat → Nat → Int64
  | 0, _, _ => 1
  | s + 1, R, C => exL (a (lowB R)) (fun j => dD a s (R - 2 ^ lowB R) (C - 2 ^ j)) C 4 0 0 1
def aX (x : Mem) (i j : Nat) : Int64 := (gI x (27 + i) j + 20).toInt64
theorem minorX {x : Mem} {R C i j : Nat} (hR : R < 16) (hC : C < 16) (hi : i < 4) (hj : j < 4) (b1 : bN R i) (b2 : bN C j) : f_Ch_minor x (nI R) (nI C) (nI i) (nI j) = some (gL x 33 (16 * (R - 2 ^ i) + (C - 2 ^ j))) := by
  obtain ⟨e1, e2, _⟩ := mk7 hR hi b1
  obtain ⟨f1, f2, _⟩ := mk7 hC hj b2
  unfold f_Ch_minor
  rw [e1, f1, nme]
  have e : nI (R - 2 ^ i) * 16 + nI (C - 2 ^ j) = nI (16 * (R - 2 ^ i) + (C - 2 ^ j)) := by
    have q : (16 : Int32) * nI (R - 2 ^ i) = nI (16 * (R - 2 ^ i)) := y_mul 16 _
    have q2 : nI (R - 2 ^ i) * 16 = nI (16 * (R - 2 ^ i)) := by rw [← q]; grind
    rw [q2, y_add]
  rw [e, if_neg (show ¬ nI (16 * (R - 2 ^ i) + (C - 2 ^ j)) < 0 by show ¬ _ < nI 0; rw [y_lt (by omega) (by omega)]; omega), if_neg (show ¬ Int32.ofNat 256 ≤ nI (16 * (R - 2 ^ i) + (C - 2 ^ j)) by show ¬ nI 256 ≤ _; rw [y_le (by omega) (by omega)]; omega), if_pos (ib_n (by omega) (by omega)), ix_n (by omega)]
theorem expand_l {x : Mem} {R C : Nat} {D : Nat → Int64} (hR : R < 16) (hC : C < 16) (h0 : R ≠ 0) (hD : ∀ j, j < 4 → bN C j → gL x 33 (16 * (R - 2 ^ lowB R) + (C - 2 ^ j)) = D j) : ∀ d n j s g, j + d = 4 → d < n → f_Ch_expand_l14 FN x n (nI R) (nI C) (nI (lowB R)) s g (nI j) = some (exL (aX x (lowB R)) D C d j s g) := by
  have l4 : lowB R < 4 := (mk8 R hR).1.resolve_left h0
  have lb := ((mk2 R (by omega)).resolve_left h0).1
  intro d
  induction d with
  | zero =>
    intro n j s g g1 g2
    obtain ⟨n', rfl⟩ : ∃ n', n = n' + 1 := ⟨n - 1, by omega⟩
    have hj : j = 4 := by omega
    subst hj
    unfold f_Ch_expand_l14 exL
    rw [if_pos (by decide)]
  | succ d ih =>
    intro n j s g g1 g2
    obtain ⟨n', rfl⟩ : ∃ n', n = n' + 1 := ⟨n - 1, by omega⟩
    have hj : j < 4 := by omega
    unfold f_Ch_expand_l14 exL
    unfold f_Ch_expand_b70
    rw [if_neg (show ¬ (4 : Int32) ≤ nI j by show ¬ nI 4 ≤ nI j; rw [y_le (by omega) (by omega)]; omega), if_neg (show ¬ (4 : Int32) ≤ nI (lowB R) by show ¬ nI 4 ≤ nI (lowB R); rw [y_le (by omega) (by omega)]; omega), mk1 C (by omega) j (by omega)]
    by_cases c : bN C j
    · rw [if_pos c, if_pos c, if_neg (by decide), if_pos (ib_n l4 (by omega)), if_pos (ib_n hj (by omega)), minorX hR hC l4 hj lb c, bs, hD j hj c, ix_n (by omega), ix_n (by omega), sr26 _ l4]
      simp only [nme, y_s]
      exact ih n' (j + 1) _ _ (by omega) (by omega)
    · rw [if_neg c, if_neg c, if_pos rfl, nme, y_s]
      exact ih n' (j + 1) _ _ (by omega) (by omega)
def n33 (a _k : Nat) : Prop := ¬ a = 33
/-- the table up to a part -/
def tabX (a : Nat → Nat → Int64) (x : Mem) (R C : Nat) : Prop := ∀ R' C', R' < 16 → C' < 16 → pop R' = pop C' → (R' < R ∨ (R' = R ∧ C' < C)) → gL x 33 (16 * R' + C') = dD a (pop R') R' C'
theorem aX_cg {x x' : Mem} (e : EqOn n33 x x') {i j : Nat} (hi : i < 4) : aX x' i j = aX x i j := by
  unfold aX
  rw [(e (27 + i) j (by unfold n33; omega)).1]
theorem expandX {x0 x : Mem} {R C : Nat} (e : EqOn n33 x0 x) (hR : R < 16) (hC : C < 16) (h0 : R ≠ 0) (hp : pop R = pop C) (hT : tabX (aX x0) x R 0) : f_Ch_expand FN x (nI R) (nI C) = some (dD (aX x0) (pop R) R C) := by
  have l4 : lowB R < 4 := (mk8 R hR).1.resolve_left h0
  obtain ⟨lb, _, lt⟩ := (mk2 R (by omega)).resolve_left h0
  obtain ⟨_, m2, m3⟩ := mk7 hR l4 lb
  have en := expand_l (D := fun j => dD (aX x0) (pop (R - 2 ^ lowB R)) (R - 2 ^ lowB R) (C - 2 ^ j)) hR hC h0 (fun j hj b => by
    obtain ⟨_, f2, f3⟩ := mk7 hC hj b
    exact hT _ _ (by omega) (by omega) (by omega) (Or.inl m2)) 4 FN 0 0 1 (by omega) (FN_lt (by omega))
  unfold f_Ch_expand
  rw [lt, bs]
  have en' : f_Ch_expand_l14 FN x FN (nI R) (nI C) (nI (lowB R)) 0 1 0 = _ := en
  rw [en', ← m3]
  have ea : aX x (lowB R) = aX x0 (lowB R) := funext (fun j => aX_cg e l4)
  rw [ea]
  rfl
theorem det17 {x0 : Mem} {R : Nat} (hR : R < 16) (h0 : R ≠ 0) (kX : Int32 → Mem → Option Mem) : ∀ d n C x, C + d = 16 → d < n → EqOn n33 x0 x → tabX (aX x0) x R C → ∃ x', f_Ch_findDeterminants_l17 FN kX n (nI R) (nI C) x = kX (nI (R + 1)) x' ∧ EqOn n33 x0 x' ∧ tabX (aX x0) x' R 16 := by
  intro d
  induction d with
  | zero =>
    intro n C x g1 g2 g3 g4
    obtain ⟨n', rfl⟩ : ∃ n', n = n' + 1 := ⟨n - 1, by omega⟩
    have hC : C = 16 := by omega
    subst hC
    refine ⟨x, ?_, g3, g4⟩
    unfold f_Ch_findDeterminants_l17
    rw [if_pos (by decide), nme, y_s]
  | succ d ih =>
    intro n C x g1 g2 g3 g4
    obtain ⟨n', rfl⟩ : ∃ n', n = n' + 1 := ⟨n - 1, by omega⟩
    have hC : C < 16 := by omega
    have p1 := (mk8 R hR).2.2
    have p2 := (mk8 C hC).2.2
    conv => congr; intro x'; lhs; lhs; unfold f_Ch_findDeterminants_l17
    unfold f_Ch_findDeterminants_b51
    rw [if_neg (show ¬ (16 : Int32) ≤ nI C by show ¬ nI 16 ≤ nI C; rw [y_le (by omega) (by omega)]; omega), (mk4 R (by omega)).1, (mk4 C (by omega)).1, bs, bs]
    simp only [nme, y_s]
    by_cases c : pop R = pop C
    · rw [if_neg (not_not_intro (by rw [c])), expandX g3 hR hC h0 c (fun R' C' h1 h2 h3 h4 => g4 R' C' h1 h2 h3 (by omega)), bs]
      have e : nI R * 16 + nI C = nI (16 * R + C) := by
        have q : (16 : Int32) * nI R = nI (16 * R) := y_mul 16 _
        have q2 : nI R * 16 = nI (16 * R) := by rw [← q]; grind
        rw [q2, y_add]
      rw [e, if_pos (ib_n (show 16 * R + C < 256 by omega) (by omega)), ix_n (by omega)]
      refine ih n' (C + 1) _ (by omega) (by omega) (g3.sL (by unfold n33; omega)) (fun R' C' h1 h2 h3 h4 => ?_)
      rw [gL_sL, if_pos rfl]
      by_cases z : R' = R ∧ C' = C
      · obtain ⟨z1, z2⟩ := z
        subst z1; subst z2
        rw [if_pos rfl]
      · rw [if_neg (by omega)]
        exact g4 R' C' h1 h2 h3 (by omega)
    · rw [if_pos (by rw [y_eq (by omega) (by omega)]; exact c)]
      exact ih n' (C + 1) x (by omega) (by omega) g3 (fun R' C' h1 h2 h3 h4 => g4 R' C' h1 h2 h3 (by
        by_cases z : R' = R ∧ C' = C
        · obtain ⟨z1, z2⟩ := z
          subst z1; subst z2
          exact absurd h3 c
        · omega))
theorem det9 {x0 : Mem} : ∀ d n R x, R + d = 16 → d < n → R ≠ 0 → EqOn n33 x0 x → tabX (aX x0) x R 0 → ∃ x', f_Ch_findDeterminants_l9 FN n (nI R) x = some x' ∧ EqOn n33 x0 x' ∧ tabX (aX x0) x' 16 0 := by
  intro d
  induction d with
  | zero =>
    intro n R x g1 g2 g3 g4 g5
    obtain ⟨n', rfl⟩ : ∃ n', n = n' + 1 := ⟨n - 1, by omega⟩
    have hR : R = 16 := by omega
    subst hR
    refine ⟨x, ?_, g4, g5⟩
    unfold f_Ch_findDeterminants_l9
    rw [if_pos (by decide)]
  | succ d ih =>
    intro n R x g1 g2 g3 g4 g5
    obtain ⟨n', rfl⟩ : ∃ n', n = n' + 1 := ⟨n - 1, by omega⟩
    have hR : R < 16 := by omega
    obtain ⟨x1, q1, q2, q3⟩ := det17 hR g3 (f_Ch_findDeterminants_l9 FN n') 15 FN 1 x (by omega) (FN_lt (by omega)) g4 (fun R' C' h1 h2 h3 h4 => by
      rcases h4 with h4 | ⟨h4, h5⟩
      · exact g5 R' C' h1 h2 h3 (Or.inl h4)
      · have : C' = 0 := by omega
        subst this
        have := (mk8 R' h1).2.1.mp (by rw [h3]; rfl)
        omega)
    obtain ⟨x2, w1, w2, w3⟩ := ih n' (R + 1) x1 (by omega) (by omega) (by omega) q2 (fun R' C' h1 h2 h3 h4 => q3 R' C' h1 h2 h3 (by omega))
    refine ⟨x2, ?_, w2, w3⟩
    unfold f_Ch_findDeterminants_l9
    rw [if_neg (show ¬ (16 : Int32) ≤ nI R by show ¬ nI 16 ≤ nI R; rw [y_le (by omega) (by omega)]; omega)]
    exact q1.trans w1
/-- the class's table of determinants -/
theorem detsX (x : Mem) : ∃ x', f_Ch_findDeterminants FN x = some x' ∧ EqOn n33 x x' ∧ ∀ R C, R < 16 → C < 16 → pop R = pop C → gL x' 33 (16 * R + C) = dD (aX x) (pop R) R C := by
  obtain ⟨x', q1, q2, q3⟩ := det9 (x0 := x) 15 FN 1 (sL x 33 0 1) (by omega) (FN_lt (by omega)) (by omega) (EqOn.rf.sL (by unfold n33; omega)) (fun R' C' h1 h2 h3 h4 => by
    have hR : R' = 0 := by omega
    subst hR
    have hC : C' = 0 := (mk8 C' h2).2.1.mp h3.symm
    subst hC
    rfl)
  refine ⟨x', ?_, q2, fun R C h1 h2 h3 => q3 R C h1 h2 h3 (Or.inl h1)⟩
  unfold f_Ch_findDeterminants
  rw [if_pos (by decide), nme]
  exact q1

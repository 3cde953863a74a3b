theorem c16 {C : Nat} (h : C < 16) : C = 0 ∨ C = 1 ∨ C = 2 ∨ C = 3 ∨ C = 4 ∨ C = 5 ∨ C = 6 ∨ C = 7 ∨ C = 8 ∨ C = 9 ∨ C = 10 ∨ C = 11 ∨ C = 12 ∨ C = 13 ∨ C = 14 ∨ C = 15 := by omega
theorem sum_mb {f : Nat → Int64} {C : Nat} (hC : C < 16) (hz : ∀ j, j < 4 → ¬ bN C j → f j = 0) : sf 0 (fun k => f (mb C k)) 0 (pop C) = sm f 4 := by
  have z0 := hz 0 (by omega)
  have z1 := hz 1 (by omega)
  have z2 := hz 2 (by omega)
  have z3 := hz 3 (by omega)
  rcases c16 hC with e | e | e | e | e | e | e | e | e | e | e | e | e | e | e | e <;> subst e <;> simp [bN] at z0 z1 z2 z3 <;> simp [sf, sm, mb, pos, pop] <;> grind
theorem exL_mb (A D : Nat → Int64) {C : Nat} (hC : C < 16) : exL A D C 4 0 0 1 = sf 0 (fun k => A (mb C k) * (if k % 2 = 0 then D (mb C k) else -(D (mb C k)))) 0 (pop C) := by
  rcases c16 hC with e | e | e | e | e | e | e | e | e | e | e | e | e | e | e | e <;> subst e <;> simp [exL, bN, sf, mb, pos, pop] <;> grind
theorem sf_t {f : Nat → Int64} : ∀ d k t, sf t f k d = t + sf 0 f k d := by
  intro d
  induction d with
  | zero => intro k t; unfold sf; grind
  | succ d ih =>
    intro k t
    unfold sf
    rw [ih (k + 1) (t + f k), ih (k + 1) (0 + f k)]
    grind
theorem tt_e {F : Nat → Nat → Int64} {s : Nat} : ∀ d t q, tt F s t q d = sf t (fun q => sf 0 (fun p => F p q) 0 s) q d := by
  intro d
  induction d with
  | zero => intro t q; rfl
  | succ d ih =>
    intro t q
    unfold tt
    rw [ih, sf_t s 0 t]
    conv => rhs; unfold sf
theorem cf_off {a : Nat → Nat → Int64} {R C i j : Nat} (h : ¬ (bN R i ∧ bN C j)) : cfX a R C i j = 0 := by
  unfold cfX
  rw [if_neg h]
theorem sf_ext2 {f g : Nat → Int64} : ∀ d k t, (∀ j, k ≤ j → j < k + d → f j = g j) → sf t f k d = sf t g k d := by
  intro d
  induction d with
  | zero => intro k t _; rfl
  | succ d ih =>
    intro k t h
    unfold sf
    rw [h k (by omega) (by omega), ih (k + 1) _ (fun j h1 h2 => h j (by omega) (by omega))]
theorem sm_0 {f : Nat → Int64} (h : ∀ j, j < 4 → f j = 0) : sm f 4 = 0 := by
  have z0 := h 0 (by omega)
  have z1 := h 1 (by omega)
  have z2 := h 2 (by omega)
  have z3 := h 3 (by omega)
  simp [sm]
  grind
/-- the sum of all cofactors, either way -/
theorem tot_e {a : Nat → Nat → Int64} {R C : Nat} (hR : R < 16) (hC : C < 16) (hp : pop R = pop C) : tt (fun p q => cfX a R C (mb R p) (mb C q)) (pop R) 0 0 (pop R) = pT a R C := by
  rw [tt_e]
  have e1 : ∀ q, sf 0 (fun p => cfX a R C (mb R p) (mb C q)) 0 (pop R) = sm (fun i => cfX a R C i (mb C q)) 4 := fun q => sum_mb (f := fun i => cfX a R C i (mb C q)) hR (fun j _ b => cf_off (fun z => b z.1))
  rw [sf_ext _ _ _ e1, hp, sum_mb (f := fun j => sm (fun i => cfX a R C i j) 4) hC (fun j _ b => sm_0 (fun i _ => cf_off (fun z => b z.2)))]
  unfold pT
  simp [sm]
  grind

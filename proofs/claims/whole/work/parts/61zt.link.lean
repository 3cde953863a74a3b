/-- a long stands for a fraction and lies within a bound -/
def rl (v : Int64) (q : Rat) (B : Int) : Prop := q = ((v.toInt : Int) : Rat) ∧ -B ≤ v.toInt ∧ v.toInt ≤ B
theorem rl_add {v v' : Int64} {q q' : Rat} {B B' : Int} (h : rl v q B) (h' : rl v' q' B') (hb : B + B' ≤ 4611686018427387904) : rl (v + v') (q + q') (B + B') := by
  obtain ⟨e, h1, h2⟩ := h
  obtain ⟨e', h1', h2'⟩ := h'
  have s : (v + v').toInt = v.toInt + v'.toInt := a64 (by omega) (by omega)
  refine ⟨?_, by omega, by omega⟩
  rw [s, e, e', Rat.intCast_add]
theorem rl_mul {v v' : Int64} {q q' : Rat} {B B' : Int} (h : rl v q B) (h' : rl v' q' B') (hb : B * B' ≤ 4611686018427387904) : rl (v * v') (q * q') (B * B') := by
  obtain ⟨e, h1, h2⟩ := h
  obtain ⟨e', h1', h2'⟩ := h'
  have mb := mul_b ⟨h1, h2⟩ ⟨h1', h2'⟩
  have s : (v * v').toInt = v.toInt * v'.toInt := m64 (by omega) (by omega)
  refine ⟨?_, by rw [s]; exact mb.1, by rw [s]; exact mb.2⟩
  rw [s, e, e', Rat.intCast_mul]
theorem rl_neg {v : Int64} {q : Rat} {B : Int} (h : rl v q B) (hb : B ≤ 4611686018427387904) : rl (-v) (-q) B := by
  obtain ⟨e, h1, h2⟩ := h
  have s : (-v).toInt = -v.toInt := by
    rw [Int64.toInt_neg]
    exact Int.bmod_eq_of_le (by omega) (by omega)
  refine ⟨?_, by omega, by omega⟩
  rw [s, e, Rat.intCast_neg]
theorem rl_mono {v : Int64} {q : Rat} {B B' : Int} (h : rl v q B) (hb : B ≤ B') : rl v q B' := by
  obtain ⟨e, h1, h2⟩ := h
  exact ⟨e, by omega, by omega⟩
theorem rl_le {v v' : Int64} {q q' : Rat} {B B' : Int} (h : rl v q B) (h' : rl v' q' B') : v ≤ v' ↔ q ≤ q' := by
  rw [Int64.le_iff_toInt_le, h.1, h'.1, Rat.intCast_le_intCast]
theorem rl_0 : rl 0 0 0 := ⟨rfl, by decide, by decide⟩
theorem rl_1 : rl 1 1 1 := ⟨rfl, by decide, by decide⟩
theorem rl_ex {a D : Nat → Int64} {a' D' : Nat → Rat} {C : Nat} {B : Int} (hB : 0 ≤ B) (ha : ∀ j, j < 4 → rl (a j) (a' j) 29) (hD : ∀ j, j < 4 → bN C j → rl (D j) (D' j) B) : ∀ (d j : Nat) (s g : Int64) (s' g' : Rat) (S : Int), j + d = 4 → 0 ≤ S → rl s s' S → rl g g' 1 → S + (d : Int) * (29 * B) ≤ 4611686018427387904 → rl (exL a D C d j s g) (exR a' D' C d j s' g') (S + (d : Int) * (29 * B)) := by
  intro d
  induction d with
  | zero =>
    intro j s g s' g' S _ _ hs _ _
    exact rl_mono hs (by omega)
  | succ d ih =>
    intro j s g s' g' S hj hS hs hg hb
    have hd : ((d + 1 : Nat) : Int) * (29 * B) = (d : Int) * (29 * B) + 29 * B := by
      rw [Int.natCast_add, Int.add_mul]
      omega
    have nn : 0 ≤ (d : Int) * (29 * B) := Int.mul_nonneg (Int.natCast_nonneg d) (by omega)
    unfold exL exR
    by_cases b : bN C j
    · rw [if_pos b, if_pos b]
      have m1 := rl_mul hg (ha j (by omega)) (by omega)
      have m2 := rl_mul m1 (hD j (by omega) b) (by omega)
      have m3 := rl_mono (rl_add hs m2 (by omega)) (show S + 1 * 29 * B ≤ S + 29 * B by omega)
      exact rl_mono (ih (j + 1) _ _ _ _ (S + 29 * B) (by omega) (by omega) m3 (rl_neg hg (by omega)) (by omega)) (by omega)
    · rw [if_neg b, if_neg b]
      exact rl_mono (ih (j + 1) _ _ _ _ S (by omega) hS hs hg (by omega)) (by omega)
def pb : Nat → Int
  | 0 => 1
  | s + 1 => 116 * pb s
theorem pb_b : ∀ s, s < 4 → 1 ≤ pb s ∧ pb s ≤ 1560896 := by decide
theorem rl_d {a : Nat → Nat → Int64} {a' : Nat → Nat → Rat} (ha : ∀ i j, i < 4 → j < 4 → rl (a i j) (a' i j) 29) : ∀ s, s ≤ 4 → ∀ R C, R < 16 → pop R = s → rl (dD a s R C) (dR a' s R C) (pb s) := by
  intro s
  induction s with
  | zero =>
    intro _ R C _ _
    exact rl_1
  | succ s ih =>
    intro hs R C hR hp
    have h0 : R ≠ 0 := fun z => by
      rw [((mk8 R hR).2.1).2 z] at hp
      omega
    have l4 : lowB R < 4 := (mk8 R hR).1.resolve_left h0
    have lb := ((mk2 R (by omega)).resolve_left h0).1
    obtain ⟨_, e2, e3⟩ := mk7 hR l4 lb
    obtain ⟨p1, p2⟩ := pb_b s (by omega)
    unfold dD dR
    refine rl_mono (rl_ex (B := pb s) (by omega) (fun j hj => ha _ j l4 hj) (fun j hj _ => ih (by omega) _ _ (by omega) (by omega)) 4 0 0 1 0 1 0 rfl (by omega) rl_0 rl_1 (by omega)) ?_
    show 0 + ((4 : Nat) : Int) * (29 * pb s) ≤ 116 * pb s
    omega
theorem rl_cf {a : Nat → Nat → Int64} {a' : Nat → Nat → Rat} (ha : ∀ i j, i < 4 → j < 4 → rl (a i j) (a' i j) 29) {R C i j : Nat} (hR : R < 16) (hi : i < 4) : rl (cfX a R C i j) (cfR a' R C i j) 1560896 := by
  unfold cfX cfR
  by_cases b : bN R i ∧ bN C j
  · rw [if_pos b, if_pos b]
    obtain ⟨_, e2, e3⟩ := mk7 hR hi b.1
    have p4 := (mk8 R hR).2.2
    have g := rl_mono (rl_d ha (pop (R - 2 ^ i)) (by omega) (R - 2 ^ i) (C - 2 ^ j) (by omega) rfl) (pb_b _ (show pop (R - 2 ^ i) < 4 by omega)).2
    by_cases y : (pop (R % 2 ^ i) + pop (C % 2 ^ j)) % 2 = 0
    · rw [if_pos y, if_pos y]
      exact g
    · rw [if_neg y, if_neg y]
      exact rl_neg g (by omega)
  · rw [if_neg b, if_neg b]
    exact rl_mono rl_0 (by omega)
theorem rl_sum {f : Nat → Int64} {f' : Nat → Rat} {B : Int} (hB : 0 ≤ B) : ∀ k, (∀ j, j < k → rl (f j) (f' j) B) → (k : Int) * B ≤ 4611686018427387904 → rl (sm f k) (sr f' k) ((k : Int) * B) := by
  intro k
  induction k with
  | zero =>
    intro _ _
    exact rl_mono rl_0 (by omega)
  | succ k ih =>
    intro h hb
    have hd : ((k + 1 : Nat) : Int) * B = (k : Int) * B + B := by
      rw [Int.natCast_add, Int.add_mul]
      omega
    have nn : 0 ≤ (k : Int) * B := Int.mul_nonneg (Int.natCast_nonneg k) hB
    rw [hd] at hb ⊢
    exact rl_add (ih (fun j hj => h j (by omega)) (by omega)) (h k (by omega)) hb
theorem sr_ext {f g : Nat → Rat} : ∀ n, (∀ j, j < n → f j = g j) → sr f n = sr g n := by
  intro n
  induction n with
  | zero => intro _; rfl
  | succ n ih =>
    intro h
    show sr f n + f n = sr g n + g n
    rw [ih (fun j hj => h j (by omega)), h n (by omega)]
theorem sr_mul {f : Nat → Rat} {p : Rat} : ∀ n, sr (fun k => p * f k) n = p * sr f n := by
  intro n
  induction n with
  | zero => show (0 : Rat) = p * 0; grind
  | succ n ih =>
    show sr (fun k => p * f k) n + p * f n = p * (sr f n + f n)
    rw [ih]
    grind
theorem sr_cut {f : Nat → Rat} {c : Nat} : ∀ d, (∀ j, c ≤ j → j < c + d → f j = 0) → sr f (c + d) = sr f c := by
  intro d
  induction d with
  | zero => intro _; rfl
  | succ d ih =>
    intro h
    show sr f (c + d) + f (c + d) = sr f c
    rw [ih (fun j h1 h2 => h j h1 (by omega)), h (c + d) (by omega) (by omega)]
    grind
def mkXQ (C c j : Nat) : Bool := !(decide (C < 2 ^ c) && decide (c ≤ j)) || !(decide (bN C j))
theorem mkXa : ∀ C, C < 16 → ∀ c, c < 5 → ∀ j, j < 4 → mkXQ C c j = true := by decide +kernel
theorem mkXc {C c j : Nat} (hc : c ≤ 4) (h : C < 2 ^ c) (hj : j < 4) (hcj : c ≤ j) : ¬ bN C j := by
  have p := p2_16 hc
  have k := mkXa C (by omega) c (by omega) j hj
  unfold mkXQ at k
  rw [decide_eq_true h, decide_eq_true hcj] at k
  simpa using k

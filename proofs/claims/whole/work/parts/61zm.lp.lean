/-- sums of fractions -/
def sr (f : Nat → Rat) : Nat → Rat
  | 0 => 0
  | k + 1 => sr f k + f k
theorem sr_zero {f : Nat → Rat} : ∀ n, (∀ k, k < n → f k = 0) → sr f n = 0 := by
  intro n
  induction n with
  | zero => intro _; rfl
  | succ n ih =>
    intro h
    show sr f n + f n = 0
    rw [ih (fun k hk => h k (by omega)), h n (by omega)]
    grind
theorem sr_one {f : Nat → Rat} {j : Nat} : ∀ n, j < n → (∀ k, k < n → k ≠ j → f k = 0) → sr f n = f j := by
  intro n
  induction n with
  | zero => intro h; omega
  | succ n ih =>
    intro h1 h2
    show sr f n + f n = f j
    by_cases c : j = n
    · subst c
      rw [sr_zero j (fun k hk => h2 k (by omega) (by omega))]
      grind
    · rw [ih (by omega) (fun k hk => h2 k (by omega)), h2 n (by omega) (by omega)]
      grind
theorem sr_two {f : Nat → Rat} {j e : Nat} (hne : j ≠ e) : ∀ n, j < n → e < n → (∀ k, k < n → k ≠ j → k ≠ e → f k = 0) → sr f n = f j + f e := by
  intro n
  induction n with
  | zero => intro h; omega
  | succ n ih =>
    intro h1 h2 h3
    show sr f n + f n = f j + f e
    by_cases c : j = n
    · subst c
      rw [sr_one (j := e) j (by omega) (fun k hk h => h3 k (by omega) (by omega) h)]
      grind
    · by_cases d : e = n
      · subst d
        rw [sr_one (j := j) e (by omega) (fun k hk h => h3 k (by omega) h (by omega))]
      · rw [ih (by omega) (by omega) (fun k hk => h3 k (by omega)), h3 n (by omega) (by omega) (by omega)]
        grind
theorem sr_lin {f g : Nat → Rat} {p q : Rat} : ∀ n, sr (fun k => p * f k + q * g k) n = p * sr f n + q * sr g n := by
  intro n
  induction n with
  | zero => show (0 : Rat) = p * 0 + q * 0; grind
  | succ n ih =>
    show sr (fun k => p * f k + q * g k) n + (p * f n + q * g n) = p * (sr f n + f n) + q * (sr g n + g n)
    rw [ih]
    grind
theorem sr_nn {f : Nat → Rat} : ∀ n, (∀ k, k < n → 0 ≤ f k) → 0 ≤ sr f n := by
  intro n
  induction n with
  | zero => intro _; show (0 : Rat) ≤ 0; grind
  | succ n ih =>
    intro h
    show 0 ≤ sr f n + f n
    have h1 := ih (fun k hk => h k (by omega))
    have h2 := h n (by omega)
    grind
theorem sr_ge {f : Nat → Rat} {e : Nat} : ∀ n, e < n → (∀ k, k < n → k ≠ e → 0 ≤ f k) → f e ≤ sr f n := by
  intro n
  induction n with
  | zero => intro h; omega
  | succ n ih =>
    intro h1 h2
    show f e ≤ sr f n + f n
    by_cases c : e = n
    · subst c
      have h3 := sr_nn (f := f) e (fun k hk => h2 k (by omega) (by omega))
      grind
    · have h3 := ih (by omega) (fun k hk => h2 k (by omega))
      have h4 := h2 n (by omega) (by omega)
      grind
def dot (X Y : Nat → Rat) : Rat := sr (fun k => X k * Y k) 10
/-- the answers of the programme: choices at 0 .. 3, what is left at 4 .. 7, the right side at 8, the sum at 9 -/
def inL (a : Nat → Nat → Rat) (X : Nat → Rat) : Prop := (∀ i, i < 4 → X (4 + i) = X 8 - sr (fun j => a i j * X j) 4) ∧ X 9 = sr X 4
def inP (a : Nat → Nat → Rat) (Y : Nat → Rat) : Prop := ∀ X, inL a X → dot X Y = 0
theorem inL_lin {a : Nat → Nat → Rat} {X X' : Nat → Rat} (p q : Rat) (h : inL a X) (h' : inL a X') : inL a (fun k => p * X k + q * X' k) := by
  refine ⟨fun i hi => ?_, ?_⟩
  · have e : sr (fun j => a i j * (p * X j + q * X' j)) 4 = p * sr (fun j => a i j * X j) 4 + q * sr (fun j => a i j * X' j) 4 := by
      rw [← sr_lin]
      congr 1
      funext j
      grind
    show p * X (4 + i) + q * X' (4 + i) = (p * X 8 + q * X' 8) - sr (fun j => a i j * (p * X j + q * X' j)) 4
    rw [e, h.1 i hi, h'.1 i hi]
    grind
  · show p * X 9 + q * X' 9 = sr (fun k => p * X k + q * X' k) 4
    rw [h.2, h'.2, ← sr_lin]
theorem inP_lin {a : Nat → Nat → Rat} {Y Y' : Nat → Rat} (p q : Rat) (h : inP a Y) (h' : inP a Y') : inP a (fun k => p * Y k + q * Y' k) := by
  intro X hX
  have h1 : sr (fun k => X k * Y k) 10 = 0 := h X hX
  have h2 : sr (fun k => X k * Y' k) 10 = 0 := h' X hX
  have e : (fun k => X k * (p * Y k + q * Y' k)) = fun k => p * (X k * Y k) + q * (X k * Y' k) := by
    funext k
    grind
  show sr (fun k => X k * (p * Y k + q * Y' k)) 10 = 0
  rw [e, sr_lin, h1, h2]
  grind
/-- a basis, with its columns and its rows -/
def bas (a : Nat → Nat → Rat) (N : Nat → Bool) (P Q : Nat → Nat → Rat) : Prop := N 8 = true ∧ N 9 = false ∧ (∀ j, j < 10 → N j = true → inL a (P j) ∧ ∀ k, k < 10 → N k = true → P j k = if k = j then 1 else 0) ∧ ∀ e, e < 10 → N e = false → inP a (Q e) ∧ ∀ k, k < 10 → N k = false → Q e k = if k = e then 1 else 0
theorem tf_ne {N : Nat → Bool} {j e : Nat} (nj : N j = true) (ne : N e = false) : j ≠ e := by
  intro c
  subst c
  rw [nj] at ne
  cases ne
theorem bas_pq {a : Nat → Nat → Rat} {N : Nat → Bool} {P Q : Nat → Nat → Rat} (h : bas a N P Q) {j e : Nat} (hj : j < 10) (he : e < 10) (nj : N j = true) (ne : N e = false) : P j e = - Q e j := by
  obtain ⟨_, _, h1, h2⟩ := h
  have d : sr (fun k => P j k * Q e k) 10 = 0 := (h2 e he ne).1 (P j) (h1 j hj nj).1
  have s := sr_two (f := fun k => P j k * Q e k) (tf_ne nj ne) 10 hj he (fun k hk k1 k2 => by
    show P j k * Q e k = 0
    cases b : N k with
    | true => rw [(h1 j hj nj).2 k hk b, if_neg k1]; grind
    | false => rw [(h2 e he ne).2 k hk b, if_neg k2]; grind)
  have e1 := (h1 j hj nj).2 j hj nj
  have e2 := (h2 e he ne).2 e he ne
  rw [if_pos rfl] at e1 e2
  rw [d] at s
  have s' : 0 = P j j * Q e j + P j e * Q e e := s
  rw [e1, e2] at s'
  grind
def swp (N : Nat → Bool) (j e k : Nat) : Bool := if k = j then false else if k = e then true else N k
theorem swp_t {N : Nat → Bool} {j e i : Nat} (h : swp N j e i = true) (c : i ≠ e) : i ≠ j ∧ N i = true := by
  unfold swp at h
  by_cases d : i = j
  · rw [if_pos d] at h; cases h
  · rw [if_neg d, if_neg c] at h
    exact ⟨d, h⟩
theorem swp_f {N : Nat → Bool} {j e i : Nat} (h : swp N j e i = false) (c : i ≠ j) : i ≠ e ∧ N i = false := by
  unfold swp at h
  rw [if_neg c] at h
  by_cases d : i = e
  · rw [if_pos d] at h; cases h
  · rw [if_neg d] at h
    exact ⟨d, h⟩
theorem pivot {a : Nat → Nat → Rat} {N : Nat → Bool} {P Q : Nat → Nat → Rat} (h : bas a N P Q) {j e : Nat} (hj : j < 8) (he : e < 8) (nj : N j = true) (ne : N e = false) (hp : P j e ≠ 0) : ∃ P' Q', bas a (swp N j e) P' Q' := by
  have hne := tf_ne nj ne
  have hq : Q e j ≠ 0 := by
    have q := bas_pq h (show j < 10 by omega) (show e < 10 by omega) nj ne
    grind
  obtain ⟨b1, b2, h1, h2⟩ := h
  refine ⟨fun k => if k = e then fun i => (1 / P j e) * P j i + 0 * P j i else fun i => 1 * P k i + (-(P k e / P j e)) * P j i, fun k => if k = j then fun i => (1 / Q e j) * Q e i + 0 * Q e i else fun i => 1 * Q k i + (-(Q k j / Q e j)) * Q e i, ?_, ?_, ?_, ?_⟩
  · unfold swp
    rw [if_neg (by omega), if_neg (by omega)]
    exact b1
  · unfold swp
    rw [if_neg (by omega), if_neg (by omega)]
    exact b2
  · intro k hk nk
    by_cases c : k = e
    · simp only [if_pos c]
      refine ⟨inL_lin _ _ (h1 j (by omega) nj).1 (h1 j (by omega) nj).1, fun i hi ni => ?_⟩
      by_cases d : i = k
      · rw [if_pos d, d, c]
        grind
      · obtain ⟨i1, i2⟩ := swp_t ni (show i ≠ e by omega)
        rw [if_neg d, (h1 j (by omega) nj).2 i hi i2, if_neg i1]
        grind
    · obtain ⟨k1, k2⟩ := swp_t nk c
      simp only [if_neg c]
      refine ⟨inL_lin _ _ (h1 k hk k2).1 (h1 j (by omega) nj).1, fun i hi ni => ?_⟩
      by_cases d : i = e
      · rw [if_neg (show ¬ i = k by omega), d]
        grind
      · obtain ⟨i1, i2⟩ := swp_t ni d
        rw [(h1 k hk k2).2 i hi i2, (h1 j (by omega) nj).2 i hi i2, if_neg i1]
        grind
  · intro k hk nk
    by_cases c : k = j
    · simp only [if_pos c]
      refine ⟨inP_lin _ _ (h2 e (by omega) ne).1 (h2 e (by omega) ne).1, fun i hi ni => ?_⟩
      by_cases d : i = k
      · rw [if_pos d, d, c]
        grind
      · obtain ⟨i1, i2⟩ := swp_f ni (show i ≠ j by omega)
        rw [if_neg d, (h2 e (by omega) ne).2 i hi i2, if_neg i1]
        grind
    · obtain ⟨k1, k2⟩ := swp_f nk c
      simp only [if_neg c]
      refine ⟨inP_lin _ _ (h2 k hk k2).1 (h2 e (by omega) ne).1, fun i hi ni => ?_⟩
      by_cases d : i = j
      · rw [if_neg (show ¬ i = k by omega), d]
        grind
      · obtain ⟨i1, i2⟩ := swp_f ni d
        rw [(h2 k hk k2).2 i hi i2, (h2 e (by omega) ne).2 i hi i2, if_neg i1]
        grind
def cnt (N : Nat → Bool) : Rat := sr (fun k => if N k = true then 1 else 0) 8
theorem cnt_swp {N : Nat → Bool} {j e : Nat} (hj : j < 8) (he : e < 8) (nj : N j = true) (ne : N e = false) : cnt (swp N j e) = cnt N := by
  have hne := tf_ne nj ne
  have l := sr_lin (f := fun k => if swp N j e k = true then (1 : Rat) else 0) (g := fun k => if N k = true then (1 : Rat) else 0) (p := 1) (q := -1) 8
  have s := sr_two (f := fun k => 1 * (if swp N j e k = true then (1 : Rat) else 0) + (-1) * (if N k = true then (1 : Rat) else 0)) hne 8 hj he (fun k hk k1 k2 => by
    show 1 * (if swp N j e k = true then (1 : Rat) else 0) + (-1) * (if N k = true then (1 : Rat) else 0) = 0
    have q : swp N j e k = N k := by
      unfold swp
      rw [if_neg k1, if_neg k2]
    rw [q]
    grind)
  have q1 : swp N j e j = false := by
    unfold swp
    rw [if_pos rfl]
  have q2 : swp N j e e = true := by
    unfold swp
    rw [if_neg (Ne.symm hne), if_pos rfl]
  rw [s] at l
  simp only [q1, q2, nj, ne] at l
  unfold cnt
  grind

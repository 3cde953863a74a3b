theorem td_sh {N sh C : Int} (hs : 1 ≤ sh) (h1 : -(C * sh) ≤ N) (h2 : N ≤ C * sh) : -C ≤ N.tdiv sh ∧ N.tdiv sh ≤ C := by
  have k : ∀ M : Int, 0 ≤ M → M ≤ C * sh → M.tdiv sh ≤ C := by
    intro M h0 h3
    rw [Int.tdiv_eq_ediv_of_nonneg h0]
    exact Int.le_of_mul_le_mul_right (Int.le_trans (Int.ediv_mul_le M (by omega)) h3) (by omega)
  obtain ⟨t1, t2⟩ := tdw (a := N) hs
  by_cases c : 0 ≤ N
  · have := k N c h2
    have := t1 c
    omega
  · have k2 := k (-N) (by omega) (by omega)
    rw [Int.neg_tdiv] at k2
    have := t2 (by omega)
    omega
theorem bo_int {P1 P2 Q1 Q2 w1 w2 dx dy B : Int} (h1 : -B ≤ P1 ∧ P1 ≤ B) (h2 : -B ≤ P2 ∧ P2 ≤ B) (h3 : -B ≤ Q1 ∧ Q1 ≤ B) (h4 : -B ≤ Q2 ∧ Q2 ≤ B) (hw1 : 1 ≤ w1) (hw2 : 1 ≤ w2) (hA : 0 < dx * dx + dy * dy) : -(3 * B) ≤ (2 * ((P2 * w1 - P1 * w2) * dx + (Q2 * w1 - Q1 * w2) * dy) * dx).tdiv ((w1 + w2) * (dx * dx + dy * dy)) ∧ (2 * ((P2 * w1 - P1 * w2) * dx + (Q2 * w1 - Q1 * w2) * dy) * dx).tdiv ((w1 + w2) * (dx * dx + dy * dy)) ≤ 3 * B := by
  have m1 := mul_b (a := P2) (b := w1) (n := B) (k := w1) h2 (by omega)
  have m2 := mul_b (a := P1) (b := w2) (n := B) (k := w2) h1 (by omega)
  have m3 := mul_b (a := Q2) (b := w1) (n := B) (k := w1) h4 (by omega)
  have m4 := mul_b (a := Q1) (b := w2) (n := B) (k := w2) h3 (by omega)
  have hB : 0 ≤ B := by omega
  have hM1 := Int.mul_nonneg hB (show 0 ≤ w1 by omega)
  have hM2 := Int.mul_nonneg hB (show 0 ≤ w2 by omega)
  have x0 : 0 ≤ dx * dx := by
    have := (sqb (a := dx) (n := if 0 ≤ dx then dx else -dx) (by split <;> omega) (by split <;> omega)).1
    exact this
  have y0 : 0 ≤ dy * dy := by
    have := (sqb (a := dy) (n := if 0 ≤ dy then dy else -dy) (by split <;> omega) (by split <;> omega)).1
    exact this
  have s1 : 0 ≤ (dx - dy) * (dx - dy) := (sqb (a := dx - dy) (n := if 0 ≤ dx - dy then dx - dy else -(dx - dy)) (by split <;> omega) (by split <;> omega)).1
  have s2 : 0 ≤ (dx + dy) * (dx + dy) := (sqb (a := dx + dy) (n := if 0 ≤ dx + dy then dx + dy else -(dx + dy)) (by split <;> omega) (by split <;> omega)).1
  have s1' : (dx - dy) * (dx - dy) = dx * dx + dy * dy - 2 * dx * dy := by grind
  have s2' : (dx + dy) * (dx + dy) = dx * dx + dy * dy + 2 * dx * dy := by grind
  rw [s1'] at s1; rw [s2'] at s2
  generalize hα : P2 * w1 - P1 * w2 = α
  generalize hβ : Q2 * w1 - Q1 * w2 = β
  have hM : (B * w1 + B * w2) = B * (w1 + w2) := by grind
  have n1 := mul_b (a := α) (b := dx * dx) (n := B * w1 + B * w2) (k := dx * dx) (by omega) (by omega)
  have n2 := mul_b (a := β) (b := 2 * dx * dy) (n := B * w1 + B * w2) (k := dx * dx + dy * dy) (by omega) (by omega)
  have n3 : (B * w1 + B * w2) * (dx * dx) ≤ (B * w1 + B * w2) * (dx * dx + dy * dy) := Int.mul_le_mul_of_nonneg_left (by omega) (by omega)
  have e1 : 2 * (α * dx + β * dy) * dx = 2 * (α * (dx * dx)) + β * (2 * dx * dy) := by grind
  have e2 : 3 * B * ((w1 + w2) * (dx * dx + dy * dy)) = 3 * ((B * w1 + B * w2) * (dx * dx + dy * dy)) := by grind
  have hsh : 1 ≤ (w1 + w2) * (dx * dx + dy * dy) := by
    have := Int.mul_le_mul (show 1 ≤ w1 + w2 by omega) (show 1 ≤ dx * dx + dy * dy by omega) (by omega) (by omega)
    omega
  exact td_sh hsh (by rw [e1, e2]; omega) (by rw [e1, e2]; omega)
theorem lo_int {P w1 w2 B : Int} (h : -(2 * B) ≤ P ∧ P ≤ 2 * B) (hw1 : 1 ≤ w1) (hw2 : 1 ≤ w2) : -(2 * B) ≤ (P * w1).tdiv (w1 + w2) ∧ (P * w1).tdiv (w1 + w2) ≤ 2 * B := by
  have m1 := mul_b (a := P) (b := w1) (n := 2 * B) (k := w1) h (by omega)
  have hB : 0 ≤ 2 * B := by omega
  have m2 := Int.mul_nonneg hB (show 0 ≤ w2 by omega)
  have e : 2 * B * (w1 + w2) = 2 * B * w1 + 2 * B * w2 := by grind
  exact td_sh (by omega) (by rw [e]; omega) (by rw [e]; omega)
theorem wadd {a b : Int32} (ha : 1 ≤ a.toInt ∧ a.toInt ≤ 50) (hb : 1 ≤ b.toInt ∧ b.toInt ≤ 50) : (a + b).toInt64 = a.toInt64 + b.toInt64 := by
  apply Int64.toInt_inj.mp
  rw [Int32.toInt_toInt64, a32 (by omega) (by omega), a64, Int32.toInt_toInt64, Int32.toInt_toInt64] <;> rw [Int32.toInt_toInt64, Int32.toInt_toInt64] <;> omega
/-- the product that tells whether two tops near each other, without wrapping -/
theorem k_e {p1 p2 q1 q2 dx dy w1 w2 : Int64} {B : Int} (hB : B ≤ 199731200) (h1 : -B ≤ p1.toInt ∧ p1.toInt ≤ B) (h2 : -B ≤ p2.toInt ∧ p2.toInt ≤ B) (h3 : -B ≤ q1.toInt ∧ q1.toInt ≤ B) (h4 : -B ≤ q2.toInt ∧ q2.toInt ≤ B) (hw1 : 1 ≤ w1.toInt ∧ w1.toInt ≤ 50) (hw2 : 1 ≤ w2.toInt ∧ w2.toInt ≤ 50) (hx : -3900 ≤ dx.toInt ∧ dx.toInt ≤ 3900) (hy : -3900 ≤ dy.toInt ∧ dy.toInt ≤ 3900) : ((((p2 * w1) - (p1 * w2)) * dx) + (((q2 * w1) - (q1 * w2)) * dy)).toInt = (p2.toInt * w1.toInt - p1.toInt * w2.toInt) * dx.toInt + (q2.toInt * w1.toInt - q1.toInt * w2.toInt) * dy.toInt ∧ -160000000000000 ≤ (p2.toInt * w1.toInt - p1.toInt * w2.toInt) * dx.toInt + (q2.toInt * w1.toInt - q1.toInt * w2.toInt) * dy.toInt ∧ (p2.toInt * w1.toInt - p1.toInt * w2.toInt) * dx.toInt + (q2.toInt * w1.toInt - q1.toInt * w2.toInt) * dy.toInt ≤ 160000000000000 := by
  have b : ∀ {p w : Int64}, (-B ≤ p.toInt ∧ p.toInt ≤ B) → (1 ≤ w.toInt ∧ w.toInt ≤ 50) → (p * w).toInt = p.toInt * w.toInt ∧ -9986560000 ≤ p.toInt * w.toInt ∧ p.toInt * w.toInt ≤ 9986560000 := by
    intro p w hp hw
    have := mul_b (a := p.toInt) (b := w.toInt) (n := 199731200) (k := 50) (by omega) (by omega)
    exact ⟨m64 (by omega) (by omega), by omega, by omega⟩
  obtain ⟨a1, a2, a3⟩ := b h2 hw1
  obtain ⟨b1, b2, b3⟩ := b h1 hw2
  obtain ⟨c1, c2, c3⟩ := b h4 hw1
  obtain ⟨d1, d2, d3⟩ := b h3 hw2
  have e1 : ((p2 * w1) - (p1 * w2)).toInt = p2.toInt * w1.toInt - p1.toInt * w2.toInt := by rw [s64, a1, b1] <;> rw [a1, b1] <;> omega
  have e2 : ((q2 * w1) - (q1 * w2)).toInt = q2.toInt * w1.toInt - q1.toInt * w2.toInt := by rw [s64, c1, d1] <;> rw [c1, d1] <;> omega
  have f1 := mul_b (a := p2.toInt * w1.toInt - p1.toInt * w2.toInt) (b := dx.toInt) (n := 19973120000) (k := 3900) (by omega) hx
  have f2 := mul_b (a := q2.toInt * w1.toInt - q1.toInt * w2.toInt) (b := dy.toInt) (n := 19973120000) (k := 3900) (by omega) hy
  have g1 : (((p2 * w1) - (p1 * w2)) * dx).toInt = (p2.toInt * w1.toInt - p1.toInt * w2.toInt) * dx.toInt := by rw [m64, e1] <;> rw [e1] <;> omega
  have g2 : (((q2 * w1) - (q1 * w2)) * dy).toInt = (q2.toInt * w1.toInt - q1.toInt * w2.toInt) * dy.toInt := by rw [m64, e2] <;> rw [e2] <;> omega
  refine ⟨?_, by omega, by omega⟩
  rw [a64, g1, g2] <;> rw [g1, g2] <;> omega
theorem ap_e {dx dy : Int64} (hx : -3900 ≤ dx.toInt ∧ dx.toInt ≤ 3900) (hy : -3900 ≤ dy.toInt ∧ dy.toInt ≤ 3900) : ((dx * dx) + (dy * dy)).toInt = dx.toInt * dx.toInt + dy.toInt * dy.toInt ∧ 0 ≤ dx.toInt * dx.toInt + dy.toInt * dy.toInt ∧ dx.toInt * dx.toInt + dy.toInt * dy.toInt ≤ 30420000 := by
  have u1 := sqb (a := dx.toInt) (n := 3900) hx.1 hx.2
  have u2 := sqb (a := dy.toInt) (n := 3900) hy.1 hy.2
  have v1 : (dx * dx).toInt = dx.toInt * dx.toInt := m64 (by omega) (by omega)
  have v2 : (dy * dy).toInt = dy.toInt * dy.toInt := m64 (by omega) (by omega)
  refine ⟨?_, by omega, by omega⟩
  rw [a64, v1, v2] <;> rw [v1, v2] <;> omega
theorem sh_e {dx dy w1 w2 : Int64} (hw1 : 1 ≤ w1.toInt ∧ w1.toInt ≤ 50) (hw2 : 1 ≤ w2.toInt ∧ w2.toInt ≤ 50) (hx : -3900 ≤ dx.toInt ∧ dx.toInt ≤ 3900) (hy : -3900 ≤ dy.toInt ∧ dy.toInt ≤ 3900) (hA : 0 < dx.toInt * dx.toInt + dy.toInt * dy.toInt) : ((w1 + w2) * ((dx * dx) + (dy * dy))).toInt = (w1.toInt + w2.toInt) * (dx.toInt * dx.toInt + dy.toInt * dy.toInt) ∧ 1 ≤ (w1.toInt + w2.toInt) * (dx.toInt * dx.toInt + dy.toInt * dy.toInt) := by
  obtain ⟨a1, a2, a3⟩ := ap_e hx hy
  have e1 : (w1 + w2).toInt = w1.toInt + w2.toInt := a64 (by omega) (by omega)
  have b1 := mul_b (a := w1.toInt + w2.toInt) (b := dx.toInt * dx.toInt + dy.toInt * dy.toInt) (n := 100) (k := 30420000) (by omega) (by omega)
  have b2 := Int.mul_le_mul (show 1 ≤ w1.toInt + w2.toInt by omega) (show 1 ≤ dx.toInt * dx.toInt + dy.toInt * dy.toInt by omega) (by omega) (by omega)
  refine ⟨?_, by omega⟩
  rw [m64, e1, a1] <;> rw [e1, a1] <;> omega
/-- what a bounce gives is at most thrice the swing -/
theorem gain_b {p1 p2 q1 q2 dx dy w1 w2 : Int64} {B : Int} (hB : B ≤ 199731200) (h1 : -B ≤ p1.toInt ∧ p1.toInt ≤ B) (h2 : -B ≤ p2.toInt ∧ p2.toInt ≤ B) (h3 : -B ≤ q1.toInt ∧ q1.toInt ≤ B) (h4 : -B ≤ q2.toInt ∧ q2.toInt ≤ B) (hw1 : 1 ≤ w1.toInt ∧ w1.toInt ≤ 50) (hw2 : 1 ≤ w2.toInt ∧ w2.toInt ≤ 50) (hx : -3900 ≤ dx.toInt ∧ dx.toInt ≤ 3900) (hy : -3900 ≤ dy.toInt ∧ dy.toInt ≤ 3900) (hA : 0 < dx.toInt * dx.toInt + dy.toInt * dy.toInt) (k : Int64) (hk : k = (((p2 * w1) - (p1 * w2)) * dx) + (((q2 * w1) - (q1 * w2)) * dy)) : (-(3 * B) ≤ ((((2 : Int64) * k) * dx) / ((w1 + w2) * ((dx * dx) + (dy * dy)))).toInt ∧ ((((2 : Int64) * k) * dx) / ((w1 + w2) * ((dx * dx) + (dy * dy)))).toInt ≤ 3 * B) ∧ (-(3 * B) ≤ ((((2 : Int64) * k) * dy) / ((w1 + w2) * ((dx * dx) + (dy * dy)))).toInt ∧ ((((2 : Int64) * k) * dy) / ((w1 + w2) * ((dx * dx) + (dy * dy)))).toInt ≤ 3 * B) := by
  obtain ⟨k1, k2, k3⟩ := k_e hB h1 h2 h3 h4 hw1 hw2 hx hy
  rw [← hk] at k1
  obtain ⟨s1, s2⟩ := sh_e hw1 hw2 hx hy hA
  have t2 : (2 : Int64).toInt = 2 := rfl
  have e1 : ((2 : Int64) * k).toInt = 2 * ((p2.toInt * w1.toInt - p1.toInt * w2.toInt) * dx.toInt + (q2.toInt * w1.toInt - q1.toInt * w2.toInt) * dy.toInt) := by rw [m64, t2, k1] <;> rw [t2, k1] <;> omega
  have f1 := mul_b (a := 2 * ((p2.toInt * w1.toInt - p1.toInt * w2.toInt) * dx.toInt + (q2.toInt * w1.toInt - q1.toInt * w2.toInt) * dy.toInt)) (b := dx.toInt) (n := 320000000000000) (k := 3900) (by omega) hx
  have f2 := mul_b (a := 2 * ((p2.toInt * w1.toInt - p1.toInt * w2.toInt) * dx.toInt + (q2.toInt * w1.toInt - q1.toInt * w2.toInt) * dy.toInt)) (b := dy.toInt) (n := 320000000000000) (k := 3900) (by omega) hy
  have e2 : (((2 : Int64) * k) * dx).toInt = 2 * ((p2.toInt * w1.toInt - p1.toInt * w2.toInt) * dx.toInt + (q2.toInt * w1.toInt - q1.toInt * w2.toInt) * dy.toInt) * dx.toInt := by rw [m64, e1] <;> rw [e1] <;> omega
  have e3 : (((2 : Int64) * k) * dy).toInt = 2 * ((p2.toInt * w1.toInt - p1.toInt * w2.toInt) * dx.toInt + (q2.toInt * w1.toInt - q1.toInt * w2.toInt) * dy.toInt) * dy.toInt := by rw [m64, e1] <;> rw [e1] <;> omega
  constructor
  · rw [d64 (by rw [s1]; exact s2), e2, s1]
    exact bo_int h1 h2 h3 h4 hw1.1 hw2.1 hA
  · rw [d64 (by rw [s1]; exact s2), e3, s1]
    have := bo_int h3 h4 h1 h2 hw1.1 hw2.1 (dx := dy.toInt) (dy := dx.toInt) (by omega)
    rw [show dy.toInt * dy.toInt + dx.toInt * dx.toInt = dx.toInt * dx.toInt + dy.toInt * dy.toInt by omega, show (q2.toInt * w1.toInt - q1.toInt * w2.toInt) * dy.toInt + (p2.toInt * w1.toInt - p1.toInt * w2.toInt) * dx.toInt = (p2.toInt * w1.toInt - p1.toInt * w2.toInt) * dx.toInt + (q2.toInt * w1.toInt - q1.toInt * w2.toInt) * dy.toInt by omega] at this
    exact this
theorem lock_b {p w1 w2 : Int64} {B : Int} (hB : B ≤ 199731200) (h : -(2 * B) ≤ p.toInt ∧ p.toInt ≤ 2 * B) (hw1 : 1 ≤ w1.toInt ∧ w1.toInt ≤ 50) (hw2 : 1 ≤ w2.toInt ∧ w2.toInt ≤ 50) : -(2 * B) ≤ ((p * w1) / (w1 + w2)).toInt ∧ ((p * w1) / (w1 + w2)).toInt ≤ 2 * B := by
  have e1 : (w1 + w2).toInt = w1.toInt + w2.toInt := a64 (by omega) (by omega)
  have b1 := mul_b (a := p.toInt) (b := w1.toInt) (n := 400000000) (k := 50) (by omega) (by omega)
  have e2 : (p * w1).toInt = p.toInt * w1.toInt := m64 (by omega) (by omega)
  rw [d64 (by rw [e1]; omega), e1, e2]
  exact lo_int h hw1.1 hw2.1

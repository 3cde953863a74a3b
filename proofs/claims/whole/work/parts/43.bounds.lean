theorem sqb {a n : Int} (h1 : -n ≤ a) (h2 : a ≤ n) : 0 ≤ a * a ∧ a * a ≤ n * n := by
  have p := Int.mul_nonneg (show 0 ≤ n - a by omega) (show 0 ≤ n + a by omega)
  have e : (n - a) * (n + a) = n * n - a * a := by grind
  rw [e] at p
  refine ⟨?_, by omega⟩
  by_cases c : 0 ≤ a
  · exact Int.mul_nonneg c c
  · have := Int.mul_nonneg (show 0 ≤ -a by omega) (show 0 ≤ -a by omega)
    rw [Int.neg_mul_neg] at this; exact this
theorem sq_lt {a n : Int} (hn : 0 ≤ n) (h : a * a < (n + 1) * (n + 1)) : -n ≤ a ∧ a ≤ n := by
  constructor
  · by_cases c : -n ≤ a
    · exact c
    · have p := Int.mul_le_mul (show n + 1 ≤ -a by omega) (show n + 1 ≤ -a by omega) (by omega) (by omega)
      rw [Int.neg_mul_neg] at p; omega
  · by_cases c : a ≤ n
    · exact c
    · have p := Int.mul_le_mul (show n + 1 ≤ a by omega) (show n + 1 ≤ a by omega) (by omega) (by omega)
      omega
theorem tdw {a w : Int} (hw : 1 ≤ w) : (0 ≤ a → 0 ≤ a.tdiv w ∧ a.tdiv w ≤ a ∧ a < (a.tdiv w + 1) * w) ∧ (a ≤ 0 → a ≤ a.tdiv w ∧ a.tdiv w ≤ 0 ∧ (a.tdiv w - 1) * w < a) := by
  have k : ∀ b : Int, 0 ≤ b → 0 ≤ b.tdiv w ∧ b.tdiv w ≤ b ∧ b < (b.tdiv w + 1) * w := by
    intro b hb
    rw [Int.tdiv_eq_ediv_of_nonneg hb]
    refine ⟨Int.ediv_nonneg hb (by omega), Int.ediv_le_self _ hb, Int.lt_ediv_add_one_mul_self b (by omega)⟩
  refine ⟨k a, fun h => ?_⟩
  obtain ⟨k1, k2, k3⟩ := k (-a) (by omega)
  rw [Int.neg_tdiv] at k1 k2 k3
  refine ⟨by omega, by omega, ?_⟩
  have e : (a.tdiv w - 1) * w = -((-(a.tdiv w) + 1) * w) := by grind
  omega
theorem bm64 {a : Int} (h1 : -9223372036854775808 ≤ a) (h2 : a ≤ 9223372036854775807) : a.bmod (2 ^ 64) = a := by
  rw [Int.bmod_def]; omega
theorem bm32 {a : Int} (h1 : -2147483648 ≤ a) (h2 : a ≤ 2147483647) : a.bmod (2 ^ 32) = a := by
  rw [Int.bmod_def]; omega
theorem td_le {a w : Int} (hw : 1 ≤ w) {n : Int} (h1 : -n ≤ a) (h2 : a ≤ n) : -n ≤ a.tdiv w ∧ a.tdiv w ≤ n := by
  obtain ⟨k1, k2⟩ := tdw (a := a) hw
  by_cases c : 0 ≤ a
  · have := k1 c; omega
  · have := k2 (by omega); omega
theorem d64 {a b : Int64} (hb : 1 ≤ b.toInt) : (a / b).toInt = a.toInt.tdiv b.toInt := by
  have h1 := a.le_toInt
  have h2 := a.toInt_le
  have h3 : -9223372036854775808 ≤ a.toInt := h1
  have h4 : a.toInt ≤ 9223372036854775807 := h2
  rw [Int64.toInt_div]
  obtain ⟨k1, k2⟩ := tdw (a := a.toInt) hb
  apply bm64
  · by_cases c : 0 ≤ a.toInt
    · have := k1 c; omega
    · have := k2 (by omega); omega
  · by_cases c : 0 ≤ a.toInt
    · have := k1 c; omega
    · have := k2 (by omega); omega
theorem d32 {a b : Int32} (hb : 1 ≤ b.toInt) : (a / b).toInt = a.toInt.tdiv b.toInt := by
  have h1 := a.le_toInt
  have h2 := a.toInt_le
  have h3 : -2147483648 ≤ a.toInt := h1
  have h4 : a.toInt ≤ 2147483647 := h2
  rw [Int32.toInt_div]
  obtain ⟨k1, k2⟩ := tdw (a := a.toInt) hb
  apply bm32
  · by_cases c : 0 ≤ a.toInt
    · have := k1 c; omega
    · have := k2 (by omega); omega
  · by_cases c : 0 ≤ a.toInt
    · have := k1 c; omega
    · have := k2 (by omega); omega
theorem mul_b {a b n k : Int} (h1 : -n ≤ a ∧ a ≤ n) (h2 : -k ≤ b ∧ b ≤ k) : -(n * k) ≤ a * b ∧ a * b ≤ n * k := by
  have p1 := Int.mul_nonneg (show 0 ≤ n - a by omega) (show 0 ≤ k + b by omega)
  have p2 := Int.mul_nonneg (show 0 ≤ n + a by omega) (show 0 ≤ k - b by omega)
  have p3 := Int.mul_nonneg (show 0 ≤ n - a by omega) (show 0 ≤ k - b by omega)
  have p4 := Int.mul_nonneg (show 0 ≤ n + a by omega) (show 0 ≤ k + b by omega)
  have e1 : (n - a) * (k + b) = n * k + n * b - a * k - a * b := by grind
  have e2 : (n + a) * (k - b) = n * k - n * b + a * k - a * b := by grind
  have e3 : (n - a) * (k - b) = n * k - n * b - a * k + a * b := by grind
  have e4 : (n + a) * (k + b) = n * k + n * b + a * k + a * b := by grind
  rw [e1] at p1; rw [e2] at p2; rw [e3] at p3; rw [e4] at p4
  constructor
  · omega
  · omega
/-- one coordinate of a top's move -/
theorem co_b {x p : Int64} {w X t : Int32} (hx : -1950 ≤ x.toInt ∧ x.toInt ≤ 1950) (hp : -798924800 ≤ p.toInt ∧ p.toInt ≤ 798924800) (hw : 1 ≤ w.toInt ∧ w.toInt ≤ 50) (hX : -2049 ≤ X.toInt ∧ X.toInt ≤ 2049) (ht : -500 ≤ t.toInt ∧ t.toInt ≤ 500) (p2 : Int64) (e2 : p2 = (p - (((2 : Int64) * w.toInt64) * X.toInt64)) + t.toInt64) (x3 : Int64) (e3 : x3 = x + (p2 - p2 / 16) / w.toInt64) : (-820000000 ≤ x3.toInt ∧ x3.toInt ≤ 820000000) ∧ (-1950 ≤ x3.toInt → x3.toInt ≤ 1950 → -195050 ≤ (p2 - p2 / 16).toInt ∧ (p2 - p2 / 16).toInt ≤ 195050) := by
  have w64 : w.toInt64.toInt = w.toInt := Int32.toInt_toInt64 w
  have X64 : X.toInt64.toInt = X.toInt := Int32.toInt_toInt64 X
  have t64 : t.toInt64.toInt = t.toInt := Int32.toInt_toInt64 t
  have a1 : ((2 : Int64) * w.toInt64).toInt = 2 * w.toInt := by
    rw [m64, w64, show (2 : Int64).toInt = 2 from rfl] <;> rw [w64, show (2 : Int64).toInt = 2 from rfl] <;> omega
  have b1 := mul_b (a := 2 * w.toInt) (b := X.toInt) (n := 100) (k := 2049) (by omega) (by omega)
  have a2 : (((2 : Int64) * w.toInt64) * X.toInt64).toInt = 2 * w.toInt * X.toInt := by
    rw [m64, a1, X64] <;> rw [a1, X64] <;> omega
  have a3 : (p - (((2 : Int64) * w.toInt64) * X.toInt64)).toInt = p.toInt - 2 * w.toInt * X.toInt := by
    rw [s64, a2] <;> rw [a2] <;> omega
  have a4 : p2.toInt = p.toInt - 2 * w.toInt * X.toInt + t.toInt := by
    rw [e2, a64, a3, t64] <;> rw [a3, t64] <;> omega
  have a5 : (p2 / 16).toInt = p2.toInt.tdiv 16 := d64 (by decide)
  obtain ⟨k1, k2⟩ := tdw (a := p2.toInt) (w := 16) (by omega)
  have a6 : (p2 - p2 / 16).toInt = p2.toInt - p2.toInt.tdiv 16 := by
    by_cases c : 0 ≤ p2.toInt
    · have := k1 c
      rw [s64, a5] <;> rw [a5] <;> omega
    · have := k2 (by omega)
      rw [s64, a5] <;> rw [a5] <;> omega
  have b6 : -799130200 ≤ (p2 - p2 / 16).toInt ∧ (p2 - p2 / 16).toInt ≤ 799130200 := by
    rw [a6]
    by_cases c : 0 ≤ p2.toInt
    · have := k1 c
      omega
    · have := k2 (by omega)
      omega
  have a7 : ((p2 - p2 / 16) / w.toInt64).toInt = (p2 - p2 / 16).toInt.tdiv w.toInt := by
    rw [d64 (by rw [w64]; omega), w64]
  have b7 := td_le (a := (p2 - p2 / 16).toInt) (w := w.toInt) (n := 799130200) (by omega) b6.1 b6.2
  have a8 : x3.toInt = x.toInt + (p2 - p2 / 16).toInt.tdiv w.toInt := by
    rw [e3, a64, a7] <;> rw [a7] <;> omega
  refine ⟨by omega, fun g1 g2 => ?_⟩
  obtain ⟨j1, j2⟩ := tdw (a := (p2 - p2 / 16).toInt) (w := w.toInt) (by omega)
  by_cases c : 0 ≤ (p2 - p2 / 16).toInt
  · obtain ⟨u1, u2, u3⟩ := j1 c
    have := Int.mul_le_mul (show (p2 - p2 / 16).toInt.tdiv w.toInt + 1 ≤ 3901 by omega) hw.2 (by omega) (by omega)
    omega
  · obtain ⟨u1, u2, u3⟩ := j2 (by omega)
    have := Int.mul_le_mul (show -((p2 - p2 / 16).toInt.tdiv w.toInt) + 1 ≤ 3901 by omega) hw.2 (by omega) (by omega)
    have e : ((p2 - p2 / 16).toInt.tdiv w.toInt - 1) * w.toInt = -((-((p2 - p2 / 16).toInt.tdiv w.toInt) + 1) * w.toInt) := by grind
    omega

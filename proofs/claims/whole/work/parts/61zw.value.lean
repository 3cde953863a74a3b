theorem fl_n {p t : Int64} (ht : 1 ≤ t.toInt) (hp : 0 ≤ p.toInt) : f_JM_floorDiv p t = some (p / t) := by
  have t0 : ¬ t = 0 := by
    intro z
    subst z
    exact absurd ht (by decide)
  unfold f_JM_floorDiv
  rw [if_neg t0, nme, if_pos ((xor_s ht).2 hp)]
theorem t_n0 {t : Int64} (ht : 1 ≤ t.toInt) : ¬ t = 0 := by
  intro z
  subst z
  exact absurd ht (by decide)
theorem nz04 {r : Nat} (hr : r ≤ 4) : (nI r = 0) = (r = 0) := by
  show (nI r = nI 0) = (r = 0)
  rw [y_eq (by omega) (by omega)]
theorem open_e {x : Mem} {r cc : Nat} (r4 : r ≤ 4) (c4 : cc ≤ 4) (h0 : gI x 23 0 = nI r) (h1 : gI x 23 1 = nI cc) : f_Ch_isOpen x = some (if r = 0 ∨ cc = 0 then 1 else 0) := by
  unfold f_Ch_isOpen f_Ch_isOpen_b14
  rw [h0, h1]
  simp only [nz04 r4, nz04 c4]
  by_cases a : r = 0
  · rw [if_pos a, if_pos (Or.inl a)]
  · rw [if_neg a]
    by_cases b : cc = 0
    · rw [if_neg (show ¬ ¬ cc = 0 from fun z => z b), if_pos (Or.inr b)]
    · rw [if_pos b, if_neg (show ¬ (r = 0 ∨ cc = 0) by omega)]
def valR (T D : Int64) : Int32 := if (((1000000 : Int64) * (D - 20 * T)) / T) * T ≤ (1000000 : Int64) * (D - 20 * T) then (((1000000 : Int64) * (D - 20 * T)) / T).toInt32 else (((1000000 : Int64) * (D - 20 * T)) / T - 1).toInt32
theorem val_x {x : Mem} {T D : Int64} (h1 : gL x 23 8 = T) (h2 : gL x 23 9 = D) (ht : 1 ≤ T.toInt) : f_Ch_valueInMillionths x = some (valR T D) := by
  unfold valR
  unfold f_Ch_valueInMillionths f_Ch_inMillionths
  rw [h1, h2, if_pos (t_n0 ht), Int64.mul_comm (D - 20 * T) 1000000, fl_e ht, bs, bs]
  by_cases c : (((1000000 : Int64) * (D - 20 * T)) / T) * T ≤ (1000000 : Int64) * (D - 20 * T)
  · rw [if_pos c, if_pos c]
  · rw [if_neg c, if_neg c]
theorem value_j : VJ := by
  intro c n x m h
  obtain ⟨t, ht, hCs, hTop, hWr, hStr, hBow, hDen, hBou, hWhi, hCho, hRest⟩ := id h
  obtain ⟨r, cc, g1, g2, g3, g4, g5, g6, _⟩ := hCho
  unfold f_X_value f_M_value
  rw [open_e g1 g2 g3 g5, bs, g4, g6]
  simp only [nz04 g1, nz04 g2]
  by_cases a : r = 0
  · rw [if_pos (show r = 0 ∨ cc = 0 from Or.inl a), if_neg (by decide), if_pos a]
    exact ⟨_, _, _, rfl, rfl, h⟩
  · by_cases b : cc = 0
    · rw [if_pos (show r = 0 ∨ cc = 0 from Or.inr b), if_neg (by decide), if_neg a, if_pos b]
      exact ⟨_, _, _, rfl, rfl, h⟩
    · rw [if_neg (show ¬ (r = 0 ∨ cc = 0) by omega), if_pos rfl, if_neg a, if_neg b]
      obtain ⟨x', m', T, D, RS, CS, q1, q2, q3, q4, q5, q6, q7, q8, _⟩ := mix_j h g3 g5 (by omega) g1 (by omega) g2
      refine ⟨valR T D, x', m', ?_, ?_, q3⟩
      · rw [q1, bs, val_x q4 q6 q8, bs]
      · unfold valR
        rw [q2, b2s, if_pos (by decide), nme, q5, q7, if_neg (t_n0 q8), nme]
        by_cases d : (((1000000 : Int64) * (D - 20 * T)) / T) * T ≤ (1000000 : Int64) * (D - 20 * T)
        · rw [if_pos d, if_pos d]
        · rw [if_neg d, if_neg d]
theorem s_value {c n : Nat} {μ1 μ2 : Mem} (h : Inv c n μ1 μ2) (hc : c < 512) : ∃ (r : Int32) (ν1 : Mem) (ν2 : Mem), f_X_value FN μ1 = some (r, ν1) ∧ f_M_value FN μ2 = some (r, ν2) ∧ Inv (c + 1) n ν1 ν2 := by
  obtain ⟨r, x', m', q1, q2, q3⟩ := value_j c n μ1 μ2 h
  exact ⟨r, x', m', q1, q2, Inv_next q3⟩
theorem s_digest {c n : Nat} {μ1 μ2 : Mem} (h : Inv c n μ1 μ2) (hc : c < 512) : ∃ (r : Int64) (ν1 : Mem) (ν2 : Mem), f_X_digest FN μ1 = some (r, ν1) ∧ f_M_digest FN μ2 = some (r, ν2) ∧ Inv (c + 1) n ν1 ν2 := by
  exact digest_j value_j h hc
theorem mil_x {x : Mem} {T v : Int64} (h1 : gL x 23 8 = T) (ht : 1 ≤ T.toInt) (v0 : 0 ≤ v.toInt) (v1 : v.toInt ≤ 6243584) : f_Ch_inMillionths x v = some (((1000000 : Int64) * v) / T).toInt32 := by
  have e6 : (1000000 : Int64).toInt = 1000000 := by decide
  have e : (v * 1000000).toInt = v.toInt * 1000000 := by rw [m64 (by rw [e6]; omega) (by rw [e6]; omega), e6]
  unfold f_Ch_inMillionths
  rw [h1, if_pos (t_n0 ht), fl_n ht (by rw [e]; omega), bs, Int64.mul_comm v 1000000]
theorem s_mix {c n : Nat} {μ1 μ2 : Mem} (h : Inv c n μ1 μ2) (hc : c < 512) (a1 : Int32) (a2 : Int32) : ∃ (r : Int32) (ν1 : Mem) (ν2 : Mem), f_X_mix FN μ1 a1 a2 = some (r, ν1) ∧ f_M_mix FN μ2 a1 a2 = some (r, ν2) ∧ Inv (c + 1) n ν1 ν2 := by
  obtain ⟨t, ht, hCs, hTop, hWr, hStr, hBow, hDen, hBou, hWhi, hCho, hRest⟩ := id h
  obtain ⟨r, cc, g1, g2, g3, g4, g5, g6, _⟩ := hCho
  have z32 : (0 : Int32).toInt = 0 := by decide
  have o32 : (1 : Int32).toInt = 1 := by decide
  have z64 : (0 : Int64).toInt = 0 := by decide
  have o64 : (1 : Int64).toInt = 1 := by decide
  have core : ∀ k, k ≤ 4 → (if ¬ a1 = 0 then cc else r) = k → ∃ (r : Int32) (ν1 : Mem) (ν2 : Mem), f_X_mix_b33 FN a1 a2 (nI k) μ1 = some (r, ν1) ∧ f_M_mix_b28 FN a1 a2 (nI k) 0 a2.toInt64 μ2 = some (r, ν2) ∧ Inv (c + 1) n ν1 ν2 := by
    intro k k4 ek
    unfold f_X_mix_b33 f_M_mix_b28
    rw [bw, bn2, Int32.toInt_toInt64, y_m1 (show k < 2147483648 by omega), z32, z64]
    by_cases c1 : 0 ≤ a2.toInt ∧ a2.toInt ≤ (k : Int) - 1
    · obtain ⟨j, hj, ej⟩ := toN (v := a2) c1.1 (show a2.toInt < (k : Int) by omega)
      rw [if_pos c1, if_pos c1, if_pos (by decide), if_pos (by decide), open_e g1 g2 g3 g5, bs, g4, g6]
      simp only [nz04 g1, nz04 g2]
      by_cases a : r = 0
      · rw [if_pos (show r = 0 ∨ cc = 0 from Or.inl a), if_neg (by decide), if_pos a]
        exact ⟨_, _, _, rfl, rfl, Inv_next h⟩
      · by_cases b : cc = 0
        · rw [if_pos (show r = 0 ∨ cc = 0 from Or.inr b), if_neg (by decide), if_neg a, if_pos b]
          exact ⟨_, _, _, rfl, rfl, Inv_next h⟩
        · rw [if_neg (show ¬ (r = 0 ∨ cc = 0) by omega), if_pos rfl, if_neg a, if_neg b]
          obtain ⟨x', m', T, D, RS, CS, q1, q2, q3, q4, q5, q6, q7, q8, q9⟩ := mix_j h g3 g5 (by omega) g1 (by omega) g2
          obtain ⟨s1, s2, s3, s4, s5, s6, s7, s8⟩ := q9 j (by omega)
          rw [q1, bs, q2, b2s, if_pos (show ¬ (1 : Int32) = 0 by decide), ej, ix_n (by omega)]
          simp only [if_pos (ib_n (show j < 4 by omega) (show j < 2147483648 by omega))]
          unfold f_X_mix_b97 f_M_mix_b86
          by_cases d : a1 = 0
          · rw [if_neg (show ¬ ¬ a1 = 0 from fun z => z d), if_neg (show ¬ ¬ a1 = 0 from fun z => z d), s1, s2, q5, if_neg (t_n0 q8), mil_x q4 q8 s5 s6, bs]
            exact ⟨_, _, _, rfl, rfl, Inv_next q3⟩
          · rw [if_pos d, if_pos d, s3, s4, q5, if_neg (t_n0 q8), mil_x q4 q8 s7 s8, bs]
            exact ⟨_, _, _, rfl, rfl, Inv_next q3⟩
    · rw [if_neg c1, if_neg c1, if_neg (by decide), if_neg (by decide)]
      exact ⟨_, _, _, rfl, rfl, Inv_next h⟩
  unfold f_X_mix f_M_mix
  rw [bw, bn2, z32, z64, o32, o64]
  by_cases c1 : 0 ≤ a1.toInt ∧ a1.toInt ≤ 1
  · rw [if_pos c1, if_pos c1, if_pos (show ¬ (1 : Int32) = 0 by decide), if_neg (show ¬ (1 : Int32) = 0 by decide), g3, g4, g5, g6]
    by_cases d : a1 = 0
    · rw [if_neg (show ¬ ¬ a1 = 0 from fun z => z d), if_neg (show ¬ ¬ a1 = 0 from fun z => z d)]
      exact core r g1 (if_neg (fun z => z d))
    · rw [if_pos d, if_pos d]
      exact core cc g2 (if_pos d)
  · rw [if_neg c1, if_neg c1, if_neg (by decide), if_pos (by decide)]
    exact ⟨_, _, _, rfl, rfl, Inv_next h⟩

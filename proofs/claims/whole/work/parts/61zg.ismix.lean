theorem im143 {m : Mem} {r c : Nat} (hr : r ≤ 4) (hc : c ≤ 4) (h0 : gI m 0 37 = nI r) (h1 : gI m 0 38 = nI c) : ∀ d n i f, i + d = r → d < n → ∃ g : Bool, f_M_isMix_l143 FN m n (bf f) (nI i) = some (bf g) ∧ (g = true ↔ (f = true ∧ ∀ k, i ≤ k → k < r → ¬ gL m 0 47 < sm (fun j => aM m k j * gL m 35 j) c)) := by
  intro d
  induction d with
  | zero =>
    intro n i f g1 g2
    obtain ⟨n', rfl⟩ : ∃ n', n = n' + 1 := ⟨n - 1, by omega⟩
    have hi : i = r := by omega
    subst hi
    refine ⟨f, ?_, ⟨fun h => ⟨h, fun j h1 h2 => by omega⟩, fun h => h.1⟩⟩
    unfold f_M_isMix_l143
    rw [h0, if_pos (P_re hr)]
    cases f with
    | false => rfl
    | true => rfl
  | succ d ih =>
    intro n i f g1 g2
    obtain ⟨n', rfl⟩ : ∃ n', n = n' + 1 := ⟨n - 1, by omega⟩
    have hi : i < r := by omega
    have l : f_M_isMix_l156 FN m (f_M_isMix_l143 FN m n') FN (bf f) (nI i) 0 0 = _ := im156 (f := f) (show i < 4 by omega) hc h1 (f_M_isMix_l143 FN m n') c FN 0 (by omega) (FN_lt (by omega))
    obtain ⟨g, q1, q2⟩ := ih n' (i + 1) (f && !decide (gL m 0 47 < sm (fun j => aM m i j * gL m 35 j) c)) (by omega) (by omega)
    refine ⟨g, ?_, ?_⟩
    · unfold f_M_isMix_l143
      rw [h0, if_neg (P_le hr hi), l]
      exact q1
    · rw [q2]
      simp only [Bool.and_eq_true, Bool.not_eq_true', decide_eq_false_iff_not]
      constructor
      · rintro ⟨⟨h2, h3⟩, h4⟩
        refine ⟨h2, fun k k1 k2 => ?_⟩
        by_cases z : k = i
        · rw [z]; exact h3
        · exact h4 k (by omega) k2
      · rintro ⟨h2, h3⟩
        exact ⟨⟨h2, h3 i (by omega) hi⟩, fun k k1 k2 => h3 k (by omega) k2⟩
theorem im62 {m : Mem} {r c : Nat} (hr : r ≤ 4) (hc : c ≤ 4) (h0 : gI m 0 37 = nI r) (h1 : gI m 0 38 = nI c) : ∀ d n j f, j + d = c → d < n → ∃ g : Bool, f_M_isMix_l62 FN m n (bf f) (nI j) = f_M_isMix_l143 FN m FN (bf g) 0 ∧ (g = true ↔ (f = true ∧ ∀ k, j ≤ k → k < c → ¬ sm (fun i => aM m i k * gL m 34 i) r < gL m 0 47)) := by
  intro d
  induction d with
  | zero =>
    intro n j f g1 g2
    obtain ⟨n', rfl⟩ : ∃ n', n = n' + 1 := ⟨n - 1, by omega⟩
    have hj : j = c := by omega
    subst hj
    refine ⟨f, ?_, ⟨fun h => ⟨h, fun j h1 h2 => by omega⟩, fun h => h.1⟩⟩
    unfold f_M_isMix_l62
    rw [h1, if_pos (P_re hc)]
  | succ d ih =>
    intro n j f g1 g2
    obtain ⟨n', rfl⟩ : ∃ n', n = n' + 1 := ⟨n - 1, by omega⟩
    have hj : j < c := by omega
    have l : f_M_isMix_l75 FN m (f_M_isMix_l62 FN m n') FN (bf f) (nI j) 0 0 = _ := im75 (f := f) (show j < 4 by omega) hr h0 (f_M_isMix_l62 FN m n') r FN 0 (by omega) (FN_lt (by omega))
    obtain ⟨g, q1, q2⟩ := ih n' (j + 1) (f && !decide (sm (fun i => aM m i j * gL m 34 i) r < gL m 0 47)) (by omega) (by omega)
    refine ⟨g, ?_, ?_⟩
    · unfold f_M_isMix_l62
      rw [h1, if_neg (P_le hc hj), l]
      exact q1
    · rw [q2]
      simp only [Bool.and_eq_true, Bool.not_eq_true', decide_eq_false_iff_not]
      constructor
      · rintro ⟨⟨h2, h3⟩, h4⟩
        refine ⟨h2, fun k k1 k2 => ?_⟩
        by_cases z : k = j
        · rw [z]; exact h3
        · exact h4 k (by omega) k2
      · rintro ⟨h2, h3⟩
        exact ⟨⟨h2, h3 j (by omega) hj⟩, fun k k1 k2 => h3 k (by omega) k2⟩
theorem n64 {a b : Int64} : (¬ a < b) ↔ b ≤ a := by
  rw [Int64.lt_iff_toInt_lt, Int64.le_iff_toInt_le]; omega
/-- the reference's test of a part -/
theorem isMixM {m : Mem} {r c : Nat} (hr : r ≤ 4) (hc : c ≤ 4) (h0 : gI m 0 37 = nI r) (h1 : gI m 0 38 = nI c) : ∃ g : Bool, f_M_isMix FN m = some (bf g) ∧ (g = true ↔ (¬ gL m 0 46 ≤ 0 ∧ okP (aM m) r c 1 (gL m 0 47) (gL m 34) (gL m 35))) := by
  have e : f_M_isMix FN m = f_M_isMix_l17 FN m FN (bf (!decide (gL m 0 46 ≤ 0))) (nI 0) := by
    unfold f_M_isMix f_M_isMix_b14
    by_cases z : gL m 0 46 ≤ 0
    · rw [if_pos z, decide_eq_true z]; rfl
    · rw [if_neg z, decide_eq_false z]; rfl
  obtain ⟨g1, p1, p2⟩ := im17 (m := m) 4 FN 0 (!decide (gL m 0 46 ≤ 0)) (by omega) (FN_lt (by omega))
  obtain ⟨g2, q1, q2⟩ := im62 hr hc h0 h1 c FN 0 g1 (by omega) (FN_lt (by omega))
  obtain ⟨g3, r1, r2⟩ := im143 hr hc h0 h1 r FN 0 g2 (by omega) (FN_lt (by omega))
  refine ⟨g3, ?_, ?_⟩
  · rw [e, p1]
    exact Eq.trans q1 r1
  · rw [r2, q2, p2]
    simp only [Bool.not_eq_true', decide_eq_false_iff_not]
    unfold okP
    constructor
    · rintro ⟨⟨⟨h2, h3⟩, h4⟩, h5⟩
      exact ⟨h2, by decide, fun j k1 k2 => ⟨(h3 j k1 k2).1, n64.mp (h3 j k1 k2).2⟩, fun k k1 k2 => n64.mp (h5 k k1 k2), fun k k1 k2 => n64.mp (h4 k k1 k2)⟩
    · rintro ⟨h2, _, h3, h4, h5⟩
      exact ⟨⟨⟨h2, fun j k1 k2 => ⟨(h3 j k1 k2).1, n64.mpr (h3 j k1 k2).2⟩⟩, fun k k1 k2 => n64.mpr (h5 k k1 k2)⟩, fun k k1 k2 => n64.mpr (h4 k k1 k2)⟩

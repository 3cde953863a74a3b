/-- a flag and a test -/
def bf (f : Bool) : Int32 := if f then 1 else 0
theorem im75 {m : Mem} {j r : Nat} {f : Bool} (hj : j < 4) (hr : r ≤ 4) (h0 : gI m 0 37 = nI r) (k62 : Int32 → Int32 → Option Int32) : ∀ d n i, i + d = r → d < n → f_M_isMix_l75 FN m k62 n (bf f) (nI j) (sm (fun i => aM m i j * gL m 34 i) i) (nI i) = k62 (bf (f && !decide (sm (fun i => aM m i j * gL m 34 i) r < gL m 0 47))) (nI (j + 1)) := by
  intro d
  induction d with
  | zero =>
    intro n i g1 g2
    obtain ⟨n', rfl⟩ : ∃ n', n = n' + 1 := ⟨n - 1, by omega⟩
    have hi : i = r := by omega
    subst hi
    unfold f_M_isMix_l75 f_M_isMix_b133 f_M_isMix_b134
    rw [h0, if_pos (P_re hr)]
    simp only [nme, y_s]
    cases f with
    | false => rw [if_pos (show bf false = 0 from rfl)]; rfl
    | true =>
      rw [if_neg (show ¬ bf true = 0 by decide)]
      by_cases z : sm (fun i => aM m i j * gL m 34 i) i < gL m 0 47
      · rw [if_pos z, decide_eq_true z]; rfl
      · rw [if_neg z, decide_eq_false z]; rfl
  | succ d ih =>
    intro n i g1 g2
    obtain ⟨n', rfl⟩ : ∃ n', n = n' + 1 := ⟨n - 1, by omega⟩
    have hi : i < r := by omega
    unfold f_M_isMix_l75
    rw [h0, if_neg (P_le hr hi), m4_n, if_pos (ib_n (show 4 * i + j < 16 by omega) (by omega)), if_pos (ib_n (show i < 4 by omega) (by omega)), ix_n (by omega), ix_n (by omega), nme, nme, y_s]
    exact ih n' (i + 1) (by omega) (by omega)
theorem im156 {m : Mem} {i c : Nat} {f : Bool} (hi : i < 4) (hc : c ≤ 4) (h1 : gI m 0 38 = nI c) (k143 : Int32 → Int32 → Option Int32) : ∀ d n j, j + d = c → d < n → f_M_isMix_l156 FN m k143 n (bf f) (nI i) (sm (fun j => aM m i j * gL m 35 j) j) (nI j) = k143 (bf (f && !decide (gL m 0 47 < sm (fun j => aM m i j * gL m 35 j) c))) (nI (i + 1)) := by
  intro d
  induction d with
  | zero =>
    intro n j g1 g2
    obtain ⟨n', rfl⟩ : ∃ n', n = n' + 1 := ⟨n - 1, by omega⟩
    have hj : j = c := by omega
    subst hj
    unfold f_M_isMix_l156 f_M_isMix_b214 f_M_isMix_b215
    rw [h1, if_pos (P_re hc)]
    simp only [nme, y_s]
    cases f with
    | false => rw [if_pos (show bf false = 0 from rfl)]; rfl
    | true =>
      rw [if_neg (show ¬ bf true = 0 by decide)]
      by_cases z : gL m 0 47 < sm (fun j => aM m i j * gL m 35 j) j
      · rw [if_pos z, decide_eq_true z]; rfl
      · rw [if_neg z, decide_eq_false z]; rfl
  | succ d ih =>
    intro n j g1 g2
    obtain ⟨n', rfl⟩ : ∃ n', n = n' + 1 := ⟨n - 1, by omega⟩
    have hj : j < c := by omega
    unfold f_M_isMix_l156
    rw [h1, if_neg (P_le hc hj), m4_n, if_pos (ib_n (show 4 * i + j < 16 by omega) (by omega)), if_pos (ib_n (show j < 4 by omega) (by omega)), ix_n (by omega), ix_n (by omega), nme, nme, y_s]
    exact ih n' (j + 1) (by omega) (by omega)
theorem im17 {m : Mem} : ∀ d n k f, k + d = 4 → d < n → ∃ g : Bool, f_M_isMix_l17 FN m n (bf f) (nI k) = f_M_isMix_l62 FN m FN (bf g) 0 ∧ (g = true ↔ (f = true ∧ ∀ j, k ≤ j → j < 4 → ¬ gL m 34 j < 0 ∧ ¬ gL m 35 j < 0)) := by
  intro d
  induction d with
  | zero =>
    intro n k f g1 g2
    obtain ⟨n', rfl⟩ : ∃ n', n = n' + 1 := ⟨n - 1, by omega⟩
    have hk : k = 4 := by omega
    subst hk
    refine ⟨f, ?_, ⟨fun h => ⟨h, fun j h1 h2 => by omega⟩, fun h => h.1⟩⟩
    unfold f_M_isMix_l17
    rw [if_pos (by decide)]
  | succ d ih =>
    intro n k f g1 g2
    obtain ⟨n', rfl⟩ : ∃ n', n = n' + 1 := ⟨n - 1, by omega⟩
    have hk : k < 4 := by omega
    have ek : ib (nI k) 4 = true := ib_n hk (by omega)
    have step : f_M_isMix_l17 FN m (n' + 1) (bf f) (nI k) = f_M_isMix_l17 FN m n' (bf (f && !decide (gL m 34 k < 0) && !decide (gL m 35 k < 0))) (nI (k + 1)) := by
      conv => lhs; unfold f_M_isMix_l17
      unfold f_M_isMix_b52 f_M_isMix_b53
      rw [if_neg (show ¬ (4 : Int32) ≤ nI k by show ¬ nI 4 ≤ nI k; rw [y_le (by omega) (by omega)]; omega), if_pos ek, if_pos ek, ix_n (by omega)]
      simp only [nme, y_s]
      cases f with
      | false => rw [if_pos (show bf false = 0 from rfl)]; rfl
      | true =>
        rw [if_neg (show ¬ bf true = 0 by decide)]
        by_cases z : gL m 34 k < 0
        · rw [if_pos z, decide_eq_true z]; rfl
        · rw [if_neg z, decide_eq_false z]
          by_cases y : gL m 35 k < 0
          · rw [if_pos y, decide_eq_true y]; rfl
          · rw [if_neg y, decide_eq_false y]; rfl
    obtain ⟨g, q1, q2⟩ := ih n' (k + 1) (f && !decide (gL m 34 k < 0) && !decide (gL m 35 k < 0)) (by omega) (by omega)
    refine ⟨g, by rw [step]; exact q1, ?_⟩
    rw [q2]
    simp only [Bool.and_eq_true, Bool.not_eq_true', decide_eq_false_iff_not]
    constructor
    · rintro ⟨⟨⟨h1, h2⟩, h3⟩, h4⟩
      refine ⟨h1, fun j k1 k2 => ?_⟩
      by_cases z : j = k
      · rw [z]; exact ⟨h2, h3⟩
      · exact h4 j (by omega) k2
    · rintro ⟨h1, h2⟩
      exact ⟨⟨⟨h1, (h2 k (by omega) hk).1⟩, (h2 k (by omega) hk).2⟩, fun j k1 k2 => h2 j (by omega) k2⟩

theorem i45_lt {x : Mem} {w : Nat → Nat} {v : Nat → Int} {k a : Nat} (hk : k ≤ 16) (hv : ∀ i, i < 16 → -100 ≤ v i ∧ v i ≤ 100) (h : dpT w v k a x) : (gI x 45 a = -2147483648 ∧ nobag w k a) ∨ ∃ B, good w v k a B ∧ (gI x 45 a).toInt = sV v k B ∧ -1600 ≤ sV v k B ∧ sV v k B ≤ 1600 ∧ gI x 45 a = Int32.ofInt (sV v k B) ∧ gI x 46 a = nI B := by
  rcases h with h | ⟨B, h1, h2, h3⟩
  · exact Or.inl h
  · have b := sV_b hv k hk B
    exact Or.inr ⟨B, h1, by rw [h2, o32 (by omega)], by omega, by omega, h2, h3⟩
theorem bw_l {x : Mem} {L : Nat} (hL : L ≤ 500) (h2 : gI x 44 2 = nI L) : ∀ d n a b, a + d = L + 1 → d < n → b < a → (∀ c, c < a → (gI x 45 c).toInt ≤ (gI x 45 b).toInt) → (∀ c, c < b → (gI x 45 c).toInt < (gI x 45 b).toInt) → ∃ b', b' ≤ L ∧ f_Pk_bestWeight_l4 FN x n (nI b) (nI a) = some (nI b') ∧ (∀ c, c ≤ L → (gI x 45 c).toInt ≤ (gI x 45 b').toInt) ∧ (∀ c, c < b' → (gI x 45 c).toInt < (gI x 45 b').toInt) := by
  intro d
  induction d with
  | zero =>
    intro n a b g1 g2 g3 g4 g5
    obtain ⟨n', rfl⟩ : ∃ n', n = n' + 1 := ⟨n - 1, by omega⟩
    refine ⟨b, by omega, ?_, fun c hc => g4 c (by omega), g5⟩
    unfold f_Pk_bestWeight_l4
    rw [h2, if_pos (by rw [y_lt (by omega) (by omega)]; omega)]
  | succ d ih =>
    intro n a b g1 g2 g3 g4 g5
    obtain ⟨n', rfl⟩ : ∃ n', n = n' + 1 := ⟨n - 1, by omega⟩
    conv => congr; intro b'; rhs; congr; lhs; unfold f_Pk_bestWeight_l4
    unfold f_Pk_bestWeight_b32
    rw [h2, if_neg (by rw [y_lt (by omega) (by omega)]; omega), if_pos (ib_n (show a < 501 by omega) (by omega)), if_pos (ib_n (show b < 501 by omega) (by omega)), ix_n (show a < 2147483648 by omega), ix_n (show b < 2147483648 by omega)]
    simp only [nme, y_s]
    by_cases c : gI x 45 a ≤ gI x 45 b
    · rw [if_pos c]
      rw [Int32.le_iff_toInt_le] at c
      exact ih n' (a + 1) b (by omega) (by omega) (by omega) (fun e he => by
        by_cases z : e = a
        · rw [z]; exact c
        · exact g4 e (by omega)) g5
    · rw [if_neg c]
      rw [Int32.le_iff_toInt_le] at c
      exact ih n' (a + 1) a (by omega) (by omega) (by omega) (fun e he => by
        by_cases z : e = a
        · rw [z]; omega
        · have := g4 e (by omega); omega) (fun e he => by have := g4 e (by omega); omega)
theorem sW0 {w : Nat → Nat} : ∀ i, sW w i 0 = 0
  | 0 => rfl
  | i + 1 => by
    unfold sW
    rw [sW0 i, Nat.zero_div, if_neg (by omega)]
/-- the class's answer is the best bag -/
theorem bagX {x : Mem} {w : Nat → Nat} {v : Nat → Int} {k L : Nat} (hk : k ≤ 16) (hL : L ≤ 500) (hv : ∀ i, i < 16 → -100 ≤ v i ∧ v i ≤ 100) (h2 : gI x 44 2 = nI L) (hd : ∀ b, b ≤ L → dpT w v k b x) : ∃ B, bst w v k L B ∧ f_Pk_bestWeight FN x = some (nI (sW w k B)) ∧ gI x 45 (sW w k B) = Int32.ofInt (sV v k B) ∧ gI x 46 (sW w k B) = nI B := by
  obtain ⟨b', q1, q2, q3, q4⟩ := bw_l hL h2 L FN 1 0 (by omega) (FN_lt (by omega)) (by omega) (fun c hc => by rw [show c = 0 by omega]; omega) (fun c hc => absurd hc (by omega))
  have z : (-2147483648 : Int32).toInt = -2147483648 := rfl
  have p0 : 0 < 2 ^ k := Nat.two_pow_pos k
  have h0 : -1600 ≤ (gI x 45 0).toInt := by
    rcases i45_lt hk hv (hd 0 (by omega)) with ⟨e1, e2⟩ | ⟨B, e1, e2, e3, e4, e5, e6⟩
    · exact absurd (sW0 k) (e2 0 p0)
    · omega
  have hb0 := q3 0 (by omega)
  rcases i45_lt hk hv (hd b' q1) with ⟨e1, e2⟩ | ⟨B, e1, e2, e3, e4, e5, e6⟩
  · rw [e1, z] at hb0; omega
  · obtain ⟨g1, g2, g3⟩ := e1
    refine ⟨B, ⟨g1, by omega, fun M hM hw => ?_⟩, by rw [g2]; exact q2, by rw [g2]; exact e5, by rw [g2]; exact e6⟩
    rcases i45_lt hk hv (hd (sW w k M) hw) with ⟨f1, f2⟩ | ⟨B2, f1, f2, f3, f4, f5, f6⟩
    · exact absurd rfl (f2 M hM)
    · have a1 := f1.2.2 M hM rfl
      have a2 := q3 _ hw
      by_cases c1 : sW w k M = b'
      · have a3 := g3 M hM c1
        omega
      · by_cases c2 : sW w k M < b'
        · have a3 := q4 _ c2
          omega
        · omega
/-- the reference's sums of a bag -/
def hIt (w : Nat → Nat) (v : Nat → Int) (k : Nat) (m : Mem) : Prop := ∀ j, j < k → ∃ r, r < 40 ∧ gI m 44 j = nI r ∧ gI m 2 r = nI (w j) ∧ ((((3 : Int32) * gI m 3 r) + 10) - gI m 4 r) - gI m 7 r = Int32.ofInt (v j)
theorem l115_j {w : Nat → Nat} {v : Nat → Int} {k M : Nat} {m : Mem} {x2 x3 x5 x6 x7 : Int32} (hk : k ≤ 16) (hM : M < 65536) (hI : hIt w v k m) (kM : Int32 → Int32 → Int32 → Int32 → Int32 → Int32 → Int32 → Mem → Option (Int32 × Mem)) : ∀ d n j, j + d = k → d < n → f_M_bag_l115 FN kM n x2 x3 (nI k) x5 x6 x7 (nI M) (Int32.ofInt (sV v j M)) (nI (sW w j M)) (nI j) m = (if x2 < nI (sW w k M) then kM x2 x3 (nI k) x5 x6 x7 (nI (M + 1)) m else if x6 < Int32.ofInt (sV v k M) then kM x2 x3 (nI k) (nI M) (Int32.ofInt (sV v k M)) (nI (sW w k M)) (nI (M + 1)) m else if ¬ Int32.ofInt (sV v k M) = x6 then kM x2 x3 (nI k) x5 x6 x7 (nI (M + 1)) m else if x7 ≤ nI (sW w k M) then kM x2 x3 (nI k) x5 x6 x7 (nI (M + 1)) m else kM x2 x3 (nI k) (nI M) (Int32.ofInt (sV v k M)) (nI (sW w k M)) (nI (M + 1)) m) := by
  intro d
  induction d with
  | zero =>
    intro n j g1 g2
    obtain ⟨n', rfl⟩ : ∃ n', n = n' + 1 := ⟨n - 1, by omega⟩
    have hj : j = k := by omega
    subst hj
    unfold f_M_bag_l115 f_M_bag_b220 f_M_bag_b232
    rw [if_pos (by rw [y_le (by omega) (by omega)]; omega)]
    simp only [nme, y_s]
  | succ d ih =>
    intro n j g1 g2
    obtain ⟨n', rfl⟩ : ∃ n', n = n' + 1 := ⟨n - 1, by omega⟩
    obtain ⟨r, hr, r1, r2, r3⟩ := hI j (by omega)
    have er : ib (nI r) 40 = true := ib_n hr (by omega)
    rw [← ih n' (j + 1) (by omega) (by omega)]
    conv => lhs; unfold f_M_bag_l115
    unfold f_M_bag_b187
    rw [if_neg (by rw [y_le (by omega) (by omega)]; omega), bit_16 hM (by omega)]
    simp only [nme, y_s]
    have s1 : sW w (j + 1) M = sW w j M + (if M / 2 ^ j % 2 = 1 then w j else 0) := rfl
    have s2 : sV v (j + 1) M = sV v j M + (if M / 2 ^ j % 2 = 1 then v j else 0) := rfl
    by_cases c : M / 2 ^ j % 2 = 1
    · rw [s1, s2, if_pos c, if_pos c, c, if_neg (by decide), if_pos (ib_n (show j < 16 by omega) (by omega)), ix_n (by omega), r1, if_pos er, if_pos er, if_pos er, if_pos er, ix_n (by omega), r2, r3, y_add, ← Int32.ofInt_add]
    · have c' : M / 2 ^ j % 2 = 0 := by omega
      rw [s1, s2, if_neg c, if_neg c, c', if_pos (by decide), Int.add_zero]
      rfl
theorem l97_j {w : Nat → Nat} {v : Nat → Int} {k L : Nat} {m : Mem} {x3 : Int32} (hk : k ≤ 16) (hL : L ≤ 500) (hv : ∀ i, i < 16 → -100 ≤ v i ∧ v i ≤ 100) (hwb : ∀ M, sW w k M ≤ 1000) (hI : hIt w v k m) : ∀ d n M B, M + d = 2 ^ k → d < n → B < M → sW w k B ≤ L → (∀ M', M' < M → sW w k M' ≤ L → sV v k M' < sV v k B ∨ (sV v k M' = sV v k B ∧ (sW w k B < sW w k M' ∨ (sW w k B = sW w k M' ∧ B ≤ M')))) → ∃ B', bst w v k L B' ∧ f_M_bag_l97 FN n (nI L) x3 (nI k) (nI B) (Int32.ofInt (sV v k B)) (nI (sW w k B)) (nI M) m = (if ¬ x3 = 0 then (if ¬ x3 = (1 : Int32) then some (nI (sW w k B'), m) else some (Int32.ofInt (sV v k B'), m)) else some (nI B', m)) := by
  have pk : (2 : Nat) ^ k ≤ 2 ^ 16 := Nat.pow_le_pow_right (by omega) hk
  have ek : (1 : Int32) <<< (nI k &&& 31) = nI (2 ^ k) := by
    have h17 : ∀ k, k < 17 → (1 : Int32) <<< (nI k &&& 31) = nI (2 ^ k) := by decide +kernel
    exact h17 k (by omega)
  intro d
  induction d with
  | zero =>
    intro n M B g1 g2 g3 g4 g5
    obtain ⟨n', rfl⟩ : ∃ n', n = n' + 1 := ⟨n - 1, by omega⟩
    have hM : M = 2 ^ k := by omega
    refine ⟨B, ⟨by omega, g4, fun M' h1 h2 => g5 M' (by omega) h2⟩, ?_⟩
    unfold f_M_bag_l97
    rw [ek, if_pos (by rw [y_le (by omega) (by omega)]; omega)]
  | succ d ih =>
    intro n M B g1 g2 g3 g4 g5
    obtain ⟨n', rfl⟩ : ∃ n', n = n' + 1 := ⟨n - 1, by omega⟩
    have bM := sV_b hv k hk M
    have bB := sV_b hv k hk B
    have wM := hwb M
    have wB := hwb B
    have oM : (Int32.ofInt (sV v k M)).toInt = sV v k M := o32 (by omega)
    have oB : (Int32.ofInt (sV v k B)).toInt = sV v k B := o32 (by omega)
    have l := l115_j (x2 := nI L) (x3 := x3) (x5 := nI B) (x6 := Int32.ofInt (sV v k B)) (x7 := nI (sW w k B)) hk (show M < 65536 by omega) hI (f_M_bag_l97 FN n') k FN 0 (by omega) (FN_lt (by omega))
    conv => congr; intro B'; rhs; lhs; unfold f_M_bag_l97
    rw [ek, if_neg (by rw [y_le (by omega) (by omega)]; omega)]
    have l' : f_M_bag_l115 FN (f_M_bag_l97 FN n') FN (nI L) x3 (nI k) (nI B) (Int32.ofInt (sV v k B)) (nI (sW w k B)) (nI M) 0 0 0 m = _ := l
    rw [l']
    have stay : (sW w k M ≤ L → sV v k M < sV v k B ∨ (sV v k M = sV v k B ∧ (sW w k B < sW w k M ∨ (sW w k B = sW w k M ∧ B ≤ M)))) → ∃ B', bst w v k L B' ∧ f_M_bag_l97 FN n' (nI L) x3 (nI k) (nI B) (Int32.ofInt (sV v k B)) (nI (sW w k B)) (nI (M + 1)) m = (if ¬ x3 = 0 then (if ¬ x3 = (1 : Int32) then some (nI (sW w k B'), m) else some (Int32.ofInt (sV v k B'), m)) else some (nI B', m)) := fun hs => ih n' (M + 1) B (by omega) (by omega) (by omega) g4 (fun M' h1 h2 => by
      by_cases z : M' = M
      · rw [z] at h2 ⊢; exact hs h2
      · exact g5 M' (by omega) h2)
    have take : sW w k M ≤ L → (sV v k B < sV v k M ∨ (sV v k B = sV v k M ∧ sW w k M < sW w k B)) → ∃ B', bst w v k L B' ∧ f_M_bag_l97 FN n' (nI L) x3 (nI k) (nI M) (Int32.ofInt (sV v k M)) (nI (sW w k M)) (nI (M + 1)) m = (if ¬ x3 = 0 then (if ¬ x3 = (1 : Int32) then some (nI (sW w k B'), m) else some (Int32.ofInt (sV v k B'), m)) else some (nI B', m)) := fun h1 h2 => ih n' (M + 1) M (by omega) (by omega) (by omega) h1 (fun M' h3 h4 => by
      by_cases z : M' = M
      · rw [z]; omega
      · have := g5 M' (by omega) h4
        omega)
    by_cases c1 : L < sW w k M
    · rw [if_pos (by rw [y_lt (by omega) (by omega)]; exact c1)]
      exact stay (fun h => by omega)
    rw [if_neg (by rw [y_lt (by omega) (by omega)]; exact c1)]
    by_cases c2 : sV v k B < sV v k M
    · rw [if_pos (by rw [Int32.lt_iff_toInt_lt, oM, oB]; exact c2)]
      exact take (by omega) (Or.inl c2)
    rw [if_neg (by rw [Int32.lt_iff_toInt_lt, oM, oB]; exact c2)]
    by_cases c3 : sV v k M = sV v k B
    · rw [if_neg (not_not_intro (by rw [c3]))]
      by_cases c4 : sW w k B ≤ sW w k M
      · rw [if_pos (by rw [y_le (by omega) (by omega)]; exact c4)]
        exact stay (fun h => by omega)
      · rw [if_neg (by rw [y_le (by omega) (by omega)]; exact c4)]
        exact take (by omega) (Or.inr ⟨by omega, by omega⟩)
    · rw [if_pos (fun q => c3 (by have := congrArg Int32.toInt q; rw [oM, oB] at this; exact this))]
      exact stay (fun h => by omega)

def mk6P (S p q o : Nat) : Bool := !(decide (bN S p) && decide (bN S q) && !decide (p = q) && decide (bN S o) && !decide (o = p) && !decide (o = q)) || decide (bN (wo S p q) o)
theorem mk6a : ∀ S, S < 256 → ∀ p, p < 8 → ∀ q, q < 8 → ∀ o, o < 8 → mk6P S p q o = true := by decide +kernel
theorem mk6 {S p q o : Nat} (hS : S < 256) (hp : p < 8) (hq : q < 8) (ho : o < 8) (b1 : bN S p) (b2 : bN S q) (hpq : p ≠ q) (b3 : bN S o) (h1 : o ≠ p) (h2 : o ≠ q) : bN (wo S p q) o := by
  have h := mk6a S hS p hp q hq o ho
  unfold mk6P at h
  have d1 : decide (bN S p) = true := decide_eq_true b1
  have d2 : decide (bN S q) = true := decide_eq_true b2
  have d3 : decide (p = q) = false := decide_eq_false hpq
  have d4 : decide (bN S o) = true := decide_eq_true b3
  have d5 : decide (o = p) = false := decide_eq_false h1
  have d6 : decide (o = q) = false := decide_eq_false h2
  rw [d1, d2, d3, d4, d5, d6] at h
  simp only [Bool.and_true, Bool.not_false, Bool.not_true, Bool.false_or, decide_eq_true_eq] at h
  exact h
theorem bestX {x m : Mem} {c S P : Nat} (hM : iMet c x m) (hB : mtB m) (hS : S < 256) (h0 : S ≠ 0) (hP : P ≤ 3) (hpop : pop S ≤ 2 * (P + 1)) (hev : pop S % 2 = 0) : ∃ g, f_X_bestMate FN x (nI S) (nI (lowB S)) (nI (P + 1)) = some (nI g) ∧ bestJ m S g := by
  obtain ⟨l1, l2, l3⟩ := (mk2 S hS).resolve_left h0
  obtain ⟨s1, s2, s3⟩ := ((sec_b S hS).resolve_left h0).resolve_left (not_not_intro hev)
  obtain ⟨f', q1, q2⟩ := bestX_l hM hB hS h0 hP hpop hev (8 - (lowB S + 1)) FN (lowB S + 1) (-1) 0 (by omega) (FN_lt (by omega)) (by omega) (Or.inl ⟨rfl, fun k h1 h2 => by omega⟩)
  rcases q2 with ⟨e1, e2⟩ | ⟨g, e1, e2⟩
  · by_cases z : lowB S < lowB (S - 2 ^ lowB S)
    · exact absurd s1 (e2 _ z s3)
    · exact absurd s1 (mk2b S hS _ s3 (by omega))
  · refine ⟨g, ?_, e2⟩
    unfold f_X_bestMate
    rw [nme, y_s, q1, e1]
theorem best_T {m : Mem} {S g : Nat} (hS : S < 256) (h0 : S ≠ 0) (hev : pop S % 2 = 0) (h : bestJ m S g) : lcF m 4 S = vlF m S g := by
  obtain ⟨h1, h2, h3, h4, h5⟩ := h
  obtain ⟨p1, p2, p3⟩ := min_p 8 0 none _ (by omega) (TS_e (m := m) hS h0 hev)
  have a := p1 g (by omega) (by omega) h3 (by omega)
  rcases p3 with z | ⟨k, k1, k2, k3, k4, k5⟩
  · cases z
  · have := h4 k (by omega) k3 k4
    omega
theorem l57_j {m m' : Mem} {S g o : Nat} (hB : mtB m) (e : EqOn n43 m m') (hT : ∀ W, W < 256 → pop W % 2 = 0 → gI m' 43 W = Int32.ofInt (lcF m 4 W)) (hS : S < 256) (h0 : S ≠ 0) (hev : pop S % 2 = 0) (ho : o < 8) (hg : bestJ m S g) (kM : Int32 → Int32 → Mem → Option (Int32 × Mem)) : ∀ d n j, j + d = g → d < n → lowB S < j → f_M_pairing_l57 FN kM n (nI o) (nI S) (nI (lowB S)) (nI j) m' = if o = lowB S then some (nI g, m') else if o = g then some (nI (lowB S), m') else kM (nI o) (nI (wo S (lowB S) g)) m' := by
  have hT0 := best_T hS h0 hev hg
  obtain ⟨h1, h2, h3, h4, h5⟩ := hg
  obtain ⟨l1, l2, l3⟩ := (mk2 S hS).resolve_left h0
  have iS : ib (nI S) 256 = true := ib_n hS (by omega)
  have cost : ∀ j, lowB S < j → j < 8 → bN S j → f_M_costs FN m' (nI S) (nI j) = some (Int32.ofInt (vlF m S j)) := fun j hj hj8 b => by
    obtain ⟨_, _, w3, w4⟩ := mk3 hS l2 hj8 l1 b (by omega)
    have := costsM (hB.cg e) hS h0 hj8 b (by omega) (by rw [lcF_m e]; exact hT _ (by omega) (by omega))
    rw [vlF_m e] at this
    exact this
  have vg := vl_b hB hS h0 h2 h3 (by omega)
  intro d
  induction d with
  | zero =>
    intro n j g1 g2 g3
    obtain ⟨n', rfl⟩ : ∃ n', n = n' + 1 := ⟨n - 1, by omega⟩
    have hj : j = g := by omega
    subst hj
    obtain ⟨_, w2, w3, w4⟩ := mk3 hS l2 h2 l1 h3 (by omega)
    unfold f_M_pairing_l57 f_M_pairing_b100
    rw [mk1 S hS j h2, if_pos h3, if_neg (by decide), cost j h1 h2 h3, bs, if_pos iS, ix_n (by omega), hT S hS hev, hT0, if_pos rfl]
    by_cases c1 : o = lowB S
    · rw [if_pos c1, if_pos (by rw [c1]), if_neg (not_not_intro (by rw [c1]))]
    · have n1 : ¬ nI (lowB S) = nI o := by rw [y_eq (by omega) (by omega)]; omega
      rw [if_neg c1, if_neg n1]
      by_cases c2 : o = j
      · rw [if_pos c2, if_neg (not_not_intro (by rw [c2])), if_pos n1]
      · rw [if_neg c2, if_pos (show ¬ nI j = nI o by rw [y_eq (by omega) (by omega)]; omega), nme, w2]
  | succ d ih =>
    intro n j g1 g2 g3
    obtain ⟨n', rfl⟩ : ∃ n', n = n' + 1 := ⟨n - 1, by omega⟩
    have hj : j < 8 := by omega
    conv => lhs; unfold f_M_pairing_l57
    unfold f_M_pairing_b82
    rw [mk1 S hS j hj]
    simp only [nme, y_s]
    by_cases c : bN S j
    · have vj := vl_b hB hS h0 hj c (by omega)
      have lt := h5 j g3 (by omega) c
      rw [if_pos c, if_neg (by decide), cost j g3 hj c, bs, if_pos iS, ix_n (by omega), hT S hS hev, hT0, if_neg (fun q => by
        have := congrArg Int32.toInt q
        rw [o32 (by omega), o32 (by omega)] at this
        omega)]
      exact ih n' (j + 1) (by omega) (by omega) (by omega)
    · rw [if_neg c, if_pos rfl]
      exact ih n' (j + 1) (by omega) (by omega) (by omega)
theorem mate_j {x m m' : Mem} {c o : Nat} (hM : iMet c x m) (hB : mtB m) (e : EqOn n43 m m') (hT : ∀ W, W < 256 → pop W % 2 = 0 → gI m' 43 W = Int32.ofInt (lcF m 4 W)) (ho : o < 8) : ∀ P S n n', P ≤ 3 → P < n → P < n' → S < 256 → bN S o → pop S ≤ 2 * (P + 1) → pop S % 2 = 0 → ∃ r, f_X_mateInPairing_l5 FN x n (nI o) (nI S) (nI (P + 1)) = some r ∧ f_M_pairing_l45 FN n' (nI o) (nI S) m' = some (r, m') := by
  intro P
  induction P with
  | zero =>
    intro S n n' hP hn hn' hS bo hpop hev
    obtain ⟨n1, rfl⟩ : ∃ n1, n = n1 + 1 := ⟨n - 1, by omega⟩
    obtain ⟨n2, rfl⟩ : ∃ n2, n' = n2 + 1 := ⟨n' - 1, by omega⟩
    have h0 : S ≠ 0 := fun q => by subst q; unfold bN at bo; simp at bo
    obtain ⟨l1, l2, l3⟩ := (mk2 S hS).resolve_left h0
    obtain ⟨g, q1, q2⟩ := bestX hM hB hS h0 hP hpop hev
    have q2' := q2
    obtain ⟨k1, k2, k3, k4, k5⟩ := q2'
    obtain ⟨w1, w2, w3, w4⟩ := mk3 hS l2 k2 l1 k3 (by omega)
    have L := l57_j hB e hT hS h0 hev ho q2 (f_M_pairing_l45 FN n2) (g - (lowB S + 1)) FN (lowB S + 1) (by omega) (FN_lt (by omega)) (by omega)
    have ng : ¬ nI g = -1 := fun q => by
      have := congrArg Int32.toInt q
      rw [nI_t (by omega), show (-1 : Int32).toInt = -1 from rfl] at this; omega
    have eX : f_X_mateInPairing_l5 FN x (n1 + 1) (nI o) (nI S) (nI (0 + 1)) = if o = lowB S then some (nI g) else if o = g then some (nI (lowB S)) else f_X_mateInPairing_l5 FN x n1 (nI o) (nI (wo S (lowB S) g)) (nI 0) := by
      conv => lhs; unfold f_X_mateInPairing_l5
      rw [if_neg (show ¬ nI (0 + 1) ≤ 0 by decide), if_neg (fun q => h0 ((nI0 (by omega)).mp q)), l3, bs, q1, bs, if_pos ng, w1, nme, nme, (sp1 0).1]
      by_cases c1 : o = lowB S
      · rw [if_pos c1, if_neg (not_not_intro (by rw [c1]))]
      · rw [if_neg c1, if_pos (show ¬ nI o = nI (lowB S) by rw [y_eq (by omega) (by omega)]; exact c1)]
        by_cases c2 : o = g
        · rw [if_pos c2, if_neg (not_not_intro (by rw [c2]))]
        · rw [if_neg c2, if_pos (show ¬ nI o = nI g by rw [y_eq (by omega) (by omega)]; exact c2)]
    have eM : f_M_pairing_l45 FN (n2 + 1) (nI o) (nI S) m' = if o = lowB S then some (nI g, m') else if o = g then some (nI (lowB S), m') else f_M_pairing_l45 FN n2 (nI o) (nI (wo S (lowB S) g)) m' := by
      conv => lhs; unfold f_M_pairing_l45
      rw [firstM hS h0, bs, nme, y_s]
      exact L
    rw [eX, eM]
    by_cases c1 : o = lowB S
    · rw [if_pos c1, if_pos c1]; exact ⟨_, rfl, rfl⟩
    · rw [if_neg c1, if_neg c1]
      by_cases c2 : o = g
      · rw [if_pos c2, if_pos c2]; exact ⟨_, rfl, rfl⟩
      · have b6 := mk6 hS l2 k2 ho l1 k3 (by omega) bo c1 c2
        have hw : wo S (lowB S) g = 0 := by
          by_cases z : wo S (lowB S) g = 0
          · exact z
          · have := (pop_b _ (show wo S (lowB S) g < 256 by omega)).2 z
            omega
        rw [hw] at b6
        unfold bN at b6
        simp at b6
  | succ P ih =>
    intro S n n' hP hn hn' hS bo hpop hev
    obtain ⟨n1, rfl⟩ : ∃ n1, n = n1 + 1 := ⟨n - 1, by omega⟩
    obtain ⟨n2, rfl⟩ : ∃ n2, n' = n2 + 1 := ⟨n' - 1, by omega⟩
    have h0 : S ≠ 0 := fun q => by subst q; unfold bN at bo; simp at bo
    obtain ⟨l1, l2, l3⟩ := (mk2 S hS).resolve_left h0
    obtain ⟨g, q1, q2⟩ := bestX hM hB hS h0 hP hpop hev
    have q2' := q2
    obtain ⟨k1, k2, k3, k4, k5⟩ := q2'
    obtain ⟨w1, w2, w3, w4⟩ := mk3 hS l2 k2 l1 k3 (by omega)
    have L := l57_j hB e hT hS h0 hev ho q2 (f_M_pairing_l45 FN n2) (g - (lowB S + 1)) FN (lowB S + 1) (by omega) (FN_lt (by omega)) (by omega)
    have ng : ¬ nI g = -1 := fun q => by
      have := congrArg Int32.toInt q
      rw [nI_t (by omega), show (-1 : Int32).toInt = -1 from rfl] at this; omega
    have eX : f_X_mateInPairing_l5 FN x (n1 + 1) (nI o) (nI S) (nI (P + 1 + 1)) = if o = lowB S then some (nI g) else if o = g then some (nI (lowB S)) else f_X_mateInPairing_l5 FN x n1 (nI o) (nI (wo S (lowB S) g)) (nI (P + 1)) := by
      conv => lhs; unfold f_X_mateInPairing_l5
      rw [if_neg (show ¬ nI (P + 1 + 1) ≤ 0 by show ¬ nI (P + 1 + 1) ≤ nI 0; rw [y_le (by omega) (by omega)]; omega), if_neg (fun q => h0 ((nI0 (by omega)).mp q)), l3, bs, q1, bs, if_pos ng, w1, nme, nme, (sp1 (P + 1)).1]
      by_cases c1 : o = lowB S
      · rw [if_pos c1, if_neg (not_not_intro (by rw [c1]))]
      · rw [if_neg c1, if_pos (show ¬ nI o = nI (lowB S) by rw [y_eq (by omega) (by omega)]; exact c1)]
        by_cases c2 : o = g
        · rw [if_pos c2, if_neg (not_not_intro (by rw [c2]))]
        · rw [if_neg c2, if_pos (show ¬ nI o = nI g by rw [y_eq (by omega) (by omega)]; exact c2)]
    have eM : f_M_pairing_l45 FN (n2 + 1) (nI o) (nI S) m' = if o = lowB S then some (nI g, m') else if o = g then some (nI (lowB S), m') else f_M_pairing_l45 FN n2 (nI o) (nI (wo S (lowB S) g)) m' := by
      conv => lhs; unfold f_M_pairing_l45
      rw [firstM hS h0, bs, nme, y_s]
      exact L
    rw [eX, eM]
    by_cases c1 : o = lowB S
    · rw [if_pos c1, if_pos c1]; exact ⟨_, rfl, rfl⟩
    · rw [if_neg c1, if_neg c1]
      by_cases c2 : o = g
      · rw [if_pos c2, if_pos c2]; exact ⟨_, rfl, rfl⟩
      · rw [if_neg c2, if_neg c2]
        exact ih _ n1 n2 (by omega) (by omega) (by omega) (by omega) (mk6 hS l2 k2 ho l1 k3 (by omega) bo c1 c2) (by omega) (by omega)
theorem s_pairing {c n : Nat} {μ1 μ2 : Mem} (h : Inv c n μ1 μ2) (hc : c < 512) (a1 : Int32) (a2 : Int32) : ∃ (r : Int32) (ν2 : Mem), f_X_pairing FN μ1 a1 a2 = some r ∧ f_M_pairing FN μ2 a1 a2 = some (r, ν2) ∧ Inv (c + 1) n μ1 ν2 := by
  have hM := h.m
  have hB : mtB μ2 := fun i hi => by
    have := (hM i hi).2
    unfold bt at this
    omega
  unfold f_X_pairing f_M_pairing
  rw [bw, bn2]
  simp only [bw, bn2, bOw, bOn, nme, b2s, bs, zn10, zn01, ze10, ze00, ze01, ze11, if_true, if_false, not_true_eq_false, not_false_eq_true, l32_0, l32_1, l32_2, l32_3, l32_4, l32_5, l32_7, l32_8, l32_9, l32_12, l32_20, l32_24, l32_25, l32_30, l32_31, l32_35, l32_40, l32_50, l32_60, l32_100, l32_120, l32_200, l32_255, l32_400, l32_m1, l32_m9, l32_m20, l32_m30, l32_m31, l64_0, l64_1, l64_2, l64_3, l64_4, l64_5, l64_7, l64_8, l64_9, l64_12, l64_20, l64_24, l64_25, l64_30, l64_31, l64_35, l64_40, l64_50, l64_60, l64_100, l64_120, l64_200, l64_255, l64_400, l64_m1, l64_m9, l64_m20, l64_m30, l64_m31]
  by_cases c1 : 1 ≤ a1.toInt ∧ a1.toInt ≤ 255
  · obtain ⟨S, hS, rfl⟩ := toN (v := a1) (n := 256) (by omega) (by omega)
    have pb := (pop_b S hS).1
    rw [if_pos c1, if_pos c1, (mk4 S hS).1, ones_e hS, bs, bs]
    by_cases c2 : pop S % 2 = 0
    · have z := (mk5 _ (show pop S < 9 by omega)).mpr c2
      rw [if_pos z, if_neg (not_not_intro z)]
      by_cases c3 : 0 ≤ a2.toInt ∧ a2.toInt ≤ 7
      · obtain ⟨o, ho, rfl⟩ := toN (v := a2) (n := 8) (by omega) (by omega)
        rw [if_pos c3, if_pos c3, mk1 S hS o ho]
        by_cases c4 : bN S o
        · simp only [if_pos c4, bw, bn2, bOw, bOn, nme, b2s, bs, zn10, zn01, ze10, ze00, ze01, ze11, if_true, if_false, not_true_eq_false, not_false_eq_true, l32_0, l32_1, l32_2, l32_3, l32_4, l32_5, l32_7, l32_8, l32_9, l32_12, l32_20, l32_24, l32_25, l32_30, l32_31, l32_35, l32_40, l32_50, l32_60, l32_100, l32_120, l32_200, l32_255, l32_400, l32_m1, l32_m9, l32_m20, l32_m30, l32_m31, l64_0, l64_1, l64_2, l64_3, l64_4, l64_5, l64_7, l64_8, l64_9, l64_12, l64_20, l64_24, l64_25, l64_30, l64_31, l64_35, l64_40, l64_50, l64_60, l64_100, l64_120, l64_200, l64_255, l64_400, l64_m1, l64_m9, l64_m20, l64_m30, l64_m31]
          obtain ⟨m', q1, q2, q3⟩ := findP hB
          obtain ⟨r, w1, w2⟩ := mate_j hM hB q2 q3 ho 3 S FN FN (by omega) (FN_lt (by omega)) (FN_lt (by omega)) hS c4 (by omega) c2
          have w1' : f_X_mateInPairing FN μ1 (nI S) (nI o) = some r := w1
          rw [w1', q1, bs, bs]
          exact ⟨r, m', rfl, w2, h.cg EqOn.rf (q2.mono (fun a k p => by
            unfold perM at p; unfold n43
            unfold qCs qTop qStr qBow qDen qBou qWhi qCho qPas qGam qLas qMet qFin qShe at p
            omega))⟩
        · simp only [if_neg c4, bw, bn2, bOw, bOn, nme, b2s, bs, zn10, zn01, ze10, ze00, ze01, ze11, if_true, if_false, not_true_eq_false, not_false_eq_true, l32_0, l32_1, l32_2, l32_3, l32_4, l32_5, l32_7, l32_8, l32_9, l32_12, l32_20, l32_24, l32_25, l32_30, l32_31, l32_35, l32_40, l32_50, l32_60, l32_100, l32_120, l32_200, l32_255, l32_400, l32_m1, l32_m9, l32_m20, l32_m30, l32_m31, l64_0, l64_1, l64_2, l64_3, l64_4, l64_5, l64_7, l64_8, l64_9, l64_12, l64_20, l64_24, l64_25, l64_30, l64_31, l64_35, l64_40, l64_50, l64_60, l64_100, l64_120, l64_200, l64_255, l64_400, l64_m1, l64_m9, l64_m20, l64_m30, l64_m31]
          exact ⟨_, _, rfl, rfl, Inv_next h⟩
      · rw [if_neg c3, if_neg c3]
        exact ⟨_, _, rfl, rfl, Inv_next h⟩
    · have z := fun q => c2 ((mk5 _ (show pop S < 9 by omega)).mp q)
      rw [if_neg z, if_pos z]
      exact ⟨_, _, rfl, rfl, Inv_next h⟩
  · rw [if_neg c1, if_neg c1]
    exact ⟨_, _, rfl, rfl, Inv_next h⟩

/-- entries as the choice has them -/
def ent (a : Nat → Nat → Int64) : Prop := ∀ i j, i < 4 → j < 4 → 11 ≤ (a i j).toInt ∧ (a i j).toInt ≤ 29
theorem rl_ent {a : Nat → Nat → Int64} (ha : ent a) : ∀ i j, i < 4 → j < 4 → rl (a i j) (((a i j).toInt : Int) : Rat) 29 := by
  intro i j hi hj
  have h := ha i j hi hj
  exact ⟨rfl, by omega, by omega⟩
theorem rl_pT {a : Nat → Nat → Int64} {a' : Nat → Nat → Rat} (ha : ∀ i j, i < 4 → j < 4 → rl (a i j) (a' i j) 29) {R C : Nat} (hR : R < 16) : rl (pT a R C) (sr (fun k => sr (cfR a' R C k) 4) 4) 24974336 := by
  unfold pT
  exact rl_mono (rl_sum (f := fun k => sm (cfX a R C k) 4) (f' := fun k => sr (cfR a' R C k) 4) (B := 6243584) (by omega) 4 (fun k hk => rl_mono (rl_sum (f := cfX a R C k) (f' := cfR a' R C k) (B := 1560896) (by omega) 4 (fun j _ => rl_cf ha hR hk) (by decide)) (by decide)) (by decide)) (by decide)
theorem nT_nn {a : Nat → Nat → Int64} (ha : ent a) {R C : Nat} (hR : R < 16) : (0 : Int64) ≤ nT a R C := by
  have t := rl_pT (rl_ent ha) (C := C) hR
  unfold nT nrm
  by_cases c : (0 : Int64) ≤ pT a R C
  · rw [if_pos c]
    exact c
  · rw [if_neg c]
    have n := rl_neg t (by decide)
    have c' := c
    rw [rl_le rl_0 t] at c'
    rw [rl_le rl_0 n]
    grind
theorem posT_e {a : Nat → Nat → Int64} (ha : ent a) {r c : Nat} (hr : r ≤ 4) : posT a r c := by
  intro R C hR _ _
  have p := p2_16 hr
  exact nT_nn ha (by omega)
theorem nrm_p {t v : Int64} (h : (0 : Int64) ≤ t) : nrm t v = v := by
  unfold nrm
  rw [if_pos h]
theorem nrm_n {t v : Int64} (h : ¬ (0 : Int64) ≤ t) : nrm t v = -v := by
  unfold nrm
  rw [if_neg h]
/-- every choice has a part that serves -/
theorem ok_ex {a : Nat → Nat → Int64} {r c : Nat} (hr1 : 1 ≤ r) (hr : r ≤ 4) (hc1 : 1 ≤ c) (hc : c ≤ 4) (ha : ent a) : ∃ R C, R < 2 ^ r ∧ C < 2 ^ c ∧ pop R = pop C ∧ 1 ≤ R ∧ 1 ≤ C ∧ okN a r c R C := by
  obtain ⟨a', ea⟩ : ∃ a' : Nat → Nat → Rat, a' = fun i j => (((a i j).toInt : Int) : Rat) := ⟨_, rfl⟩
  have la : ∀ i j, i < 4 → j < 4 → rl (a i j) (a' i j) 29 := by
    rw [ea]
    exact rl_ent ha
  have l1 : ∀ i j, i < 4 → j < 4 → 1 ≤ a' i j := by
    intro i j hi hj
    have h : ((1 : Int) : Rat) ≤ (((a i j).toInt : Int) : Rat) := Rat.intCast_le_intCast.2 (by have := ha i j hi hj; omega)
    rw [ea]
    exact h
  have l29 : ∀ i j, i < 4 → j < 4 → a' i j ≤ 29 := by
    intro i j hi hj
    have h : (((a i j).toInt : Int) : Rat) ≤ ((29 : Int) : Rat) := Rat.intCast_le_intCast.2 (by have := ha i j hi hj; omega)
    rw [ea]
    exact h
  obtain ⟨R, C, w, u, h1, h2, h3, h4, h5, h6, h7, h8, h9, h10⟩ := lp_part (a := a') hr1 hr hc l1
  have p1 := p2_16 hr
  have p2 := p2_16 hc
  have hR : R < 16 := by omega
  have hC : C < 16 := by omega
  have u1 := h8 0 (by omega)
  have R0 : R ≠ 0 := by
    intro z
    subst z
    have n : sr (fun i => a' i 0 * u i) 4 = 0 := sr_zero 4 (fun i hi => by
      show a' i 0 * u i = 0
      rw [(h7 i hi).2 (by show ¬ 0 / 2 ^ i % 2 = 1; rw [Nat.zero_div]; omega)]
      grind)
    rw [n] at u1
    grind
  have C0 : C ≠ 0 := by
    intro z
    subst z
    exact R0 (((mk8 R hR).2.1).1 h3)
  refine ⟨R, C, h1, h2, h3, by omega, by omega, ?_⟩
  obtain ⟨cD, cw, cu⟩ := cr_all hR hC h3 (by omega) l1 h6 (fun j hj => (h4 j hj).2) h9 (fun i hi => (h7 i hi).2) h10
  obtain ⟨D, eD⟩ : ∃ D, D = dR a' (pop R) R C := ⟨_, rfl⟩
  rw [← eD] at cD cw cu
  have U1 : 0 < sr u 4 := by
    have m : ∀ i, i < 4 → a' i 0 * u i ≤ 29 * u i := fun i hi => Rat.mul_le_mul_of_nonneg_right (l29 i 0 hi (by omega)) (h7 i hi).1
    have m0 := m 0 (by omega)
    have m1 := m 1 (by omega)
    have m2 := m 2 (by omega)
    have m3 := m 3 (by omega)
    simp only [sr] at u1
    simp only [sr]
    grind
  obtain ⟨U, eU⟩ : ∃ U, U = sr u 4 := ⟨_, rfl⟩
  rw [← eU] at U1
  have p4 := (mk8 R hR).2.2
  have lT : rl (pT a R C) (D * U) 24974336 := by
    have t := rl_pT la (C := C) hR
    rw [sr_ext 4 (fun k hk => (cu k hk).symm), sr_mul, ← eU] at t
    exact t
  have lD : rl (dD a (pop R) R C) D 181063936 := by
    have t := rl_d la (pop R) p4 R C hR rfl
    rw [← eD] at t
    have b : ∀ s, s < 5 → pb s ≤ 181063936 := by decide
    exact rl_mono t (b _ (by omega))
  have lR : ∀ i, i < 4 → rl (sm (cfX a R C i) 4) (D * u i) 6243584 := by
    intro i hi
    rw [cu i hi]
    exact rl_mono (rl_sum (f := cfX a R C i) (f' := cfR a' R C i) (B := 1560896) (by omega) 4 (fun j _ => rl_cf la hR hi) (by decide)) (by decide)
  have lC : ∀ j, j < 4 → rl (sm (fun o => cfX a R C o j) 4) (D * w j) 6243584 := by
    intro j hj
    rw [cw j hj]
    exact rl_mono (rl_sum (f := fun o => cfX a R C o j) (f' := fun o => cfR a' R C o j) (B := 1560896) (by omega) 4 (fun o ho => rl_cf la hR ho) (by decide)) (by decide)
  have key : ∃ E : Rat, 0 < E ∧ rl (nT a R C) (E * U) 24974336 ∧ rl (nD a R C) E 181063936 ∧ (∀ i, i < 4 → rl (nRS a R C i) (E * u i) 6243584) ∧ ∀ j, j < 4 → rl (nCS a R C j) (E * w j) 6243584 := by
    by_cases dp : 0 < D
    · have t : (0 : Int64) ≤ pT a R C := by
        rw [rl_le rl_0 lT]
        have q := Rat.mul_pos dp U1
        grind
      refine ⟨D, dp, ?_, ?_, fun i hi => ?_, fun j hj => ?_⟩
      · unfold nT; rw [nrm_p t]; exact lT
      · unfold nD; rw [nrm_p t]; exact lD
      · unfold nRS; rw [nrm_p t]; exact lR i hi
      · unfold nCS; rw [nrm_p t]; exact lC j hj
    · have dn : 0 < -D := by grind
      have t : ¬ (0 : Int64) ≤ pT a R C := by
        rw [rl_le rl_0 lT]
        have q := Rat.mul_pos dn U1
        grind
      have ng : ∀ x : Rat, -D * x = -(D * x) := by
        intro x
        grind
      refine ⟨-D, dn, ?_, ?_, fun i hi => ?_, fun j hj => ?_⟩
      · unfold nT; rw [nrm_n t, ng]; exact rl_neg lT (by decide)
      · unfold nD; rw [nrm_n t]; exact rl_neg lD (by decide)
      · unfold nRS; rw [nrm_n t, ng]; exact rl_neg (lR i hi) (by decide)
      · unfold nCS; rw [nrm_n t, ng]; exact rl_neg (lC j hj) (by decide)
  obtain ⟨E, E0, kT, kD, kR, kC⟩ := key
  refine ⟨fun z => ?_, fun j _ hj => ⟨?_, ?_⟩, fun k _ hk => ?_, fun k _ hk => ?_⟩
  · have q := Rat.mul_pos E0 U1
    have e := kT.1
    rw [z] at e
    have e' : E * U = 0 := e
    rw [e'] at q
    exact absurd q (by decide)
  · rw [n64, rl_le rl_0 (kR j hj)]
    exact Rat.mul_nonneg (by grind) (h7 j hj).1
  · rw [rl_le rl_0 (kC j hj)]
    exact Rat.mul_nonneg (by grind) (h4 j hj).1
  · have c4 : (c : Int) * (29 * 6243584) ≤ 4611686018427387904 := by omega
    have t := rl_sum (f := fun j => a k j * nCS a R C j) (f' := fun j => a' k j * (E * w j)) (B := 29 * 6243584) (by omega) c (fun j hj => rl_mul (la k j (by omega) (by omega)) (kC j (by omega)) (by omega)) c4
    rw [rl_le t kD]
    have ct := sr_cut (f := fun j => a' k j * (E * w j)) (c := c) (4 - c) (fun j g1 g2 => by
      show a' k j * (E * w j) = 0
      rw [(h4 j (by omega)).2 (mkXc hc h2 (by omega) g1)]
      grind)
    rw [show c + (4 - c) = 4 by omega] at ct
    rw [← ct, sr_ext (g := fun j => E * (a' k j * w j)) 4 (fun j _ => by grind), sr_mul]
    have y := Rat.mul_le_mul_of_nonneg_left (h5 k hk) (show 0 ≤ E by grind)
    grind
  · have c4 : (r : Int) * (29 * 6243584) ≤ 4611686018427387904 := by omega
    have t := rl_sum (f := fun i => a i k * nRS a R C i) (f' := fun i => a' i k * (E * u i)) (B := 29 * 6243584) (by omega) r (fun j hj => rl_mul (la j k (by omega) (by omega)) (kR j (by omega)) (by omega)) c4
    rw [rl_le kD t]
    have ct := sr_cut (f := fun i => a' i k * (E * u i)) (c := r) (4 - r) (fun j g1 g2 => by
      show a' j k * (E * u j) = 0
      rw [(h7 j (by omega)).2 (mkXc hr h1 (by omega) g1)]
      grind)
    rw [show r + (4 - r) = 4 by omega] at ct
    rw [← ct, sr_ext (g := fun i => E * (a' i k * u i)) 4 (fun j _ => by grind), sr_mul]
    have y := Rat.mul_le_mul_of_nonneg_left (h8 k hk) (show 0 ≤ E by grind)
    grind
theorem least {p : Nat → Prop} : ∀ n, p n → ∃ m, p m ∧ ∀ k, k < m → ¬ p k := by
  intro n
  induction n using Nat.strongRecOn with
  | ind n ih =>
    intro h
    by_cases c : ∃ k, k < n ∧ p k
    · obtain ⟨k, k1, k2⟩ := c
      exact ih k k1 k2
    · exact ⟨n, h, fun k k1 k2 => c ⟨k, k1, k2⟩⟩
/-- the first part that serves -/
theorem fst_ex {a : Nat → Nat → Int64} {r c : Nat} (hr1 : 1 ≤ r) (hr : r ≤ 4) (hc1 : 1 ≤ c) (hc : c ≤ 4) (ha : ent a) : ∃ s R C, fstP a r c s R C := by
  obtain ⟨R0, C0, a1, a2, a3, a4, a5, a6⟩ := ok_ex hr1 hr hc1 hc ha
  have p1 := p2_16 hr
  have p2 := p2_16 hc
  obtain ⟨n, ⟨R, C, e, b1, b2, b3, b4, b5, b6⟩, hm⟩ := least (p := fun n => ∃ R C, n = pop R * 256 + R * 16 + C ∧ R < 2 ^ r ∧ C < 2 ^ c ∧ pop R = pop C ∧ 1 ≤ R ∧ 1 ≤ C ∧ okN a r c R C) _ ⟨R0, C0, rfl, a1, a2, a3, a4, a5, a6⟩
  have pp := (mk8 R (by omega)).2
  have pn : pop R ≠ 0 := fun z => by
    have y := pp.1.1 z
    omega
  refine ⟨pop R, R, C, by omega, pp.2, b4, b1, b5, b2, rfl, b3.symm, b6, fun s' R' C' g1 g2 g3 g4 g5 g6 g7 g8 g9 => ?_⟩
  exact hm (pop R' * 256 + R' * 16 + C') (by omega) ⟨R', C', rfl, g3, g5, by omega, g2, g4, g9⟩

def N0 (v : Nat) : Bool := decide (v < 4) || decide (v = 8)
def P0 (a : Nat → Nat → Rat) (j k : Nat) : Rat := if j = 8 then (if k < 4 then 0 else if k < 9 then 1 else 0) else (if k < 4 then (if k = j then 1 else 0) else if k < 8 then -(a (k - 4) j) else if k = 8 then 0 else 1)
def Q0 (a : Nat → Nat → Rat) (e k : Nat) : Rat := if e = 9 then (if k < 4 then -1 else if k < 9 then 0 else 1) else (if k < 4 then a (e - 4) k else if k < 8 then (if k = e then 1 else 0) else if k = 8 then -1 else 0)
theorem N0_t {j : Nat} (hj : j < 10) (h : N0 j = true) : j = 0 ∨ j = 1 ∨ j = 2 ∨ j = 3 ∨ j = 8 := by
  unfold N0 at h
  rw [Bool.or_eq_true, decide_eq_true_eq, decide_eq_true_eq] at h
  omega
theorem N0_f {j : Nat} (hj : j < 10) (h : N0 j = false) : j = 4 ∨ j = 5 ∨ j = 6 ∨ j = 7 ∨ j = 9 := by
  unfold N0 at h
  rw [Bool.or_eq_false_iff, decide_eq_false_iff_not, decide_eq_false_iff_not] at h
  omega
theorem bas0 (a : Nat → Nat → Rat) : bas a N0 (P0 a) (Q0 a) := by
  refine ⟨rfl, rfl, fun j hj nj => ?_, fun e he ne => ?_⟩
  · have hj' := N0_t hj nj
    refine ⟨⟨fun i hi => ?_, ?_⟩, fun k hk nk => ?_⟩
    · have hi' : i = 0 ∨ i = 1 ∨ i = 2 ∨ i = 3 := by omega
      rcases hj' with e | e | e | e | e <;> subst e <;> rcases hi' with f | f | f | f <;> subst f <;> simp [P0, sr] <;> grind
    · rcases hj' with e | e | e | e | e <;> subst e <;> simp [P0, sr] <;> grind
    · have hk' := N0_t hk nk
      rcases hj' with e | e | e | e | e <;> subst e <;> rcases hk' with f | f | f | f | f <;> subst f <;> simp [P0]
  · have he' := N0_f he ne
    refine ⟨fun X hX => ?_, fun k hk nk => ?_⟩
    · have h0 := hX.1 0 (by omega)
      have h1 := hX.1 1 (by omega)
      have h2 := hX.1 2 (by omega)
      have h3 := hX.1 3 (by omega)
      have h9 := hX.2
      simp only [sr] at h0 h1 h2 h3 h9
      rcases he' with f | f | f | f | f <;> subst f <;> simp [dot, Q0, sr] <;> grind
    · have hk' := N0_f hk nk
      rcases he' with f | f | f | f | f <;> subst f <;> rcases hk' with f | f | f | f | f <;> subst f <;> simp [Q0]
theorem lp_end {a : Nat → Nat → Rat} {r c : Nat} (hr1 : 1 ≤ r) (hr : r ≤ 4) (hc : c ≤ 4) (ha : ∀ i j, i < 4 → j < 4 → 1 ≤ a i j) : ∃ N P Q, bas a N P Q ∧ cnt N = cnt N0 ∧ (∀ j, j < 4 → c ≤ j → N j = true) ∧ (∀ i, i < 4 → r ≤ i → N (4 + i) = false) ∧ tO (fun v => (v < 4 ∧ v < c) ∨ (4 ≤ v ∧ v < 4 + r)) N P Q := by
  obtain ⟨N, P, Q, h, s, c1, t⟩ := lp_claim (a := a) (fun v => (v < 4 ∧ v < c) ∨ (4 ≤ v ∧ v < 4 + r)) 8 (by omega) N0 (P0 a) (Q0 a) (bas0 a)
  have sj : ∀ j, j < 4 → c ≤ j → N j = true := by
    intro j h1 h2
    rw [s j (by omega) (by omega)]
    unfold N0
    rw [Bool.or_eq_true, decide_eq_true_eq, decide_eq_true_eq]
    omega
  have si : ∀ i, i < 4 → r ≤ i → N (4 + i) = false := by
    intro i h1 h2
    rw [s (4 + i) (by omega) (by omega)]
    unfold N0
    rw [Bool.or_eq_false_iff, decide_eq_false_iff_not, decide_eq_false_iff_not]
    omega
  refine ⟨N, P, Q, h, c1, sj, si, ?_⟩
  rcases t with t | ⟨f, f1, f2, f3, f4, f5⟩ | ⟨f, f1, f2, f3, f4, f5⟩
  · exact ⟨fun k hk fk => t.1 k hk ⟨hk, fk⟩, fun k hk fk => t.2 k hk ⟨hk, fk⟩⟩
  · exfalso
    have d : dot (P0 a 8) (Q f) = 0 := (h.2.2.2 f (by omega) f3).1 _ ((bas0 a).2.2.1 8 (by omega) rfl).1
    have q := bas_pq h (show 8 < 10 by omega) (show f < 10 by omega) h.1 f3
    have g : ∀ i, i < 4 → 0 ≤ Q f (4 + i) := by
      intro i hi
      cases b : N (4 + i) with
      | true =>
        have ir : i < r := Classical.byContradiction fun z => by
          have y := si i hi (by omega)
          rw [b] at y
          cases y
        exact f5 (4 + i) (by omega) ⟨by omega, Or.inr ⟨by omega, by omega⟩⟩ b
      | false =>
        rw [(h.2.2.2 f (by omega) f3).2 (4 + i) (by omega) b]
        split <;> grind
    have g0 := g 0 (by omega)
    have g1 := g 1 (by omega)
    have g2 := g 2 (by omega)
    have g3 := g 3 (by omega)
    simp [dot, P0, sr] at d
    simp at g0 g1 g2 g3
    grind
  · exfalso
    have q := bas_pq h (show f < 10 by omega) (show 9 < 10 by omega) f3 h.2.1
    have p8 : P f 8 = 0 := bas_P0 h (by omega) (by omega) f3 h.1 (by omega)
    have L := (h.2.2.1 f (by omega) f3).1
    have g : ∀ j, j < 4 → 0 ≤ P f j := by
      intro j hj
      cases b : N j with
      | true =>
        rw [(h.2.2.1 f (by omega) f3).2 j (by omega) b]
        split <;> grind
      | false =>
        have jc : j < c := Classical.byContradiction fun z => by
          have y := sj j hj (by omega)
          rw [b] at y
          cases y
        exact f5 j (by omega) ⟨by omega, Or.inl ⟨hj, jc⟩⟩ b
    have g4 : 0 ≤ P f 4 := by
      cases b : N 4 with
      | true =>
        rw [(h.2.2.1 f (by omega) f3).2 4 (by omega) b]
        split <;> grind
      | false => exact f5 4 (by omega) ⟨by omega, Or.inr ⟨by omega, by omega⟩⟩ b
    have l0 := L.1 0 (by omega)
    have l9 := L.2
    have m : ∀ j, j < 4 → P f j ≤ a 0 j * P f j := by
      intro j hj
      have y := Rat.mul_le_mul_of_nonneg_right (ha 0 j (by omega) hj) (g j hj)
      grind
    have m0 := m 0 (by omega)
    have m1 := m 1 (by omega)
    have m2 := m 2 (by omega)
    have m3 := m 3 (by omega)
    simp only [sr] at l0 l9
    simp at l0
    grind
def mkb (b0 b1 b2 b3 : Bool) : Nat := b0.toNat + 2 * b1.toNat + 4 * b2.toNat + 8 * b3.toNat
theorem mkb_bn : ∀ b0 b1 b2 b3 : Bool, decide (bN (mkb b0 b1 b2 b3) 0) = b0 ∧ decide (bN (mkb b0 b1 b2 b3) 1) = b1 ∧ decide (bN (mkb b0 b1 b2 b3) 2) = b2 ∧ decide (bN (mkb b0 b1 b2 b3) 3) = b3 ∧ mkb b0 b1 b2 b3 < 16 ∧ pop (mkb b0 b1 b2 b3) = b0.toNat + b1.toNat + b2.toNat + b3.toNat := by decide +kernel
theorem mkb_i {b : Nat → Bool} {i : Nat} (hi : i < 4) : bN (mkb (b 0) (b 1) (b 2) (b 3)) i ↔ b i = true := by
  obtain ⟨h0, h1, h2, h3, _⟩ := mkb_bn (b 0) (b 1) (b 2) (b 3)
  have hi' : i = 0 ∨ i = 1 ∨ i = 2 ∨ i = 3 := by omega
  rcases hi' with e | e | e | e <;> subst e
  · exact ⟨fun z => h0.symm.trans (decide_eq_true z), fun z => of_decide_eq_true (h0.trans z)⟩
  · exact ⟨fun z => h1.symm.trans (decide_eq_true z), fun z => of_decide_eq_true (h1.trans z)⟩
  · exact ⟨fun z => h2.symm.trans (decide_eq_true z), fun z => of_decide_eq_true (h2.trans z)⟩
  · exact ⟨fun z => h3.symm.trans (decide_eq_true z), fun z => of_decide_eq_true (h3.trans z)⟩
theorem mkb_lt {b : Nat → Bool} {r : Nat} (hr : r ≤ 4) (h : ∀ i, i < 4 → r ≤ i → b i = false) : mkb (b 0) (b 1) (b 2) (b 3) < 2 ^ r := by
  have t : ∀ x : Bool, x.toNat ≤ 1 := by decide
  have t0 := t (b 0)
  have t1 := t (b 1)
  have t2 := t (b 2)
  have t3 := t (b 3)
  have f0 : r ≤ 0 → (b 0).toNat = 0 := fun z => by rw [h 0 (by omega) z]; rfl
  have f1 : r ≤ 1 → (b 1).toNat = 0 := fun z => by rw [h 1 (by omega) z]; rfl
  have f2 : r ≤ 2 → (b 2).toNat = 0 := fun z => by rw [h 2 (by omega) z]; rfl
  have f3 : r ≤ 3 → (b 3).toNat = 0 := fun z => by rw [h 3 (by omega) z]; rfl
  unfold mkb
  have hr' : r = 0 ∨ r = 1 ∨ r = 2 ∨ r = 3 ∨ r = 4 := by omega
  rcases hr' with e | e | e | e | e <;> subst e <;> simp only [Nat.reducePow] <;> omega
theorem cnt_e : ∀ b0 b1 b2 b3 b4 b5 b6 b7 : Bool, (0 + (if b0 = true then (1 : Rat) else 0) + (if b1 = true then 1 else 0) + (if b2 = true then 1 else 0) + (if b3 = true then 1 else 0) + (if b4 = true then 1 else 0) + (if b5 = true then 1 else 0) + (if b6 = true then 1 else 0) + (if b7 = true then 1 else 0) = 4) → b4.toNat + b5.toNat + b6.toNat + b7.toNat = (!b0).toNat + (!b1).toNat + (!b2).toNat + (!b3).toNat := by decide +kernel
theorem cnt0 : cnt N0 = 4 := by decide +kernel
/-- what the linear programme gives: a part, with its weights for columns and rows -/
def lpP (a : Nat → Nat → Rat) (r c R C : Nat) (w u : Nat → Rat) : Prop := R < 2 ^ r ∧ C < 2 ^ c ∧ pop R = pop C ∧ (∀ j, j < 4 → 0 ≤ w j ∧ (¬ bN C j → w j = 0)) ∧ (∀ i, i < r → sr (fun j => a i j * w j) 4 ≤ 1) ∧ (∀ i, i < 4 → bN R i → sr (fun j => a i j * w j) 4 = 1) ∧ (∀ i, i < 4 → 0 ≤ u i ∧ (¬ bN R i → u i = 0)) ∧ (∀ j, j < c → 1 ≤ sr (fun i => a i j * u i) 4) ∧ (∀ j, j < 4 → bN C j → sr (fun i => a i j * u i) 4 = 1) ∧ ∀ z : Nat → Rat, (∀ j, j < 4 → ¬ bN C j → z j = 0) → (∀ i, i < 4 → bN R i → sr (fun j => a i j * z j) 4 = 0) → ∀ j, j < 4 → z j = 0
theorem lp_part {a : Nat → Nat → Rat} {r c : Nat} (hr1 : 1 ≤ r) (hr : r ≤ 4) (hc : c ≤ 4) (ha : ∀ i j, i < 4 → j < 4 → 1 ≤ a i j) : ∃ R C w u, lpP a r c R C w u := by
  obtain ⟨N, P, Q, h, c1, sj, si, t1, t2⟩ := lp_end hr1 hr hc ha
  rw [cnt0] at c1
  have c2 := cnt_e _ _ _ _ _ _ _ _ c1
  have eR : ∀ i, i < 4 → (bN (mkb (N 4) (N 5) (N 6) (N 7)) i ↔ N (4 + i) = true) := fun i hi => mkb_i (b := fun i => N (4 + i)) hi
  have eC : ∀ j, j < 4 → (bN (mkb (!N 0) (!N 1) (!N 2) (!N 3)) j ↔ N j = false) := fun j hj => by
    rw [mkb_i (b := fun i => !N i) hj]
    simp
  have x8 : P 8 8 = 1 := bas_P1 h (by omega) h.1
  have y9 : Q 9 9 = 1 := bas_Q1 h (by omega) h.2.1
  have L := (h.2.2.1 8 (by omega) h.1).1
  have M := (h.2.2.2 9 (by omega) h.2.1).1
  have pz : ∀ v, v < 8 → N v = true → P 8 v = 0 := fun v hv nv => bas_P0 h (by omega) (by omega) h.1 nv (by omega)
  have qz : ∀ v, v < 8 → N v = false → Q 9 v = 0 := fun v hv nv => bas_Q0 h (by omega) (by omega) h.2.1 nv (by omega)
  have qj : ∀ j, j < 4 → sr (fun i => a i j * Q 9 (4 + i)) 4 = Q 9 j + 1 := by
    intro j hj
    have d := M _ ((bas0 a).2.2.1 j (by omega) (by unfold N0; rw [Bool.or_eq_true, decide_eq_true_eq]; exact Or.inl hj)).1
    have hj' : j = 0 ∨ j = 1 ∨ j = 2 ∨ j = 3 := by omega
    rcases hj' with e | e | e | e <;> subst e <;> simp [dot, P0, sr] at d <;> simp [sr] <;> grind
  refine ⟨mkb (N 4) (N 5) (N 6) (N 7), mkb (!N 0) (!N 1) (!N 2) (!N 3), P 8, fun i => Q 9 (4 + i), ?_, ?_, ?_, ?_, ?_, ?_, ?_, ?_, ?_, ?_⟩
  · exact mkb_lt (b := fun i => N (4 + i)) hr (fun i hi h => si i hi h)
  · exact mkb_lt (b := fun i => !N i) hc (fun i hi h => by show (!N i) = false; rw [sj i hi h]; rfl)
  · rw [(mkb_bn _ _ _ _).2.2.2.2.2, (mkb_bn _ _ _ _).2.2.2.2.2]
    exact c2
  · intro j hj
    rw [eC j hj]
    cases b : N j with
    | true =>
      rw [pz j (by omega) b]
      exact ⟨by grind, fun _ => rfl⟩
    | false =>
      have jc : j < c := Classical.byContradiction fun z => by
        have y := sj j hj (by omega)
        rw [b] at y
        cases y
      exact ⟨t1 j (by omega) (Or.inl ⟨hj, jc⟩) b, fun z => absurd rfl z⟩
  · intro i hi
    have l := L.1 i (by omega)
    rw [x8] at l
    have g : 0 ≤ P 8 (4 + i) := by
      cases b : N (4 + i) with
      | true => rw [pz _ (by omega) b]; grind
      | false => exact t1 _ (by omega) (Or.inr ⟨by omega, by omega⟩) b
    grind
  · intro i hi b
    have l := L.1 i (by omega)
    rw [x8, pz _ (by omega) ((eR i hi).1 b)] at l
    grind
  · intro i hi
    show 0 ≤ Q 9 (4 + i) ∧ (_ → Q 9 (4 + i) = 0)
    rw [eR i hi]
    cases b : N (4 + i) with
    | true =>
      have ir : i < r := Classical.byContradiction fun z => by
        have y := si i hi (by omega)
        rw [b] at y
        cases y
      exact ⟨t2 (4 + i) (by omega) (Or.inr ⟨by omega, by omega⟩) b, fun z => absurd rfl z⟩
    | false =>
      rw [qz _ (by omega) b]
      exact ⟨by grind, fun _ => rfl⟩
  · intro j hj
    show 1 ≤ sr (fun i => a i j * Q 9 (4 + i)) 4
    rw [qj j (by omega)]
    have g : 0 ≤ Q 9 j := by
      cases b : N j with
      | true => exact t2 _ (by omega) (Or.inl ⟨by omega, by omega⟩) b
      | false => rw [qz _ (by omega) b]; grind
    grind
  · intro j hj b
    show sr (fun i => a i j * Q 9 (4 + i)) 4 = 1
    rw [qj j hj, qz j (by omega) ((eC j hj).1 b)]
    grind
  · intro z z1 z2 j hj
    by_cases b : bN (mkb (!N 0) (!N 1) (!N 2) (!N 3)) j
    · have b' := (eC j hj).1 b
      have hX : inL a (fun k => if k < 4 then z k else if k < 8 then - sr (fun j => a (k - 4) j * z j) 4 else if k = 8 then 0 else sr z 4) := by
        refine ⟨fun i hi => ?_, ?_⟩
        · have hi' : i = 0 ∨ i = 1 ∨ i = 2 ∨ i = 3 := by omega
          rcases hi' with e | e | e | e <;> subst e <;> simp [sr] <;> grind
        · simp [sr]
      have d := (h.2.2.2 j (by omega) b').1 _ hX
      unfold dot at d
      rw [sr_one (j := j) 10 (by omega) (fun k hk kj => ?_)] at d
      · have q1 := bas_Q1 h (show j < 10 by omega) b'
        simp only [if_pos hj, q1] at d
        grind
      · cases nk : N k with
        | false =>
          rw [bas_Q0 h (show j < 10 by omega) hk b' nk kj]
          grind
        | true =>
          have k9 : k ≠ 9 := tf_ne nk h.2.1
          by_cases y1 : k < 4
          · have e := z1 k y1 (fun y => by
              have y2 := (eC k y1).1 y
              rw [nk] at y2
              cases y2)
            simp only [if_pos y1, e]
            grind
          · by_cases y2 : k < 8
            · have e := z2 (k - 4) (by omega) ((eR (k - 4) (by omega)).2 (by rw [show 4 + (k - 4) = k by omega]; exact nk))
              simp only [if_neg y1, if_pos y2, e]
              grind
            · simp only [if_neg y1, if_neg y2, if_pos (show k = 8 by omega)]
              grind
    · exact z1 j hj b

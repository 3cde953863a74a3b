theorem tdm {a w : Int} (hw : 1 ≤ w) : (0 ≤ a → 0 ≤ a.tdiv w * w ∧ a.tdiv w * w ≤ a) ∧ (a ≤ 0 → a ≤ a.tdiv w * w ∧ a.tdiv w * w ≤ 0) := by
  have k : ∀ b : Int, 0 ≤ b → 0 ≤ b.tdiv w * w ∧ b.tdiv w * w ≤ b := by
    intro b hb
    rw [Int.tdiv_eq_ediv_of_nonneg hb]
    exact ⟨Int.mul_nonneg (Int.ediv_nonneg hb (by omega)) (by omega), Int.ediv_mul_le b (by omega)⟩
  refine ⟨k a, fun h => ?_⟩
  obtain ⟨k1, k2⟩ := k (-a) (by omega)
  rw [Int.neg_tdiv] at k1 k2
  have e : -(a.tdiv w) * w = -(a.tdiv w * w) := by grind
  omega
theorem xor_s {p t : Int64} (ht : 1 ≤ t.toInt) : (0 : Int64) ≤ (p ^^^ t) ↔ 0 ≤ p.toInt := by
  rw [Int64.le_iff_toInt_le]
  have e0 : (0 : Int64).toInt = 0 := rfl
  rw [e0]
  have m1 := BitVec.msb_eq_toInt (x := (p ^^^ t).toBitVec)
  have m2 := BitVec.msb_eq_toInt (x := p.toBitVec)
  have m3 := BitVec.msb_eq_toInt (x := t.toBitVec)
  have m : (p ^^^ t).toBitVec.msb = (p.toBitVec.msb ^^ t.toBitVec.msb) := by
    rw [Int64.toBitVec_xor, BitVec.msb_xor]
  rw [Int64.toInt_toBitVec] at m1 m2 m3
  rw [m1, m2, m3, decide_eq_false (show ¬ t.toInt < 0 by omega), Bool.xor_false] at m
  have y := decide_eq_decide.1 m
  omega
theorem fl_e {p t : Int64} (ht : 1 ≤ t.toInt) : f_JM_floorDiv p t = some (if (p / t) * t ≤ p then p / t else p / t - 1) := by
  have t0 : ¬ t = 0 := by
    intro z
    subst z
    exact absurd ht (by decide)
  have a1 : -9223372036854775808 ≤ p.toInt := p.le_toInt
  have a2 : p.toInt ≤ 9223372036854775807 := p.toInt_le
  obtain ⟨k1, k2⟩ := tdm (a := p.toInt) ht
  have e : ((p / t) * t).toInt = p.toInt.tdiv t.toInt * t.toInt := by
    have d := d64 (a := p) ht
    by_cases c : 0 ≤ p.toInt
    · have k := k1 c
      rw [m64 (by rw [d]; omega) (by rw [d]; omega), d]
    · have k := k2 (by omega)
      rw [m64 (by rw [d]; omega) (by rw [d]; omega), d]
  unfold f_JM_floorDiv
  rw [if_neg t0, nme]
  by_cases c : 0 ≤ p.toInt
  · have k := k1 c
    rw [if_pos ((xor_s ht).2 c), if_pos (by rw [Int64.le_iff_toInt_le, e]; omega)]
  · have k := k2 (by omega)
    rw [if_neg (fun z => c ((xor_s ht).1 z))]
    by_cases d : (p / t) * t = p
    · rw [if_pos d, if_pos (by rw [d, Int64.le_iff_toInt_le]; omega)]
    · rw [if_neg d, if_neg (fun z => d ?_)]
      rw [Int64.le_iff_toInt_le, e] at z
      apply Int64.toInt_inj.1
      rw [e]
      omega
theorem nrm_b {t v : Int64} {q : Rat} {B : Int} (h : rl v q B) (hb : B ≤ 4611686018427387904) : -B ≤ (nrm t v).toInt ∧ (nrm t v).toInt ≤ B := by
  unfold nrm
  by_cases c : (0 : Int64) ≤ t
  · rw [if_pos c]
    exact h.2
  · rw [if_neg c]
    exact (rl_neg h hb).2
theorem sh_b {a : Nat → Nat → Int64} (ha : ent a) {R C j : Nat} (hR : R < 16) (hj : j < 4) : (-6243584 ≤ (nRS a R C j).toInt ∧ (nRS a R C j).toInt ≤ 6243584) ∧ (-6243584 ≤ (nCS a R C j).toInt ∧ (nCS a R C j).toInt ≤ 6243584) := by
  constructor
  · exact nrm_b (rl_mono (rl_sum (f := cfX a R C j) (f' := cfR _ R C j) (B := 1560896) (by omega) 4 (fun o _ => rl_cf (rl_ent ha) hR hj) (by decide)) (by decide)) (by decide)
  · exact nrm_b (rl_mono (rl_sum (f := fun o => cfX a R C o j) (f' := fun o => cfR _ R C o j) (B := 1560896) (by omega) 4 (fun o ho => rl_cf (rl_ent ha) hR ho) (by decide)) (by decide)) (by decide)
/-- both sides solve the choice alike -/
theorem mix_j {c n r cc : Nat} {x m : Mem} (h : Inv c n x m) (hr : gI x 23 0 = nI r) (hcc : gI x 23 1 = nI cc) (r1 : 1 ≤ r) (r4 : r ≤ 4) (c1 : 1 ≤ cc) (c4 : cc ≤ 4) : ∃ (x' m' : Mem) (T D : Int64) (RS CS : Nat → Int64), f_Ch_solve FN x = some x' ∧ f_M_findMix FN m = some (1, m') ∧ Inv c n x' m' ∧ gL x' 23 8 = T ∧ gL m' 0 46 = T ∧ gL x' 23 9 = D ∧ gL m' 0 47 = D ∧ 1 ≤ T.toInt ∧ ∀ j, j < 4 → gL x' 31 j = RS j ∧ gL m' 34 j = RS j ∧ gL x' 32 j = CS j ∧ gL m' 35 j = CS j ∧ 0 ≤ (RS j).toInt ∧ (RS j).toInt ≤ 6243584 ∧ 0 ≤ (CS j).toInt ∧ (CS j).toInt ≤ 6243584 := by
  obtain ⟨t, ht, hCs, hTop, hWr, hStr, hBow, hDen, hBou, hWhi, hCho, hRest⟩ := id h
  obtain ⟨r', cc', g1, g2, g3, g4, g5, g6, g7, g8, g9, g10⟩ := hCho
  have er : r' = r := by
    rw [hr, y_eq (by omega) (by omega)] at g3
    omega
  have ec : cc' = cc := by
    rw [hcc, y_eq (by omega) (by omega)] at g5
    omega
  subst er
  subst ec
  have pl : ∀ v : Int32, bt v (-9) 9 → 11 ≤ ((v + 20).toInt64).toInt ∧ ((v + 20).toInt64).toInt ≤ 29 := by
    intro v hv
    unfold bt at hv
    have e20 : (20 : Int32).toInt = 20 := by decide
    have e : (v + 20).toInt = v.toInt + 20 := by rw [a32 (by omega) (by omega), e20]
    rw [Int32.toInt_toInt64, e]
    omega
  have hA : ent (aX x) := by
    intro i j hi hj
    unfold aX
    by_cases b : i < r' ∧ j < cc'
    · rw [(g9 i j b.1 b.2).1]
      exact pl _ (g9 i j b.1 b.2).2
    · rw [g10 i j hi hj b]
      decide
  have eA : ∀ i j, i < r' → j < cc' → aX x i j = aM m i j := by
    intro i j hi hj
    unfold aX aM
    rw [(g9 i j hi hj).1]
  obtain ⟨s, R, C, hf⟩ := fst_ex r1 r4 c1 c4 hA
  have pr := p2_16 r4
  have hR16 : R < 16 := by
    have y := hf.2.2.2.1
    omega
  obtain ⟨x', q1, q2, q3, q4, q5⟩ := solveX r4 c4 hr hcc hf
  have hP : posT (aM m) r' cc' := by
    intro R' C' y1 y2 y3
    rw [← (okN_ext r4 c4 y1 y2 y3 eA).1]
    exact nT_nn hA (by omega)
  obtain ⟨m', w1, w2, w3, w4, w5⟩ := findM_ r4 c4 g4 g6 hP (fst_ext r4 c4 eA hf)
  obtain ⟨o1, o2, o3, _⟩ := okN_ext r4 c4 hf.2.2.2.1 hf.2.2.2.2.2.1 (by rw [hf.2.2.2.2.2.2.1, hf.2.2.2.2.2.2.2.1]) eA
  have ok := hf.2.2.2.2.2.2.2.2.1
  refine ⟨x', m', nT (aX x) R C, nD (aX x) R C, nRS (aX x) R C, nCS (aX x) R C, q1, w1, h.cg0 (q2.mono ?_) (w2.mono ?_), q3, by rw [w3, o1], q4, by rw [w4, o2], ?_, fun j hj => ⟨(q5 j hj).1, by rw [(w5 j hj).1, (o3 j hj).1], (q5 j hj).2, by rw [(w5 j hj).2, (o3 j hj).2], ?_⟩⟩
  · intro a k p
    unfold perX at p; unfold solX soX
    unfold pTop pStr pBow pDen pBou pWhi pCho pPas pGam pLas pMet pFin pShe at p
    omega
  · intro a k p
    unfold perM at p; unfold tkM
    unfold qCs qTop qStr qBow qDen qBou qWhi qCho qPas qGam qLas qMet qFin qShe at p
    omega
  · have y := nT_nn hA (C := C) hR16
    rw [Int64.le_iff_toInt_le] at y
    have y' : 0 ≤ (nT (aX x) R C).toInt := y
    have z : (nT (aX x) R C).toInt ≠ 0 := fun z => ok.1 (Int64.toInt_inj.1 z)
    omega
  · obtain ⟨b1, b2⟩ := sh_b hA (R := R) (C := C) hR16 hj
    obtain ⟨k1, k2⟩ := ok.2.1 j (by omega) hj
    rw [n64, Int64.le_iff_toInt_le] at k1
    rw [Int64.le_iff_toInt_le] at k2
    have k1' : 0 ≤ (nRS (aX x) R C j).toInt := k1
    have k2' : 0 ≤ (nCS (aX x) R C j).toInt := k2
    exact ⟨k1', b1.2, k2', b2.2⟩

def holM (a : Nat → Nat → Int64) (R C : Nat) (m : Mem) : Prop := gL m 0 46 = nT a R C ∧ gL m 0 47 = nD a R C ∧ ∀ j, j < 4 → gL m 34 j = nRS a R C j ∧ gL m 35 j = nCS a R C j
theorem tp404 : ∀ d n k m, k + d = 4 → d < n → ∃ m', f_M_takesPart_l404 FN n (nI k) m = some m' ∧ EqOn (fun a _ => ¬ a = 34 ∧ ¬ a = 35) m m' ∧ ∀ j, j < 4 → gL m' 34 j = (if k ≤ j then -(gL m 34 j) else gL m 34 j) ∧ gL m' 35 j = (if k ≤ j then -(gL m 35 j) else gL m 35 j) := by
  intro d
  induction d with
  | zero =>
    intro n k x g1 g2
    obtain ⟨n', rfl⟩ : ∃ n', n = n' + 1 := ⟨n - 1, by omega⟩
    have hk : k = 4 := by omega
    subst hk
    refine ⟨x, ?_, EqOn.rf, fun j hj => ?_⟩
    · unfold f_M_takesPart_l404
      rw [if_pos (by decide)]
    · rw [if_neg (by omega), if_neg (by omega)]
      exact ⟨rfl, rfl⟩
  | succ d ih =>
    intro n k x g1 g2
    obtain ⟨n', rfl⟩ : ∃ n', n = n' + 1 := ⟨n - 1, by omega⟩
    have hk : k < 4 := by omega
    have ek : ib (nI k) 4 = true := ib_n hk (by omega)
    obtain ⟨x', q1, q2, q3⟩ := ih n' (k + 1) (sL (sL x 34 k (-(gL x 34 k))) 35 k (-(gL x 35 k))) (by omega) (by omega)
    have r1 : gL (sL x 34 k (-(gL x 34 k))) 35 k = gL x 35 k := by rw [gL_sL, if_neg (by omega)]
    refine ⟨x', ?_, ((EqOn.rf.sL (by simp)).sL (by simp)).tr q2, fun j hj => ?_⟩
    · unfold f_M_takesPart_l404
      rw [if_neg (show ¬ (4 : Int32) ≤ nI k by show ¬ nI 4 ≤ nI k; rw [y_le (by omega) (by omega)]; omega), if_pos ek, if_pos ek, nme, if_pos ek, if_pos ek, nme, nme, ix_n (by omega), r1, y_s]
      exact q1
    · obtain ⟨w1, w2⟩ := q3 j hj
      rw [w1, w2]
      simp only [gL_sL, reduceIte, Nat.reduceEqDiff]
      by_cases z : j = k
      · subst z
        simp only [if_true, if_neg (show ¬ j + 1 ≤ j by omega), if_pos (show j ≤ j by omega)]
        exact ⟨trivial, trivial⟩
      · simp only [if_neg z]
        by_cases y : k ≤ j
        · simp only [if_pos y, if_pos (show k + 1 ≤ j by omega)]
          exact ⟨trivial, trivial⟩
        · simp only [if_neg y, if_neg (show ¬ k + 1 ≤ j by omega)]
          exact ⟨trivial, trivial⟩
theorem mb0 : ∀ S, S < 16 → S = 0 ∨ mb S 0 = lowB S := by decide +kernel
theorem mem_lt {S r i : Nat} (h : S < 2 ^ r) (b : bN S i) : i < r := by
  by_cases c : i < r
  · exact c
  · have p : 2 ^ r ≤ 2 ^ i := Nat.pow_le_pow_right (by omega) (by omega)
    have z : S / 2 ^ i = 0 := Nat.div_eq_of_lt (by omega)
    unfold bN at b
    rw [z] at b
    omega
def tkM (a k : Nat) : Prop := ¬ (32 ≤ a ∧ a ≤ 35) ∧ ¬ (a = 0 ∧ (k = 46 ∨ k = 47))
theorem det_e {a : Nat → Nat → Int64} {R C : Nat} {m : Mem} (hR : R < 16) (hC : C < 16) (hp : pop R = pop C) (h0 : 1 ≤ pop R) (hv : ∀ p' q', p' < pop R → q' < pop C → gL m 32 (4 * p' + q') = a (mb R p') (mb C q')) (hd : ∀ p' q', q' < pop R → p' < pop R → gL m 33 (4 * q' + p') = cfX a R C (mb R p') (mb C q')) : sf 0 (fun k => gL m 32 k * gL m 33 (4 * k)) 0 (pop R) = dD a (pop R) R C := by
  have hR0 : R ≠ 0 := fun q => by subst q; exact absurd h0 (by decide)
  have ml := (mb0 R hR).resolve_left hR0
  have e : dD a (pop R) R C = exL (a (lowB R)) (fun j => dD a (pop R - 1) (R - 2 ^ lowB R) (C - 2 ^ j)) C 4 0 0 1 := by
    obtain ⟨s, hs⟩ : ∃ s, pop R = s + 1 := ⟨pop R - 1, by omega⟩
    rw [hs]
    rfl
  rw [e, exL_mb _ _ hC, hp]
  refine sf_ext2 _ _ _ (fun k _ hk => ?_)
  have v := hv 0 k (by omega) (by omega)
  have dd := hd 0 k (by omega) (by omega)
  rw [cf_mb hR hC (by omega) (by omega)] at dd
  rw [show 4 * 0 + k = k by omega] at v
  rw [show 4 * k + 0 = 4 * k by omega] at dd
  rw [v, dd, ml, show k + 0 = k by omega, ← hp]
theorem takesM {m : Mem} {R C r c : Nat} (hR : R < 2 ^ r) (hr : r ≤ 4) (hC : C < 2 ^ c) (hc : c ≤ 4) (h0 : gI m 0 37 = nI r) (h1 : gI m 0 38 = nI c) (hp : pop R = pop C) (hs : 1 ≤ pop R) : ∃ m', f_M_takesPart FN m (nI R) (nI C) = some m' ∧ EqOn tkM m m' ∧ holM (aM m) R C m' := by
  have p2 := p2_16 hr
  have p3 := p2_16 hc
  have hR16 : R < 16 := by omega
  have hC16 : C < 16 := by omega
  have b4 := (mk8 R hR16).2.2
  have zR : pos R 0 = 0 := (mkA hR16 (show 0 < 4 by omega)).2.2.1
  have zC : pos C 0 = 0 := (mkA hC16 (show 0 < 4 by omega)).2.2.1
  obtain ⟨m1, a1, a2, a3⟩ := tp5 hR hr hC hc h0 h1 r FN 0 m (by omega) (FN_lt (by omega)) EqOn.rf (fun i' j' h => by omega)
  have hv : ∀ p' q', p' < pop R → q' < pop C → gL (sL (sL m1 0 46 0) 0 47 0) 32 (4 * p' + q') = aM m (mb R p') (mb C q') := fun p' q' k1 k2 => by
    obtain ⟨c1, c2, c3, _⟩ := mkC hR16 k1
    obtain ⟨d1, d2, d3, _⟩ := mkC hC16 k2
    have := a3 (mb R p') (mb C q') (mem_lt hR c1) c1 (mem_lt hC d1) d1
    rw [c2, d2] at this
    exact this
  obtain ⟨m2, b1, b2, b3, b5⟩ := tp107 (a := aM m) hR16 hC16 hp hv (pop R) FN 0 (sL (sL m1 0 46 0) 0 47 0) (by omega) (FN_lt (by omega)) EqOn.rf
  have b3' : gL m2 0 46 = pT (aM m) R C := by rw [b3]; exact tot_e hR16 hC16 hp
  obtain ⟨m3, c1, c2, c3⟩ := tp199 (C := C) hR16 (pop R) FN 0 m2 (by omega) (FN_lt (by omega))
  have c3' : gL m3 0 47 = dD (aM m) (pop R) R C := by
    rw [c3, (b2 0 47 (by omega)).2.1]
    refine Eq.trans ?_ (det_e (m := m2) hR16 hC16 hp hs (fun p' q' k1 k2 => by rw [(b2 32 _ (by omega)).2.1]; exact hv p' q' k1 k2) (fun p' q' k1 k2 => b5 p' q' (by omega) k1 k2))
    rfl
  obtain ⟨m4, d1, d2, d3⟩ := tp246 hR16 hC16 4 FN 0 m3 (by omega) (FN_lt (by omega))
  rw [zR, zC] at d1
  have e33 : ∀ k, gL m3 33 k = gL m2 33 k := fun k => (c2 33 k (by omega)).2.1
  have rs : ∀ j, j < 4 → gL m4 34 j = sm (cfX (aM m) R C j) 4 ∧ gL m4 35 j = sm (fun o => cfX (aM m) R C o j) 4 := fun j hj => by
    obtain ⟨u1, u2⟩ := d3 j (by omega) hj
    rw [u1, u2]
    unfold rsM csM
    constructor
    · by_cases b : bN R j
      · obtain ⟨k1, k2⟩ := mkD hR16 hj b
        rw [if_pos b, sf_ext2 (g := fun k => cfX (aM m) R C j (mb C k)) _ _ _ (fun k _ hk => by rw [e33, b5 _ _ (by omega) (by omega) k2, k1]), hp, sum_mb (f := fun k => cfX (aM m) R C j k) hC16 (fun o _ z => cf_off (fun w => z w.2))]
      · rw [if_neg b, sm_0 (fun o _ => cf_off (fun w => b w.1))]
    · by_cases b : bN C j
      · obtain ⟨k1, k2⟩ := mkD hC16 hj b
        rw [if_pos b, sf_ext2 (g := fun k => cfX (aM m) R C (mb R k) j) _ _ _ (fun k _ hk => by rw [e33, b5 _ _ (by omega) (by omega) (by omega), k1]), sum_mb (f := fun k => cfX (aM m) R C k j) hR16 (fun o _ z => cf_off (fun w => z w.1))]
      · rw [if_neg b, sm_0 (fun o _ => cf_off (fun w => b w.2))]
  have t4 : gL m4 0 46 = pT (aM m) R C := by rw [(d2 0 46 (by omega)).2.1, (c2 0 46 (by omega)).2.1]; exact b3'
  have q4 : gL m4 0 47 = dD (aM m) (pop R) R C := by rw [(d2 0 47 (by omega)).2.1]; exact c3'
  have fr : EqOn tkM m m4 := (a2.mono (fun b k z => by unfold tkM at z; unfold n32; omega)).tr ((((EqOn.rf.sL (by unfold tkM; omega)).sL (by unfold tkM; omega)).tr (b2.mono (fun b k z => by unfold tkM at z; omega))).tr ((c2.mono (fun b k z => by unfold tkM at z; omega)).tr (d2.mono (fun b k z => by unfold tkM at z; omega))))
  have eP : f_M_takesPart FN m (nI R) (nI C) = (if (0 : Int64) ≤ gL m4 0 46 then some m4 else f_M_takesPart_l404 FN FN 0 (sL (sL m4 0 46 (-(gL m4 0 46))) 0 47 (-(gL m4 0 47)))) := by
    rw [zR] at a1
    exact Eq.trans (show f_M_takesPart FN m (nI R) (nI C) = f_M_takesPart_l5 FN FN (nI R) (nI C) (nI 0) (nI 0) m from rfl) (a1.trans ((b1.trans c1).trans d1))
  rw [eP]
  by_cases z : (0 : Int64) ≤ gL m4 0 46
  · have z' : (0 : Int64) ≤ pT (aM m) R C := by rw [← t4]; exact z
    rw [if_pos z]
    refine ⟨m4, rfl, fr, ?_, ?_, fun j hj => ?_⟩
    · unfold nT nrm; rw [if_pos z']; exact t4
    · unfold nD nrm; rw [if_pos z']; exact q4
    · unfold nRS nCS nrm; rw [if_pos z', if_pos z']; exact rs j hj
  · have z' : ¬ (0 : Int64) ≤ pT (aM m) R C := by rw [← t4]; exact z
    rw [if_neg z]
    obtain ⟨m5, f1, f2, f3⟩ := tp404 4 FN 0 (sL (sL m4 0 46 (-(gL m4 0 46))) 0 47 (-(gL m4 0 47))) (by omega) (FN_lt (by omega))
    refine ⟨m5, f1, fr.tr (((EqOn.rf.sL (by unfold tkM; omega)).sL (by unfold tkM; omega)).tr (f2.mono (fun b k w => by unfold tkM at w; omega))), ?_, ?_, fun j hj => ?_⟩
    · rw [(f2 0 46 (by omega)).2.1]
      unfold nT nrm
      rw [if_neg z', ← t4]; rfl
    · rw [(f2 0 47 (by omega)).2.1]
      unfold nD nrm
      rw [if_neg z', ← q4]; rfl
    · obtain ⟨u1, u2⟩ := f3 j hj
      rw [u1, u2, if_pos (by omega), if_pos (by omega)]
      unfold nRS nCS nrm
      rw [if_neg z', if_neg z', ← (rs j hj).1, ← (rs j hj).2]
      exact ⟨rfl, rfl⟩

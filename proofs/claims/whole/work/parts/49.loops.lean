theorem kn_b {a0 b P t i j : Nat} {x m : Mem} {z : Prop} {B S : Int} (hab : hAB a0 b) (hR : bRel a0 b P t x m) (ht : tOK t m) (hB0 : 0 ≤ B) (hB : B ≤ 199731200) (hS : S ≤ 1000000000) (hs : bSt b P z B S 9 x m) (c1 : gI x a0 6 = gI m 0 35) (c2 : gI x a0 7 = gI m 0 36) (hij : i < j) (hj : j < P) (fi : ft (stM m i) = 0) (fj : ft (stM m j) = 0) : ∃ x' m', f_Bt_collide x a0 (b + i) (b + j) = some x' ∧ f_M_knock m (nI i) (nI j) = some m' ∧ bSt b P z (4 * B) S 9 x' m' ∧ gI x' a0 6 = gI m' 0 35 ∧ gI x' a0 7 = gI m' 0 36 ∧ EqOn (boX a0 b) x x' ∧ EqOn boN m m' := by
  have hbr : 10 ≤ b ∧ b ≤ 19 ∧ (a0 < b) ∧ a0 ≠ 2 := by unfold hAB at hab; omega
  obtain ⟨hW, hsz, hF⟩ := hR
  have hP := hW.1
  have t40 := ht.1
  obtain ⟨g1, g2⟩ := hs i (by omega)
  obtain ⟨g3, g4⟩ := hs j hj
  have e1 := g1.st (g1.f0.mpr fi)
  have e2 := g3.st (g3.f0.mpr fj)
  have b1 := g2 fi
  have b2 := g4 fj
  have wi := hW.2.2 i (by omega)
  have wj := hW.2.2 j hj
  obtain ⟨p1, p2, p3, p4⟩ := hF i (by omega)
  obtain ⟨p5, p6, p7, p8⟩ := hF j hj
  have ei : ib (nI i) 4 = true := ib_n (by omega) (by omega)
  have ej : ib (nI j) 4 = true := ib_n (by omega) (by omega)
  have ewi : ib (nI (wh m i)) 40 = true := ib_n (by omega) (by omega)
  have ewj : ib (nI (wh m j)) 40 = true := ib_n (by omega) (by omega)
  have iwi : ix (nI (wh m i)) = wh m i := ix_n (by omega)
  have iwj : ix (nI (wh m j)) = wh m j := ix_n (by omega)
  have ii : ix (nI i) = i := ix_n (by omega)
  have ij : ix (nI j) = j := ix_n (by omega)
  have x1 : gL x (b + i) 10 = gL m 21 i := congrArg (fun s : SS => s.1) e1
  have y1 : gL x (b + i) 11 = gL m 22 i := congrArg (fun s : SS => s.2.1) e1
  have x2 : gL x (b + j) 10 = gL m 21 j := congrArg (fun s : SS => s.1) e2
  have y2 : gL x (b + j) 11 = gL m 22 j := congrArg (fun s : SS => s.2.1) e2
  have u1 : -1950 ≤ (gL m 21 i).toInt ∧ (gL m 21 i).toInt ≤ 1950 := b1.1
  have u2 : -1950 ≤ (gL m 22 i).toInt ∧ (gL m 22 i).toInt ≤ 1950 := b1.2.1
  have u3 : -1950 ≤ (gL m 21 j).toInt ∧ (gL m 21 j).toInt ≤ 1950 := b2.1
  have u4 : -1950 ≤ (gL m 22 j).toInt ∧ (gL m 22 j).toInt ≤ 1950 := b2.2.1
  have dx : (gL m 21 j - gL m 21 i).toInt = (gL m 21 j).toInt - (gL m 21 i).toInt := s64 (by omega) (by omega)
  have dy : (gL m 22 j - gL m 22 i).toInt = (gL m 22 j).toInt - (gL m 22 i).toInt := s64 (by omega) (by omega)
  have hx : -3900 ≤ (gL m 21 j - gL m 21 i).toInt ∧ (gL m 21 j - gL m 21 i).toInt ≤ 3900 := by omega
  have hy : -3900 ≤ (gL m 22 j - gL m 22 i).toInt ∧ (gL m 22 j - gL m 22 i).toInt ≤ 3900 := by omega
  have z0 : (0 : Int64).toInt = 0 := rfl
  have hJ : J2 (b + i) (b + j) i j x m (stM m i) (stM m j) := ⟨e1, rfl, e2, rfl⟩
  have fin : ∀ Dx Dy : Int64, (-3900 ≤ Dx.toInt ∧ Dx.toInt ≤ 3900) → (-3900 ≤ Dy.toInt ∧ Dy.toInt ≤ 3900) → (Dx.toInt ≠ 0 ∨ Dy.toInt ≠ 0) → ∃ x' m', f_Bt_collide_b38 a0 (b + i) (b + j) Dx Dy x = some x' ∧ f_M_knock_b76 (nI i) (nI j) (gI m 2 (wh m i)).toInt64 (gI m 2 (wh m j)).toInt64 Dx Dy m = some m' ∧ bSt b P z (4 * B) S 9 x' m' ∧ gI x' a0 6 = gI m' 0 35 ∧ gI x' a0 7 = gI m' 0 36 ∧ EqOn (boX a0 b) x x' ∧ EqOn boN m m' := by
    intro Dx Dy k1 k2 k3
    have hA : 0 < Dx.toInt * Dx.toInt + Dy.toInt * Dy.toInt := by
      have s1 := sqb (a := Dx.toInt) (n := 3900) k1.1 k1.2
      have s2 := sqb (a := Dy.toInt) (n := 3900) k2.1 k2.2
      by_cases q : Dx.toInt * Dx.toInt + Dy.toInt * Dy.toInt ≤ 0
      · have q1 := sq_lt (a := Dx.toInt) (n := 0) (by omega) (by omega)
        have q2 := sq_lt (a := Dy.toInt) (n := 0) (by omega) (by omega)
        omega
      · omega
    obtain ⟨x', m', s', u', r1, r2, r3, r4, r5, r6, r7, r8, r9, r10, r11⟩ := kb_j hB hS hJ (by omega) (by omega) (by omega) (by omega) (by omega) (by omega) ht wi wj p1 p5 p2 p6 p3 p7 c1 c2 b1 b2 k1 k2 hA
    refine ⟨x', m', r1, r2, fun k hk => ?_, r8, r9, r10.mono (fun a k p => by unfold boX boS at p; unfold knX kjX; omega), r11.mono (fun a k p => by unfold boN at p; unfold knM kjM; omega)⟩
    obtain ⟨s1, s2, s3, s4⟩ := r3
    by_cases q1 : k = i
    · subst q1
      rw [s1, s2]
      exact ⟨rS.rf (by rw [r6, fi]; decide), fun _ => r4⟩
    by_cases q2 : k = j
    · subst q2
      rw [s3, s4]
      exact ⟨rS.rf (by rw [r7, fj]; decide), fun _ => r5⟩
    have ex : stX x' (b + k) = stX x (b + k) := by
      have o : ∀ n, knX a0 (b + i) (b + j) (b + k) n := fun n => by unfold knX kjX; omega
      unfold stX
      rw [(r10 _ 10 (o _)).2.1, (r10 _ 11 (o _)).2.1, (r10 _ 12 (o _)).2.1, (r10 _ 13 (o _)).2.1, (r10 _ 14 (o _)).1, (r10 _ 15 (o _)).1, (r10 _ 16 (o _)).1, (r10 _ 17 (o _)).1]
    have em : stM m' k = stM m k := by
      have o : ∀ n, 21 ≤ n → knM i j n k := fun n hn => by unfold knM kjM; omega
      unfold stM
      rw [(r11 21 k (o _ (by omega))).2.1, (r11 22 k (o _ (by omega))).2.1, (r11 24 k (o _ (by omega))).2.1, (r11 25 k (o _ (by omega))).2.1, (r11 23 k (o _ (by omega))).1, (r11 26 k (o _ (by omega))).1, (r11 27 k (o _ (by omega))).1, (r11 28 k (o _ (by omega))).1]
    rw [ex, em]
    exact ⟨(hs k hk).1, fun h0 => ((hs k hk).2 h0).up (by omega) (by omega) (by omega)⟩
  unfold f_Bt_collide f_M_knock
  rw [x1, y1, x2, y2, nme, nme, if_pos ei, ii, wi.1, if_pos ewi, iwi, nme, if_pos ej, ij, wj.1, if_pos ewj, iwj, nme, if_pos ej, if_pos ei, nme, if_pos ej, if_pos ei, nme]
  by_cases q1 : gL m 21 j - gL m 21 i = 0
  · rw [if_neg (not_not_intro q1), if_neg (not_not_intro q1)]
    by_cases q2 : gL m 22 j - gL m 22 i = 0
    · rw [if_neg (not_not_intro q2), if_neg (not_not_intro q2)]
      exact fin 65 _ (by decide) hy (Or.inl (by decide))
    · rw [if_pos q2, if_pos q2]
      exact fin _ _ hx hy (Or.inr (fun q => q2 (Int64.toInt_inj.mp (by rw [q, z0]))))
  · rw [if_pos q1, if_pos q1]
    exact fin _ _ hx hy (Or.inl (fun q => q1 (Int64.toInt_inj.mp (by rw [q, z0]))))
theorem l88_j {a0 b P t i : Nat} {z : Prop} {S : Int} {rg rg' : Int32} (hab : hAB a0 b) (hS : S ≤ 1000000000) (kX : Nat → Int32 → Int32 → Mem → Option Mem) (kM : Int32 → Int32 → Mem → Option Mem) (hi : i < P) : ∀ d n j x m B, j + d = P → d < n → i < j → 0 ≤ B → B * 4 ^ d ≤ 798924800 → bRel a0 b P t x m → tOK t m → bSt b P z B S 9 x m → gI x a0 6 = gI m 0 35 → gI x a0 7 = gI m 0 36 → ∃ x' m', f_Bt_step_l100 FN kX n a0 rg (nI i) (some (b + i)) (nI j) x = kX a0 rg (nI (i + 1)) x' ∧ f_M_ticks_l106 FN kM n rg' (nI i) (nI j) m = kM rg' (nI (i + 1)) m' ∧ bSt b P z (B * 4 ^ d) S 9 x' m' ∧ gI x' a0 6 = gI m' 0 35 ∧ gI x' a0 7 = gI m' 0 36 ∧ EqOn (boX a0 b) x x' ∧ EqOn boN m m' := by
  have hbr : 10 ≤ b ∧ b ≤ 19 ∧ (a0 < b) ∧ a0 ≠ 2 := by unfold hAB at hab; omega
  intro d
  induction d with
  | zero =>
    intro n j x m B h1 h2 hij hB0 hB hR ht hs c1 c2
    obtain ⟨n', rfl⟩ : ∃ n', n = n' + 1 := ⟨n - 1, by omega⟩
    have hP := hR.1.1
    have hj : j = P := by omega
    subst hj
    refine ⟨x, m, ?_, ?_, ?_, c1, c2, EqOn.rf, EqOn.rf⟩
    · unfold f_Bt_step_l100
      rw [hR.2.1, if_pos (P_re hP), nme, y_s]
    · unfold f_M_ticks_l106
      rw [hR.1.2.1, if_pos (P_re hP), nme, y_s]
    · rw [Int.pow_zero, Int.mul_one]; exact hs
  | succ d ih =>
    intro n j x m B h1 h2 hij hB0 hB hR ht hs c1 c2
    obtain ⟨n', rfl⟩ : ∃ n', n = n' + 1 := ⟨n - 1, by omega⟩
    have hP := hR.1.1
    have hj : j < P := by omega
    have hp0 : 0 < (4 : Int) ^ d := Int.pow_pos (by omega)
    have hp : 1 ≤ (4 : Int) ^ d := by omega
    have ep : B * 4 ^ (d + 1) = 4 * B * 4 ^ d := by rw [Int.pow_succ]; grind
    have bb := Int.mul_le_mul_of_nonneg_left hp (show 0 ≤ 4 * B by omega)
    rw [ep] at hB ⊢
    have ei : ib (nI i) 4 = true := ib_n (by omega) (by omega)
    have ej : ib (nI j) 4 = true := ib_n (by omega) (by omega)
    have ii : ix (nI i) = i := ix_n (by omega)
    have ij : ix (nI j) = j := ix_n (by omega)
    have skip : ∃ x' m', f_Bt_step_l100 FN kX n' a0 rg (nI i) (some (b + i)) (nI (j + 1)) x = kX a0 rg (nI (i + 1)) x' ∧ f_M_ticks_l106 FN kM n' rg' (nI i) (nI (j + 1)) m = kM rg' (nI (i + 1)) m' ∧ bSt b P z (4 * B * 4 ^ d) S 9 x' m' ∧ gI x' a0 6 = gI m' 0 35 ∧ gI x' a0 7 = gI m' 0 36 ∧ EqOn (boX a0 b) x x' ∧ EqOn boN m m' := ih n' (j + 1) x m (4 * B) (by omega) (by omega) (by omega) (by omega) hB hR ht (fun k hk => ⟨(hs k hk).1, fun h0 => ((hs k hk).2 h0).up (by omega) (by omega) (by omega)⟩) c1 c2
    conv => congr; intro x'; congr; intro m'; congr; lhs; unfold f_Bt_step_l100
    conv => congr; intro x'; congr; intro m'; rhs; congr; lhs; unfold f_M_ticks_l106
    unfold f_Bt_step_b151 f_M_ticks_b143 f_Sp_stands
    rw [hR.2.1, hR.1.2.1, if_neg (P_le hP hj), if_neg (P_le hP hj), at_b hab hP hR.2.1 hj, bs, if_pos ei, ii, ij]
    dsimp only
    have fi := (hs i hi).1.f0
    have fj := (hs j hj).1.f0
    have fi' : gI x (b + i) 17 = 0 ↔ gI m 28 i = 0 := fi
    have fj' : gI x (b + j) 17 = 0 ↔ gI m 28 j = 0 := fj
    by_cases q1 : gI m 28 i = 0
    · rw [if_neg (not_not_intro (fi'.mpr q1)), if_neg (not_not_intro q1), bs, if_neg (by decide), if_pos ej]
      by_cases q2 : gI m 28 j = 0
      · rw [if_neg (not_not_intro (fj'.mpr q2)), if_neg (not_not_intro q2), bs, if_neg (by decide)]
        obtain ⟨x1, m1, k1, k2, k3, k4, k5, k6, k7⟩ := kn_b hab hR ht hB0 (by omega) hS hs c1 c2 hij hj q1 q2
        rw [k1, k2, bs, bs, nme, nme, y_s]
        obtain ⟨x', m', l1, l2, l3, l4, l5, l6, l7⟩ := ih n' (j + 1) x1 m1 (4 * B) (by omega) (by omega) (by omega) (by omega) hB (hR.cg hab k6 k7) (ht.cg k7) k3 k4 k5
        exact ⟨x', m', l1, l2, l3, l4, l5, k6.tr l6, k7.tr l7⟩
      · rw [if_pos (fun q => q2 (fj'.mp q)), if_pos q2, bs, if_pos rfl, nme, nme, y_s]
        exact skip
    · rw [if_pos (fun q => q1 (fi'.mp q)), if_pos q1, bs, if_pos rfl, nme, nme, y_s]
      exact skip
def tri : Nat → Nat
  | 0 => 0
  | d + 1 => tri d + d
theorem l73_j {a0 b P t : Nat} {z : Prop} {S : Int} {rg rg' : Int32} (hab : hAB a0 b) (hS : S ≤ 1000000000) : ∀ d n i x m B, i + d = P → d < n → 0 ≤ B → B * 4 ^ (tri d) ≤ 798924800 → bRel a0 b P t x m → tOK t m → bSt b P z B S 9 x m → gI x a0 6 = gI m 0 35 → gI x a0 7 = gI m 0 36 → ∃ x' m', f_Bt_step_l77 FN n a0 rg (nI i) x = f_Bt_step_l166 FN FN a0 rg 0 x' ∧ f_M_ticks_l91 FN n rg' (nI i) m = f_M_ticks_l158 FN FN rg' 0 m' ∧ bSt b P z (B * 4 ^ (tri d)) S 9 x' m' ∧ gI x' a0 6 = gI m' 0 35 ∧ gI x' a0 7 = gI m' 0 36 ∧ EqOn (boX a0 b) x x' ∧ EqOn boN m m' := by
  intro d
  induction d with
  | zero =>
    intro n i x m B h1 h2 hB0 hB hR ht hs c1 c2
    obtain ⟨n', rfl⟩ : ∃ n', n = n' + 1 := ⟨n - 1, by omega⟩
    have hP := hR.1.1
    have hi : i = P := by omega
    subst hi
    refine ⟨x, m, ?_, ?_, ?_, c1, c2, EqOn.rf, EqOn.rf⟩
    · unfold f_Bt_step_l77
      rw [hR.2.1, if_pos (P_re hP)]
    · unfold f_M_ticks_l91
      rw [hR.1.2.1, if_pos (P_re hP)]
    · unfold tri; rw [Int.pow_zero, Int.mul_one]; exact hs
  | succ d ih =>
    intro n i x m B h1 h2 hB0 hB hR ht hs c1 c2
    obtain ⟨n', rfl⟩ : ∃ n', n = n' + 1 := ⟨n - 1, by omega⟩
    have hP := hR.1.1
    have hi : i < P := by omega
    have ep : B * 4 ^ (tri (d + 1)) = B * 4 ^ d * 4 ^ (tri d) := by
      rw [show tri (d + 1) = d + tri d from Nat.add_comm _ _, Int.pow_add, Int.mul_assoc]
    have hp0 : 0 < (4 : Int) ^ (tri d) := Int.pow_pos (by omega)
    have hp : 1 ≤ (4 : Int) ^ (tri d) := by omega
    have hp2 : 0 < (4 : Int) ^ d := Int.pow_pos (by omega)
    have hb := Int.mul_nonneg hB0 (Int.le_of_lt hp2)
    have bb := Int.mul_le_mul_of_nonneg_left hp hb
    rw [ep] at hB ⊢
    conv => congr; intro x'; congr; intro m'; congr; lhs; unfold f_Bt_step_l77
    conv => congr; intro x'; congr; intro m'; rhs; congr; lhs; unfold f_M_ticks_l91
    rw [hR.2.1, hR.1.2.1, if_neg (P_le hP hi), if_neg (P_le hP hi), at_b hab hP hR.2.1 hi, bs, nme, nme, y_s]
    obtain ⟨x1, m1, k1, k2, k3, k4, k5, k6, k7⟩ := l88_j (rg := rg) (rg' := rg') hab hS (f_Bt_step_l77 FN n') (f_M_ticks_l91 FN n') hi d FN (i + 1) x m B (by omega) (FN_lt (by omega)) (by omega) hB0 (by omega) hR ht hs c1 c2
    rw [k1, k2]
    obtain ⟨x', m', l1, l2, l3, l4, l5, l6, l7⟩ := ih n' (i + 1) x1 m1 _ (by omega) (by omega) hb hB (hR.cg hab k6 k7) (ht.cg k7) k3 k4 k5
    exact ⟨x', m', l1, l2, l3, l4, l5, k6.tr l6, k7.tr l7⟩

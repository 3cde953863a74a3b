theorem bounce_e {x : Mem} {a1 a2 : Nat} (ha : a1 ≠ a2) {sh X2 X4 ap : Int64} (hsh : (gI x a1 6 + gI x a2 6).toInt64 * ap = sh) (hp : 1 ≤ sh.toInt) : f_Bt_bounce x a1 a2 X2 X4 ap = some (sL (sL (sL (sL x a1 12 (gL x a1 12 + X2 / sh)) a2 12 (gL x a2 12 - X2 / sh)) a1 13 (gL x a1 13 + X4 / sh)) a2 13 (gL x a2 13 - X4 / sh)) := by
  have z0 : (0 : Int64).toInt = 0 := rfl
  have n1 : ¬ sh ≤ 0 := by rw [Int64.le_iff_toInt_le, z0]; omega
  have n2 : ¬ sh = 0 := fun q => by rw [q, z0] at hp; omega
  have ha' : ¬ a2 = a1 := Ne.symm ha
  have r1 : ∀ v, gL (sL x a1 12 v) a2 12 = gL x a2 12 := fun v => by rw [gL_sL, if_neg ha']
  have r2 : ∀ v u, gL (sL (sL x a1 12 v) a2 12 u) a1 13 = gL x a1 13 := fun v u => by simp only [gL_sL, reduceIte, Nat.reduceEqDiff, if_neg ha]
  have r3 : ∀ v u w, gL (sL (sL (sL x a1 12 v) a2 12 u) a1 13 w) a2 13 = gL x a2 13 := fun v u w => by simp only [gL_sL, reduceIte, Nat.reduceEqDiff, if_neg ha']
  unfold f_Bt_bounce
  rw [nme, hsh, if_neg n1, if_neg n2, nme, if_neg n2, nme, nme, r1, nme, r2, nme, r3, nme]
theorem lock_e {x : Mem} {a1 a2 : Nat} (ha : a1 ≠ a2) {bo P Q w1 : Int64} (hbo : (gI x a1 6 + gI x a2 6).toInt64 = bo) (hp : 1 ≤ bo.toInt) (hP : gL x a1 12 + gL x a2 12 = P) (hQ : gL x a1 13 + gL x a2 13 = Q) (hw : (gI x a1 6).toInt64 = w1) : f_Bt_lock x a1 a2 = some (sL (sL (sL (sL x a1 12 ((P * w1) / bo)) a1 13 ((Q * w1) / bo)) a2 12 (P - (P * w1) / bo)) a2 13 (Q - (Q * w1) / bo)) := by
  have z0 : (0 : Int64).toInt = 0 := rfl
  have n1 : ¬ bo ≤ 0 := by rw [Int64.le_iff_toInt_le, z0]; omega
  have n2 : ¬ bo = 0 := fun q => by rw [q, z0] at hp; omega
  have ha' : ¬ a2 = a1 := Ne.symm ha
  have r0 : ∀ v, (gI (sL x a1 12 v) a1 6).toInt64 = w1 := fun v => by rw [gI_sL]; exact hw
  have r1 : ∀ v u, gL (sL (sL x a1 12 v) a1 13 u) a1 12 = v := fun v u => by simp only [gL_sL, reduceIte, Nat.reduceEqDiff]
  have r2 : ∀ v u z, gL (sL (sL (sL x a1 12 v) a1 13 u) a2 12 z) a1 13 = u := fun v u z => by simp only [gL_sL, reduceIte, Nat.reduceEqDiff, if_neg ha]
  unfold f_Bt_lock
  rw [hP, nme, hQ, nme, hbo, nme, if_neg n1, if_neg n2, hw, nme, if_neg n2, r0, nme, r1, nme, r2, nme]
def knX (a0 a1 a2 a k : Nat) : Prop := kjX a1 a2 a k ∧ ¬ (a = a0 ∧ (k = 6 ∨ k = 7))
def knM (i j a k : Nat) : Prop := kjM i j a k ∧ ¬ (a = 0 ∧ (k = 35 ∨ k = 36))
theorem J2.c {a0 a1 a2 i j k1 k2 : Nat} {x m : Mem} {s u : SS} (h : J2 a1 a2 i j x m s u) (h1 : a0 ≠ a1) (h2 : a0 ≠ a2) (v1 v2 : Int32) : J2 a1 a2 i j (sI x a0 k1 v1) (sI m 0 k2 v2) s u := by
  obtain ⟨q1, q2, q3, q4⟩ := h
  exact ⟨by rw [xI0 _ _ _ _ _ (Ne.symm h1)]; exact q1, by rw [yI0]; exact q2, by rw [xI0 _ _ _ _ _ (Ne.symm h2)]; exact q3, by rw [yI0]; exact q4⟩
theorem kb_j {a0 a1 a2 i j t : Nat} {x m : Mem} {s u : SS} {B S : Int} {dx dy : Int64} (hB : B ≤ 199731200) (hS : S ≤ 1000000000) (h : J2 a1 a2 i j x m s u) (h01 : a0 ≠ a1) (h02 : a0 ≠ a2) (ha : a1 ≠ a2) (hi : i ≠ j) (hi4 : i < 4) (hj4 : j < 4) (ht : tOK t m) (wi : gI m 20 i = nI (wh m i) ∧ wh m i < t) (wj : gI m 20 j = nI (wh m j) ∧ wh m j < t) (f1 : gI x a1 6 = gI m 2 (wh m i)) (f2 : gI x a2 6 = gI m 2 (wh m j)) (f3 : gI x a1 7 = gI m 3 (wh m i)) (f4 : gI x a2 7 = gI m 3 (wh m j)) (f5 : gI x a1 8 = gI m 5 (wh m i)) (f6 : gI x a2 8 = gI m 5 (wh m j)) (c1 : gI x a0 6 = gI m 0 35) (c2 : gI x a0 7 = gI m 0 36) (b1 : bG B S 9 s) (b2 : bG B S 9 u) (hx : -3900 ≤ dx.toInt ∧ dx.toInt ≤ 3900) (hy : -3900 ≤ dy.toInt ∧ dy.toInt ≤ 3900) (hA : 0 < dx.toInt * dx.toInt + dy.toInt * dy.toInt) : ∃ x' m' s' u', f_Bt_collide_b38 a0 a1 a2 dx dy x = some x' ∧ f_M_knock_b76 (nI i) (nI j) (gI m 2 (wh m i)).toInt64 (gI m 2 (wh m j)).toInt64 dx dy m = some m' ∧ J2 a1 a2 i j x' m' s' u' ∧ bG (4 * B) S 9 s' ∧ bG (4 * B) S 9 u' ∧ ft s' = ft s ∧ ft u' = ft u ∧ gI x' a0 6 = gI m' 0 35 ∧ gI x' a0 7 = gI m' 0 36 ∧ EqOn (knX a0 a1 a2) x x' ∧ EqOn (knM i j) m m' := by
  have t40 := ht.1
  obtain ⟨r1, r2, r3, r4, r5, r6⟩ := h.rX
  obtain ⟨q1, q2, q3, q4, q5, q6⟩ := h.sw.rX
  have ei : ib (nI i) 4 = true := ib_n hi4 (by omega)
  have ej : ib (nI j) 4 = true := ib_n hj4 (by omega)
  have ewi : ib (nI (wh m i)) 40 = true := ib_n (by omega) (by omega)
  have ewj : ib (nI (wh m j)) 40 = true := ib_n (by omega) (by omega)
  have iwi : ix (nI (wh m i)) = wh m i := ix_n (by omega)
  have iwj : ix (nI (wh m j)) = wh m j := ix_n (by omega)
  have ii : ix (nI i) = i := ix_n (by omega)
  have ij : ix (nI j) = j := ix_n (by omega)
  obtain ⟨w1b, _⟩ := ht.2 _ wi.2
  obtain ⟨w2b, _⟩ := ht.2 _ wj.2
  have w1e : (gI m 2 (wh m i)).toInt64.toInt = (gI m 2 (wh m i)).toInt := Int32.toInt_toInt64 _
  have w2e : (gI m 2 (wh m j)).toInt64.toInt = (gI m 2 (wh m j)).toInt := Int32.toInt_toInt64 _
  have hw1 : 1 ≤ (gI m 2 (wh m i)).toInt64.toInt ∧ (gI m 2 (wh m i)).toInt64.toInt ≤ 50 := by rw [w1e]; exact w1b
  have hw2 : 1 ≤ (gI m 2 (wh m j)).toInt64.toInt ∧ (gI m 2 (wh m j)).toInt64.toInt ≤ 50 := by rw [w2e]; exact w2b
  have wa := wadd w1b w2b
  obtain ⟨a1', a2', a3', a4', a5', a6', a7'⟩ := id b1
  obtain ⟨d1', d2', d3', d4', d5', d6', d7'⟩ := id b2
  have none' : ∃ x' m' s' u', some x = some x' ∧ some m = some m' ∧ J2 a1 a2 i j x' m' s' u' ∧ bG (4 * B) S 9 s' ∧ bG (4 * B) S 9 u' ∧ ft s' = ft s ∧ ft u' = ft u ∧ gI x' a0 6 = gI m' 0 35 ∧ gI x' a0 7 = gI m' 0 36 ∧ EqOn (knX a0 a1 a2) x x' ∧ EqOn (knM i j) m m' := ⟨x, m, s, u, rfl, rfl, h, b1.up (by omega) (by omega) (by omega), b2.up (by omega) (by omega) (by omega), rfl, rfl, c1, c2, EqOn.rf, EqOn.rf⟩
  unfold f_Bt_collide_b38 f_M_knock_b76
  rw [f1, f2, f3, f4, r1, r2, q1, q2, nme, nme, nme, nme, nme]
  rw [nme, if_pos ei, ii, wi.1, if_pos ewi, iwi, if_pos ej, ij, wj.1, if_pos ewj, iwj, nme, if_pos ej, if_pos ei, if_pos ej, if_pos ei, r4, r5, q4, q5, nme]
  have gb := gain_b hB a3' d3' a4' d4' hw1 hw2 hx hy hA _ rfl
  obtain ⟨sh1, sh2⟩ := sh_e hw1 hw2 hx hy hA
  have sh3 : 1 ≤ (((gI m 2 (wh m i)).toInt64 + (gI m 2 (wh m j)).toInt64) * ((dx * dx) + (dy * dy))).toInt := by rw [sh1]; exact sh2
  generalize hk : (((u.2.2.1 * (gI m 2 (wh m i)).toInt64) - (s.2.2.1 * (gI m 2 (wh m j)).toInt64)) * dx) + (((u.2.2.2.1 * (gI m 2 (wh m i)).toInt64) - (s.2.2.2.1 * (gI m 2 (wh m j)).toInt64)) * dy) = k at gb ⊢
  by_cases z1 : ((13 : Int64) * (gI m 3 (wh m i) + gI m 3 (wh m j)).toInt64) * ((13 : Int64) * (gI m 3 (wh m i) + gI m 3 (wh m j)).toInt64) < dx * dx + dy * dy
  · rw [if_pos z1, if_pos z1]
    exact none'
  rw [if_neg z1, if_neg z1]
  by_cases z2 : k < 0
  · rw [if_pos z2, if_pos z2, nme]
    have g20 : ∀ c n, gI (sI m 0 35 c) 20 n = gI m 20 n := fun _ _ => rfl
    have g3 : ∀ c n, gI (sI m 0 35 c) 3 n = gI m 3 n := fun _ _ => rfl
    have x7 : ∀ c n, n ≠ a0 → gI (sI x a0 6 c) n 7 = gI x n 7 := fun c n hn => by rw [gI_sI, if_neg hn]
    rw [x7 _ _ (Ne.symm h01), x7 _ _ (Ne.symm h02), f3, f4, if_pos ei, g20, wi.1, if_pos ewi, if_pos ej, g20, wj.1, if_pos ewj, iwi, iwj, g3, g3, c1]
    by_cases z3 : gI m 3 (wh m i) = gI m 3 (wh m j)
    · -- rims lock
      rw [if_neg (not_not_intro z3), if_neg (not_not_intro z3), nme]
      have y1 : gI (sI x a0 6 (gI m 0 35 + 1)) a0 7 = gI m 0 36 := by rw [gI_sI, if_pos rfl, if_neg (by decide)]; exact c2
      have y2 : gI (sI m 0 35 (gI m 0 35 + 1)) 0 36 = gI m 0 36 := rfl
      rw [y1, y2]
      have hJ := (h.c (k1 := 6) (k2 := 35) h01 h02 (gI m 0 35 + 1) (gI m 0 35 + 1)).c (k1 := 7) (k2 := 36) h01 h02 (gI m 0 36 + 1) (gI m 0 36 + 1)
      have ex : EqOn (knX a0 a1 a2) x (sI (sI x a0 6 (gI m 0 35 + 1)) a0 7 (gI m 0 36 + 1)) := (EqOn.rf.sI (by unfold knX; omega)).sI (by unfold knX; omega)
      have em : EqOn (knM i j) m (sI (sI m 0 35 (gI m 0 35 + 1)) 0 36 (gI m 0 36 + 1)) := (EqOn.rf.sI (by unfold knM; omega)).sI (by unfold knM; omega)
      have cx : gI (sI (sI x a0 6 (gI m 0 35 + 1)) a0 7 (gI m 0 36 + 1)) a0 6 = gI m 0 35 + 1 ∧ gI (sI (sI x a0 6 (gI m 0 35 + 1)) a0 7 (gI m 0 36 + 1)) a0 7 = gI m 0 36 + 1 := by simp only [gI_sI, reduceIte, Nat.reduceEqDiff, and_self]
      have cm : gI (sI (sI m 0 35 (gI m 0 35 + 1)) 0 36 (gI m 0 36 + 1)) 0 35 = gI m 0 35 + 1 ∧ gI (sI (sI m 0 35 (gI m 0 35 + 1)) 0 36 (gI m 0 36 + 1)) 0 36 = gI m 0 36 + 1 := ⟨rfl, rfl⟩
      have x6 : ∀ n, n ≠ a0 → ∀ o, gI (sI (sI x a0 6 (gI m 0 35 + 1)) a0 7 (gI m 0 36 + 1)) n o = gI x n o := fun n hn o => by simp only [gI_sI, if_neg hn]
      have mm : ∀ n, n ≠ 0 → ∀ o, gI (sI (sI m 0 35 (gI m 0 35 + 1)) 0 36 (gI m 0 36 + 1)) n o = gI m n o := fun n hn o => by simp only [gI_sI, if_neg hn]
      generalize (sI (sI x a0 6 (gI m 0 35 + 1)) a0 7 (gI m 0 36 + 1)) = x1 at hJ ex cx x6 ⊢
      generalize (sI (sI m 0 35 (gI m 0 35 + 1)) 0 36 (gI m 0 36 + 1)) = m1 at hJ em cm mm ⊢
      obtain ⟨R1, R2, R3, R4, R5, R6⟩ := hJ.rX
      obtain ⟨Q1, Q2, Q3, Q4, Q5, Q6⟩ := hJ.sw.rX
      have bo1 : 1 ≤ ((gI m 2 (wh m i)).toInt64 + (gI m 2 (wh m j)).toInt64).toInt := by rw [a64] <;> omega
      have bo2 : ¬ ((gI m 2 (wh m i)).toInt64 + (gI m 2 (wh m j)).toInt64) = 0 := fun q => by rw [q, show (0 : Int64).toInt = 0 from rfl] at bo1; omega
      have le := lock_e (x := x1) (bo := (gI m 2 (wh m i)).toInt64 + (gI m 2 (wh m j)).toInt64) (P := s.2.2.1 + u.2.2.1) (Q := s.2.2.2.1 + u.2.2.2.1) (w1 := (gI m 2 (wh m i)).toInt64) ha (by rw [x6 _ (Ne.symm h01), x6 _ (Ne.symm h02), f1, f2, wa]) bo1 (by rw [R1, Q1]) (by rw [R2, Q2]) (by rw [x6 _ (Ne.symm h01), f1])
      have pe : (s.2.2.1 + u.2.2.1).toInt = s.2.2.1.toInt + u.2.2.1.toInt := a64 (by omega) (by omega)
      have qe : (s.2.2.2.1 + u.2.2.2.1).toInt = s.2.2.2.1.toInt + u.2.2.2.1.toInt := a64 (by omega) (by omega)
      have pb := lock_b hB (p := s.2.2.1 + u.2.2.1) (by omega) hw1 hw2
      have qb := lock_b hB (p := s.2.2.2.1 + u.2.2.2.1) (by omega) hw1 hw2
      rw [le, bs]
      rw [if_pos ei, if_pos ej, R4, Q4, nme, if_pos ei, if_pos ej, R5, Q5, nme, if_neg bo2, if_pos ei, nme, if_neg bo2, if_pos ei, nme]
      generalize s.2.2.1 + u.2.2.1 = P at pe pb ⊢
      generalize s.2.2.2.1 + u.2.2.2.1 = Q at qe qb ⊢
      generalize (P * (gI m 2 (wh m i)).toInt64) / ((gI m 2 (wh m i)).toInt64 + (gI m 2 (wh m j)).toInt64) = P' at pb ⊢
      generalize (Q * (gI m 2 (wh m i)).toInt64) / ((gI m 2 (wh m i)).toInt64 + (gI m 2 (wh m j)).toInt64) = Q' at qb ⊢
      have v1 : ∀ v w, gL (sL (sL m1 24 i v) 25 i w) 24 i = v := fun v w => by simp only [gL_sL, reduceIte, Nat.reduceEqDiff]
      have v2 : ∀ v w y, gL (sL (sL (sL m1 24 i v) 25 i w) 24 j y) 25 i = w := fun v w y => by simp only [gL_sL, reduceIte, Nat.reduceEqDiff]
      rw [if_pos ei, if_pos ej, v1, nme, if_pos ei, if_pos ej, v2, nme]
      have hJ2 := (((hJ.p1 ha hi P').q1 ha hi Q').p2 ha hi (P - P')).q2 ha hi (Q - Q')
      have e3 : (P - P').toInt = P.toInt - P'.toInt := s64 (by omega) (by omega)
      have e4 : (Q - Q').toInt = Q.toInt - Q'.toInt := s64 (by omega) (by omega)
      have ex2 : EqOn (kjX a1 a2) x1 (sL (sL (sL (sL x1 a1 12 P') a1 13 Q') a2 12 (P - P')) a2 13 (Q - Q')) := (((EqOn.rf.sL (by unfold kjX; omega)).sL (by unfold kjX; omega)).sL (by unfold kjX; omega)).sL (by unfold kjX; omega)
      have em2 : EqOn (kjM i j) m1 (sL (sL (sL (sL m1 24 i P') 25 i Q') 24 j (P - P')) 25 j (Q - Q')) := (((EqOn.rf.sL (by unfold kjM; omega)).sL (by unfold kjM; omega)).sL (by unfold kjM; omega)).sL (by unfold kjM; omega)
      generalize (sL (sL (sL (sL x1 a1 12 P') a1 13 Q') a2 12 (P - P')) a2 13 (Q - Q')) = x2 at hJ2 ex2 ⊢
      generalize (sL (sL (sL (sL m1 24 i P') 25 i Q') 24 j (P - P')) 25 j (Q - Q')) = m2 at hJ2 em2 ⊢
      have m20 : ∀ n o, ¬ (21 ≤ n ∧ n ≤ 28) → n ≠ 0 → gI m2 n o = gI m n o := fun n o h1 h2 => by rw [(em2 n o (by unfold kjM; omega)).1, mm n h2 o]
      have ew : ∀ n, wh m2 n = wh m n := fun n => by unfold wh; rw [m20 20 n (by omega) (by omega)]
      have x20 : ∀ o, o < 10 → gI x2 a1 o = gI x a1 o ∧ gI x2 a2 o = gI x a2 o := fun o ho => by
        rw [(ex2 a1 o (by unfold kjX; omega)).1, (ex2 a2 o (by unfold kjX; omega)).1, x6 _ (Ne.symm h01), x6 _ (Ne.symm h02)]; exact ⟨rfl, rfl⟩
      obtain ⟨x', m', s', u', k1, k2, k3, k4, k5, k6, k7, k8, k9⟩ := pass_j (B := 4 * B) hS hJ2 ha hi hi4 hj4 t40 (by rw [ew, m20 20 i (by omega) (by omega)]; exact wi) (by rw [ew, m20 20 j (by omega) (by omega)]; exact wj) (by rw [(x20 8 (by omega)).1, ew, m20 5 _ (by omega) (by omega)]; exact f5) (by rw [(x20 8 (by omega)).2, ew, m20 5 _ (by omega) (by omega)]; exact f6) ⟨a1', a2', (show -(4 * B) ≤ P'.toInt ∧ P'.toInt ≤ 4 * B by omega), (show -(4 * B) ≤ Q'.toInt ∧ Q'.toInt ≤ 4 * B by omega), a5', a6', a7'⟩ ⟨d1', d2', (show -(4 * B) ≤ (P - P').toInt ∧ (P - P').toInt ≤ 4 * B by omega), (show -(4 * B) ≤ (Q - Q').toInt ∧ (Q - Q').toInt ≤ 4 * B by omega), d5', d6', d7'⟩
      refine ⟨x', m', s', u', k1, k2, k3, k4, k5, k6, k7, ?_, ?_, ?_, ?_⟩
      · rw [(k8 a0 6 (by unfold kjX; omega)).1, (ex2 a0 6 (by unfold kjX; omega)).1, cx.1, (k9 0 35 (by unfold kjM; omega)).1, (em2 0 35 (by unfold kjM; omega)).1, cm.1]
      · rw [(k8 a0 7 (by unfold kjX; omega)).1, (ex2 a0 7 (by unfold kjX; omega)).1, cx.2, (k9 0 36 (by unfold kjM; omega)).1, (em2 0 36 (by unfold kjM; omega)).1, cm.2]
      · exact ex.tr ((ex2.tr k8).mono (fun a k p => p.1))
      · exact em.tr ((em2.tr k9).mono (fun a k p => p.1))
    · -- a bounce
      rw [if_pos z3, if_pos z3]
      have hJ := h.c (k1 := 6) (k2 := 35) h01 h02 (gI m 0 35 + 1) (gI m 0 35 + 1)
      have ex : EqOn (knX a0 a1 a2) x (sI x a0 6 (gI m 0 35 + 1)) := EqOn.rf.sI (by unfold knX; omega)
      have em : EqOn (knM i j) m (sI m 0 35 (gI m 0 35 + 1)) := EqOn.rf.sI (by unfold knM; omega)
      have cx : gI (sI x a0 6 (gI m 0 35 + 1)) a0 6 = gI m 0 35 + 1 ∧ gI (sI x a0 6 (gI m 0 35 + 1)) a0 7 = gI m 0 36 := by
        rw [← c2]; simp only [gI_sI, reduceIte, Nat.reduceEqDiff, and_self]
      have cm : gI (sI m 0 35 (gI m 0 35 + 1)) 0 35 = gI m 0 35 + 1 ∧ gI (sI m 0 35 (gI m 0 35 + 1)) 0 36 = gI m 0 36 := ⟨rfl, rfl⟩
      have x6 : ∀ n, n ≠ a0 → ∀ o, gI (sI x a0 6 (gI m 0 35 + 1)) n o = gI x n o := fun n hn o => by simp only [gI_sI, if_neg hn]
      have mm : ∀ n, n ≠ 0 → ∀ o, gI (sI m 0 35 (gI m 0 35 + 1)) n o = gI m n o := fun n hn o => by simp only [gI_sI, if_neg hn]
      generalize (sI x a0 6 (gI m 0 35 + 1)) = x1 at hJ ex cx x6 ⊢
      generalize (sI m 0 35 (gI m 0 35 + 1)) = m1 at hJ em cm mm ⊢
      obtain ⟨R1, R2, R3, R4, R5, R6⟩ := hJ.rX
      obtain ⟨Q1, Q2, Q3, Q4, Q5, Q6⟩ := hJ.sw.rX
      have be := bounce_e (x := x1) (sh := ((gI m 2 (wh m i)).toInt64 + (gI m 2 (wh m j)).toInt64) * ((dx * dx) + (dy * dy))) (X2 := ((2 : Int64) * k) * dx) (X4 := ((2 : Int64) * k) * dy) (ap := (dx * dx) + (dy * dy)) ha (by rw [x6 _ (Ne.symm h01), x6 _ (Ne.symm h02), f1, f2, wa]) sh3
      have sh4 : ¬ (((gI m 2 (wh m i)).toInt64 + (gI m 2 (wh m j)).toInt64) * ((dx * dx) + (dy * dy))) = 0 := fun q => by rw [q, show (0 : Int64).toInt = 0 from rfl] at sh3; omega
      rw [R1, R2, Q1, Q2] at be
      rw [be, bs]
      rw [if_neg sh4, nme, if_neg sh4, nme]
      generalize (((2 : Int64) * k) * dx) / (((gI m 2 (wh m i)).toInt64 + (gI m 2 (wh m j)).toInt64) * ((dx * dx) + (dy * dy))) = gx at gb ⊢
      generalize (((2 : Int64) * k) * dy) / (((gI m 2 (wh m i)).toInt64 + (gI m 2 (wh m j)).toInt64) * ((dx * dx) + (dy * dy))) = gy at gb ⊢
      have hi' : ¬ j = i := Ne.symm hi
      have v1 : ∀ v, gL (sL m1 24 i v) 24 j = gL m1 24 j := fun v => by simp only [gL_sL, reduceIte, if_neg hi']
      have v2 : ∀ v w, gL (sL (sL m1 24 i v) 24 j w) 25 i = gL m1 25 i := fun v w => by simp only [gL_sL, reduceIte, Nat.reduceEqDiff]
      have v3 : ∀ v w y, gL (sL (sL (sL m1 24 i v) 24 j w) 25 i y) 25 j = gL m1 25 j := fun v w y => by simp only [gL_sL, reduceIte, Nat.reduceEqDiff, if_neg hi']
      rw [if_pos ei, if_pos ei, R4, nme, if_pos ej, if_pos ej, v1, Q4, nme, if_pos ei, if_pos ei, v2, R5, nme, if_pos ej, if_pos ej, v3, Q5, nme]
      have e1 : (s.2.2.1 + gx).toInt = s.2.2.1.toInt + gx.toInt := a64 (by omega) (by omega)
      have e2 : (u.2.2.1 - gx).toInt = u.2.2.1.toInt - gx.toInt := s64 (by omega) (by omega)
      have e3 : (s.2.2.2.1 + gy).toInt = s.2.2.2.1.toInt + gy.toInt := a64 (by omega) (by omega)
      have e4 : (u.2.2.2.1 - gy).toInt = u.2.2.2.1.toInt - gy.toInt := s64 (by omega) (by omega)
      generalize s.2.2.1 + gx = A1 at e1 ⊢
      generalize u.2.2.1 - gx = A2 at e2 ⊢
      generalize s.2.2.2.1 + gy = A3 at e3 ⊢
      generalize u.2.2.2.1 - gy = A4 at e4 ⊢
      have hJ2 := (((hJ.p1 ha hi A1).p2 ha hi A2).q1 ha hi A3).q2 ha hi A4
      have ex2 : EqOn (kjX a1 a2) x1 (sL (sL (sL (sL x1 a1 12 A1) a2 12 A2) a1 13 A3) a2 13 A4) := (((EqOn.rf.sL (by unfold kjX; omega)).sL (by unfold kjX; omega)).sL (by unfold kjX; omega)).sL (by unfold kjX; omega)
      have em2 : EqOn (kjM i j) m1 (sL (sL (sL (sL m1 24 i A1) 24 j A2) 25 i A3) 25 j A4) := (((EqOn.rf.sL (by unfold kjM; omega)).sL (by unfold kjM; omega)).sL (by unfold kjM; omega)).sL (by unfold kjM; omega)
      generalize (sL (sL (sL (sL x1 a1 12 A1) a2 12 A2) a1 13 A3) a2 13 A4) = x2 at hJ2 ex2 ⊢
      generalize (sL (sL (sL (sL m1 24 i A1) 24 j A2) 25 i A3) 25 j A4) = m2 at hJ2 em2 ⊢
      have m20 : ∀ n o, ¬ (21 ≤ n ∧ n ≤ 28) → n ≠ 0 → gI m2 n o = gI m n o := fun n o h1 h2 => by rw [(em2 n o (by unfold kjM; omega)).1, mm n h2 o]
      have ew : ∀ n, wh m2 n = wh m n := fun n => by unfold wh; rw [m20 20 n (by omega) (by omega)]
      have x20 : ∀ o, o < 10 → gI x2 a1 o = gI x a1 o ∧ gI x2 a2 o = gI x a2 o := fun o ho => by
        rw [(ex2 a1 o (by unfold kjX; omega)).1, (ex2 a2 o (by unfold kjX; omega)).1, x6 _ (Ne.symm h01), x6 _ (Ne.symm h02)]; exact ⟨rfl, rfl⟩
      obtain ⟨x', m', s', u', k1, k2, k3, k4, k5, k6, k7, k8, k9⟩ := pass_j (B := 4 * B) hS hJ2 ha hi hi4 hj4 t40 (by rw [ew, m20 20 i (by omega) (by omega)]; exact wi) (by rw [ew, m20 20 j (by omega) (by omega)]; exact wj) (by rw [(x20 8 (by omega)).1, ew, m20 5 _ (by omega) (by omega)]; exact f5) (by rw [(x20 8 (by omega)).2, ew, m20 5 _ (by omega) (by omega)]; exact f6) ⟨a1', a2', (show -(4 * B) ≤ A1.toInt ∧ A1.toInt ≤ 4 * B by omega), (show -(4 * B) ≤ A3.toInt ∧ A3.toInt ≤ 4 * B by omega), a5', a6', a7'⟩ ⟨d1', d2', (show -(4 * B) ≤ A2.toInt ∧ A2.toInt ≤ 4 * B by omega), (show -(4 * B) ≤ A4.toInt ∧ A4.toInt ≤ 4 * B by omega), d5', d6', d7'⟩
      refine ⟨x', m', s', u', k1, k2, k3, k4, k5, k6, k7, ?_, ?_, ?_, ?_⟩
      · rw [(k8 a0 6 (by unfold kjX; omega)).1, (ex2 a0 6 (by unfold kjX; omega)).1, cx.1, (k9 0 35 (by unfold kjM; omega)).1, (em2 0 35 (by unfold kjM; omega)).1, cm.1]
      · rw [(k8 a0 7 (by unfold kjX; omega)).1, (ex2 a0 7 (by unfold kjX; omega)).1, cx.2, (k9 0 36 (by unfold kjM; omega)).1, (em2 0 36 (by unfold kjM; omega)).1, cm.2]
      · exact ex.tr ((ex2.tr k8).mono (fun a k p => p.1))
      · exact em.tr ((em2.tr k9).mono (fun a k p => p.1))
  · rw [if_neg z2, if_neg z2]
    exact none'

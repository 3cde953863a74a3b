def seP (v : Int64) (s : SS) : SS := (s.1, s.2.1, v, s.2.2.2)
def seQ (v : Int64) (s : SS) : SS := (s.1, s.2.1, s.2.2.1, v, s.2.2.2.2)
def seS (v : Int32) (s : SS) : SS := (s.1, s.2.1, s.2.2.1, s.2.2.2.1, s.2.2.2.2.1, v, s.2.2.2.2.2.2)
theorem xP (x : Mem) (a : Nat) (v : Int64) : stX (sL x a 12 v) a = seP v (stX x a) := by
  unfold stX seP; simp only [gI_sL, gL_sL, reduceIte, Nat.reduceEqDiff]
theorem xQ (x : Mem) (a : Nat) (v : Int64) : stX (sL x a 13 v) a = seQ v (stX x a) := by
  unfold stX seQ; simp only [gI_sL, gL_sL, reduceIte, Nat.reduceEqDiff]
theorem xS (x : Mem) (a : Nat) (v : Int32) : stX (sI x a 15 v) a = seS v (stX x a) := by
  unfold stX seS; simp only [gI_sI, gL_sI, reduceIte, Nat.reduceEqDiff]
theorem yP (m : Mem) (i : Nat) (v : Int64) : stM (sL m 24 i v) i = seP v (stM m i) := by
  unfold stM seP; simp only [gI_sL, gL_sL, reduceIte, Nat.reduceEqDiff]
theorem yQ (m : Mem) (i : Nat) (v : Int64) : stM (sL m 25 i v) i = seQ v (stM m i) := by
  unfold stM seQ; simp only [gI_sL, gL_sL, reduceIte, Nat.reduceEqDiff]
theorem yS (m : Mem) (i : Nat) (v : Int32) : stM (sI m 26 i v) i = seS v (stM m i) := by
  unfold stM seS; simp only [gI_sI, gL_sI, reduceIte, Nat.reduceEqDiff]
def mK (i a k : Nat) : Prop := ¬ (21 ≤ a ∧ a ≤ 28 ∧ k = i)
theorem stM_cg {i j : Nat} {m m' : Mem} (e : EqOn (mK i) m m') (hj : j ≠ i) : stM m' j = stM m j := by
  have k : ∀ a, mK i a j := fun a => by unfold mK; omega
  unfold stM
  rw [(e 21 j (k _)).2.1, (e 22 j (k _)).2.1, (e 24 j (k _)).2.1, (e 25 j (k _)).2.1, (e 23 j (k _)).1, (e 26 j (k _)).1, (e 27 j (k _)).1, (e 28 j (k _)).1]
theorem xI0 (x : Mem) (a c k : Nat) (v : Int32) (h : ¬ (c = a)) : stX (sI x a k v) c = stX x c := by
  unfold stX; simp only [gI_sI, gL_sI, if_neg h]
theorem yI0 (m : Mem) (j k : Nat) (v : Int32) : stM (sI m 0 k v) j = stM m j := by
  unfold stM; simp only [gI_sI, gL_sI, reduceIte, Nat.reduceEqDiff]
/-- two tops, the same on both sides -/
def J2 (a1 a2 i j : Nat) (x m : Mem) (s u : SS) : Prop := stX x a1 = s ∧ stM m i = s ∧ stX x a2 = u ∧ stM m j = u
theorem J2.p1 {a1 a2 i j : Nat} {x m : Mem} {s u : SS} (h : J2 a1 a2 i j x m s u) (ha : a1 ≠ a2) (hi : i ≠ j) (v : Int64) : J2 a1 a2 i j (sL x a1 12 v) (sL m 24 i v) (seP v s) u := by
  obtain ⟨h1, h2, h3, h4⟩ := h
  refine ⟨by rw [xP, h1], by rw [yP, h2], by rw [stX_cg (a := a1) (EqOn.rf.sL (by unfold spK; omega)) (Ne.symm ha)]; exact h3, by rw [stM_cg (i := i) (EqOn.rf.sL (by unfold mK; omega)) (Ne.symm hi)]; exact h4⟩
theorem J2.q1 {a1 a2 i j : Nat} {x m : Mem} {s u : SS} (h : J2 a1 a2 i j x m s u) (ha : a1 ≠ a2) (hi : i ≠ j) (v : Int64) : J2 a1 a2 i j (sL x a1 13 v) (sL m 25 i v) (seQ v s) u := by
  obtain ⟨h1, h2, h3, h4⟩ := h
  refine ⟨by rw [xQ, h1], by rw [yQ, h2], by rw [stX_cg (a := a1) (EqOn.rf.sL (by unfold spK; omega)) (Ne.symm ha)]; exact h3, by rw [stM_cg (i := i) (EqOn.rf.sL (by unfold mK; omega)) (Ne.symm hi)]; exact h4⟩
theorem J2.s1 {a1 a2 i j : Nat} {x m : Mem} {s u : SS} (h : J2 a1 a2 i j x m s u) (ha : a1 ≠ a2) (hi : i ≠ j) (v : Int32) : J2 a1 a2 i j (sI x a1 15 v) (sI m 26 i v) (seS v s) u := by
  obtain ⟨h1, h2, h3, h4⟩ := h
  refine ⟨by rw [xS, h1], by rw [yS, h2], by rw [stX_cg (a := a1) (EqOn.rf.sI (by unfold spK; omega)) (Ne.symm ha)]; exact h3, by rw [stM_cg (i := i) (EqOn.rf.sI (by unfold mK; omega)) (Ne.symm hi)]; exact h4⟩
theorem J2.sw {a1 a2 i j : Nat} {x m : Mem} {s u : SS} (h : J2 a1 a2 i j x m s u) : J2 a2 a1 j i x m u s := ⟨h.2.2.1, h.2.2.2, h.1, h.2.1⟩
theorem J2.p2 {a1 a2 i j : Nat} {x m : Mem} {s u : SS} (h : J2 a1 a2 i j x m s u) (ha : a1 ≠ a2) (hi : i ≠ j) (v : Int64) : J2 a1 a2 i j (sL x a2 12 v) (sL m 24 j v) s (seP v u) := (h.sw.p1 (Ne.symm ha) (Ne.symm hi) v).sw
theorem J2.q2 {a1 a2 i j : Nat} {x m : Mem} {s u : SS} (h : J2 a1 a2 i j x m s u) (ha : a1 ≠ a2) (hi : i ≠ j) (v : Int64) : J2 a1 a2 i j (sL x a2 13 v) (sL m 25 j v) s (seQ v u) := (h.sw.q1 (Ne.symm ha) (Ne.symm hi) v).sw
theorem J2.s2 {a1 a2 i j : Nat} {x m : Mem} {s u : SS} (h : J2 a1 a2 i j x m s u) (ha : a1 ≠ a2) (hi : i ≠ j) (v : Int32) : J2 a1 a2 i j (sI x a2 15 v) (sI m 26 j v) s (seS v u) := (h.sw.s1 (Ne.symm ha) (Ne.symm hi) v).sw
theorem J2.rX {a1 a2 i j : Nat} {x m : Mem} {s u : SS} (h : J2 a1 a2 i j x m s u) : gL x a1 12 = s.2.2.1 ∧ gL x a1 13 = s.2.2.2.1 ∧ gI x a1 15 = s.2.2.2.2.2.1 ∧ gL m 24 i = s.2.2.1 ∧ gL m 25 i = s.2.2.2.1 ∧ gI m 26 i = s.2.2.2.2.2.1 := by
  obtain ⟨h1, h2, h3, h4⟩ := h
  exact ⟨by rw [← h1]; rfl, by rw [← h1]; rfl, by rw [← h1]; rfl, by rw [← h2]; rfl, by rw [← h2]; rfl, by rw [← h2]; rfl⟩
def kjX (a1 a2 a k : Nat) : Prop := ¬ ((a = a1 ∨ a = a2) ∧ 10 ≤ k ∧ k ≤ 17)
def kjM (i j a k : Nat) : Prop := ¬ (21 ≤ a ∧ a ≤ 28 ∧ (k = i ∨ k = j))
theorem ps_b {s u ls : Int32} {S : Int} (hS : S ≤ 1000000000) (h1 : 0 ≤ s.toInt ∧ s.toInt ≤ S) (h2 : 0 ≤ u.toInt ∧ u.toInt ≤ S) (h3 : 0 ≤ ls.toInt ∧ ls.toInt ≤ 3) : (0 ≤ (if (s - (s - u) / 8) - ls ≤ 0 then 0 else (s - (s - u) / 8) - ls).toInt ∧ (if (s - (s - u) / 8) - ls ≤ 0 then 0 else (s - (s - u) / 8) - ls).toInt ≤ S) ∧ (0 ≤ (if (u + (s - u) / 8) - ls ≤ 0 then 0 else (u + (s - u) / 8) - ls).toInt ∧ (if (u + (s - u) / 8) - ls ≤ 0 then 0 else (u + (s - u) / 8) - ls).toInt ≤ S) := by
  have e1 : (s - u).toInt = s.toInt - u.toInt := s32 (by omega) (by omega)
  have e2 : ((s - u) / 8).toInt = (s.toInt - u.toInt).tdiv 8 := by rw [d32 (by decide), e1]; rfl
  have z0 : (0 : Int32).toInt = 0 := rfl
  have e3 : (0 ≤ s.toInt - u.toInt ∧ (s.toInt - u.toInt).tdiv 8 = (s.toInt - u.toInt) / 8) ∨ (s.toInt - u.toInt < 0 ∧ (s.toInt - u.toInt).tdiv 8 = -((u.toInt - s.toInt) / 8)) := by
    by_cases c : 0 ≤ s.toInt - u.toInt
    · exact Or.inl ⟨c, Int.tdiv_eq_ediv_of_nonneg c⟩
    · refine Or.inr ⟨by omega, ?_⟩
      rw [show s.toInt - u.toInt = -(u.toInt - s.toInt) by omega, Int.neg_tdiv, Int.tdiv_eq_ediv_of_nonneg (by omega)]
  generalize (s.toInt - u.toInt).tdiv 8 = t at e2 e3
  have e4 : (s - (s - u) / 8).toInt = s.toInt - t := by rw [s32, e2] <;> rw [e2] <;> omega
  have e5 : ((s - (s - u) / 8) - ls).toInt = s.toInt - t - ls.toInt := by rw [s32, e4] <;> rw [e4] <;> omega
  have e6 : (u + (s - u) / 8).toInt = u.toInt + t := by rw [a32, e2] <;> rw [e2] <;> omega
  have e7 : ((u + (s - u) / 8) - ls).toInt = u.toInt + t - ls.toInt := by rw [s32, e6] <;> rw [e6] <;> omega
  constructor
  · split
    · rw [z0]; omega
    · rename_i c
      rw [Int32.le_iff_toInt_le, e5, z0] at c
      rw [e5]; omega
  · split
    · rw [z0]; omega
    · rename_i c
      rw [Int32.le_iff_toInt_le, e7, z0] at c
      rw [e7]; omega
theorem pass_j {a1 a2 i j t : Nat} {x m : Mem} {s u : SS} {B S : Int} (hS : S ≤ 1000000000) (h : J2 a1 a2 i j x m s u) (ha : a1 ≠ a2) (hi : i ≠ j) (hi4 : i < 4) (hj4 : j < 4) (ht : t ≤ 40) (wi : gI m 20 i = nI (wh m i) ∧ wh m i < t) (wj : gI m 20 j = nI (wh m j) ∧ wh m j < t) (g1 : gI x a1 8 = gI m 5 (wh m i)) (g2 : gI x a2 8 = gI m 5 (wh m j)) (b1 : bG B S 9 s) (b2 : bG B S 9 u) : ∃ x' m' s' u', f_Bt_collide_b197 a1 a2 x = some x' ∧ f_M_knock_b403 (nI i) (nI j) m = some m' ∧ J2 a1 a2 i j x' m' s' u' ∧ bG B S 9 s' ∧ bG B S 9 u' ∧ ft s' = ft s ∧ ft u' = ft u ∧ EqOn (kjX a1 a2) x x' ∧ EqOn (kjM i j) m m' := by
  obtain ⟨r1, r2, r3, r4, r5, r6⟩ := h.rX
  obtain ⟨q1, q2, q3, q4, q5, q6⟩ := h.sw.rX
  have ei : ib (nI i) 4 = true := ib_n hi4 (by omega)
  have ej : ib (nI j) 4 = true := ib_n hj4 (by omega)
  have ewi : ib (nI (wh m i)) 40 = true := ib_n (by omega) (by omega)
  have ewj : ib (nI (wh m j)) 40 = true := ib_n (by omega) (by omega)
  have key : ∀ ls : Int32, 0 ≤ ls.toInt ∧ ls.toInt ≤ 3 → ∃ x' m' s' u', f_Bt_passSpin_b29 a1 a2 ((s.2.2.2.2.2.1 - u.2.2.2.2.2.1) / 8) ls x = some x' ∧ f_M_knock_b451 (nI i) (nI j) ((s.2.2.2.2.2.1 - u.2.2.2.2.2.1) / 8) ls m = some m' ∧ J2 a1 a2 i j x' m' s' u' ∧ bG B S 9 s' ∧ bG B S 9 u' ∧ ft s' = ft s ∧ ft u' = ft u ∧ EqOn (kjX a1 a2) x x' ∧ EqOn (kjM i j) m m' := by
    intro ls hls
    obtain ⟨p1, p2⟩ := ps_b hS b1.2.2.2.2.2.1 b2.2.2.2.2.2.1 hls
    have eu : ∀ v, gI (sI x a1 15 v) a2 15 = u.2.2.2.2.2.1 := fun v => by rw [gI_sI, if_neg (Ne.symm ha)]; exact q3
    have em : f_M_knock_b451 (nI i) (nI j) ((s.2.2.2.2.2.1 - u.2.2.2.2.2.1) / 8) ls m = some (sI (sI m 26 i (if (s.2.2.2.2.2.1 - (s.2.2.2.2.2.1 - u.2.2.2.2.2.1) / 8) - ls ≤ 0 then 0 else (s.2.2.2.2.2.1 - (s.2.2.2.2.2.1 - u.2.2.2.2.2.1) / 8) - ls)) 26 j (if (u.2.2.2.2.2.1 + (s.2.2.2.2.2.1 - u.2.2.2.2.2.1) / 8) - ls ≤ 0 then 0 else (u.2.2.2.2.2.1 + (s.2.2.2.2.2.1 - u.2.2.2.2.2.1) / 8) - ls)) := by
      unfold f_M_knock_b451 f_M_knock_b497 f_M_knock_b514
      simp only [nme, if_pos ei, if_pos ej, ix_n (show i < 2147483648 by omega), ix_n (show j < 2147483648 by omega), r6, q6]
      by_cases c1 : (s.2.2.2.2.2.1 - (s.2.2.2.2.2.1 - u.2.2.2.2.2.1) / 8) - ls ≤ 0
      · by_cases c2 : (u.2.2.2.2.2.1 + (s.2.2.2.2.2.1 - u.2.2.2.2.2.1) / 8) - ls ≤ 0
        · simp only [if_pos c1, if_pos c2]
        · simp only [if_pos c1, if_neg c2]
      · by_cases c2 : (u.2.2.2.2.2.1 + (s.2.2.2.2.2.1 - u.2.2.2.2.2.1) / 8) - ls ≤ 0
        · simp only [if_neg c1, if_pos c2]
        · simp only [if_neg c1, if_neg c2]
    rw [em]
    unfold f_Bt_passSpin_b29
    rw [r3, max1_e, bs, nme, eu, max1_e, bs, nme]
    generalize (if (s.2.2.2.2.2.1 - (s.2.2.2.2.2.1 - u.2.2.2.2.2.1) / 8) - ls ≤ 0 then 0 else (s.2.2.2.2.2.1 - (s.2.2.2.2.2.1 - u.2.2.2.2.2.1) / 8) - ls) = n1 at p1 ⊢
    generalize (if (u.2.2.2.2.2.1 + (s.2.2.2.2.2.1 - u.2.2.2.2.2.1) / 8) - ls ≤ 0 then 0 else (u.2.2.2.2.2.1 + (s.2.2.2.2.2.1 - u.2.2.2.2.2.1) / 8) - ls) = n2 at p2 ⊢
    refine ⟨_, _, _, _, rfl, rfl, (h.s1 ha hi n1).s2 ha hi n2, ?_, ?_, rfl, rfl, (EqOn.rf.sI (by unfold kjX; omega)).sI (by unfold kjX; omega), (EqOn.rf.sI (by unfold kjM; omega)).sI (by unfold kjM; omega)⟩
    · obtain ⟨c1, c2, c3, c4, c5, c6, c7⟩ := b1
      exact ⟨c1, c2, c3, c4, c5, p1, c7⟩
    · obtain ⟨c1, c2, c3, c4, c5, c6, c7⟩ := b2
      exact ⟨c1, c2, c3, c4, c5, p2, c7⟩
  unfold f_Bt_collide_b197 f_Bt_passSpin f_M_knock_b403
  simp only [nme, if_pos ei, if_pos ej, ix_n (show i < 2147483648 by omega), ix_n (show j < 2147483648 by omega), wi.1, wj.1, if_pos ewi, if_pos ewj, ix_n (show wh m i < 2147483648 by omega), ix_n (show wh m j < 2147483648 by omega), g1, g2, r3, q3, r6, q6]
  by_cases c : gI m 5 (wh m i) = gI m 5 (wh m j)
  · obtain ⟨x', m', s', u', k1, k2, k3⟩ := key 1 (by decide)
    simp only [if_neg (not_not_intro c), k1, bs]
    exact ⟨x', m', s', u', rfl, k2, k3⟩
  · obtain ⟨x', m', s', u', k1, k2, k3⟩ := key 3 (by decide)
    simp only [if_pos c, k1, bs]
    exact ⟨x', m', s', u', rfl, k2, k3⟩

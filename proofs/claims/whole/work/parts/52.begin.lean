def bgX (a c k : Nat) : Prop := ¬ (c = a ∧ 6 ≤ k ∧ k ≤ 17)
def bgM (i a k : Nat) : Prop := ¬ (20 ≤ a ∧ a ≤ 28 ∧ k = i)
theorem mn_e (a b : Int32) : f_JM_min a b = some (if b < a then b else a) := by
  unfold f_JM_min
  split <;> rfl
theorem x12 (x : Mem) (a : Nat) (v6 v7 v8 v9 v14 v15 v16 : Int32) (v10 v11 v12 v13 : Int64) : stX (sI (sI (sI (sL (sL (sI (sL (sL (sI (sI (sI (sI x a 6 v6) a 7 v7) a 8 v8) a 9 v9) a 10 v10) a 11 v11) a 14 v14) a 12 v12) a 13 v13) a 15 v15) a 16 v16) a 17 0) a = (v10, v11, v12, v13, v14, v15, v16, 0) ∧ gI (sI (sI (sI (sL (sL (sI (sL (sL (sI (sI (sI (sI x a 6 v6) a 7 v7) a 8 v8) a 9 v9) a 10 v10) a 11 v11) a 14 v14) a 12 v12) a 13 v13) a 15 v15) a 16 v16) a 17 0) a 6 = v6 ∧ gI (sI (sI (sI (sL (sL (sI (sL (sL (sI (sI (sI (sI x a 6 v6) a 7 v7) a 8 v8) a 9 v9) a 10 v10) a 11 v11) a 14 v14) a 12 v12) a 13 v13) a 15 v15) a 16 v16) a 17 0) a 7 = v7 ∧ gI (sI (sI (sI (sL (sL (sI (sL (sL (sI (sI (sI (sI x a 6 v6) a 7 v7) a 8 v8) a 9 v9) a 10 v10) a 11 v11) a 14 v14) a 12 v12) a 13 v13) a 15 v15) a 16 v16) a 17 0) a 8 = v8 ∧ gI (sI (sI (sI (sL (sL (sI (sL (sL (sI (sI (sI (sI x a 6 v6) a 7 v7) a 8 v8) a 9 v9) a 10 v10) a 11 v11) a 14 v14) a 12 v12) a 13 v13) a 15 v15) a 16 v16) a 17 0) a 9 = v9 := by
  unfold stX
  simp only [gI_sI, gL_sI, gI_sL, gL_sL, reduceIte, Nat.reduceEqDiff, and_self]
/-- a top put at its place, the class's way -/
theorem bgX_e {x : Mem} {a e : Nat} {v6 v7 v8 v9 v14 v15 v16 st al be : Int32} {v10 v11 v12 v13 : Int64} (h10 : ((65 : Int32) * gI x a 2).toInt64 = v10) (h11 : ((65 : Int32) * gI x a 3).toInt64 = v11) (h12 : (v6 * al).toInt64 = v12) (h13 : (v6 * be).toInt64 = v13) (hr : gR x a 0 = some e) (hea : ¬ e = a) (h6 : gI x e 0 = v6) (h6b : 1 ≤ v6.toInt) (h7 : gI x e 1 = v7) (h8 : gI x e 3 = v8) (h9 : (1 : Int32) + (gI x e 2 + gI x e 5) / 4 = v9) (h14 : gI x a 4 = v14) (hal : ∀ μ, f_Hd_alongX μ v14 = some al) (hbe : ∀ μ, f_Hd_alongY μ v14 = some be) (h15 : (10 : Int32) * (if st < (if (40 : Int32) - 2 * gI x e 2 < gI x a 5 then (40 : Int32) - 2 * gI x e 2 else gI x a 5) then st else (if (40 : Int32) - 2 * gI x e 2 < gI x a 5 then (40 : Int32) - 2 * gI x e 2 else gI x a 5)) = v15) (h16 : (if (4 : Int32) < gI x e 5 then 4 else gI x e 5) = v16) : f_Sp_begin x a st = some (sI (sI (sI (sL (sL (sI (sL (sL (sI (sI (sI (sI x a 6 v6) a 7 v7) a 8 v8) a 9 v9) a 10 v10) a 11 v11) a 14 v14) a 12 v12) a 13 v13) a 15 v15) a 16 v16) a 17 0) := by
  have m1 : f_JM_max1 1 v6 = some v6 := by
    unfold f_JM_max1
    by_cases c : (1 : Int32) < v6
    · rw [if_pos c]
    · rw [if_neg c]
      rw [Int32.lt_iff_toInt_lt, show (1 : Int32).toInt = 1 from rfl] at c
      rw [show v6 = 1 from i32_inj (by rw [show (1 : Int32).toInt = 1 from rfl]; omega)]
  unfold f_Sp_begin
  simp only [nme, gR_sI, gR_sL, hr, gI_sI, gL_sI, gI_sL, gL_sL, reduceIte, Nat.reduceEqDiff, if_neg hea, h6, m1, bs, h7, h8, h9, h14, hal, hbe, mn_e, h15, h16, h10, h11, h12, h13]
theorem bgM_e {m : Mem} {i j o : Nat} {cx cy h tu w al be v26 v27 : Int32} {v21 v22 v24 v25 : Int64} (h21 : (65 : Int64) * cx.toInt64 = v21) (h22 : (65 : Int64) * cy.toInt64 = v22) (h24 : w.toInt64 * al.toInt64 = v24) (h25 : w.toInt64 * be.toInt64 = v25) (hi : i < 4) (hj : j < 40) (ho : o < 8) (h2 : gI m 2 j = w) (h6 : gI m 6 j = nI o) (hal : ∀ μ, (∀ k, gI μ 1 k = gI m 1 k) → f_M_c μ h = some al) (hbe : ∀ μ, (∀ k, gI μ 1 k = gI m 1 k) → f_M_s μ h = some be) (h26 : (10 : Int32) * (if (if (40 : Int32) - 2 * gI m 4 j ≤ tu then (40 : Int32) - 2 * gI m 4 j else tu) ≤ gI m 8 o then (if (40 : Int32) - 2 * gI m 4 j ≤ tu then (40 : Int32) - 2 * gI m 4 j else tu) else gI m 8 o) = v26) (h27 : (if (4 : Int32) ≤ gI m 7 j then 4 else gI m 7 j) = v27) : f_M_begins m (nI i) (nI j) cx cy h tu = some (sI (sI (sI (sL (sL (sI (sL (sL (sI m 20 i (nI j)) 21 i v21) 22 i v22) 23 i h) 24 i v24) 25 i v25) 26 i v26) 27 i v27) 28 i 0) := by
  have ei : ib (nI i) 4 = true := ib_n hi (by omega)
  have ej : ib (nI j) 40 = true := ib_n hj (by omega)
  have eo : ib (nI o) 8 = true := ib_n ho (by omega)
  have ii : ix (nI i) = i := ix_n (by omega)
  have ij : ix (nI j) = j := ix_n (by omega)
  have io : ix (nI o) = o := ix_n (by omega)
  have key : ∀ tv, (10 : Int32) * tv = v26 → f_M_begins_b66 (nI i) (nI j) cx cy h tv m = some (sI (sI (sI (sL (sL (sI (sL (sL (sI m 20 i (nI j)) 21 i v21) 22 i v22) 23 i h) 24 i v24) 25 i v25) 26 i v26) 27 i v27) 28 i 0) := by
    intro tv htv
    unfold f_M_begins_b66 f_M_begins_b186
    have g2 : gI (sI (sL (sL (sI m 20 i (nI j)) 21 i v21) 22 i v22) 23 i h) 2 j = w := by simp only [gI_sI, gI_sL, reduceIte, Nat.reduceEqDiff, h2]
    have g2' : gI (sL (sI (sL (sL (sI m 20 i (nI j)) 21 i v21) 22 i v22) 23 i h) 24 i v24) 2 j = w := by simp only [gI_sI, gI_sL, reduceIte, Nat.reduceEqDiff, h2]
    rw [if_pos ei, nme, if_pos ei, nme, if_pos ei, nme, if_pos ei, nme, if_pos ej, ii, ij, h21, h22]
    rw [hal (sI (sL (sL (sI m 20 i (nI j)) 21 i v21) 22 i v22) 23 i h) (fun k => rfl), bs, if_pos ei, g2, h24, nme, if_pos ej, hbe (sL (sI (sL (sL (sI m 20 i (nI j)) 21 i v21) 22 i v22) 23 i h) 24 i v24) (fun k => rfl), bs, if_pos ei, g2', h25, nme, if_pos ei, nme, htv, if_pos ej]
    simp only [gI_sI, gI_sL, reduceIte, Nat.reduceEqDiff, h2, if_pos ei, if_pos ej, nme]
    by_cases c : (4 : Int32) ≤ gI m 7 j
    · rw [if_pos c] at h27 ⊢
      rw [h27]
    · rw [if_neg c] at h27 ⊢
      rw [h27]
  have key2 : ∀ tv, (10 : Int32) * (if tv ≤ gI m 8 o then tv else gI m 8 o) = v26 → f_M_begins_b32 (nI i) (nI j) cx cy h tv m = some (sI (sI (sI (sL (sL (sI (sL (sL (sI m 20 i (nI j)) 21 i v21) 22 i v22) 23 i h) 24 i v24) 25 i v25) 26 i v26) 27 i v27) 28 i 0) := by
    intro tv htv
    unfold f_M_begins_b32
    rw [if_pos ej, ij, h6, if_pos eo, io, if_pos ej, if_pos eo]
    by_cases c : tv ≤ gI m 8 o
    · rw [if_pos c] at htv ⊢
      exact key tv htv
    · rw [if_neg c] at htv ⊢
      exact key _ htv
  unfold f_M_begins
  rw [if_pos ej, ij, if_pos ej]
  by_cases c : (40 : Int32) - 2 * gI m 4 j ≤ tu
  · rw [if_pos c] at h26 ⊢
    exact key2 _ h26
  · rw [if_neg c] at h26 ⊢
    exact key2 _ h26
theorem y9 (m : Mem) (i : Nat) (v20 v23 v26 v27 : Int32) (v21 v22 v24 v25 : Int64) : stM (sI (sI (sI (sL (sL (sI (sL (sL (sI m 20 i v20) 21 i v21) 22 i v22) 23 i v23) 24 i v24) 25 i v25) 26 i v26) 27 i v27) 28 i 0) i = (v21, v22, v24, v25, v23, v26, v27, 0) ∧ gI (sI (sI (sI (sL (sL (sI (sL (sL (sI m 20 i v20) 21 i v21) 22 i v22) 23 i v23) 24 i v24) 25 i v25) 26 i v26) 27 i v27) 28 i 0) 20 i = v20 := by
  unfold stM
  simp only [gI_sI, gL_sI, gI_sL, gL_sL, reduceIte, Nat.reduceEqDiff, and_self]
theorem min_c {a b : Int32} : (if b < a then b else a) = (if b ≤ a then b else a) := by
  by_cases c : b ≤ a
  · rw [if_pos c]
    by_cases d : b < a
    · rw [if_pos d]
    · rw [if_neg d]
      rw [Int32.le_iff_toInt_le] at c; rw [Int32.lt_iff_toInt_lt] at d
      exact i32_inj (by omega)
  · rw [if_neg c, if_neg (by rw [Int32.le_iff_toInt_le] at c; rw [Int32.lt_iff_toInt_lt]; omega)]
theorem min_d {a b : Int32} : (if b < a then b else a) = (if a ≤ b then a else b) := by
  by_cases c : a ≤ b
  · rw [if_pos c, if_neg (by rw [Int32.le_iff_toInt_le] at c; rw [Int32.lt_iff_toInt_lt]; omega)]
  · rw [if_neg c, if_pos (by rw [Int32.le_iff_toInt_le] at c; rw [Int32.lt_iff_toInt_lt]; omega)]
theorem mx64 {a b : Int32} (h : -10000 ≤ a.toInt * b.toInt ∧ a.toInt * b.toInt ≤ 10000) : (a * b).toInt64 = a.toInt64 * b.toInt64 := by
  apply Int64.toInt_inj.mp
  rw [Int32.toInt_toInt64, m32 (by omega) (by omega), m64, Int32.toInt_toInt64, Int32.toInt_toInt64] <;> rw [Int32.toInt_toInt64, Int32.toInt_toInt64] <;> omega
theorem sp0_b {pg tu st v : Int32} (hp : 1 ≤ pg.toInt ∧ pg.toInt ≤ 9) (ht : 1 ≤ tu.toInt ∧ tu.toInt ≤ 60) (hs : 0 ≤ st.toInt ∧ st.toInt ≤ 200) (h : (10 : Int32) * (if (if (40 : Int32) - 2 * pg ≤ tu then (40 : Int32) - 2 * pg else tu) ≤ st then (if (40 : Int32) - 2 * pg ≤ tu then (40 : Int32) - 2 * pg else tu) else st) = v) : 0 ≤ v.toInt ∧ v.toInt ≤ 1000 := by
  have g4 : (2 * pg).toInt = 2 * pg.toInt := m32 (by rw [show (2 : Int32).toInt = 2 from rfl]; omega) (by rw [show (2 : Int32).toInt = 2 from rfl]; omega)
  have g5 : ((40 : Int32) - 2 * pg).toInt = 40 - 2 * pg.toInt := by
    rw [s32, g4, show (40 : Int32).toInt = 40 from rfl] <;> rw [g4, show (40 : Int32).toInt = 40 from rfl] <;> omega
  have g6 : ∃ tv : Int32, (if (40 : Int32) - 2 * pg ≤ tu then (40 : Int32) - 2 * pg else tu) = tv ∧ 0 ≤ tv.toInt ∧ tv.toInt ≤ 60 := by
    refine ⟨_, rfl, ?_⟩
    split
    · rw [g5]; omega
    · omega
  obtain ⟨tv, e1, e2⟩ := g6
  rw [e1] at h
  have g7 : ∃ tw : Int32, (if tv ≤ st then tv else st) = tw ∧ 0 ≤ tw.toInt ∧ tw.toInt ≤ 60 := by
    refine ⟨_, rfl, ?_⟩
    split
    · omega
    · rename_i c
      rw [Int32.le_iff_toInt_le] at c
      omega
  obtain ⟨tw, e3, e4⟩ := g7
  rw [e3] at h
  rw [← h, m32 (by rw [show (10 : Int32).toInt = 10 from rfl]; omega) (by rw [show (10 : Int32).toInt = 10 from rfl]; omega), show (10 : Int32).toInt = 10 from rfl]
  omega
theorem begin1 {b i j t : Nat} {x m : Mem} {cx cy h tu : Int32} (hb : 10 ≤ b ∧ b ≤ 19) (hi : i < 4) (hT : iTop t x m) (hC : iCs m) (hSt : iStr x m) (hj : j < t) (hr : gR x (b + i) 0 = some (56 + j)) (e2 : gI x (b + i) 2 = cx) (e3 : gI x (b + i) 3 = cy) (e4 : gI x (b + i) 4 = h) (e5 : gI x (b + i) 5 = tu) (bx : bt cx (-30) 30) (by_ : bt cy (-30) 30) (bh : bt h 0 35) (btu : bt tu 1 60) : ∃ x' m' s o, o < 8 ∧ gI x (56 + j) 4 = nI o ∧ f_Sp_begin x (b + i) (gI x 4 o) = some x' ∧ f_M_begins m (nI i) (nI j) cx cy h tu = some m' ∧ stX x' (b + i) = s ∧ stM m' i = s ∧ ft s = 0 ∧ bG 798924800 1000 8 s ∧ gI x' (b + i) 6 = gI m 2 j ∧ gI x' (b + i) 7 = gI m 3 j ∧ gI x' (b + i) 8 = gI m 5 j ∧ gI x' (b + i) 9 = (1 : Int32) + (gI m 4 j + gI m 7 j) / 4 ∧ gI m' 20 i = nI j ∧ EqOn (bgX (b + i)) x x' ∧ EqOn (bgM i) m m' := by
  obtain ⟨t40, _, _, hT4⟩ := hT
  obtain ⟨r0, r1, r2, r3, r4, r5, r6, b1, b2, b3, b4, b5, b6⟩ := hT4 j hj
  obtain ⟨o, ho, eo⟩ := toN (v := gI m 6 j) (n := 8) b5.1 (by have := b5.2; omega)
  obtain ⟨k, hk, rfl⟩ := toN (v := h) (n := 36) bh.1 (by have := bh.2; omega)
  obtain ⟨s1, s2⟩ := hSt o ho
  have hea : ¬ (56 + j = b + i) := by omega
  unfold bt at b1 b2 b3 b6 s2 bx by_ btu
  have c1 := cs_b k hk
  have c2 := cs_b ((k + 27) % 36) (by omega)
  have q1 := mul_b (a := (gI m 2 j).toInt) (b := (csT.getD k 0).toInt) (n := 50) (k := 65) (by omega) c1
  have q2 := mul_b (a := (gI m 2 j).toInt) (b := (csT.getD ((k + 27) % 36) 0).toInt) (n := 50) (k := 65) (by omega) c2
  have l65 : (65 : Int32).toInt = 65 := rfl
  have k65 : (65 : Int32).toInt64 = 65 := rfl
  obtain ⟨al, hal⟩ : ∃ v, csT.getD k 0 = v := ⟨_, rfl⟩
  obtain ⟨be, hbe⟩ : ∃ v, csT.getD ((k + 27) % 36) 0 = v := ⟨_, rfl⟩
  rw [hal] at q1 c1
  rw [hbe] at q2 c2
  obtain ⟨w1, f1⟩ : ∃ v, (65 : Int64) * cx.toInt64 = v := ⟨_, rfl⟩
  obtain ⟨w2, f2⟩ : ∃ v, (65 : Int64) * cy.toInt64 = v := ⟨_, rfl⟩
  obtain ⟨w3, f3⟩ : ∃ v, (gI m 2 j).toInt64 * al.toInt64 = v := ⟨_, rfl⟩
  obtain ⟨w4, f4⟩ : ∃ v, (gI m 2 j).toInt64 * be.toInt64 = v := ⟨_, rfl⟩
  obtain ⟨w5, f5⟩ : ∃ v, (10 : Int32) * (if (if (40 : Int32) - 2 * gI m 4 j ≤ tu then (40 : Int32) - 2 * gI m 4 j else tu) ≤ gI m 8 o then (if (40 : Int32) - 2 * gI m 4 j ≤ tu then (40 : Int32) - 2 * gI m 4 j else tu) else gI m 8 o) = v := ⟨_, rfl⟩
  obtain ⟨w6, f6⟩ : ∃ v, (if (4 : Int32) ≤ gI m 7 j then 4 else gI m 7 j) = v := ⟨_, rfl⟩
  have X := bgX_e (x := x) (a := b + i) (e := 56 + j) (v6 := gI m 2 j) (v7 := gI m 3 j) (v8 := gI m 5 j) (v9 := (1 : Int32) + (gI m 4 j + gI m 7 j) / 4) (v10 := w1) (v11 := w2) (v12 := w3) (v13 := w4) (v14 := nI k) (v15 := w5) (v16 := w6) (st := gI x 4 o) (al := al) (be := be) (by rw [e2, mx64 (by rw [l65]; omega), k65]; exact f1) (by rw [e3, mx64 (by rw [l65]; omega), k65]; exact f2) (by rw [mx64 (by omega)]; exact f3) (by rw [mx64 (by omega)]; exact f4) hr hea r1 b1.1 r2 r4 (by rw [r3, r6]) e4 (fun μ => by rw [alongX_e μ hk, hal]) (fun μ => by rw [alongY_e μ hk, hbe]) (by rw [r3, e5, s1, min_c (a := tu), min_d (b := gI m 8 o)]; exact f5) (by rw [r6, min_c (a := gI m 7 j)]; exact f6)
  have M := bgM_e (m := m) (i := i) (j := j) (o := o) (cx := cx) (cy := cy) (h := nI k) (tu := tu) (al := al) (be := be) f1 f2 f3 f4 hi (by omega) ho rfl eo (fun μ e => by rw [c_e (fun n hn => by rw [e]; exact hC n hn) hk, hal]) (fun μ e => by rw [s_e (fun n hn => by rw [e]; exact hC n hn) hk, hbe]) f5 f6
  have d1 : w1.toInt = 65 * cx.toInt := by
    rw [← f1, m64, Int32.toInt_toInt64, show (65 : Int64).toInt = 65 from rfl] <;> rw [Int32.toInt_toInt64, show (65 : Int64).toInt = 65 from rfl] <;> omega
  have d2 : w2.toInt = 65 * cy.toInt := by
    rw [← f2, m64, Int32.toInt_toInt64, show (65 : Int64).toInt = 65 from rfl] <;> rw [Int32.toInt_toInt64, show (65 : Int64).toInt = 65 from rfl] <;> omega
  have d3 : w3.toInt = (gI m 2 j).toInt * al.toInt := by
    rw [← f3, m64, Int32.toInt_toInt64, Int32.toInt_toInt64] <;> rw [Int32.toInt_toInt64, Int32.toInt_toInt64] <;> omega
  have d4 : w4.toInt = (gI m 2 j).toInt * be.toInt := by
    rw [← f4, m64, Int32.toInt_toInt64, Int32.toInt_toInt64] <;> rw [Int32.toInt_toInt64, Int32.toInt_toInt64] <;> omega
  have g8 := sp0_b b3 btu s2 f5
  have g9 : 0 ≤ w6.toInt ∧ w6.toInt ≤ 8 := by
    rw [← f6]
    split
    · decide
    · rename_i c
      rw [Int32.le_iff_toInt_le, show (4 : Int32).toInt = 4 from rfl] at c
      omega
  have kk : (nI k).toInt = (k : Int) := nI_t (by omega)
  obtain ⟨z1, z2, z3, z4, z5⟩ := x12 x (b + i) (gI m 2 j) (gI m 3 j) (gI m 5 j) ((1 : Int32) + (gI m 4 j + gI m 7 j) / 4) (nI k) w5 w6 w1 w2 w3 w4
  obtain ⟨y1, y2⟩ := y9 m i (nI j) (nI k) w5 w6 w1 w2 w3 w4
  have o1 : ∀ n, 6 ≤ n → n ≤ 17 → ¬ bgX (b + i) (b + i) n := fun n h1 h2 => by unfold bgX; omega
  have o2 : ∀ n, 20 ≤ n → n ≤ 28 → ¬ bgM i n i := fun n h1 h2 => by unfold bgM; omega
  refine ⟨_, _, _, o, ho, r5.trans eo, X, M, z1, y1, rfl, ?_, z2, z3, z4, z5, y2, ?_, ?_⟩
  · exact ⟨(show -1950 ≤ w1.toInt ∧ w1.toInt ≤ 1950 by omega), (show -1950 ≤ w2.toInt ∧ w2.toInt ≤ 1950 by omega), (show -798924800 ≤ w3.toInt ∧ w3.toInt ≤ 798924800 by omega), (show -798924800 ≤ w4.toInt ∧ w4.toInt ≤ 798924800 by omega), (show 0 ≤ (nI k).toInt ∧ (nI k).toInt ≤ 35 by omega), g8, g9⟩
  · exact (((((((((((EqOn.rf.sI (o1 _ (by omega) (by omega))).sI (o1 _ (by omega) (by omega))).sI (o1 _ (by omega) (by omega))).sI (o1 _ (by omega) (by omega))).sL (o1 _ (by omega) (by omega))).sL (o1 _ (by omega) (by omega))).sI (o1 _ (by omega) (by omega))).sL (o1 _ (by omega) (by omega))).sL (o1 _ (by omega) (by omega))).sI (o1 _ (by omega) (by omega))).sI (o1 _ (by omega) (by omega))).sI (o1 _ (by omega) (by omega))
  · exact ((((((((EqOn.rf.sI (o2 _ (by omega) (by omega))).sL (o2 _ (by omega) (by omega))).sL (o2 _ (by omega) (by omega))).sI (o2 _ (by omega) (by omega))).sL (o2 _ (by omega) (by omega))).sL (o2 _ (by omega) (by omega))).sI (o2 _ (by omega) (by omega))).sI (o2 _ (by omega) (by omega))).sI (o2 _ (by omega) (by omega))

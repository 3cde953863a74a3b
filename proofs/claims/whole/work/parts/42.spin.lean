def spK (c b k : Nat) : Prop := ¬ (b = c ∧ 10 ≤ k ∧ k ≤ 17)
theorem max1_e (a : Int32) : f_JM_max1 0 a = some (if a ≤ 0 then 0 else a) := by
  unfold f_JM_max1
  by_cases h : a ≤ 0
  · rw [if_neg (by rw [Int32.lt_iff_toInt_lt]; rw [Int32.le_iff_toInt_le] at h; omega), if_pos h]
  · rw [if_pos (by rw [Int32.lt_iff_toInt_lt]; rw [Int32.le_iff_toInt_le] at h; omega), if_neg h]
theorem sl_e {s d l : Int32} (h1 : 0 ≤ s.toInt) (h2 : 0 ≤ d.toInt ∧ d.toInt ≤ 5) (h3 : 0 ≤ l.toInt ∧ l.toInt ≤ 9) : f_JM_max1 0 ((s - d) - l) = some (if s ≤ d + l then 0 else s - (d + l)) := by
  have hs := s.toInt_le
  have hs2 : s.toInt ≤ 2147483647 := hs
  have e1 : (d + l).toInt = d.toInt + l.toInt := a32 (by omega) (by omega)
  have e2 : (s - d).toInt = s.toInt - d.toInt := s32 (by omega) (by omega)
  have e3 : ((s - d) - l).toInt = s.toInt - d.toInt - l.toInt := by rw [s32 (by omega) (by omega), e2]
  have e4 : (s - (d + l)).toInt = s.toInt - (d.toInt + l.toInt) := by rw [s32 (by omega) (by omega), e1]
  have e5 : (s - d) - l = s - (d + l) := i32_inj (by omega)
  rw [max1_e, e5]
  by_cases c : s ≤ d + l
  · rw [if_pos c, if_pos (by rw [Int32.le_iff_toInt_le] at *; rw [e4, show (0 : Int32).toInt = 0 from rfl]; omega)]
  · rw [if_neg c, if_neg (by rw [Int32.le_iff_toInt_le] at *; rw [e4, show (0 : Int32).toInt = 0 from rfl]; omega)]
theorem ti_l : ∀ l, l < 10 → f_JM_max1 0 (nI l - 1) = some (if nI l ≤ 0 then 0 else nI l - 1) := by decide +kernel
theorem fd_l : ∀ a, a < 63 → ∀ b, b < 62 → f_JM_floorDiv (Int64.ofInt (((62 * a + b : Nat) : Int) - 1950)) 65 = some ((fl65 (Int64.ofInt (((62 * a + b : Nat) : Int) - 1950))).toInt64) ∧ -30 ≤ (fl65 (Int64.ofInt (((62 * a + b : Nat) : Int) - 1950))).toInt ∧ (fl65 (Int64.ofInt (((62 * a + b : Nat) : Int) - 1950))).toInt ≤ 30 := by decide +kernel
theorem fd_e {v : Int64} (h : -1950 ≤ v.toInt ∧ v.toInt ≤ 1950) : f_JM_floorDiv v 65 = some (fl65 v).toInt64 ∧ -30 ≤ (fl65 v).toInt ∧ (fl65 v).toInt ≤ 30 := by
  have e : v = Int64.ofInt (((v.toInt + 1950).toNat : Int) - 1950) := by
    rw [show (((v.toInt + 1950).toNat : Int) - 1950) = v.toInt by omega, Int64.ofInt_toInt]
  have f := fd_l ((v.toInt + 1950).toNat / 62) (by omega) ((v.toInt + 1950).toNat % 62) (by omega)
  rw [show 62 * ((v.toInt + 1950).toNat / 62) + (v.toInt + 1950).toNat % 62 = (v.toInt + 1950).toNat by omega] at f
  rw [e]
  exact f
theorem hm_l : ∀ h, h < 36 → ∀ l, l < 10 → (f_JM_floorMod (nI h + 1 * (1 + nI l)) 36 = some (hdF (nI h) 1 (nI l)) ∧ 0 ≤ (hdF (nI h) 1 (nI l)).toInt ∧ (hdF (nI h) 1 (nI l)).toInt < 36) ∧ (f_JM_floorMod (nI h + (-1) * (1 + nI l)) 36 = some (hdF (nI h) (-1) (nI l)) ∧ 0 ≤ (hdF (nI h) (-1) (nI l)).toInt ∧ (hdF (nI h) (-1) (nI l)).toInt < 36) := by decide +kernel
theorem hm_e {h l sn : Int32} (h1 : 0 ≤ h.toInt ∧ h.toInt ≤ 35) (h2 : 0 ≤ l.toInt ∧ l.toInt ≤ 9) (h3 : sn = 1 ∨ sn = -1) : f_JM_floorMod (h + sn * (1 + l)) 36 = some (hdF h sn l) ∧ ∃ k, k < 36 ∧ hdF h sn l = nI k := by
  obtain ⟨a, ha, rfl⟩ := toN (v := h) (n := 36) h1.1 (by omega)
  obtain ⟨b, hb, rfl⟩ := toN (v := l) (n := 10) h2.1 (by omega)
  obtain ⟨⟨q1, q2, q3⟩, q4, q5, q6⟩ := hm_l a ha b hb
  rcases h3 with e | e
  · subst e; exact ⟨q1, toN q2 (by omega)⟩
  · subst e; exact ⟨q4, toN q5 (by omega)⟩
theorem sq_r (r : Int64) : ((65 : Int64) * r) * (65 * r) = ((4225 : Int64) * r) * r := by grind
theorem sp_slow {x : Mem} {a : Nat} {d : Int32} (h9 : gI x a 9 = d) (hd : 0 ≤ d.toInt ∧ d.toInt ≤ 5) (hs : 0 ≤ (gI x a 15).toInt) (hl : 0 ≤ (gI x a 16).toInt ∧ (gI x a 16).toInt ≤ 9) : ∃ x', f_Sp_slow x a = some x' ∧ stX x' a = slF d (stX x a) ∧ EqOn (spK a) x x' := by
  unfold f_Sp_slow
  rw [h9, sl_e hs hd hl, bs, nme]
  refine ⟨_, rfl, ?_, EqOn.rf.sI (by unfold spK; omega)⟩
  unfold slF stX
  simp only [gI_sI, gL_sI, gI_sL, gL_sL, reduceIte, Nat.reduceEqDiff]
theorem sp_tilt {x : Mem} {a : Nat} (hl : 0 ≤ (gI x a 16).toInt ∧ (gI x a 16).toInt ≤ 9) : ∃ x', f_Sp_tilt x a = some x' ∧ stX x' a = tiF (stX x a) ∧ EqOn (spK a) x x' := by
  obtain ⟨b, hb, eb⟩ := toN (v := gI x a 16) (n := 10) hl.1 (by omega)
  have tl := ti_l b hb
  rw [← eb] at tl
  unfold f_Sp_tilt
  rw [tl, bs]
  simp only [nme]
  by_cases c1 : gI x a 15 < (100 : Int32) + (10 : Int32) * gI x a 16
  · rw [if_pos c1]
    by_cases c2 : (50 : Int32) ≤ gI x a 15
    · rw [if_pos c2]
      refine ⟨_, rfl, ?_, EqOn.rf⟩
      unfold tiF stX
      simp only [if_pos c1, if_pos c2]
    · rw [if_neg c2]
      refine ⟨_, rfl, ?_, EqOn.rf.sI (by unfold spK; omega)⟩
      unfold tiF stX
      simp only [gI_sI, gL_sI, gI_sL, gL_sL, reduceIte, Nat.reduceEqDiff, if_pos c1, if_neg c2]
  · rw [if_neg c1]
    refine ⟨_, rfl, ?_, EqOn.rf.sI (by unfold spK; omega)⟩
    unfold tiF stX
    simp only [gI_sI, gL_sI, gI_sL, gL_sL, reduceIte, Nat.reduceEqDiff, if_neg c1]
theorem sx5 (μ : Mem) (a : Nat) (v1 v2 v4 v5 : Int64) (v3 : Int32) : stX (sL (sL (sI (sL (sL μ a 12 v1) a 13 v2) a 14 v3) a 12 v4) a 13 v5) a = (gL μ a 10, gL μ a 11, v4, v5, v3, gI μ a 15, gI μ a 16, gI μ a 17) := by
  unfold stX
  simp only [gI_sI, gL_sI, gI_sL, gL_sL, reduceIte, Nat.reduceEqDiff]
theorem sp_push {x : Mem} {a : Nat} {w sn : Int32} {X Y : Int32 → Int32 → Int32} (h6 : gI x a 6 = w) (h8 : gI x a 8 = sn) (hsn : sn = 1 ∨ sn = -1) (hx : -1950 ≤ (gL x a 10).toInt ∧ (gL x a 10).toInt ≤ 1950) (hy : -1950 ≤ (gL x a 11).toInt ∧ (gL x a 11).toInt ≤ 1950) (hh : 0 ≤ (gI x a 14).toInt ∧ (gI x a 14).toInt ≤ 35) (hl : 0 ≤ (gI x a 16).toInt ∧ (gI x a 16).toInt ≤ 9) (hX : ∀ μ, EqOn (spK a) x μ → ∀ p q, f_Bw_slopeAlongX μ p q = some (X p q)) (hY : ∀ μ, EqOn (spK a) x μ → ∀ p q, f_Bw_slopeAlongY μ p q = some (Y p q)) : ∃ x', f_Sp_push x a = some x' ∧ stX x' a = puF w sn X Y (stX x a) ∧ EqOn (spK a) x x' := by
  obtain ⟨p1, p2, p3⟩ := fd_e hx
  obtain ⟨q1, q2, q3⟩ := fd_e hy
  obtain ⟨m1, k, hk, ek⟩ := hm_e hh hl hsn
  have o1 : ∀ j, 10 ≤ j → j ≤ 17 → ¬ spK a a j := fun j h1 h2 => by unfold spK; omega
  have t1 : ∀ v : Int32, v.toInt64.toInt32 = v := fun v => by simp
  have g1 : ∀ μ v, gI (sL μ a 12 v) a 6 = gI μ a 6 := fun μ v => rfl
  have g2 : ∀ μ v, gL (sL μ a 12 v) a 13 = gL μ a 13 := fun μ v => by simp only [gL_sL, reduceIte, Nat.reduceEqDiff]
  have g3 : ∀ v u, gI (sL (sL x a 12 v) a 13 u) a 14 + gI (sL (sL x a 12 v) a 13 u) a 8 * ((1 : Int32) + gI (sL (sL x a 12 v) a 13 u) a 16) = gI x a 14 + sn * ((1 : Int32) + gI x a 16) := fun v u => by rw [← h8]; rfl
  have g4 : ∀ μ v, gI (sI μ a 14 v) a 14 = v := fun μ v => by simp only [gI_sI, reduceIte, Nat.reduceEqDiff]
  have g5 : ∀ v u z, gL (sI (sL (sL x a 12 v) a 13 u) a 14 z) a 12 = v := fun v u z => by simp only [gL_sI, gL_sL, reduceIte, Nat.reduceEqDiff]
  have g6 : ∀ v u z, gI (sI (sL (sL x a 12 v) a 13 u) a 14 z) a 6 = w := fun v u z => by simp only [gI_sI, gI_sL, reduceIte, Nat.reduceEqDiff, h6]
  have g7 : ∀ v u z, gI (sI (sL (sL x a 12 v) a 13 u) a 14 z) a 16 = gI x a 16 := fun v u z => by simp only [gI_sI, gI_sL, reduceIte, Nat.reduceEqDiff]
  have g8 : ∀ μ v z, gI (sL (sI μ a 14 v) a 12 z) a 14 = v := fun μ v z => by simp only [gI_sI, gI_sL, reduceIte, Nat.reduceEqDiff]
  have g9 : ∀ v u z y, gL (sL (sI (sL (sL x a 12 v) a 13 u) a 14 z) a 12 y) a 13 = u := fun v u z y => by simp only [gL_sI, gL_sL, reduceIte, Nat.reduceEqDiff]
  have g10 : ∀ v u z y, gI (sL (sI (sL (sL x a 12 v) a 13 u) a 14 z) a 12 y) a 6 = w := fun v u z y => by simp only [gI_sI, gI_sL, reduceIte, Nat.reduceEqDiff, h6]
  have g11 : ∀ v u z y, gI (sL (sI (sL (sL x a 12 v) a 13 u) a 14 z) a 12 y) a 16 = gI x a 16 := fun v u z y => by simp only [gI_sI, gI_sL, reduceIte, Nat.reduceEqDiff]
  unfold f_Sp_push
  rw [p1, bs, nme, t1, q1, bs, nme, t1, hX x EqOn.rf, bs, nme, hY _ (EqOn.rf.sL (o1 12 (by omega) (by omega))), bs, g1, g2, nme, g3, m1, bs, ek, nme, g4, alongX_e _ hk, bs, g5, g6, g7, nme, g8, alongY_e _ hk, bs, g9, g10, g11, nme]
  refine ⟨_, rfl, ?_, ((((EqOn.rf.sL (o1 _ (by omega) (by omega))).sL (o1 _ (by omega) (by omega))).sI (o1 _ (by omega) (by omega))).sL (o1 _ (by omega) (by omega))).sL (o1 _ (by omega) (by omega))⟩
  rw [sx5, h6, ← cT_n hk, ← sT_n hk, ← ek]
  rfl
theorem sp_move {x : Mem} {a : Nat} {w : Int32} (h6 : gI x a 6 = w) (hw : 1 ≤ w.toInt) : ∃ x', f_Sp_move x a = some x' ∧ stX x' a = moF w (drF (stX x a)) ∧ EqOn (spK a) x x' := by
  have o1 : ∀ j, 10 ≤ j → j ≤ 17 → ¬ spK a a j := fun j h1 h2 => by unfold spK; omega
  have hz : ¬ w.toInt64 = 0 := by
    intro q
    have := congrArg Int64.toInt q
    rw [Int32.toInt_toInt64, show (0 : Int64).toInt = 0 from rfl] at this
    omega
  have hz2 : ¬ w ≤ 0 := by rw [Int32.le_iff_toInt_le, show (0 : Int32).toInt = 0 from rfl]; omega
  unfold f_Sp_move
  simp only [nme, gI_sI, gL_sI, gI_sL, gL_sL, reduceIte, Nat.reduceEqDiff, h6, if_neg hz, if_neg hz2]
  refine ⟨_, rfl, ?_, (((EqOn.rf.sL (o1 _ (by omega) (by omega))).sL (o1 _ (by omega) (by omega))).sL (o1 _ (by omega) (by omega))).sL (o1 _ (by omega) (by omega))⟩
  unfold moF drF stX
  simp only [gI_sI, gL_sI, gI_sL, gL_sL, reduceIte, Nat.reduceEqDiff]
theorem within_e (x : Mem) (a : Nat) (r : Int32) : f_Sp_isWithin x a r = some (if gL x a 10 * gL x a 10 + gL x a 11 * gL x a 11 ≤ ((4225 : Int64) * r.toInt64) * r.toInt64 then 1 else 0) := by
  unfold f_Sp_isWithin
  rw [nme, sq_r]
  by_cases c : gL x a 10 * gL x a 10 + gL x a 11 * gL x a 11 ≤ ((4225 : Int64) * r.toInt64) * r.toInt64
  · rw [if_pos c, if_neg (by rw [Int64.le_iff_toInt_le] at c; rw [Int64.lt_iff_toInt_lt]; omega)]
  · rw [if_neg c, if_pos (by rw [Int64.le_iff_toInt_le] at c; rw [Int64.lt_iff_toInt_lt]; omega)]
theorem sp_leave {x : Mem} {a : Nat} (r : Int32) : ∃ x', f_Sp_leave x a r = some x' ∧ stX x' a = leF r (stX x a) ∧ EqOn (spK a) x x' := by
  unfold f_Sp_leave
  rw [within_e, bs]
  by_cases c : gL x a 10 * gL x a 10 + gL x a 11 * gL x a 11 ≤ ((4225 : Int64) * r.toInt64) * r.toInt64
  · rw [if_pos c, if_pos (by decide)]
    refine ⟨_, rfl, ?_, EqOn.rf⟩
    unfold leF stX
    simp only [if_pos c]
  · rw [if_neg c, if_neg (by decide), nme]
    refine ⟨_, rfl, ?_, EqOn.rf.sI (by unfold spK; omega)⟩
    unfold leF stX
    simp only [gI_sI, gL_sI, gI_sL, gL_sL, reduceIte, Nat.reduceEqDiff, if_neg c]

theorem a32 {a b : Int32} (h1 : -2147483648 ≤ a.toInt + b.toInt) (h2 : a.toInt + b.toInt ≤ 2147483647) : (a + b).toInt = a.toInt + b.toInt := by
  rw [Int32.toInt_add]
  exact Int.bmod_eq_of_le (by omega) (by omega)
theorem s32 {a b : Int32} (h1 : -2147483648 ≤ a.toInt - b.toInt) (h2 : a.toInt - b.toInt ≤ 2147483647) : (a - b).toInt = a.toInt - b.toInt := by
  rw [Int32.toInt_sub]
  exact Int.bmod_eq_of_le (by omega) (by omega)
theorem m32 {a b : Int32} (h1 : -2147483648 ≤ a.toInt * b.toInt) (h2 : a.toInt * b.toInt ≤ 2147483647) : (a * b).toInt = a.toInt * b.toInt := by
  rw [Int32.toInt_mul]
  exact Int.bmod_eq_of_le (by omega) (by omega)
theorem a64 {a b : Int64} (h1 : -9223372036854775808 ≤ a.toInt + b.toInt) (h2 : a.toInt + b.toInt ≤ 9223372036854775807) : (a + b).toInt = a.toInt + b.toInt := by
  rw [Int64.toInt_add]
  exact Int.bmod_eq_of_le (by omega) (by omega)
theorem s64 {a b : Int64} (h1 : -9223372036854775808 ≤ a.toInt - b.toInt) (h2 : a.toInt - b.toInt ≤ 9223372036854775807) : (a - b).toInt = a.toInt - b.toInt := by
  rw [Int64.toInt_sub]
  exact Int.bmod_eq_of_le (by omega) (by omega)
theorem m64 {a b : Int64} (h1 : -9223372036854775808 ≤ a.toInt * b.toInt) (h2 : a.toInt * b.toInt ≤ 9223372036854775807) : (a * b).toInt = a.toInt * b.toInt := by
  rw [Int64.toInt_mul]
  exact Int.bmod_eq_of_le (by omega) (by omega)
theorem dix {a b : Int32} (h1 : -31 ≤ a.toInt ∧ a.toInt ≤ 31) (h2 : -31 ≤ b.toInt ∧ b.toInt ≤ 31) : ((((a + 31) * 63) + b) + 31).toInt = (a.toInt + 31) * 63 + b.toInt + 31 := by
  have e31 : (31 : Int32).toInt = 31 := by decide
  have e63 : (63 : Int32).toInt = 63 := by decide
  have x1 : (a + 31).toInt = a.toInt + 31 := by rw [a32 (by omega) (by omega), e31]
  have x2 : ((a + 31) * 63).toInt = (a.toInt + 31) * 63 := by rw [m32 (by rw [x1, e63]; omega) (by rw [x1, e63]; omega), x1, e63]
  have x3 : ((a + 31) * 63 + b).toInt = (a.toInt + 31) * 63 + b.toInt := by rw [a32 (by rw [x2]; omega) (by rw [x2]; omega), x2]
  rw [a32 (by rw [x3, e31]; omega) (by rw [x3, e31]; omega), x3, e31]
theorem dsum_lo {m m' : Mem} (q : Int) : ∀ d, (∀ k, k < d → gI m' 9 k = gI m 9 k ∧ gI m' 10 k = gI m 10 k ∧ gI m' 11 k = gI m 11 k) → dsum m' q d = dsum m q d := by
  intro d
  induction d with
  | zero => intro _; rfl
  | succ d ih =>
    intro h
    unfold dsum
    rw [ih (fun k hk => h k (by omega)), (h d (by omega)).1, (h d (by omega)).2.1, (h d (by omega)).2.2]
theorem dsum_b {m : Mem} (q : Int) : ∀ d, (∀ k, k < d → bt (gI m 11 k) (-20) 20) → -20 * (d : Int) ≤ dsum m q d ∧ dsum m q d ≤ 20 * (d : Int) := by
  intro d
  induction d with
  | zero => intro _; exact ⟨by simp only [dsum]; omega, by simp only [dsum]; omega⟩
  | succ d ih =>
    intro h
    have i1 := ih (fun k hk => h k (by omega))
    have i2 : -20 ≤ (gI m 11 d).toInt ∧ (gI m 11 d).toInt ≤ 20 := h d (by omega)
    unfold dsum
    split <;> omega
theorem s_dent {c n : Nat} {μ1 μ2 : Mem} (h : Inv c n μ1 μ2) (hc : c < 512) (a1 : Int32) (a2 : Int32) (a3 : Int32) : ∃ (r : Int32) (ν1 : Mem) (ν2 : Mem), f_X_dent μ1 a1 a2 a3 = some (r, ν1) ∧ f_M_dent μ2 a1 a2 a3 = some (r, ν2) ∧ Inv (c + 1) n ν1 ν2 := by
  obtain ⟨t, ht, hCs, hTop, hWr, hStr, hBow, ⟨d, q1, q2, q3, q4, q5⟩, hr⟩ := id h
  have hm : ∀ {β : Type} (k : Int32 → Option β), Option.bind (f_Bw_mayDent a1 a2) k = if (-31 ≤ a1.toInt ∧ a1.toInt ≤ 31) ∧ (-31 ≤ a2.toInt ∧ a2.toInt ≤ 31) then k 1 else k 0 := by
    intro β k
    unfold f_Bw_mayDent
    simp only [Int32.lt_iff_toInt_lt, l32_31, l32_m31]
    by_cases d1 : a1.toInt < -31
    · rw [if_pos d1, if_neg (by omega)]; rfl
    by_cases d2 : 31 < a1.toInt
    · rw [if_neg d1, if_pos d2, if_neg (by omega)]; rfl
    by_cases d3 : a2.toInt < -31
    · rw [if_neg d1, if_neg d2, if_pos d3, if_neg (by omega)]; rfl
    by_cases d4 : 31 < a2.toInt
    · rw [if_neg d1, if_neg d2, if_neg d3, if_pos d4, if_neg (by omega)]; rfl
    rw [if_neg d1, if_neg d2, if_neg d3, if_neg d4, if_pos (by omega)]; rfl
  unfold f_X_dent f_M_dent f_Bw_raise
  simp only [hm, bw, bn2, bOw, bOn, nme, b2s, bs, zn10, zn01, ze10, ze00, ze01, ze11, if_true, if_false, not_true_eq_false, not_false_eq_true, l32_0, l32_1, l32_2, l32_3, l32_4, l32_5, l32_7, l32_8, l32_9, l32_12, l32_20, l32_24, l32_25, l32_30, l32_31, l32_35, l32_40, l32_50, l32_60, l32_100, l32_120, l32_200, l32_255, l32_400, l32_m1, l32_m9, l32_m20, l32_m30, l32_m31, l64_0, l64_1, l64_2, l64_3, l64_4, l64_5, l64_7, l64_8, l64_9, l64_12, l64_20, l64_24, l64_25, l64_30, l64_31, l64_35, l64_40, l64_50, l64_60, l64_100, l64_120, l64_200, l64_255, l64_400, l64_m1, l64_m9, l64_m20, l64_m30, l64_m31]
  by_cases c1 : -31 ≤ a1.toInt ∧ a1.toInt ≤ 31
  · by_cases c2 : -31 ≤ a2.toInt ∧ a2.toInt ≤ 31
    · by_cases c3 : -20 ≤ a3.toInt ∧ a3.toInt ≤ 20
      · have hd := dix c1 c2
        obtain ⟨p, hp⟩ : ∃ p, p = ix ((((a1 + 31) * 63) + a2) + 31) := ⟨_, rfl⟩
        have hp2 : (p : Int) = (a1.toInt + 31) * 63 + a2.toInt + 31 := by rw [hp, ix_e, hd]; omega
        have hib : ib ((((a1 + 31) * 63) + a2) + 31) 3969 = true := ibT (by rw [hd]; omega) (by rw [hd]; omega)
        have L : ((24 : Int32) ≤ nI d) = (24 ≤ d) := y_le (a := 24) (by decide) (by omega)
        have E : (nI d = (24 : Int32)) = (d = 24) := y_eq (b := 24) (by omega) (by decide)
        simp only [if_pos c1, if_pos c2, if_pos c3, if_pos (And.intro c1 c2), q2, q3, L, E, hib, ← hp, bw, bn2, bOw, bOn, nme, b2s, bs, zn10, zn01, ze10, ze00, ze01, ze11, if_true, if_false, not_true_eq_false, not_false_eq_true, l32_0, l32_1, l32_2, l32_3, l32_4, l32_5, l32_7, l32_8, l32_9, l32_12, l32_20, l32_24, l32_25, l32_30, l32_31, l32_35, l32_40, l32_50, l32_60, l32_100, l32_120, l32_200, l32_255, l32_400, l32_m1, l32_m9, l32_m20, l32_m30, l32_m31, l64_0, l64_1, l64_2, l64_3, l64_4, l64_5, l64_7, l64_8, l64_9, l64_12, l64_20, l64_24, l64_25, l64_30, l64_31, l64_35, l64_40, l64_50, l64_60, l64_100, l64_120, l64_200, l64_255, l64_400, l64_m1, l64_m9, l64_m20, l64_m30, l64_m31]
        by_cases c4 : 24 ≤ d
        · simp only [if_pos c4, if_neg (show ¬ ¬ d = 24 by omega), bw, bn2, bOw, bOn, nme, b2s, bs, zn10, zn01, ze10, ze00, ze01, ze11, if_true, if_false, not_true_eq_false, not_false_eq_true, l32_0, l32_1, l32_2, l32_3, l32_4, l32_5, l32_7, l32_8, l32_9, l32_12, l32_20, l32_24, l32_25, l32_30, l32_31, l32_35, l32_40, l32_50, l32_60, l32_100, l32_120, l32_200, l32_255, l32_400, l32_m1, l32_m9, l32_m20, l32_m30, l32_m31, l64_0, l64_1, l64_2, l64_3, l64_4, l64_5, l64_7, l64_8, l64_9, l64_12, l64_20, l64_24, l64_25, l64_30, l64_31, l64_35, l64_40, l64_50, l64_60, l64_100, l64_120, l64_200, l64_255, l64_400, l64_m1, l64_m9, l64_m20, l64_m30, l64_m31]
          exact ⟨_, _, _, rfl, rfl, Inv_next h⟩
        · simp only [if_neg c4, if_pos (show ¬ d = 24 by omega), ib_n (show d < 24 by omega) (by omega), ix_n (show d < 2147483648 by omega), gI_sI, Nat.reduceEqDiff, q2, q3, y_s, bw, bn2, bOw, bOn, nme, b2s, bs, zn10, zn01, ze10, ze00, ze01, ze11, if_true, if_false, not_true_eq_false, not_false_eq_true, l32_0, l32_1, l32_2, l32_3, l32_4, l32_5, l32_7, l32_8, l32_9, l32_12, l32_20, l32_24, l32_25, l32_30, l32_31, l32_35, l32_40, l32_50, l32_60, l32_100, l32_120, l32_200, l32_255, l32_400, l32_m1, l32_m9, l32_m20, l32_m30, l32_m31, l64_0, l64_1, l64_2, l64_3, l64_4, l64_5, l64_7, l64_8, l64_9, l64_12, l64_20, l64_24, l64_25, l64_30, l64_31, l64_35, l64_40, l64_50, l64_60, l64_100, l64_120, l64_200, l64_255, l64_400, l64_m1, l64_m9, l64_m20, l64_m30, l64_m31]
          refine ⟨_, _, _, rfl, rfl, h.uDen ((EqOn.rf.sI (by simp only [perX, pTop, pStr, pBow, pDen, pBou, pWhi, pCho, pPas, pGam, pLas, pMet, pFin, pShe, true_and, and_true, false_and, and_false, true_or, or_true, false_or, or_false, not_true_eq_false, not_false_eq_true] <;> omega)).sI (by simp only [perX, pTop, pStr, pBow, pDen, pBou, pWhi, pCho, pPas, pGam, pLas, pMet, pFin, pShe, true_and, and_true, false_and, and_false, true_or, or_true, false_or, or_false, not_true_eq_false, not_false_eq_true] <;> omega)) ((((EqOn.rf.sI (by simp only [perM, qCs, qTop, qStr, qBow, qDen, qBou, qWhi, qCho, qPas, qGam, qLas, qMet, qFin, qShe, true_and, and_true, false_and, and_false, true_or, or_true, false_or, or_false, not_true_eq_false, not_false_eq_true] <;> omega)).sI (by simp only [perM, qCs, qTop, qStr, qBow, qDen, qBou, qWhi, qCho, qPas, qGam, qLas, qMet, qFin, qShe, true_and, and_true, false_and, and_false, true_or, or_true, false_or, or_false, not_true_eq_false, not_false_eq_true] <;> omega)).sI (by simp only [perM, qCs, qTop, qStr, qBow, qDen, qBou, qWhi, qCho, qPas, qGam, qLas, qMet, qFin, qShe, true_and, and_true, false_and, and_false, true_or, or_true, false_or, or_false, not_true_eq_false, not_false_eq_true] <;> omega)).sI (by simp only [perM, qCs, qTop, qStr, qBow, qDen, qBou, qWhi, qCho, qPas, qGam, qLas, qMet, qFin, qShe, true_and, and_true, false_and, and_false, true_or, or_true, false_or, or_false, not_true_eq_false, not_false_eq_true] <;> omega)) (fun _ _ _ _ => ⟨d + 1, by omega, by simp only [gI_sI, if_true], by simp only [gI_sI, if_true], fun k hk => ?_, fun q hq => ?_⟩)⟩
          · by_cases e : k = d
            · subst e
              simp only [gI_sI, if_true, Nat.reduceEqDiff, if_false]
              exact ⟨c1, c2, c3⟩
            · simp only [gI_sI, if_true, Nat.reduceEqDiff, if_false, if_neg e]
              exact q4 k (by omega)
          · have hb := dsum_b (m := μ2) (q : Int) d (fun k hk => (q4 k hk).2.2)
            have hq5 := q5 q hq
            unfold dsum
            rw [dsum_lo (m := μ2) (q : Int) d (fun k hk => by
              have e : ¬ k = d := by omega
              simp only [gI_sI, if_true, Nat.reduceEqDiff, if_false, if_neg e, and_self])]
            simp only [gI_sI, if_true, Nat.reduceEqDiff, if_false]
            by_cases e : q = p
            · subst e
              rw [if_pos rfl, if_pos hp2.symm, a32 (by omega) (by omega), hq5]
            · rw [if_neg e, if_neg (by omega), hq5]
              omega
      · simp only [if_pos c1, if_pos c2, if_neg c3, if_pos (And.intro c1 c2), bw, bn2, bOw, bOn, nme, b2s, bs, zn10, zn01, ze10, ze00, ze01, ze11, if_true, if_false, not_true_eq_false, not_false_eq_true, l32_0, l32_1, l32_2, l32_3, l32_4, l32_5, l32_7, l32_8, l32_9, l32_12, l32_20, l32_24, l32_25, l32_30, l32_31, l32_35, l32_40, l32_50, l32_60, l32_100, l32_120, l32_200, l32_255, l32_400, l32_m1, l32_m9, l32_m20, l32_m30, l32_m31, l64_0, l64_1, l64_2, l64_3, l64_4, l64_5, l64_7, l64_8, l64_9, l64_12, l64_20, l64_24, l64_25, l64_30, l64_31, l64_35, l64_40, l64_50, l64_60, l64_100, l64_120, l64_200, l64_255, l64_400, l64_m1, l64_m9, l64_m20, l64_m30, l64_m31]
        exact ⟨_, _, _, rfl, rfl, Inv_next h⟩
    · simp only [if_pos c1, if_neg c2, if_neg (fun q : (-31 ≤ a1.toInt ∧ a1.toInt ≤ 31) ∧ (-31 ≤ a2.toInt ∧ a2.toInt ≤ 31) => c2 q.2), bw, bn2, bOw, bOn, nme, b2s, bs, zn10, zn01, ze10, ze00, ze01, ze11, if_true, if_false, not_true_eq_false, not_false_eq_true, l32_0, l32_1, l32_2, l32_3, l32_4, l32_5, l32_7, l32_8, l32_9, l32_12, l32_20, l32_24, l32_25, l32_30, l32_31, l32_35, l32_40, l32_50, l32_60, l32_100, l32_120, l32_200, l32_255, l32_400, l32_m1, l32_m9, l32_m20, l32_m30, l32_m31, l64_0, l64_1, l64_2, l64_3, l64_4, l64_5, l64_7, l64_8, l64_9, l64_12, l64_20, l64_24, l64_25, l64_30, l64_31, l64_35, l64_40, l64_50, l64_60, l64_100, l64_120, l64_200, l64_255, l64_400, l64_m1, l64_m9, l64_m20, l64_m30, l64_m31]
      exact ⟨_, _, _, rfl, rfl, Inv_next h⟩
  · simp only [if_neg c1, if_neg (fun q : (-31 ≤ a1.toInt ∧ a1.toInt ≤ 31) ∧ (-31 ≤ a2.toInt ∧ a2.toInt ≤ 31) => c1 q.1), bw, bn2, bOw, bOn, nme, b2s, bs, zn10, zn01, ze10, ze00, ze01, ze11, if_true, if_false, not_true_eq_false, not_false_eq_true, l32_0, l32_1, l32_2, l32_3, l32_4, l32_5, l32_7, l32_8, l32_9, l32_12, l32_20, l32_24, l32_25, l32_30, l32_31, l32_35, l32_40, l32_50, l32_60, l32_100, l32_120, l32_200, l32_255, l32_400, l32_m1, l32_m9, l32_m20, l32_m30, l32_m31, l64_0, l64_1, l64_2, l64_3, l64_4, l64_5, l64_7, l64_8, l64_9, l64_12, l64_20, l64_24, l64_25, l64_30, l64_31, l64_35, l64_40, l64_50, l64_60, l64_100, l64_120, l64_200, l64_255, l64_400, l64_m1, l64_m9, l64_m20, l64_m30, l64_m31]
    exact ⟨_, _, _, rfl, rfl, Inv_next h⟩
/-- what the first d dents add at a place -/
def hsum (m : Mem) (a b : Int32) : Nat → Int
  | 0 => 0
  | k + 1 => hsum m a b k + (if gI m 9 k = a ∧ gI m 10 k = b then (gI m 11 k).toInt else 0)
theorem hsum_in {m : Mem} {a b : Int32} (h1 : -31 ≤ a.toInt ∧ a.toInt ≤ 31) (h2 : -31 ≤ b.toInt ∧ b.toInt ≤ 31) : ∀ d, (∀ k, k < d → bt (gI m 9 k) (-31) 31 ∧ bt (gI m 10 k) (-31) 31) → hsum m a b d = dsum m ((a.toInt + 31) * 63 + b.toInt + 31) d := by
  intro d
  induction d with
  | zero => intro _; rfl
  | succ d ih =>
    intro h
    have g : (-31 ≤ (gI m 9 d).toInt ∧ (gI m 9 d).toInt ≤ 31) ∧ (-31 ≤ (gI m 10 d).toInt ∧ (gI m 10 d).toInt ≤ 31) := h d (by omega)
    unfold hsum dsum
    rw [ih (fun k hk => h k (by omega))]
    by_cases e : gI m 9 d = a ∧ gI m 10 d = b
    · rw [if_pos e, if_pos (by rw [e.1, e.2])]
    · rw [if_neg e, if_neg]
      intro q
      apply e
      constructor
      · apply Int32.toInt_inj.mp; omega
      · apply Int32.toInt_inj.mp; omega
theorem hsum_out {m : Mem} {a b : Int32} (h1 : ¬ ((-31 ≤ a.toInt ∧ a.toInt ≤ 31) ∧ (-31 ≤ b.toInt ∧ b.toInt ≤ 31))) : ∀ d, (∀ k, k < d → bt (gI m 9 k) (-31) 31 ∧ bt (gI m 10 k) (-31) 31) → hsum m a b d = 0 := by
  intro d
  induction d with
  | zero => intro _; rfl
  | succ d ih =>
    intro h
    have g : (-31 ≤ (gI m 9 d).toInt ∧ (gI m 9 d).toInt ≤ 31) ∧ (-31 ≤ (gI m 10 d).toInt ∧ (gI m 10 d).toInt ≤ 31) := h d (by omega)
    unfold hsum
    rw [ih (fun k hk => h k (by omega)), if_neg]
    · rfl
    · intro q
      rw [q.1, q.2] at g
      exact h1 g
theorem height_l {m : Mem} {d : Nat} (hd : d ≤ 24) (hm : gI m 0 11 = nI d) (a b : Int32) : ∀ n i v, i ≤ d → d - i < n → f_M_heightOf_l13 FN m n a b v (nI i) = some (v + Int32.ofInt (hsum m a b d - hsum m a b i)) := by
  intro n
  induction n with
  | zero => intro i v _ h; omega
  | succ n ih =>
    intro i v hi hn
    unfold f_M_heightOf_l13 f_M_heightOf_b55 f_M_heightOf_b56
    rw [hm]
    by_cases e : i = d
    · subst e
      rw [if_pos (by rw [y_le (by omega) (by omega)]; omega), Int.sub_self]
      exact congrArg some (Int32.add_zero v).symm
    · rw [if_neg (by rw [y_le (by omega) (by omega)]; omega)]
      simp only [ib_n (show i < 24 by omega) (by omega), ix_n (show i < 2147483648 by omega), nme, y_s, if_true]
      have hs : hsum m a b (i + 1) = hsum m a b i + (if gI m 9 i = a ∧ gI m 10 i = b then (gI m 11 i).toInt else 0) := rfl
      by_cases c1 : gI m 9 i = a
      · by_cases c2 : gI m 10 i = b
        · simp only [c1, c2, not_true_eq_false, if_false]
          rw [ih (i + 1) _ (by omega) (by omega), hs, if_pos ⟨c1, c2⟩]
          congr 1
          rw [Int32.add_assoc]
          congr 1
          have e2 : gI m 11 i = Int32.ofInt (gI m 11 i).toInt := (Int32.ofInt_toInt _).symm
          rw [e2, ← Int32.ofInt_add, ← e2]
          congr 1
          omega
        · simp only [c1, c2, not_true_eq_false, not_false_eq_true, if_false, if_true]
          rw [ih (i + 1) _ (by omega) (by omega), hs, if_neg (fun q => c2 q.2), Int32.add_zero, Int.add_zero]
      · simp only [c1, not_false_eq_true, if_true]
        rw [ih (i + 1) _ (by omega) (by omega), hs, if_neg (fun q => c1 q.1), Int32.add_zero, Int.add_zero]
/-- the height at a place, on both sides -/
theorem height_e {x m : Mem} (h : iDen x m) (a b : Int32) : ∃ v, f_Bw_heightAt x a b = some v ∧ f_M_heightOf FN m a b = some v := by
  obtain ⟨d, q1, q2, q3, q4, q5⟩ := h
  have hM : f_M_heightOf FN m a b = some (((a * a) + (b * b)) / 2 + Int32.ofInt (hsum m a b d)) := by
    unfold f_M_heightOf
    have e := height_l q1 q3 a b FN 0 (((a * a) + (b * b)) / 2) (by omega) (FN_lt (by omega))
    have z : hsum m a b d - hsum m a b 0 = hsum m a b d := by show _ - (0 : Int) = _; omega
    rw [z] at e
    exact e
  refine ⟨_, ?_, hM⟩
  unfold f_Bw_heightAt
  simp only [nme, Int32.lt_iff_toInt_lt, Int32.le_iff_toInt_le, l32_31, l32_m31]
  have g : ∀ k, k < d → bt (gI m 9 k) (-31) 31 ∧ bt (gI m 10 k) (-31) 31 := fun k hk => ⟨(q4 k hk).1, (q4 k hk).2.1⟩
  by_cases c : (-31 ≤ a.toInt ∧ a.toInt ≤ 31) ∧ (-31 ≤ b.toInt ∧ b.toInt ≤ 31)
  · have hd := dix c.1 c.2
    rw [if_neg (by omega), if_neg (by omega), if_neg (by omega), if_pos (by omega), if_pos (ibT (by rw [hd]; omega) (by rw [hd]; omega)), hsum_in c.1 c.2 d g]
    have e := q5 (ix ((((a + 31) * 63) + b) + 31)) (by rw [ix_e, hd]; omega)
    have e2 : ((ix ((((a + 31) * 63) + b) + 31) : Nat) : Int) = (a.toInt + 31) * 63 + b.toInt + 31 := by rw [ix_e, hd]; omega
    rw [e2] at e
    rw [← e, Int32.ofInt_toInt]
  · rw [hsum_out c d g]
    have z : ∀ v : Int32, v + Int32.ofInt 0 = v := fun v => Int32.add_zero v
    rw [z]
    by_cases d1 : a.toInt < -31
    · rw [if_pos d1]
    by_cases d2 : 31 < a.toInt
    · rw [if_neg d1, if_pos d2]
    by_cases d3 : b.toInt < -31
    · rw [if_neg d1, if_neg d2, if_pos d3]
    rw [if_neg d1, if_neg d2, if_neg d3, if_neg (by omega)]
theorem slopeX_e {x m : Mem} (h : iDen x m) (a b : Int32) : ∃ v, f_Bw_slopeAlongX x a b = some v ∧ f_M_slopeX FN m a b = some v := by
  obtain ⟨v1, p1, p2⟩ := height_e h (a + 1) b
  obtain ⟨v2, p3, p4⟩ := height_e h (a - 1) b
  unfold f_Bw_slopeAlongX f_M_slopeX
  rw [p1, p2, p3, p4]
  exact ⟨_, rfl, rfl⟩
theorem slopeY_e {x m : Mem} (h : iDen x m) (a b : Int32) : ∃ v, f_Bw_slopeAlongY x a b = some v ∧ f_M_slopeY FN m a b = some v := by
  obtain ⟨v1, p1, p2⟩ := height_e h a (b + 1)
  obtain ⟨v2, p3, p4⟩ := height_e h a (b - 1)
  unfold f_Bw_slopeAlongY f_M_slopeY
  rw [p1, p2, p3, p4]
  exact ⟨_, rfl, rfl⟩
theorem i32_inj {a b : Int32} (h : a.toInt = b.toInt) : a = b := Int32.toInt_inj.mp h
theorem s_height {c n : Nat} {μ1 μ2 : Mem} (h : Inv c n μ1 μ2) (hc : c < 512) (a1 : Int32) (a2 : Int32) (a3 : Int32) : ∃ (r : Int32), f_X_height μ1 a1 a2 a3 = some r ∧ f_M_height FN μ2 a1 a2 a3 = some r ∧ Inv (c + 1) n μ1 μ2 := by
  obtain ⟨t, ht, hCs, hTop, hWr, hStr, hBow, hDen, hr⟩ := id h
  obtain ⟨v0, p0, r0⟩ := height_e hDen a1 a2
  obtain ⟨v1, p1, r1⟩ := slopeX_e hDen a1 a2
  obtain ⟨v2, p2, r2⟩ := slopeY_e hDen a1 a2
  have k1 : (32 : Int32).toInt = 32 := by decide
  have k2 : (-32 : Int32).toInt = -32 := by decide
  have k3 : (32 : Int64).toInt = 32 := by decide
  have k4 : (-32 : Int64).toInt = -32 := by decide
  unfold f_X_height f_M_height
  simp only [k1, k2, k3, k4, p0, p1, p2, r0, r1, r2, bw, bn2, bOw, bOn, nme, b2s, bs, zn10, zn01, ze10, ze00, ze01, ze11, if_true, if_false, not_true_eq_false, not_false_eq_true, l32_0, l32_1, l32_2, l32_3, l32_4, l32_5, l32_7, l32_8, l32_9, l32_12, l32_20, l32_24, l32_25, l32_30, l32_31, l32_35, l32_40, l32_50, l32_60, l32_100, l32_120, l32_200, l32_255, l32_400, l32_m1, l32_m9, l32_m20, l32_m30, l32_m31, l64_0, l64_1, l64_2, l64_3, l64_4, l64_5, l64_7, l64_8, l64_9, l64_12, l64_20, l64_24, l64_25, l64_30, l64_31, l64_35, l64_40, l64_50, l64_60, l64_100, l64_120, l64_200, l64_255, l64_400, l64_m1, l64_m9, l64_m20, l64_m30, l64_m31]
  by_cases c1 : -32 ≤ a1.toInt ∧ a1.toInt ≤ 32
  · by_cases c2 : -32 ≤ a2.toInt ∧ a2.toInt ≤ 32
    · simp only [if_pos c1, if_pos c2]
      by_cases d0 : a3 = 0
      · simp only [d0, bw, bn2, bOw, bOn, nme, b2s, bs, zn10, zn01, ze10, ze00, ze01, ze11, if_true, if_false, not_true_eq_false, not_false_eq_true, l32_0, l32_1, l32_2, l32_3, l32_4, l32_5, l32_7, l32_8, l32_9, l32_12, l32_20, l32_24, l32_25, l32_30, l32_31, l32_35, l32_40, l32_50, l32_60, l32_100, l32_120, l32_200, l32_255, l32_400, l32_m1, l32_m9, l32_m20, l32_m30, l32_m31, l64_0, l64_1, l64_2, l64_3, l64_4, l64_5, l64_7, l64_8, l64_9, l64_12, l64_20, l64_24, l64_25, l64_30, l64_31, l64_35, l64_40, l64_50, l64_60, l64_100, l64_120, l64_200, l64_255, l64_400, l64_m1, l64_m9, l64_m20, l64_m30, l64_m31, if_pos (show (0 : Int) ≤ 0 ∧ (0 : Int) ≤ 2 by omega)]
        exact ⟨_, rfl, rfl, Inv_next h⟩
      by_cases d1 : a3 = 1
      · simp only [d1, bw, bn2, bOw, bOn, nme, b2s, bs, zn10, zn01, ze10, ze00, ze01, ze11, if_true, if_false, not_true_eq_false, not_false_eq_true, l32_0, l32_1, l32_2, l32_3, l32_4, l32_5, l32_7, l32_8, l32_9, l32_12, l32_20, l32_24, l32_25, l32_30, l32_31, l32_35, l32_40, l32_50, l32_60, l32_100, l32_120, l32_200, l32_255, l32_400, l32_m1, l32_m9, l32_m20, l32_m30, l32_m31, l64_0, l64_1, l64_2, l64_3, l64_4, l64_5, l64_7, l64_8, l64_9, l64_12, l64_20, l64_24, l64_25, l64_30, l64_31, l64_35, l64_40, l64_50, l64_60, l64_100, l64_120, l64_200, l64_255, l64_400, l64_m1, l64_m9, l64_m20, l64_m30, l64_m31, if_pos (show (0 : Int) ≤ 1 ∧ (1 : Int) ≤ 2 by omega)]
        exact ⟨_, rfl, rfl, Inv_next h⟩
      by_cases d2 : a3 = 2
      · simp only [d2, bw, bn2, bOw, bOn, nme, b2s, bs, zn10, zn01, ze10, ze00, ze01, ze11, if_true, if_false, not_true_eq_false, not_false_eq_true, l32_0, l32_1, l32_2, l32_3, l32_4, l32_5, l32_7, l32_8, l32_9, l32_12, l32_20, l32_24, l32_25, l32_30, l32_31, l32_35, l32_40, l32_50, l32_60, l32_100, l32_120, l32_200, l32_255, l32_400, l32_m1, l32_m9, l32_m20, l32_m30, l32_m31, l64_0, l64_1, l64_2, l64_3, l64_4, l64_5, l64_7, l64_8, l64_9, l64_12, l64_20, l64_24, l64_25, l64_30, l64_31, l64_35, l64_40, l64_50, l64_60, l64_100, l64_120, l64_200, l64_255, l64_400, l64_m1, l64_m9, l64_m20, l64_m30, l64_m31, if_pos (show (0 : Int) ≤ 2 ∧ (2 : Int) ≤ 2 by omega), if_neg (show ¬ (2 : Int32) = 0 by decide), if_neg (show ¬ (2 : Int32) = 1 by decide), if_pos (show ¬ (2 : Int32) = 0 by decide), if_pos (show ¬ (2 : Int32) = 1 by decide)]
        exact ⟨_, rfl, rfl, Inv_next h⟩
      have c3 : ¬ (0 ≤ a3.toInt ∧ a3.toInt ≤ 2) := by
        intro q
        have h0 : ¬ a3.toInt = 0 := fun e => d0 (i32_inj e)
        have h1 : ¬ a3.toInt = 1 := fun e => d1 (i32_inj e)
        have h2 : ¬ a3.toInt = 2 := fun e => d2 (i32_inj e)
        omega
      simp only [if_neg d0, if_neg d1, if_neg d2, if_neg c3]
      exact ⟨_, rfl, rfl, Inv_next h⟩
    · simp only [if_pos c1, if_neg c2]
      exact ⟨_, rfl, rfl, Inv_next h⟩
  · simp only [if_neg c1]
    exact ⟨_, rfl, rfl, Inv_next h⟩

theorem s_copy {c n : Nat} {μ1 μ2 : Mem} (h : Inv c n μ1 μ2) (hc : c < 512) (a1 : Int32) (a2 : Int32) (a3 : Int32) (a4 : Int32) (a5 : Int32) : ∃ (r : Int32) (ν1 : Mem) (ν2 : Mem), f_X_copy μ1 a1 a2 a3 a4 a5 = some (r, ν1) ∧ f_M_copy FN μ2 a1 a2 a3 a4 a5 = some (r, ν2) ∧ Inv (c + 1) n ν1 ν2 := by
  obtain ⟨t, ht, hCs, hTop, hWr, hStr, hBow, hDen, hBou, hWhi, hCho, hPas, hGam, hLas, hMet, hFin, hShe⟩ := id h
  have bad : ∃ (r : Int32) (ν1 : Mem) (ν2 : Mem), (some ((-2 : Int32), μ1) : Option (Int32 × Mem)) = some (r, ν1) ∧ (some ((-2 : Int32), μ2) : Option (Int32 × Mem)) = some (r, ν2) ∧ Inv (c + 1) n ν1 ν2 := ⟨_, _, _, rfl, rfl, Inv_next h⟩
  obtain ⟨r1, x1, m1, f1, f2, f3⟩ := fnd h 1
  obtain ⟨r2, x2, m2, f4, f5, f6⟩ := fnd h 2
  obtain ⟨r4, x4, m4, f7, f8, f9⟩ := fnd h 4
  unfold f_X_copy f_M_copy f_X_copy_b43 f_X_copy_b91 f_M_copy_b35 f_M_copy_b111
  simp only [bSheet, bIsSheet, f1, f2, f4, f5, f7, f8, bw, bn2, bOw, bOn, nme, b2s, bs, zn10, zn01, ze10, ze00, ze01, ze11, if_true, if_false, not_true_eq_false, not_false_eq_true, l32_0, l32_1, l32_2, l32_3, l32_4, l32_5, l32_7, l32_8, l32_9, l32_12, l32_20, l32_24, l32_25, l32_30, l32_31, l32_35, l32_40, l32_50, l32_60, l32_100, l32_120, l32_200, l32_255, l32_400, l32_m1, l32_m9, l32_m20, l32_m30, l32_m31, l64_0, l64_1, l64_2, l64_3, l64_4, l64_5, l64_7, l64_8, l64_9, l64_12, l64_20, l64_24, l64_25, l64_30, l64_31, l64_35, l64_40, l64_50, l64_60, l64_100, l64_120, l64_200, l64_255, l64_400, l64_m1, l64_m9, l64_m20, l64_m30, l64_m31]
  by_cases c1 : 0 ≤ a1.toInt ∧ a1.toInt ≤ 3
  · by_cases c3 : 0 ≤ a3.toInt ∧ a3.toInt ≤ 3
    · obtain ⟨s, hs, rfl⟩ := toN (n := 4) c1.1 (by omega)
      obtain ⟨s2, hs2, rfl⟩ := toN (n := 4) c3.1 (by omega)
      have es : (nI s).toInt.toNat = s := by rw [nI_t (by omega)]; omega
      have es2 : (nI s2).toInt.toNat = s2 := by rw [nI_t (by omega)]; omega
      obtain ⟨l, p1, p2, p3, p4, p5⟩ := hShe s hs
      obtain ⟨l2, q1, q2, q3, q4, q5⟩ := hShe s2 hs2
      simp only [if_pos c1, if_pos c3, es, es2, ib_n hs (by omega), ib_n hs2 (by omega), ix_n (show s < 2147483648 by omega), ix_n (show s2 < 2147483648 by omega), bSpans p1 p2, bSpans q1 q2, sr3 s hs, sr3 s2 hs2, bw, bn2, bOw, bOn, nme, b2s, bs, zn10, zn01, ze10, ze00, ze01, ze11, if_true, if_false, not_true_eq_false, not_false_eq_true, l32_0, l32_1, l32_2, l32_3, l32_4, l32_5, l32_7, l32_8, l32_9, l32_12, l32_20, l32_24, l32_25, l32_30, l32_31, l32_35, l32_40, l32_50, l32_60, l32_100, l32_120, l32_200, l32_255, l32_400, l32_m1, l32_m9, l32_m20, l32_m30, l32_m31, l64_0, l64_1, l64_2, l64_3, l64_4, l64_5, l64_7, l64_8, l64_9, l64_12, l64_20, l64_24, l64_25, l64_30, l64_31, l64_35, l64_40, l64_50, l64_60, l64_100, l64_120, l64_200, l64_255, l64_400, l64_m1, l64_m9, l64_m20, l64_m30, l64_m31]
      rcases p4 with ⟨y1, y2, y3⟩ | ⟨y1, y2⟩
      · rcases q4 with ⟨z1, z2, z3⟩ | ⟨z1, z2⟩
        · have n1 : ¬ gI μ2 45 s < 0 := by rw [Int32.lt_iff_toInt_lt]; have := y3.1; simp only [l32_0]; omega
          have n2 : (0 : Int32) ≤ gI μ2 45 s2 := by rw [Int32.le_iff_toInt_le]; exact z3.1
          simp only [y1, z1, y2, z2, if_neg n1, if_pos n2, p3, q3, bw, bn2, bOw, bOn, nme, b2s, bs, zn10, zn01, ze10, ze00, ze01, ze11, if_true, if_false, not_true_eq_false, not_false_eq_true, l32_0, l32_1, l32_2, l32_3, l32_4, l32_5, l32_7, l32_8, l32_9, l32_12, l32_20, l32_24, l32_25, l32_30, l32_31, l32_35, l32_40, l32_50, l32_60, l32_100, l32_120, l32_200, l32_255, l32_400, l32_m1, l32_m9, l32_m20, l32_m30, l32_m31, l64_0, l64_1, l64_2, l64_3, l64_4, l64_5, l64_7, l64_8, l64_9, l64_12, l64_20, l64_24, l64_25, l64_30, l64_31, l64_35, l64_40, l64_50, l64_60, l64_100, l64_120, l64_200, l64_255, l64_400, l64_m1, l64_m9, l64_m20, l64_m30, l64_m31]
          by_cases c4 : gI μ2 45 s = gI μ2 45 s2
          · simp only [if_pos c4, Int32.lt_iff_toInt_lt, Int64.lt_iff_toInt_lt, Int64.le_iff_toInt_le, sum64, Int32.toInt_toInt64, nI_t (show l < 2147483648 by omega), nI_t (show l2 < 2147483648 by omega), l32_0]
            by_cases c5 : (0 ≤ a2.toInt ∧ 0 ≤ a5.toInt ∧ a2.toInt + a5.toInt ≤ (l : Int)) ∧ (0 ≤ a4.toInt ∧ a4.toInt + a5.toInt ≤ (l2 : Int))
            · obtain ⟨a, ha, rfl⟩ := toN (v := a2) (n := 121) (by omega) (by omega)
              obtain ⟨b, hb, rfl⟩ := toN (v := a4) (n := 121) (by omega) (by omega)
              obtain ⟨k, hk, rfl⟩ := toN (v := a5) (n := 121) (by omega) (by omega)
              simp only [nI_t (show a < 2147483648 by omega), nI_t (show b < 2147483648 by omega), nI_t (show k < 2147483648 by omega)] at c5 ⊢
              rw [if_pos c5.1, if_pos (by omega), if_pos (by simp only [ix_n (show a < 2147483648 by omega), ix_n (show b < 2147483648 by omega), ix_n (show k < 2147483648 by omega)]; omega), if_neg (by omega), if_neg (by omega), if_neg (by omega), if_neg (by omega), if_pos (by omega)]
              obtain ⟨μ', w1, w2, w3, w4⟩ := copy_l1 (s := s) (a := a) (k := k) (s2 := s2) (b := b) hs (by omega) FN 0 μ2 (by omega) (FN_lt (by omega))
              obtain ⟨μ'', v1, v2, v3, v4⟩ := copy_l2 (k := k) (s2 := s2) (b := b) hs2 (by omega) FN 0 μ' (by omega) (FN_lt (by omega))
              have w1' : f_M_copy_l120 FN FN (nI s) (nI a) (nI s2) (nI b) (nI k) 0 μ2 = some (1, μ'') := w1.trans v1
              rw [w1']
              simp only [ix_n (show a < 2147483648 by omega), ix_n (show b < 2147483648 by omega), ix_n (show k < 2147483648 by omega)]
              refine ⟨_, _, μ'', rfl, rfl, h.uShe (EqOn.rf.sA (fun k => (by simp only [perX, pTop, pStr, pBow, pDen, pBou, pWhi, pCho, pPas, pGam, pLas, pMet, pFin, pShe, true_and, and_true, false_and, and_false, true_or, or_true, false_or, or_false, not_true_eq_false, not_false_eq_true] <;> omega))) (fun a k p => ⟨?_, ?_, ?_⟩) (fun _ _ _ _ s' hs' => ?_)⟩
              · have hp := p.1
                have hp2 := p.2
                simp only [qShe] at hp2
                have h48 : ¬ a = 48 := by
                  intro e
                  subst e
                  simp only [perM, qCs, qTop, qStr, qBow, qDen, qBou, qWhi, qCho, qPas, qGam, qLas, qMet, qFin, qShe] at hp
                  omega
                rw [v2, if_neg (by omega), w2, if_neg (by omega)]
              · rw [v3, w3]
              · rw [v4, w4]
              · obtain ⟨l', u1, u2, u3, u4, u5⟩ := hShe s' hs'
                refine ⟨l', u1, ?_, ?_, ?_, fun i hi => ?_⟩
                · rw [gI_sA, if_neg (by omega)]; exact u2
                · rw [v2, if_neg (by omega), w2, if_neg (by omega)]; exact u3
                · rw [gI_sA, if_neg (by omega), gI_sA, if_neg (by omega), v2, if_neg (by omega), w2, if_neg (by omega)]; exact u4
                · rw [gI_sA, v2]
                  by_cases e : s' = s2
                  · subst e
                    rw [if_pos rfl]
                    unfold va_cpy
                    by_cases e2 : b ≤ i ∧ i < b + k
                    · rw [if_pos e2, if_pos (by omega), w2, if_pos (by omega), p5 _ (by omega)]
                      congr 1
                      omega
                    · rw [if_neg e2, if_neg (by omega), w2, if_neg (by omega)]; exact u5 i hi
                  · rw [if_neg (by omega), if_neg (by omega), w2, if_neg (by omega)]; exact u5 i hi
            · have no1 : ∀ {β : Type} (A B : β), (if 0 ≤ a2.toInt ∧ 0 ≤ a5.toInt ∧ a2.toInt + a5.toInt ≤ (l : Int) then (if 0 ≤ a4.toInt ∧ 0 ≤ a5.toInt ∧ a4.toInt + a5.toInt ≤ (l2 : Int) then A else B) else B) = B := by
                intro β A B
                by_cases e : 0 ≤ a2.toInt ∧ 0 ≤ a5.toInt ∧ a2.toInt + a5.toInt ≤ (l : Int)
                · rw [if_pos e, if_neg (by omega)]
                · rw [if_neg e]
              have no2 : ∀ {β : Type} (A B : β), (if a2.toInt < 0 then B else if a4.toInt < 0 then B else if a5.toInt < 0 then B else if (l : Int) < a2.toInt + a5.toInt then B else if a4.toInt + a5.toInt ≤ (l2 : Int) then A else B) = B := by
                intro β A B
                by_cases e1 : a2.toInt < 0
                · rw [if_pos e1]
                by_cases e2 : a4.toInt < 0
                · rw [if_neg e1, if_pos e2]
                by_cases e3 : a5.toInt < 0
                · rw [if_neg e1, if_neg e2, if_pos e3]
                by_cases e4 : (l : Int) < a2.toInt + a5.toInt
                · rw [if_neg e1, if_neg e2, if_neg e3, if_pos e4]
                rw [if_neg e1, if_neg e2, if_neg e3, if_neg e4, if_neg (by omega)]
              rw [no1, no2]
              exact ⟨_, _, _, rfl, rfl, f6⟩
          · simp only [if_neg c4]
            exact ⟨_, _, _, rfl, rfl, f9⟩
        · have n1 : ¬ gI μ2 45 s < 0 := by rw [Int32.lt_iff_toInt_lt]; have := y3.1; simp only [l32_0]; omega
          have n2 : ¬ (0 : Int32) ≤ -1 := by decide
          simp only [y1, z1, if_neg n1, z2, if_neg n2, bw, bn2, bOw, bOn, nme, b2s, bs, zn10, zn01, ze10, ze00, ze01, ze11, if_true, if_false, not_true_eq_false, not_false_eq_true, l32_0, l32_1, l32_2, l32_3, l32_4, l32_5, l32_7, l32_8, l32_9, l32_12, l32_20, l32_24, l32_25, l32_30, l32_31, l32_35, l32_40, l32_50, l32_60, l32_100, l32_120, l32_200, l32_255, l32_400, l32_m1, l32_m9, l32_m20, l32_m30, l32_m31, l64_0, l64_1, l64_2, l64_3, l64_4, l64_5, l64_7, l64_8, l64_9, l64_12, l64_20, l64_24, l64_25, l64_30, l64_31, l64_35, l64_40, l64_50, l64_60, l64_100, l64_120, l64_200, l64_255, l64_400, l64_m1, l64_m9, l64_m20, l64_m30, l64_m31]
          exact ⟨_, _, _, rfl, rfl, f3⟩
      · have n1 : (-1 : Int32) < 0 := by decide
        simp only [y1, y2, if_pos n1, bw, bn2, bOw, bOn, nme, b2s, bs, zn10, zn01, ze10, ze00, ze01, ze11, if_true, if_false, not_true_eq_false, not_false_eq_true, l32_0, l32_1, l32_2, l32_3, l32_4, l32_5, l32_7, l32_8, l32_9, l32_12, l32_20, l32_24, l32_25, l32_30, l32_31, l32_35, l32_40, l32_50, l32_60, l32_100, l32_120, l32_200, l32_255, l32_400, l32_m1, l32_m9, l32_m20, l32_m30, l32_m31, l64_0, l64_1, l64_2, l64_3, l64_4, l64_5, l64_7, l64_8, l64_9, l64_12, l64_20, l64_24, l64_25, l64_30, l64_31, l64_35, l64_40, l64_50, l64_60, l64_100, l64_120, l64_200, l64_255, l64_400, l64_m1, l64_m9, l64_m20, l64_m30, l64_m31]
        exact ⟨_, _, _, rfl, rfl, f3⟩
    · simp only [if_pos c1, if_neg c3]
      exact bad
  · by_cases c3 : 0 ≤ a3.toInt ∧ a3.toInt ≤ 3
    · simp only [if_neg c1, if_pos c3]; exact bad
    · simp only [if_neg c1, if_neg c3]; exact bad

theorem s_top {c n : Nat} {μ1 μ2 : Mem} (h : Inv c n μ1 μ2) (hc : c < 512) (a1 : Int32) (a2 : Int32) (a3 : Int32) (a4 : Int32) (a5 : Int32) : ∃ (r : Int32) (n1 : Nat) (ν1 : Mem) (ν2 : Mem), f_X_top n μ1 a1 a2 a3 a4 a5 = some (r, n1, ν1) ∧ f_M_top μ2 a1 a2 a3 a4 a5 = some (r, ν2) ∧ Inv (c + 1) n1 ν1 ν2 := by
  obtain ⟨t, ht, hCs, hTop, hWr, hStr, hBow, hDen, hBou, hWhi, hCho, hPas, hGam, hLas, hMet, hFin, hShe⟩ := id h
  obtain ⟨q1, q2, q3, q4⟩ := id hTop
  have bad : ∃ (r : Int32) (n1 : Nat) (ν1 : Mem) (ν2 : Mem), (some ((-2 : Int32), n, μ1) : Option (Int32 × Nat × Mem)) = some (r, n1, ν1) ∧ (some ((-2 : Int32), μ2) : Option (Int32 × Mem)) = some (r, ν2) ∧ Inv (c + 1) n1 ν1 ν2 := ⟨_, _, _, _, rfl, rfl, Inv_next h⟩
  have key : (1 ≤ a1.toInt ∧ a1.toInt ≤ 50) → (1 ≤ a2.toInt ∧ a2.toInt ≤ 12) → (1 ≤ a3.toInt ∧ a3.toInt ≤ 9) → (a4 = 1 ∨ a4 = -1) → ∃ (r : Int32) (n1 : Nat) (ν1 : Mem) (ν2 : Mem), f_X_top_b54 n μ1 a1 a2 a3 a4 a5 = some (r, n1, ν1) ∧ f_M_top_b48 a1 a2 a3 a4 a5 μ2 = some (r, ν2) ∧ Inv (c + 1) n1 ν1 ν2 := by
    intro k1 k2 k3 k4
    unfold f_X_top_b54 f_M_top_b48 f_X_top_b65
    simp only [bw, bn2, bOw, bOn, nme, b2s, bs, zn10, zn01, ze10, ze00, ze01, ze11, if_true, if_false, not_true_eq_false, not_false_eq_true, l32_0, l32_1, l32_2, l32_3, l32_4, l32_5, l32_7, l32_8, l32_9, l32_12, l32_20, l32_24, l32_25, l32_30, l32_31, l32_35, l32_40, l32_50, l32_60, l32_100, l32_120, l32_200, l32_255, l32_400, l32_m1, l32_m9, l32_m20, l32_m30, l32_m31, l64_0, l64_1, l64_2, l64_3, l64_4, l64_5, l64_7, l64_8, l64_9, l64_12, l64_20, l64_24, l64_25, l64_30, l64_31, l64_35, l64_40, l64_50, l64_60, l64_100, l64_120, l64_200, l64_255, l64_400, l64_m1, l64_m9, l64_m20, l64_m30, l64_m31]
    by_cases c5 : 0 ≤ a5.toInt ∧ a5.toInt ≤ 7
    · simp only [if_pos c5]
      have L : (nI t < (40 : Int32)) = (t < 40) := y_lt (b := 40) (by omega) (by decide)
      have E : (nI t = (40 : Int32)) = (t = 40) := y_eq (b := 40) (by omega) (by decide)
      by_cases c6 : t < 40
      · subst ht
        unfold f_To_init
        have es : nI (t + 1) - 1 = nI t := by rw [← y_s]; exact Int32.add_sub_cancel _ _
        simp only [q2, q3, L, E, if_pos c6, if_pos (show ¬ t = 40 by omega), ib_n c6 (by omega), ix_n (show t < 2147483648 by omega), gI_sI, gI_sR, gI_zer, Nat.reduceEqDiff, if_neg (show ¬ 0 = 56 + t by omega), y_s, es, bw, bn2, bOw, bOn, nme, b2s, bs, zn10, zn01, ze10, ze00, ze01, ze11, if_true, if_false, not_true_eq_false, not_false_eq_true, l32_0, l32_1, l32_2, l32_3, l32_4, l32_5, l32_7, l32_8, l32_9, l32_12, l32_20, l32_24, l32_25, l32_30, l32_31, l32_35, l32_40, l32_50, l32_60, l32_100, l32_120, l32_200, l32_255, l32_400, l32_m1, l32_m9, l32_m20, l32_m30, l32_m31, l64_0, l64_1, l64_2, l64_3, l64_4, l64_5, l64_7, l64_8, l64_9, l64_12, l64_20, l64_24, l64_25, l64_30, l64_31, l64_35, l64_40, l64_50, l64_60, l64_100, l64_120, l64_200, l64_255, l64_400, l64_m1, l64_m9, l64_m20, l64_m30, l64_m31]
        refine ⟨_, _, _, _, rfl, rfl, t + 1, by omega, ?_⟩
        obtain ⟨x', hx⟩ : ∃ x', x' = (sI (sR (sI (sI (sI (sI (sI (sI (zer μ1 (56 + t)) (56 + t) 5 0) (56 + t) 0 a1) (56 + t) 1 a2) (56 + t) 2 a3) (56 + t) 3 a4) (56 + t) 4 a5) 1 t (some (56 + t))) 0 1 (nI (t + 1))) := ⟨_, rfl⟩
        obtain ⟨m', hm⟩ : ∃ m', m' = (sI (sI (sI (sI (sI (sI μ2 2 t a1) 3 t a2) 4 t a3) 5 t a4) 6 t a5) 0 1 (nI (t + 1))) := ⟨_, rfl⟩
        rw [← hx, ← hm]
        have ex : EqOn (fun a k => perX a k ∧ ¬ (a = 0 ∧ k = 1) ∧ ¬ (a = 1 ∧ k = t) ∧ ¬ a = 56 + t) μ1 x' := by
          intro a k p
          rw [hx]
          have p2 := p.2.1
          have p3 := p.2.2.1
          have p4 := p.2.2.2
          refine ⟨?_, ?_, ?_⟩
          · rw [gI_sI]
            by_cases e : a = 0
            · rw [if_pos e, if_neg (by omega)]; simp only [gI_sR, gI_sI, gI_zer, if_neg p4]
            · rw [if_neg e]; simp only [gI_sR, gI_sI, gI_zer, if_neg p4]
          · simp only [gL_sI, gL_sR, gL_zer, if_neg p4]
          · rw [gR_sI, gR_sR]
            by_cases e : a = 1
            · rw [if_pos e, if_neg (by omega)]; simp only [gR_sI, gR_zer, if_neg p4]
            · rw [if_neg e]; simp only [gR_sI, gR_zer, if_neg p4]
        have em : EqOn (fun a k => perM a k ∧ ¬ (a = 0 ∧ k = 1) ∧ ¬ (2 ≤ a ∧ a ≤ 6 ∧ k = t)) μ2 m' := by
          intro a k p
          rw [hm]
          have p2 := p.2.1
          have p3 := p.2.2
          refine ⟨?_, rfl, rfl⟩
          rw [gI_sI]
          by_cases e : a = 0
          · rw [if_pos e, if_neg (by omega)]; simp only [gI_sI, if_neg (show ¬ a = 2 by omega), if_neg (show ¬ a = 3 by omega), if_neg (show ¬ a = 4 by omega), if_neg (show ¬ a = 5 by omega), if_neg (show ¬ a = 6 by omega)]
          · rw [if_neg e]
            by_cases e2 : k = t
            · simp only [gI_sI, if_neg (show ¬ a = 2 by omega), if_neg (show ¬ a = 3 by omega), if_neg (show ¬ a = 4 by omega), if_neg (show ¬ a = 5 by omega), if_neg (show ¬ a = 6 by omega)]
            · simp only [gI_sI, if_neg e2, ite_self]
        have hT : iTop (t + 1) x' m' := by
          refine ⟨by omega, by rw [hx, gI_sI]; rfl, by rw [hm, gI_sI]; rfl, fun i hi => ?_⟩
          by_cases e : i = t
          · subst e
            rw [hx, hm]
            simp only [gI_sI, gI_sR, gI_zer, gR_sI, gR_sR, gR_zer, if_true, Nat.reduceEqDiff, if_false, if_neg (show ¬ 56 + i = 0 by omega), if_neg (show ¬ 1 = 56 + i by omega)]
            exact ⟨trivial, trivial, trivial, trivial, trivial, trivial, (hWr i (by omega) c6).symm, k1, k2, k3, k4, c5, by rw [hWr i (by omega) c6]; exact ⟨by decide, by decide⟩⟩
          · have q := q4 i (by omega)
            have e1 : ∀ k, gI x' (56 + i) k = gI μ1 (56 + i) k := fun k => (ex (56 + i) k ⟨by unfold perX pTop; omega, by omega, by omega, by omega⟩).1
            have e2 : ∀ a, 2 ≤ a → a ≤ 7 → gI m' a i = gI μ2 a i := fun a h1 h2 => (em a i ⟨by unfold perM qTop; omega, by omega, by omega⟩).1
            have e3 : gR x' 1 i = gR μ1 1 i := (ex 1 i ⟨by unfold perX pTop; omega, by omega, by omega, by omega⟩).2.2
            rw [e1, e1, e1, e1, e1, e1, e2 2 (by omega) (by omega), e2 3 (by omega) (by omega), e2 4 (by omega) (by omega), e2 5 (by omega) (by omega), e2 6 (by omega) (by omega), e2 7 (by omega) (by omega), e3]
            exact q
        have hW : iWr (t + 1) m' := fun i h1 h2 => by
          rw [(em 7 i ⟨by unfold perM qTop; omega, by omega, by omega⟩).1]; exact hWr i (by omega) h2
        have gB : iBou (t + 1) μ1 μ2 := by
          obtain ⟨p, b1, b2, b3, b4⟩ := hBou
          refine ⟨p, b1, b2, b3, fun i hi => ?_⟩
          obtain ⟨j, j1, j2⟩ := b4 i hi
          exact ⟨j, by omega, j2⟩
        have gC : iCho (t + 1) μ1 μ2 := by
          obtain ⟨r, cc, b1, b2, b3, b4, b5, b6, b7, b8, b9⟩ := hCho
          refine ⟨r, cc, b1, b2, b3, b4, b5, b6, fun i hi => ?_, fun i hi => ?_, b9⟩
          · obtain ⟨j, j1, j2⟩ := b7 i hi
            exact ⟨j, by omega, j2⟩
          · obtain ⟨j, j1, j2⟩ := b8 i hi
            exact ⟨j, by omega, j2⟩
        have gP : iPas (t + 1) μ1 μ2 := by
          obtain ⟨p, b1, b2, b3, b4⟩ := hPas
          refine ⟨p, b1, b2, b3, fun i hi => ?_⟩
          obtain ⟨a, b, j1, j2, j3⟩ := b4 i hi
          exact ⟨a, b, by omega, by omega, j3⟩
        refine ⟨hCs.cg ?_, hT, hW, hStr.cg ?_ ?_, hBow.cg ?_ ?_, hDen.cg ?_ ?_, gB.cg ?_ ?_, hWhi.cg ?_ ?_, gC.cg ?_ ?_, gP.cg ?_ ?_, hGam.cg ?_ ?_, hLas.cg ?_ ?_, hMet.up.cg ?_ ?_, hFin.cg ?_ ?_, hShe.cg ?_ ?_⟩
        all_goals first
          | exact ex.mono (fun a k p => ⟨by unfold perX; simp only [p, true_or, or_true], by simp only [pTop, pStr, pBow, pDen, pBou, pWhi, pCho, pPas, pGam, pLas, pMet, pFin, pShe] at p ⊢; omega⟩)
          | exact em.mono (fun a k p => ⟨by unfold perM; simp only [p, true_or, or_true], by simp only [qCs, qTop, qStr, qBow, qDen, qBou, qWhi, qCho, qPas, qGam, qLas, qMet, qFin, qShe] at p ⊢; omega⟩)
      · simp only [q2, q3, L, E, if_neg c6, if_neg (show ¬ ¬ t = 40 by omega), bw, bn2, bOw, bOn, nme, b2s, bs, zn10, zn01, ze10, ze00, ze01, ze11, if_true, if_false, not_true_eq_false, not_false_eq_true, l32_0, l32_1, l32_2, l32_3, l32_4, l32_5, l32_7, l32_8, l32_9, l32_12, l32_20, l32_24, l32_25, l32_30, l32_31, l32_35, l32_40, l32_50, l32_60, l32_100, l32_120, l32_200, l32_255, l32_400, l32_m1, l32_m9, l32_m20, l32_m30, l32_m31, l64_0, l64_1, l64_2, l64_3, l64_4, l64_5, l64_7, l64_8, l64_9, l64_12, l64_20, l64_24, l64_25, l64_30, l64_31, l64_35, l64_40, l64_50, l64_60, l64_100, l64_120, l64_200, l64_255, l64_400, l64_m1, l64_m9, l64_m20, l64_m30, l64_m31]
        exact ⟨_, _, _, _, rfl, rfl, Inv_next h⟩
    · simp only [if_neg c5]
      exact bad
  unfold f_X_top f_M_top f_X_top_b35
  simp only [bw, bn2, bOw, bOn, nme, b2s, bs, zn10, zn01, ze10, ze00, ze01, ze11, if_true, if_false, not_true_eq_false, not_false_eq_true, l32_0, l32_1, l32_2, l32_3, l32_4, l32_5, l32_7, l32_8, l32_9, l32_12, l32_20, l32_24, l32_25, l32_30, l32_31, l32_35, l32_40, l32_50, l32_60, l32_100, l32_120, l32_200, l32_255, l32_400, l32_m1, l32_m9, l32_m20, l32_m30, l32_m31, l64_0, l64_1, l64_2, l64_3, l64_4, l64_5, l64_7, l64_8, l64_9, l64_12, l64_20, l64_24, l64_25, l64_30, l64_31, l64_35, l64_40, l64_50, l64_60, l64_100, l64_120, l64_200, l64_255, l64_400, l64_m1, l64_m9, l64_m20, l64_m30, l64_m31]
  by_cases c1 : 1 ≤ a1.toInt ∧ a1.toInt ≤ 50
  · by_cases c2 : 1 ≤ a2.toInt ∧ a2.toInt ≤ 12
    · by_cases c3 : 1 ≤ a3.toInt ∧ a3.toInt ≤ 9
      · simp only [if_pos c1, if_pos c2, if_pos c3]
        by_cases c4 : a4 = 1
        · simp only [if_pos c4]
          exact key c1 c2 c3 (Or.inl c4)
        · by_cases c5 : a4 = -1
          · simp only [if_neg c4, if_neg (not_not_intro c5)]
            exact key c1 c2 c3 (Or.inr c5)
          · simp only [if_neg c4, if_pos c5]
            exact bad
      · simp only [if_pos c1, if_pos c2, if_neg c3]
        exact bad
    · simp only [if_pos c1, if_neg c2]
      exact bad
  · simp only [if_neg c1]
    exact bad

def dlX (a _k : Nat) : Prop := ¬ a = 14 ∧ ¬ (19 ≤ a ∧ a ≤ 22)
theorem half_b : ∀ r, r < 31 → (-30 ≤ (-(nI r / 2)).toInt ∧ (-(nI r / 2)).toInt ≤ 30) ∧ (-30 ≤ (nI r / 2).toInt ∧ (nI r / 2).toInt ≤ 30) := by decide +kernel
theorem duel_prep {t a b : Nat} {x m : Mem} {tu rg : Int32} (hT : iTop t x m) (ha : a < t) (hb : b < t) (hab : a ≠ b) : ∃ x0, f_X_duel FN x (nI a) (nI b) tu rg = bM2 (f_Bt_spinUntil FN x0 14 rg 400) (fun v14 μ15 => Option.bind (f_Bt_lonePlace FN μ15 14) (fun v16 => if v16 = (-1 : Int32) then Option.bind (f_Sp_fellInRing μ15 19) (fun v17 => if v17 = 0 then f_X_duel_b171 FN 20 0 μ15 else f_X_duel_b171 FN 20 1 μ15) else if ¬ v16 = 0 then some ((-1), μ15) else some (1, μ15))) ∧ gI x0 14 1 = nI 2 ∧ gI x0 14 5 = 0 ∧ gR x0 19 0 = some (56 + a) ∧ gR x0 20 0 = some (56 + b) ∧ gI x0 19 2 = -(gI x 2 0 / 2) ∧ gI x0 19 3 = 0 ∧ gI x0 19 4 = 9 ∧ gI x0 19 5 = tu ∧ gI x0 20 2 = gI x 2 0 / 2 ∧ gI x0 20 3 = 0 ∧ gI x0 20 4 = 27 ∧ gI x0 20 5 = tu ∧ EqOn dlX x x0 := by
  have t40 := hT.1
  have na : (nI a).toInt = (a : Int) := nI_t (by omega)
  have nb : (nI b).toInt = (b : Int) := nI_t (by omega)
  have hne : ¬ nI a = nI b := by rw [y_eq (by omega) (by omega)]; exact hab
  unfold f_X_duel
  rw [bTw hT, if_pos (by omega), bTw hT, if_pos (by omega), na, nb]
  simp only [Int.toNat_natCast, if_pos hne]
  unfold f_Bt_empty f_Bt_addSpinner f_Sp_set
  rw [nme, nme, bs]
  have g1 : gI (sI (sI x 14 1 0) 14 5 0) 14 1 = 0 := rfl
  have a1 : f_Bt_at (sI (sI (sI x 14 1 0) 14 5 0) 14 1 (0 + 1)) 14 (gI (sI (sI (sI x 14 1 0) 14 5 0) 14 1 (0 + 1)) 14 1 - 1) = some (some 19) := by
    rw [show gI (sI (sI (sI x 14 1 0) 14 5 0) 14 1 (0 + 1)) 14 1 - 1 = nI 0 by show (0 + 1 - 1 : Int32) = nI 0; decide]
    exact at_s (p := 1) (by omega) rfl (by omega) rfl
  rw [g1, if_pos (by decide), nme, a1, bs]
  dsimp only
  rw [nme, nme, b2s]
  dsimp only
  have g2 : gI (sI (sR (sI (sI (sI x 14 1 0) 14 5 0) 14 1 (0 + 1)) 19 0 (some (56 + a))) 19 1 (nI a)) 14 1 = 1 := rfl
  have a2 : f_Bt_at (sI (sI (sR (sI (sI (sI x 14 1 0) 14 5 0) 14 1 (0 + 1)) 19 0 (some (56 + a))) 19 1 (nI a)) 14 1 (1 + 1)) 14 (gI (sI (sI (sR (sI (sI (sI x 14 1 0) 14 5 0) 14 1 (0 + 1)) 19 0 (some (56 + a))) 19 1 (nI a)) 14 1 (1 + 1)) 14 1 - 1) = some (some 20) := by
    rw [show gI (sI (sI (sR (sI (sI (sI x 14 1 0) 14 5 0) 14 1 (0 + 1)) 19 0 (some (56 + a))) 19 1 (nI a)) 14 1 (1 + 1)) 14 1 - 1 = nI 1 by show (1 + 1 - 1 : Int32) = nI 1; decide]
    exact at_s (p := 2) (by omega) rfl (by omega) rfl
  rw [g2, if_pos (by decide), nme, a2, bs]
  dsimp only
  rw [nme, nme, b2s]
  dsimp only
  have e1 : EqOn dlX x (sI (sR (sI (sI (sR (sI (sI (sI x 14 1 0) 14 5 0) 14 1 (0 + 1)) 19 0 (some (56 + a))) 19 1 (nI a)) 14 1 (1 + 1)) 20 0 (some (56 + b))) 20 1 (nI b)) := (((((((EqOn.rf.sI (by unfold dlX; omega)).sI (by unfold dlX; omega)).sI (by unfold dlX; omega)).sR (by unfold dlX; omega)).sI (by unfold dlX; omega)).sI (by unfold dlX; omega)).sR (by unfold dlX; omega)).sI (by unfold dlX; omega)
  have k1 : gI (sI (sR (sI (sI (sR (sI (sI (sI x 14 1 0) 14 5 0) 14 1 (0 + 1)) 19 0 (some (56 + a))) 19 1 (nI a)) 14 1 (1 + 1)) 20 0 (some (56 + b))) 20 1 (nI b)) 14 1 = nI 2 := rfl
  have k2 : gI (sI (sR (sI (sI (sR (sI (sI (sI x 14 1 0) 14 5 0) 14 1 (0 + 1)) 19 0 (some (56 + a))) 19 1 (nI a)) 14 1 (1 + 1)) 20 0 (some (56 + b))) 20 1 (nI b)) 14 5 = 0 := rfl
  have k3 : gR (sI (sR (sI (sI (sR (sI (sI (sI x 14 1 0) 14 5 0) 14 1 (0 + 1)) 19 0 (some (56 + a))) 19 1 (nI a)) 14 1 (1 + 1)) 20 0 (some (56 + b))) 20 1 (nI b)) 19 0 = some (56 + a) := rfl
  have k4 : gR (sI (sR (sI (sI (sR (sI (sI (sI x 14 1 0) 14 5 0) 14 1 (0 + 1)) 19 0 (some (56 + a))) 19 1 (nI a)) 14 1 (1 + 1)) 20 0 (some (56 + b))) 20 1 (nI b)) 20 0 = some (56 + b) := rfl
  generalize (sI (sR (sI (sI (sR (sI (sI (sI x 14 1 0) 14 5 0) 14 1 (0 + 1)) 19 0 (some (56 + a))) 19 1 (nI a)) 14 1 (1 + 1)) 20 0 (some (56 + b))) 20 1 (nI b)) = y at e1 k1 k2 k3 k4 ⊢
  rw [nme, nme, nme, nme, bs, (e1 2 0 (by unfold dlX; omega)).1]
  have k5 : gI (sI (sI (sI (sI y 19 2 (-(gI x 2 0 / 2))) 19 3 0) 19 4 9) 19 5 tu) 2 0 = gI x 2 0 := (e1 2 0 (by unfold dlX; omega)).1
  rw [nme, nme, nme, nme, bs, k5]
  refine ⟨_, rfl, k1, k2, k3, k4, rfl, rfl, rfl, rfl, rfl, rfl, rfl, rfl, (((((((e1.sI (by unfold dlX; omega)).sI (by unfold dlX; omega)).sI (by unfold dlX; omega)).sI (by unfold dlX; omega)).sI (by unfold dlX; omega)).sI (by unfold dlX; omega)).sI (by unfold dlX; omega)).sI (by unfold dlX; omega)⟩
theorem duel_j {c n t a b : Nat} {x m : Mem} {tu rg : Int32} (h : Inv c n x m) (hn : n = 56 + t) (ha : a < t) (hb : b < t) (htu : bt tu 1 60) (hrg : bt rg (-1) 30) : ∃ r x' m', f_X_duel FN x (nI a) (nI b) tu rg = some (r, x') ∧ f_M_comesTo FN m (nI a) (nI b) tu rg = some (r, m') ∧ bt r (-1) 1 ∧ EqOn dlX x x' ∧ EqOn fbM m m' := by
  obtain ⟨t', ht, hCs, hTop, hWr, hStr, hBow, hDen, hBou, hWhi, hCho, hPas, hGam, hLas, hMet, hFin, hShe⟩ := id h
  have e : t' = t := by omega
  subst e
  have t40 := hTop.1
  by_cases hab : a = b
  · subst hab
    have na : (nI a).toInt = (a : Int) := nI_t (by omega)
    refine ⟨0, x, m, ?_, ?_, by unfold bt; decide, EqOn.rf, EqOn.rf⟩
    · unfold f_X_duel
      rw [bTw hTop, if_pos (by omega), bTw hTop, if_pos (by omega)]
      simp only [not_true_eq_false, if_false]
    · unfold f_M_comesTo
      rw [if_neg (by simp only [not_true_eq_false, not_false_eq_true])]
  obtain ⟨x0, d0, d1, d2, d3, d4, d5, d6, d7, d8, d9, d10, d11, d12, d13⟩ := duel_prep (tu := tu) (rg := rg) hTop ha hb hab
  have hA : hAB 14 19 := Or.inr ⟨rfl, rfl⟩
  obtain ⟨ρ, hρ, eρ⟩ := toN (v := gI m 0 9) (n := 31) (by have := hBow.2.2.1.1; omega) (by have := hBow.2.2.1.2; omega)
  obtain ⟨hb1, hb2⟩ := half_b ρ hρ
  rw [hBow.1, eρ] at d5 d9
  have e0 : EqOn fbM m (sI m 0 25 2) := EqOn.rf.sI (by unfold fbM; omega)
  have hz : hRg (rg.toInt < 0) rg (if 0 ≤ rg then rg else 0) := by
    by_cases c : rg.toInt < 0
    · exact Or.inl ⟨c, c⟩
    · exact Or.inr ⟨c, by omega, if_pos (by rw [Int32.le_iff_toInt_le, show (0 : Int32).toInt = 0 from rfl]; omega)⟩
  obtain ⟨r, m1, x', m', q1, q2, q3, q4, q5, q6, q7, q8, q9, q10, q11⟩ := run_j (x0 := x0) (m0 := sI m 0 25 2) (w := 0) (fl := 0) (last := 400) (J := fun k => if k = 0 then a else b) (cx := fun k => if k = 0 then -(nI ρ / 2) else nI ρ / 2) (cy := fun _ => 0) (hh := fun k => if k = 0 then 9 else 27) (tu := fun _ => tu) hA hz (by omega) (show 2 ≤ 4 by omega) d1 (by rw [gI_sI, if_pos rfl, if_pos rfl]; rfl) (hTop.cg (d13.mono (fun a k q => by unfold pTop at q; unfold dlX; omega)) (e0.mono (fun a k q => by unfold qTop at q; unfold fbM; omega))) (hCs.cg (e0.mono (fun a k q => by unfold qCs at q; unfold fbM; omega))) (hStr.cg (d13.mono (fun a k q => by unfold pStr at q; unfold dlX; omega)) (e0.mono (fun a k q => by unfold qStr at q; unfold fbM; omega))) (hDen.cg (d13.mono (fun a k q => by unfold pDen at q; unfold dlX; omega)) (e0.mono (fun a k q => by unfold qDen at q; unfold fbM; omega))) (hBow.cg (d13.mono (fun a k q => by unfold pBow at q; unfold dlX; omega)) (e0.mono (fun a k q => by unfold qBow at q; unfold fbM; omega))) (Or.inl ⟨rfl, rfl, rfl, d2⟩) (fun k hk => by
    have h2 : k = 0 ∨ k = 1 := by omega
    rcases h2 with e | e <;> subst e
    · exact ⟨ha, d3, d5, d6, d7, d8, hb1, by unfold bt; decide, by unfold bt; decide, htu⟩
    · exact ⟨hb, d4, d9, d10, d11, d12, hb2, by unfold bt; decide, by unfold bt; decide, htu⟩)
  have hM : f_M_comesTo FN m (nI a) (nI b) tu rg = f_M_comesTo_b60 FN rg (if 0 ≤ rg then rg else 0) 400 m1 := by
    unfold f_M_comesTo
    rw [if_pos (by rw [y_eq (by omega) (by omega)]; exact hab), nme]
    unfold rfK at q3
    obtain ⟨ma, k1, k2, k3⟩ := q3
    unfold rfK at k3
    obtain ⟨mb, k4, k5, k6⟩ := k3
    have q2' := q2
    unfold rfB at q2'
    rw [k1, bs] at q2'
    unfold rfB at q2'
    rw [k4, bs] at q2'
    unfold rfB at q2'
    have emb := Option.some.inj q2'
    subst emb
    have r1 : gI (sI m 0 25 2) 0 9 = nI ρ := by
      rw [(e0 0 9 (by unfold fbM; omega)).1]; exact eρ
    have r2 : gI ma 0 9 = nI ρ := by
      rw [(k2 0 9 (by unfold bbM; omega)).1]; exact r1
    have k1' : f_M_begins (sI m 0 25 2) 0 (nI a) (-(nI ρ / 2)) 0 9 tu = some ma := k1
    have k4' : f_M_begins ma 1 (nI b) (nI ρ / 2) 0 27 tu = some mb := k4
    rw [r1, k1', bs, r2, k4', bs]
    by_cases c : 0 ≤ rg
    · rw [if_pos c, if_pos c]
    · rw [if_neg c, if_neg c]
  obtain ⟨v, l1, l2, l3⟩ := lone_e hA q8 q9
  have ex : EqOn dlX x x' := d13.tr (q10.mono (fun a k p => by unfold dlX at p; unfold fbX bbX; omega))
  have em : EqOn fbM m m' := e0.tr q11
  rw [d0, hM, show (400 : Int32) = nI 400 from rfl, q1, b2s, l1, bs]
  unfold f_M_comesTo_b60
  rw [q5, b2s, l2, bs]
  have i0 : ib (0 : Int32) 4 = true := by decide
  have i1 : ib (1 : Int32) 4 = true := by decide
  rcases l3 with e | ⟨k, hk, e⟩
  · subst e
    rw [if_pos rfl, if_neg (not_not_intro rfl)]
    unfold f_X_duel_b171 f_Sp_fellInRing f_M_comesTo_b98 f_M_comesTo_b113 f_M_comesTo_b131 f_M_comesTo_b133
    have g0 := (q9 0 (by omega)).1.2.2.2.2.2.2.2
    have g1 := (q9 1 (by omega)).1.2.2.2.2.2.2.2
    have g0' : fr (rg.toInt < 0) (gI x' 19 17) (gI m' 28 0) := g0
    have g1' : fr (rg.toInt < 0) (gI x' 20 17) (gI m' 28 1) := g1
    by_cases c : rg.toInt < 0
    · have f0 : ¬ gI x' 19 17 = 3 := by
        rcases g0' with ⟨_, q⟩ | ⟨_, q, _⟩
        · exact q c
        · rw [q]; decide
      have f1 : ¬ gI x' 20 17 = 3 := by
        rcases g1' with ⟨_, q⟩ | ⟨_, q, _⟩
        · exact q c
        · rw [q]; decide
      rw [if_pos f0, if_pos f1, bs, if_pos rfl, bs, if_pos rfl, if_pos (by rw [Int32.lt_iff_toInt_lt]; exact c), if_pos (by decide), if_pos (by decide)]
      exact ⟨0, x', m', rfl, rfl, by unfold bt; decide, ex, em⟩
    · have f0 : gI x' 19 17 = gI m' 28 0 := by
        rcases g0' with ⟨q, _⟩ | ⟨q, _⟩
        · exact q
        · exact absurd q c
      have f1 : gI x' 20 17 = gI m' 28 1 := by
        rcases g1' with ⟨q, _⟩ | ⟨q, _⟩
        · exact q
        · exact absurd q c
      have c' : ¬ rg < 0 := by rw [Int32.lt_iff_toInt_lt]; exact c
      simp only [if_neg c', if_pos i0, if_pos i1, f0, f1, show ix (0 : Int32) = 0 from rfl, show ix (1 : Int32) = 1 from rfl]
      by_cases p0 : gI m' 28 0 = 3
      · by_cases p1 : gI m' 28 1 = 3
        · simp only [p0, p1, not_true_eq_false, if_false, bs, ze10, if_true]
          exact ⟨_, x', m', rfl, rfl, by unfold bt; decide, ex, em⟩
        · simp only [p0, p1, not_true_eq_false, not_false_eq_true, if_false, bs, ze10, ze00, if_true]
          exact ⟨_, x', m', rfl, rfl, by unfold bt; decide, ex, em⟩
      · by_cases p1 : gI m' 28 1 = 3
        · simp only [p0, p1, not_true_eq_false, not_false_eq_true, if_false, bs, ze10, ze00, if_true]
          exact ⟨_, x', m', rfl, rfl, by unfold bt; decide, ex, em⟩
        · simp only [p0, p1, not_true_eq_false, not_false_eq_true, if_false, bs, ze10, ze00, if_true]
          exact ⟨_, x', m', rfl, rfl, by unfold bt; decide, ex, em⟩
  · have h2 : k = 0 ∨ k = 1 := by omega
    unfold f_M_comesTo_b133
    rcases h2 with e2 | e2
    · subst e2; subst e
      rw [if_neg (show ¬ nI 0 = -1 by decide), if_neg (show ¬ ¬ nI 0 = 0 by decide), if_pos (show ¬ nI 0 = -1 by decide), if_neg (show ¬ ¬ nI 0 = 0 by decide)]
      exact ⟨_, x', m', rfl, rfl, by unfold bt; decide, ex, em⟩
    · subst e2; subst e
      rw [if_neg (show ¬ nI 1 = -1 by decide), if_pos (show ¬ nI 1 = 0 by decide), if_pos (show ¬ nI 1 = -1 by decide), if_pos (show ¬ nI 1 = 0 by decide), if_neg (show ¬ ¬ nI 1 = 1 by decide)]
      exact ⟨_, x', m', rfl, rfl, by unfold bt; decide, ex, em⟩
theorem Inv.dl {c n : Nat} {x m x' m' : Mem} (h : Inv c n x m) (e1 : EqOn dlX x x') (e2 : EqOn fbM m m') : Inv c n x' m' := by
  refine Inv.cg0 h (e1.mono ?_) (e2.mono ?_)
  · intro a k p
    unfold perX at p; unfold dlX
    unfold pTop pStr pBow pDen pBou pWhi pCho pPas pGam pLas pMet pFin pShe at p
    omega
  · intro a k p
    unfold perM at p; unfold fbM
    unfold qCs qTop qStr qBow qDen qBou qWhi qCho qPas qGam qLas qMet qFin qShe at p
    omega
theorem s_expected {c n : Nat} {μ1 μ2 : Mem} (h : Inv c n μ1 μ2) (hc : c < 512) (a1 : Int32) (a2 : Int32) : ∃ (r : Int32) (ν1 : Mem) (ν2 : Mem), f_X_expected FN μ1 a1 a2 = some (r, ν1) ∧ f_M_expected FN μ2 a1 a2 = some (r, ν2) ∧ Inv (c + 1) n ν1 ν2 := by
  obtain ⟨t, ht, hCs, hTop, hWr, hStr, hBow, hDen, hBou, hWhi, hCho, hPas, hGam, hLas, hMet, hFin, hShe⟩ := id h
  have t40 := hTop.1
  unfold f_X_expected f_M_expected f_M_expectedOf
  rw [bTw hTop, bTn hTop]
  by_cases c1 : 0 ≤ a1.toInt ∧ a1.toInt < (t : Int)
  · rw [if_pos c1, if_pos c1]
    simp only [bTw hTop, bTn hTop, bw, bn2, bOw, bOn, nme, b2s, bs, zn10, zn01, ze10, ze00, ze01, ze11, if_true, if_false, not_true_eq_false, not_false_eq_true, l32_0, l32_1, l32_2, l32_3, l32_4, l32_5, l32_7, l32_8, l32_9, l32_12, l32_20, l32_24, l32_25, l32_30, l32_31, l32_35, l32_40, l32_50, l32_60, l32_100, l32_120, l32_200, l32_255, l32_400, l32_m1, l32_m9, l32_m20, l32_m30, l32_m31, l64_0, l64_1, l64_2, l64_3, l64_4, l64_5, l64_7, l64_8, l64_9, l64_12, l64_20, l64_24, l64_25, l64_30, l64_31, l64_35, l64_40, l64_50, l64_60, l64_100, l64_120, l64_200, l64_255, l64_400, l64_m1, l64_m9, l64_m20, l64_m30, l64_m31]
    by_cases c2 : 0 ≤ a2.toInt ∧ a2.toInt < (t : Int)
    · rw [if_pos c2, if_pos c2]
      obtain ⟨a, ha, rfl⟩ := toN c1.1 c1.2
      obtain ⟨b, hb, rfl⟩ := toN c2.1 c2.2
      obtain ⟨r, x', m', q1, q2, q3, q4, q5⟩ := duel_j (tu := 30) (rg := -1) h ht ha hb (by unfold bt; decide) (by unfold bt; decide)
      simp only [q1, q2, b2s]
      exact ⟨_, _, _, rfl, rfl, Inv_next (h.dl q4 q5)⟩
    · rw [if_neg c2, if_neg c2]
      exact ⟨_, _, _, rfl, rfl, Inv_next h⟩
  · rw [if_neg c1, if_neg c1]
    exact ⟨_, _, _, rfl, rfl, Inv_next h⟩

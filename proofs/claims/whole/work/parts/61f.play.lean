theorem max1_1 : ∀ k, k < 41 → k = 0 ∨ f_JM_max1 1 (nI k) = some (nI k) := by decide +kernel
theorem keep_j {c n t p q o : Nat} {x m : Mem} {k w1 w2 : Int32} {v : Nat} (h : Inv c n x m) (hR : gRu x m) (hn : n = 56 + t) (hc : c < 512) (hp : p < 8) (hq : q < 8) (hpq : p ≠ q) (hv : v < 8) (ho : o < 8) (hvo : v ≠ o) : ∃ r ν1 ν2, f_X_play_b150 FN (nI v) (nI o) (nI v) 3 (gaX p q k w1 w2 x) = some (r, ν1) ∧ f_M_play_b262 FN (nI p) (nI q) w1 w2 k (nI v) 0 (nI o) m = some (r, ν2) ∧ Inv (c + 1) n ν1 ν2 := by
  have hT := h.T hn
  have t40 := hT.1
  have eg : EqOn (fun a _ => ¬ a = 42 ∧ ¬ a = 43) x (gaX p q k w1 w2 x) := by
    unfold gaX
    exact (((((EqOn.rf.sI (by simp)).sI (by simp)).sI (by simp)).sI (by simp)).sI (by simp)).sI (by simp)
  have hT' : iTop t (gaX p q k w1 w2 x) m := hT.cg (eg.mono (fun a k z => by unfold pTop at z; omega)) EqOn.rf
  obtain ⟨k', x', m', l1, l2, l3, l4, l5⟩ := keep_l (x1 := nI p) (x2 := nI q) (x3 := w1) (x4 := w2) (x5 := k) hv ho hvo t FN FN 0 0 (gaX p q k w1 w2 x) m (tc m (nI o) 0 t) (by omega) (FN_lt (by omega)) (FN_lt (by omega)) hT' (fun r' hr' => absurd hr' (by omega)) (by rw [(eg 41 4 (by omega)).1]; exact (hR 4 (by omega)).1) (by omega) (by omega)
  have l1' : f_X_keepTops FN (gaX p q k w1 w2 x) (nI v) (nI o) = some (nI k', x') := l1
  have e2 := (tops_e hT (nI o)).2
  unfold f_X_play_b150 f_M_play_b262
  rw [l1', b2s, e2, bs, if_pos (by decide), nme, show ix (3 : Int32) = 3 from rfl]
  have l2' := l2
  rw [show (nI 0) = (0 : Int32) from rfl] at l2'
  rw [l2', b310_e hp hq]
  refine ⟨_, _, _, rfl, rfl, fin_i h hn hc hp hq hpq ((l4.mono (fun a k z => z.1)).sI (by simp)) (by rw [gI_sI, if_pos rfl, if_pos rfl]) l5 (l3.cg (EqOn.rf.sI (by unfold pTop; omega)) EqOn.rf)⟩
theorem s_play {c n : Nat} {μ1 μ2 : Mem} (h : Inv c n μ1 μ2) (hc : c < 512) (a1 : Int32) (a2 : Int32) : ∃ (r : Int32) (ν1 : Mem) (ν2 : Mem), f_X_play FN μ1 a1 a2 = some (r, ν1) ∧ f_M_play FN μ2 a1 a2 = some (r, ν2) ∧ Inv (c + 1) n ν1 ν2 := by
  obtain ⟨t, ht, hCs, hTop, hWr, hStr, hBow, hDen, hBou, hWhi, hCho, hPas, hGam, hLas, hMet, hFin, hShe⟩ := id h
  have t40 := hTop.1
  unfold f_X_play f_M_play
  rw [bOw, bOn]
  by_cases c1 : 0 ≤ a1.toInt ∧ a1.toInt ≤ 7
  · rw [if_pos c1, if_pos c1]
    simp only [bw, bn2, bOw, bOn, nme, b2s, bs, zn10, zn01, ze10, ze00, ze01, ze11, if_true, if_false, not_true_eq_false, not_false_eq_true, l32_0, l32_1, l32_2, l32_3, l32_4, l32_5, l32_7, l32_8, l32_9, l32_12, l32_20, l32_24, l32_25, l32_30, l32_31, l32_35, l32_40, l32_50, l32_60, l32_100, l32_120, l32_200, l32_255, l32_400, l32_m1, l32_m9, l32_m20, l32_m30, l32_m31, l64_0, l64_1, l64_2, l64_3, l64_4, l64_5, l64_7, l64_8, l64_9, l64_12, l64_20, l64_24, l64_25, l64_30, l64_31, l64_35, l64_40, l64_50, l64_60, l64_100, l64_120, l64_200, l64_255, l64_400, l64_m1, l64_m9, l64_m20, l64_m30, l64_m31]
    by_cases c2 : 0 ≤ a2.toInt ∧ a2.toInt ≤ 7
    · rw [if_pos c2, if_pos c2]
      by_cases c3 : a1 = a2
      · simp only [if_neg (not_not_intro c3)]
        exact ⟨_, _, _, rfl, rfl, Inv_next h⟩
      simp only [if_pos c3]
      obtain ⟨p, hp, rfl⟩ := toN (n := 8) c1.1 (by omega)
      obtain ⟨q, hq, rfl⟩ := toN (n := 8) c2.1 (by omega)
      have hpq : p ≠ q := fun e => c3 (by rw [e])
      obtain ⟨g, hg⟩ := hGam
      obtain ⟨r, y, m, w1, w2, w3, w4, w5, w6⟩ := reads_l (g := g) hg
      have hI := h.kp w5 w6
      rw [w1, w2, b2s, bs, w3]
      by_cases c4 : r = -1
      · rw [if_neg (not_not_intro c4), if_neg (not_not_intro c4)]
        have hT := hI.T ht
        have b1 := tc_b m (nI p) t 0
        have b2 := tc_b m (nI q) t 0
        rw [(tops_e hT (nI p)).1, (tops_e hT (nI p)).2, bs, bs]
        by_cases c5 : tc m (nI p) 0 t = 0
        · rw [if_pos ((nI0 (by omega)).mpr c5), if_pos ((nI0 (by omega)).mpr c5)]
          exact ⟨_, _, _, rfl, rfl, Inv_next hI⟩
        rw [if_neg (fun z => c5 ((nI0 (by omega)).mp z)), if_neg (fun z => c5 ((nI0 (by omega)).mp z)), (tops_e hT (nI q)).1, (tops_e hT (nI q)).2, bs, bs]
        by_cases c6 : tc m (nI q) 0 t = 0
        · rw [if_neg (not_not_intro ((nI0 (by omega)).mpr c6)), if_neg (not_not_intro ((nI0 (by omega)).mpr c6))]
          exact ⟨_, _, _, rfl, rfl, Inv_next hI⟩
        rw [if_pos (fun z => c6 ((nI0 (by omega)).mp z)), if_pos (fun z => c6 ((nI0 (by omega)).mp z))]
        have rb := (w4 1 (by omega)).2
        have rb' : 1 ≤ (gI m 40 1).toInt ∧ (gI m 40 1).toInt ≤ 20 := by
          rcases rb with z | ⟨z, _⟩
          · exact z
          · omega
        obtain ⟨B, hB, eB⟩ := toN (v := gI m 40 1) (n := 21) (by omega) (by omega)
        obtain ⟨k', u1, u2, x', m', l1, l2, l3, l4, l5, l6⟩ := bouts_l (B := B) ht hp hq (show 1 ≤ tc m (nI p) 0 t by omega) (show 1 ≤ tc m (nI q) 0 t by omega) (by omega) B FN 0 0 0 y m (by omega) (FN_lt (by omega)) hI w4 eB rfl rfl
        have pb : f_X_playBouts FN y (nI p) (nI q) = some (sI (sI (sI x' 42 0 k') 42 1 u1) 42 2 u2) := by
          unfold f_X_playBouts
          rw [(tops_e hT (nI p)).1, bs, (max1_1 _ (by omega)).resolve_left c5, bs, (tops_e hT (nI q)).1, bs, (max1_1 _ (by omega)).resolve_left c6, bs]
          refine l1.trans ?_
          unfold f_X_playBouts_b177
          rw [if_pos (by decide), nme, if_pos (by decide), nme, if_pos (by decide), nme]
          rfl
        have e1 : ib (nI (8 * p + q)) 64 = true := ib_n (by omega) (by omega)
        have e2 : ib (nI (8 * q + p)) 64 = true := ib_n (by omega) (by omega)
        rw [pb, bs, (ix8 hp hq).1, (ix8 hq hp).1, if_pos e1, if_pos e1, if_pos e2, if_pos e2, if_pos (show ib (3 : Int32) 4 = true by decide), ix_n (show 8 * p + q < 2147483648 by omega), ix_n (show 8 * q + p < 2147483648 by omega), show ix (3 : Int32) = 3 from rfl, show ix (1 : Int32) = 1 from rfl, show ix (2 : Int32) = 2 from rfl]
        have eq1 : gI (gaX p q k' u1 u2 x') 42 1 = u1 := rfl
        have eq2 : gI (gaX p q k' u1 u2 x') 42 2 = u2 := rfl
        have eX : ∀ z, (z = gaX p q k' u1 u2 x') → gI z 42 1 = u1 ∧ gI z 42 2 = u2 := fun z e => by rw [e]; exact ⟨eq1, eq2⟩
        have l2' : f_M_play_l61 FN FN (nI p) (nI q) 0 0 0 m = f_M_play_b219 FN (nI p) (nI q) u1 u2 k' m' := l2
        rw [l2']
        have fold : sI (sI (sI (sI (sI (sI x' 42 0 k') 42 1 u1) 42 2 u2) 43 (8 * p + q) (gI (sI (sI (sI x' 42 0 k') 42 1 u1) 42 2 u2) 43 (8 * p + q) + 1)) 43 (8 * q + p) (gI (sI (sI (sI (sI x' 42 0 k') 42 1 u1) 42 2 u2) 43 (8 * p + q) (gI (sI (sI (sI x' 42 0 k') 42 1 u1) 42 2 u2) 43 (8 * p + q) + 1)) 43 (8 * q + p) + 1)) 42 3 0 = gaX p q k' u1 u2 x' := rfl
        rw [fold, eq1, eq2]
        unfold f_M_play_b219 f_M_play_b240 f_X_play_b132
        simp only [if_pos (show ib (1 : Int32) 4 = true by decide), if_pos (show ib (2 : Int32) 4 = true by decide)]
        have np : ¬ nI p = -1 := fun z => by
          have := congrArg Int32.toInt z
          rw [nI_t (by omega), show (-1 : Int32).toInt = -1 from rfl] at this; omega
        have nq : ¬ nI q = -1 := fun z => by
          have := congrArg Int32.toInt z
          rw [nI_t (by omega), show (-1 : Int32).toInt = -1 from rfl] at this; omega
        have nqp : ¬ nI q = nI p := fun z => c3 z.symm
        by_cases z0 : u1 = u2
        · have zl : u1 ≤ u2 := by rw [z0, Int32.le_iff_toInt_le]; omega
          have zl2 : u2 ≤ u1 := by rw [z0, Int32.le_iff_toInt_le]; omega
          rw [if_neg (not_not_intro z0), if_pos zl, if_pos zl2, if_pos trivial, b310_e hp hq]
          refine ⟨_, _, _, rfl, rfl, fin_i l3 ht hc hp hq hpq EqOn.rf rfl EqOn.rf ?_⟩
          exact (l3.T ht).cg (by
            unfold gaX
            exact (((((EqOn.rf.sI (by unfold pTop; omega)).sI (by unfold pTop; omega)).sI (by unfold pTop; omega)).sI (by unfold pTop; omega)).sI (by unfold pTop; omega)).sI (by unfold pTop; omega)) EqOn.rf
        · rw [if_pos z0]
          by_cases z1 : u1 ≤ u2
          · have zl2 : ¬ u2 ≤ u1 := fun z => z0 (by rw [Int32.le_iff_toInt_le] at z z1; exact i32_inj (by omega))
            rw [if_pos z1, if_pos nqp, if_pos z1, if_neg zl2, if_neg nq, if_pos nqp]
            exact keep_j l3 l4 ht hc hp hq hpq hq hp (Ne.symm hpq)
          · rw [if_neg z1, if_neg (show ¬ ¬ True by simp), if_neg z1, if_neg np, if_neg (show ¬ ¬ True by simp)]
            exact keep_j l3 l4 ht hc hp hq hpq hp hq hpq
      · rw [if_pos c4, if_pos c4]
        exact ⟨_, _, _, rfl, rfl, Inv_next hI⟩
    · rw [if_neg c2, if_neg c2]
      exact ⟨_, _, _, rfl, rfl, Inv_next h⟩
  · rw [if_neg c1, if_neg c1]
    exact ⟨_, _, _, rfl, rfl, Inv_next h⟩

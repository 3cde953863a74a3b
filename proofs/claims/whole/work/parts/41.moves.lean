theorem f65_e (v : Int64) : f_M_floor65 v = some (fl65 v) := by
  unfold f_M_floor65 fl65
  split <;> rfl
theorem cT_n {k : Nat} (h : k < 36) : cT (nI k) = csT.getD k 0 := by unfold cT; rw [ix_n (by omega)]
theorem sT_n {k : Nat} (h : k < 36) : sT (nI k) = csT.getD ((k + 27) % 36) 0 := by unfold sT; rw [ix_n (by omega)]
theorem iCs.bo {m m' : Mem} (h : iCs m) (e : EqOn boN m m') : iCs m' := h.cg (e.mono (fun a k p => by unfold qCs at p; unfold boN; omega))
theorem st5 (μ : Mem) (i : Nat) (v1 v2 v4 v5 : Int64) (v3 : Int32) : stM (sL (sL (sI (sL (sL μ 24 i v1) 25 i v2) 23 i v3) 24 i v4) 25 i v5) i = (gL μ 21 i, gL μ 22 i, v4, v5, v3, gI μ 26 i, gI μ 27 i, gI μ 28 i) := by
  unfold stM
  simp only [gI_sI, gL_sI, gI_sL, gL_sL, reduceIte, Nat.reduceEqDiff]
theorem st5n (μ : Mem) (i : Nat) (v1 v2 v4 v5 : Int64) (v3 : Int32) {j : Nat} (hj : j ≠ i) : stM (sL (sL (sI (sL (sL μ 24 i v1) 25 i v2) 23 i v3) 24 i v4) 25 i v5) j = stM μ j := by
  unfold stM
  simp only [gI_sI, gL_sI, gI_sL, gL_sL, if_neg hj, ite_self]
theorem g24_ (μ : Mem) (i : Nat) (v1 v2 : Int64) (v3 : Int32) : gL (sI (sL (sL μ 24 i v1) 25 i v2) 23 i v3) 24 i = v1 := by simp only [gI_sI, gL_sI, gI_sL, gL_sL, reduceIte, Nat.reduceEqDiff]
theorem g25a_ (μ : Mem) (i : Nat) (v1 : Int64) : gL (sL μ 24 i v1) 25 i = gL μ 25 i := by simp only [gL_sL, reduceIte, Nat.reduceEqDiff]
theorem g25_ (μ : Mem) (i : Nat) (v1 v2 v4 : Int64) (v3 : Int32) : gL (sL (sI (sL (sL μ 24 i v1) 25 i v2) 23 i v3) 24 i v4) 25 i = v2 := by simp only [gI_sI, gL_sI, gI_sL, gL_sL, reduceIte, Nat.reduceEqDiff]
theorem g27a_ (μ : Mem) (i : Nat) (v1 v2 : Int64) (v3 : Int32) : gI (sI (sL (sL μ 24 i v1) 25 i v2) 23 i v3) 27 i = gI μ 27 i := by simp only [gI_sI, gL_sI, gI_sL, gL_sL, reduceIte, Nat.reduceEqDiff]
theorem g27b_ (μ : Mem) (i : Nat) (v1 v2 v4 : Int64) (v3 : Int32) : gI (sL (sI (sL (sL μ 24 i v1) 25 i v2) 23 i v3) 24 i v4) 27 i = gI μ 27 i := by simp only [gI_sI, gL_sI, gI_sL, gL_sL, reduceIte, Nat.reduceEqDiff]
theorem mv187 {P t : Nat} {m : Mem} {X Y : Int32 → Int32 → Int32} (h : bWho P t m) (ht : tOK t m) (hC : iCs m) (hX : ∀ μ, EqOn boM m μ → ∀ a b, f_M_slopeX FN μ a b = some (X a b)) (hY : ∀ μ, EqOn boM m μ → ∀ a b, f_M_slopeY FN μ a b = some (Y a b)) (hh : ∀ i, i < P → ft (stM m i) = 0 → ∃ k, k < 36 ∧ hdF (gI m 23 i) (gI m 5 (wh m i)) (gI m 27 i) = nI k) : ∃ m', f_M_moves_l187 FN FN 0 m = f_M_moves_l396 FN FN 0 m' ∧ EqOn boM m m' ∧ (∀ j, j < P → stM m' j = onF (puF (gI m 2 (wh m j)) (gI m 5 (wh m j)) X Y) (stM m j)) ∧ ∀ j, P ≤ j → stM m' j = stM m j := by
  refine stg0 (g := fun j => onF (puF (gI m 2 (wh m j)) (gI m 5 (wh m j)) X Y)) (nx := (f_M_moves_l396 FN FN 0)) h.1 (fun n i μ hi e es => ?_) (fun n μ e => ?_)
  · have hP := h.1
    have h4 : i < 4 := by omega
    have eb : ib (nI i) 4 = true := ib_n h4 (by omega)
    obtain ⟨w1, w2⟩ := (h.cg e.n).2.2 i hi
    have t40 := ht.1
    have ew := wh_cg e.n i
    have ebw : ib (nI (wh μ i)) 40 = true := ib_n (by omega) (by omega)
    have iw : ix (nI (wh μ i)) = wh μ i := ix_n (by omega)
    conv => congr; intro μ'; lhs; lhs; unfold f_M_moves_l187
    rw [(h.cg e.n).2.1, if_neg (P_le hP hi), if_pos eb, ix_n (by omega)]
    unfold f_M_moves_b388
    by_cases c : gI μ 28 i = 0
    · rw [if_neg (not_not_intro c)]
      obtain ⟨k, hk, ek⟩ := hh i hi (by rw [← es]; exact c)
      have e23 : gI μ 23 i = gI m 23 i := congrArg (fun s : SS => s.2.2.2.2.1) es
      have e27 : gI μ 27 i = gI m 27 i := congrArg (fun s : SS => s.2.2.2.2.2.2.1) es
      have e5 : gI μ 5 (wh μ i) = gI m 5 (wh m i) := by rw [ew]; exact (e 5 (wh m i) (by unfold boM; omega)).1
      have e2 : gI μ 2 (wh μ i) = gI m 2 (wh m i) := by rw [ew]; exact (e 2 (wh m i) (by unfold boM; omega)).1
      have ek' := ek
      unfold hdF at ek'
      have ebw2 : ∀ p q, ib (gI (sL (sL μ 24 i p) 25 i q) 20 i) 40 = true := by
        intro p q
        rw [gI_sL, gI_sL, w1]; exact ebw
      have eh : ∀ p q, (((gI (sL (sL μ 24 i p) 25 i q) 23 i) + ((gI (sL (sL μ 24 i p) 25 i q) 5 (ix (gI (sL (sL μ 24 i p) 25 i q) 20 i))) * ((1 : Int32) + (gI (sL (sL μ 24 i p) 25 i q) 27 i)))) + 36) - (((gI (sL (sL μ 24 i p) 25 i q) 23 i) + ((gI (sL (sL μ 24 i p) 25 i q) 5 (ix (gI (sL (sL μ 24 i p) 25 i q) 20 i))) * ((1 : Int32) + (gI (sL (sL μ 24 i p) 25 i q) 27 i)))) + 36) / 36 * 36 = nI k := by
        intro p q
        simp only [gI_sL]
        rw [w1, iw, e23, e27, e5]
        exact ek
      have eg : ∀ μ v, gI (sI μ 23 i v) 23 i = v := fun μ v => by rw [gI_sI, if_pos rfl, if_pos rfl]
      have eg2 : ∀ μ v u, gI (sL (sI μ 23 i v) 24 i u) 23 i = v := fun μ v u => by rw [gI_sL, gI_sI, if_pos rfl, if_pos rfl]
      have o1 : ∀ a, 21 ≤ a → a ≤ 28 → ¬ boM a i := fun a h1 h2 => by unfold boM; omega
      rw [if_pos eb, w1, iw, if_pos ebw, nme, if_pos eb, f65_e, bs, if_pos eb, f65_e, bs, if_pos eb, hX μ e, bs, if_pos eb, nme, if_pos eb]
      rw [hY _ (e.sL (o1 24 (by omega) (by omega))), bs, if_pos eb, nme, g25a_, if_pos eb, if_pos eb, if_pos (ebw2 _ _), if_pos eb, if_pos eb, eh, nme, if_pos eb, if_pos eb, if_pos eb, eg]
      rw [c_e (hC.bo (EqOn.n (((e.sL (o1 24 (by omega) (by omega))).sL (o1 25 (by omega) (by omega))).sI (o1 23 (by omega) (by omega))))) hk, bs, if_pos eb, nme, g24_, g27a_, if_pos eb, if_pos eb, if_pos eb, eg2]
      rw [s_e (hC.bo (EqOn.n ((((e.sL (o1 24 (by omega) (by omega))).sL (o1 25 (by omega) (by omega))).sI (o1 23 (by omega) (by omega))).sL (o1 24 (by omega) (by omega))))) hk, bs, if_pos eb, nme, nme, y_s, g25_, g27b_]
      refine ⟨_, rfl, ((((EqOn.rf.sL (by unfold boM; omega)).sL (by unfold boM; omega)).sI (by unfold boM; omega)).sL (by unfold boM; omega)).sL (by unfold boM; omega), ?_, fun j hj => ?_⟩
      · rw [st5, e2, e27, ← ek, ← cT_n hk, ← sT_n hk, ← ek]
        unfold onF ft
        rw [if_pos (show (stM μ i).2.2.2.2.2.2.2 = 0 from c), es]
        have f1 : gL μ 21 i = gL m 21 i := congrArg (fun s : SS => s.1) es
        have f2 : gL μ 22 i = gL m 22 i := congrArg (fun s : SS => s.2.1) es
        have f3 : gL μ 24 i = gL m 24 i := congrArg (fun s : SS => s.2.2.1) es
        have f4 : gL μ 25 i = gL m 25 i := congrArg (fun s : SS => s.2.2.2.1) es
        have f5 : gI μ 26 i = gI m 26 i := congrArg (fun s : SS => s.2.2.2.2.2.1) es
        have f6 : gI μ 28 i = gI m 28 i := congrArg (fun s : SS => s.2.2.2.2.2.2.2) es
        rw [f1, f2, f3, f4, f5, f6]
        rfl
      · exact st5n _ _ _ _ _ _ _ hj
    · rw [if_pos c]
      simp only [nme, y_s]
      refine ⟨_, rfl, EqOn.rf, ?_, fun j hj => rfl⟩
      unfold onF stM ft
      simp only [if_neg c]
  · conv => lhs; unfold f_M_moves_l187
    rw [(h.cg e.n).2.1, if_pos (P_re h.1)]
/-- one tick's moves of a top -/
def mvF (d w sn r : Int32) (X Y : Int32 → Int32 → Int32) (s : SS) : SS := leF r (moF w (drF (puF w sn X Y (tiF (slF d s)))))
theorem ft_sl (d : Int32) (s : SS) : ft (slF d s) = ft s := rfl
theorem ft_ti (s : SS) : ft (tiF s) = ft s := rfl
theorem ft_pu (w sn : Int32) (X Y : Int32 → Int32 → Int32) (s : SS) : ft (puF w sn X Y s) = ft s := rfl
theorem ft_dr (s : SS) : ft (drF s) = ft s := rfl
theorem ft_mo (w : Int32) (s : SS) : ft (moF w s) = ft s := rfl
def drg (m : Mem) (j : Nat) : Int32 := (1 : Int32) + (gI m 4 (wh m j) + gI m 7 (wh m j)) / 4
theorem moves_e {P t : Nat} {m : Mem} {X Y : Int32 → Int32 → Int32} (h : bWho P t m) (ht : tOK t m) (hC : iCs m) (hX : ∀ μ, EqOn boM m μ → ∀ a b, f_M_slopeX FN μ a b = some (X a b)) (hY : ∀ μ, EqOn boM m μ → ∀ a b, f_M_slopeY FN μ a b = some (Y a b)) (hh : ∀ i, i < P → ft (stM m i) = 0 → ∃ k, k < 36 ∧ hdF (tiF (slF (drg m i) (stM m i))).2.2.2.2.1 (gI m 5 (wh m i)) (tiF (slF (drg m i) (stM m i))).2.2.2.2.2.2.1 = nI k) : ∃ m', f_M_moves FN m = some m' ∧ EqOn boM m m' ∧ (∀ j, j < P → stM m' j = onF (mvF (drg m j) (gI m 2 (wh m j)) (gI m 5 (wh m j)) (gI m 0 9) X Y) (stM m j)) ∧ ∀ j, P ≤ j → stM m' j = stM m j := by
  unfold f_M_moves
  obtain ⟨m1, a1, a2, a3, a4⟩ := mv2 h ht
  obtain ⟨m2, b1, b2, b3, b4⟩ := mv90 (h.cg a2.n) (ht.cg a2.n)
  have ab := a2.tr b2
  obtain ⟨m3, c1, c2, c3, c4⟩ := mv187 (X := X) (Y := Y) (h.cg ab.n) (ht.cg ab.n) (hC.bo ab.n) (fun μ e => hX μ (ab.tr e)) (fun μ e => hY μ (ab.tr e)) (by
    intro i hi hf
    have q : stM m2 i = onF tiF (onF (slF (drg m i)) (stM m i)) := by rw [b3 i hi, a3 i hi]; rfl
    have f0 : ft (stM m i) = 0 := by
      rw [q] at hf
      by_cases z : ft (stM m i) = 0
      · exact z
      · unfold onF at hf
        rw [if_neg z, if_neg z] at hf
        exact hf
    obtain ⟨k, hk, ek⟩ := hh i hi f0
    have q2 : stM m2 i = tiF (slF (drg m i) (stM m i)) := by
      rw [q]; unfold onF; rw [if_pos f0, ft_sl, if_pos f0]
    refine ⟨k, hk, ?_⟩
    rw [← ek, ← q2, wh_cg ab.n, (ab 5 (wh m i) (by unfold boM; omega)).1]
    rfl)
  have ac := ab.tr c2
  obtain ⟨m4, d1, d2, d3, d4⟩ := mv396 (h.cg ac.n) (ht.cg ac.n)
  have ad := ac.tr d2
  obtain ⟨m5, e1, e2, e3, e4⟩ := mv459 (h.cg ad.n) (ht.cg ad.n)
  have ae := ad.tr e2
  obtain ⟨m6, f1, f2, f3, f4⟩ := mv540 (h.cg ae.n)
  refine ⟨m6, by rw [a1, b1, c1, d1, e1, f1], ae.tr f2, fun j hj => ?_, fun j hj => by rw [f4 j hj, e4 j hj, d4 j hj, c4 j hj, b4 j hj, a4 j hj]⟩
  rw [f3 j hj, e3 j hj, d3 j hj, c3 j hj, b3 j hj, a3 j hj, wh_cg ab.n, wh_cg ad.n, (ab 2 (wh m j) (by unfold boM; omega)).1, (ab 5 (wh m j) (by unfold boM; omega)).1, (ad 2 (wh m j) (by unfold boM; omega)).1, (ae 0 9 (by unfold boM; omega)).1]
  unfold onF mvF
  by_cases z : ft (stM m j) = 0
  · simp only [z, ft_sl, ft_ti, ft_pu, ft_dr, ft_mo, if_true]
    rfl
  · simp only [if_neg z]

def boS (b a k : Nat) : Prop := ¬ (b ≤ a ∧ a ≤ b + 3 ∧ 10 ≤ k ∧ k ≤ 17)
def boX (a0 b a k : Nat) : Prop := boS b a k ∧ ¬ (a = a0 ∧ (k = 6 ∨ k = 7))
def hAB (a0 b : Nat) : Prop := (a0 = 5 ∧ b = 10) ∨ (a0 = 14 ∧ b = 19)
theorem sr_b {a0 b i : Nat} (h : hAB a0 b) (hi : i < 4) : srX (srX a0 0) i = b + i := by
  have h4 : i = 0 ∨ i = 1 ∨ i = 2 ∨ i = 3 := by omega
  rcases h with ⟨e1, e2⟩ | ⟨e1, e2⟩ <;> subst e1 <;> subst e2 <;> rcases h4 with e | e | e | e <;> subst e <;> rfl
theorem EqOn.x {a0 b : Nat} {m m' : Mem} (h : EqOn (boS b) m m') : EqOn (boX a0 b) m m' := h.mono (fun a k p => p.1)
theorem stX_cg {a c : Nat} {μ μ' : Mem} (e : EqOn (spK a) μ μ') (hc : c ≠ a) : stX μ' c = stX μ c := by
  have k : ∀ j, spK a c j := fun j => by unfold spK; omega
  unfold stX
  rw [(e c 10 (k _)).2.1, (e c 11 (k _)).2.1, (e c 12 (k _)).2.1, (e c 13 (k _)).2.1, (e c 14 (k _)).1, (e c 15 (k _)).1, (e c 16 (k _)).1, (e c 17 (k _)).1]
theorem tl_b {B S : Int} {d : Int32} {s : SS} (h : bG B S 8 s) : 0 ≤ (tiF (slF d s)).2.2.2.2.2.2.1.toInt ∧ (tiF (slF d s)).2.2.2.2.2.2.1.toInt ≤ 9 := by
  obtain ⟨x, y, p, q, hh, s, l, f⟩ := s
  obtain ⟨_, _, _, _, _, _, hl⟩ := h
  exact l1_b (L := 8) (by omega) hl
theorem iDen.sp {x m x' : Mem} {a : Nat} (ha : 10 ≤ a ∧ a ≤ 22) (h : iDen x m) (e : EqOn (spK a) x x') : iDen x' m := h.cg (e.mono (fun b k p => by unfold pDen at p; unfold spK; omega)) EqOn.rf
theorem sp_step {x m : Mem} {a : Nat} {d w sn : Int32} {S : Int} (ha : 10 ≤ a ∧ a ≤ 22) (hD : iDen x m) (h9 : gI x a 9 = d) (h6 : gI x a 6 = w) (h8 : gI x a 8 = sn) (hd : 0 ≤ d.toInt ∧ d.toInt ≤ 5) (hw : 1 ≤ w.toInt ∧ w.toInt ≤ 50) (hsn : sn = 1 ∨ sn = -1) (hb : bG 798924800 S 8 (stX x a)) : ∃ x', (∀ k : Mem → Option Mem, Option.bind (f_Sp_slow x a) (fun μ3 => Option.bind (f_Sp_tilt μ3 a) (fun μ4 => Option.bind (f_Sp_push μ4 a) (fun μ5 => Option.bind (f_Sp_move μ5 a) (fun μ6 => Option.bind (f_Sp_leave μ6 a (gI μ6 2 0)) k)))) = k x') ∧ stX x' a = mvF d w sn (gI x 2 0) (slX m) (slY m) (stX x a) ∧ EqOn (spK a) x x' := by
  have o1 : ∀ j, j < 10 → spK a a j := fun j h1 => by unfold spK; omega
  have o2 : spK a 2 0 := by unfold spK; omega
  have hb' := hb
  obtain ⟨hx, hy, hp, hq, hhd, hs, hl⟩ := hb
  obtain ⟨x1, a1, a2, a3⟩ := sp_slow h9 hd hs.1 ⟨hl.1, by have := hl.2; show (stX x a).2.2.2.2.2.2.1.toInt ≤ 9; omega⟩
  have l1 : gI x1 a 16 = gI x a 16 := congrArg (fun s : SS => s.2.2.2.2.2.2.1) a2
  obtain ⟨x2, b1, b2, b3⟩ := sp_tilt (x := x1) (a := a) (by rw [l1]; exact ⟨hl.1, by have := hl.2; show (stX x a).2.2.2.2.2.2.1.toInt ≤ 9; omega⟩)
  rw [a2] at b2
  have ab := a3.tr b3
  have l2 : gI x2 a 16 = (tiF (slF d (stX x a))).2.2.2.2.2.2.1 := congrArg (fun s : SS => s.2.2.2.2.2.2.1) b2
  have x2x : gL x2 a 10 = gL x a 10 := congrArg (fun s : SS => s.1) b2
  have x2y : gL x2 a 11 = gL x a 11 := congrArg (fun s : SS => s.2.1) b2
  have x2h : gI x2 a 14 = gI x a 14 := congrArg (fun s : SS => s.2.2.2.2.1) b2
  obtain ⟨x3, c1, c2, c3⟩ := sp_push (x := x2) (a := a) (w := w) (sn := sn) (X := slX m) (Y := slY m) (by rw [(ab a 6 (o1 6 (by omega))).1]; exact h6) (by rw [(ab a 8 (o1 8 (by omega))).1]; exact h8) hsn (by rw [x2x]; exact hx) (by rw [x2y]; exact hy) (by rw [x2h]; exact hhd) (by rw [l2]; exact tl_b hb') (fun μ e p q => (slX_e (hD.sp ha (ab.tr e)) p q).1) (fun μ e p q => (slY_e (hD.sp ha (ab.tr e)) p q).1)
  rw [b2] at c2
  have ac := ab.tr c3
  obtain ⟨x4, d1, d2, d3⟩ := sp_move (x := x3) (a := a) (w := w) (by rw [(ac a 6 (o1 6 (by omega))).1]; exact h6) hw.1
  rw [c2] at d2
  have ad := ac.tr d3
  obtain ⟨x5, e1, e2, e3⟩ := sp_leave (x := x4) (a := a) (gI x4 2 0)
  rw [d2, (ad 2 0 o2).1] at e2
  refine ⟨x5, fun k => ?_, e2, ad.tr e3⟩
  rw [a1, bs, b1, bs, c1, bs, d1, bs, e1, bs]
theorem at_b {a0 b P i : Nat} {x : Mem} (hab : hAB a0 b) (hP : P ≤ 4) (hsz : gI x a0 1 = nI P) (hi : i < P) : f_Bt_at x a0 (nI i) = some (some (b + i)) := at_s hP hsz hi (sr_b hab (by omega))
theorem l8_l {a0 b P : Nat} {x m : Mem} {S : Int} {rg : Int32} (hab : hAB a0 b) (hP : P ≤ 4) (hsz : gI x a0 1 = nI P) (hD : iDen x m) (hst : ∀ j, j < P → (0 ≤ (gI x (b + j) 9).toInt ∧ (gI x (b + j) 9).toInt ≤ 5) ∧ (1 ≤ (gI x (b + j) 6).toInt ∧ (gI x (b + j) 6).toInt ≤ 50) ∧ (gI x (b + j) 8 = 1 ∨ gI x (b + j) 8 = -1)) (hb : ∀ j, j < P → ft (stX x (b + j)) = 0 → bG 798924800 S 8 (stX x (b + j))) : ∀ dd n i μ, i + dd = P → dd < n → EqOn (boS b) x μ → (∀ j, i ≤ j → j < P → stX μ (b + j) = stX x (b + j)) → (∀ j, j < i → stX μ (b + j) = onF (mvF (gI x (b + j) 9) (gI x (b + j) 6) (gI x (b + j) 8) (gI x 2 0) (slX m) (slY m)) (stX x (b + j))) → ∃ x', f_Bt_step_l8 FN n a0 rg (nI i) μ = f_Bt_step_l77 FN FN a0 rg 0 x' ∧ EqOn (boS b) x x' ∧ ∀ j, j < P → stX x' (b + j) = onF (mvF (gI x (b + j) 9) (gI x (b + j) 6) (gI x (b + j) 8) (gI x 2 0) (slX m) (slY m)) (stX x (b + j)) := by
  intro dd
  have hbr : 10 ≤ b ∧ b ≤ 19 ∧ (a0 < b) ∧ a0 ≠ 2 := by unfold hAB at hab; omega
  induction dd with
  | zero =>
    intro n i μ h1 h2 h3 h4 h5
    obtain ⟨n', rfl⟩ : ∃ n', n = n' + 1 := ⟨n - 1, by omega⟩
    have hi : i = P := by omega
    subst hi
    conv => congr; intro x'; lhs; lhs; unfold f_Bt_step_l8
    rw [(h3 a0 1 (by unfold boS; omega)).1, hsz, if_pos (P_re hP)]
    exact ⟨μ, rfl, h3, h5⟩
  | succ dd ih =>
    intro n i μ h1 h2 h3 h4 h5
    obtain ⟨n', rfl⟩ : ∃ n', n = n' + 1 := ⟨n - 1, by omega⟩
    have hi : i < P := by omega
    have h4i := h4 i (by omega) hi
    conv => congr; intro x'; lhs; lhs; unfold f_Bt_step_l8
    rw [(h3 a0 1 (by unfold boS; omega)).1, hsz, if_neg (P_le hP hi), at_b hab hP (show gI μ a0 1 = nI P by rw [(h3 a0 1 (by unfold boS; omega)).1]; exact hsz) hi, bs]
    dsimp only
    unfold f_Sp_stands f_Bt_step_b68
    by_cases c : gI μ (b + i) 17 = 0
    · rw [if_neg (not_not_intro c), bs, if_neg (by decide)]
      have c' : ft (stX x (b + i)) = 0 := by rw [← h4i]; exact c
      have hD' : iDen μ m := hD.cg (h3.mono (fun a k p => by unfold pDen at p; unfold boS; omega)) EqOn.rf
      have eo : ∀ k, k < 10 → gI μ (b + i) k = gI x (b + i) k := fun k hk => (h3 (b + i) k (by unfold boS; omega)).1
      obtain ⟨s1, s2, s3⟩ := hst i hi
      obtain ⟨x', p1, p2, p3⟩ := sp_step (x := μ) (a := b + i) (m := m) (S := S) ⟨by omega, by omega⟩ hD' (eo 9 (by omega)) (eo 6 (by omega)) (eo 8 (by omega)) s1 s2 s3 (by rw [h4i]; exact hb i hi c')
      rw [p1, nme, y_s]
      have e' : EqOn (boS b) μ x' := p3.mono (fun a k p => by unfold boS at p; unfold spK; omega)
      refine ih n' (i + 1) x' (by omega) (by omega) (h3.tr e') (fun j hj hj2 => ?_) (fun j hj => ?_)
      · rw [stX_cg p3 (by omega)]; exact h4 j (by omega) hj2
      · by_cases q : j = i
        · subst q
          rw [p2, h4i]
          unfold onF
          rw [if_pos c', (h3 2 0 (by unfold boS; omega)).1]
        · rw [stX_cg p3 (by omega)]; exact h5 j (by omega)
    · rw [if_pos c, bs, if_pos rfl, nme, y_s]
      refine ih n' (i + 1) μ (by omega) (by omega) h3 (fun j hj hj2 => h4 j (by omega) hj2) (fun j hj => ?_)
      by_cases q : j = i
      · subst q
        rw [h4i]
        unfold onF
        rw [if_neg (by rw [← h4i]; exact c)]
      · exact h5 j (by omega)
def fr (z : Prop) (f g : Int32) : Prop := (f = g ∧ (z → f ≠ 3)) ∨ (z ∧ f = 2 ∧ g = 3)
/-- the same top on both sides; where no ring counts, one fallen in a ring of nothing may be told apart -/
def rS (z : Prop) (s u : SS) : Prop := s.1 = u.1 ∧ s.2.1 = u.2.1 ∧ s.2.2.1 = u.2.2.1 ∧ s.2.2.2.1 = u.2.2.2.1 ∧ s.2.2.2.2.1 = u.2.2.2.2.1 ∧ s.2.2.2.2.2.1 = u.2.2.2.2.2.1 ∧ s.2.2.2.2.2.2.1 = u.2.2.2.2.2.2.1 ∧ fr z (ft s) (ft u)
theorem fr.z {z : Prop} {f g : Int32} (h : fr z f g) : f = 0 ↔ g = 0 := by
  rcases h with ⟨e, _⟩ | ⟨_, e1, e2⟩
  · rw [e]
  · rw [e1, e2]; decide
theorem rS.st {z : Prop} {s u : SS} (h : rS z s u) (h0 : ft s = 0) : s = u := by
  obtain ⟨x, y, p, q, hh, s, l, f⟩ := s
  obtain ⟨x', y', p', q', hh', s', l', f'⟩ := u
  obtain ⟨e1, e2, e3, e4, e5, e6, e7, e8⟩ := h
  have e9 := (e8.z).mp h0
  have h0' : f = 0 := h0
  have e9' : f' = 0 := e9
  simp only at e1 e2 e3 e4 e5 e6 e7
  rw [e1, e2, e3, e4, e5, e6, e7, h0', e9']
theorem rS.f0 {z : Prop} {s u : SS} (h : rS z s u) : ft s = 0 ↔ ft u = 0 := h.2.2.2.2.2.2.2.z
theorem rS.rf {z : Prop} {s : SS} (h : ft s ≠ 3) : rS z s s := ⟨rfl, rfl, rfl, rfl, rfl, rfl, rfl, Or.inl ⟨rfl, fun _ => h⟩⟩
theorem ft_le {r : Int32} {s : SS} (h : ft s = 0) : ft (leF r s) = 0 ∨ ft (leF r s) = 1 := by
  obtain ⟨x, y, p, q, hh, s, l, f⟩ := s
  have h' : f = 0 := h
  subst h'
  unfold leF ft
  simp only
  split
  · exact Or.inl rfl
  · exact Or.inr rfl
theorem ft_mv {d w sn r : Int32} {X Y : Int32 → Int32 → Int32} {s : SS} (h : ft s = 0) : ft (mvF d w sn r X Y s) = 0 ∨ ft (mvF d w sn r X Y s) = 1 := by
  unfold mvF
  exact ft_le (by rw [ft_mo, ft_dr, ft_pu, ft_ti, ft_sl]; exact h)
/-- the two bouts' fixed things -/
def bRel (a0 b P t : Nat) (x m : Mem) : Prop := bWho P t m ∧ gI x a0 1 = nI P ∧ ∀ i, i < P → gI x (b + i) 6 = gI m 2 (wh m i) ∧ gI x (b + i) 7 = gI m 3 (wh m i) ∧ gI x (b + i) 8 = gI m 5 (wh m i) ∧ gI x (b + i) 9 = drg m i
theorem drg_cg {m m' : Mem} (e : EqOn boN m m') (i : Nat) : drg m' i = drg m i := by
  unfold drg
  rw [wh_cg e, (e 4 _ (by unfold boN; omega)).1, (e 7 _ (by unfold boN; omega)).1]
theorem bRel.cg {a0 b P t : Nat} {x m x' m' : Mem} (hab : hAB a0 b) (h : bRel a0 b P t x m) (e1 : EqOn (boX a0 b) x x') (e2 : EqOn boN m m') : bRel a0 b P t x' m' := by
  have hbr : 10 ≤ b ∧ b ≤ 19 ∧ (a0 < b) ∧ a0 ≠ 2 := by unfold hAB at hab; omega
  obtain ⟨h1, h2, h3⟩ := h
  refine ⟨h1.cg e2, by rw [(e1 a0 1 (by unfold boX boS; omega)).1]; exact h2, fun i hi => ?_⟩
  have h4 := h1.1
  have eo : ∀ k, k < 10 → gI x' (b + i) k = gI x (b + i) k := fun k hk => (e1 (b + i) k (by unfold boX boS; omega)).1
  rw [eo 6 (by omega), eo 7 (by omega), eo 8 (by omega), eo 9 (by omega), wh_cg e2, drg_cg e2, (e2 2 _ (by unfold boN; omega)).1, (e2 3 _ (by unfold boN; omega)).1, (e2 5 _ (by unfold boN; omega)).1]
  exact h3 i hi
theorem drg_b {t P i : Nat} {m : Mem} (h : tOK t m) (hw : bWho P t m) (hi : i < P) : 0 ≤ (drg m i).toInt ∧ (drg m i).toInt ≤ 5 := by
  obtain ⟨_, _, h3, _, _, h7⟩ := h.2 (wh m i) ((hw.2.2 i hi).2)
  unfold drg
  have e1 : (gI m 4 (wh m i) + gI m 7 (wh m i)).toInt = (gI m 4 (wh m i)).toInt + (gI m 7 (wh m i)).toInt := a32 (by unfold bt at *; omega) (by unfold bt at *; omega)
  have e2 : ((gI m 4 (wh m i) + gI m 7 (wh m i)) / 4).toInt = ((gI m 4 (wh m i)).toInt + (gI m 7 (wh m i)).toInt) / 4 := by
    rw [d32 (by decide), e1, show (4 : Int32).toInt = 4 from rfl, Int.tdiv_eq_ediv_of_nonneg (by unfold bt at *; omega)]
  unfold bt at *
  rw [a32, e2, show (1 : Int32).toInt = 1 from rfl] <;> (try rw [e2, show (1 : Int32).toInt = 1 from rfl]) <;> omega
/-- the bouts' states on both sides, with the bounds of those that stand -/
def bSt (b P : Nat) (z : Prop) (B S L : Int) (x m : Mem) : Prop := ∀ i, i < P → rS z (stX x (b + i)) (stM m i) ∧ (ft (stM m i) = 0 → bG B S L (stM m i))
theorem moves_j {a0 b P t : Nat} {x m : Mem} {S : Int} {z : Prop} {rg : Int32} (hab : hAB a0 b) (hR : bRel a0 b P t x m) (ht : tOK t m) (hC : iCs m) (hD : iDen x m) (hB : iBow x m) (hS : bSt b P z 798924800 S 8 x m) : ∃ x' m', f_Bt_step_l8 FN FN a0 rg 0 x = f_Bt_step_l77 FN FN a0 rg 0 x' ∧ f_M_moves FN m = some m' ∧ EqOn (boS b) x x' ∧ EqOn boM m m' ∧ bSt b P z 195050 S 9 x' m' := by
  obtain ⟨hW, hsz, hF⟩ := hR
  have hP := hW.1
  have hst : ∀ j, j < P → (0 ≤ (gI x (b + j) 9).toInt ∧ (gI x (b + j) 9).toInt ≤ 5) ∧ (1 ≤ (gI x (b + j) 6).toInt ∧ (gI x (b + j) 6).toInt ≤ 50) ∧ (gI x (b + j) 8 = 1 ∨ gI x (b + j) 8 = -1) := by
    intro j hj
    obtain ⟨f1, f2, f3, f4⟩ := hF j hj
    obtain ⟨q1, _, _, q4, _⟩ := ht.2 (wh m j) ((hW.2.2 j hj).2)
    rw [f1, f3, f4]
    exact ⟨drg_b ht hW hj, q1, q4⟩
  have eqs : ∀ j, j < P → ft (stM m j) = 0 → stX x (b + j) = stM m j := fun j hj h0 => (hS j hj).1.st ((hS j hj).1.f0.mpr h0)
  obtain ⟨x', p1, p2, p3⟩ := l8_l (rg := rg) (S := S) hab hP hsz hD hst (fun j hj h0 => by
    have h0' := (hS j hj).1.f0.mp h0
    rw [eqs j hj h0']
    exact (hS j hj).2 h0') P FN 0 x (by omega) (FN_lt (by omega)) EqOn.rf (fun _ _ _ => rfl) (fun j hj => absurd hj (by omega))
  obtain ⟨m', q1, q2, q3, q4⟩ := moves_e (X := slX m) (Y := slY m) hW ht hC (fun μ e a b => by
    have hD' : iDen x μ := hD.cg EqOn.rf (e.mono (fun a k p => by unfold qDen at p; unfold boM; omega))
    rw [(slX_e hD' a b).2, ← (slX_e hD' a b).1, (slX_e hD a b).1]) (fun μ e a b => by
    have hD' : iDen x μ := hD.cg EqOn.rf (e.mono (fun a k p => by unfold qDen at p; unfold boM; omega))
    rw [(slY_e hD' a b).2, ← (slY_e hD' a b).1, (slY_e hD a b).1]) (fun i hi h0 => by
    have hg := (hS i hi).2 h0
    have hh := hg.2.2.2.2.1
    obtain ⟨_, _, _, q4, _⟩ := ht.2 (wh m i) ((hW.2.2 i hi).2)
    exact (hm_e (h := (tiF (slF (drg m i) (stM m i))).2.2.2.2.1) hh (tl_b hg) q4).2)
  refine ⟨x', m', p1, q1, p2, q2, fun i hi => ?_⟩
  obtain ⟨f1, f2, f3, f4⟩ := hF i hi
  rw [p3 i hi, q3 i hi, f1, f3, f4, hB.1]
  by_cases c : ft (stM m i) = 0
  · rw [eqs i hi c]
    unfold onF
    rw [if_pos c]
    refine ⟨rS.rf ?_, fun h0 => ?_⟩
    · rcases ft_mv (d := drg m i) (w := gI m 2 (wh m i)) (sn := gI m 5 (wh m i)) (r := gI m 0 9) (X := slX m) (Y := slY m) c with e | e <;> rw [e] <;> decide
    · obtain ⟨q1, _, _, q4, _⟩ := ht.2 (wh m i) ((hW.2.2 i hi).2)
      exact mv_b (drg_b ht hW hi) q1 q4 ⟨by have := hB.2.2.1.1; omega, hB.2.2.1.2⟩ (slX_b hD) (slY_b hD) ((hS i hi).2 c) h0
  · have c' : ¬ ft (stX x (b + i)) = 0 := fun h => c ((hS i hi).1.f0.mp h)
    unfold onF
    rw [if_neg c, if_neg c']
    exact ⟨(hS i hi).1, fun h0 => absurd h0 c⟩

def bbX (b a k : Nat) : Prop := ¬ (b ≤ a ∧ a ≤ b + 3 ∧ 6 ≤ k ∧ k ≤ 17)
def bbM (a _k : Nat) : Prop := ¬ (20 ≤ a ∧ a ≤ 28)
def rfB (J : Nat → Nat) (cx cy hh tu : Nat → Int32) : Nat → Nat → Mem → Option Mem
  | _, 0, m => some m
  | i, d + 1, m => Option.bind (f_M_begins m (nI i) (nI (J i)) (cx i) (cy i) (hh i) (tu i)) (fun m' => rfB J cx cy hh tu (i + 1) d m')
def rfK (J : Nat → Nat) (cx cy hh tu : Nat → Int32) : Nat → Nat → Mem → Prop
  | _, 0, _ => True
  | i, d + 1, m => ∃ m', f_M_begins m (nI i) (nI (J i)) (cx i) (cy i) (hh i) (tu i) = some m' ∧ EqOn bbM m m' ∧ rfK J cx cy hh tu (i + 1) d m'
def bDone (b k j : Nat) (m0 x m : Mem) : Prop := ∃ s, stX x (b + k) = s ∧ stM m k = s ∧ ft s = 0 ∧ bG 798924800 1000 8 s ∧ gI x (b + k) 6 = gI m0 2 j ∧ gI x (b + k) 7 = gI m0 3 j ∧ gI x (b + k) 8 = gI m0 5 j ∧ gI x (b + k) 9 = (1 : Int32) + (gI m0 4 j + gI m0 7 j) / 4 ∧ gI m 20 k = nI j
theorem begins_j {a0 b P t : Nat} {x0 m0 : Mem} {J : Nat → Nat} {cx cy hh tu : Nat → Int32} (hab : hAB a0 b) (hP : P ≤ 4) (hsz : gI x0 a0 1 = nI P) (hT : iTop t x0 m0) (hC : iCs m0) (hSt : iStr x0 m0) (hA : ∀ k, k < P → J k < t ∧ gR x0 (b + k) 0 = some (56 + J k) ∧ gI x0 (b + k) 2 = cx k ∧ gI x0 (b + k) 3 = cy k ∧ gI x0 (b + k) 4 = hh k ∧ gI x0 (b + k) 5 = tu k ∧ bt (cx k) (-30) 30 ∧ bt (cy k) (-30) 30 ∧ bt (hh k) 0 35 ∧ bt (tu k) 1 60) : ∀ d n i x m, i + d = P → d < n → EqOn (bbX b) x0 x → EqOn bbM m0 m → (∀ k, k < i → bDone b k (J k) m0 x m) → ∃ x' m', f_Bt_begin_l12 FN n a0 (nI i) x = some x' ∧ rfB J cx cy hh tu i d m = some m' ∧ EqOn (bbX b) x0 x' ∧ EqOn bbM m0 m' ∧ (∀ k, k < P → bDone b k (J k) m0 x' m') ∧ rfK J cx cy hh tu i d m := by
  have hbr : 10 ≤ b ∧ b ≤ 19 ∧ (a0 < b) ∧ a0 ≠ 2 ∧ a0 ≠ 3 ∧ 4 < a0 := by unfold hAB at hab; omega
  intro d
  induction d with
  | zero =>
    intro n i x m h1 h2 h3 h4 h5
    obtain ⟨n', rfl⟩ : ∃ n', n = n' + 1 := ⟨n - 1, by omega⟩
    have hi : i = P := by omega
    subst hi
    refine ⟨x, m, ?_, rfl, h3, h4, h5, trivial⟩
    unfold f_Bt_begin_l12
    rw [(h3 a0 1 (by unfold bbX; omega)).1, hsz, if_pos (P_re hP)]
  | succ d ih =>
    intro n i x m h1 h2 h3 h4 h5
    obtain ⟨n', rfl⟩ : ∃ n', n = n' + 1 := ⟨n - 1, by omega⟩
    have hi : i < P := by omega
    obtain ⟨g1, g2, g3, g4, g5, g6, g7, g8, g9, g10⟩ := hA i hi
    have hT' : iTop t x m := hT.cg (h3.mono (fun a k p => by unfold pTop at p; unfold bbX; omega)) (h4.mono (fun a k p => by unfold qTop at p; unfold bbM; omega))
    have hC' : iCs m := hC.cg (h4.mono (fun a k p => by unfold qCs at p; unfold bbM; omega))
    have hSt' : iStr x m := hSt.cg (h3.mono (fun a k p => by unfold pStr at p; unfold bbX; omega)) (h4.mono (fun a k p => by unfold qStr at p; unfold bbM; omega))
    have er : gR x (b + i) 0 = some (56 + J i) := by rw [(h3 (b + i) 0 (by unfold bbX; omega)).2.2]; exact g2
    obtain ⟨x1, m1, s, o, ho, eo, q1, q2, q3, q4, q5, q6, q7, q8, q9, q10, q11, q12, q13⟩ := begin1 (b := b) (i := i) ⟨by omega, by omega⟩ (by omega) hT' hC' hSt' g1 er (by rw [(h3 (b + i) 2 (by unfold bbX; omega)).1]; exact g3) (by rw [(h3 (b + i) 3 (by unfold bbX; omega)).1]; exact g4) (by rw [(h3 (b + i) 4 (by unfold bbX; omega)).1]; exact g5) (by rw [(h3 (b + i) 5 (by unfold bbX; omega)).1]; exact g6) g7 g8 g9 g10
    have eX : f_Bt_begin_l12 FN (n' + 1) a0 (nI i) x = f_Bt_begin_l12 FN n' a0 (nI (i + 1)) x1 := by
      conv => lhs; unfold f_Bt_begin_l12
      unfold f_Bt_begin_b57 f_Bt_begin_b60 f_Sp_owner
      rw [(h3 a0 1 (by unfold bbX; omega)).1, hsz, if_neg (P_le hP hi), at_b hab hP (show gI x a0 1 = nI P by rw [(h3 a0 1 (by unfold bbX; omega)).1]; exact hsz) hi, bs]
      simp only [nme, er, eo, bs]
      rw [if_neg (show ¬ nI o < 0 by show ¬ nI o < nI 0; rw [y_lt (by omega) (by omega)]; omega), if_neg (show ¬ Int32.ofNat 8 ≤ nI o by show ¬ nI 8 ≤ nI o; rw [y_le (by omega) (by omega)]; omega), if_pos (ib_n ho (by omega)), ix_n (by omega), q1, bs, y_s]
    have eM : rfB J cx cy hh tu i (d + 1) m = rfB J cx cy hh tu (i + 1) d m1 := by
      conv => lhs; unfold rfB
      rw [q2, bs]
    rw [eX, eM]
    have m0e : ∀ a k, 1 ≤ a → a ≤ 8 → gI m a k = gI m0 a k := fun a k h1 h2 => (h4 a k (by unfold bbM; omega)).1
    have fr1 : EqOn bbM m m1 := q13.mono (fun a k p => by unfold bbM at p; unfold bgM; omega)
    suffices hk : ∀ k, k < i + 1 → bDone b k (J k) m0 x1 m1 by
      obtain ⟨x', m', u1, u2, u3, u4, u5, u6⟩ := ih n' (i + 1) x1 m1 (by omega) (by omega) (h3.tr (q12.mono (fun a k p => by unfold bbX at p; unfold bgX; omega))) (h4.tr fr1) hk
      exact ⟨x', m', u1, u2, u3, u4, u5, m1, q2, fr1, u6⟩
    intro k hk
    by_cases c : k = i
    · subst c
      exact ⟨s, q3, q4, q5, q6, by rw [q7]; exact m0e _ _ (by omega) (by omega), by rw [q8]; exact m0e _ _ (by omega) (by omega), by rw [q9]; exact m0e _ _ (by omega) (by omega), by rw [q10, m0e 4 _ (by omega) (by omega), m0e 7 _ (by omega) (by omega)], q11⟩
    · obtain ⟨s', r1, r2, r3, r4, r5, r6, r7, r8, r9⟩ := h5 k (by omega)
      have ox : ∀ j, bgX (b + i) (b + k) j := fun j => by unfold bgX; omega
      have om : ∀ a, bgM i a k := fun a => by unfold bgM; omega
      refine ⟨s', ?_, ?_, r3, r4, by rw [(q12 _ 6 (ox _)).1]; exact r5, by rw [(q12 _ 7 (ox _)).1]; exact r6, by rw [(q12 _ 8 (ox _)).1]; exact r7, by rw [(q12 _ 9 (ox _)).1]; exact r8, by rw [(q13 20 k (om _)).1]; exact r9⟩
      · rw [← r1]
        unfold stX
        rw [(q12 _ 10 (ox _)).2.1, (q12 _ 11 (ox _)).2.1, (q12 _ 12 (ox _)).2.1, (q12 _ 13 (ox _)).2.1, (q12 _ 14 (ox _)).1, (q12 _ 15 (ox _)).1, (q12 _ 16 (ox _)).1, (q12 _ 17 (ox _)).1]
      · rw [← r2]
        unfold stM
        rw [(q13 21 k (om _)).2.1, (q13 22 k (om _)).2.1, (q13 24 k (om _)).2.1, (q13 25 k (om _)).2.1, (q13 23 k (om _)).1, (q13 26 k (om _)).1, (q13 27 k (om _)).1, (q13 28 k (om _)).1]
/-- all that a bout may leave changed -/
def fbX (a0 b a k : Nat) : Prop := bbX b a k ∧ ¬ (a = a0 ∧ (k = 6 ∨ k = 7))
def fbM (a k : Nat) : Prop := ¬ (20 ≤ a ∧ a ≤ 28) ∧ ¬ (a = 0 ∧ (k = 25 ∨ k = 35 ∨ k = 36))
/-- from the tops put to the tops run -/
theorem run_j {a0 b P t w last : Nat} {x0 m0 : Mem} {J : Nat → Nat} {cx cy hh tu : Nat → Int32} {fl rg rg' : Int32} {z : Prop} (hab : hAB a0 b) (hz : hRg z rg rg') (hlast : last ≤ 400) (hP : P ≤ 4) (hsz : gI x0 a0 1 = nI P) (hsm : gI m0 0 25 = nI P) (hT : iTop t x0 m0) (hC : iCs m0) (hSt : iStr x0 m0) (hD : iDen x0 m0) (hB : iBow x0 m0) (hW : hWh a0 w fl x0 m0) (hA : ∀ k, k < P → J k < t ∧ gR x0 (b + k) 0 = some (56 + J k) ∧ gI x0 (b + k) 2 = cx k ∧ gI x0 (b + k) 3 = cy k ∧ gI x0 (b + k) 4 = hh k ∧ gI x0 (b + k) 5 = tu k ∧ bt (cx k) (-30) 30 ∧ bt (cy k) (-30) 30 ∧ bt (hh k) 0 35 ∧ bt (tu k) 1 60) : ∃ r m1 x' m', f_Bt_spinUntil FN x0 a0 rg (nI last) = some (r, x') ∧ rfB J cx cy hh tu 0 P m0 = some m1 ∧ rfK J cx cy hh tu 0 P m0 ∧ EqOn bbM m0 m1 ∧ f_M_runsTo FN m1 (nI last) rg' fl = some (r, m') ∧ gI x' a0 6 = gI m' 0 35 ∧ gI x' a0 7 = gI m' 0 36 ∧ bRel a0 b P t x' m' ∧ bSt b P z 798924800 1000000 8 x' m' ∧ EqOn (fbX a0 b) x0 x' ∧ EqOn fbM m0 m' := by
  have hbr : 10 ≤ b ∧ b ≤ 19 ∧ (a0 < b) ∧ a0 ≠ 2 ∧ a0 ≠ 3 ∧ 4 < a0 := by unfold hAB at hab; omega
  have f0 : ∀ {P : Nat → Nat → Prop}, (∀ k, k = 6 ∨ k = 7 → ¬ P a0 k) → EqOn P x0 (sI (sI x0 a0 6 0) a0 7 0) := fun h => (EqOn.rf.sI (h 6 (Or.inl rfl))).sI (h 7 (Or.inr rfl))
  obtain ⟨x1, m1, q1, q2, q3, q4, q5, q6⟩ := begins_j (x0 := sI (sI x0 a0 6 0) a0 7 0) hab hP (by rw [(f0 (P := fun a k => ¬ (a = a0 ∧ (k = 6 ∨ k = 7))) (fun k h => by omega) a0 1 (by omega)).1]; exact hsz) (hT.cg (f0 (fun k h => by unfold pTop; omega)) EqOn.rf) hC (hSt.cg (f0 (fun k h => by unfold pStr; omega)) EqOn.rf) (fun k hk => by
    have e := f0 (P := fun a k => ¬ (a = a0 ∧ (k = 6 ∨ k = 7))) (fun k h => by omega)
    rw [(e (b + k) 0 (by omega)).2.2, (e (b + k) 2 (by omega)).1, (e (b + k) 3 (by omega)).1, (e (b + k) 4 (by omega)).1, (e (b + k) 5 (by omega)).1]
    exact hA k hk) P FN 0 (sI (sI x0 a0 6 0) a0 7 0) m0 (by omega) (FN_lt (by omega)) EqOn.rf EqOn.rf (fun k hk => absurd hk (by omega))
  have ex1 : EqOn (fbX a0 b) x0 x1 := (f0 (fun k h => by unfold fbX; omega)).tr (q3.mono (fun a k p => p.1))
  have c6 : gI x1 a0 6 = 0 ∧ gI x1 a0 7 = 0 := by
    rw [(q3 a0 6 (by unfold bbX; omega)).1, (q3 a0 7 (by unfold bbX; omega)).1]
    simp only [gI_sI, reduceIte, Nat.reduceEqDiff, and_self]
  have em1 : EqOn fbM m0 (sI (sI m1 0 35 0) 0 36 0) := ((q4.mono (fun a k p => by unfold fbM at p; unfold bbM; exact p.1)).sI (by unfold fbM; omega)).sI (by unfold fbM; omega)
  have cm : gI (sI (sI m1 0 35 0) 0 36 0) 0 35 = 0 ∧ gI (sI (sI m1 0 35 0) 0 36 0) 0 36 = 0 := ⟨rfl, rfl⟩
  have sm : ∀ k, stM (sI (sI m1 0 35 0) 0 36 0) k = stM m1 k := fun k => by rw [yI0, yI0]
  have em20 : ∀ k, gI (sI (sI m1 0 35 0) 0 36 0) 20 k = gI m1 20 k := fun k => rfl
  have em25 : gI (sI (sI m1 0 35 0) 0 36 0) 0 25 = nI P := by
    show gI m1 0 25 = nI P
    rw [(q4 0 25 (by unfold bbM; omega)).1]; exact hsm
  have eR : f_M_runsTo FN m1 (nI last) rg' fl = f_M_runsTo_l13 FN FN (nI last) rg' fl 0 (sI (sI m1 0 35 0) 0 36 0) := by
    unfold f_M_runsTo
    rw [nme, nme]
  generalize hm2 : (sI (sI m1 0 35 0) 0 36 0) = m2 at em1 cm sm em20 em25 eR
  have t40 := hT.1
  have mt : ∀ a k, 1 ≤ a → a ≤ 19 → gI m2 a k = gI m0 a k := fun a k h1 h2 => (em1 a k (by unfold fbM; omega)).1
  have who : ∀ k, k < P → gI m2 20 k = nI (J k) ∧ wh m2 k = J k := fun k hk => by
    obtain ⟨s', r1, r2, r3, r4, r5, r6, r7, r8, r9⟩ := q5 k hk
    have := (hA k hk).1
    have e : gI m2 20 k = nI (J k) := by rw [em20]; exact r9
    exact ⟨e, by unfold wh; rw [e, ix_n (by omega)]⟩
  have hR : bRel a0 b P t x1 m2 := by
    refine ⟨⟨hP, em25, fun k hk => ?_⟩, ?_, fun k hk => ?_⟩
    · rw [(who k hk).2]; exact ⟨(who k hk).1, (hA k hk).1⟩
    · rw [(ex1 a0 1 (by unfold fbX bbX; omega)).1]; exact hsz
    · obtain ⟨s', r1, r2, r3, r4, r5, r6, r7, r8, r9⟩ := q5 k hk
      unfold drg
      rw [(who k hk).2, mt 2 _ (by omega) (by omega), mt 3 _ (by omega) (by omega), mt 5 _ (by omega) (by omega), mt 4 _ (by omega) (by omega), mt 7 _ (by omega) (by omega)]
      exact ⟨r5, r6, r7, r8⟩
  have hT1 : iTop t x1 m2 := hT.cg (ex1.mono (fun a k p => by unfold pTop at p; unfold fbX bbX; omega)) (em1.mono (fun a k p => by unfold qTop at p; unfold fbM; omega))
  have hCx : bCx a0 b P t w fl x1 m2 := by
    refine ⟨hR, hT1.ok, hC.cg (em1.mono (fun a k p => by unfold qCs at p; unfold fbM; omega)), hD.cg (ex1.mono (fun a k p => by unfold pDen at p; unfold fbX bbX; omega)) (em1.mono (fun a k p => by unfold qDen at p; unfold fbM; omega)), hB.cg (ex1.mono (fun a k p => by unfold pBow at p; unfold fbX bbX; omega)) (em1.mono (fun a k p => by unfold qBow at p; unfold fbM; omega)), ?_⟩
    rcases hW with ⟨h1, h2, h3, h4⟩ | ⟨h1, h2, h3, h4, h5, h6⟩
    · exact Or.inl ⟨h1, h2, h3, by rw [(ex1 14 5 (by unfold fbX bbX; omega)).1]; exact h4⟩
    · refine Or.inr ⟨h1, h2, h3, by rw [(ex1 5 5 (by unfold fbX bbX; omega)).1]; exact h4, by rw [(em1 0 21 (by unfold fbM; omega)).1]; exact h5, fun k hk => ?_⟩
      rw [(ex1 7 k (by unfold fbX bbX; omega)).1, (ex1 8 k (by unfold fbX bbX; omega)).1, (ex1 9 k (by unfold fbX bbX; omega)).1, mt 17 k (by omega) (by omega), mt 18 k (by omega) (by omega), mt 19 k (by omega) (by omega)]
      exact h6 k hk
  have hS : bSt b P z 798924800 (1000 * ((0 : Nat) + 1)) 8 x1 m2 := by
    intro k hk
    obtain ⟨s', r1, r2, r3, r4, r5, r6, r7, r8, r9⟩ := q5 k hk
    rw [sm, r1, r2]
    exact ⟨rS.rf (by rw [r3]; decide), fun _ => r4.up (by omega) (by omega) (by omega)⟩
  obtain ⟨r, x', m', k1, k2, k3, k4, k5, k6, k7⟩ := spin_l (last := last) (rg := rg) (rg' := rg') hab hz hlast last FN 0 x1 m2 (by omega) (FN_lt (by omega)) hCx (by rw [c6.1, cm.1]) (by rw [c6.2, cm.2]) hS (Or.inl rfl)
  refine ⟨r, m1, x', m', ?_, q2, q6, q4, ?_, k3, k4, hR.cg hab k6 k7, k5, ex1.tr (k6.mono (fun a k p => by unfold fbX bbX at p; unfold boX boS; omega)), em1.tr (k7.mono (fun a k p => by unfold fbM at p; unfold boN; omega))⟩
  · unfold f_Bt_spinUntil f_Bt_begin
    rw [nme, nme, show (0 : Int32) = nI 0 from rfl, show f_Bt_begin_l12 FN FN a0 (nI 0) (sI (sI x0 a0 6 (nI 0)) a0 7 (nI 0)) = some x1 from q1, bs]
    exact k1
  · rw [eR]; exact k2

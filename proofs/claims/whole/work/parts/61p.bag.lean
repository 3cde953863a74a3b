theorem sW_ext {w w' : Nat → Nat} : ∀ i M, (∀ j, j < i → w j = w' j) → sW w i M = sW w' i M := by
  intro i
  induction i with
  | zero => intro M _; rfl
  | succ i ih =>
    intro M h
    unfold sW
    rw [ih M (fun j hj => h j (by omega)), h i (by omega)]
theorem sV_ext {v v' : Nat → Int} : ∀ i M, (∀ j, j < i → v j = v' j) → sV v i M = sV v' i M := by
  intro i
  induction i with
  | zero => intro M _; rfl
  | succ i ih =>
    intro M h
    unfold sV
    rw [ih M (fun j hj => h j (by omega)), h i (by omega)]
theorem dp_ext {w w' : Nat → Nat} {v v' : Nat → Int} {i a : Nat} {x : Mem} (hw : ∀ j, j < i → w j = w' j) (hv : ∀ j, j < i → v j = v' j) (h : dpT w v i a x) : dpT w' v' i a x := by
  have eW : ∀ M, sW w' i M = sW w i M := fun M => (sW_ext i M hw).symm
  have eV : ∀ M, sV v' i M = sV v i M := fun M => (sV_ext i M hv).symm
  rcases h with ⟨h1, h2⟩ | ⟨B, ⟨g1, g2, g3⟩, h2, h3⟩
  · exact Or.inl ⟨h1, fun M hM => by rw [eW]; exact h2 M hM⟩
  · refine Or.inr ⟨B, ⟨g1, by rw [eW]; exact g2, fun M hM e => ?_⟩, by rw [eV]; exact h2, h3⟩
    rw [eW] at e
    rw [eV, eV]; exact g3 M hM e
def wK (m : Mem) (t : Nat) (ks : Nat → Nat) (j : Nat) : Nat := if ks j < t then (gI m 2 (ks j)).toInt.toNat else 1
def vK (m : Mem) (t : Nat) (ks : Nat → Nat) (j : Nat) : Int := if ks j < t then 3 * (gI m 3 (ks j)).toInt + 10 - (gI m 4 (ks j)).toInt - (gI m 7 (ks j)).toInt else 0
theorem wK_b {m : Mem} {t : Nat} (h : tOK t m) (ks : Nat → Nat) (j : Nat) : 1 ≤ wK m t ks j ∧ wK m t ks j ≤ 50 := by
  unfold wK
  split
  · rename_i c
    have := (h.2 _ c).1
    unfold bt at this
    omega
  · omega
theorem vK_b {m : Mem} {t : Nat} (h : tOK t m) (ks : Nat → Nat) (j : Nat) : -100 ≤ vK m t ks j ∧ vK m t ks j ≤ 100 := by
  unfold vK
  split
  · rename_i c
    obtain ⟨_, b2, b3, _, _, b6⟩ := h.2 _ c
    unfold bt at b2 b3 b6
    omega
  · omega
theorem wor {a b d : Int32} (h1 : bt a 1 12) (h2 : bt b 1 9) (h3 : bt d 0 9) : ((((3 : Int32) * a) + 10) - b) - d = Int32.ofInt (3 * a.toInt + 10 - b.toInt - d.toInt) ∧ ((a * 3 + 10) - b) - d = Int32.ofInt (3 * a.toInt + 10 - b.toInt - d.toInt) := by
  unfold bt at h1 h2 h3
  have c3 : a * 3 = 3 * a := by grind
  have e1 : ((3 : Int32) * a).toInt = 3 * a.toInt := m32 (by rw [show (3 : Int32).toInt = 3 from rfl]; omega) (by rw [show (3 : Int32).toInt = 3 from rfl]; omega)
  have e2 : ((3 : Int32) * a + 10).toInt = 3 * a.toInt + 10 := by rw [a32, e1, show (10 : Int32).toInt = 10 from rfl] <;> rw [e1, show (10 : Int32).toInt = 10 from rfl] <;> omega
  have e3 : ((3 : Int32) * a + 10 - b).toInt = 3 * a.toInt + 10 - b.toInt := by rw [s32, e2] <;> rw [e2] <;> omega
  have e4 : ((3 : Int32) * a + 10 - b - d).toInt = 3 * a.toInt + 10 - b.toInt - d.toInt := by rw [s32, e3] <;> rw [e3] <;> omega
  have k : ((((3 : Int32) * a) + 10) - b) - d = Int32.ofInt (3 * a.toInt + 10 - b.toInt - d.toInt) := i32_inj (by rw [e4, o32 (by omega)])
  exact ⟨k, by rw [c3]; exact k⟩
def n44 (a _k : Nat) : Prop := ¬ a = 44
/-- the class's last word on a bag -/
def baE (x3 : Int32) (x : Mem) : Option (Int32 × Mem) := Option.bind (f_Pk_bestWeight FN x) (fun v1 => if x3 = 0 then (if ib v1 501 then some ((gI x 46 (ix v1)), x) else none) else if x3 = 1 then (if ib v1 501 then some ((gI x 45 (ix v1)), x) else none) else some (v1, x))
theorem idle {t : Nat} {x m : Mem} {o x3 : Int32} (hT : iTop t x m) (h3 : gI x 44 3 = nI 16) : ∀ d n r, r + d = t → d < n → f_X_bag_l41 FN n o x3 (nI r) x = baE x3 x := by
  have t40 := hT.1
  intro d
  induction d with
  | zero =>
    intro n r g1 g2
    obtain ⟨n', rfl⟩ : ∃ n', n = n' + 1 := ⟨n - 1, by omega⟩
    have hr : r = t := by omega
    subst hr
    unfold f_X_bag_l41 baE
    rw [hT.2.1, if_pos (by rw [y_le (by omega) (by omega)]; omega)]
  | succ d ih =>
    intro n r g1 g2
    obtain ⟨n', rfl⟩ : ∃ n', n = n' + 1 := ⟨n - 1, by omega⟩
    have er : (nI r).toInt = (r : Int) := nI_t (by omega)
    conv => lhs; unfold f_X_bag_l41
    unfold f_X_bag_b89 f_Pk_offer f_To_worth
    rw [hT.2.1, if_neg (show ¬ nI t ≤ nI r by rw [y_le (by omega) (by omega)]; omega), bTw hT, if_pos (by omega), er]
    simp only [Int.toNat_natCast, nme, y_s, bs, h3, if_pos (show (16 : Int32) ≤ nI 16 by decide), ite_self]
    exact ih n' (r + 1) (by omega) (by omega)
theorem bag_l {t L o : Nat} {x0 m0 : Mem} {x3 : Int32} (hT : iTop t x0 m0) (hL : L ≤ 500) : ∀ d nX nM r i ks x m, r + d = t → d < nX → d < nM → i ≤ 16 → EqOn pkX x0 x → EqOn n44 m0 m → gI x 44 3 = nI i → gI x 44 2 = nI L → (∀ b, b ≤ L → dpT (wK m0 t ks) (vK m0 t ks) i b x) → (∀ j, j < i → ks j < t ∧ gI m 44 j = nI (ks j)) → ∃ k ks' x' m', k ≤ 16 ∧ f_X_bag_l41 FN nX (nI o) x3 (nI r) x = baE x3 x' ∧ f_M_bag_l40 FN nM (nI o) (nI L) x3 (nI i) (nI r) m = f_M_bag_b85 FN (nI L) x3 (nI k) m' ∧ EqOn pkX x0 x' ∧ EqOn n44 m0 m' ∧ gI x' 44 2 = nI L ∧ (∀ b, b ≤ L → dpT (wK m0 t ks') (vK m0 t ks') k b x') ∧ (∀ j, j < k → ks' j < t ∧ gI m' 44 j = nI (ks' j)) := by
  have t40 := hT.1
  have hok := hT.ok
  intro d
  induction d with
  | zero =>
    intro nX nM r i ks x m g1 g2 g3 hi ex em h3 h2 hd hk
    obtain ⟨n', rfl⟩ : ∃ n', nX = n' + 1 := ⟨nX - 1, by omega⟩
    obtain ⟨n2, rfl⟩ : ∃ n2, nM = n2 + 1 := ⟨nM - 1, by omega⟩
    have hr : r = t := by omega
    subst hr
    refine ⟨i, ks, x, m, hi, ?_, ?_, ex, em, h2, hd, hk⟩
    · unfold f_X_bag_l41 baE
      rw [(ex 0 1 (by unfold pkX; omega)).1, hT.2.1, if_pos (by rw [y_le (by omega) (by omega)]; omega)]
    · unfold f_M_bag_l40
      rw [(em 0 1 (by unfold n44; omega)).1, hT.2.2.1, if_pos (by rw [y_le (by omega) (by omega)]; omega)]
  | succ d ih =>
    intro nX nM r i ks x m g1 g2 g3 hi ex em h3 h2 hd hk
    obtain ⟨n', rfl⟩ : ∃ n', nX = n' + 1 := ⟨nX - 1, by omega⟩
    obtain ⟨n2, rfl⟩ : ∃ n2, nM = n2 + 1 := ⟨nM - 1, by omega⟩
    have hr : r < t := by omega
    have nr : ¬ nI t ≤ nI r := by rw [y_le (by omega) (by omega)]; omega
    have hTx : iTop t x m := hT.cg (ex.mono (fun a k p => by unfold pTop at p; unfold pkX; omega)) (em.mono (fun a k p => by unfold qTop at p; unfold n44; omega))
    by_cases c16 : i = 16
    · subst c16
      refine ⟨16, ks, x, m, by omega, idle hTx h3 (d + 1) (n' + 1) r (by omega) (by omega), ?_, ex, em, h2, hd, hk⟩
      unfold f_M_bag_l40
      rw [(em 0 1 (by unfold n44; omega)).1, hT.2.2.1, if_neg nr, if_pos (by decide)]
    · have er : (nI r).toInt = (r : Int) := nI_t (by omega)
      have n16 : ¬ (16 : Int32) ≤ nI i := by
        show ¬ nI 16 ≤ nI i
        rw [y_le (by omega) (by omega)]; omega
      have em' : ∀ a, a < 44 → gI m a r = gI m0 a r := fun a ha => (em a r (by unfold n44; omega)).1
      obtain ⟨k1, k2, k3, k4, k5, k6, k7, b1, b2, b3, b4, b5, b6⟩ := hTx.2.2.2 r hr
      conv => congr; intro k; congr; intro ks'; congr; intro x'; congr; intro m'; rhs; congr; lhs; unfold f_X_bag_l41
      conv => congr; intro k; congr; intro ks'; congr; intro x'; congr; intro m'; rhs; rhs; congr; lhs; unfold f_M_bag_l40
      unfold f_X_bag_b89 f_M_bag_b79 f_Pk_offer f_To_worth
      rw [hTx.2.1, hTx.2.2.1, if_neg nr, if_neg nr, if_neg n16, bTw hTx, if_pos (by omega), er, if_pos (ib_n (show r < 40 by omega) (by omega)), ix_n (show r < 2147483648 by omega)]
      simp only [Int.toNat_natCast, nme, y_s, bs, h3, h2, if_neg n16, k6, k2, k3, k4, k7]
      by_cases co : gI m 6 r = nI o
      · rw [if_neg (not_not_intro co), if_neg (not_not_intro co), if_pos (ib_n (show i < 16 by omega) (by omega)), ix_n (show i < 2147483648 by omega), if_pos (show (0 : Int32) < gI m 2 r by rw [Int32.lt_iff_toInt_lt, show (0 : Int32).toInt = 0 from rfl]; have := b1.1; omega)]
        have ew : nI (wK m0 t (fun j => if j = i then r else ks j) i) = gI m 2 r := by
          unfold wK
          simp only [if_true, if_pos hr]
          rw [← em' 2 (by omega)]
          unfold bt at b1
          obtain ⟨z, hz, ez⟩ := toN (v := gI m 2 r) (n := 51) (by omega) (by omega)
          rw [ez, nI_t (by omega), Int.toNat_natCast]
        have ev : Int32.ofInt (vK m0 t (fun j => if j = i then r else ks j) i) = ((gI m 3 r * 3 + 10) - gI m 4 r) - gI m 7 r := by
          unfold vK
          simp only [if_true, if_pos hr]
          rw [(wor b2 b3 b6).2, ← em' 3 (by omega), ← em' 4 (by omega), ← em' 7 (by omega)]
        have lo : ∀ j, j < i → (fun j => if j = i then r else ks j) j = ks j := fun j hj => by simp only [if_neg (show ¬ j = i by omega)]
        have lw : ∀ j, j < i → wK m0 t ks j = wK m0 t (fun j => if j = i then r else ks j) j := fun j hj => by
          unfold wK
          rw [lo j hj]
        have lv : ∀ j, j < i → vK m0 t ks j = vK m0 t (fun j => if j = i then r else ks j) j := fun j hj => by
          unfold vK
          rw [lo j hj]
        obtain ⟨x1, q1, q2, q3, q4, q5⟩ := offer_l (w := wK m0 t (fun j => if j = i then r else ks j)) (v := vK m0 t (fun j => if j = i then r else ks j)) (i := i) (L := L) hL (by omega) (wK_b hok _ i) (fun j _ => vK_b hok _ j) FN L x (FN_lt (by omega)) (by omega) h3 (fun b hb => dp_ext lw lv (hd b hb)) (fun b h1 h2 => by omega)
        rw [ew, ev] at q1
        rw [q1, bs]
        exact ih n' n2 (r + 1) (i + 1) (fun j => if j = i then r else ks j) x1 (sI m 44 i (nI r)) (by omega) (by omega) (by omega) (by omega) (ex.tr q5) (em.sI (by unfold n44; omega)) q3 (by rw [q4]; exact h2) q2 (fun j hj => by
          rw [gI_sI, if_pos rfl]
          by_cases z : j = i
          · simp only [if_pos z]; exact ⟨hr, trivial⟩
          · simp only [if_neg z]; exact hk j (by omega))
      · rw [if_pos co, if_pos co]
        exact ih n' n2 (r + 1) i ks x m (by omega) (by omega) (by omega) hi ex em h3 h2 hd hk
theorem sW_b {w : Nat → Nat} (hw : ∀ j, w j ≤ 50) : ∀ i M, sW w i M ≤ 50 * i := by
  intro i
  induction i with
  | zero => intro M; unfold sW; omega
  | succ i ih =>
    intro M
    unfold sW
    have a := ih M
    have b := hw i
    split <;> omega
theorem pk_begin {x : Mem} {L : Nat} (hL : L ≤ 500) : ∃ x', f_Pk_begin FN x (nI L) = some x' ∧ gI x' 44 3 = nI 0 ∧ gI x' 44 2 = nI L ∧ gI x' 45 0 = 0 ∧ gI x' 46 0 = 0 ∧ (∀ b, 0 < b → b ≤ L → gI x' 45 b = -2147483648) ∧ EqOn pkX x x' := by
  unfold f_Pk_begin
  rw [mn_e, bs, show (if (500 : Int32) < nI L then (500 : Int32) else nI L) = nI L by
    rw [if_neg]
    show ¬ nI 500 < nI L
    rw [y_lt (by omega) (by omega)]; omega, max1_e, bs, show (if nI L ≤ 0 then (0 : Int32) else nI L) = nI L by
    by_cases z : L = 0
    · subst z; rfl
    · rw [if_neg]
      show ¬ nI L ≤ nI 0
      rw [y_le (by omega) (by omega)]; omega, nme, nme, fill_e _ 45 501 _ (by omega) rfl, bs, fill_e _ 46 501 _ (by omega) rfl, bs, if_pos (by decide), nme]
  refine ⟨_, rfl, rfl, rfl, rfl, rfl, fun b h1 h2 => ?_, ((((EqOn.rf.sI (by unfold pkX; omega)).sI (by unfold pkX; omega)).sA (by unfold pkX; omega)).sA (by unfold pkX; omega)).sI (by unfold pkX; omega)⟩
  rw [gI_sI, if_pos rfl, if_neg (by show ¬ b = 0; omega), gI_sA, if_neg (by omega), gI_sA, if_pos rfl, if_pos (by omega)]
theorem s_bag {c n : Nat} {μ1 μ2 : Mem} (h : Inv c n μ1 μ2) (hc : c < 512) (a1 : Int32) (a2 : Int32) (a3 : Int32) : ∃ (r : Int32) (ν1 : Mem) (ν2 : Mem), f_X_bag FN μ1 a1 a2 a3 = some (r, ν1) ∧ f_M_bag FN μ2 a1 a2 a3 = some (r, ν2) ∧ Inv (c + 1) n ν1 ν2 := by
  obtain ⟨t, ht, hCs, hTop, hWr, hStr, hBow, hDen, hBou, hWhi, hCho, hPas, hGam, hLas, hMet, hFin, hShe⟩ := id h
  have t40 := hTop.1
  unfold f_X_bag f_M_bag
  rw [bOw, bOn]
  by_cases c1 : 0 ≤ a1.toInt ∧ a1.toInt ≤ 7
  · rw [if_pos c1, if_pos c1]
    simp only [show (500 : Int32).toInt = 500 from rfl, show (500 : Int64).toInt = 500 from rfl, bw, bn2, bOw, bOn, nme, b2s, bs, zn10, zn01, ze10, ze00, ze01, ze11, if_true, if_false, not_true_eq_false, not_false_eq_true, l32_0, l32_1, l32_2, l32_3, l32_4, l32_5, l32_7, l32_8, l32_9, l32_12, l32_20, l32_24, l32_25, l32_30, l32_31, l32_35, l32_40, l32_50, l32_60, l32_100, l32_120, l32_200, l32_255, l32_400, l32_m1, l32_m9, l32_m20, l32_m30, l32_m31, l64_0, l64_1, l64_2, l64_3, l64_4, l64_5, l64_7, l64_8, l64_9, l64_12, l64_20, l64_24, l64_25, l64_30, l64_31, l64_35, l64_40, l64_50, l64_60, l64_100, l64_120, l64_200, l64_255, l64_400, l64_m1, l64_m9, l64_m20, l64_m30, l64_m31]
    by_cases c2 : 1 ≤ a2.toInt ∧ a2.toInt ≤ 500
    · rw [if_pos c2, if_pos c2]
      by_cases c3 : 0 ≤ a3.toInt ∧ a3.toInt ≤ 2
      · rw [if_pos c3, if_pos c3]
        obtain ⟨o, ho, rfl⟩ := toN (n := 8) c1.1 (by omega)
        obtain ⟨L, hL, rfl⟩ := toN (v := a2) (n := 501) (by omega) (by omega)
        obtain ⟨x1, q1, q2, q3, q4, q5, q6, q7⟩ := pk_begin (x := μ1) (show L ≤ 500 by omega)
        rw [q1, bs]
        obtain ⟨k, ks, x', m', w1, w2, w3, w4, w5, w6, w7, w8⟩ := bag_l (o := o) (x3 := a3) (x0 := x1) (m0 := μ2) (hTop.cg (q7.mono (fun a k p => by unfold pTop at p; unfold pkX; omega)) EqOn.rf) (show L ≤ 500 by omega) t FN FN 0 0 (fun _ => 0) x1 μ2 (by omega) (FN_lt (by omega)) (FN_lt (by omega)) (by omega) EqOn.rf EqOn.rf q2 q3 (fun b hb => by
          by_cases z : b = 0
          · subst z
            exact Or.inr ⟨0, ⟨by omega, rfl, fun M _ _ => Or.inr ⟨rfl, by omega⟩⟩, q4, q5⟩
          · refine Or.inl ⟨q6 b (by omega) hb, fun M _ e => ?_⟩
            unfold sW at e
            omega) (fun j hj => absurd hj (by omega))
        have hok := hTop.ok
        have hv : ∀ i, i < 16 → -100 ≤ vK μ2 t ks i ∧ vK μ2 t ks i ≤ 100 := fun i _ => vK_b hok ks i
        have wb : ∀ M, sW (wK μ2 t ks) k M ≤ 1000 := fun M => by
          have := sW_b (w := wK μ2 t ks) (fun j => (wK_b hok ks j).2) k M
          omega
        have em : ∀ a r, a < 44 → gI m' a r = gI μ2 a r := fun a r ha => (w5 a r (by unfold n44; omega)).1
        have hI : hIt (wK μ2 t ks) (vK μ2 t ks) k m' := fun j hj => by
          obtain ⟨z1, z2⟩ := w8 j hj
          obtain ⟨b1, b2, b3, _, _, b6⟩ := hok.2 _ z1
          refine ⟨ks j, by omega, z2, ?_, ?_⟩
          · unfold wK
            rw [if_pos z1, em 2 _ (by omega)]
            unfold bt at b1
            obtain ⟨y, hy, ey⟩ := toN (v := gI μ2 2 (ks j)) (n := 51) (by omega) (by omega)
            rw [ey, nI_t (by omega), Int.toNat_natCast]
          · unfold vK
            rw [if_pos z1, em 3 _ (by omega), em 4 _ (by omega), em 7 _ (by omega)]
            exact (wor b2 b3 b6).1
        obtain ⟨B, e1, e2, e3, e4⟩ := bagX w1 (show L ≤ 500 by omega) hv w6 w7
        have p0 : 0 < 2 ^ k := Nat.two_pow_pos k
        have pk : (2 : Nat) ^ k ≤ 2 ^ 16 := Nat.pow_le_pow_right (by omega) w1
        have v00 : ∀ i, sV (vK μ2 t ks) i 0 = 0 := by
          intro i
          induction i with
          | zero => rfl
          | succ i ih => unfold sV; rw [ih, Nat.zero_div, if_neg (by omega)]; rfl
        obtain ⟨B', f1, f2⟩ := l97_j (x3 := a3) w1 (show L ≤ 500 by omega) hv wb hI (2 ^ k - 1) FN 1 0 (by omega) (FN_lt (by omega)) (by omega) (by rw [sW0]; omega) (fun M' h1 h2 => by
          have : M' = 0 := by omega
          subst this
          exact Or.inr ⟨rfl, Or.inr ⟨rfl, by omega⟩⟩)
        have eB := bst_u e1 f1
        subst eB
        rw [v00, sW0] at f2
        have wB := wb B
        have wL := e1.2.1
        have hInv : Inv (c + 1) n x' m' := h.cg ((q7.tr w4).mono (fun a k p => by
            unfold perX at p; unfold pkX
            unfold pTop pStr pBow pDen pBou pWhi pCho pPas pGam pLas pMet pFin pShe at p
            omega)) (w5.mono (fun a k p => by
            unfold perM at p; unfold n44
            unfold qCs qTop qStr qBow qDen qBou qWhi qCho qPas qGam qLas qMet qFin qShe at p
            omega))
        have X : f_X_bag_l41 FN FN (nI o) a3 0 x1 = baE a3 x' := w2
        have M : f_M_bag_l40 FN FN (nI o) (nI L) a3 0 0 μ2 = f_M_bag_b85 FN (nI L) a3 (nI k) m' := w3
        have Y : f_M_bag_b85 FN (nI L) a3 (nI k) m' = _ := f2
        rw [X, M, Y]
        unfold baE
        rw [e2, bs, if_pos (ib_n (show sW (wK μ2 t ks) k B < 501 by omega) (by omega)), if_pos (ib_n (show sW (wK μ2 t ks) k B < 501 by omega) (by omega)), ix_n (show sW (wK μ2 t ks) k B < 2147483648 by omega), e3, e4]
        by_cases d0 : a3 = 0
        · rw [if_pos d0, if_neg (not_not_intro d0)]
          exact ⟨_, _, _, rfl, rfl, hInv⟩
        · rw [if_neg d0, if_pos d0]
          by_cases d1 : a3 = 1
          · rw [if_pos d1, if_neg (not_not_intro d1)]
            exact ⟨_, _, _, rfl, rfl, hInv⟩
          · rw [if_neg d1, if_pos d1]
            exact ⟨_, _, _, rfl, rfl, hInv⟩
      · rw [if_neg c3, if_neg c3]
        exact ⟨_, _, _, rfl, rfl, Inv_next h⟩
    · rw [if_neg c2, if_neg c2]
      exact ⟨_, _, _, rfl, rfl, Inv_next h⟩
  · rw [if_neg c1, if_neg c1]
    exact ⟨_, _, _, rfl, rfl, Inv_next h⟩

/-- how many tops of an owner from a number on -/
def tc (m : Mem) (o : Int32) : Nat → Nat → Nat
  | _, 0 => 0
  | r, d + 1 => (if gI m 6 r = o then 1 else 0) + tc m o (r + 1) d
theorem tc_b (m : Mem) (o : Int32) : ∀ d r, tc m o r d ≤ d
  | 0, _ => by unfold tc; omega
  | d + 1, r => by
    unfold tc
    have := tc_b m o d (r + 1)
    split <;> omega
theorem tc_cg {m m' : Mem} {o : Int32} (h : ∀ r, gI m' 6 r = gI m 6 r) : ∀ d r, tc m' o r d = tc m o r d
  | 0, _ => rfl
  | d + 1, r => by
    unfold tc
    rw [h, tc_cg h d (r + 1)]
theorem isTop_e {t r : Nat} {x m : Mem} (h : iTop t x m) (hr : r < t) (o : Int32) : (gI m 6 r = o → f_X_isTopOf x (nI r) o = some 1) ∧ (¬ gI m 6 r = o → f_X_isTopOf x (nI r) o = some 0) := by
  have t40 := h.1
  have er : (nI r).toInt = (r : Int) := nI_t (by omega)
  have k := (h.2.2.2 r hr).2.2.2.2.2.1
  have e : f_X_isTopOf x (nI r) o = if ¬ gI m 6 r = o then some 0 else some 1 := by
    unfold f_X_isTopOf
    rw [bTw h, if_pos (by omega), er]
    simp only [Int.toNat_natCast, k]
  rw [e]
  exact ⟨fun q => if_neg (not_not_intro q), fun q => if_pos q⟩
theorem topsX {t : Nat} {x m : Mem} (h : iTop t x m) (o : Int32) : ∀ d n r u, r + d = t → d < n → f_X_topsOf_l4 FN x n o (nI u) (nI r) = some (nI (u + tc m o r d)) ∧ f_M_topsOf_l4 FN m n o (nI u) (nI r) = some (nI (u + tc m o r d)) := by
  have t40 := h.1
  intro d
  induction d with
  | zero =>
    intro n r u h1 h2
    obtain ⟨n', rfl⟩ : ∃ n', n = n' + 1 := ⟨n - 1, by omega⟩
    have hr : r = t := by omega
    subst hr
    unfold f_X_topsOf_l4 f_M_topsOf_l4 tc
    rw [h.2.1, h.2.2.1, if_pos (by rw [y_le (by omega) (by omega)]; omega), if_pos (by rw [y_le (by omega) (by omega)]; omega)]
    exact ⟨rfl, rfl⟩
  | succ d ih =>
    intro n r u h1 h2
    obtain ⟨n', rfl⟩ : ∃ n', n = n' + 1 := ⟨n - 1, by omega⟩
    have nr : ¬ nI t ≤ nI r := by rw [y_le (by omega) (by omega)]; omega
    obtain ⟨s1, s2⟩ := isTop_e h (show r < t by omega) o
    unfold f_X_topsOf_l4 f_M_topsOf_l4 tc
    unfold f_X_topsOf_b27 f_M_topsOf_b28
    rw [h.2.1, h.2.2.1, if_neg nr, if_neg nr, if_pos (ib_n (show r < 40 by omega) (by omega)), ix_n (by omega)]
    simp only [nme, y_s, show ∀ z : Nat, nI z + 0 = nI z from fun z => Int32.add_zero _]
    by_cases c : gI m 6 r = o
    · rw [s1 c, bs, if_neg (by decide), if_neg (not_not_intro c), if_pos c]
      have := ih n' (r + 1) (u + 1) (by omega) (by omega)
      rw [show u + (1 + tc m o (r + 1) d) = u + 1 + tc m o (r + 1) d by omega]
      exact this
    · rw [s2 c, bs, if_pos rfl, if_pos c, if_neg c, Nat.zero_add]
      exact ih n' (r + 1) u (by omega) (by omega)
theorem tops_e {t : Nat} {x m : Mem} (h : iTop t x m) (o : Int32) : f_X_topsOf FN x o = some (nI (tc m o 0 t)) ∧ f_M_topsOf FN m o = some (nI (tc m o 0 t)) := by
  have := topsX h o t FN 0 0 (by omega) (FN_lt (by have := h.1; omega))
  rw [Nat.zero_add] at this
  exact this
theorem sp1 (k : Nat) : nI (k + 1) + (-1) = nI k ∧ nI (k + 1) - 1 = nI k := by
  rw [← y_s]
  exact ⟨by grind, by grind⟩
theorem nth_l {t : Nat} {x m : Mem} (h : iTop t x m) (o : Int32) : ∀ d n r k, r + d = t → d < n → k < tc m o r d → ∃ q, q < t ∧ f_X_nthTopOf_l5 FN x n o (nI k) (nI r) = some (nI q) ∧ f_M_topOf_l5 FN m n o (nI k) (nI r) = some (nI q) := by
  have t40 := h.1
  intro d
  induction d with
  | zero =>
    intro n r k h1 h2 h3
    unfold tc at h3
    omega
  | succ d ih =>
    intro n r k h1 h2 h3
    obtain ⟨n', rfl⟩ : ∃ n', n = n' + 1 := ⟨n - 1, by omega⟩
    have nr : ¬ nI t ≤ nI r := by rw [y_le (by omega) (by omega)]; omega
    have er : ib (nI r) 40 = true := ib_n (by omega) (by omega)
    have tb := tc_b m o d (r + 1)
    obtain ⟨s1, s2⟩ := isTop_e h (show r < t by omega) o
    unfold tc at h3
    unfold f_X_nthTopOf_l5 f_M_topOf_l5
    unfold f_X_nthTopOf_b34 f_M_topOf_b20 f_M_topOf_b37
    rw [h.2.1, if_neg nr, if_pos er, if_pos er, ix_n (by omega)]
    simp only [nme, y_s]
    by_cases c : gI m 6 r = o
    · rw [s1 c, bs, if_neg (by decide), if_neg (not_not_intro c), if_neg (not_not_intro c)]
      rw [if_pos c] at h3
      by_cases ck : k = 0
      · subst ck
        rw [if_neg (show ¬ ¬ nI 0 = 0 by decide), if_pos (show nI 0 ≤ 0 by decide)]
        exact ⟨r, by omega, rfl, rfl⟩
      · obtain ⟨k', rfl⟩ : ∃ k', k = k' + 1 := ⟨k - 1, by omega⟩
        have nk : ¬ nI (k' + 1) = 0 := by
          show ¬ nI (k' + 1) = nI 0
          rw [y_eq (by omega) (by omega)]; omega
        have nk2 : ¬ nI (k' + 1) ≤ 0 := by
          show ¬ nI (k' + 1) ≤ nI 0
          rw [y_le (by omega) (by omega)]; omega
        rw [if_pos nk, if_neg nk2, (sp1 k').1, (sp1 k').2]
        exact ih n' (r + 1) k' (by omega) (by omega) (by omega)
    · rw [s2 c, bs, if_pos rfl, if_pos c, if_pos c]
      rw [if_neg c, Nat.zero_add] at h3
      rw [show nI k - 0 = nI k by grind]
      exact ih n' (r + 1) k (by omega) (by omega) h3
theorem first_l {t r : Nat} {m : Mem} (ht : t ≤ 40) (o : Int32) (hr : r < t) (h1 : ∀ q, q < r → ¬ gI m 6 q = o) (h2 : gI m 6 r = o) : ∀ d n i, i + d = r → d < n → f_M_topOf_l5 FN m n o 0 (nI i) = some (nI r) := by
  intro d
  induction d with
  | zero =>
    intro n i g1 g2
    obtain ⟨n', rfl⟩ : ∃ n', n = n' + 1 := ⟨n - 1, by omega⟩
    have hi : i = r := by omega
    subst hi
    unfold f_M_topOf_l5
    rw [if_pos (ib_n (show i < 40 by omega) (by omega)), ix_n (by omega), if_neg (not_not_intro h2), if_pos (by decide)]
  | succ d ih =>
    intro n i g1 g2
    obtain ⟨n', rfl⟩ : ∃ n', n = n' + 1 := ⟨n - 1, by omega⟩
    have er : ib (nI i) 40 = true := ib_n (by omega) (by omega)
    unfold f_M_topOf_l5
    unfold f_M_topOf_b20 f_M_topOf_b37
    rw [if_pos er, ix_n (by omega), if_pos (h1 i (by omega)), if_pos er, if_pos (h1 i (by omega)), nme, nme, y_s, show (0 : Int32) - 0 = 0 from rfl]
    exact ih n' (i + 1) (by omega) (by omega)
theorem mod_e : ∀ a, a < 41 → ∀ b, b < 41 → b = 0 ∨ nI a - nI a / nI b * nI b = nI (a % b) := by decide +kernel
def gvX (a k : Nat) : Prop := ¬ (56 ≤ a ∧ k = 4)
def gvM (a _k : Nat) : Prop := ¬ a = 6
theorem keep_l {t p q : Nat} {x3 x4 x5 : Int32} {x1 x2 : Int32} (hp : p < 8) (hq : q < 8) (hpq : p ≠ q) : ∀ d nX nM r k x m V, r + d = t → d < nX → d < nM → iTop t x m → (∀ r', r' < r → ¬ gI m 6 r' = nI q) → gI x 41 4 = gI m 40 4 → k ≤ r → V = k + tc m (nI q) r d → ∃ k' x' m', f_X_keepTops_l5 FN nX (nI p) (nI q) (nI k) (nI r) x = some (nI k', x') ∧ f_M_play_l272 FN nM x1 x2 x3 x4 x5 (nI p) (nI k) (nI q) (nI V) m = f_M_play_b310 FN x1 x2 x3 x4 x5 (nI p) (nI k') m' ∧ iTop t x' m' ∧ EqOn gvX x x' ∧ EqOn gvM m m' := by
  intro d
  induction d with
  | zero =>
    intro nX nM r k x m V g1 g2 g3 h hno hk4 hk hV
    obtain ⟨n', rfl⟩ : ∃ n', nX = n' + 1 := ⟨nX - 1, by omega⟩
    obtain ⟨n2, rfl⟩ : ∃ n2, nM = n2 + 1 := ⟨nM - 1, by omega⟩
    have t40 := h.1
    have hr : r = t := by omega
    subst hr
    unfold tc at hV
    refine ⟨k, x, m, ?_, ?_, h, EqOn.rf, EqOn.rf⟩
    · unfold f_X_keepTops_l5
      rw [h.2.1, if_pos (by rw [y_le (by omega) (by omega)]; omega)]
    · unfold f_M_play_l272
      rw [if_pos (by decide), show ix (4 : Int32) = 4 from rfl, if_pos (show nI V ≤ nI k by rw [y_le (by omega) (by omega)]; omega), ite_self]
  | succ d ih =>
    intro nX nM r k x m V g1 g2 g3 h hno hk4 hk hV
    obtain ⟨n', rfl⟩ : ∃ n', nX = n' + 1 := ⟨nX - 1, by omega⟩
    have t40 := h.1
    have er : (nI r).toInt = (r : Int) := nI_t (by omega)
    have nr : ¬ nI t ≤ nI r := by rw [y_le (by omega) (by omega)]; omega
    have tb := tc_b m (nI q) d (r + 1)
    have k4 := (h.2.2.2 r (by omega)).2.2.2.2.2.1
    conv => congr; intro k'; congr; intro x'; congr; intro m'; congr; lhs; unfold f_X_keepTops_l5
    unfold f_X_keepTops_b56 f_Ga_keeps
    rw [h.2.1, if_neg nr, if_pos (by decide), bs, show ix (4 : Int32) = 4 from rfl, hk4]
    by_cases c0 : gI m 40 4 ≤ nI k
    · rw [if_pos c0]
      obtain ⟨n2, rfl⟩ : ∃ n2, nM = n2 + 1 := ⟨nM - 1, by omega⟩
      refine ⟨k, x, m, rfl, ?_, h, EqOn.rf, EqOn.rf⟩
      unfold f_M_play_l272
      rw [if_pos (by decide), show ix (4 : Int32) = 4 from rfl, if_pos c0]
    rw [if_neg c0, bTw h, if_pos (by omega), er]
    simp only [Int.toNat_natCast, k4, nme, y_s]
    unfold tc at hV
    by_cases c1 : gI m 6 r = nI q
    · rw [if_neg (not_not_intro c1)]
      rw [if_pos c1] at hV
      obtain ⟨n2, rfl⟩ : ∃ n2, nM = n2 + 1 := ⟨nM - 1, by omega⟩
      have eM : f_M_play_l272 FN (n2 + 1) x1 x2 x3 x4 x5 (nI p) (nI k) (nI q) (nI V) m = f_M_play_l272 FN n2 x1 x2 x3 x4 x5 (nI p) (nI (k + 1)) (nI q) (nI V) (sI m 6 r (nI p)) := by
        have f := first_l t40 (nI q) (show r < t by omega) hno c1 r FN 0 (by omega) (FN_lt (by omega))
        have f' : f_M_topOf FN m (nI q) 0 = some (nI r) := f
        conv => lhs; unfold f_M_play_l272
        rw [if_pos (by decide), show ix (4 : Int32) = 4 from rfl, if_neg c0, if_neg (show ¬ nI V ≤ nI k by rw [y_le (by omega) (by omega)]; omega), f', bs, if_pos (ib_n (show r < 40 by omega) (by omega)), nme, nme, y_s, ix_n (by omega)]
      rw [eM]
      have h' : iTop t (sI x (56 + r) 4 (nI p)) (sI m 6 r (nI p)) := by
        refine ⟨h.1, by rw [gI_sI, if_neg (by omega)]; exact h.2.1, by rw [gI_sI, if_neg (by omega)]; exact h.2.2.1, fun i hi => ?_⟩
        have q := h.2.2.2 i hi
        by_cases e : i = r
        · subst e
          simp only [gI_sI, gR_sI, if_true, Nat.reduceEqDiff, if_false]
          exact ⟨q.1, q.2.1, q.2.2.1, q.2.2.2.1, q.2.2.2.2.1, trivial, q.2.2.2.2.2.2.1, q.2.2.2.2.2.2.2.1, q.2.2.2.2.2.2.2.2.1, q.2.2.2.2.2.2.2.2.2.1, q.2.2.2.2.2.2.2.2.2.2.1, (by unfold bt; rw [nI_t (by omega)]; omega), q.2.2.2.2.2.2.2.2.2.2.2.2⟩
        · have e' : ¬ 56 + i = 56 + r := by omega
          simp only [gI_sI, gR_sI, if_neg e', if_neg e, if_true, Nat.reduceEqDiff, if_false]
          exact q
      have tce : ∀ d r', r < r' → tc (sI m 6 r (nI p)) (nI q) r' d = tc m (nI q) r' d := by
        intro d
        induction d with
        | zero => intro r' _; rfl
        | succ d ih2 =>
          intro r' hr'
          unfold tc
          rw [ih2 (r' + 1) (by omega), gI_sI, if_pos rfl, if_neg (show ¬ r' = r by omega)]
      obtain ⟨k', x', m', l1, l2, l3, l4, l5⟩ := ih n' n2 (r + 1) (k + 1) (sI x (56 + r) 4 (nI p)) (sI m 6 r (nI p)) V (by omega) (by omega) (by omega) h' (fun r' hr' => by
        rw [gI_sI, if_pos rfl]
        by_cases z : r' = r
        · rw [if_pos z, y_eq (by omega) (by omega)]; exact hpq
        · rw [if_neg z]; exact hno r' (by omega)) (by rw [gI_sI, if_neg (by omega), gI_sI, if_neg (by omega)]; exact hk4) (by omega) (by rw [tce d (r + 1) (by omega)]; omega)
      exact ⟨k', x', m', l1, l2, l3, (EqOn.rf.sI (by unfold gvX; omega)).tr l4, (EqOn.rf.sI (by unfold gvM; omega)).tr l5⟩
    · rw [if_pos c1]
      rw [if_neg c1, Nat.zero_add] at hV
      exact ih n' nM (r + 1) k x m V (by omega) (by omega) (by omega) h (fun r' hr' => by
        by_cases z : r' = r
        · rw [z]; exact c1
        · exact hno r' (by omega)) hk4 (by omega) hV

/-- a top in a bout: x y p q heading spin lean fate -/
abbrev SS : Type := Int64 × Int64 × Int64 × Int64 × Int32 × Int32 × Int32 × Int32
def ft (s : SS) : Int32 := s.2.2.2.2.2.2.2
def stM (m : Mem) (i : Nat) : SS := (gL m 21 i, gL m 22 i, gL m 24 i, gL m 25 i, gI m 23 i, gI m 26 i, gI m 27 i, gI m 28 i)
def stX (x : Mem) (a : Nat) : SS := (gL x a 10, gL x a 11, gL x a 12, gL x a 13, gI x a 14, gI x a 15, gI x a 16, gI x a 17)
def slF (d : Int32) : SS → SS
  | (x, y, p, q, h, s, l, f) => (x, y, p, q, h, (if s ≤ d + l then 0 else s - (d + l)), l, f)
def tiF : SS → SS
  | (x, y, p, q, h, s, l, f) => (x, y, p, q, h, s, (if s < (100 : Int32) + (10 : Int32) * l then (if (50 : Int32) ≤ s then l else l + 1) else (if l ≤ 0 then 0 else l - 1)), f)
def fl65 (x : Int64) : Int32 := if (0 : Int64) ≤ x then (x / 65).toInt32 else (-(((64 : Int64) - x) / 65)).toInt32
def hdF (h sn l : Int32) : Int32 := ((h + (sn * ((1 : Int32) + l))) + 36) - ((h + (sn * ((1 : Int32) + l))) + 36) / 36 * 36
def cT (h : Int32) : Int32 := csT.getD (ix h) 0
def sT (h : Int32) : Int32 := csT.getD ((ix h + 27) % 36) 0
def puF (w sn : Int32) (X Y : Int32 → Int32 → Int32) : SS → SS
  | (x, y, p, q, h, s, l, f) => (x, y, (p - (((2 : Int64) * w.toInt64) * (X (fl65 x) (fl65 y)).toInt64)) + (((w * l) * cT (hdF h sn l)) / 65).toInt64, (q - (((2 : Int64) * w.toInt64) * (Y (fl65 x) (fl65 y)).toInt64)) + (((w * l) * sT (hdF h sn l)) / 65).toInt64, hdF h sn l, s, l, f)
def drF : SS → SS
  | (x, y, p, q, h, s, l, f) => (x, y, p - p / 16, q - q / 16, h, s, l, f)
def moF (w : Int32) : SS → SS
  | (x, y, p, q, h, s, l, f) => (x + p / w.toInt64, y + q / w.toInt64, p, q, h, s, l, f)
def leF (r : Int32) : SS → SS
  | (x, y, p, q, h, s, l, f) => (x, y, p, q, h, s, l, if (x * x) + (y * y) ≤ (((4225 : Int64) * r.toInt64) * r.toInt64) then f else 1)
def onF (F : SS → SS) (s : SS) : SS := if ft s = 0 then F s else s
def boM (a _k : Nat) : Prop := ¬ (21 ≤ a ∧ a ≤ 28)
def boN (a k : Nat) : Prop := ¬ (21 ≤ a ∧ a ≤ 28) ∧ ¬ (a = 0 ∧ (k = 35 ∨ k = 36))
theorem EqOn.n {m m' : Mem} (h : EqOn boM m m') : EqOn boN m m' := h.mono (fun a k p => by unfold boN at p; unfold boM; omega)
theorem stg {P : Nat} {L : Nat → Int32 → Mem → Option Mem} {nx : Mem → Option Mem} {g : Nat → SS → SS} {m1 : Mem} (hs : ∀ n i μ, i < P → EqOn boM m1 μ → stM μ i = stM m1 i → ∃ μ', L (n + 1) (nI i) μ = L n (nI (i + 1)) μ' ∧ EqOn boM μ μ' ∧ stM μ' i = g i (stM μ i) ∧ ∀ j, j ≠ i → stM μ' j = stM μ j) (he : ∀ n μ, EqOn boM m1 μ → L (n + 1) (nI P) μ = nx μ) : ∀ d n i μ, i + d = P → d < n → EqOn boM m1 μ → (∀ j, i ≤ j → stM μ j = stM m1 j) → (∀ j, j < i → stM μ j = g j (stM m1 j)) → ∃ m2, L n (nI i) μ = nx m2 ∧ EqOn boM m1 m2 ∧ (∀ j, j < P → stM m2 j = g j (stM m1 j)) ∧ ∀ j, P ≤ j → stM m2 j = stM m1 j := by
  intro d
  induction d with
  | zero =>
    intro n i μ h1 h2 h3 h4 h5
    have hi : i = P := by omega
    subst hi
    obtain ⟨n', rfl⟩ : ∃ n', n = n' + 1 := ⟨n - 1, by omega⟩
    exact ⟨μ, he n' μ h3, h3, h5, h4⟩
  | succ d ih =>
    intro n i μ h1 h2 h3 h4 h5
    obtain ⟨n', rfl⟩ : ∃ n', n = n' + 1 := ⟨n - 1, by omega⟩
    obtain ⟨μ', e1, e2, e3, e4⟩ := hs n' i μ (by omega) h3 (h4 i (by omega))
    rw [e1]
    refine ih n' (i + 1) μ' (by omega) (by omega) (h3.tr e2) (fun j hj => ?_) (fun j hj => ?_)
    · rw [e4 j (by omega)]; exact h4 j (by omega)
    · by_cases c : j = i
      · subst c; rw [e3, h4 _ (by omega)]
      · rw [e4 j c]; exact h5 j (by omega)
theorem stg0 {P : Nat} {L : Nat → Int32 → Mem → Option Mem} {nx : Mem → Option Mem} {g : Nat → SS → SS} {m1 : Mem} (hP : P ≤ 4) (hs : ∀ n i μ, i < P → EqOn boM m1 μ → stM μ i = stM m1 i → ∃ μ', L (n + 1) (nI i) μ = L n (nI (i + 1)) μ' ∧ EqOn boM μ μ' ∧ stM μ' i = g i (stM μ i) ∧ ∀ j, j ≠ i → stM μ' j = stM μ j) (he : ∀ n μ, EqOn boM m1 μ → L (n + 1) (nI P) μ = nx μ) : ∃ m2, L FN 0 m1 = nx m2 ∧ EqOn boM m1 m2 ∧ (∀ j, j < P → stM m2 j = g j (stM m1 j)) ∧ ∀ j, P ≤ j → stM m2 j = stM m1 j :=
  stg hs he P FN 0 m1 (by omega) (FN_lt (by omega)) EqOn.rf (fun _ _ => rfl) (fun j hj => absurd hj (by omega))
/-- the number of the top at a place -/
def wh (m : Mem) (i : Nat) : Nat := ix (gI m 20 i)
/-- who is at the places of the reference's bout -/
def bWho (P t : Nat) (m : Mem) : Prop := P ≤ 4 ∧ gI m 0 25 = nI P ∧ ∀ i, i < P → gI m 20 i = nI (wh m i) ∧ wh m i < t
theorem bWho.cg {P t : Nat} {m m' : Mem} (h : bWho P t m) (e : EqOn boN m m') : bWho P t m' := by
  obtain ⟨h1, h2, h3⟩ := h
  have ew : ∀ i, wh m' i = wh m i := fun i => by unfold wh; rw [(e 20 i (by unfold boN; omega)).1]
  refine ⟨h1, by rw [(e 0 25 (by unfold boN; omega)).1]; exact h2, fun i hi => ?_⟩
  rw [ew, (e 20 i (by unfold boN; omega)).1]; exact h3 i hi
theorem wh_cg {m m' : Mem} (e : EqOn boN m m') (i : Nat) : wh m' i = wh m i := by unfold wh; rw [(e 20 i (by unfold boN; omega)).1]
theorem P_le {P : Nat} {i : Nat} (hP : P ≤ 4) (hi : i < P) : ¬ nI P ≤ nI i := by rw [y_le (by omega) (by omega)]; omega
theorem P_re {P : Nat} (hP : P ≤ 4) : nI P ≤ nI P := by rw [y_le (by omega) (by omega)]; omega
theorem mv540 {P t : Nat} {m : Mem} (h : bWho P t m) : ∃ m', f_M_moves_l540 FN FN 0 m = some m' ∧ EqOn boM m m' ∧ (∀ j, j < P → stM m' j = onF (leF (gI m 0 9)) (stM m j)) ∧ ∀ j, P ≤ j → stM m' j = stM m j := by
  refine stg0 (g := fun _ => onF (leF (gI m 0 9))) (nx := some) h.1 (fun n i μ hi e es => ?_) (fun n μ e => ?_)
  · have hP := h.1
    have h4 : i < 4 := by omega
    have eb : ib (nI i) 4 = true := ib_n h4 (by omega)
    conv => congr; intro μ'; lhs; lhs; unfold f_M_moves_l540
    rw [(h.cg e.n).2.1, if_neg (P_le hP hi), if_pos eb, ix_n (by omega), (e 0 9 (by unfold boM; omega)).1]
    unfold f_M_moves_b610
    simp only [nme, y_s, if_pos eb]
    by_cases c : gI μ 28 i = 0
    · rw [if_neg (not_not_intro c)]
      by_cases c2 : gL μ 21 i * gL μ 21 i + gL μ 22 i * gL μ 22 i ≤ (4225 : Int64) * (gI m 0 9).toInt64 * (gI m 0 9).toInt64
      · rw [if_pos c2]
        refine ⟨_, rfl, EqOn.rf, ?_, fun j hj => rfl⟩
        unfold onF leF stM ft
        simp only [c, if_true, if_pos c2]
      · rw [if_neg c2]
        refine ⟨_, rfl, EqOn.rf.sI (by unfold boM; omega), ?_, fun j hj => ?_⟩
        · unfold onF leF stM ft
          simp only [c, if_true, if_neg c2, gI_sI, gL_sI, reduceIte, Nat.reduceEqDiff]
        · unfold stM
          simp only [gI_sI, gL_sI, if_neg hj, ite_self]
    · rw [if_pos c]
      refine ⟨_, rfl, EqOn.rf, ?_, fun j hj => rfl⟩
      unfold onF stM ft
      simp only [if_neg c]
  · conv => lhs; unfold f_M_moves_l540
    rw [(h.cg e.n).2.1, if_pos (P_re h.1)]
def tOK (t : Nat) (m : Mem) : Prop := t ≤ 40 ∧ ∀ j, j < t → bt (gI m 2 j) 1 50 ∧ bt (gI m 3 j) 1 12 ∧ bt (gI m 4 j) 1 9 ∧ (gI m 5 j = 1 ∨ gI m 5 j = -1) ∧ bt (gI m 6 j) 0 7 ∧ bt (gI m 7 j) 0 9
theorem iTop.ok {t : Nat} {x m : Mem} (h : iTop t x m) : tOK t m := by
  obtain ⟨h1, h2, h3, h4⟩ := h
  exact ⟨h1, fun j hj => (h4 j hj).2.2.2.2.2.2.2⟩
theorem tOK.cg {t : Nat} {m m' : Mem} (h : tOK t m) (e : EqOn boN m m') : tOK t m' := by
  refine ⟨h.1, fun j hj => ?_⟩
  have e1 : ∀ a, 2 ≤ a → a ≤ 7 → gI m' a j = gI m a j := fun a h1 h2 => (e a j (by unfold boN; omega)).1
  rw [e1 2 (by omega) (by omega), e1 3 (by omega) (by omega), e1 4 (by omega) (by omega), e1 5 (by omega) (by omega), e1 6 (by omega) (by omega), e1 7 (by omega) (by omega)]
  exact h.2 j hj
theorem tOK.w {t j : Nat} {m : Mem} (h : tOK t m) (hj : j < t) : ¬ (gI m 2 j).toInt64 = 0 := by
  intro q
  have := congrArg Int64.toInt q
  rw [Int32.toInt_toInt64] at this
  have h2 := (h.2 j hj).1.1
  rw [show (0 : Int64).toInt = 0 from rfl] at this
  omega
theorem mv459 {P t : Nat} {m : Mem} (h : bWho P t m) (ht : tOK t m) : ∃ m', f_M_moves_l459 FN FN 0 m = f_M_moves_l540 FN FN 0 m' ∧ EqOn boM m m' ∧ (∀ j, j < P → stM m' j = onF (moF (gI m 2 (wh m j))) (stM m j)) ∧ ∀ j, P ≤ j → stM m' j = stM m j := by
  refine stg0 (g := fun j => onF (moF (gI m 2 (wh m j)))) (nx := (f_M_moves_l540 FN FN 0)) h.1 (fun n i μ hi e es => ?_) (fun n μ e => ?_)
  · have hP := h.1
    have h4 : i < 4 := by omega
    have eb : ib (nI i) 4 = true := ib_n h4 (by omega)
    obtain ⟨w1, w2⟩ := (h.cg e.n).2.2 i hi
    have t40 := ht.1
    have ew := wh_cg e.n i
    have ebw : ib (nI (wh μ i)) 40 = true := ib_n (by omega) (by omega)
    have iw : ix (nI (wh μ i)) = wh μ i := ix_n (by omega)
    conv => congr; intro μ'; lhs; lhs; unfold f_M_moves_l459
    rw [(h.cg e.n).2.1, if_neg (P_le hP hi), if_pos eb, ix_n (by omega)]
    unfold f_M_moves_b532
    simp only [nme, y_s, if_pos eb, bs, gI_sI, gL_sI, gI_sL, gL_sL, reduceIte, Nat.reduceEqDiff, w1, iw, if_pos ebw, ix_n (show i < 2147483648 by omega)]
    by_cases c : gI μ 28 i = 0
    · rw [if_neg (not_not_intro c)]
      simp only [if_neg ((ht.cg e.n).w w2)]
      refine ⟨_, rfl, (EqOn.rf.sL (by unfold boM; omega)).sL (by unfold boM; omega), ?_, fun j hj => ?_⟩
      · unfold onF moF stM ft
        simp only [c, if_true, gI_sI, gL_sI, gI_sL, gL_sL, reduceIte, Nat.reduceEqDiff, ew, (e 2 (wh m i) (by unfold boM; omega)).1]
      · (unfold stM; simp only [gI_sI, gL_sI, gI_sL, gL_sL, if_neg hj, ite_self])
    · rw [if_pos c]
      refine ⟨_, rfl, EqOn.rf, ?_, fun j hj => rfl⟩
      unfold onF stM ft
      simp only [if_neg c]
  · conv => lhs; unfold f_M_moves_l459
    rw [(h.cg e.n).2.1, if_pos (P_re h.1)]
theorem mv396 {P t : Nat} {m : Mem} (h : bWho P t m) (ht : tOK t m) : ∃ m', f_M_moves_l396 FN FN 0 m = f_M_moves_l459 FN FN 0 m' ∧ EqOn boM m m' ∧ (∀ j, j < P → stM m' j = onF (drF) (stM m j)) ∧ ∀ j, P ≤ j → stM m' j = stM m j := by
  refine stg0 (g := fun j => onF (drF)) (nx := (f_M_moves_l459 FN FN 0)) h.1 (fun n i μ hi e es => ?_) (fun n μ e => ?_)
  · have hP := h.1
    have h4 : i < 4 := by omega
    have eb : ib (nI i) 4 = true := ib_n h4 (by omega)
    obtain ⟨w1, w2⟩ := (h.cg e.n).2.2 i hi
    have t40 := ht.1
    have ew := wh_cg e.n i
    have ebw : ib (nI (wh μ i)) 40 = true := ib_n (by omega) (by omega)
    have iw : ix (nI (wh μ i)) = wh μ i := ix_n (by omega)
    conv => congr; intro μ'; lhs; lhs; unfold f_M_moves_l396
    rw [(h.cg e.n).2.1, if_neg (P_le hP hi), if_pos eb, ix_n (by omega)]
    unfold f_M_moves_b451
    simp only [nme, y_s, if_pos eb, bs, gI_sI, gL_sI, gI_sL, gL_sL, reduceIte, Nat.reduceEqDiff, w1, iw, if_pos ebw, ix_n (show i < 2147483648 by omega)]
    by_cases c : gI μ 28 i = 0
    · rw [if_neg (not_not_intro c)]
      refine ⟨_, rfl, (EqOn.rf.sL (by unfold boM; omega)).sL (by unfold boM; omega), ?_, fun j hj => ?_⟩
      · unfold onF drF stM ft
        simp only [c, if_true, gI_sI, gL_sI, gI_sL, gL_sL, reduceIte, Nat.reduceEqDiff]
      · (unfold stM; simp only [gI_sI, gL_sI, gI_sL, gL_sL, if_neg hj, ite_self])
    · rw [if_pos c]
      refine ⟨_, rfl, EqOn.rf, ?_, fun j hj => rfl⟩
      unfold onF stM ft
      simp only [if_neg c]
  · conv => lhs; unfold f_M_moves_l396
    rw [(h.cg e.n).2.1, if_pos (P_re h.1)]
theorem mv90 {P t : Nat} {m : Mem} (h : bWho P t m) (ht : tOK t m) : ∃ m', f_M_moves_l90 FN FN 0 m = f_M_moves_l187 FN FN 0 m' ∧ EqOn boM m m' ∧ (∀ j, j < P → stM m' j = onF (tiF) (stM m j)) ∧ ∀ j, P ≤ j → stM m' j = stM m j := by
  refine stg0 (g := fun j => onF (tiF)) (nx := (f_M_moves_l187 FN FN 0)) h.1 (fun n i μ hi e es => ?_) (fun n μ e => ?_)
  · have hP := h.1
    have h4 : i < 4 := by omega
    have eb : ib (nI i) 4 = true := ib_n h4 (by omega)
    obtain ⟨w1, w2⟩ := (h.cg e.n).2.2 i hi
    have t40 := ht.1
    have ew := wh_cg e.n i
    have ebw : ib (nI (wh μ i)) 40 = true := ib_n (by omega) (by omega)
    have iw : ix (nI (wh μ i)) = wh μ i := ix_n (by omega)
    conv => congr; intro μ'; lhs; lhs; unfold f_M_moves_l90
    rw [(h.cg e.n).2.1, if_neg (P_le hP hi), if_pos eb, ix_n (by omega)]
    unfold f_M_moves_b154 f_M_moves_b179
    simp only [nme, y_s, if_pos eb, bs, gI_sI, gL_sI, gI_sL, gL_sL, reduceIte, Nat.reduceEqDiff, w1, iw, if_pos ebw, ix_n (show i < 2147483648 by omega)]
    by_cases c : gI μ 28 i = 0
    · rw [if_neg (not_not_intro c)]
      have k0 : ∀ v, (v = if gI μ 26 i < (100 : Int32) + (10 : Int32) * gI μ 27 i then (if (50 : Int32) ≤ gI μ 26 i then gI μ 27 i else gI μ 27 i + 1) else (if gI μ 27 i ≤ 0 then 0 else gI μ 27 i - 1)) → EqOn boM μ (sI μ 27 i v) ∧ stM (sI μ 27 i v) i = onF tiF (stM μ i) ∧ ∀ j, j ≠ i → stM (sI μ 27 i v) j = stM μ j := by
        intro v hv
        refine ⟨EqOn.rf.sI (by unfold boM; omega), ?_, fun j hj => ?_⟩
        · unfold onF tiF stM ft
          simp only [c, if_true, gI_sI, gL_sI, gI_sL, gL_sL, reduceIte, Nat.reduceEqDiff]
          rw [hv]
        · (unfold stM; simp only [gI_sI, gL_sI, gI_sL, gL_sL, if_neg hj, ite_self])
      by_cases c1 : gI μ 26 i < (100 : Int32) + (10 : Int32) * gI μ 27 i
      · rw [if_pos c1] at k0 ⊢
        by_cases c2 : (50 : Int32) ≤ gI μ 26 i
        · rw [if_pos c2]
          refine ⟨_, rfl, EqOn.rf, ?_, fun j hj => rfl⟩
          unfold onF tiF stM ft
          simp only [c, if_true, if_pos c1, if_pos c2]
        · rw [if_neg c2] at k0 ⊢
          exact ⟨_, rfl, k0 _ rfl⟩
      · rw [if_neg c1] at k0 ⊢
        by_cases c2 : gI μ 27 i ≤ 0
        · rw [if_pos c2] at k0 ⊢
          exact ⟨_, rfl, k0 _ rfl⟩
        · rw [if_neg c2] at k0 ⊢
          exact ⟨_, rfl, k0 _ rfl⟩
    · rw [if_pos c]
      refine ⟨_, rfl, EqOn.rf, ?_, fun j hj => rfl⟩
      unfold onF stM ft
      simp only [if_neg c]
  · conv => lhs; unfold f_M_moves_l90
    rw [(h.cg e.n).2.1, if_pos (P_re h.1)]
theorem mv2 {P t : Nat} {m : Mem} (h : bWho P t m) (ht : tOK t m) : ∃ m', f_M_moves_l2 FN FN 0 m = f_M_moves_l90 FN FN 0 m' ∧ EqOn boM m m' ∧ (∀ j, j < P → stM m' j = onF (slF ((1 : Int32) + (gI m 4 (wh m j) + gI m 7 (wh m j)) / 4)) (stM m j)) ∧ ∀ j, P ≤ j → stM m' j = stM m j := by
  refine stg0 (g := fun j => onF (slF ((1 : Int32) + (gI m 4 (wh m j) + gI m 7 (wh m j)) / 4))) (nx := (f_M_moves_l90 FN FN 0)) h.1 (fun n i μ hi e es => ?_) (fun n μ e => ?_)
  · have hP := h.1
    have h4 : i < 4 := by omega
    have eb : ib (nI i) 4 = true := ib_n h4 (by omega)
    obtain ⟨w1, w2⟩ := (h.cg e.n).2.2 i hi
    have t40 := ht.1
    have ew := wh_cg e.n i
    have ebw : ib (nI (wh μ i)) 40 = true := ib_n (by omega) (by omega)
    have iw : ix (nI (wh μ i)) = wh μ i := ix_n (by omega)
    conv => congr; intro μ'; lhs; lhs; unfold f_M_moves_l2
    rw [(h.cg e.n).2.1, if_neg (P_le hP hi), if_pos eb, ix_n (by omega)]
    unfold f_M_moves_b81 f_M_moves_b82
    simp only [nme, y_s, if_pos eb, bs, gI_sI, gL_sI, gI_sL, gL_sL, reduceIte, Nat.reduceEqDiff, w1, iw, if_pos ebw, ix_n (show i < 2147483648 by omega)]
    by_cases c : gI μ 28 i = 0
    · rw [if_neg (not_not_intro c)]
      have e4 : gI μ 4 (wh μ i) = gI m 4 (wh m i) := by rw [ew]; exact (e 4 (wh m i) (by unfold boM; omega)).1
      have e7 : gI μ 7 (wh μ i) = gI m 7 (wh m i) := by rw [ew]; exact (e 7 (wh m i) (by unfold boM; omega)).1
      rw [e4, e7]
      have k0 : ∀ v, (v = if gI μ 26 i ≤ ((1 : Int32) + (gI m 4 (wh m i) + gI m 7 (wh m i)) / 4) + gI μ 27 i then 0 else gI μ 26 i - (((1 : Int32) + (gI m 4 (wh m i) + gI m 7 (wh m i)) / 4) + gI μ 27 i)) → EqOn boM μ (sI μ 26 i v) ∧ stM (sI μ 26 i v) i = onF (slF ((1 : Int32) + (gI m 4 (wh m i) + gI m 7 (wh m i)) / 4)) (stM μ i) ∧ ∀ j, j ≠ i → stM (sI μ 26 i v) j = stM μ j := by
        intro v hv
        refine ⟨EqOn.rf.sI (by unfold boM; omega), ?_, fun j hj => ?_⟩
        · unfold onF slF stM ft
          simp only [c, if_true, gI_sI, gL_sI, gI_sL, gL_sL, reduceIte, Nat.reduceEqDiff]
          rw [hv]
        · (unfold stM; simp only [gI_sI, gL_sI, gI_sL, gL_sL, if_neg hj, ite_self])
      by_cases c1 : gI μ 26 i ≤ ((1 : Int32) + (gI m 4 (wh m i) + gI m 7 (wh m i)) / 4) + gI μ 27 i
      · rw [if_pos c1] at k0 ⊢
        exact ⟨_, rfl, k0 _ rfl⟩
      · rw [if_neg c1] at k0 ⊢
        exact ⟨_, rfl, k0 _ rfl⟩
    · rw [if_pos c]
      refine ⟨_, rfl, EqOn.rf, ?_, fun j hj => rfl⟩
      unfold onF stM ft
      simp only [if_neg c]
  · conv => lhs; unfold f_M_moves_l2
    rw [(h.cg e.n).2.1, if_pos (P_re h.1)]

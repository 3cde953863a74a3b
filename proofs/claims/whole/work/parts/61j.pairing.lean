def n43 (a _k : Nat) : Prop := ¬ a = 43
theorem cst_cg {m m' : Mem} (e : EqOn n43 m m') (p q : Nat) : cst m' p q = cst m p q := by
  unfold cst
  rw [(e 42 _ (by unfold n43; omega)).1]
theorem minF_m {m m' : Mem} (e : EqOn n43 m m') {L : Nat → Int} {S : Nat} : ∀ d j a, minF m' L S d j a = minF m L S d j a := by
  intro d
  induction d with
  | zero => intro j a; rfl
  | succ d ih =>
    intro j a
    unfold minF
    rw [cst_cg e, ih]
theorem lcF_m {m m' : Mem} (e : EqOn n43 m m') : ∀ P S, lcF m' P S = lcF m P S := by
  intro P
  induction P with
  | zero => intro S; rfl
  | succ P ih =>
    intro S
    unfold lcF
    rw [show lcF m' P = lcF m P from funext ih, minF_m e]
theorem vlF_m {m m' : Mem} (e : EqOn n43 m m') (S j : Nat) : vlF m' S j = vlF m S j := by
  unfold vlF
  rw [cst_cg e, lcF_m e]
theorem mtB.cg {m m' : Mem} (h : mtB m) (e : EqOn n43 m m') : mtB m' := fun i hi => by
  rw [(e 42 i (by unfold n43; omega)).1]; exact h i hi
theorem l26_j {m0 : Mem} {S : Nat} (hB : mtB m0) (hS : S < 256) (h0 : S ≠ 0) (hev : pop S % 2 = 0) (kM : Int32 → Mem → Option Mem) : ∀ d n j a m, j + d = 8 → d < n → EqOn n43 m0 m → (∀ W, W < S → pop W % 2 = 0 → gI m 43 W = Int32.ofInt (lcF m0 4 W)) → gI m 43 S = eM a → oB 2000000 a → ∃ m', f_M_findPairs_l26 FN kM n (nI S) (nI j) m = kM (nI (S + 1)) m' ∧ EqOn n43 m0 m' ∧ (∀ W, W < S → pop W % 2 = 0 → gI m' 43 W = Int32.ofInt (lcF m0 4 W)) ∧ gI m' 43 S = eM (minF m0 (lcF m0 4) S d j a) := by
  obtain ⟨l1, l2, l3⟩ := (mk2 S hS).resolve_left h0
  have pb := (pop_b S hS).1
  have iS : ib (nI S) 256 = true := ib_n hS (by omega)
  have xS : ix (nI S) = S := ix_n (by omega)
  intro d
  induction d with
  | zero =>
    intro n j a m g1 g2 g3 g4 g5 g6
    obtain ⟨n', rfl⟩ : ∃ n', n = n' + 1 := ⟨n - 1, by omega⟩
    have hj : j = 8 := by omega
    subst hj
    refine ⟨m, ?_, g3, g4, g5⟩
    unfold f_M_findPairs_l26 f_M_findPairs_b102
    rw [if_pos (by decide), nme, y_s]
  | succ d ih =>
    intro n j a m g1 g2 g3 g4 g5 g6
    obtain ⟨n', rfl⟩ : ∃ n', n = n' + 1 := ⟨n - 1, by omega⟩
    have hj : j < 8 := by omega
    conv => congr; intro m'; lhs; lhs; unfold f_M_findPairs_l26
    unfold minF
    unfold f_M_findPairs_b84 f_M_findPairs_b96
    rw [if_neg (show ¬ (8 : Int32) ≤ nI j by show ¬ nI 8 ≤ nI j; rw [y_le (by omega) (by omega)]; omega), ones_e hS, bs, if_neg (not_not_intro ((mk5 _ (by omega)).mpr hev)), mk1 S hS j hj, firstM hS h0, bs]
    simp only [nme, y_s, if_pos iS, xS]
    by_cases c : bN S j
    · rw [if_pos c, if_neg (by decide)]
      by_cases c2 : j = lowB S
      · rw [if_pos (by rw [c2]), if_neg (fun q => q.2 c2)]
        exact ih n' (j + 1) a m (by omega) (by omega) g3 g4 g5 g6
      · rw [if_neg (show ¬ nI j = nI (lowB S) by rw [y_eq (by omega) (by omega)]; exact c2), if_pos (show bN S j ∧ j ≠ lowB S from ⟨c, c2⟩)]
        obtain ⟨_, _, w3, w4⟩ := mk3 hS l2 hj l1 c (Ne.symm c2)
        have cm := costsM (hB.cg g3) hS h0 hj c c2 (by rw [lcF_m g3]; exact g4 _ w3 (by omega))
        rw [vlF_m g3] at cm
        have vb := vl_b hB hS h0 hj c c2
        rw [cm, bs, bs, g5]
        have ev : cst m0 (lowB S) j + lcF m0 4 (wo S (lowB S) j) = vlF m0 S j := rfl
        rw [ev]
        generalize vlF m0 S j = v at vb ⊢
        have set : ∃ m', f_M_findPairs_l26 FN kM n' (nI S) (nI (j + 1)) (sI m 43 S (Int32.ofInt v)) = kM (nI (S + 1)) m' ∧ EqOn n43 m0 m' ∧ (∀ W, W < S → pop W % 2 = 0 → gI m' 43 W = Int32.ofInt (lcF m0 4 W)) ∧ gI m' 43 S = eM (minF m0 (lcF m0 4) S d (j + 1) (some v)) := ih n' (j + 1) (some v) (sI m 43 S (Int32.ofInt v)) (by omega) (by omega) (g3.sI (by unfold n43; omega)) (fun W h1 h2 => by rw [gI_sI, if_pos rfl, if_neg (by omega)]; exact g4 W h1 h2) (by rw [gI_sI, if_pos rfl, if_pos rfl]; rfl) (fun w hw => by have := Option.some.inj hw; omega)
        cases a with
        | none =>
          rw [if_pos (show eM none = -2147483648 from rfl)]
          exact set
        | some u =>
          have hu := g6 u rfl
          have eu : (eM (some u)).toInt = u := o32 (by omega)
          have evv : (Int32.ofInt v).toInt = v := o32 (by omega)
          rw [if_neg (fun q => by have := congrArg Int32.toInt q; rw [eu, show (-2147483648 : Int32).toInt = -2147483648 from rfl] at this; omega)]
          unfold stp
          by_cases q : u ≤ v
          · rw [if_pos (by rw [Int32.le_iff_toInt_le, eu, evv]; exact q)]
            simp only [if_pos q]
            exact ih n' (j + 1) (some u) m (by omega) (by omega) g3 g4 g5 g6
          · rw [if_neg (by rw [Int32.le_iff_toInt_le, eu, evv]; exact q)]
            simp only [if_neg q]
            exact set
    · rw [if_neg c, if_pos (by decide), if_neg (fun q => c q.1)]
      exact ih n' (j + 1) a m (by omega) (by omega) g3 g4 g5 g6
theorem l9_j {m0 : Mem} (hB : mtB m0) : ∀ d n S m, S + d = 256 → d < n → 1 ≤ S → EqOn n43 m0 m → (∀ W, W < S → pop W % 2 = 0 → gI m 43 W = Int32.ofInt (lcF m0 4 W)) → ∃ m', f_M_findPairs_l9 FN n (nI S) m = some m' ∧ EqOn n43 m0 m' ∧ ∀ W, W < 256 → pop W % 2 = 0 → gI m' 43 W = Int32.ofInt (lcF m0 4 W) := by
  intro d
  induction d with
  | zero =>
    intro n S m g1 g2 g3 g4 g5
    obtain ⟨n', rfl⟩ : ∃ n', n = n' + 1 := ⟨n - 1, by omega⟩
    have hS : S = 256 := by omega
    subst hS
    refine ⟨m, ?_, g4, g5⟩
    unfold f_M_findPairs_l9
    rw [if_pos (by decide)]
  | succ d ih =>
    intro n S m g1 g2 g3 g4 g5
    obtain ⟨n', rfl⟩ : ∃ n', n = n' + 1 := ⟨n - 1, by omega⟩
    have hS : S < 256 := by omega
    have h0 : S ≠ 0 := by omega
    have pb := (pop_b S hS).1
    conv => congr; intro m'; lhs; lhs; unfold f_M_findPairs_l9
    rw [if_neg (show ¬ (256 : Int32) ≤ nI S by show ¬ nI 256 ≤ nI S; rw [y_le (by omega) (by omega)]; omega), if_pos (ib_n hS (by omega)), nme, ix_n (by omega)]
    have e1 : EqOn n43 m0 (sI m 43 S (-2147483648)) := g4.sI (by unfold n43; omega)
    have e2 : ∀ W, W < S → pop W % 2 = 0 → gI (sI m 43 S (-2147483648)) 43 W = Int32.ofInt (lcF m0 4 W) := fun W h1 h2 => by rw [gI_sI, if_pos rfl, if_neg (by omega)]; exact g5 W h1 h2
    by_cases hev : pop S % 2 = 0
    · obtain ⟨m1, q1, q2, q3, q4⟩ := l26_j hB hS h0 hev (f_M_findPairs_l9 FN n') 8 FN 0 none (sI m 43 S (-2147483648)) (by omega) (FN_lt (by omega)) e1 e2 (by rw [gI_sI, if_pos rfl, if_pos rfl]; rfl) (fun v hv => by cases hv)
      rw [show (0 : Int32) = nI 0 from rfl, q1]
      refine ih n' (S + 1) m1 (by omega) (by omega) (by omega) q2 (fun W h1 h2 => ?_)
      by_cases z : W = S
      · subst z
        rw [q4, TS_e hS h0 hev]; rfl
      · exact q3 W (by omega) h2
    · have eq : f_M_findPairs_l26 FN (f_M_findPairs_l9 FN n') FN (nI S) 0 (sI m 43 S (-2147483648)) = f_M_findPairs_l9 FN n' (nI (S + 1)) (sI m 43 S (-2147483648)) := by
        show f_M_findPairs_l26 FN (f_M_findPairs_l9 FN n') (69999 + 1) (nI S) 0 (sI m 43 S (-2147483648)) = _
        unfold f_M_findPairs_l26 f_M_findPairs_b102
        rw [if_neg (by decide), ones_e hS, bs, if_pos (fun q => hev ((mk5 _ (by omega)).mp q)), nme, y_s]
      rw [eq]
      refine ih n' (S + 1) _ (by omega) (by omega) (by omega) e1 (fun W h1 h2 => ?_)
      by_cases z : W = S
      · subst z; exact absurd h2 hev
      · exact e2 W (by omega) h2
theorem findP {m : Mem} (hB : mtB m) : ∃ m', f_M_findPairs FN m = some m' ∧ EqOn n43 m m' ∧ ∀ W, W < 256 → pop W % 2 = 0 → gI m' 43 W = Int32.ofInt (lcF m 4 W) := by
  obtain ⟨m', q1, q2, q3⟩ := l9_j hB 255 FN 1 (sI m 43 0 0) (by omega) (FN_lt (by omega)) (by omega) (EqOn.rf.sI (by unfold n43; omega)) (fun W h1 h2 => by
    have : W = 0 := by omega
    subst this
    rw [gI_sI, if_pos rfl, if_pos rfl]
    unfold lcF
    rw [if_pos rfl]; rfl)
  refine ⟨m', ?_, q2, q3⟩
  unfold f_M_findPairs
  rw [if_pos (by decide), nme]
  exact q1
/-- the first mate at the least cost -/
def bestJ (m : Mem) (S f : Nat) : Prop := lowB S < f ∧ f < 8 ∧ bN S f ∧ (∀ k, k < 8 → bN S k → k ≠ lowB S → vlF m S f ≤ vlF m S k) ∧ (∀ k, lowB S < k → k < f → bN S k → vlF m S f < vlF m S k)
theorem bestX_l {x m : Mem} {c S P : Nat} (hM : iMet c x m) (hB : mtB m) (hS : S < 256) (h0 : S ≠ 0) (hP : P ≤ 3) (hpop : pop S ≤ 2 * (P + 1)) (hev : pop S % 2 = 0) : ∀ d n j f u, j + d = 8 → d < n → lowB S < j → ((f = -1 ∧ ∀ k, lowB S < k → k < j → ¬ bN S k) ∨ (∃ g, f = nI g ∧ u = Int64.ofInt (vlF m S g) ∧ lowB S < g ∧ g < j ∧ bN S g ∧ (∀ k, lowB S < k → k < j → bN S k → vlF m S g ≤ vlF m S k) ∧ (∀ k, lowB S < k → k < g → bN S k → vlF m S g < vlF m S k))) → ∃ f', f_X_bestMate_l11 FN x n (nI S) (nI (lowB S)) (nI (P + 1)) f u (nI j) = some f' ∧ ((f' = -1 ∧ ∀ k, lowB S < k → k < 8 → ¬ bN S k) ∨ ∃ g, f' = nI g ∧ bestJ m S g) := by
  obtain ⟨l1, l2, l3⟩ := (mk2 S hS).resolve_left h0
  intro d
  induction d with
  | zero =>
    intro n j f u g1 g2 g3 g4
    obtain ⟨n', rfl⟩ : ∃ n', n = n' + 1 := ⟨n - 1, by omega⟩
    have hj : j = 8 := by omega
    subst hj
    refine ⟨f, ?_, ?_⟩
    · unfold f_X_bestMate_l11
      rw [if_pos (by decide)]
    · rcases g4 with ⟨e1, e2⟩ | ⟨g, e1, e2, e3, e4, e5, e6, e7⟩
      · exact Or.inl ⟨e1, e2⟩
      · refine Or.inr ⟨g, e1, e3, e4, e5, fun k hk b1 b2 => ?_, e7⟩
        by_cases z : lowB S < k
        · exact e6 k z hk b1
        · exact absurd b1 (mk2b S hS k hk (by omega))
  | succ d ih =>
    intro n j f u g1 g2 g3 g4
    obtain ⟨n', rfl⟩ : ∃ n', n = n' + 1 := ⟨n - 1, by omega⟩
    have hj : j < 8 := by omega
    conv => congr; intro f'; lhs; lhs; unfold f_X_bestMate_l11
    unfold f_X_bestMate_b80 f_X_bestMate_b88
    rw [if_neg (show ¬ (8 : Int32) ≤ nI j by show ¬ nI 8 ≤ nI j; rw [y_le (by omega) (by omega)]; omega), mk1 S hS j hj]
    by_cases c : bN S j
    · rw [if_pos c, if_neg (by decide)]
      obtain ⟨w1, w2, w3, w4⟩ := mk3 hS l2 hj l1 c (by omega)
      have vb := vl_b hB hS h0 hj c (by omega)
      rw [nme, w1, costX hM hB l2 hj, bs, (sp1 P).2, leastX hM hB P 8 _ (by omega) (by omega) (by omega), bs, nme, ← Int64.ofInt_add, lc_4 (m := m) (show P ≤ 4 by omega) (show wo S (lowB S) j < 256 by omega) (by omega) (by omega), show cst m (lowB S) j + lcF m 4 (wo S (lowB S) j) = vlF m S j from rfl]
      simp only [nme, y_s]
      have take : (∀ k, lowB S < k → k < j → bN S k → vlF m S j < vlF m S k) → ∃ f', f_X_bestMate_l11 FN x n' (nI S) (nI (lowB S)) (nI (P + 1)) (nI j) (Int64.ofInt (vlF m S j)) (nI (j + 1)) = some f' ∧ ((f' = -1 ∧ ∀ k, lowB S < k → k < 8 → ¬ bN S k) ∨ ∃ g, f' = nI g ∧ bestJ m S g) := fun hlt => ih n' (j + 1) (nI j) (Int64.ofInt (vlF m S j)) (by omega) (by omega) (by omega) (Or.inr ⟨j, rfl, rfl, by omega, by omega, c, fun k h1 h2 b => by
        by_cases z : k = j
        · rw [z]; omega
        · have := hlt k h1 (by omega) b; omega, fun k h1 h2 b => hlt k h1 h2 b⟩)
      rcases g4 with ⟨e1, e2⟩ | ⟨g, e1, e2, e3, e4, e5, e6, e7⟩
      · rw [if_pos e1]
        exact take (fun k h1 h2 b => absurd b (e2 k h1 h2))
      · have ng : ¬ f = -1 := fun q => by
          rw [e1] at q
          have := congrArg Int32.toInt q
          rw [nI_t (by omega), show (-1 : Int32).toInt = -1 from rfl] at this; omega
        have vg := vl_b hB hS h0 (show g < 8 by omega) e5 (by omega)
        rw [if_neg ng, e2]
        by_cases q : vlF m S g ≤ vlF m S j
        · rw [if_pos (by rw [Int64.le_iff_toInt_le, o64 (by omega), o64 (by omega)]; exact q)]
          exact ih n' (j + 1) f _ (by omega) (by omega) (by omega) (Or.inr ⟨g, e1, rfl, e3, by omega, e5, fun k h1 h2 b => by
            by_cases z : k = j
            · rw [z]; exact q
            · exact e6 k h1 (by omega) b, e7⟩)
        · rw [if_neg (by rw [Int64.le_iff_toInt_le, o64 (by omega), o64 (by omega)]; exact q)]
          exact take (fun k h1 h2 b => by have := e6 k h1 h2 b; omega)
    · rw [if_neg c, if_pos rfl, nme, y_s]
      refine ih n' (j + 1) f u (by omega) (by omega) (by omega) ?_
      rcases g4 with ⟨e1, e2⟩ | ⟨g, e1, e2, e3, e4, e5, e6, e7⟩
      · exact Or.inl ⟨e1, fun k h1 h2 b => by
          by_cases z : k = j
          · subst z; exact c b
          · exact e2 k h1 (by omega) b⟩
      · exact Or.inr ⟨g, e1, e2, e3, by omega, e5, fun k h1 h2 b => by
          by_cases z : k = j
          · subst z; exact absurd b c
          · exact e6 k h1 (by omega) b, e7⟩

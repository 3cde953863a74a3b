def nrm (t v : Int64) : Int64 := if (0 : Int64) ≤ t then v else -v
def pT (a : Nat → Nat → Int64) (R C : Nat) : Int64 := sm (fun k => sm (cfX a R C k) 4) 4
def nT (a : Nat → Nat → Int64) (R C : Nat) : Int64 := nrm (pT a R C) (pT a R C)
def nD (a : Nat → Nat → Int64) (R C : Nat) : Int64 := nrm (pT a R C) (dD a (pop R) R C)
def nRS (a : Nat → Nat → Int64) (R C j : Nat) : Int64 := nrm (pT a R C) (sm (cfX a R C j) 4)
def nCS (a : Nat → Nat → Int64) (R C j : Nat) : Int64 := nrm (pT a R C) (sm (fun o => cfX a R C o j) 4)
theorem sm_ext {f g : Nat → Int64} : ∀ k, (∀ j, j < k → f j = g j) → sm f k = sm g k := by
  intro k
  induction k with
  | zero => intro _; rfl
  | succ k ih =>
    intro h
    unfold sm
    rw [ih (fun j hj => h j (by omega)), h k (by omega)]
theorem okP_ext {a a' : Nat → Nat → Int64} {r c : Nat} {T D T' D' : Int64} {RS CS RS' CS' : Nat → Int64} (hr : r ≤ 4) (hc : c ≤ 4) (ha : ∀ i j, i < 4 → j < 4 → a i j = a' i j) (e1 : T = T') (e2 : D = D') (e3 : ∀ j, j < 4 → RS j = RS' j) (e4 : ∀ j, j < 4 → CS j = CS' j) (h : okP a r c T D RS CS) : okP a' r c T' D' RS' CS' := by
  obtain ⟨h1, h2, h3, h4⟩ := h
  subst e1; subst e2
  refine ⟨h1, fun j g1 g2 => by rw [← e3 j g2, ← e4 j g2]; exact h2 j g1 g2, fun k g1 g2 => ?_, fun k g1 g2 => ?_⟩
  · have := h3 k g1 g2
    rw [sm_ext (g := fun j => a' k j * CS' j) c (fun j hj => by rw [ha k j (by omega) (by omega), e4 j (by omega)])] at this
    exact this
  · have := h4 k g1 g2
    rw [sm_ext (g := fun i => a' i k * RS' i) r (fun i hi => by rw [ha i k (by omega) (by omega), e3 i (by omega)])] at this
    exact this
def okN (a : Nat → Nat → Int64) (r c R C : Nat) : Prop := okP a r c (nT a R C) (nD a R C) (nRS a R C) (nCS a R C)
/-- the class's memory holds what a part comes to -/
def holX (a : Nat → Nat → Int64) (R C : Nat) (x : Mem) : Prop := gL x 23 8 = nT a R C ∧ gL x 23 9 = nD a R C ∧ ∀ j, j < 4 → gL x 31 j = nRS a R C j ∧ gL x 32 j = nCS a R C j
theorem cs20 : ∀ d n k x, k + d = 4 → d < n → ∃ x', f_Ch_changeSigns_l20 FN n (nI k) x = some x' ∧ EqOn (fun a _ => ¬ a = 31 ∧ ¬ a = 32) x x' ∧ ∀ j, j < 4 → gL x' 31 j = (if k ≤ j then -(gL x 31 j) else gL x 31 j) ∧ gL x' 32 j = (if k ≤ j then -(gL x 32 j) else gL x 32 j) := by
  intro d
  induction d with
  | zero =>
    intro n k x g1 g2
    obtain ⟨n', rfl⟩ : ∃ n', n = n' + 1 := ⟨n - 1, by omega⟩
    have hk : k = 4 := by omega
    subst hk
    refine ⟨x, ?_, EqOn.rf, fun j hj => ?_⟩
    · unfold f_Ch_changeSigns_l20
      rw [if_pos (by decide)]
    · rw [if_neg (by omega), if_neg (by omega)]
      exact ⟨rfl, rfl⟩
  | succ d ih =>
    intro n k x g1 g2
    obtain ⟨n', rfl⟩ : ∃ n', n = n' + 1 := ⟨n - 1, by omega⟩
    have hk : k < 4 := by omega
    have ek : ib (nI k) 4 = true := ib_n hk (by omega)
    obtain ⟨x', q1, q2, q3⟩ := ih n' (k + 1) (sL (sL x 31 k (-(gL x 31 k))) 32 k (-(gL x 32 k))) (by omega) (by omega)
    have r1 : gL (sL x 31 k (-(gL x 31 k))) 32 k = gL x 32 k := by rw [gL_sL, if_neg (by omega)]
    refine ⟨x', ?_, ((EqOn.rf.sL (by simp)).sL (by simp)).tr q2, fun j hj => ?_⟩
    · unfold f_Ch_changeSigns_l20
      rw [if_neg (show ¬ (4 : Int32) ≤ nI k by show ¬ nI 4 ≤ nI k; rw [y_le (by omega) (by omega)]; omega), if_pos ek, if_pos ek, nme, if_pos ek, if_pos ek, nme, nme, ix_n (by omega), r1, y_s]
      exact q1
    · obtain ⟨w1, w2⟩ := q3 j hj
      rw [w1, w2]
      simp only [gL_sL, reduceIte, Nat.reduceEqDiff]
      by_cases z : j = k
      · subst z
        simp only [if_true, if_neg (show ¬ j + 1 ≤ j by omega), if_pos (show j ≤ j by omega)]
        exact ⟨trivial, trivial⟩
      · simp only [if_neg z]
        by_cases y : k ≤ j
        · simp only [if_pos y, if_pos (show k + 1 ≤ j by omega)]
          exact ⟨trivial, trivial⟩
        · simp only [if_neg y, if_neg (show ¬ k + 1 ≤ j by omega)]
          exact ⟨trivial, trivial⟩
/-- a part tried by the class -/
theorem partX {x : Mem} {a : Nat → Nat → Int64} {R C r c : Nat} (hr : r ≤ 4) (hc : c ≤ 4) (h0 : gI x 23 0 = nI r) (h1 : gI x 23 1 = nI c) (ha : ∀ i j, i < 4 → j < 4 → aX x i j = a i j) (hT : tabF a x) (hR : R < 16) (hC : C < 16) (hp : pop R = pop C) : ∃ x', EqOn soX x x' ∧ holX a R C x' ∧ (okN a r c R C → f_Ch_solveByPart FN x (nI R) (nI C) = some (1, x')) ∧ (¬ okN a r c R C → f_Ch_solveByPart FN x (nI R) (nI C) = some (0, x')) := by
  have e0 : EqOn soX x (sL x 23 8 0) := EqOn.rf.sL (by unfold soX; omega)
  obtain ⟨x1, q1, q2, q3, q4, q5⟩ := so7 hR hC hp 4 FN 0 (sL x 23 8 0) (by omega) (FN_lt (by omega)) (hT.cg e0) (by rw [gL_sL, if_pos rfl, if_pos rfl]; rfl) (fun j hj => absurd hj (by omega))
  have ex := e0.tr q2
  have fin : ∀ y, EqOn soX x y → holX a R C y → (okN a r c R C → f_Ch_solveByPart_b126 FN y = some (1, y)) ∧ (¬ okN a r c R C → f_Ch_solveByPart_b126 FN y = some (0, y)) := by
    intro y ey hy
    obtain ⟨y1, y2, y3⟩ := hy
    have ay : ∀ i j, i < 4 → j < 4 → aX y i j = a i j := fun i j hi hj => by
      rw [← ha i j hi hj]
      unfold aX
      rw [(ey (27 + i) j (by unfold soX; omega)).1]
    have ck := chkX hr hc (by rw [(ey 23 0 (by unfold soX; omega)).1]; exact h0) (by rw [(ey 23 1 (by unfold soX; omega)).1]; exact h1)
    refine ⟨fun q => ck.1 (okP_ext hr hc (fun i j hi hj => (ay i j hi hj).symm) y1.symm y2.symm (fun j hj => (y3 j hj).1.symm) (fun j hj => (y3 j hj).2.symm) q), fun q => ck.2 (fun w => q (okP_ext hr hc ay y1 y2 (fun j hj => (y3 j hj).1) (fun j hj => (y3 j hj).2) w))⟩
  have eP : f_Ch_solveByPart FN x (nI R) (nI C) = (if (0 : Int64) ≤ gL x1 23 8 then f_Ch_solveByPart_b126 FN x1 else Option.bind (f_Ch_changeSigns FN x1) (fun μ3 => f_Ch_solveByPart_b126 FN μ3)) := by
    unfold f_Ch_solveByPart
    rw [nme]
    exact q1
  rw [eP]
  have qp : gL x1 23 8 = pT a R C := q3
  by_cases z : (0 : Int64) ≤ gL x1 23 8
  · rw [if_pos z]
    have z' : (0 : Int64) ≤ pT a R C := by rw [← qp]; exact z
    refine ⟨x1, ex, ⟨?_, ?_, fun j hj => ?_⟩, fin x1 ex ⟨?_, ?_, fun j hj => ?_⟩⟩
    all_goals first
      | (unfold nT nrm; rw [if_pos z']; exact qp)
      | (unfold nD nrm; rw [if_pos z']; exact q4)
      | (unfold nRS nCS nrm; rw [if_pos z', if_pos z']; exact q5 j hj)
  · rw [if_neg z]
    have z' : ¬ (0 : Int64) ≤ pT a R C := by rw [← qp]; exact z
    obtain ⟨x2, w1, w2, w3⟩ := cs20 4 FN 0 (sL (sL x1 23 8 (-(gL x1 23 8))) 23 9 (-(gL x1 23 9))) (by omega) (FN_lt (by omega))
    have ecs : f_Ch_changeSigns FN x1 = some x2 := by
      unfold f_Ch_changeSigns
      rw [nme, nme, show gL (sL x1 23 8 (-(gL x1 23 8))) 23 9 = gL x1 23 9 from rfl]
      exact w1
    have ex2 : EqOn soX x x2 := ex.tr (((EqOn.rf.sL (by unfold soX; omega)).sL (by unfold soX; omega)).tr (w2.mono (fun b j q => by unfold soX at q; omega)))
    have hol : holX a R C x2 := by
      refine ⟨?_, ?_, fun j hj => ?_⟩
      · rw [(w2 23 8 (by omega)).2.1]
        unfold nT nrm
        rw [if_neg z', ← qp]; rfl
      · rw [(w2 23 9 (by omega)).2.1]
        unfold nD nrm
        rw [if_neg z', ← q4]; rfl
      · obtain ⟨u1, u2⟩ := w3 j hj
        rw [u1, u2, if_pos (by omega), if_pos (by omega)]
        unfold nRS nCS nrm
        rw [if_neg z', if_neg z', ← (q5 j hj).1, ← (q5 j hj).2]
        exact ⟨rfl, rfl⟩
    rw [ecs, bs]
    exact ⟨x2, ex2, hol, fin x2 ex2 hol⟩

def mk9P (S p : Nat) : Bool := decide (f_JI_bitCount (nI S &&& (((1 : Int32) <<< (nI p &&& 31)) - 1)) = some (nI (pop (S % 2 ^ p)))) && decide (pop (S % 2 ^ p) ≤ 4)
theorem mk9a : ∀ S, S < 16 → ∀ p, p < 4 → mk9P S p = true := by decide +kernel
theorem mk9 {S p : Nat} (hS : S < 16) (hp : p < 4) : f_JI_bitCount (nI S &&& (((1 : Int32) <<< (nI p &&& 31)) - 1)) = some (nI (pop (S % 2 ^ p))) ∧ pop (S % 2 ^ p) ≤ 4 := by
  have h := mk9a S hS p hp
  unfold mk9P at h
  simp only [Bool.and_eq_true, decide_eq_true_eq] at h
  exact h
/-- a cofactor of a part, 0 outside of it -/
def cfX (a : Nat → Nat → Int64) (R C i j : Nat) : Int64 := if bN R i ∧ bN C j then (if (pop (R % 2 ^ i) + pop (C % 2 ^ j)) % 2 = 0 then dD a (pop (R - 2 ^ i)) (R - 2 ^ i) (C - 2 ^ j) else -(dD a (pop (R - 2 ^ i)) (R - 2 ^ i) (C - 2 ^ j))) else 0
def tabF (a : Nat → Nat → Int64) (x : Mem) : Prop := ∀ R C, R < 16 → C < 16 → pop R = pop C → gL x 33 (16 * R + C) = dD a (pop R) R C
theorem cofX {x : Mem} {a : Nat → Nat → Int64} {R C i j : Nat} (hT : tabF a x) (hR : R < 16) (hC : C < 16) (hp : pop R = pop C) (hi : i < 4) (hj : j < 4) : f_Ch_cofactor x (nI R) (nI C) (nI i) (nI j) = some (cfX a R C i j) := by
  obtain ⟨p1, p2⟩ := mk9 hR hi
  obtain ⟨q1, q2⟩ := mk9 hC hj
  unfold f_Ch_cofactor cfX
  rw [mk1 R (by omega) i (by omega), mk1 C (by omega) j (by omega)]
  by_cases c1 : bN R i
  · by_cases c2 : bN C j
    · obtain ⟨_, e2, e3⟩ := mk7 hR hi c1
      obtain ⟨_, f2, f3⟩ := mk7 hC hj c2
      have m5 := mk5 (pop (R % 2 ^ i) + pop (C % 2 ^ j)) (by omega)
      rw [if_pos c1, if_pos c2, if_neg (by decide), if_pos (by decide), p1, bs, q1, bs, minorX hR hC hi hj c1 c2, bs, hT _ _ (by omega) (by omega) (by omega), y_add, if_pos (show bN R i ∧ bN C j from ⟨c1, c2⟩)]
      by_cases c3 : (pop (R % 2 ^ i) + pop (C % 2 ^ j)) % 2 = 0
      · rw [if_neg (not_not_intro (m5.mpr c3)), if_pos c3]
      · rw [if_pos (show ¬ nI (pop (R % 2 ^ i) + pop (C % 2 ^ j)) - nI (pop (R % 2 ^ i) + pop (C % 2 ^ j)) / 2 * 2 = 0 from fun q => c3 (m5.mp q)), if_neg c3]
    · rw [if_pos c1, if_neg c2, if_neg (by decide), if_neg (by decide), if_neg (fun q => c2 q.2)]
  · rw [if_neg c1, if_pos rfl, if_neg (fun q => c1 q.1)]
def sm (f : Nat → Int64) : Nat → Int64
  | 0 => 0
  | k + 1 => sm f k + f k
def soX (a k : Nat) : Prop := ¬ a = 31 ∧ ¬ a = 32 ∧ ¬ (a = 23 ∧ (k = 8 ∨ k = 9))
theorem tabF.cg {a : Nat → Nat → Int64} {x x' : Mem} (h : tabF a x) (e : EqOn soX x x') : tabF a x' := fun R C h1 h2 h3 => by
  rw [(e 33 _ (by unfold soX; omega)).2.1]; exact h R C h1 h2 h3
theorem so29 {a : Nat → Nat → Int64} {R C k : Nat} (hR : R < 16) (hC : C < 16) (hp : pop R = pop C) (hk : k < 4) (kX : Int32 → Int32 → Int32 → Mem → Option (Int32 × Mem)) : ∀ d n o x, o + d = 4 → d < n → tabF a x → gL x 31 k = sm (cfX a R C k) o → gL x 32 k = sm (fun o => cfX a R C o k) o → ∃ x', f_Ch_solveByPart_l29 FN kX n (nI R) (nI C) (nI k) (nI o) x = kX (nI R) (nI C) (nI (k + 1)) x' ∧ EqOn (fun b j => ¬ (b = 31 ∧ j = k) ∧ ¬ (b = 32 ∧ j = k) ∧ ¬ (b = 23 ∧ j = 8)) x x' ∧ gL x' 31 k = sm (cfX a R C k) 4 ∧ gL x' 32 k = sm (fun o => cfX a R C o k) 4 ∧ gL x' 23 8 = gL x 23 8 + sm (cfX a R C k) 4 := by
  have ek : ib (nI k) 4 = true := ib_n hk (by omega)
  have xk : ix (nI k) = k := ix_n (by omega)
  intro d
  induction d with
  | zero =>
    intro n o x g1 g2 hT s1 s2
    obtain ⟨n', rfl⟩ : ∃ n', n = n' + 1 := ⟨n - 1, by omega⟩
    have ho : o = 4 := by omega
    subst ho
    refine ⟨sL x 23 8 (gL x 23 8 + gL x 31 k), ?_, EqOn.rf.sL (by omega), ?_, ?_, ?_⟩
    · unfold f_Ch_solveByPart_l29
      rw [if_pos (by decide), if_pos ek, nme, nme, xk, y_s]
    · rw [gL_sL, if_neg (by omega)]; exact s1
    · rw [gL_sL, if_neg (by omega)]; exact s2
    · rw [gL_sL, if_pos rfl, if_pos rfl, s1]
  | succ d ih =>
    intro n o x g1 g2 hT s1 s2
    obtain ⟨n', rfl⟩ : ∃ n', n = n' + 1 := ⟨n - 1, by omega⟩
    have ho : o < 4 := by omega
    have t1 : tabF a (sL x 31 k (sm (cfX a R C k) o + cfX a R C k o)) := hT.cg (EqOn.rf.sL (by unfold soX; omega))
    have t2 : tabF a (sL (sL x 31 k (sm (cfX a R C k) o + cfX a R C k o)) 32 k (sm (fun o => cfX a R C o k) o + cfX a R C o k)) := t1.cg (EqOn.rf.sL (by unfold soX; omega))
    have r1 : gL (sL x 31 k (sm (cfX a R C k) o + cfX a R C k o)) 32 k = sm (fun o => cfX a R C o k) o := by
      rw [gL_sL, if_neg (by omega)]; exact s2
    have eX : f_Ch_solveByPart_l29 FN kX (n' + 1) (nI R) (nI C) (nI k) (nI o) x = f_Ch_solveByPart_l29 FN kX n' (nI R) (nI C) (nI k) (nI (o + 1)) (sL (sL x 31 k (sm (cfX a R C k) o + cfX a R C k o)) 32 k (sm (fun o => cfX a R C o k) o + cfX a R C o k)) := by
      conv => lhs; unfold f_Ch_solveByPart_l29
      rw [if_neg (show ¬ (4 : Int32) ≤ nI o by show ¬ nI 4 ≤ nI o; rw [y_le (by omega) (by omega)]; omega), if_pos ek, cofX hT hR hC hp hk ho, bs, if_pos ek, xk, s1, nme, if_pos ek, cofX t1 hR hC hp ho hk, bs, if_pos ek, r1, nme, nme, y_s]
    rw [eX]
    obtain ⟨x', q1, q2, q3, q4, q5⟩ := ih n' (o + 1) _ (by omega) (by omega) t2 (by
      rw [gL_sL, if_neg (by omega), gL_sL, if_pos rfl, if_pos rfl]; rfl) (by
      rw [gL_sL, if_pos rfl, if_pos rfl]; rfl)
    refine ⟨x', q1, ((EqOn.rf.sL (by omega)).sL (by omega)).tr q2, q3, q4, ?_⟩
    rw [q5]; rfl
/-- what a part comes to, before its sign is set -/
theorem so7 {a : Nat → Nat → Int64} {R C : Nat} (hR : R < 16) (hC : C < 16) (hp : pop R = pop C) : ∀ d n k x, k + d = 4 → d < n → tabF a x → gL x 23 8 = sm (fun k => sm (cfX a R C k) 4) k → (∀ j, j < k → gL x 31 j = sm (cfX a R C j) 4 ∧ gL x 32 j = sm (fun o => cfX a R C o j) 4) → ∃ x', f_Ch_solveByPart_l7 FN n (nI R) (nI C) (nI k) x = (if (0 : Int64) ≤ gL x' 23 8 then f_Ch_solveByPart_b126 FN x' else Option.bind (f_Ch_changeSigns FN x') (fun μ3 => f_Ch_solveByPart_b126 FN μ3)) ∧ EqOn soX x x' ∧ gL x' 23 8 = sm (fun k => sm (cfX a R C k) 4) 4 ∧ gL x' 23 9 = dD a (pop R) R C ∧ ∀ j, j < 4 → gL x' 31 j = sm (cfX a R C j) 4 ∧ gL x' 32 j = sm (fun o => cfX a R C o j) 4 := by
  intro d
  induction d with
  | zero =>
    intro n k x g1 g2 hT s1 s2
    obtain ⟨n', rfl⟩ : ∃ n', n = n' + 1 := ⟨n - 1, by omega⟩
    have hk : k = 4 := by omega
    subst hk
    refine ⟨sL x 23 9 (dD a (pop R) R C), ?_, EqOn.rf.sL (by unfold soX; omega), s1, ?_, s2⟩
    · unfold f_Ch_solveByPart_l7
      have e : nI R * 16 + nI C = nI (16 * R + C) := by
        have q : (16 : Int32) * nI R = nI (16 * R) := y_mul 16 _
        have q2 : nI R * 16 = nI (16 * R) := by rw [← q]; grind
        rw [q2, y_add]
      rw [if_pos (by decide), e, if_pos (ib_n (show 16 * R + C < 256 by omega) (by omega)), ix_n (by omega), hT R C hR hC hp, nme]
    · rw [gL_sL, if_pos rfl, if_pos rfl]
  | succ d ih =>
    intro n k x g1 g2 hT s1 s2
    obtain ⟨n', rfl⟩ : ∃ n', n = n' + 1 := ⟨n - 1, by omega⟩
    have hk : k < 4 := by omega
    have ek : ib (nI k) 4 = true := ib_n hk (by omega)
    have t2 : tabF a (sL (sL x 31 k 0) 32 k 0) := hT.cg ((EqOn.rf.sL (by unfold soX; omega)).sL (by unfold soX; omega))
    obtain ⟨x1, q1, q2, q3, q4, q5⟩ := so29 (a := a) hR hC hp hk (f_Ch_solveByPart_l7 FN n') 4 FN 0 (sL (sL x 31 k 0) 32 k 0) (by omega) (FN_lt (by omega)) t2 (by
      rw [gL_sL, if_neg (by omega), gL_sL, if_pos rfl, if_pos rfl]; rfl) (by rw [gL_sL, if_pos rfl, if_pos rfl]; rfl)
    have eX : f_Ch_solveByPart_l7 FN (n' + 1) (nI R) (nI C) (nI k) x = f_Ch_solveByPart_l7 FN n' (nI R) (nI C) (nI (k + 1)) x1 := by
      conv => lhs; unfold f_Ch_solveByPart_l7
      rw [if_neg (show ¬ (4 : Int32) ≤ nI k by show ¬ nI 4 ≤ nI k; rw [y_le (by omega) (by omega)]; omega), if_pos ek, nme, if_pos ek, nme, ix_n (by omega)]
      exact q1
    have e1 : EqOn soX x x1 := ((EqOn.rf.sL (by unfold soX; omega)).sL (by unfold soX; omega)).tr (q2.mono (fun b j z => by unfold soX at z; omega))
    rw [eX]
    obtain ⟨x', w1, w2, w3, w4, w5⟩ := ih n' (k + 1) x1 (by omega) (by omega) (hT.cg e1) (by rw [q5]; show gL x 23 8 + _ = _; rw [s1]; rfl) (fun j hj => by
      by_cases z : j = k
      · subst z; exact ⟨q3, q4⟩
      · rw [(q2 31 j (by omega)).2.1, (q2 32 j (by omega)).2.1]
        have := s2 j (by omega)
        simp only [gL_sL, reduceIte, Nat.reduceEqDiff, if_neg z]
        exact this)
    exact ⟨x', w1, e1.tr w2, w3, w4, w5⟩

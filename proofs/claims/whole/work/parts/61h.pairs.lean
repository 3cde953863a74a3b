def cst (m : Mem) (p q : Nat) : Int := ((gI m 42 (8 * p + q)).toInt + 1) * ((gI m 42 (8 * p + q)).toInt + 1)
def stp (a : Option Int) (v : Int) : Option Int := match a with
  | none => some v
  | some u => if u ≤ v then some u else some v
def minF (m : Mem) (L : Nat → Int) (S : Nat) : Nat → Nat → Option Int → Option Int
  | 0, _, a => a
  | d + 1, j, a => minF m L S d (j + 1) (if bN S j ∧ j ≠ lowB S then stp a (cst m (lowB S) j + L (wo S (lowB S) j)) else a)
def lcF (m : Mem) : Nat → Nat → Int
  | 0, _ => 0
  | P + 1, S => if S = 0 then 0 else (minF m (lcF m P) S 8 0 none).getD 0
def oB (U : Int) (a : Option Int) : Prop := ∀ v, a = some v → 0 ≤ v ∧ v ≤ U
theorem stp_b {U v : Int} {a : Option Int} (h : oB U a) (hv : 0 ≤ v ∧ v ≤ U) : oB U (stp a v) := by
  intro w hw
  unfold stp at hw
  cases a with
  | none =>
    have := Option.some.inj hw
    omega
  | some u =>
    have hu := h u rfl
    simp only at hw
    split at hw
    · have := Option.some.inj hw
      omega
    · have := Option.some.inj hw
      omega
theorem minF_b {m : Mem} {L : Nat → Int} {S : Nat} {U : Int} (hv : ∀ j, j < 8 → bN S j → j ≠ lowB S → 0 ≤ cst m (lowB S) j + L (wo S (lowB S) j) ∧ cst m (lowB S) j + L (wo S (lowB S) j) ≤ U) : ∀ d j a, j + d ≤ 8 → oB U a → oB U (minF m L S d j a) := by
  intro d
  induction d with
  | zero => intro j a _ h; exact h
  | succ d ih =>
    intro j a hj h
    unfold minF
    refine ih (j + 1) _ (by omega) ?_
    split
    · rename_i c
      exact stp_b h (hv j (by omega) c.1 c.2)
    · exact h
def mtB (m : Mem) : Prop := ∀ i, i < 64 → 0 ≤ (gI m 42 i).toInt ∧ (gI m 42 i).toInt ≤ 512
theorem cst_b {m : Mem} (h : mtB m) {p q : Nat} (hp : p < 8) (hq : q < 8) : 1 ≤ cst m p q ∧ cst m p q ≤ 263169 := by
  obtain ⟨a, b⟩ := h (8 * p + q) (by omega)
  unfold cst
  have k := Int.mul_le_mul (show (gI m 42 (8 * p + q)).toInt + 1 ≤ 513 by omega) (show (gI m 42 (8 * p + q)).toInt + 1 ≤ 513 by omega) (by omega) (by omega)
  have k2 := Int.mul_le_mul (show (1 : Int) ≤ (gI m 42 (8 * p + q)).toInt + 1 by omega) (show (1 : Int) ≤ (gI m 42 (8 * p + q)).toInt + 1 by omega) (by omega) (by omega)
  omega
theorem lcF_b {m : Mem} (h : mtB m) : ∀ P S, S < 256 → 0 ≤ lcF m P S ∧ lcF m P S ≤ 263169 * (P : Int) := by
  intro P
  induction P with
  | zero => intro S _; unfold lcF; omega
  | succ P ih =>
    intro S hS
    unfold lcF
    by_cases c : S = 0
    · rw [if_pos c]; omega
    · rw [if_neg c]
      obtain ⟨l1, l2, l3⟩ := (mk2 S hS).resolve_left c
      have b := minF_b (m := m) (L := lcF m P) (S := S) (U := 263169 * ((P + 1 : Nat) : Int)) (fun j hj b1 b2 => by
        have c1 := cst_b h l2 hj
        obtain ⟨_, _, w1, w2⟩ := mk3 hS l2 hj l1 b1 (Ne.symm b2)
        have c2 := ih (wo S (lowB S) j) (by omega)
        omega) 8 0 none (by omega) (fun v hv => by cases hv)
      cases e : minF m (lcF m P) S 8 0 none with
      | none => simp only [Option.getD_none]; omega
      | some v => simp only [Option.getD_some]; exact b v e
theorem o64 {v : Int} (h : -9223372036854775808 ≤ v ∧ v ≤ 9223372036854775807) : (Int64.ofInt v).toInt = v := by
  rw [Int64.toInt_ofInt]; exact bm64 h.1 h.2
theorem o32 {v : Int} (h : -2147483648 ≤ v ∧ v ≤ 2147483647) : (Int32.ofInt v).toInt = v := by
  rw [Int32.toInt_ofInt]; exact bm32 h.1 h.2
def eX (a : Option Int) : Int64 := match a with
  | none => -1
  | some v => Int64.ofInt v
theorem costX {x m : Mem} {c p q : Nat} (hM : iMet c x m) (hB : mtB m) (hp : p < 8) (hq : q < 8) : f_X_costOfPair x (nI p) (nI q) = some (Int64.ofInt (cst m p q)) := by
  have np : (nI p).toInt = (p : Int) := nI_t (by omega)
  have nq : (nI q).toInt = (q : Int) := nI_t (by omega)
  have b := hB (8 * p + q) (by omega)
  have cb := cst_b hB hp hq
  have e1 : ((gI m 42 (8 * p + q)).toInt64 + 1).toInt = (gI m 42 (8 * p + q)).toInt + 1 := by
    rw [a64, Int32.toInt_toInt64, show (1 : Int64).toInt = 1 from rfl] <;> rw [Int32.toInt_toInt64, show (1 : Int64).toInt = 1 from rfl] <;> omega
  unfold cst at cb
  unfold f_X_costOfPair
  rw [bOw, if_pos (by omega), if_neg (by decide), bOw, if_pos (by omega), if_pos (by decide), (ix8 hp hq).1, if_pos (ib_n (by omega) (by omega)), nme, ix_n (by omega), (hM _ (by omega)).1]
  congr 1
  apply Int64.toInt_inj.mp
  unfold cst
  rw [o64 (by omega), m64, e1] <;> rw [e1] <;> omega
theorem leastX_l {x m : Mem} {c S P : Nat} {rc : Int32 → Int32 → Option Int64} (hM : iMet c x m) (hB : mtB m) (hS : S < 256) (h0 : S ≠ 0) (hP : P ≤ 4) (hrc : ∀ W, W < 256 → rc (nI W) (nI P) = some (Int64.ofInt (lcF m P W))) : ∀ dd n j a, j + dd = 8 → dd < n → lowB S < j → oB 2000000 a → f_X_leastCost_l25 rc FN x n (nI S) (nI (P + 1)) (nI (lowB S)) (eX a) (nI j) = some (Int64.ofInt ((minF m (lcF m P) S dd j a).getD 0)) := by
  obtain ⟨l1, l2, l3⟩ := (mk2 S hS).resolve_left h0
  have z0 : (0 : Int64).toInt = 0 := rfl
  intro dd
  induction dd with
  | zero =>
    intro n j a g1 g2 g3 g4
    obtain ⟨n', rfl⟩ : ∃ n', n = n' + 1 := ⟨n - 1, by omega⟩
    have hj : j = 8 := by omega
    subst hj
    unfold f_X_leastCost_l25 minF f_JM_max2
    rw [if_pos (by decide)]
    cases a with
    | none => rfl
    | some v =>
      have hv := g4 v rfl
      unfold eX
      simp only [Option.getD_some]
      by_cases c : (0 : Int64) < Int64.ofInt v
      · rw [if_pos c, bs]
      · rw [if_neg c, bs]
        rw [Int64.lt_iff_toInt_lt, o64 (by omega), z0] at c
        have : v = 0 := by omega
        rw [this]; rfl
  | succ dd ih =>
    intro n j a g1 g2 g3 g4
    obtain ⟨n', rfl⟩ : ∃ n', n = n' + 1 := ⟨n - 1, by omega⟩
    have hj : j < 8 := by omega
    unfold f_X_leastCost_l25 minF
    unfold f_X_leastCost_b89 f_X_leastCost_b96 f_X_leastCost_b98
    rw [if_neg (show ¬ (8 : Int32) ≤ nI j by show ¬ nI 8 ≤ nI j; rw [y_le (by omega) (by omega)]; omega), mk1 S hS j hj]
    by_cases c : bN S j
    · rw [if_pos c, if_neg (by decide), if_pos (show bN S j ∧ j ≠ lowB S from ⟨c, by omega⟩)]
      obtain ⟨w1, w2, w3, w4⟩ := mk3 hS l2 hj l1 c (by omega)
      have cb := cst_b hB l2 hj
      have lb := lcF_b hB P (wo S (lowB S) j) (by omega)
      have hP' : (P : Int) ≤ 4 := by omega
      rw [nme, w1, costX hM hB l2 hj, bs, (sp1 P).2, hrc _ (by omega), bs, nme, ← Int64.ofInt_add]
      simp only [nme, y_s]
      have vb : 0 ≤ cst m (lowB S) j + lcF m P (wo S (lowB S) j) ∧ cst m (lowB S) j + lcF m P (wo S (lowB S) j) ≤ 2000000 := by omega
      generalize cst m (lowB S) j + lcF m P (wo S (lowB S) j) = v at vb ⊢
      cases a with
      | none =>
        rw [if_pos (show eX none < 0 by decide)]
        exact ih n' (j + 1) (some v) (by omega) (by omega) (by omega) (fun w hw => by have := Option.some.inj hw; omega)
      | some u =>
        have hu := g4 u rfl
        have eu : (eX (some u)).toInt = u := o64 (by omega)
        have ev : (Int64.ofInt v).toInt = v := o64 (by omega)
        rw [if_neg (by rw [Int64.lt_iff_toInt_lt, eu, z0]; omega)]
        unfold stp
        by_cases q : u ≤ v
        · rw [if_pos (by rw [Int64.le_iff_toInt_le, eu, ev]; exact q)]
          simp only [if_pos q]
          exact ih n' (j + 1) (some u) (by omega) (by omega) (by omega) g4
        · rw [if_neg (by rw [Int64.le_iff_toInt_le, eu, ev]; exact q)]
          simp only [if_neg q]
          exact ih n' (j + 1) (some v) (by omega) (by omega) (by omega) (fun w hw => by have := Option.some.inj hw; omega)
    · rw [if_neg c, if_pos rfl, if_neg (fun q => c q.1), nme, y_s]
      exact ih n' (j + 1) a (by omega) (by omega) (by omega) g4
theorem minF_0 {m : Mem} {L : Nat → Int} {S : Nat} (hS : S < 256) : ∀ k, k ≤ lowB S + 1 → k ≤ 8 → minF m L S 8 0 none = minF m L S (8 - k) k none := by
  intro k
  induction k with
  | zero => intro _ _; rfl
  | succ k ih =>
    intro h1 h2
    rw [ih (by omega) (by omega), show 8 - k = (8 - (k + 1)) + 1 by omega]
    conv => lhs; unfold minF
    rw [if_neg]
    intro q
    by_cases c : k < lowB S
    · exact mk2b S hS k (by omega) c q.1
    · exact q.2 (by omega)
theorem leastX {x m : Mem} {c : Nat} (hM : iMet c x m) (hB : mtB m) : ∀ P d S, P < d → P ≤ 4 → S < 256 → f_X_leastCost d FN x (nI S) (nI P) = some (Int64.ofInt (lcF m P S)) := by
  intro P
  induction P with
  | zero =>
    intro d S h1 h2 hS
    obtain ⟨d', rfl⟩ : ∃ d', d = d' + 1 := ⟨d - 1, by omega⟩
    unfold f_X_leastCost f_X_leastCost_o lcF
    by_cases c : nI S = 0
    · rw [if_pos c]; rfl
    · rw [if_neg c, if_neg (by decide)]; rfl
  | succ P ih =>
    intro d S h1 h2 hS
    obtain ⟨d', rfl⟩ : ∃ d', d = d' + 1 := ⟨d - 1, by omega⟩
    unfold f_X_leastCost f_X_leastCost_o
    by_cases c : S = 0
    · subst c
      rw [if_pos (show nI 0 = 0 from rfl)]
      unfold lcF
      rw [if_pos rfl]; rfl
    · obtain ⟨l1, l2, l3⟩ := (mk2 S hS).resolve_left c
      rw [if_neg (fun q => c ((nI0 (by omega)).mp q)), if_pos (show (0 : Int32) < nI (P + 1) by show nI 0 < nI (P + 1); rw [y_lt (by omega) (by omega)]; omega), l3, bs, nme, y_s]
      unfold lcF
      rw [if_neg c, minF_0 hS (lowB S + 1) (by omega) (by omega)]
      exact leastX_l hM hB hS c (by omega) (fun W hW => ih d' W (by omega) (by omega) hW) (8 - (lowB S + 1)) FN (lowB S + 1) none (by omega) (FN_lt (by omega)) (by omega) (fun v hv => by cases hv)

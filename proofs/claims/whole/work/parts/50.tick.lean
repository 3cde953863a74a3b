/-- the ring on both sides -/
def hRg (z : Prop) (rg rg' : Int32) : Prop := (z ∧ rg.toInt < 0) ∨ (¬ z ∧ 0 ≤ rg.toInt ∧ rg' = rg)
theorem xF (x : Mem) (a : Nat) (v : Int32) : stX (sI x a 17 v) a = (gL x a 10, gL x a 11, gL x a 12, gL x a 13, gI x a 14, gI x a 15, gI x a 16, v) := by
  unfold stX; simp only [gI_sI, gL_sI, reduceIte, Nat.reduceEqDiff]
theorem yF (m : Mem) (i : Nat) (v : Int32) : stM (sI m 28 i v) i = (gL m 21 i, gL m 22 i, gL m 24 i, gL m 25 i, gI m 23 i, gI m 26 i, gI m 27 i, v) := by
  unfold stM; simp only [gI_sI, gL_sI, reduceIte, Nat.reduceEqDiff]
theorem fall_j {a0 b P t : Nat} {z : Prop} {B S : Int} {rg rg' : Int32} (hab : hAB a0 b) (hz : hRg z rg rg') : ∀ d n i x m, i + d = P → d < n → bRel a0 b P t x m → (∀ k, k < P → rS z (stX x (b + k)) (stM m k) ∧ (ft (stM m k) = 0 → bG B S 9 (stM m k)) ∧ (k < i → ft (stM m k) = 0 → bG B S 8 (stM m k))) → ∃ x' m', f_Bt_step_l166 FN n a0 rg (nI i) x = some x' ∧ f_M_ticks_l158 FN n rg' (nI i) m = some m' ∧ bSt b P z B S 8 x' m' ∧ EqOn (boS b) x x' ∧ EqOn boM m m' := by
  have hbr : 10 ≤ b ∧ b ≤ 19 ∧ (a0 < b) ∧ a0 ≠ 2 := by unfold hAB at hab; omega
  intro d
  induction d with
  | zero =>
    intro n i x m h1 h2 hR hs
    obtain ⟨n', rfl⟩ : ∃ n', n = n' + 1 := ⟨n - 1, by omega⟩
    have hP := hR.1.1
    have hi : i = P := by omega
    subst hi
    refine ⟨x, m, ?_, ?_, fun k hk => ⟨(hs k hk).1, (hs k hk).2.2 hk⟩, EqOn.rf, EqOn.rf⟩
    · unfold f_Bt_step_l166
      rw [hR.2.1, if_pos (P_re hP)]
    · unfold f_M_ticks_l158
      rw [hR.1.2.1, if_pos (P_re hP)]
  | succ d ih =>
    intro n i x m h1 h2 hR hs
    obtain ⟨n', rfl⟩ : ∃ n', n = n' + 1 := ⟨n - 1, by omega⟩
    have hP := hR.1.1
    have hi : i < P := by omega
    have ei : ib (nI i) 4 = true := ib_n (by omega) (by omega)
    have ii : ix (nI i) = i := ix_n (by omega)
    obtain ⟨g1, g2, g3⟩ := hs i hi
    have fi' : gI x (b + i) 17 = 0 ↔ gI m 28 i = 0 := g1.f0
    conv => congr; intro x'; congr; intro m'; congr; lhs; unfold f_Bt_step_l166
    conv => congr; intro x'; congr; intro m'; rhs; congr; lhs; unfold f_M_ticks_l158
    unfold f_Bt_step_b202 f_M_ticks_b201 f_M_ticks_b256 f_M_ticks_b257 f_Sp_stands
    rw [hR.2.1, hR.1.2.1, if_neg (P_le hP hi), if_neg (P_le hP hi), at_b hab hP hR.2.1 hi, bs]
    simp only [if_pos ei, ii, nme, y_s]
    by_cases q1 : gI m 28 i = 0
    · rw [if_neg (not_not_intro (fi'.mpr q1)), if_neg (not_not_intro q1), bs, if_neg (by decide)]
      have e1 := g1.st (fi'.mpr q1)
      have bb := g2 q1
      have e2 : gI x (b + i) 15 = gI m 26 i := congrArg (fun s : SS => s.2.2.2.2.2.1) e1
      have e3 : gI x (b + i) 16 = gI m 27 i := congrArg (fun s : SS => s.2.2.2.2.2.2.1) e1
      have e4 : gL x (b + i) 10 = gL m 21 i := congrArg (fun s : SS => s.1) e1
      have e5 : gL x (b + i) 11 = gL m 22 i := congrArg (fun s : SS => s.2.1) e1
      have e6 : gL x (b + i) 12 = gL m 24 i := congrArg (fun s : SS => s.2.2.1) e1
      have e7 : gL x (b + i) 13 = gL m 25 i := congrArg (fun s : SS => s.2.2.2.1) e1
      have e8 : gI x (b + i) 14 = gI m 23 i := congrArg (fun s : SS => s.2.2.2.2.1) e1
      have go : ∀ v w : Int32, v ≠ 0 → w ≠ 0 → fr z v w → ∃ x' m', Option.bind (some (sI x (b + i) 17 v)) (fun μ4 => f_Bt_step_l166 FN n' a0 rg (nI (i + 1)) μ4) = some x' ∧ f_M_ticks_l158 FN n' rg' (nI (i + 1)) (sI m 28 i w) = some m' ∧ bSt b P z B S 8 x' m' ∧ EqOn (boS b) x x' ∧ EqOn boM m m' := by
        intro v w hv hw hvw
        have ex : EqOn (spK (b + i)) x (sI x (b + i) 17 v) := EqOn.rf.sI (by unfold spK; omega)
        have em : EqOn (mK i) m (sI m 28 i w) := EqOn.rf.sI (by unfold mK; omega)
        have ex2 : EqOn (boS b) x (sI x (b + i) 17 v) := EqOn.rf.sI (by unfold boS; omega)
        have em2 : EqOn boM m (sI m 28 i w) := EqOn.rf.sI (by unfold boM; omega)
        obtain ⟨x', m', l1, l2, l3, l4, l5⟩ := ih n' (i + 1) (sI x (b + i) 17 v) (sI m 28 i w) (by omega) (by omega) (hR.cg hab ex2.x em2.n) (fun k hk => by
          by_cases q : k = i
          · subst q
            rw [xF, yF]
            refine ⟨⟨e4, e5, e6, e7, e8, e2, e3, hvw⟩, fun h0 => absurd h0 hw, fun _ h0 => absurd h0 hw⟩
          · rw [stX_cg ex (by omega), stM_cg em q]
            exact ⟨(hs k hk).1, (hs k hk).2.1, fun hk2 => (hs k hk).2.2 (by omega)⟩)
        exact ⟨x', m', l1, l2, l3, ex2.tr l4, em2.tr l5⟩
      have fallen : ∃ x' m', Option.bind (f_Sp_fall_b18 (b + i) rg x) (fun μ4 => f_Bt_step_l166 FN n' a0 rg (nI (i + 1)) μ4) = some x' ∧ (if (((4225 : Int64) * rg'.toInt64) * rg'.toInt64) < (((gL m 21 i) * (gL m 21 i)) + ((gL m 22 i) * (gL m 22 i))) then f_M_ticks_l158 FN n' rg' (nI (i + 1)) (sI m 28 i 2) else f_M_ticks_l158 FN n' rg' (nI (i + 1)) (sI m 28 i 3)) = some m' ∧ bSt b P z B S 8 x' m' ∧ EqOn (boS b) x x' ∧ EqOn boM m m' := by
        unfold f_Sp_fall_b18 f_Sp_fall_b35 f_Sp_fall_b36
        rw [within_e, bs, e4, e5]
        simp only [nme]
        rcases hz with ⟨z1, z2⟩ | ⟨z1, z2, z3⟩
        · rw [if_pos (by rw [Int32.lt_iff_toInt_lt]; exact z2)]
          split
          · exact go 2 2 (by decide) (by decide) (Or.inl ⟨rfl, fun _ => by decide⟩)
          · exact go 2 3 (by decide) (by decide) (Or.inr ⟨z1, rfl, rfl⟩)
        · rw [if_neg (by rw [Int32.lt_iff_toInt_lt, show (0 : Int32).toInt = 0 from rfl]; omega), z3]
          by_cases c : gL m 21 i * gL m 21 i + gL m 22 i * gL m 22 i ≤ ((4225 : Int64) * rg.toInt64) * rg.toInt64
          · rw [if_pos c, if_neg (by decide), if_neg (by rw [Int64.le_iff_toInt_le] at c; rw [Int64.lt_iff_toInt_lt]; omega), ← z3]
            rw [z3] at go ⊢
            exact go 3 3 (by decide) (by decide) (Or.inl ⟨rfl, fun q => absurd q z1⟩)
          · rw [if_neg c, if_pos rfl, if_pos (by rw [Int64.le_iff_toInt_le] at c; rw [Int64.lt_iff_toInt_lt]; omega)]
            rw [z3] at go
            exact go 2 2 (by decide) (by decide) (Or.inl ⟨rfl, fun _ => by decide⟩)
      unfold f_Sp_fall
      rw [e2, e3]
      by_cases c1 : gI m 26 i < 10
      · rw [if_pos c1, if_pos c1]
        exact fallen
      · rw [if_neg c1, if_neg c1]
        by_cases c2 : gI m 27 i ≤ 8
        · rw [if_pos c2, if_pos c2, bs]
          obtain ⟨x', m', l1, l2, l3, l4, l5⟩ := ih n' (i + 1) x m (by omega) (by omega) hR (fun k hk => ⟨(hs k hk).1, (hs k hk).2.1, fun hk2 h0 => by
            by_cases q : k = i
            · subst q
              obtain ⟨c1', c2', c3', c4', c5', c6', c7'⟩ := bb
              rw [Int32.le_iff_toInt_le] at c2
              exact ⟨c1', c2', c3', c4', c5', c6', c7'.1, c2⟩
            · exact (hs k hk).2.2 (by omega) h0⟩)
          exact ⟨x', m', l1, l2, l3, l4, l5⟩
        · rw [if_neg c2, if_neg c2]
          exact fallen
    · rw [if_pos (fun q => q1 (fi'.mp q)), if_pos q1, bs, if_pos rfl]
      exact ih n' (i + 1) x m (by omega) (by omega) hR (fun k hk => ⟨(hs k hk).1, (hs k hk).2.1, fun hk2 h0 => by
        by_cases q : k = i
        · subst q; exact absurd h0 q1
        · exact (hs k hk).2.2 (by omega) h0⟩)
/-- how many stand from a place on -/
def cF (m : Mem) : Nat → Nat → Nat
  | _, 0 => 0
  | i, d + 1 => (if gI m 28 i = 0 then 1 else 0) + cF m (i + 1) d
theorem cF_b (m : Mem) : ∀ d i, cF m i d ≤ d
  | 0, _ => by unfold cF; omega
  | d + 1, i => by
    unfold cF
    have := cF_b m d (i + 1)
    split <;> omega
theorem stand_l {a0 b P t : Nat} {z : Prop} {B S L : Int} {x m : Mem} (hab : hAB a0 b) (hR : bRel a0 b P t x m) (hs : bSt b P z B S L x m) : ∀ d n i v, i + d = P → d < n → f_Bt_standing_l4 FN x n a0 (nI v) (nI i) = some (nI (v + cF m i d)) ∧ f_M_standing_l4 FN m n (nI v) (nI i) = some (nI (v + cF m i d)) := by
  have hP := hR.1.1
  intro d
  induction d with
  | zero =>
    intro n i v h1 h2
    obtain ⟨n', rfl⟩ : ∃ n', n = n' + 1 := ⟨n - 1, by omega⟩
    have hi : i = P := by omega
    subst hi
    unfold f_Bt_standing_l4 f_M_standing_l4 cF
    rw [hR.2.1, hR.1.2.1, if_pos (P_re hP), if_pos (P_re hP)]
    exact ⟨rfl, rfl⟩
  | succ d ih =>
    intro n i v h1 h2
    obtain ⟨n', rfl⟩ : ∃ n', n = n' + 1 := ⟨n - 1, by omega⟩
    have hi : i < P := by omega
    have ei : ib (nI i) 4 = true := ib_n (by omega) (by omega)
    have ii : ix (nI i) = i := ix_n (by omega)
    have fi' : gI x (b + i) 17 = 0 ↔ gI m 28 i = 0 := (hs i hi).1.f0
    unfold f_Bt_standing_l4 f_M_standing_l4 cF
    unfold f_Bt_standing_b26 f_M_standing_b27 f_Bt_standsAt f_Sp_stands
    rw [hR.2.1, hR.1.2.1, if_neg (P_le hP hi), if_neg (P_le hP hi), at_b hab hP hR.2.1 hi, bs, if_pos ei, ii]
    simp only [nme, y_s]
    by_cases q1 : gI m 28 i = 0
    · rw [if_neg (not_not_intro (fi'.mpr q1)), if_neg (not_not_intro q1), bs, if_neg (by decide), bs, if_neg (by decide), if_pos q1]
      have := ih n' (i + 1) (v + 1) (by omega) (by omega)
      rw [show v + (1 + cF m (i + 1) d) = v + 1 + cF m (i + 1) d by omega]
      exact this
    · rw [if_pos (fun q => q1 (fi'.mp q)), if_pos q1, bs, if_pos rfl, bs, if_pos rfl, if_neg q1]
      have := ih n' (i + 1) v (by omega) (by omega)
      rw [show v + (0 + cF m (i + 1) d) = v + cF m (i + 1) d by omega, show nI v + 0 = nI v from Int32.add_zero _]
      exact this
theorem stand_e {a0 b P t : Nat} {z : Prop} {B S L : Int} {x m : Mem} (hab : hAB a0 b) (hR : bRel a0 b P t x m) (hs : bSt b P z B S L x m) : f_Bt_standing FN x a0 = some (nI (cF m 0 P)) ∧ f_M_standing FN m = some (nI (cF m 0 P)) := by
  have := stand_l hab hR hs P FN 0 0 (by omega) (FN_lt (by have := hR.1.1; omega))
  rw [Nat.zero_add] at this
  exact this

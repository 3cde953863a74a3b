def lastF (m : Mem) : Nat → Nat → Int32 → Int32
  | _, 0, v => v
  | i, d + 1, v => lastF m (i + 1) d (if gI m 28 i = 0 then nI i else v)
def firstF (m : Mem) : Nat → Nat → Int32
  | _, 0 => -1
  | i, d + 1 => if gI m 28 i = 0 then nI i else firstF m (i + 1) d
theorem last_0 (m : Mem) : ∀ d i v, cF m i d = 0 → lastF m i d v = v
  | 0, _, _, _ => rfl
  | d + 1, i, v, h => by
    unfold cF at h
    unfold lastF
    by_cases c : gI m 28 i = 0
    · rw [if_pos c] at h; omega
    · rw [if_neg c] at h ⊢
      exact last_0 m d (i + 1) v (by omega)
theorem last_first (m : Mem) : ∀ d i, cF m i d ≤ 1 → lastF m i d (-1) = firstF m i d
  | 0, _, _ => rfl
  | d + 1, i, h => by
    unfold cF at h
    unfold lastF firstF
    by_cases c : gI m 28 i = 0
    · rw [if_pos c] at h ⊢
      rw [if_pos c]
      exact last_0 m d (i + 1) _ (by omega)
    · rw [if_neg c] at h ⊢
      rw [if_neg c]
      exact last_first m d (i + 1) (by omega)
theorem lone_e {a0 b P t : Nat} {z : Prop} {B S L : Int} {x m : Mem} (hab : hAB a0 b) (hR : bRel a0 b P t x m) (hs : bSt b P z B S L x m) : ∃ v, f_Bt_lonePlace FN x a0 = some v ∧ f_M_alone FN m = some v ∧ (v = -1 ∨ ∃ k, k < P ∧ v = nI k) := by
  have hP := hR.1.1
  obtain ⟨s1, s2⟩ := stand_e hab hR hs
  have cb := cF_b m P 0
  have hf : ∀ d i, i + d = P → firstF m i d = -1 ∨ ∃ k, k < P ∧ firstF m i d = nI k := by
    intro d
    induction d with
    | zero => intro i _; exact Or.inl rfl
    | succ d ih =>
      intro i h
      unfold firstF
      split
      · exact Or.inr ⟨i, by omega, rfl⟩
      · exact ih (i + 1) (by omega)
  have hX : ∀ d n i, i + d = P → d < n → f_Bt_lonePlace_l12 FN x n a0 (nI i) = some (firstF m i d) := by
    intro d
    induction d with
    | zero =>
      intro n i h1 h2
      obtain ⟨n', rfl⟩ : ∃ n', n = n' + 1 := ⟨n - 1, by omega⟩
      have hi : i = P := by omega
      subst hi
      unfold f_Bt_lonePlace_l12 firstF
      rw [hR.2.1, if_pos (P_re hP)]
    | succ d ih =>
      intro n i h1 h2
      obtain ⟨n', rfl⟩ : ∃ n', n = n' + 1 := ⟨n - 1, by omega⟩
      have hi : i < P := by omega
      have fi' : gI x (b + i) 17 = 0 ↔ gI m 28 i = 0 := (hs i hi).1.f0
      unfold f_Bt_lonePlace_l12 firstF
      unfold f_Bt_standsAt f_Sp_stands
      rw [hR.2.1, if_neg (P_le hP hi), at_b hab hP hR.2.1 hi, bs]
      dsimp only
      by_cases q1 : gI m 28 i = 0
      · rw [if_neg (not_not_intro (fi'.mpr q1)), bs, if_neg (by decide), bs, if_neg (by decide), if_pos q1]
      · rw [if_pos (fun q => q1 (fi'.mp q)), bs, if_pos rfl, bs, if_pos rfl, nme, y_s, if_neg q1]
        exact ih n' (i + 1) (by omega) (by omega)
  have hM : cF m 0 P = 1 → ∀ d n i v, i + d = P → d < n → f_M_alone_l4 FN m n v (nI i) = some (lastF m i d v) := by
    intro h1c d
    induction d with
    | zero =>
      intro n i v h1 h2
      obtain ⟨n', rfl⟩ : ∃ n', n = n' + 1 := ⟨n - 1, by omega⟩
      have hi : i = P := by omega
      subst hi
      unfold f_M_alone_l4 lastF
      rw [hR.1.2.1, if_pos (P_re hP)]
    | succ d ih =>
      intro n i v h1 h2
      obtain ⟨n', rfl⟩ : ∃ n', n = n' + 1 := ⟨n - 1, by omega⟩
      have hi : i < P := by omega
      unfold f_M_alone_l4 lastF
      unfold f_M_alone_b34
      rw [hR.1.2.1, if_neg (P_le hP hi), s2, bs, h1c, if_neg (by decide), if_pos (ib_n (show i < 4 by omega) (by omega)), ix_n (by omega)]
      simp only [nme, y_s]
      by_cases q1 : gI m 28 i = 0
      · rw [if_neg (not_not_intro q1), if_pos q1]
        exact ih n' (i + 1) _ (by omega) (by omega)
      · rw [if_pos q1, if_neg q1]
        exact ih n' (i + 1) _ (by omega) (by omega)
  unfold f_Bt_lonePlace f_M_alone
  rw [s1, bs]
  by_cases c : cF m 0 P = 1
  · have hm := hM c P FN 0 (-1) (by omega) (FN_lt (by omega))
    rw [c, if_pos (show nI 1 = 1 from rfl)]
    refine ⟨firstF m 0 P, hX P FN 0 (by omega) (FN_lt (by omega)), ?_, hf P 0 (by omega)⟩
    rw [← last_first m P 0 (by omega)]
    exact hm
  · have c' : ¬ nI (cF m 0 P) = 1 := by
      show ¬ nI (cF m 0 P) = nI 1
      rw [y_eq (by omega) (by omega)]; exact c
    rw [if_neg c']
    refine ⟨-1, rfl, ?_, Or.inl rfl⟩
    show f_M_alone_l4 FN m (69999 + 1) (-1) 0 = some (-1)
    unfold f_M_alone_l4
    rw [hR.1.2.1]
    split
    · rfl
    · rw [s2, bs, if_pos c']
/-- whips on both sides; none where the bout is a pair's -/
def hWh (a0 w : Nat) (fl : Int32) (x m : Mem) : Prop := (a0 = 14 ∧ fl = 0 ∧ w = 0 ∧ gI x 14 5 = 0) ∨ (a0 = 5 ∧ fl = 1 ∧ w ≤ 8 ∧ gI x 5 5 = nI w ∧ gI m 0 21 = nI w ∧ ∀ k, k < w → gI x 7 k = gI m 17 k ∧ gI x 8 k = gI m 18 k ∧ gI x 9 k = gI m 19 k ∧ bt (gI m 17 k) 0 3 ∧ bt (gI m 18 k) 1 400 ∧ bt (gI m 19 k) 1 100)
theorem hWh.cg {a0 b w : Nat} {fl : Int32} {x m x' m' : Mem} (hab : hAB a0 b) (h : hWh a0 w fl x m) (e1 : EqOn (boX a0 b) x x') (e2 : EqOn boN m m') : hWh a0 w fl x' m' := by
  have hbr : 10 ≤ b ∧ b ≤ 19 ∧ (a0 < b) ∧ a0 ≠ 2 := by unfold hAB at hab; omega
  rcases h with ⟨h1, h2, h3, h4⟩ | ⟨h1, h2, h3, h4, h5, h6⟩
  · exact Or.inl ⟨h1, h2, h3, by rw [(e1 14 5 (by unfold boX boS; omega)).1]; exact h4⟩
  · refine Or.inr ⟨h1, h2, h3, by rw [(e1 5 5 (by unfold boX boS; omega)).1]; exact h4, by rw [(e2 0 21 (by unfold boN; omega)).1]; exact h5, fun k hk => ?_⟩
    rw [(e1 7 k (by unfold boX boS; omega)).1, (e1 8 k (by unfold boX boS; omega)).1, (e1 9 k (by unfold boX boS; omega)).1, (e2 17 k (by unfold boN; omega)).1, (e2 18 k (by unfold boN; omega)).1, (e2 19 k (by unfold boN; omega)).1]
    exact h6 k hk
theorem lash_j {P t w : Nat} {z : Prop} {B L : Int} {tk rg' : Int32} : ∀ d n k x m S, k + d = w → d < n → S + 100 * (d : Int) ≤ 1000000000 → bRel 5 10 P t x m → hWh 5 w 1 x m → bSt 10 P z B S L x m → ∃ x' m', f_Bt_lash_l2 FN n 5 tk (nI k) x = some x' ∧ f_M_ticks_l3 FN n tk rg' 1 (nI k) m = f_M_ticks_b84 FN rg' m' ∧ bSt 10 P z B (S + 100 * (d : Int)) L x' m' ∧ EqOn (boS 10) x x' ∧ EqOn boM m m' := by
  have hab : hAB 5 10 := Or.inl ⟨rfl, rfl⟩
  intro d
  induction d with
  | zero =>
    intro n k x m S h1 h2 hS hR hw hs
    obtain ⟨n', rfl⟩ : ∃ n', n = n' + 1 := ⟨n - 1, by omega⟩
    rcases hw with ⟨q, _⟩ | ⟨_, _, w1, w2, w3, w4⟩
    · omega
    have hk : k = w := by omega
    subst hk
    refine ⟨x, m, ?_, ?_, ?_, EqOn.rf, EqOn.rf⟩
    · unfold f_Bt_lash_l2
      rw [w2, if_pos (by rw [y_le (by omega) (by omega)]; omega)]
    · unfold f_M_ticks_l3
      rw [w3, if_pos (by rw [y_le (by omega) (by omega)]; omega)]
    · rw [show S + 100 * ((0 : Nat) : Int) = S by omega]; exact hs
  | succ d ih =>
    intro n k x m S h1 h2 hS hR hw hs
    obtain ⟨n', rfl⟩ : ∃ n', n = n' + 1 := ⟨n - 1, by omega⟩
    have hw' := hw
    rcases hw with ⟨q, _⟩ | ⟨_, _, w1, w2, w3, w4⟩
    · omega
    have hk : k < w := by omega
    obtain ⟨u1, u2, u3, u4, u5, u6⟩ := w4 k hk
    have hP := hR.1.1
    have e8 : ib (nI k) 8 = true := ib_n (by omega) (by omega)
    have ik : ix (nI k) = k := ix_n (by omega)
    obtain ⟨p, hp, ep⟩ := toN (v := gI m 17 k) (n := 4) u4.1 (by have := u4.2; omega)
    have e4 : ib (nI p) 4 = true := ib_n (by omega) (by omega)
    have ip : ix (nI p) = p := ix_n (by omega)
    have ec : S + 100 * (((d + 1 : Nat)) : Int) = S + 100 + 100 * (d : Int) := by omega
    rw [ec] at hS ⊢
    have skip : ∃ x' m', f_Bt_lash_l2 FN n' 5 tk (nI (k + 1)) x = some x' ∧ f_M_ticks_l3 FN n' tk rg' 1 (nI (k + 1)) m = f_M_ticks_b84 FN rg' m' ∧ bSt 10 P z B (S + 100 + 100 * (d : Int)) L x' m' ∧ EqOn (boS 10) x x' ∧ EqOn boM m m' := ih n' (k + 1) x m (S + 100) (by omega) (by omega) hS hR hw' (fun i hi => ⟨(hs i hi).1, fun h0 => ((hs i hi).2 h0).up (by omega) (by omega) (by omega)⟩)
    conv => congr; intro x'; congr; intro m'; congr; lhs; unfold f_Bt_lash_l2
    conv => congr; intro x'; congr; intro m'; rhs; congr; lhs; unfold f_M_ticks_l3
    unfold f_Bt_lash_b57 f_M_ticks_b78 f_Bt_at f_Sp_stands
    have nk : ¬ nI w ≤ nI k := by rw [y_le (by omega) (by omega)]; omega
    rw [w2, w3, if_neg nk, if_neg nk, if_neg (show ¬ (1 : Int32) = 0 by decide), if_pos e8, if_pos e8, ik, show srX 5 2 = 7 from rfl, show srX 5 3 = 8 from rfl, show srX 5 4 = 9 from rfl, u1, u2, u3, ep, hR.2.1, hR.1.2.1, ip, if_pos e8]
    simp only [nme, y_s]
    have n0 : ¬ nI p < 0 := by
      show ¬ nI p < nI 0
      rw [y_lt (by omega) (by omega)]; omega
    have n4 : ¬ (4 : Int32) ≤ nI p := by
      show ¬ nI 4 ≤ nI p
      rw [y_le (by omega) (by omega)]; omega
    rw [if_neg n0]
    by_cases q1 : p < P
    · have np : ¬ nI P ≤ nI p := P_le hP q1
      simp only [if_neg np, if_neg n4, if_pos e4, if_pos e8, sr_b hab hp, bs]
      by_cases q0 : gI m 18 k = tk
      · simp only [if_neg (not_not_intro q0)]
        have fi' : gI x (10 + p) 17 = 0 ↔ gI m 28 p = 0 := (hs p q1).1.f0
        by_cases q2 : gI m 28 p = 0
        · simp only [if_neg (not_not_intro (fi'.mpr q2)), if_neg (not_not_intro q2), bs, ze10, if_false]
          obtain ⟨g1, g2⟩ := hs p q1
          have e1 := g1.st (fi'.mpr q2)
          have bb := g2 q2
          have e2 : gI x (10 + p) 15 = gI m 26 p := congrArg (fun s : SS => s.2.2.2.2.2.1) e1
          rw [e2]
          have sb : 0 ≤ (gI m 26 p).toInt ∧ (gI m 26 p).toInt ≤ S := bb.2.2.2.2.2.1
          have sv : (gI m 26 p + gI m 19 k).toInt = (gI m 26 p).toInt + (gI m 19 k).toInt := by unfold bt at u6; exact a32 (by omega) (by omega)
          generalize gI m 26 p + gI m 19 k = v at sv ⊢
          have ex : EqOn (spK (10 + p)) x (sI x (10 + p) 15 v) := EqOn.rf.sI (by unfold spK; omega)
          have em : EqOn (mK p) m (sI m 26 p v) := EqOn.rf.sI (by unfold mK; omega)
          have ex2 : EqOn (boS 10) x (sI x (10 + p) 15 v) := EqOn.rf.sI (by unfold boS; omega)
          have em2 : EqOn boM m (sI m 26 p v) := EqOn.rf.sI (by unfold boM; omega)
          obtain ⟨x', m', l1, l2, l3, l4, l5⟩ := ih n' (k + 1) (sI x (10 + p) 15 v) (sI m 26 p v) (S + 100) (by omega) (by omega) hS (hR.cg hab ex2.x em2.n) (hw'.cg hab ex2.x em2.n) (fun i hi => by
            by_cases q : i = p
            · subst q
              rw [xS, yS, e1]
              refine ⟨rS.rf (by show gI m 28 i ≠ 3; rw [q2]; decide), fun _ => ?_⟩
              obtain ⟨c1, c2, c3, c4, c5, c6, c7⟩ := bb
              unfold bt at u6
              exact ⟨c1, c2, c3, c4, c5, (show 0 ≤ v.toInt ∧ v.toInt ≤ S + 100 by omega), c7⟩
            · rw [stX_cg ex (by omega), stM_cg em q]
              exact ⟨(hs i hi).1, fun h0 => ((hs i hi).2 h0).up (by omega) (by omega) (by omega)⟩)
          exact ⟨x', m', l1, l2, l3, ex2.tr l4, em2.tr l5⟩
        · simp only [if_pos (show ¬ gI x (10 + p) 17 = 0 from fun q => q2 (fi'.mp q)), if_pos q2, bs, ze00, if_true]
          exact skip
      · simp only [if_pos q0]
        exact skip
    · have np : nI P ≤ nI p := by rw [y_le (by omega) (by omega)]; omega
      simp only [if_pos np, if_pos e8, bs]
      by_cases q0 : gI m 18 k = tk
      · simp only [if_neg (not_not_intro q0)]
        exact skip
      · simp only [if_pos q0]
        exact skip

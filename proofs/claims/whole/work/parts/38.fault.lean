def kpX (a _k : Nat) : Prop := ¬ a = 41
def kpM (a k : Nat) : Prop := ¬ a = 40 ∧ ¬ (a = 0 ∧ k = 56)
theorem gTx.cg {g : Nat} {x m x' m' : Mem} (h : gTx g x m) (e1 : EqOn kpX x x') (e2 : EqOn kpM m m') : gTx g x' m' := by
  obtain ⟨h1, h2, h3, h4⟩ := h
  refine ⟨h1, by rw [(e1 39 0 (by unfold kpX; omega)).1]; exact h2, by rw [(e2 0 55 (by unfold kpM; omega)).1]; exact h3, fun k hk => ?_⟩
  rw [(e1 40 k (by unfold kpX; omega)).1, (e2 39 k (by unfold kpM; omega)).1]; exact h4 k hk
theorem reads_s {g p M N : Nat} {x m : Mem} (h : gTx g x m) (hp : p ≤ g) : f_M_reads_l47 FN (N + 1) (nI M) (nI p) 1 m = f_M_reads_b72 FN (f_M_reads_l47 FN N) (nI M) (nI p) (rul (byt g m p)) m := by
  have hg := h.1
  conv => lhs; unfold f_M_reads_l47
  rw [if_neg (by decide), h.2.2.1]
  by_cases c : p < g
  · rw [if_neg (by rw [y_le (by omega) (by omega)]; omega), if_pos (ib_n (by omega) (by omega)), rule_e, bs, ix_n (by omega), byt_in c]
  · rw [if_pos (by rw [y_le (by omega) (by omega)]; omega)]
    unfold byt
    rw [if_neg c]; rfl
theorem parse_l {g : Nat} : ∀ N M p μ1 μ2, M < 32 → p ≤ g → 6 - pc M < N → gTx g μ1 μ2 → gRu μ1 μ2 → gI μ2 0 56 = -1 → ∃ r ν1 ν2, f_Ga_parse_l19 FN N (nI M) (nI p) (nI (pc M)) μ1 = some (r, ν1) ∧ f_M_reads_l47 FN N (nI M) (nI p) 1 μ2 = some ν2 ∧ gI ν2 0 56 = r ∧ gRu ν1 ν2 ∧ EqOn kpX μ1 ν1 ∧ EqOn kpM μ2 ν2 := by
  intro N
  induction N with
  | zero => intro M p μ1 μ2 _ _ h; omega
  | succ N ih =>
    intro M p μ1 μ2 hM hp hn hT hR h56
    have hg := hT.1
    have hpc := pc_b M hM
    rw [reads_s hT hp]
    conv => congr; intro r; congr; intro ν1; congr; intro ν2; lhs; unfold f_Ga_parse_l19
    rw [if_neg (by rw [show (5 : Int32) = nI 5 from rfl, y_lt (by omega) (by omega)]; omega), letter_e hT (by omega), bs]
    have k9 : ∀ v, EqOn kpM μ2 (sI μ2 0 56 v) := fun v => EqOn.rf.sI (by unfold kpM; omega)
    have k8 : ∀ v, gRu μ1 (sI μ2 0 56 v) := fun v k hk => by
      rw [gI_sI, if_neg (by omega)]; exact hR k hk
    have k7 : ∀ v, gI (sI μ2 0 56 v) 0 56 = v := fun v => by rw [gI_sI, if_pos rfl, if_pos rfl]
    rcases rul_c (byt g μ2 p) with er | ⟨a, ha, er⟩
    · rw [er, if_pos rfl]
      unfold f_M_reads_b72
      rw [if_pos rfl]
      exact ⟨_, _, _, rfl, rfl, k7 _, k8 _, EqOn.rf, k9 _⟩
    have na : ¬ nI a = -1 := by
      intro q; have := congrArg Int32.toInt q; rw [nI_t (by omega)] at this; rw [show (-1 : Int32).toInt = -1 from rfl] at this; omega
    rw [er, if_neg na]
    unfold f_M_reads_b72
    rw [if_neg na]
    rcases bit_l M hM a ha with ⟨b1, b2, b3, b4⟩ | b1
    · rw [b1, b2, if_pos rfl, if_pos (by decide), nme, nme, nme, y_s]
      obtain ⟨F, v, f1, f2, f3, f4, f5⟩ := fig_l hT (show p + 1 ≤ 1000 by omega) 69997
      have f4' : f_Ga_numberAt FN μ1 (nI (p + 1)) (nI F) = some v := f4
      have f5' := f5 (f_M_reads_l47 FN N) (nI (M + 2 ^ a)) (nI a)
      rw [show (69997 + 1 + 1 + 1) = FN from rfl] at f5'
      rw [f3, bs, f4', bs, f5']
      unfold f_M_reads_b153 f_M_reads_b169
      by_cases cF : F = 0
      · subst cF
        rw [if_pos (show nI 0 = 0 from rfl), if_pos (show nI (p + 1 + 0) = nI (p + 1) from rfl)]
        exact ⟨_, _, _, rfl, rfl, k7 _, k8 _, EqOn.rf, k9 _⟩
      have f6 : p + 1 + F ≤ g := by omega
      have ib5 : ib (nI a) 5 = true := ib_n ha (by omega)
      obtain ⟨l1, l2⟩ := lo_l a ha
      obtain ⟨i1, i2⟩ := isRule_e ha v
      rw [if_neg (show ¬ nI F = 0 from fun q => cF (by have := congrArg Int32.toInt q; rw [nI_t (by omega)] at this; simp at this; omega)), if_neg (show ¬ nI (p + 1 + F) = nI (p + 1) by rw [y_eq (by omega) (by omega)]; omega), if_pos ib5, if_pos ib5, if_pos ib5]
      by_cases c1 : rlo a ≤ v.toInt ∧ v.toInt ≤ rhi a
      · have i3 : f_M_isRule (nI a) v = some 1 := i1 c1
        rw [if_neg (by rw [Int32.lt_iff_toInt_lt, l1]; omega), if_pos (by rw [Int32.le_iff_toInt_le, l2]; omega), i3, bs, if_pos (by decide), if_pos ib5]
        simp only [nme]
        rw [ix_n (show a < 2147483648 by omega)]
        have eq : nI p + (1 + nI F) = nI (p + 1 + F) := by
          rw [show (1 : Int32) = nI 1 from rfl, y_add, y_add]; congr 1; omega
        rw [eq]
        have e1 : EqOn kpX μ1 (sI μ1 41 a v) := EqOn.rf.sI (by unfold kpX; omega)
        have e2 : EqOn kpM μ2 (sI μ2 40 a v) := EqOn.rf.sI (by unfold kpM; omega)
        have hT' := hT.cg e1 e2
        have hR' : gRu (sI μ1 41 a v) (sI μ2 40 a v) := fun k hk => by
          rw [gI_sI, gI_sI, if_pos rfl, if_pos rfl]
          by_cases ck : k = a
          · rw [if_pos ck, if_pos ck, ck]; exact ⟨rfl, Or.inl c1⟩
          · rw [if_neg ck, if_neg ck]; exact hR k hk
        have h56' : gI (sI μ2 40 a v) 0 56 = -1 := by rw [gI_sI, if_neg (by omega)]; exact h56
        rw [hT'.2.1, hT'.2.2.1]
        unfold f_M_reads_b198 f_M_reads_b220
        by_cases c2 : p + 1 + F < g
        · rw [if_pos (by rw [y_lt (by omega) (by omega)]; exact c2), if_neg (by rw [y_le (by omega) (by omega)]; omega), byte_e hT' (by omega), bs, if_neg (show ¬ (1 : Int32) = 0 by decide), if_pos (ib_n (show p + 1 + F < 40 by omega) (by omega)), ix_n (by omega), byt_in c2]
          by_cases c3 : gI (sI μ2 40 a v) 39 (p + 1 + F) = 59
          · rw [if_pos c3, if_pos c3]
            simp only [nme, y_s]
            rw [← b4]
            obtain ⟨r, ν1, ν2, w1, w2, w3, w4, w5, w6⟩ := ih (M + 2 ^ a) (p + 1 + F + 1) _ _ b3 (by omega) (by omega) hT' hR' h56'
            exact ⟨r, ν1, ν2, w1, w2, w3, w4, e1.tr w5, e2.tr w6⟩
          · rw [if_neg c3, if_neg c3, nme]
            refine ⟨_, _, _, rfl, rfl, ?_, ?_, e1, e2.sI (by unfold kpM; omega)⟩
            · rw [gI_sI, if_pos rfl, if_pos rfl]
            · intro k hk
              rw [gI_sI (a := 0), if_neg (by omega)]
              exact hR' k hk
        · rw [if_neg (by rw [y_lt (by omega) (by omega)]; exact c2), if_pos (by rw [y_le (by omega) (by omega)]; omega), if_pos rfl, nme]
          have : ∃ N', N = N' + 1 := ⟨N - 1, by have := pc_b _ b3; omega⟩
          obtain ⟨N', rfl⟩ := this
          conv => congr; intro r; congr; intro ν1; congr; intro ν2; rhs; lhs; unfold f_M_reads_l47
          rw [if_pos rfl]
          exact ⟨_, _, _, rfl, rfl, h56', hR', e1, e2⟩
      · rw [i2 c1, bs, if_neg (show ¬ ¬ (0 : Int32) = 0 by decide)]
        by_cases c2 : rlo a ≤ v.toInt
        · rw [if_neg (by rw [Int32.lt_iff_toInt_lt, l1]; omega), if_neg (by rw [Int32.le_iff_toInt_le, l2]; omega)]
          exact ⟨_, _, _, rfl, rfl, k7 _, k8 _, EqOn.rf, k9 _⟩
        · rw [if_pos (by rw [Int32.lt_iff_toInt_lt, l1]; omega)]
          exact ⟨_, _, _, rfl, rfl, k7 _, k8 _, EqOn.rf, k9 _⟩
    · rw [b1, if_neg (by decide), if_neg (by decide)]
      exact ⟨_, _, _, rfl, rfl, k7 _, k8 _, EqOn.rf, k9 _⟩
/-- the text read on both sides, from the start -/
theorem reads_l {g : Nat} {μ1 μ2 : Mem} (hT : gTx g μ1 μ2) : ∃ r ν1 ν2, f_Ga_parse FN μ1 = some (r, ν1) ∧ f_M_reads FN μ2 = some ν2 ∧ gI ν2 0 56 = r ∧ gRu ν1 ν2 ∧ EqOn kpX μ1 ν1 ∧ EqOn kpM μ2 ν2 := by
  have e1 : EqOn kpX μ1 (sA μ1 41 (va_cpy (fun i => ([1, 5, -1, 30, 0] : List Int32).getD i 0) (gI μ1 41) (ix (0 : Int32)) (ix (0 : Int32)) (ix (5 : Int32)))) := EqOn.rf.sA (by unfold kpX; omega)
  have e2 : EqOn kpM μ2 (sI (sI (sI (sI (sI (sI μ2 40 0 1) 40 1 5) 40 2 (-1)) 40 3 30) 40 4 0) 0 56 (-1)) := (((((EqOn.rf.sI (by unfold kpM; omega)).sI (by unfold kpM; omega)).sI (by unfold kpM; omega)).sI (by unfold kpM; omega)).sI (by unfold kpM; omega)).sI (by unfold kpM; omega)
  have h56 : gI (sI (sI (sI (sI (sI (sI μ2 40 0 1) 40 1 5) 40 2 (-1)) 40 3 30) 40 4 0) 0 56 (-1)) 0 56 = -1 := by rw [gI_sI, if_pos rfl, if_pos rfl]
  have hR : gRu (sA μ1 41 (va_cpy (fun i => ([1, 5, -1, 30, 0] : List Int32).getD i 0) (gI μ1 41) (ix (0 : Int32)) (ix (0 : Int32)) (ix (5 : Int32)))) (sI (sI (sI (sI (sI (sI μ2 40 0 1) 40 1 5) 40 2 (-1)) 40 3 30) 40 4 0) 0 56 (-1)) := by
    intro k hk
    have h5 : k = 0 ∨ k = 1 ∨ k = 2 ∨ k = 3 ∨ k = 4 := by omega
    rw [gI_sA, if_pos rfl]
    rcases h5 with e | e | e | e | e <;> subst e
    · exact ⟨rfl, Or.inl (show (1 : Int) ≤ 1 ∧ (1 : Int) ≤ 9 by decide)⟩
    · exact ⟨rfl, Or.inl (show (1 : Int) ≤ 5 ∧ (5 : Int) ≤ 20 by decide)⟩
    · exact ⟨rfl, Or.inr ⟨rfl, rfl⟩⟩
    · exact ⟨rfl, Or.inl (show (1 : Int) ≤ 30 ∧ (30 : Int) ≤ 60 by decide)⟩
    · exact ⟨rfl, Or.inl (show (0 : Int) ≤ 0 ∧ (0 : Int) ≤ 3 by decide)⟩
  obtain ⟨r, ν1, ν2, w1, w2, w3, w4, w5, w6⟩ := parse_l FN 0 0 _ _ (by omega) (by omega) (FN_lt (by decide)) (hT.cg e1 e2) hR h56
  refine ⟨r, ν1, ν2, ?_, ?_, w3, w4, e1.tr w5, e2.tr w6⟩
  · unfold f_Ga_parse
    rw [if_pos (by decide), nme]
    exact w1
  · unfold f_M_reads
    rw [if_pos (by decide), nme, if_pos (by decide), nme, if_pos (by decide), nme, if_pos (by decide), nme, if_pos (by decide), nme, nme]
    exact w2
theorem Inv.cg0 {c n : Nat} {x m x' m' : Mem} (h : Inv c n x m) (ex : EqOn perX x x') (em : EqOn perM m m') : Inv c n x' m' := by
  obtain ⟨t, h1, h2, h3, h4, h5, h6, h7, h8, h9, h10, h11, h12, h13, h14, h15, h16⟩ := h
  refine ⟨t, h1, h2.cg ?_, h3.cg ?_ ?_, h4.cg ?_, h5.cg ?_ ?_, h6.cg ?_ ?_, h7.cg ?_ ?_, h8.cg ?_ ?_, h9.cg ?_ ?_, h10.cg ?_ ?_, h11.cg ?_ ?_, h12.cg ?_ ?_, h13.cg ?_ ?_, h14.cg ?_ ?_, h15.cg ?_ ?_, h16.cg ?_ ?_⟩
  all_goals first
    | exact ex.mono (fun a k p => by unfold perX; simp only [p, true_or, or_true])
    | exact em.mono (fun a k p => by unfold perM; simp only [p, true_or, or_true])
theorem Inv.kp {c n : Nat} {x m x' m' : Mem} (h : Inv c n x m) (e1 : EqOn kpX x x') (e2 : EqOn kpM m m') : Inv c n x' m' := by
  refine Inv.cg0 h (e1.mono ?_) (e2.mono ?_)
  · intro a k p
    unfold perX at p; unfold kpX
    intro q; subst q
    unfold pTop pStr pBow pDen pBou pWhi pCho pPas pGam pLas pMet pFin pShe at p
    omega
  · intro a k p
    unfold perM at p; unfold kpM
    unfold qCs qTop qStr qBow qDen qBou qWhi qCho qPas qGam qLas qMet qFin qShe at p
    omega
theorem s_fault {c n : Nat} {μ1 μ2 : Mem} (h : Inv c n μ1 μ2) (hc : c < 512) : ∃ (r : Int32) (ν1 : Mem) (ν2 : Mem), f_X_fault FN μ1 = some (r, ν1) ∧ f_M_fault FN μ2 = some (r, ν2) ∧ Inv (c + 1) n ν1 ν2 := by
  obtain ⟨t, ht, hCs, hTop, hWr, hStr, hBow, hDen, hBou, hWhi, hCho, hPas, hGam, hLas, hMet, hFin, hShe⟩ := id h
  obtain ⟨g, hg⟩ := hGam
  obtain ⟨r, ν1, ν2, w1, w2, w3, w4, w5, w6⟩ := reads_l (g := g) hg
  refine ⟨r, ν1, ν2, ?_, ?_, Inv_next (h.kp w5 w6)⟩
  · unfold f_X_fault
    rw [w1, b2s]
  · unfold f_M_fault
    rw [w2, bs, w3]

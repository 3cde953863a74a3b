def tt (F : Nat → Nat → Int64) (s : Nat) : Int64 → Nat → Nat → Int64
  | t, _, 0 => t
  | t, q, d + 1 => tt F s (sf t (fun p => F p q) 0 s) (q + 1) d
theorem tp107 {m0 : Mem} {a : Nat → Nat → Int64} {R C : Nat} (hR : R < 16) (hC : C < 16) (hpc : pop R = pop C) (hv : ∀ p' q', p' < pop R → q' < pop C → gL m0 32 (4 * p' + q') = a (mb R p') (mb C q')) : ∀ d n q m, q + d = pop R → d < n → EqOn adM m0 m → ∃ m', f_M_takesPart_l107 FN n (nI R) (nI C) (nI (pop R)) (nI q) m = f_M_takesPart_l199 FN FN (nI R) (nI C) (nI (pop R)) 0 m' ∧ EqOn (fun b k => ¬ (b = 33 ∧ 4 * q ≤ k) ∧ ¬ (b = 0 ∧ k = 46)) m m' ∧ gL m' 0 46 = tt (fun p q => cfX a R C (mb R p) (mb C q)) (pop R) (gL m 0 46) q d ∧ ∀ p' q', q ≤ q' → q' < pop R → p' < pop R → gL m' 33 (4 * q' + p') = cfX a R C (mb R p') (mb C q') := by
  have b4 := (mk8 R hR).2.2
  intro d
  induction d with
  | zero =>
    intro n q m g1 g2 e
    obtain ⟨n', rfl⟩ : ∃ n', n = n' + 1 := ⟨n - 1, by omega⟩
    refine ⟨m, ?_, EqOn.rf, rfl, fun p' q' h1 h2 => by omega⟩
    unfold f_M_takesPart_l107
    rw [if_pos (by rw [y_le (by omega) (by omega)]; omega)]
  | succ d ih =>
    intro n q m g1 g2 e
    obtain ⟨n', rfl⟩ : ∃ n', n = n' + 1 := ⟨n - 1, by omega⟩
    obtain ⟨m1, q1, q2, q3, q4⟩ := tp116 (a := a) hR hC hpc (show q < pop C by omega) hv (f_M_takesPart_l107 FN n') (pop R) FN 0 m (by omega) (FN_lt (by omega)) e
    have e1 : EqOn adM m0 m1 := e.tr (q2.mono (fun b k z => by unfold adM at z; omega))
    obtain ⟨m', w1, w2, w3, w4⟩ := ih n' (q + 1) m1 (by omega) (by omega) e1
    refine ⟨m', ?_, (q2.mono (fun b k z => by omega)).tr (w2.mono (fun b k z => by omega)), ?_, fun p' q' h1 h2 h3 => ?_⟩
    · unfold f_M_takesPart_l107
      rw [if_neg (by rw [y_le (by omega) (by omega)]; omega)]
      exact q1.trans w1
    · rw [w3, q3]; rfl
    · by_cases y : q' = q
      · subst y
        rw [(w2 33 _ (by omega)).2.1]
        exact q4 p' (by omega) h3
      · exact w4 p' q' (by omega) h2 h3
theorem tp199 {R C : Nat} (hR : R < 16) : ∀ d n k m, k + d = pop R → d < n → ∃ m', f_M_takesPart_l199 FN n (nI R) (nI C) (nI (pop R)) (nI k) m = f_M_takesPart_l246 FN FN (nI R) (nI C) (nI (pop R)) 0 0 0 m' ∧ EqOn (fun b j => ¬ (b = 0 ∧ j = 47)) m m' ∧ gL m' 0 47 = sf (gL m 0 47) (fun k => gL m 32 k * gL m 33 (4 * k)) k d := by
  have b4 := (mk8 R hR).2.2
  intro d
  induction d with
  | zero =>
    intro n k m g1 g2
    obtain ⟨n', rfl⟩ : ∃ n', n = n' + 1 := ⟨n - 1, by omega⟩
    refine ⟨m, ?_, EqOn.rf, rfl⟩
    unfold f_M_takesPart_l199
    rw [if_pos (by rw [y_le (by omega) (by omega)]; omega)]
  | succ d ih =>
    intro n k m g1 g2
    obtain ⟨n', rfl⟩ : ∃ n', n = n' + 1 := ⟨n - 1, by omega⟩
    obtain ⟨m', w1, w2, w3⟩ := ih n' (k + 1) (sL m 0 47 (gL m 0 47 + gL m 32 k * gL m 33 (4 * k))) (by omega) (by omega)
    refine ⟨m', ?_, (EqOn.rf.sL (by simp)).tr w2, ?_⟩
    · unfold f_M_takesPart_l199
      have e4 : (4 : Int32) * nI k = nI (4 * k) := y_mul 4 k
      rw [if_neg (by rw [y_le (by omega) (by omega)]; omega), e4, if_pos (ib_n (show k < 16 by omega) (by omega)), if_pos (ib_n (show 4 * k < 16 by omega) (by omega)), nme, nme, ix_n (by omega), ix_n (by omega), y_s]
      exact w1
    · rw [w3]
      conv => rhs; unfold sf
      rfl

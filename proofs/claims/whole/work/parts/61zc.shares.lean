theorem tp281 {R C P Q i : Nat} (hR : R < 16) (hP : P < 4) (hi : i < 4) (K : Int32 → Int32 → Int32 → Int32 → Int32 → Int32 → Mem → Option Mem) : ∀ d n k m, k + d = pop R → d < n → ∃ m', f_M_takesPart_l281 FN K n (nI R) (nI C) (nI (pop R)) (nI P) (nI Q) (nI i) (nI k) m = f_M_takesPart_b318 FN K (nI R) (nI C) (nI (pop R)) (nI (P + 1)) (nI Q) (nI i) m' ∧ EqOn (fun b j => ¬ (b = 34 ∧ j = i)) m m' ∧ gL m' 34 i = sf (gL m 34 i) (fun k => gL m 33 (4 * k + P)) k d := by
  have b4 := (mk8 R hR).2.2
  have ei : ib (nI i) 4 = true := ib_n hi (by omega)
  intro d
  induction d with
  | zero =>
    intro n k m g1 g2
    obtain ⟨n', rfl⟩ : ∃ n', n = n' + 1 := ⟨n - 1, by omega⟩
    refine ⟨m, ?_, EqOn.rf, rfl⟩
    unfold f_M_takesPart_l281
    rw [if_pos (by rw [y_le (by omega) (by omega)]; omega), nme, y_s]
  | succ d ih =>
    intro n k m g1 g2
    obtain ⟨n', rfl⟩ : ∃ n', n = n' + 1 := ⟨n - 1, by omega⟩
    obtain ⟨m', w1, w2, w3⟩ := ih n' (k + 1) (sL m 34 i (gL m 34 i + gL m 33 (4 * k + P))) (by omega) (by omega)
    refine ⟨m', ?_, (EqOn.rf.sL (by simp)).tr w2, ?_⟩
    · unfold f_M_takesPart_l281
      rw [if_neg (by rw [y_le (by omega) (by omega)]; omega), m4_n, if_pos ei, if_pos (ib_n (show 4 * k + P < 16 by omega) (by omega)), if_pos ei, nme, nme, ix_n (by omega), ix_n (by omega), y_s]
      exact w1
    · rw [w3, gL_sL, if_pos rfl, if_pos rfl]
      conv => rhs; unfold sf
      rfl
theorem tp331 {R C P Q i : Nat} (hR : R < 16) (hQ : Q < 4) (hi : i < 4) (K : Int32 → Int32 → Int32 → Int32 → Int32 → Int32 → Mem → Option Mem) : ∀ d n k m, k + d = pop R → d < n → ∃ m', f_M_takesPart_l331 FN K n (nI R) (nI C) (nI (pop R)) (nI P) (nI Q) (nI i) (nI k) m = f_M_takesPart_b368 FN K (nI R) (nI C) (nI (pop R)) (nI P) (nI (Q + 1)) (nI i) m' ∧ EqOn (fun b j => ¬ (b = 35 ∧ j = i)) m m' ∧ gL m' 35 i = sf (gL m 35 i) (fun k => gL m 33 (4 * Q + k)) k d := by
  have b4 := (mk8 R hR).2.2
  have ei : ib (nI i) 4 = true := ib_n hi (by omega)
  intro d
  induction d with
  | zero =>
    intro n k m g1 g2
    obtain ⟨n', rfl⟩ : ∃ n', n = n' + 1 := ⟨n - 1, by omega⟩
    refine ⟨m, ?_, EqOn.rf, rfl⟩
    unfold f_M_takesPart_l331
    rw [if_pos (by rw [y_le (by omega) (by omega)]; omega), nme, y_s]
  | succ d ih =>
    intro n k m g1 g2
    obtain ⟨n', rfl⟩ : ∃ n', n = n' + 1 := ⟨n - 1, by omega⟩
    obtain ⟨m', w1, w2, w3⟩ := ih n' (k + 1) (sL m 35 i (gL m 35 i + gL m 33 (4 * Q + k))) (by omega) (by omega)
    refine ⟨m', ?_, (EqOn.rf.sL (by simp)).tr w2, ?_⟩
    · unfold f_M_takesPart_l331
      rw [if_neg (by rw [y_le (by omega) (by omega)]; omega), m4_n, if_pos ei, if_pos (ib_n (show 4 * Q + k < 16 by omega) (by omega)), if_pos ei, nme, nme, ix_n (by omega), ix_n (by omega), y_s]
      exact w1
    · rw [w3, gL_sL, if_pos rfl, if_pos rfl]
      conv => rhs; unfold sf
      rfl
def mkDP (S i : Nat) : Bool := !decide (bN S i) || (decide (mb S (pos S i) = i) && decide (pos S i < pop S))
theorem mkDa : ∀ S, S < 16 → ∀ i, i < 4 → mkDP S i = true := by decide +kernel
theorem mkD {S i : Nat} (hS : S < 16) (hi : i < 4) (b : bN S i) : mb S (pos S i) = i ∧ pos S i < pop S := by
  have h := mkDa S hS i hi
  unfold mkDP at h
  rw [decide_eq_true b] at h
  simp only [Bool.not_true, Bool.false_or, Bool.and_eq_true, decide_eq_true_eq] at h
  exact h
/-- the shares as the reference sums them -/
def rsM (m : Mem) (R i : Nat) : Int64 := if bN R i then sf 0 (fun k => gL m 33 (4 * k + pos R i)) 0 (pop R) else 0
def csM (m : Mem) (R C j : Nat) : Int64 := if bN C j then sf 0 (fun k => gL m 33 (4 * pos C j + k)) 0 (pop R) else 0
theorem sf_ext {f g : Nat → Int64} : ∀ d k t, (∀ j, f j = g j) → sf t f k d = sf t g k d := by
  intro d
  induction d with
  | zero => intro k t _; rfl
  | succ d ih =>
    intro k t h
    unfold sf
    rw [h k, ih (k + 1) _ h]
theorem tp246 {R C : Nat} (hR : R < 16) (hC : C < 16) : ∀ d n i m, i + d = 4 → d < n → ∃ m', f_M_takesPart_l246 FN n (nI R) (nI C) (nI (pop R)) (nI (pos R i)) (nI (pos C i)) (nI i) m = (if (0 : Int64) ≤ gL m' 0 46 then some m' else f_M_takesPart_l404 FN FN 0 (sL (sL m' 0 46 (-(gL m' 0 46))) 0 47 (-(gL m' 0 47)))) ∧ EqOn (fun b j => ¬ (b = 34 ∧ i ≤ j) ∧ ¬ (b = 35 ∧ i ≤ j)) m m' ∧ ∀ j, i ≤ j → j < 4 → gL m' 34 j = rsM m R j ∧ gL m' 35 j = csM m R C j := by
  intro d
  induction d with
  | zero =>
    intro n i m g1 g2
    obtain ⟨n', rfl⟩ : ∃ n', n = n' + 1 := ⟨n - 1, by omega⟩
    have hi : i = 4 := by omega
    subst hi
    refine ⟨m, ?_, EqOn.rf, fun j h1 h2 => by omega⟩
    unfold f_M_takesPart_l246
    rw [if_pos (by decide), nme, nme]
    rfl
  | succ d ih =>
    intro n i m g1 g2
    obtain ⟨n', rfl⟩ : ∃ n', n = n' + 1 := ⟨n - 1, by omega⟩
    have hi : i < 4 := by omega
    have ei : ib (nI i) 4 = true := ib_n hi (by omega)
    obtain ⟨a1, a2, _, _⟩ := mkA hR hi
    obtain ⟨c1, c2, _, _⟩ := mkA hC hi
    -- first the row's share
    have row : ∃ m1, f_M_takesPart_l246 FN (n' + 1) (nI R) (nI C) (nI (pop R)) (nI (pos R i)) (nI (pos C i)) (nI i) m = f_M_takesPart_b318 FN (f_M_takesPart_l246 FN n') (nI R) (nI C) (nI (pop R)) (nI (pos R (i + 1))) (nI (pos C i)) (nI i) m1 ∧ EqOn (fun b j => ¬ (b = 34 ∧ j = i) ∧ ¬ (b = 35 ∧ j = i)) m m1 ∧ gL m1 34 i = rsM m R i ∧ gL m1 35 i = 0 := by
      conv => congr; intro m1; lhs; lhs; unfold f_M_takesPart_l246
      rw [if_neg (show ¬ (4 : Int32) ≤ nI i by show ¬ nI 4 ≤ nI i; rw [y_le (by omega) (by omega)]; omega), if_pos ei, nme, if_pos ei, nme, ix_n (by omega), mk1 R (by omega) i (by omega)]
      unfold rsM
      by_cases b : bN R i
      · rw [if_pos b] at a2
        obtain ⟨m1, w1, w2, w3⟩ := tp281 (C := C) (Q := pos C i) hR (show pos R i < 4 by omega) hi (f_M_takesPart_l246 FN n') (pop R) FN 0 (sL (sL m 34 i 0) 35 i 0) (by omega) (FN_lt (by have := (mk8 R hR).2.2; omega))
        rw [if_pos b, if_neg (by decide), if_pos b, a2]
        refine ⟨m1, w1, ((EqOn.rf.sL (by simp)).sL (by simp)).tr (w2.mono (fun b j z => z.1)), ?_, ?_⟩
        · rw [w3, show gL (sL (sL m 34 i 0) 35 i 0) 34 i = 0 by rw [gL_sL, if_neg (by omega), gL_sL, if_pos rfl, if_pos rfl]]
          rfl
        · rw [(w2 35 i (by omega)).2.1, gL_sL, if_pos rfl, if_pos rfl]
      · rw [if_neg b] at a2
        have a5 : pos R (i + 1) = pos R i := by omega
        rw [if_neg b, if_pos (by decide), if_neg b, a5]
        exact ⟨_, rfl, (EqOn.rf.sL (by simp)).sL (by simp), by rw [gL_sL, if_neg (by omega), gL_sL, if_pos rfl, if_pos rfl], by rw [gL_sL, if_pos rfl, if_pos rfl]⟩
    obtain ⟨m1, r1, r2, r3, r4⟩ := row
    have col : ∃ m2, f_M_takesPart_b318 FN (f_M_takesPart_l246 FN n') (nI R) (nI C) (nI (pop R)) (nI (pos R (i + 1))) (nI (pos C i)) (nI i) m1 = f_M_takesPart_l246 FN n' (nI R) (nI C) (nI (pop R)) (nI (pos R (i + 1))) (nI (pos C (i + 1))) (nI (i + 1)) m2 ∧ EqOn (fun b j => ¬ (b = 35 ∧ j = i)) m1 m2 ∧ gL m2 35 i = csM m R C i := by
      unfold f_M_takesPart_b318
      rw [mk1 C (by omega) i (by omega)]
      unfold csM
      by_cases b : bN C i
      · rw [if_pos b] at c2
        obtain ⟨m2, w1, w2, w3⟩ := tp331 (C := C) (P := pos R (i + 1)) hR (show pos C i < 4 by omega) hi (f_M_takesPart_l246 FN n') (pop R) FN 0 m1 (by omega) (FN_lt (by have := (mk8 R hR).2.2; omega))
        rw [if_pos b, if_neg (by decide), if_pos b, c2]
        refine ⟨m2, ?_, w2, ?_⟩
        · refine Eq.trans w1 ?_
          unfold f_M_takesPart_b368
          rw [nme, y_s]
        · rw [w3, r4]
          exact sf_ext _ _ _ (fun j => (r2 33 _ (by omega)).2.1)
      · rw [if_neg b] at c2
        have c5 : pos C (i + 1) = pos C i := by omega
        rw [if_neg b, if_pos (by decide), if_neg b, c5]
        refine ⟨m1, ?_, EqOn.rf, r4⟩
        unfold f_M_takesPart_b368
        rw [nme, y_s]
    obtain ⟨m2, s1, s2, s3⟩ := col
    obtain ⟨m', w1, w2, w3⟩ := ih n' (i + 1) m2 (by omega) (by omega)
    have e12 : EqOn (fun b j => ¬ (b = 34 ∧ j = i) ∧ ¬ (b = 35 ∧ j = i)) m m2 := r2.tr (s2.mono (fun b j z => z.2))
    refine ⟨m', by rw [r1, s1]; exact w1, (e12.mono (fun b j z => by omega)).tr (w2.mono (fun b j z => by omega)), fun j h1 h2 => ?_⟩
    by_cases y : j = i
    · subst y
      rw [(w2 34 j (by omega)).2.1, (w2 35 j (by omega)).2.1, s3, (s2 34 j (by omega)).2.1, r3]
      exact ⟨rfl, rfl⟩
    · obtain ⟨u1, u2⟩ := w3 j (by omega) h2
      rw [u1, u2]
      unfold rsM csM
      have e33 : ∀ k, gL m2 33 k = gL m 33 k := fun k => (e12 33 k (by omega)).2.1
      simp only [e33]
      exact ⟨trivial, trivial⟩

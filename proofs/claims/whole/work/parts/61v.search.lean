/-- what the class's search needs -/
def cxS (a : Nat → Nat → Int64) (r c : Nat) (x : Mem) : Prop := r ≤ 4 ∧ c ≤ 4 ∧ gI x 23 0 = nI r ∧ gI x 23 1 = nI c ∧ (∀ i j, i < 4 → j < 4 → aX x i j = a i j) ∧ tabF a x
theorem cxS.cg {a : Nat → Nat → Int64} {r c : Nat} {x x' : Mem} (h : cxS a r c x) (e : EqOn soX x x') : cxS a r c x' := by
  obtain ⟨h1, h2, h3, h4, h5, h6⟩ := h
  refine ⟨h1, h2, by rw [(e 23 0 (by unfold soX; omega)).1]; exact h3, by rw [(e 23 1 (by unfold soX; omega)).1]; exact h4, fun i j hi hj => ?_, h6.cg e⟩
  rw [← h5 i j hi hj]
  unfold aX
  rw [(e (27 + i) j (by unfold soX; omega)).1]
theorem p2_16 {r : Nat} (h : r ≤ 4) : 2 ^ r ≤ 16 ∧ 1 ≤ 2 ^ r := by
  have h5 : r = 0 ∨ r = 1 ∨ r = 2 ∨ r = 3 ∨ r = 4 := by omega
  rcases h5 with e | e | e | e | e <;> subst e <;> decide
theorem s14 {a : Nat → Nat → Int64} {r c s R : Nat} (hR : R < 16) (hs : s ≤ 4) (k2 : Int32 → Int32 → Mem → Option (Int32 × Mem)) : ∀ d n C x, C + d = 2 ^ c → d < n → cxS a r c x → ((∀ C', C ≤ C' → C' < 2 ^ c → pop R = s → pop C' = s → ¬ okN a r c R C') → ∃ x', f_Ch_solveBySize_l14 FN k2 n (nI s) (nI R) (nI C) x = k2 (nI s) (nI (R + 1)) x' ∧ EqOn soX x x') ∧ (∀ C1, C ≤ C1 → C1 < 2 ^ c → pop R = s → pop C1 = s → okN a r c R C1 → (∀ C', C ≤ C' → C' < C1 → pop C' = s → ¬ okN a r c R C') → ∃ x', f_Ch_solveBySize_l14 FN k2 n (nI s) (nI R) (nI C) x = some (1, x') ∧ EqOn soX x x' ∧ holX a R C1 x') := by
  intro d
  induction d with
  | zero =>
    intro n C x g1 g2 hx
    obtain ⟨n', rfl⟩ : ∃ n', n = n' + 1 := ⟨n - 1, by omega⟩
    have p2 := p2_16 hx.2.1
    refine ⟨fun _ => ⟨x, ?_, EqOn.rf⟩, fun C1 h1 h2 => by omega⟩
    unfold f_Ch_solveBySize_l14
    rw [hx.2.2.2.1, sh_2 c (by have := hx.2.1; omega), if_pos (by rw [y_le (by omega) (by omega)]; omega), nme, y_s]
  | succ d ih =>
    intro n C x g1 g2 hx
    obtain ⟨n', rfl⟩ : ∃ n', n = n' + 1 := ⟨n - 1, by omega⟩
    have p2 := p2_16 hx.2.1
    have hC : C < 16 := by omega
    have pR := (mk8 R hR).2.2
    have pC := (mk8 C hC).2.2
    have head : ∀ y, f_Ch_solveBySize_l14 FN k2 (n' + 1) (nI s) (nI R) (nI C) x = y ↔ (if pop R = s ∧ pop C = s then bM2 (f_Ch_solveByPart FN x (nI R) (nI C)) (fun v1 μ2 => if v1 = 0 then f_Ch_solveBySize_l14 FN k2 n' (nI s) (nI R) (nI (C + 1)) μ2 else some (1, μ2)) else f_Ch_solveBySize_l14 FN k2 n' (nI s) (nI R) (nI (C + 1)) x) = y := by
      intro y
      conv => lhs; lhs; unfold f_Ch_solveBySize_l14
      unfold f_Ch_solveBySize_b44 f_Ch_solveBySize_b45 f_Ch_solveBySize_b63
      rw [hx.2.2.2.1, sh_2 c (by have := hx.2.1; omega), if_neg (by rw [y_le (by omega) (by omega)]; omega), (mk4 R (by omega)).1, bs, (mk4 C (by omega)).1, bs]
      simp only [nme, y_s, ze10, ze00, if_true, if_false]
      by_cases z1 : pop R = s
      · by_cases z2 : pop C = s
        · rw [if_neg (not_not_intro (by rw [z1])), if_neg (not_not_intro (by rw [z2])), if_pos (show pop R = s ∧ pop C = s from ⟨z1, z2⟩)]
        · rw [if_neg (not_not_intro (by rw [z1])), if_pos (by rw [y_eq (by omega) (by omega)]; exact z2), if_neg (fun q => z2 q.2)]
      · rw [if_pos (by rw [y_eq (by omega) (by omega)]; exact z1), if_neg (fun q => z1 q.1)]
    by_cases z : pop R = s ∧ pop C = s
    · obtain ⟨x1, e1, e2, e3, e4⟩ := partX hx.1 hx.2.1 hx.2.2.1 hx.2.2.2.1 hx.2.2.2.2.1 hx.2.2.2.2.2 hR hC (by omega)
      obtain ⟨i1, i2⟩ := ih n' (C + 1) x1 (by omega) (by omega) (hx.cg e1)
      by_cases ok : okN a r c R C
      · refine ⟨fun q => absurd ok (q C (by omega) (by omega) z.1 z.2), fun C1 h1 h2 h3 h4 h5 h6 => ?_⟩
        have : C1 = C := by
          by_cases y : C1 = C
          · exact y
          · exact absurd ok (h6 C (by omega) (by omega) z.2)
        subst this
        refine ⟨x1, ?_, e1, e2⟩
        rw [head, if_pos z, e3 ok, b2s, if_neg (by decide)]
      · have hd : ∀ y, f_Ch_solveBySize_l14 FN k2 (n' + 1) (nI s) (nI R) (nI C) x = y ↔ f_Ch_solveBySize_l14 FN k2 n' (nI s) (nI R) (nI (C + 1)) x1 = y := fun y => by
          rw [head, if_pos z, e4 ok, b2s, if_pos rfl]
        refine ⟨fun q => ?_, fun C1 h1 h2 h3 h4 h5 h6 => ?_⟩
        · obtain ⟨x', w1, w2⟩ := i1 (fun C' h1 h2 => q C' (by omega) h2)
          exact ⟨x', (hd _).mpr w1, e1.tr w2⟩
        · have hne : C1 ≠ C := fun y => ok (y ▸ h5)
          obtain ⟨x', w1, w2, w3⟩ := i2 C1 (by omega) h2 h3 h4 h5 (fun C' h7 h8 => h6 C' (by omega) h8)
          exact ⟨x', (hd _).mpr w1, e1.tr w2, w3⟩
    · obtain ⟨i1, i2⟩ := ih n' (C + 1) x (by omega) (by omega) hx
      have hd : ∀ y, f_Ch_solveBySize_l14 FN k2 (n' + 1) (nI s) (nI R) (nI C) x = y ↔ f_Ch_solveBySize_l14 FN k2 n' (nI s) (nI R) (nI (C + 1)) x = y := fun y => by
        rw [head, if_neg z]
      refine ⟨fun q => ?_, fun C1 h1 h2 h3 h4 h5 h6 => ?_⟩
      · obtain ⟨x', w1, w2⟩ := i1 (fun C' h1 h2 => q C' (by omega) h2)
        exact ⟨x', (hd _).mpr w1, w2⟩
      · have hne : C1 ≠ C := fun y => z ⟨h3, y ▸ h4⟩
        obtain ⟨x', w1, w2, w3⟩ := i2 C1 (by omega) h2 h3 h4 h5 (fun C' h7 h8 => h6 C' (by omega) h8)
        exact ⟨x', (hd _).mpr w1, w2, w3⟩

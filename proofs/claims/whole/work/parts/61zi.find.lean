def cxM (a : Nat → Nat → Int64) (r c : Nat) (m : Mem) : Prop := r ≤ 4 ∧ c ≤ 4 ∧ gI m 0 37 = nI r ∧ gI m 0 38 = nI c ∧ aM m = a
theorem cxM.cg {a : Nat → Nat → Int64} {r c : Nat} {m m' : Mem} (h : cxM a r c m) (e : EqOn tkM m m') : cxM a r c m' := by
  obtain ⟨h1, h2, h3, h4, h5⟩ := h
  refine ⟨h1, h2, by rw [(e 0 37 (by unfold tkM; omega)).1]; exact h3, by rw [(e 0 38 (by unfold tkM; omega)).1]; exact h4, ?_⟩
  rw [← h5]
  funext i j
  unfold aM
  rw [(e 31 _ (by unfold tkM; omega)).1]
theorem f21 {a : Nat → Nat → Int64} {r c s R : Nat} (hP : posT a r c) (hR : R < 2 ^ r) (hs : 1 ≤ s) (hs4 : s ≤ 4) (k2 : Int32 → Mem → Option (Int32 × Mem)) (k9 : Int32 → Int32 → Mem → Option (Int32 × Mem)) : ∀ d n C m, C + d = 2 ^ c → d < n → cxM a r c m → ((∀ C', C ≤ C' → C' < 2 ^ c → pop R = s → pop C' = s → ¬ okN a r c R C') → ∃ m', f_M_findMix_l21 FN k2 k9 n (nI s) (nI R) (nI C) m = k9 (nI s) (nI (R + 1)) m' ∧ EqOn tkM m m') ∧ (∀ C1, C ≤ C1 → C1 < 2 ^ c → pop R = s → pop C1 = s → okN a r c R C1 → (∀ C', C ≤ C' → C' < C1 → pop C' = s → ¬ okN a r c R C') → ∃ m', f_M_findMix_l21 FN k2 k9 n (nI s) (nI R) (nI C) m = some (1, m') ∧ EqOn tkM m m' ∧ holM a R C1 m') := by
  intro d
  induction d with
  | zero =>
    intro n C m g1 g2 hm
    obtain ⟨n', rfl⟩ : ∃ n', n = n' + 1 := ⟨n - 1, by omega⟩
    have p2 := p2_16 hm.2.1
    refine ⟨fun _ => ⟨m, ?_, EqOn.rf⟩, fun C1 h1 h2 => by omega⟩
    unfold f_M_findMix_l21
    rw [hm.2.2.2.1, sh_2 c (by have := hm.2.1; omega), if_pos (by rw [y_le (by omega) (by omega)]; omega), nme, y_s]
  | succ d ih =>
    intro n C m g1 g2 hm
    obtain ⟨n', rfl⟩ : ∃ n', n = n' + 1 := ⟨n - 1, by omega⟩
    have p2 := p2_16 hm.2.1
    have p3 := p2_16 hm.1
    have hR16 : R < 16 := by omega
    have hC : C < 16 := by omega
    have pR := (mk8 R hR16).2.2
    have pC := (mk8 C hC).2.2
    have head : ∀ y, f_M_findMix_l21 FN k2 k9 (n' + 1) (nI s) (nI R) (nI C) m = y ↔ (if pop R = s ∧ pop C = s then Option.bind (f_M_takesPart FN m (nI R) (nI C)) (fun μ4 => Option.bind (f_M_isMix FN μ4) (fun v5 => if v5 = 0 then f_M_findMix_l21 FN k2 k9 n' (nI s) (nI R) (nI (C + 1)) μ4 else some (1, μ4))) else f_M_findMix_l21 FN k2 k9 n' (nI s) (nI R) (nI (C + 1)) m) = y := by
      intro y
      conv => lhs; lhs; unfold f_M_findMix_l21
      unfold f_M_findMix_b62
      rw [hm.2.2.2.1, sh_2 c (by have := hm.2.1; omega), if_neg (by rw [y_le (by omega) (by omega)]; omega), ones_e (by omega), bs, ones_e (by omega), bs]
      simp only [nme, y_s]
      by_cases z1 : pop R = s
      · by_cases z2 : pop C = s
        · rw [if_neg (not_not_intro (by rw [z1])), if_neg (not_not_intro (by rw [z2])), if_pos (show pop R = s ∧ pop C = s from ⟨z1, z2⟩)]
        · rw [if_neg (not_not_intro (by rw [z1])), if_pos (by rw [y_eq (by omega) (by omega)]; exact z2), if_neg (fun q => z2 q.2)]
      · rw [if_pos (by rw [y_eq (by omega) (by omega)]; exact z1), if_neg (fun q => z1 q.1)]
    by_cases z : pop R = s ∧ pop C = s
    · obtain ⟨m1, e0, e1, e2, e3, e4⟩ := partM hm.1 hm.2.1 hm.2.2.1 hm.2.2.2.1 hm.2.2.2.2 hP hR (show C < 2 ^ c by omega) (by omega) (by omega)
      obtain ⟨i1, i2⟩ := ih n' (C + 1) m1 (by omega) (by omega) (hm.cg e1)
      by_cases ok : okN a r c R C
      · refine ⟨fun q => absurd ok (q C (by omega) (by omega) z.1 z.2), fun C1 h1 h2 h3 h4 h5 h6 => ?_⟩
        have : C1 = C := by
          by_cases y : C1 = C
          · exact y
          · exact absurd ok (h6 C (by omega) (by omega) z.2)
        subst this
        refine ⟨m1, ?_, e1, e2⟩
        rw [head, if_pos z, e0, bs, e3 ok, bs, if_neg (by decide)]
      · have hd : ∀ y, f_M_findMix_l21 FN k2 k9 (n' + 1) (nI s) (nI R) (nI C) m = y ↔ f_M_findMix_l21 FN k2 k9 n' (nI s) (nI R) (nI (C + 1)) m1 = y := fun y => by
          rw [head, if_pos z, e0, bs, e4 ok, bs, if_pos rfl]
        refine ⟨fun q => ?_, fun C1 h1 h2 h3 h4 h5 h6 => ?_⟩
        · obtain ⟨x', w1, w2⟩ := i1 (fun C' h1 h2 => q C' (by omega) h2)
          exact ⟨x', (hd _).mpr w1, e1.tr w2⟩
        · have hne : C1 ≠ C := fun y => ok (y ▸ h5)
          obtain ⟨x', w1, w2, w3⟩ := i2 C1 (by omega) h2 h3 h4 h5 (fun C' h7 h8 => h6 C' (by omega) h8)
          exact ⟨x', (hd _).mpr w1, e1.tr w2, w3⟩
    · obtain ⟨i1, i2⟩ := ih n' (C + 1) m (by omega) (by omega) hm
      have hd : ∀ y, f_M_findMix_l21 FN k2 k9 (n' + 1) (nI s) (nI R) (nI C) m = y ↔ f_M_findMix_l21 FN k2 k9 n' (nI s) (nI R) (nI (C + 1)) m = y := fun y => by
        rw [head, if_neg z]
      refine ⟨fun q => ?_, fun C1 h1 h2 h3 h4 h5 h6 => ?_⟩
      · obtain ⟨x', w1, w2⟩ := i1 (fun C' h1 h2 => q C' (by omega) h2)
        exact ⟨x', (hd _).mpr w1, w2⟩
      · have hne : C1 ≠ C := fun y => z ⟨h3, y ▸ h4⟩
        obtain ⟨x', w1, w2, w3⟩ := i2 C1 (by omega) h2 h3 h4 h5 (fun C' h7 h8 => h6 C' (by omega) h8)
        exact ⟨x', (hd _).mpr w1, w2, w3⟩

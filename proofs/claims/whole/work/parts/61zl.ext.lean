/-- a part's worth depends on the pays of the choice alone -/
theorem okN_ext {a b : Nat → Nat → Int64} {r c R C : Nat} (hr : r ≤ 4) (hc : c ≤ 4) (hR : R < 2 ^ r) (hC : C < 2 ^ c) (hp : pop R = pop C) (h : ∀ i j, i < r → j < c → a i j = b i j) : nT a R C = nT b R C ∧ nD a R C = nD b R C ∧ (∀ j, j < 4 → nRS a R C j = nRS b R C j ∧ nCS a R C j = nCS b R C j) ∧ (okN a r c R C → okN b r c R C) := by
  have p2 := p2_16 hr
  have p3 := p2_16 hc
  have h' : ∀ i j, i < 4 → j < 4 → bN R i → bN C j → a i j = b i j := fun i j _ _ b1 b2 => h i j (mem_lt hR b1) (mem_lt hC b2)
  have cf : ∀ i j, i < 4 → j < 4 → cfX a R C i j = cfX b R C i j := fun i j hi hj => cfX_ext (by omega) (by omega) hp hi hj h'
  have e1 : ∀ k, k < 4 → sm (cfX a R C k) 4 = sm (cfX b R C k) 4 := fun k hk => sm_ext 4 (fun j hj => cf k j hk hj)
  have e2 : ∀ k, k < 4 → sm (fun o => cfX a R C o k) 4 = sm (fun o => cfX b R C o k) 4 := fun k hk => sm_ext 4 (fun j hj => cf j k hj hk)
  have eT : pT a R C = pT b R C := sm_ext 4 (fun k hk => e1 k hk)
  have eD : dD a (pop R) R C = dD b (pop R) R C := dD_ext _ _ _ (by omega) (by omega) rfl hp.symm h'
  have f1 : nT a R C = nT b R C := by unfold nT; rw [eT]
  have f2 : nD a R C = nD b R C := by unfold nD; rw [eT, eD]
  have f3 : ∀ j, j < 4 → nRS a R C j = nRS b R C j ∧ nCS a R C j = nCS b R C j := fun j hj => by
    unfold nRS nCS
    rw [eT, e1 j hj, e2 j hj]
    exact ⟨rfl, rfl⟩
  refine ⟨f1, f2, f3, fun q => ?_⟩
  obtain ⟨q1, q2, q3, q4⟩ := q
  refine ⟨by rw [← f1]; exact q1, fun j g1 g2 => by rw [← (f3 j g2).1, ← (f3 j g2).2]; exact q2 j g1 g2, fun k g1 g2 => ?_, fun k g1 g2 => ?_⟩
  · have := q3 k g1 g2
    rw [sm_ext (g := fun j => b k j * nCS b R C j) c (fun j hj => by rw [h k j g2 hj, (f3 j (by omega)).2]), f2] at this
    exact this
  · have := q4 k g1 g2
    rw [sm_ext (g := fun i => b i k * nRS b R C i) r (fun i hi => by rw [h i k hi g2, (f3 i (by omega)).1]), f2] at this
    exact this
theorem fst_ext {a b : Nat → Nat → Int64} {r c s R C : Nat} (hr : r ≤ 4) (hc : c ≤ 4) (h : ∀ i j, i < r → j < c → a i j = b i j) (hf : fstP a r c s R C) : fstP b r c s R C := by
  obtain ⟨f1, f2, f3, f4, f5, f6, f7, f8, f9, f10⟩ := hf
  refine ⟨f1, f2, f3, f4, f5, f6, f7, f8, (okN_ext hr hc f4 f6 (by omega) h).2.2.2 f9, fun s' R' C' k1 k2 k3 k4 k5 k6 k7 k8 q => ?_⟩
  exact f10 s' R' C' k1 k2 k3 k4 k5 k6 k7 k8 ((okN_ext hr hc k3 k5 (by omega) (fun i j hi hj => (h i j hi hj).symm)).2.2.2 q)

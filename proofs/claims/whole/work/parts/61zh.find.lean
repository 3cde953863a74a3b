/-- a part's total is never below nothing once its sign is set -/
def posT (a : Nat → Nat → Int64) (r c : Nat) : Prop := ∀ R C, R < 2 ^ r → C < 2 ^ c → pop R = pop C → (0 : Int64) ≤ nT a R C
theorem partM {m : Mem} {a : Nat → Nat → Int64} {R C r c : Nat} (hr : r ≤ 4) (hc : c ≤ 4) (h0 : gI m 0 37 = nI r) (h1 : gI m 0 38 = nI c) (ha : aM m = a) (hP : posT a r c) (hR : R < 2 ^ r) (hC : C < 2 ^ c) (hp : pop R = pop C) (hs : 1 ≤ pop R) : ∃ m', f_M_takesPart FN m (nI R) (nI C) = some m' ∧ EqOn tkM m m' ∧ holM a R C m' ∧ (okN a r c R C → f_M_isMix FN m' = some 1) ∧ (¬ okN a r c R C → f_M_isMix FN m' = some 0) := by
  obtain ⟨m', q1, q2, q3⟩ := takesM hR hr hC hc h0 h1 hp hs
  rw [ha] at q3
  obtain ⟨y1, y2, y3⟩ := q3
  have ay : ∀ i j, i < 4 → j < 4 → aM m' i j = a i j := fun i j _ _ => by
    rw [← ha]
    unfold aM
    rw [(q2 31 _ (by unfold tkM; omega)).1]
  obtain ⟨g, p1, p2⟩ := isMixM (m := m') hr hc (by rw [(q2 0 37 (by unfold tkM; omega)).1]; exact h0) (by rw [(q2 0 38 (by unfold tkM; omega)).1]; exact h1)
  have pt := hP R C hR hC hp
  have key : g = true ↔ okN a r c R C := by
    rw [p2]
    unfold okN
    constructor
    · rintro ⟨h2, h3⟩
      have h4 := okP_ext hr hc ay rfl y2 (fun j hj => (y3 j hj).1) (fun j hj => (y3 j hj).2) h3
      refine ⟨fun z => h2 ?_, h4.2⟩
      rw [y1, z]; decide
    · intro h3
      have h4 := okP_ext (T' := 1) (D' := gL m' 0 47) (RS' := gL m' 34) (CS' := gL m' 35) (T := 1) hr hc (fun i j hi hj => (ay i j hi hj).symm) rfl y2.symm (fun j hj => (y3 j hj).1.symm) (fun j hj => (y3 j hj).2.symm) ⟨by decide, h3.2⟩
      refine ⟨fun z => h3.1 ?_, h4⟩
      rw [y1] at z
      apply Int64.toInt_inj.mp
      rw [Int64.le_iff_toInt_le] at z pt
      have z0 : (0 : Int64).toInt = 0 := rfl
      omega
  refine ⟨m', q1, q2, ⟨y1, y2, y3⟩, fun h => ?_, fun h => ?_⟩
  · rw [p1, key.mpr h]; rfl
  · have : g = false := by
      cases g with
      | false => rfl
      | true => exact absurd (key.mp rfl) h
    rw [p1, this]; rfl

theorem outer4 (c : ClassId) (h : Nat) : Jvm.Free.Multi.outerC c 4 h 4 = vp_cell c (4, .inr (.inr (.inr (.inr (fun i => if i < 4 then some (h + 1 + i) else none))))) := by
  rw [vp_cell_q]
  show ((((({ cls := c, slots := Array.replicate 4 .null, vm := .none } : Cell).setSlot 0 (.ref (h + 1 + 0))).setSlot 1 (.ref (h + 1 + 1))).setSlot 2 (.ref (h + 1 + 2))).setSlot 3 (.ref (h + 1 + 3))) = _
  rw [arrV_new, arrV_store, arrV_store, arrV_store, arrV_store]
  refine congrArg (arrV c 4) (funext fun j => ?_)
  by_cases e3 : j = 3
  · subst e3; rfl
  · by_cases e2 : j = 2
    · subst e2; rfl
    · by_cases e1 : j = 1
      · subst e1; rfl
      · by_cases e0 : j = 0
        · subst e0; rfl
        · unfold updV
          rw [if_neg e3, if_neg e2, if_neg e1, if_neg e0, if_neg (show ¬ j < 4 by omega)]
          rfl
theorem inner4 (c : ClassId) : Jvm.Free.Multi.innerC c 4 (defaultValue .int) = vp_cell c (4, .inl (fun _ => 0)) := by
  rw [vp_cell_i]
  exact arrV_new c 4 (.int 0)
theorem gI_mna {μ : Mem} {a j : Nat} (h : a < 26) : gI (mna μ 26 4) a j = gI μ a j := by
  show gI (zer (zer (zer (zer (zer μ 26) 27) 28) 29) 30) a j = _
  rw [gIz (by omega), gIz (by omega), gIz (by omega), gIz (by omega), gIz (by omega)]
theorem gL_mna {μ : Mem} {a j : Nat} (h : a < 26) : gL (mna μ 26 4) a j = gL μ a j := by
  show gL (zer (zer (zer (zer (zer μ 26) 27) 28) 29) 30) a j = _
  rw [gLz (by omega), gLz (by omega), gLz (by omega), gLz (by omega), gLz (by omega)]
theorem gR_mna {μ : Mem} {a j : Nat} (h : a < 26) : gR (mna μ 26 4) a j = gR μ a j := by
  show gR (sR (sR (sR (sR (zer (zer (zer (zer (zer μ 26) 27) 28) 29) 30) 26 0 (some 27)) 26 1 (some 28)) 26 2 (some 29)) 26 3 (some 30)) a j = _
  rw [gR_sR, if_neg (by omega), gR_sR, if_neg (by omega), gR_sR, if_neg (by omega), gR_sR, if_neg (by omega), gRz (by omega), gRz (by omega), gRz (by omega), gRz (by omega), gRz (by omega)]
theorem gR_mna26 {μ : Mem} {j : Nat} : gR (mna μ 26 4) 26 j = if j < 4 then some (27 + j) else none := by
  by_cases e3 : j = 3
  · subst e3; rfl
  · by_cases e2 : j = 2
    · subst e2; rfl
    · by_cases e1 : j = 1
      · subst e1; rfl
      · by_cases e0 : j = 0
        · subst e0; rfl
        · show gR (sR (sR (sR (sR (zer (zer (zer (zer (zer μ 26) 27) 28) 29) 30) 26 0 (some 27)) 26 1 (some 28)) 26 2 (some 29)) 26 3 (some 30)) 26 j = _
          rw [gR_sR, if_pos rfl, if_neg e3, gR_sR, if_pos rfl, if_neg e2, gR_sR, if_pos rfl, if_neg e1, gR_sR, if_pos rfl, if_neg e0, if_neg (show ¬ j < 4 by omega)]
          rfl
theorem gR_mnaN {μ : Mem} {a j : Nat} (h : 26 < a) (h2 : a < 31) : gR (mna μ 26 4) a j = none := by
  have e : a = 27 ∨ a = 28 ∨ a = 29 ∨ a = 30 := by omega
  rcases e with e | e | e | e <;> subst e <;> rfl
theorem gI_mnaN {μ : Mem} {a : Nat} (h : 26 < a) (h2 : a < 31) : gI (mna μ 26 4) a = fun _ => 0 := by
  have e : a = 27 ∨ a = 28 ∨ a = 29 ∨ a = 30 := by omega
  rcases e with e | e | e | e <;> subst e <;> rfl
theorem mna_cell {Y : Lay} {ad ad' : Nat → Nat} {μ : Mem} {a : Nat} (hT : WT (yset Y ad 26) μ) (h : a < 26) (hh : ∀ b, b < 26 → ad' b = ad b) : cellOf (yset Y ad' 31) (mna μ 26 4) a = cellOf (yset Y ad 26) μ a := by
  have h1 : gI (mna μ 26 4) a = gI μ a := funext fun j => gI_mna h
  have h2 : gL (mna μ 26 4) a = gL μ a := funext fun j => gL_mna h
  have h3 : ∀ j, (gR (mna μ 26 4) a j).map ad' = (gR μ a j).map ad := by
    intro j
    rw [gR_mna h]
    cases hr : gR μ a j with
    | none => rfl
    | some b =>
      have hb : b < 26 := (hT a j b h hr).1
      show some (ad' b) = some (ad b)
      rw [hh b hb]
  unfold cellOf fkv
  show (if ykd Y a = 11 then _ else _) = (if ykd Y a = 11 then _ else _)
  simp only [h1, h2, show ∀ j, (gR (mna μ 26 4) a j).map (yad (yset Y ad' 31)) = (gR μ a j).map (yad (yset Y ad 26)) from h3]
  rfl
theorem wl_ix {Y : Lay} {μ : Mem} {k : Nat} {x : Nat × va_E} (h : (wl Y μ)[k]? = some x) : k < yn Y ∧ x = (yad Y k, cellOf Y μ k) := by
  have hk : k < yn Y := by
    have y := (List.getElem?_eq_some_iff.mp h).1
    rw [wl_len] at y
    exact y
  rw [wl_at hk] at h
  exact ⟨hk, (Option.some.inj h).symm⟩
theorem g_mna {β : Type} {r : β} {f : Mem → Option β} {X : Ctx} {Y : Lay} {A : Nat → Prop} {Q : State → Prop} {cells slots : Nat} {μ : Mem} {nL pc pc' : Nat} {lv : List (Nat × Value)} {st : List Value} {cc : ByteArray} {ret : Option FieldType} {own : String} {Rm : Room} {idx : Nat} {ad : Nat → Nat} (C : CxG X (yset Y ad 26) A cc nL ret own Rm) (hA : ∀ q, (xs X).heap.size ≤ q → A q) (hY : IsD Y) (w1 : Cond.classLink own idx "[[I" ∈ TT) (hao : va_AOA .int (xs X)) (w2 : Cond.arrayClass .int ∈ TT) (hc : cells + 5 ≤ Rm.cells) (hs : slots + 20 ≤ Rm.slots) (hd : DC cc pc (.multianewarray idx 2) 4 pc') (hf : nm (mna μ 26 4) f = some r)
    (k : ∀ (ad' : Nat → Nat) (μ1 : Mem), (∀ a, a < 26 → ad' a = ad a) → f μ1 = some r → G X (yset Y ad' 31) A Q (cells + 5) (slots + 20) nL pc' lv (.ref (ad' 26) :: st) μ1) : G X (yset Y ad 26) A Q cells slots nL pc lv (.int 4 :: .int 4 :: st) μ := by
  obtain ⟨hd, rfl⟩ := hd
  intro H locs ls hl hw
  obtain ⟨hK, hP, hD, hS, hT, hSt⟩ := id hw
  have hts := C.1.2.2.2.2
  have e4 : (4 : Int32).toNatClampNeg = 4 := by decide
  have es : "[" ++ (FieldType.array FieldType.int).toString = "[[I" := by decide
  intro T hTH Xs
  obtain ⟨vm₁, cA, comp, -, fA, fC, -, -, X', step⟩ := Xs.multianewarray2F C.1.1 (own := own) (index := idx) (ty := .int) C.1.2.2.2.1 (by rw [es]; exact hts _ w1) (va_AOA.use hao) (hts _ w2) (g := F0 (xm X) pc ls (.int 4 :: .int 4 :: st)) rfl (by rw [C.1.2.1]; exact hd) rfl (by decide) (by decide) (by decide) (by decide) (by decide) rfl rfl (by rw [C.2.2.2.2, e4]; omega) (by rw [C.2.2.2.2, e4]; omega)
  have ec : comp = ycy Y 0 := Option.some.inj (fC.symm.trans (hK.2 0 (ycy Y 0, .int) rfl).2)
  have ea : cA = ycy Y 5 := Option.some.inj (fA.symm.trans (hK.2 5 (ycy Y 5, .array .int) rfl).2)
  subst ec
  subst ea
  rw [e4] at X' step
  generalize hF : Jvm.Free.Multi.fill (T.setVm vm₁) (ycy Y 5) (ycy Y 0) 4 4 (defaultValue .int) 4 = F at X' step
  have hTh : (T.setVm vm₁).heap = H := hTH
  obtain ⟨f1, f2, -, -⟩ := Jvm.Free.Multi.fill_facts (T.setVm vm₁) (ycy Y 5) (ycy Y 0) 4 4 (defaultValue .int) 4
  rw [hF, hTh] at f1 f2
  rw [outer4] at f2
  have hold : ∀ x : Nat, x < H.size → F.heap[x]? = H[x]? := fun x hx => by
    have y := Jvm.Free.Multi.fill_old (T.setVm vm₁) (ycy Y 5) (ycy Y 0) 4 4 (defaultValue .int) (a := x) (by rw [hTh]; exact hx) 4
    rw [hF, hTh] at y
    exact y
  have hrow : ∀ j : Nat, j < 4 → F.heap[H.size + 1 + j]? = some (vp_cell (ycy Y 0) (4, .inl (fun _ => 0))) := fun j hj => by
    have y := Jvm.Free.Multi.fill_inner (T.setVm vm₁) (ycy Y 5) (ycy Y 0) 4 4 (defaultValue .int) 4 j hj
    rw [hF, hTh, inner4] at y
    exact y
  have hao2 : ∀ b, b < 26 → (fun a => if a < 26 then ad a else H.size + (a - 26)) b = ad b := fun b hb => by
    show (if b < 26 then ad b else H.size + (b - 26)) = ad b
    rw [if_pos hb]
  have had : ∀ b, b < 26 → ad b < H.size := fun b hb => (hP b _ (wl_at (Y := yset Y ad 26) hb)).lt
  have hP' : va_P (yD Y) vwCl (wl (yset Y (fun a => if a < 26 then ad a else H.size + (a - 26)) 31) (mna μ 26 4)) F.heap := by
    intro k9 x hx
    obtain ⟨hk, rfl⟩ := wl_ix hx
    have hk : k9 < 31 := hk
    by_cases c1 : k9 < 26
    · rw [mna_cell hT c1 hao2]
      show va_at _ _ ((fun a => if a < 26 then ad a else H.size + (a - 26)) k9, _) _
      rw [hao2 k9 c1]
      exact (hP k9 _ (wl_at (Y := yset Y ad 26) c1)).kept (hold _ (had k9 c1))
    · by_cases c2 : k9 = 26
      · subst c2
        rw [cell_ref (Y := yset Y (fun a => if a < 26 then ad a else H.size + (a - 26)) 31) (kD hY (show kdX 26 = 16 from rfl)) (by decide)]
        have er : (fun i => (gR (mna μ 26 4) 26 i).map (yad (yset Y (fun a => if a < 26 then ad a else H.size + (a - 26)) 31))) = fun i => if i < 4 then some (H.size + 1 + i) else none := by
          funext i
          rw [gR_mna26]
          by_cases ci : i < 4
          · rw [if_pos ci, if_pos ci]
            show some (if 27 + i < 26 then ad (27 + i) else H.size + (27 + i - 26)) = _
            rw [if_neg (by omega)]
            congr 1
            omega
          · rw [if_neg ci, if_neg ci]
            rfl
        rw [er, lD hY (show lnX 26 = 4 from rfl)]
        exact f2
      · rw [cell_int (Y := yset Y (fun a => if a < 26 then ad a else H.size + (a - 26)) 31) (kD hY (show kdX k9 = 11 by
          have y : k9 = 27 ∨ k9 = 28 ∨ k9 = 29 ∨ k9 = 30 := by omega
          rcases y with y | y | y | y <;> subst y <;> rfl)), gI_mnaN (by omega) hk, lD hY (show lnX k9 = 4 by
          have y : k9 = 27 ∨ k9 = 28 ∨ k9 = 29 ∨ k9 = 30 := by omega
          rcases y with y | y | y | y <;> subst y <;> rfl)]
        show F.heap[(if k9 < 26 then ad k9 else H.size + (k9 - 26))]? = some (vp_cell (ycy Y 0) (4, .inl (fun _ => 0)))
        rw [if_neg c1, show H.size + (k9 - 26) = H.size + 1 + (k9 - 27) by omega]
        exact hrow _ (by omega)
  have hD' : va_D A (wl (yset Y (fun a => if a < 26 then ad a else H.size + (a - 26)) 31) (mna μ 26 4)) := by
    refine ⟨fun i j p q hi hj hpq => ?_, fun k9 x hx => ?_⟩
    · obtain ⟨i1, rfl⟩ := wl_ix hi
      obtain ⟨j1, rfl⟩ := wl_ix hj
      have hpq : (if i < 26 then ad i else H.size + (i - 26)) = (if j < 26 then ad j else H.size + (j - 26)) := hpq
      by_cases c1 : i < 26
      · rw [if_pos c1] at hpq
        have y := had i c1
        by_cases c2 : j < 26
        · rw [if_pos c2] at hpq
          exact hD.1 i j _ _ (wl_at (Y := yset Y ad 26) c1) (wl_at (Y := yset Y ad 26) c2) hpq
        · rw [if_neg c2] at hpq
          omega
      · rw [if_neg c1] at hpq
        by_cases c2 : j < 26
        · rw [if_pos c2] at hpq
          have y := had j c2
          omega
        · rw [if_neg c2] at hpq
          omega
    · obtain ⟨k1, rfl⟩ := wl_ix hx
      show A (if k9 < 26 then ad k9 else H.size + (k9 - 26))
      by_cases c1 : k9 < 26
      · rw [if_pos c1]
        exact hD.2 k9 _ (wl_at (Y := yset Y ad 26) c1)
      · rw [if_neg c1]
        have y := hS.1
        exact hA _ (by omega)
  have hT' : WT (yset Y (fun a => if a < 26 then ad a else H.size + (a - 26)) 31) (mna μ 26 4) := by
    intro a j b h1 h2
    have h1 : a < 31 := h1
    by_cases c1 : a < 26
    · rw [gR_mna c1] at h2
      have y := hT a j b c1 h2
      have y1 : b < 26 := y.1
      exact ⟨show b < 31 by omega, y.2⟩
    · by_cases c2 : a = 26
      · subst c2
        rw [gR_mna26] at h2
        by_cases cj : j < 4
        · rw [if_pos cj] at h2
          have eb : b = 27 + j := (Option.some.inj h2).symm
          have ej : j = 0 ∨ j = 1 ∨ j = 2 ∨ j = 3 := by omega
          rcases ej with y | y | y | y <;> subst y <;> subst eb <;> exact ⟨by show _ < 31; omega, by rw [kD hY (show kdX 26 = 16 from rfl)]; exact kD hY rfl⟩
        · rw [if_neg cj] at h2
          cases h2
      · rw [gR_mnaN (by omega) h1] at h2
        cases h2
  obtain ⟨t, a1, b1⟩ := k (fun a => if a < 26 then ad a else H.size + (a - 26)) (mna μ 26 4) hao2 hf F.heap locs ls hl ⟨hK, hP', hD', ⟨by rw [f1]; have y := hS.1; omega, fun x g1 g2 => (hold x (Nat.lt_of_lt_of_le g1 hS.1)).trans (hS.2.1 x g1 g2), hS.2.2⟩, hT', St_f hY.2.2⟩ F rfl X'
  refine ⟨t, step t ?_, b1⟩
  have e : T.heap.size = H.size := by rw [hTH]
  rw [e]
  exact a1

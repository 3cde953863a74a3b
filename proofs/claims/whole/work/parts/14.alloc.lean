/-! Rows for constructors: cells that come. -/
def yset (Y : Lay) (ad : Nat → Nat) (n : Nat) : Lay := (ykd Y, yln Y, ysr Y, ymd Y, ycy Y, yD Y, ad, n, ytS Y)
def An (Y : Lay) (sz : Nat) : Nat → Prop := fun q => Aof Y q ∨ sz ≤ q
def va_AOA (ty : FieldType) (U : State) : Prop := (Cond.arrayOver (.array ty)).before #[] U = true
theorem va_AOA.use {ty : FieldType} {A : Array Value} {U : State} (h : va_AOA ty U) : (Cond.arrayOver (.array ty)).before A U = true := h
theorem va_AOA.moved {t : FieldType} {u U : State} (hvm : u.vm.Alike U.vm) (h0 : va_AOA t u) : va_AOA t U := by
  have h := h0
  unfold va_AOA at h
  simp only [Cond.before, Cond.holds, Cond.value, beq_iff_eq] at h
  cases hc : u.vm.findClass (FieldType.array t).toString with
  | none => simp [hc] at h
  | some comp =>
    simp only [hc, Option.bind_some, Option.bind_eq_some_iff, Option.map_eq_some_iff] at h
    obtain ⟨c, hi, k, hk, hb⟩ := h
    obtain ⟨k', hk', he⟩ := hvm.2.2 _ _ hk
    have hi' : (U.vm.classes.findIdx? fun (x : Class) => match x.kind with | .array component _ => component == comp | _ => false) = some c := by
      rw [show (U.vm.classes.findIdx? fun (x : Class) => match x.kind with | .array component _ => component == comp | _ => false) = (u.vm.classes.findIdx? fun (x : Class) => match x.kind with | .array component _ => component == comp | _ => false) from by
        have h9 := hvm.bare_eq
        have e1 : ∀ vm : Vm, (vm.classes.findIdx? fun (x : Class) => match x.kind with | .array component _ => component == comp | _ => false) = (vm.bare.classes.findIdx? fun (x : Class) => match x.kind with | .array component _ => component == comp | _ => false) := fun vm => by
          simp only [Vm.bare, Array.findIdx?_map]
          rfl
        exact (e1 U.vm).trans ((congrArg (fun vm : Vm => vm.classes.findIdx? fun (x : Class) => match x.kind with | .array component _ => component == comp | _ => false) h9).trans (e1 u.vm).symm)]
      exact hi
    have f1 : U.vm.findClass (FieldType.array t).toString = some comp := by rw [hvm.findClass]; exact hc
    have hkk : k'.kind = k.kind := by rw [he]
    unfold va_AOA
    simp only [Cond.before, Cond.holds, Cond.value, beq_iff_eq, f1, Option.bind_some]
    rw [Option.bind_eq_some_iff]
    refine ⟨c, hi', ?_⟩
    rw [hk', Option.map_some, hkk]
    cases hkind : k.kind with
    | array component ty =>
      rw [hkind] at hb
      simp only [Bool.and_eq_true, decide_eq_true_eq] at hb
      simp only [Option.some.injEq, Bool.and_eq_true, decide_eq_true_eq]
      exact ⟨hb.1, by rw [hvm.findClass]; exact hb.2⟩
    | _ => rw [hkind] at hb; simp at hb
def AOs (U : State) : Prop := va_AO "TopYard$Top" U ∧ va_AO "TopYard$Spinner" U ∧ va_AO "TopYard$Sheet" U ∧ va_AOA .int U
theorem AOs.moved {u U : State} (h : AOs u) (hvm : u.vm.Alike U.vm) : AOs U := ⟨va_AO.moved hvm h.1, va_AO.moved hvm h.2.1, va_AO.moved hvm h.2.2.1, va_AOA.moved hvm h.2.2.2⟩
theorem AOs.blind {U : State} (g : JFrame) (mk : MethodId) (a : Array Value) (h : AOs U) : AOs (U.calling g mk a) := h.moved (Vm.Alike.refl U.vm)
def QA (Y : Lay) (sz n' : Nat) (μ' : Mem) : Array Value → State → Outcome → State → Prop := fun _ st oc t => oc = .returned none ∧ (∃ ad' : Nat → Nat, (∀ a, a < yn Y → ad' a = yad Y a) ∧ (∀ a, a < n' → An Y sz (ad' a)) ∧ WS (yset Y ad' n') μ' t) ∧ va_F (An Y sz) st t
def CtA (l : Launch) (Y : Lay) (y : MethodName) (cc : ByteArray) (nL : Nat) (Rm : Room) (as : List Value) (n' : Nat) (μ μ' : Mem) (E : State → Prop) : Prop :=
  ∀ sz, Met l y (.code y cc nL none :: TT) Rm (va_Pc as (fun U => WS Y μ U ∧ U.heap.size = sz ∧ E U)) (QA Y sz n' μ') Rm.cells Rm.slots (An Y sz)
theorem gIz {μ : Mem} {n a j : Nat} (h : a < n) : gI (zer μ n) a j = gI μ a j := by rw [gI_zer, if_neg (by omega)]
theorem gLz {μ : Mem} {n a j : Nat} (h : a < n) : gL (zer μ n) a j = gL μ a j := by rw [gL_zer, if_neg (by omega)]
theorem gRz {μ : Mem} {n a j : Nat} (h : a < n) : gR (zer μ n) a j = gR μ a j := by rw [gR_zer, if_neg (by omega)]
theorem up_o {ad : Nat → Nat} {n q a : Nat} (h : a < n) : va_up ad n q a = ad a := by unfold va_up; rw [if_neg (by omega)]
theorem up_n {ad : Nat → Nat} {n q : Nat} : va_up ad n q n = q := by unfold va_up; rw [if_pos rfl]
theorem cell_push {Y : Lay} {ad : Nat → Nat} {n q a : Nat} {μ : Mem} (hT : WT (yset Y ad n) μ) (h : a < n) : cellOf (yset Y (va_up ad n q) (n + 1)) (zer μ n) a = cellOf (yset Y ad n) μ a := by
  have h1 : gI (zer μ n) a = gI μ a := funext fun j => gIz h
  have h2 : gL (zer μ n) a = gL μ a := funext fun j => gLz h
  have h3 : ∀ j, (gR (zer μ n) a j).map (va_up ad n q) = (gR μ a j).map ad := by
    intro j
    rw [gRz h]
    cases hr : gR μ a j with
    | none => rfl
    | some b =>
      have hb : b < n := (hT a j b h hr).1
      show some (va_up ad n q b) = some (ad b)
      rw [up_o hb]
  unfold cellOf fkv
  show (if ykd Y a = 11 then _ else _) = (if ykd Y a = 11 then _ else _)
  simp only [h1, h2, show ∀ j, (gR (zer μ n) a j).map (yad (yset Y (va_up ad n q) (n + 1))) = (gR μ a j).map (yad (yset Y ad n)) from h3]
  rfl
theorem wl_push {Y : Lay} {ad : Nat → Nat} {n q : Nat} {μ : Mem} (hT : WT (yset Y ad n) μ) : wl (yset Y (va_up ad n q) (n + 1)) (zer μ n) = wl (yset Y ad n) μ ++ [(q, cellOf (yset Y (va_up ad n q) (n + 1)) (zer μ n) n)] := by
  unfold wl
  show (List.range (n + 1)).map _ = (List.range n).map _ ++ _
  rw [List.range_succ, List.map_append]
  congr 1
  · apply List.map_congr_left
    intro a ha
    have h := List.mem_range.mp ha
    show (va_up ad n q a, _) = (ad a, _)
    rw [up_o h, cell_push hT h]
  · show [(va_up ad n q n, _)] = _
    rw [up_n]
theorem WT_push {Y : Lay} {ad ad' : Nat → Nat} {n : Nat} {μ : Mem} (hT : WT (yset Y ad n) μ) : WT (yset Y ad' (n + 1)) (zer μ n) := by
  intro a j b h1 h2
  have h1' : a < n + 1 := h1
  rcases Nat.lt_or_ge a n with h | h
  · rw [gRz h] at h2
    have := hT a j b h h2
    exact ⟨Nat.lt_succ_of_lt this.1, this.2⟩
  · rw [gR_zer, if_pos (by omega)] at h2
    cases h2
theorem St_push {Y : Lay} {ad ad' : Nat → Nat} {n : Nat} {μ : Mem} (h : ymd Y = false ∨ ∀ j, stt (ykd Y n) j = false) (hSt : St (yset Y ad n) μ) : St (yset Y ad' (n + 1)) (zer μ n) := by
  intro hm a j h1 h2 h3
  have h1' : a < n + 1 := h1
  rcases h with h | h
  · rw [show ymd (yset Y ad' (n + 1)) = ymd Y from rfl, h] at hm; cases hm
  · rcases Nat.lt_or_ge a n with q | q
    · rw [gRz q]; exact hSt hm a j q h2 h3
    · have : a = n := by omega
      subst this
      rw [show stt (ykd (yset Y ad' (a + 1)) a) j = stt (ykd Y a) j from rfl, h j] at h2
      cases h2
theorem St_f {Y : Lay} {μ : Mem} (h : ymd Y = false) : St Y μ := fun h2 => by rw [h] at h2; cases h2
section ALLOC
variable {X : Ctx} {Y : Lay} {A : Nat → Prop} {Q : State → Prop} {cells slots : Nat} {μ : Mem} {nL pc pc' : Nat} {lv : List (Nat × Value)} {st : List Value} {cc : ByteArray} {ret : Option FieldType} {own : String} {Rm : Room} {idx ci j a n n1 : Nat} {ad : Nat → Nat} {ty : FieldType}
theorem g_new {β : Type} {r : β} {f : Mem → Option β} {N : Nat} {Cn : String} {T : u_T} {ty0 : Nat → FieldType} (C : CxG X (yset Y ad n) A cc nL ret own Rm) (hA : ∀ q, (xs X).heap.size ≤ q → A q) (hmd : ymd Y = false ∨ ∀ j, stt ci j = false) (hk : ykd Y n = ci) (hci : ci < 11) (hcl : vwCl[ci]? = some (Cn, T, N)) (hin : ∀ w ∈ u_ws Cn T N, w ∈ TT) (hty : ∀ k, k < N → parseFieldDescriptor (T k).2.2.1 = some (ty0 k)) (hN : (fks ci).length = N) (hdf : ∀ j, j < N → defaultValue (ty0 j) = if (fks ci).getD j 0 = 0 then Value.int 0 else if (fks ci).getD j 0 = 1 then Value.long 0 else Value.null) (w1 : Cond.classLink own idx Cn ∈ TT) (w2 : Cond.instantiable Cn N ∈ TT) (w3 : Cond.initialized Cn ∈ TT) (hc : cells + 1 ≤ Rm.cells) (hs : slots + N ≤ Rm.slots) (hn1 : n + 1 = n1) (hd : DC cc pc (.new idx) 3 pc') (hf : nm (zer μ n) f = some r)
    (k : ∀ (ad' : Nat → Nat) (μ1 : Mem), (∀ a, a < n → ad' a = ad a) → f μ1 = some r → G X (yset Y ad' n1) A Q (cells + 1) (slots + N) nL pc' lv (.ref (ad' n) :: st) μ1) : G X (yset Y ad n) A Q cells slots nL pc lv st μ := by
  obtain ⟨hd, rfl⟩ := hd
  subst hn1
  intro H locs ls hl hw
  obtain ⟨hK, hP, hD, hS, hT, hSt⟩ := id hw
  have hts := C.1.2.2.2.2
  refine va_new (ci := ci) (C := Cn) (T := T) (N := N) (fs := fkv (va_up ad n 0) (zer μ n) n (fks ci)) C.1.1 C.1.2.1 hts hin ty0 hty C.1.2.2.2.1 (hts _ w1) (hts _ w2) (hts _ w3) hK hP hD hS hA hcl ?_ (by rw [C.2.2.2.2]; exact hc) (by rw [C.2.2.2.2]; exact hs) hd (fun q H1 hP1 hD1 hS1 => ?_)
  · intro j hj
    unfold vp_V
    have e := fkv_at (ad := va_up ad n 0) (μ := zer μ n) (a := n) (j := j) (ks := fks ci) (by omega)
    rw [gI_zer, gL_zer, gR_zer, if_pos rfl, if_pos rfl, if_pos rfl] at e
    rw [hdf j hj, List.getD_eq_getElem?_getD (l := fkv (va_up ad n 0) (zer μ n) n (fks ci)), e]
    rfl
  · have he : fkv (va_up ad n 0) (zer μ n) n (fks ci) = fkv (va_up ad n q) (zer μ n) n (fks ci) := by
      unfold fkv
      apply List.map_congr_left
      intro j _
      rw [gR_zer, if_pos rfl]
      rfl
    have hcell : cellOf (yset Y (va_up ad n q) (n + 1)) (zer μ n) n = .inr (ci, fkv (va_up ad n 0) (zer μ n) n (fks ci)) := by
      rw [he]; exact cell_obj (Y := yset Y (va_up ad n q) (n + 1)) hk hci
    rw [← hcell, ← wl_push hT] at hP1 hD1
    have := k (va_up ad n q) (zer μ n) (fun a h => up_o h) hf H1 locs ls hl ⟨hK, hP1, hD1, hS1, WT_push hT, St_push (by rw [hk]; exact hmd) hSt⟩
    rw [up_n] at this
    exact this
theorem arr_id {Y : Lay} {s : State} {cA : ClassId} {t0 : Nat} {q : FieldType} (hq : ∀ c, q ≠ .object c) (h0 : (tysOf (ycy Y))[t0]? = some (ycy Y t0, q)) (hK : va_K (yD Y) vwCl (tysOf (ycy Y) ++ [(cA, q)]) s) : cA = ycy Y t0 := by
  have hl : t0 < (tysOf (ycy Y)).length := (List.getElem?_eq_some_iff.mp h0).1
  have h1 := (hK.2 t0 (ycy Y t0, q) (by rw [List.getElem?_append_left hl]; exact h0)).2
  have h2 := (hK.2 (tysOf (ycy Y)).length (cA, q) (by rw [List.getElem?_append_right (Nat.le_refl _)]; simp)).2
  unfold va_RA at h1 h2
  cases q with
  | object c => exact absurd rfl (hq c)
  | _ => exact Option.some.inj (h2.symm.trans h1)
theorem arr_idO {Y : Lay} {s : State} {cA : ClassId} {t0 : Nat} {cn : String} (h0 : (tysOf (ycy Y))[t0]? = some (ycy Y t0, .object cn)) (hK : va_K (yD Y) vwCl (tysOf (ycy Y) ++ [(cA, .object cn)]) s) : cA = ycy Y t0 := by
  have hl : t0 < (tysOf (ycy Y)).length := (List.getElem?_eq_some_iff.mp h0).1
  have h1 := (hK.2 t0 (ycy Y t0, .object cn) (by rw [List.getElem?_append_left hl]; exact h0)).2
  have h2 := (hK.2 (tysOf (ycy Y)).length (cA, .object cn) (by rw [List.getElem?_append_right (Nat.le_refl _)]; simp)).2
  obtain ⟨_, _, _, _, _, a4⟩ := h1
  obtain ⟨_, _, _, _, _, b4⟩ := h2
  exact Option.some.inj (b4.symm.trans a4)
theorem K_cut {Y : Lay} {s : State} {l2 : List (ClassId × FieldType)} (hK : va_K (yD Y) vwCl (tysOf (ycy Y) ++ l2) s) : va_K (yD Y) vwCl (tysOf (ycy Y)) s :=
  ⟨hK.1, fun k q hk => hK.2 k q (by rw [List.getElem?_append_left (List.getElem?_eq_some_iff.mp hk).1]; exact hk)⟩
theorem g_newI {β : Type} {r : β} {f : Mem → Option β} {len : Int32} {N : Nat} (C : CxG X (yset Y ad n) A cc nL ret own Rm) (hA : ∀ q, (xs X).heap.size ≤ q → A q) (hmd : ymd Y = false) (hk : ykd Y n = 11) (hln : yln Y n = N) (w1 : Cond.arrayClass .int ∈ TT) (h0 : ¬ len < 0) (hN : len.toNatClampNeg = N) (hby : N * componentBytes .int ≤ 536870912) (hc : cells + 1 ≤ Rm.cells) (hs : slots + N ≤ Rm.slots) (hn1 : n + 1 = n1) (hd : DC cc pc (.newarray .int) 2 pc') (hf : nm (zer μ n) f = some r)
    (k : ∀ (ad' : Nat → Nat) (μ1 : Mem), (∀ a, a < n → ad' a = ad a) → f μ1 = some r → G X (yset Y ad' n1) A Q (cells + 1) (slots + N) nL pc' lv (.ref (ad' n) :: st) μ1) : G X (yset Y ad n) A Q cells slots nL pc lv (.int len :: st) μ := by
  obtain ⟨hd, rfl⟩ := hd
  subst hn1
  intro H locs ls hl hw
  obtain ⟨hK, hP, hD, hS, hT, hSt⟩ := id hw
  refine va_newa (atype := .int) (ty := .int) (a0 := (N, .inl (fun _ => 0))) C.1.1 C.1.2.1 (C.1.2.2.2.2 _ w1) rfl hK hP hD hS hA (fun _ => rfl) h0 hN hby (by rw [C.2.2.2.2]; exact hc) (by rw [C.2.2.2.2]; exact hs) hd (fun q cA H1 hK1 hP1 hD1 hS1 => ?_)
  have hcA := arr_id (Y := yset Y ad n) (t0 := 0) (fun c h => by cases h) rfl hK1
  have hcell : cellOf (yset Y (va_up ad n q) (n + 1)) (zer μ n) n = .inl (cA, N, .inl (fun _ => 0)) := by
    rw [cell_int (Y := yset Y (va_up ad n q) (n + 1)) hk, hcA]
    have : gI (zer μ n) n = fun _ => 0 := funext fun j => by rw [gI_zer, if_pos rfl]
    rw [this]
    show Sum.inl (ycy Y 0, yln Y n, Sum.inl fun _ => 0) = _
    rw [hln]; rfl
  rw [← hcell, ← wl_push hT] at hP1 hD1
  have := k (va_up ad n q) (zer μ n) (fun a h => up_o h) hf H1 locs ls hl ⟨hK, hP1, hD1, hS1, WT_push hT, St_f hmd⟩
  rw [up_n] at this
  exact this
theorem g_newJ {β : Type} {r : β} {f : Mem → Option β} {len : Int32} {N : Nat} (C : CxG X (yset Y ad n) A cc nL ret own Rm) (hA : ∀ q, (xs X).heap.size ≤ q → A q) (hmd : ymd Y = false) (hk : ykd Y n = 12) (hln : yln Y n = N) (w1 : Cond.arrayClass .long ∈ TT) (h0 : ¬ len < 0) (hN : len.toNatClampNeg = N) (hby : N * componentBytes .long ≤ 536870912) (hc : cells + 1 ≤ Rm.cells) (hs : slots + N ≤ Rm.slots) (hn1 : n + 1 = n1) (hd : DC cc pc (.newarray .long) 2 pc') (hf : nm (zer μ n) f = some r)
    (k : ∀ (ad' : Nat → Nat) (μ1 : Mem), (∀ a, a < n → ad' a = ad a) → f μ1 = some r → G X (yset Y ad' n1) A Q (cells + 1) (slots + N) nL pc' lv (.ref (ad' n) :: st) μ1) : G X (yset Y ad n) A Q cells slots nL pc lv (.int len :: st) μ := by
  obtain ⟨hd, rfl⟩ := hd
  subst hn1
  intro H locs ls hl hw
  obtain ⟨hK, hP, hD, hS, hT, hSt⟩ := id hw
  refine va_newa (atype := .long) (ty := .long) (a0 := (N, .inr (.inl (fun _ => 0)))) C.1.1 C.1.2.1 (C.1.2.2.2.2 _ w1) rfl hK hP hD hS hA (fun _ => rfl) h0 hN hby (by rw [C.2.2.2.2]; exact hc) (by rw [C.2.2.2.2]; exact hs) hd (fun q cA H1 hK1 hP1 hD1 hS1 => ?_)
  have hcA := arr_id (Y := yset Y ad n) (t0 := 1) (fun c h => by cases h) rfl hK1
  have hcell : cellOf (yset Y (va_up ad n q) (n + 1)) (zer μ n) n = .inl (cA, N, .inr (.inl (fun _ => 0))) := by
    rw [cell_long (Y := yset Y (va_up ad n q) (n + 1)) hk, hcA]
    have : gL (zer μ n) n = fun _ => 0 := funext fun j => by rw [gL_zer, if_pos rfl]
    rw [this]
    show Sum.inl (ycy Y 1, yln Y n, Sum.inr (Sum.inl fun _ => 0)) = _
    rw [hln]; rfl
  rw [← hcell, ← wl_push hT] at hP1 hD1
  have := k (va_up ad n q) (zer μ n) (fun a h => up_o h) hf H1 locs ls hl ⟨hK, hP1, hD1, hS1, WT_push hT, St_f hmd⟩
  rw [up_n] at this
  exact this
theorem g_newQ {β : Type} {r : β} {f : Mem → Option β} {len : Int32} {N q0 : Nat} {cn : String} (C : CxG X (yset Y ad n) A cc nL ret own Rm) (hA : ∀ q, (xs X).heap.size ≤ q → A q) (hmd : ymd Y = false) (hk : ykd Y n = q0) (hq : 12 < q0) (hty : (tysOf (ycy Y))[q0 - 11]? = some (ycy Y (q0 - 11), .object cn)) (hln : yln Y n = N) (w1 : Cond.classLink own idx cn ∈ TT) (hao : va_AO cn (xs X)) (h0 : ¬ len < 0) (hN : len.toNatClampNeg = N) (hby : N * 4 ≤ 536870912) (hc : cells + 1 ≤ Rm.cells) (hs : slots + N ≤ Rm.slots) (hn1 : n + 1 = n1) (hd : DC cc pc (.anewarray idx) 3 pc') (hf : nm (zer μ n) f = some r)
    (k : ∀ (ad' : Nat → Nat) (μ1 : Mem), (∀ a, a < n → ad' a = ad a) → f μ1 = some r → G X (yset Y ad' n1) A Q (cells + 1) (slots + N) nL pc' lv (.ref (ad' n) :: st) μ1) : G X (yset Y ad n) A Q cells slots nL pc lv (.int len :: st) μ := by
  obtain ⟨hd, rfl⟩ := hd
  subst hn1
  intro H locs ls hl hw
  obtain ⟨hK, hP, hD, hS, hT, hSt⟩ := id hw
  refine va_newq C.1.1 C.1.2.1 C.1.2.2.2.1 (C.1.2.2.2.2 _ w1) hao hK hP hD hS hA h0 hN hby (by rw [C.2.2.2.2]; exact hc) (by rw [C.2.2.2.2]; exact hs) hd (fun q cA H1 hK1 hP1 hD1 hS1 => ?_)
  have hcA := arr_idO (Y := yset Y ad n) (t0 := q0 - 11) hty hK1
  have hcell : cellOf (yset Y (va_up ad n q) (n + 1)) (zer μ n) n = .inl (cA, N, .inr (.inr (.inr (.inr (fun _ => none))))) := by
    rw [cell_ref (Y := yset Y (va_up ad n q) (n + 1)) hk hq, hcA]
    have : (fun i => (gR (zer μ n) n i).map (yad (yset Y (va_up ad n q) (n + 1)))) = fun _ => none := funext fun j => by rw [gR_zer, if_pos rfl]; rfl
    rw [this]
    show Sum.inl (ycy Y (q0 - 11), yln Y n, _) = _
    rw [hln]; rfl
  rw [← hcell, ← wl_push hT] at hP1 hD1
  have := k (va_up ad n q) (zer μ n) (fun a h => up_o h) hf H1 locs ls hl ⟨hK, hP1, hD1, hS1, WT_push hT, St_f hmd⟩
  rw [up_n] at this
  exact this
/-- a final field, in a constructor -/
theorem g_pIF {β : Type} {r : β} {f : Mem → Option β} {v : Int32} (C : CxG X Y A cc nL ret own Rm) (hnm : (xt X).name = "<init>") (F : FL own idx ci j true .int) (hown : vwCl[ci]?.map (fun q => q.1) = some own) (hk : ykd Y a = ci) (ha : a < yn Y) (h0 : (fks ci).getD j 0 = 0) (hd : DC cc pc (.putfield idx) 3 pc') (hf : nm (sI μ a j v) f = some r) (k : ∀ μ1, f μ1 = some r → G X Y A Q cells slots nL pc' lv st μ1) : G X Y A Q cells slots nL pc lv (.int v :: .ref (yad Y a) :: st) μ := by
  obtain ⟨hd, rfl⟩ := hd
  obtain ⟨Cn, T, N, ty0, f1, f2, f3, f4, f5, f6, f7, f8, f9, f10, f11⟩ := F
  rw [f1] at hown
  have hown : Cn = own := Option.some.inj hown
  intro H locs ls hl hw
  obtain ⟨hK, hP, hD, hS, hT, hSt⟩ := id hw
  have hset : (wl Y μ).set a (yad Y a, .inr (ci, (fkv (yad Y) μ a (fks ci)).set j (.int v))) = wl Y (sI μ a j v) := by
    refine wl_set ?_ (fun b hb => cell_same (fun i => ne_sI hb) (fun _ => rfl) (fun _ => rfl))
    rw [cell_obj hk f5, fkv_set (μ := μ) (μ' := sI μ a j v) (by rw [if_pos h0, gI_sI, if_pos rfl, if_pos rfl]) (fun i hi => by rw [gI_sI, if_pos rfl, if_neg hi]) (fun _ _ => rfl) (fun _ _ => rfl)]
  refine va_putF (D := yD Y) (ci := ci) (v := .int v) (ty := .int) (C := Cn) (T := T) (N := N) C.1.1 C.1.2.1 C.1.2.2.2.2 f2 ty0 f9 f10 C.1.2.2.2.1 hK hP hD hS a (by rw [wl_at ha, cell_obj hk f5]) f1 j f3 (C.1.2.2.2.2 _ f6) (fun x h => by rw [f7] at h; exact h) f8 hnm (by rw [f7, hown]) (by rw [f9 j f3, f11]) rfl rfl (by rw [fkv_len]; omega) hd (fun H1 locs1 hP1 hD1 hS1 => ?_)
  rw [hset] at hP1 hD1
  exact k _ hf H1 locs1 ls hl ⟨hK, hP1, hD1, hS1, hT, hSt⟩
theorem g_pRF {β : Type} {r : β} {f : Mem → Option β} {b : Nat} (C : CxG X Y A cc nL ret own Rm) (hnm : (xt X).name = "<init>") (F : FL own idx ci j true ty) (hown : vwCl[ci]?.map (fun q => q.1) = some own) (hk : ykd Y a = ci) (ha : a < yn Y) (h0 : (fks ci).getD j 0 = 2) (hmd : ymd Y = false) (hb : b < yn Y ∧ ykd Y b = tgt ci j) (hn : ∀ o : Option Nat, narrow ty (va_rf o) = va_rf o) (hfit : ∀ o : Option Nat, fits ty (va_rf o) = true) (hd : DC cc pc (.putfield idx) 3 pc') (hf : nm (sR μ a j (some b)) f = some r) (k : ∀ μ1, f μ1 = some r → G X Y A Q cells slots nL pc' lv st μ1) : G X Y A Q cells slots nL pc lv (.ref (yad Y b) :: .ref (yad Y a) :: st) μ := by
  obtain ⟨hd, rfl⟩ := hd
  obtain ⟨Cn, T, N, ty0, f1, f2, f3, f4, f5, f6, f7, f8, f9, f10, f11⟩ := F
  rw [f1] at hown
  have hown : Cn = own := Option.some.inj hown
  intro H locs ls hl hw
  obtain ⟨hK, hP, hD, hS, hT, hSt⟩ := id hw
  have hset : (wl Y μ).set a (yad Y a, .inr (ci, (fkv (yad Y) μ a (fks ci)).set j (.ref (yad Y b)))) = wl Y (sR μ a j (some b)) := by
    refine wl_set ?_ (fun b hb => cell_same (fun _ => rfl) (fun _ => rfl) (fun i => ne_sR hb))
    rw [cell_obj hk f5, fkv_set (μ := μ) (μ' := sR μ a j (some b)) (by rw [if_neg (n20 h0), if_neg (n21 h0), gR_sR, if_pos rfl, if_pos rfl]; rfl) (fun _ _ => rfl) (fun _ _ => rfl) (fun i hi => by rw [gR_sR, if_pos rfl, if_neg hi])]
  refine va_putF (D := yD Y) (ci := ci) (v := .ref (yad Y b)) (ty := ty) (C := Cn) (T := T) (N := N) C.1.1 C.1.2.1 C.1.2.2.2.2 f2 ty0 f9 f10 C.1.2.2.2.1 hK hP hD hS a (by rw [wl_at ha, cell_obj hk f5]) f1 j f3 (C.1.2.2.2.2 _ f6) (fun x h => by rw [f7] at h; exact h) f8 hnm (by rw [f7, hown]) (by rw [f9 j f3, f11]) (hn (some (yad Y b))) (hfit (some (yad Y b))) (by rw [fkv_len]; omega) hd (fun H1 locs1 hP1 hD1 hS1 => ?_)
  rw [hset] at hP1 hD1
  exact k _ hf H1 locs1 ls hl ⟨hK, hP1, hD1, hS1, sR_WT ha hk (fun q hq => by cases hq; exact hb) hT, St_f hmd⟩
/-- a reference that is known -/
theorem g_gR {b : Nat} {fin : Bool} (C : CxG X Y A cc nL ret own Rm) (F : FL own idx ci j fin ty) (hk : ykd Y a = ci) (ha : a < yn Y) (h0 : (fks ci).getD j 0 = 2) (h : gR μ a j = some b) (hd : DC cc pc (.getfield idx) 3 pc') (k : G X Y A Q cells slots nL pc' lv (.ref (yad Y b) :: st) μ) : G X Y A Q cells slots nL pc lv (.ref (yad Y a) :: st) μ := by
  refine j_gR (r := ()) (f := fun o => if o = some b then some () else none) C F hk ha h0 hd (by simp [nm, h]) (fun o ho hf => ?_)
  by_cases e : o = some b
  · subst e; exact k
  · simp only [if_neg e] at hf; cases hf
theorem g_aast {β : Type} {r : β} {f : Mem → Option β} {q0 N b cb : Nat} {i : Int32} {qc : vw_C} (C : CxG X Y A cc nL ret own Rm) (hk : ykd Y a = q0) (hq : 12 < q0) (hty : (tysOf (ycy Y))[q0 - 11]? = some (ycy Y (q0 - 11), .object qc.1)) (ha : a < yn Y) (hln : yln Y a = N) (hi : ib i N = true) (hmd : ymd Y = false ∨ stt q0 (ix i) = false) (hb : b < yn Y) (hkb : ykd Y b = cb) (hcb : cb < 11) (hqc : vwCl[cb]? = some qc) (htg : tgt q0 (ix i) = cb) (hd : DC cc pc .aastore 1 pc') (hf : nm (sR μ a (ix i) (some b)) f = some r) (k : ∀ μ1, f μ1 = some r → G X Y A Q cells slots nL pc' lv st μ1) : G X Y A Q cells slots nL pc lv (.ref (yad Y b) :: .int i :: .ref (yad Y a) :: st) μ := by
  obtain ⟨hd, rfl⟩ := hd
  intro H locs ls hl hw
  obtain ⟨hK, hP, hD, hS, hT, hSt⟩ := id hw
  have hset : (wl Y μ).set a (yad Y a, .inl (ycy Y (q0 - 11), N, .inr (.inr (.inr (.inr (va_up (fun i => (gR μ a i).map (yad Y)) (ix i) (some (yad Y b)))))))) = wl Y (sR μ a (ix i) (some b)) := by
    refine wl_set ?_ (fun b hb => cell_same (fun _ => rfl) (fun _ => rfl) (fun i => ne_sR hb))
    rw [cell_ref hk hq, hln]
    have : (fun j => (gR (sR μ a (ix i) (some b)) a j).map (yad Y)) = va_up (fun i => (gR μ a i).map (yad Y)) (ix i) (some (yad Y b)) := funext fun j => by
      rw [gR_sR, if_pos rfl]
      unfold va_up
      by_cases e : j = ix i
      · rw [if_pos e, if_pos e]; rfl
      · rw [if_neg e, if_neg e]
    rw [this]
  refine va_astq C.1.1 C.1.2.1 hK hP hD hS a (q0 - 11) b cb (r := qc) (by rw [wl_at ha, cell_ref hk hq, hln]) hty (by rw [wl_at hb, cell_obj hkb hcb]) hqc (ib_in hi) hd (fun H1 locs1 hP1 hD1 hS1 => ?_)
  rw [show i.toNatClampNeg = ix i from rfl, hset] at hP1 hD1
  refine k _ hf H1 locs1 ls hl ⟨hK, hP1, hD1, hS1, sR_WT ha hk (fun q hq => by cases hq; exact ⟨hb, by rw [hkb, htg]⟩) hT, ?_⟩
  rcases hmd with h | h
  · exact St_f h
  · exact sR_St hk h hSt
theorem g_obj (C : CxG X Y A cc nL ret own Rm) (w1 : Cond.methodLink own idx objectInit ∈ TT) (w2 : Cond.instanceMethod objectInit ∈ TT) (w3 : Cond.code objectInit ⟨#[0xb1]⟩ 1 none ∈ TT) (hf : 1 ≤ Rm.frames) (hlo : 24 ≤ Rm.locals) (hst : st = []) (hd : DC cc pc (.invokespecial idx) 3 pc') (k : G X Y A Q cells slots nL pc' lv st μ) : G X Y A Q cells slots nL pc lv (.ref a :: st) μ := by
  obtain ⟨hd, rfl⟩ := hd
  subst hst
  intro H locs ls hl hw
  have hts := C.1.2.2.2.2
  refine W.objInit C.1.1 C.1.2.1 C.1.2.2.2.1 (hts _ w1) (hts _ w2) (hts _ w3) rfl (by rw [C.1.2.2.1]; exact hl.1) rfl hd (by rw [C.2.2.2.2]; exact hf) ?_ ?_
  · rw [C.2.2.2.2]
    show 2 * 0 + 0 + 12 ≤ Rm.locals
    omega
  · exact k H locs ls hl hw
end ALLOC
/-- a constructor's end -/
theorem g_vret {X : Ctx} {Y : Lay} {sz mc ms n : Nat} {ad : Nat → Nat} {μ : Mem} {nL pc : Nat} {lv : List (Nat × Value)} {cc : ByteArray} {own : String} {Rm : Room} (C : CxG X (yset Y ad n) (An Y sz) cc nL none own Rm) (hag : ∀ a, a < yn Y → ad a = yad Y a) (hd : decode cc pc = .ok (.return_, 1)) : G X (yset Y ad n) (An Y sz) (MQ (xb X) (QA Y sz n μ) (xa X) (xs X) mc ms (An Y sz)) mc ms nL pc lv [] μ := by
  intro H locs ls hl hw
  obtain ⟨hK, hP, hD, hS, hT, hSt⟩ := id hw
  refine W.vret C.1.1 C.1.2.1 C.2.1 (fun t ht hW => ⟨rfl, ⟨ad, hag, fun a ha => hD.2 a _ (wl_at (Y := yset Y ad n) ha), va_K.moved hW.alike hK, by rw [ht]; exact hP, hD.weaken (fun _ _ _ _ => trivial), hT, hSt, ?_⟩, hS.F ht⟩) hS.2.2 hd C.2.2.1
  have hO := C.2.2.2.1.moved hS ht hW.alike
  intro k r hr
  obtain ⟨h1, h2, h3⟩ := hO k r hr
  have hsub : ∀ q, Aof (yset Y ad n) q → An Y sz q := by
    rintro q ⟨a, ha, rfl⟩
    exact hD.2 a _ (wl_at ha)
  exact ⟨h1.narrow hsub, h2.narrow hsub, h3⟩
theorem ct_ofA {l : Launch} {Y : Lay} {y : MethodName} {cc : ByteArray} {nL : Nat} {Rm : Room} {as : List Value} {n' : Nat} {μ μ' : Mem} {lv : List (Nat × Value)} {own : String} {E : State → Prop} (hy : plainFor y = true) (hown : y.cls = own) (hnm : y.name = "<init>") (hle : (lg_sl as).length ≤ nL) (hlv : lv_args 0 as = lv)
    (body : ∀ (X : Ctx) (sz : Nat), xl X = l → (xs X).heap.size = sz → E (xs X) → (xt X).name = "<init>" → CxG X Y (An Y sz) cc nL none own Rm → G X (yset Y (yad Y) (yn Y)) (An Y sz) (MQ (xb X) (QA Y sz n' μ') (xa X) (xs X) Rm.cells Rm.slots (An Y sz)) 0 0 nL 0 lv [] μ) : CtA l Y y cc nL Rm as n' μ μ' E := by
  intro sz
  refine va_MetF (cc := cc) (maxL := nL) (ret := none) hy rfl ?_
  intro p e s m args below meth c s₁ B hml hv
  obtain ⟨rfl, hW, hsz, hE⟩ := hv
  have hts := atoms_spec (ws := (Cond.code y cc nL none :: TT)) B.pre
  have hl := lv_entry as (n := nL) hle
  rw [lg_entry_eq]
  have hown' : s.vm.findClass own = some m.cls := by rw [← hown]; exact findClass_of_methodNamed B.named
  have hname : meth.name = "<init>" := by rw [← hnm]; exact (name_of_methodNamed B.named B.method).1
  have hO : SOK Y (An Y sz) s := by
    intro k r hr
    obtain ⟨h1, h2, cell, h3, h4⟩ := hW.2.2.2.2.2 k r hr
    have hlt : ytS Y k < sz := by rw [← hsz]; exact (Array.getElem?_eq_some_iff.mp h3).1
    refine ⟨?_, ?_, cell, h3, h4⟩
    · obtain ⟨cf, kf, fi, f, a, cl, g1, g2, g3, g4, g5, g6, g7, g8⟩ := h1
      refine ⟨cf, kf, fi, f, a, cl, g1, g2, g3, g4, g5, g6, g7, fun h => ?_⟩
      rcases h with h | h
      · exact g8 h
      · have := (Array.getElem?_eq_some_iff.mp g5).1; omega
    · obtain ⟨cl, g1, g2, g3, g4, g5, g6, g7⟩ := h2
      refine ⟨cl, g1, g2, g3, g4, g5, g6, fun h => ?_⟩
      rcases h with h | h
      · exact g7 h
      · omega
  have hb := body (p, l, e, Rm, s, m, as.toArray, below, meth, c) sz rfl hsz hE hname ⟨⟨B.exec, B.bytes, hml, hown', fun w hw => hts w (List.mem_cons_of_mem _ hw)⟩, B.returns, B.notSynchronized, hO, rfl⟩
  rw [hlv] at hl
  obtain ⟨hK, hP, hD, hT, hSt, -⟩ := hW
  exact hb s.heap [] _ hl ⟨hK, hP, wl_D (fun a ha _ => Or.inl ⟨a, ha, rfl⟩) hD, va_S.rf, hT, hSt⟩
/-- a call of a constructor that makes cells -/
theorem g_cI {X : Ctx} {Y : Lay} {A : Nat → Prop} {Q : State → Prop} {cells slots : Nat} {μ μ1 : Mem} {nL pc pc' : Nat} {lv : List (Nat × Value)} {st rest As : List Value} {cc : ByteArray} {ret : Option FieldType} {own : String} {Rm Rm1 : Room} {idx a n n1 k1 : Nat} {ad : Nat → Nat} {y : MethodName} {bytes : ByteArray} {maxL : Nat} {E : State → Prop} (C : CxG X (yset Y ad n) A cc nL ret own Rm) (hA : ∀ q, (xs X).heap.size ≤ q → A q) (w1 : Cond.methodLink own idx y ∈ TT) (w2 : Cond.instanceMethod y ∈ TT) (w3 : Cond.initialized y.cls ∈ TT) (w4 : Cond.code y bytes maxL none ∈ TT) (hy1 : y.name = "<init>") (hy : y.cls ≠ "java/lang/invoke/MethodHandle" ∧ y.cls ≠ "java/lang/invoke/VarHandle" ∧ (parseMethodDescriptor y.desc).map (fun d => d.parameters.length) = some k1)
    (hM : CtA (xl X) (yset Y ad n) y bytes maxL Rm1 (.ref (ad a) :: As) n1 μ μ1 E) (hAs : As.length = k1) (hE : ∀ U : State, (xs X).vm.Alike U.vm → E U) (hEb : ∀ (U : State) (g : JFrame) (mk : MethodId) (a : Array Value), E U → E (U.calling g mk a)) (hR : Rm1.frames + 1 ≤ Rm.frames ∧ 8 + (maxL + 11) + Rm1.locals ≤ Rm.locals) (hc : cells + Rm1.cells ≤ Rm.cells ∧ slots + Rm1.slots ≤ Rm.slots) (hst : st = As.reverse ++ .ref (ad a) :: rest) (hcat : (rest.map fun v => v.category).sum ≤ 8) (hd : DC cc pc (.invokespecial idx) 3 pc')
    (k : ∀ ad' : Nat → Nat, (∀ a, a < n → ad' a = ad a) → G X (yset Y ad' n1) A Q (cells + Rm1.cells) (slots + Rm1.slots) nL pc' lv rest μ1) : G X (yset Y ad n) A Q cells slots nL pc lv st μ := by
  obtain ⟨hd, rfl⟩ := hd
  subst hst
  intro H locs ls hl hw
  obtain ⟨hK, hP, hD, hS, hT, hSt⟩ := id hw
  have hts := C.1.2.2.2.2
  have hsub : ∀ q, Aof (yset Y ad n) q → A q := by
    rintro q ⟨b, hb, rfl⟩
    exact hD.2 b _ (wl_at hb)
  have hAn : ∀ q, An (yset Y ad n) H.size q → A q := by
    rintro q (h | h)
    · exact hsub q h
    · exact hA q (Nat.le_trans hS.1 h)
  have hrun := va_runI (As := As) (rest := rest) (H := H) (locs := locs) (e := xe X) (below := xb X) (meth := xt X) (cells := cells) (slots := slots) (g := F0 (xm X) pc ls (As.reverse ++ .ref (ad a) :: rest)) C.1 (hM H.size) (R := xR X) ⟨callB_of k1 hts (good_ws w4) rfl rfl rfl (hts _ w3) (hts _ w1) hy (by rw [C.2.2.2.2]; exact hR), hy1, hts _ w2⟩ ⟨fun a U g mk h => ⟨h.1, h.2.1.blind g mk a, h.2.2.1, hEb U g mk a h.2.2.2⟩, fun U hU hW => ⟨rfl, ?_, by rw [hU], hE U hW.alike⟩⟩ rfl hAs hl.1 rfl (lv_room hcat) hd (by rw [C.2.2.2.2]; exact hc)
  · intro T hT0 X0
    obtain ⟨v, st₀, t, T', L, h0, X', hL, e1, e2, ⟨hv, ⟨ad', hag, hin, hB⟩, hz, hk⟩, hst⟩ := hrun T hT0 X0
    cases hv
    rw [h0] at hz hk
    obtain ⟨gK, gP, gD, gT, gSt, gO⟩ := hB
    have hal : (xs X).vm.Alike t.vm := by rw [← e2]; exact X'.warmed.alike
    have hDn : va_D A (wl (yset Y ad' n1) μ1) := by
      refine ⟨gD.1, fun i q hi => ?_⟩
      obtain ⟨h1, h2⟩ := wl_addr hi
      rw [h2]
      exact hAn _ (hin i h1)
    obtain ⟨t2, a1, b1⟩ := k ad' hag t.heap (locs ++ L) ls hl ⟨va_K.moved hal.symm gK, gP, hDn,
      ⟨Nat.le_trans hS.1 hz, fun q h1 h2 => by rw [hk q (Nat.lt_of_lt_of_le h1 hS.1) (fun z => h2 (hAn q z))]; exact hS.2.1 q h1 h2, fun q hq => by
        rcases List.mem_append.mp hq with h | h
        · exact hS.2.2 q h
        · exact hAn _ (hL q h)⟩, gT, gSt⟩ T' e1 X'
    exact ⟨t2, hst t2 a1, b1⟩
  · exact ⟨va_K.moved hW.alike hK, by rw [hU]; exact hP, hD.weaken (fun _ _ _ _ => trivial), hT, hSt, fun i r hr => by
      obtain ⟨h1, h2, h3⟩ := (C.2.2.2.1.moved hS hU hW.alike) i r hr
      exact ⟨h1.narrow hsub, h2.narrow hsub, h3⟩⟩
def IsD (Y : Lay) : Prop := ykd Y = kdX ∧ yln Y = lnX ∧ ymd Y = false
def IsE (Y : Lay) : Prop := ykd Y = kdM ∧ yln Y = lnM ∧ ymd Y = false
theorem kD {Y : Lay} {ad : Nat → Nat} {n a k : Nat} (hY : IsD Y) (h : kdX a = k) : ykd (yset Y ad n) a = k := by show ykd Y a = k; rw [hY.1]; exact h
theorem lD {Y : Lay} {ad : Nat → Nat} {n a k : Nat} (hY : IsD Y) (h : lnX a = k) : yln (yset Y ad n) a = k := by show yln Y a = k; rw [hY.2.1]; exact h
theorem kE {Y : Lay} {ad : Nat → Nat} {n a k : Nat} (hY : IsE Y) (h : kdM a = k) : ykd (yset Y ad n) a = k := by show ykd Y a = k; rw [hY.1]; exact h
theorem lE {Y : Lay} {ad : Nat → Nat} {n a k : Nat} (hY : IsE Y) (h : lnM a = k) : yln (yset Y ad n) a = k := by show yln Y a = k; rw [hY.2.1]; exact h
theorem cx_y {X : Ctx} {Y Y' : Lay} {A : Nat → Prop} {cc : ByteArray} {nL : Nat} {ret : Option FieldType} {own : String} {Rm : Room} {ad ad' : Nat → Nat} {n n' : Nat} (C : CxG X (yset Y ad n) A cc nL ret own Rm) : CxG X (yset Y ad' n') A cc nL ret own Rm := C
theorem cx_0 {X : Ctx} {Y : Lay} {A : Nat → Prop} {cc : ByteArray} {nL : Nat} {ret : Option FieldType} {own : String} {Rm : Room} {ad : Nat → Nat} {n : Nat} (C : CxG X Y A cc nL ret own Rm) : CxG X (yset Y ad n) A cc nL ret own Rm := C
theorem g_icmp_t {X : Ctx} {Y : Lay} {A : Nat → Prop} {Q : State → Prop} {cells slots : Nat} {μ : Mem} {nL pc pc' tgt' : Nat} {lv : List (Nat × Value)} {st : List Value} {cc : ByteArray} {ret : Option FieldType} {own : String} {Rm : Room} {x y : Int32} {off : Int} (C : CxG X Y A cc nL ret own Rm) (hd : DB cc pc (.if_icmp .ge off) off tgt' pc') (h : y ≤ x) (k : G X Y A Q cells slots nL tgt' lv st μ) : G X Y A Q cells slots nL pc lv (.int y :: .int x :: st) μ :=
  j_icmp_ge (r := ()) (t := some ()) (u := none) C hd (by rw [if_pos h]) (fun _ => k) (fun h => by cases h)
theorem g_icmp_f {X : Ctx} {Y : Lay} {A : Nat → Prop} {Q : State → Prop} {cells slots : Nat} {μ : Mem} {nL pc pc' tgt' : Nat} {lv : List (Nat × Value)} {st : List Value} {cc : ByteArray} {ret : Option FieldType} {own : String} {Rm : Room} {x y : Int32} {off : Int} (C : CxG X Y A cc nL ret own Rm) (hd : DB cc pc (.if_icmp .ge off) off tgt' pc') (h : ¬ y ≤ x) (k : G X Y A Q cells slots nL pc' lv st μ) : G X Y A Q cells slots nL pc lv (.int y :: .int x :: st) μ :=
  j_icmp_ge (r := ()) (t := none) (u := some ()) C hd (by rw [if_neg h]) (fun h => by cases h) (fun _ => k)
theorem g_iinc {X : Ctx} {Y : Lay} {A : Nat → Prop} {Q : State → Prop} {cells slots : Nat} {μ : Mem} {nL pc pc' : Nat} {lv lvf : List (Nat × Value)} {st : List Value} {cc : ByteArray} {ret : Option FieldType} {own : String} {Rm : Room} {i : Nat} {n : Int} {x v w : Int32} (C : CxG X Y A cc nL ret own Rm) (hd : DC cc pc (.iinc i n) 3 pc') (q : Nat) (hq : lv[q]? = some (i, .int x)) (hv : Int32.ofInt n = v) (hw : x + v = w) (hn : i < nL) (hlv : lv.filter (fun q => !(q.1 == i) && !(q.1 + 1 == i && q.2.category == 2)) = lvf) (k : G X Y A Q cells slots nL pc' ((i, .int w) :: lvf) st μ) : G X Y A Q cells slots nL pc lv st μ :=
  j_iinc (r := ()) (f := fun z => if z = w then some () else none) C hd q hq hv hn hlv (by unfold nm; rw [hw]; simp) (fun z hz => by
    by_cases e : z = w
    · subst e; exact k
    · simp only [if_neg e] at hz; cases hz)
/-- a call of a method that makes no cell -/
theorem g_cS {X : Ctx} {Y : Lay} {A : Nat → Prop} {Q : State → Prop} {cells slots : Nat} {μ μ1 : Mem} {nL pc pc' : Nat} {lv : List (Nat × Value)} {st rest As : List Value} {cc : ByteArray} {ret ret1 : Option FieldType} {own : String} {Rm : Room} {idx n d1 : Nat} {y : MethodName} {bytes : ByteArray} {maxL : Nat} {rv1 : Option Value} (C : CxG X Y A cc nL ret own Rm) (L : LSt own idx y bytes maxL ret1 n) (hM : Ct (xl X) Y y bytes maxL ret1 d1 As rv1 μ μ1) (hn : As.length = n) (hR : d1 + 1 ≤ Rm.frames ∧ 64 * d1 + 64 ≤ Rm.locals) (hc : cells ≤ Rm.cells ∧ slots ≤ Rm.slots) (hst : st = As.reverse ++ rest) (hcat : (rest.map fun v => v.category).sum ≤ 8) (hd : DC cc pc (.invokestatic idx) 3 pc') (k : G X Y A Q cells slots nL pc' lv (rv1.toList ++ rest) μ1) : G X Y A Q cells slots nL pc lv st μ := by
  obtain ⟨hd, rfl⟩ := hd
  obtain ⟨l1, l2, l4, l5, l6, l7⟩ := L
  subst hst
  intro H locs ls hl hw
  obtain ⟨hK, hP, hD, hS, hT, hSt⟩ := id hw
  have hts := C.1.2.2.2.2
  have hsub : ∀ q, Aof Y q → A q := by
    rintro q ⟨b, hb, rfl⟩
    exact hD.2 b _ (wl_at hb)
  have hrun := va_runS (As := As) (rest := rest) (H := H) (locs := locs) (e := xe X) (below := xb X) (meth := xt X) (cells := cells) (slots := slots) (g := F0 (xm X) pc ls (As.reverse ++ rest)) C.1 hM (R := xR X) ⟨callB_of n hts (good_ws l5) rfl rfl rfl (hts _ l4) (hts _ l1) l6 (by rw [C.2.2.2.2]; unfold rmN; simp only; omega), hts _ l2⟩ ⟨fun a U g mk h => ⟨h.1, h.2.blind g mk a⟩, fun U hU hW => ⟨rfl, ?_⟩⟩ rfl hn hl.1 rfl (lv_room hcat) hd (by rw [C.2.2.2.2]; exact hc)
  · intro T hT0 X0
    obtain ⟨v, st₀, t, T', L, h0, X', hL, e1, e2, ⟨hv, hB, hz, hk⟩, hst⟩ := hrun T hT0 X0
    cases hv
    rw [h0] at hz hk
    obtain ⟨gK, gP, gD, gT, gSt, gO⟩ := hB
    have hal : (xs X).vm.Alike t.vm := by rw [← e2]; exact X'.warmed.alike
    obtain ⟨t2, a1, b1⟩ := k t.heap (locs ++ L) ls hl ⟨va_K.moved hal.symm gK, gP, wl_D (fun _ _ h => h) hD,
      ⟨Nat.le_trans hS.1 hz, fun q h1 h2 => by rw [hk q (Nat.lt_of_lt_of_le h1 hS.1) (fun z => h2 (hsub q z))]; exact hS.2.1 q h1 h2, fun q hq => by
        rcases List.mem_append.mp hq with h | h
        · exact hS.2.2 q h
        · exact hsub _ (hL q h)⟩, gT, gSt⟩ T' e1 X'
    exact ⟨t2, hst t2 a1, b1⟩
  · exact ⟨va_K.moved hW.alike hK, by rw [hU]; exact hP, hD.weaken (fun _ _ _ _ => trivial), hT, hSt, fun i r hr => by
      obtain ⟨h1, h2, h3⟩ := (C.2.2.2.1.moved hS hU hW.alike) i r hr
      exact ⟨h1.narrow hsub, h2.narrow hsub, h3⟩⟩
theorem oi_2 : Cond.instanceMethod objectInit ∈ TT := by decide +kernel
theorem oi_3 : Cond.code objectInit ⟨#[0xb1]⟩ 1 none ∈ TT := by decide +kernel
theorem lF {Y : Lay} {a k : Nat} (hY : yln Y = lnX) (h : lnX a = k) : yln Y a = k := by rw [hY]; exact h
theorem g_gRs {X : Ctx} {Y : Lay} {A : Nat → Prop} {Q : State → Prop} {cells slots : Nat} {μ : Mem} {nL pc pc' : Nat} {lv : List (Nat × Value)} {st : List Value} {cc : ByteArray} {ret : Option FieldType} {own : String} {Rm : Room} {idx ci j a n b : Nat} {ad : Nat → Nat} {ty : FieldType} {fin : Bool} (C : CxG X (yset Y ad n) A cc nL ret own Rm) (F : FL own idx ci j fin ty) (hk : ykd (yset Y ad n) a = ci) (ha : a < n) (h0 : (fks ci).getD j 0 = 2) (h : gR μ a j = some b) (hd : DC cc pc (.getfield idx) 3 pc') (k : G X (yset Y ad n) A Q cells slots nL pc' lv (.ref (ad b) :: st) μ) : G X (yset Y ad n) A Q cells slots nL pc lv (.ref (ad a) :: st) μ := g_gR C F hk ha h0 h hd k

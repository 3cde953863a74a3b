/-! more rows: System.arraycopy; what the methods that answer a reference answer -/
theorem look_dflt {x : Int} (ps : List (Int × Int)) {dflt : Int} (h : ∀ p ∈ ps, ¬ p.1 = x) : Op.lookupswitch.offset ps dflt x = dflt := by
  induction ps with
  | nil => rfl
  | cons p ps ih =>
    obtain ⟨a, o⟩ := p
    show (if a = x then o else Op.lookupswitch.offset ps dflt x) = dflt
    rw [if_neg (h (a, o) List.mem_cons_self)]
    exact ih (fun p hp => h p (List.mem_cons_of_mem _ hp))
section CROWS
variable {X : Ctx} {Y : Lay} {A : Nat → Prop} {Q : State → Prop} {cells slots : Nat} {μ : Mem} {nL pc pc' : Nat} {lv : List (Nat × Value)} {st : List Value} {cc : ByteArray} {ret : Option FieldType} {own : String} {Rm : Room} {idx a b : Nat}
theorem j_copyI {β : Type} {r : β} {f : Mem → Option β} {n0 n1 : Nat} {sp dp n : Int32} {rest : List Value} (C : CxG X Y A cc nL ret own Rm) (w1 : Cond.methodLink own idx arraycopyName ∈ TT) (hnat : Cond.native arraycopyName ∈ TT) (hst : Cond.static arraycopyName ∈ TT) (hin : Cond.initialized "java/lang/System" ∈ TT) (hka : ykd Y a = 11) (haa : a < yn Y) (hla : yln Y a = n0) (hkb : ykd Y b = 11) (hab : b < yn Y) (hlb : yln Y b = n1) (h : ¬ sp < 0 ∧ ¬ dp < 0 ∧ ¬ n < 0 ∧ ix sp + ix n ≤ n0 ∧ ix dp + ix n ≤ n1) (hloc : (rest.map fun v => v.category).sum + (nativeFrameWords "java/lang/System" "arraycopy" 5 + 11) ≤ Rm.locals ∧ 1 ≤ Rm.frames) (hs : st = .int n :: .int dp :: .ref (yad Y b) :: .int sp :: .ref (yad Y a) :: rest) (hd : DC cc pc (.invokestatic idx) 3 pc') (hf : nm (sA μ b (va_cpy (gI μ a) (gI μ b) (ix sp) (ix dp) (ix n))) f = some r) (k : ∀ μ1, f μ1 = some r → G X Y A Q cells slots nL pc' lv rest μ1) : G X Y A Q cells slots nL pc lv st μ := by
  obtain ⟨hd, rfl⟩ := hd
  subst hs
  intro H locs ls hl hw
  obtain ⟨hK, hP, hD, hS, hT, hSt⟩ := id hw
  obtain ⟨h1, h2, h3, h4, h5⟩ := h
  have hts := C.1.2.2.2.2
  have hset : (wl Y μ).set b (yad Y b, .inl (ycy Y 0, n1, .inl (va_cpy (gI μ a) (gI μ b) (ix sp) (ix dp) (ix n)))) = wl Y (sA μ b (va_cpy (gI μ a) (gI μ b) (ix sp) (ix dp) (ix n))) := by
    refine wl_set ?_ (fun q hq => cell_same (fun i => ne_sA hq) (fun _ => rfl) (fun _ => rfl))
    rw [cell_int hkb, hlb]
    have : gI (sA μ b (va_cpy (gI μ a) (gI μ b) (ix sp) (ix dp) (ix n))) b = va_cpy (gI μ a) (gI μ b) (ix sp) (ix dp) (ix n) := funext fun q => by rw [gI_sA, if_pos rfl]
    rw [this]
  refine va_copyi (ty := .int) C.1.1 C.1.2.1 (by rw [C.1.2.2.1, hl.1]) C.1.2.2.2.1 (hts _ w1) (hts _ hnat) (hts _ hst) (hts _ hin) hK hP hD hS a b 0 0 (by rw [wl_at haa, cell_int hka, hla]) (by rw [wl_at hab, cell_int hkb, hlb]) rfl rfl rfl h1 h2 h3 h4 h5 (fun _ _ => rfl) (by rw [C.2.2.2.2]; exact hloc.2) (by rw [C.2.2.2.2]; exact hloc.1) hd (fun H1 locs1 hP1 hD1 hS1 => ?_)
  have hP2 : va_P (yD Y) vwCl (wl Y (sA μ b (va_cpy (gI μ a) (gI μ b) (ix sp) (ix dp) (ix n)))) H1 := by rw [← hset]; exact hP1
  have hD2 : va_D A (wl Y (sA μ b (va_cpy (gI μ a) (gI μ b) (ix sp) (ix dp) (ix n)))) := by rw [← hset]; exact hD1
  exact k _ hf H1 locs1 ls hl ⟨hK, hP2, hD2, hS1, hT, hSt⟩
theorem j_copyS {β : Type} {r : β} {f : Mem → Option β} {t n1 : Nat} {sp dp n : Int32} {rest : List Value} {q : String × String × String × FieldType × List Int32} (C : CxG X Y A cc nL ret own Rm) (hr : sts[t]? = some q) (hty : q.2.2.2.1 = .int) (w1 : Cond.methodLink own idx arraycopyName ∈ TT) (hnat : Cond.native arraycopyName ∈ TT) (hst : Cond.static arraycopyName ∈ TT) (hin : Cond.initialized "java/lang/System" ∈ TT) (hkb : ykd Y b = 11) (hab : b < yn Y) (hlb : yln Y b = n1) (h : ¬ sp < 0 ∧ ¬ dp < 0 ∧ ¬ n < 0 ∧ ix sp + ix n ≤ q.2.2.2.2.length ∧ ix dp + ix n ≤ n1) (hloc : (rest.map fun v => v.category).sum + (nativeFrameWords "java/lang/System" "arraycopy" 5 + 11) ≤ Rm.locals ∧ 1 ≤ Rm.frames) (hs : st = .int n :: .int dp :: .ref (yad Y b) :: .int sp :: .ref (ytS Y t) :: rest) (hd : DC cc pc (.invokestatic idx) 3 pc') (hf : nm (sA μ b (va_cpy (fun i => q.2.2.2.2.getD i 0) (gI μ b) (ix sp) (ix dp) (ix n))) f = some r) (k : ∀ μ1, f μ1 = some r → G X Y A Q cells slots nL pc' lv rest μ1) : G X Y A Q cells slots nL pc lv st μ := by
  obtain ⟨hd, rfl⟩ := hd
  subst hs
  intro H locs ls hl hw
  obtain ⟨hK, hP, hD, hS, hT, hSt⟩ := id hw
  obtain ⟨h1, h2, h3, h4, h5⟩ := h
  have hts := C.1.2.2.2.2
  obtain ⟨-, ⟨cell, c1, c2, c3, c4, c5, c6, c7⟩, cell', c8, c9⟩ := C.2.2.2.1 t q hr
  cases c1.symm.trans c8
  rw [hty] at c2
  have hset : (wl Y μ).set b (yad Y b, .inl (ycy Y 0, n1, .inl (va_cpy (fun i => q.2.2.2.2.getD i 0) (gI μ b) (ix sp) (ix dp) (ix n)))) = wl Y (sA μ b (va_cpy (fun i => q.2.2.2.2.getD i 0) (gI μ b) (ix sp) (ix dp) (ix n))) := by
    refine wl_set ?_ (fun q hq => cell_same (fun i => ne_sA hq) (fun _ => rfl) (fun _ => rfl))
    rw [cell_int hkb, hlb]
    have : gI (sA μ b (va_cpy (fun i => q.2.2.2.2.getD i 0) (gI μ b) (ix sp) (ix dp) (ix n))) b = va_cpy (fun i => q.2.2.2.2.getD i 0) (gI μ b) (ix sp) (ix dp) (ix n) := funext fun q => by rw [gI_sA, if_pos rfl]
    rw [this]
  refine va_copyx C.1.1 C.1.2.1 (by rw [C.1.2.2.1, hl.1]) C.1.2.2.2.1 (hts _ w1) (hts _ hnat) (hts _ hst) (hts _ hin) hK hP hD hS (b0 := ytS Y t) (n0 := q.2.2.2.2.length) (f := fun i => q.2.2.2.2.getD i 0) ⟨cell, c1, c2, c3, c9, c6⟩ (Array.getElem?_eq_some_iff.mp c1).1 c7 b 0 (by rw [wl_at hab, cell_int hkb, hlb]) rfl h1 h2 h3 h4 h5 (by rw [C.2.2.2.2]; exact hloc.2) (by rw [C.2.2.2.2]; exact hloc.1) hd (fun H1 locs1 hP1 hD1 hS1 => ?_)
  have hP2 : va_P (yD Y) vwCl (wl Y (sA μ b (va_cpy (fun i => q.2.2.2.2.getD i 0) (gI μ b) (ix sp) (ix dp) (ix n)))) H1 := by rw [← hset]; exact hP1
  have hD2 : va_D A (wl Y (sA μ b (va_cpy (fun i => q.2.2.2.2.getD i 0) (gI μ b) (ix sp) (ix dp) (ix n)))) := by rw [← hset]; exact hD1
  exact k _ hf H1 locs1 ls hl ⟨hK, hP2, hD2, hS1, hT, hSt⟩
theorem j_alenL {n : Nat} (C : CxG X Y A cc nL ret own Rm) (hk : ykd Y a = 12) (ha : a < yn Y) (hln : yln Y a = n) (hd : DC cc pc .arraylength 1 pc') (k : G X Y A Q cells slots nL pc' lv (.int (Int32.ofNat n) :: st) μ) : G X Y A Q cells slots nL pc lv (.ref (yad Y a) :: st) μ := by
  obtain ⟨hd, rfl⟩ := hd
  intro H locs ls hl hw
  obtain ⟨hK, hP, hD, hS, hT, hSt⟩ := id hw
  exact va_alen C.1.1 C.1.2.1 hK hP a 1 (by rw [wl_at ha, cell_long hk]) rfl (by rw [← hln]) hd (k H locs ls hl hw)
end CROWS
theorem rt_X_topAt {Y : Lay} {μ : Mem} {x : Int32} {o : Option Nat} (hY : IsX Y) (hT : WT Y μ) (h : f_X_topAt μ x = some o) : ∀ b, o = some b → b < yn Y ∧ ykd Y b = 8 := by
  intro b hb
  subst hb
  unfold f_X_topAt nm at h
  repeat' split at h
  all_goals first | cases h | skip
  have h1 := hT 1 (ix x) b (nX hY (by decide)) (Option.some.inj h)
  rw [kX hY (show kdX 1 = 15 from rfl)] at h1
  exact h1
theorem rt_X_sheetAt {Y : Lay} {μ : Mem} {x : Int32} {o : Option Nat} (hY : IsX Y) (hT : WT Y μ) (h : f_X_sheetAt μ x = some o) : ∀ b, o = some b → b < yn Y ∧ ykd Y b = 6 := by
  intro b hb
  subst hb
  unfold f_X_sheetAt at h
  repeat' split at h
  all_goals first | cases h | skip
  have h1 := teX_13 (b := 47) (i := ix x) hY (kX hY rfl) (ibl ‹_›)
  exact ⟨h1.2.1, h1.1⟩
theorem rt_Bt_at {Y : Lay} {μ : Mem} {a : Nat} {x : Int32} {o : Option Nat} (hY : IsX Y) (hT : WT Y μ) (h : f_Bt_at μ a x = some o) (g : ykd Y a = 0 ∧ a < yn Y) : ∀ b, o = some b → b < yn Y ∧ ykd Y b = 7 := by
  intro b hb
  subst hb
  unfold f_Bt_at at h
  repeat' split at h
  all_goals first | cases h | skip
  have h1 := teX_14 (i := ix x) hY (tbX_0_0 hY g.1).1 (ibl ‹_›)
  exact ⟨h1.2.1, h1.1⟩
theorem rt_Bt_addSpinner {Y : Lay} {μ μ1 : Mem} {a t : Nat} {x : Int32} {o : Option Nat} (hY : IsX Y) (hT : WT Y μ) (h : f_Bt_addSpinner μ a t x = some (o, μ1)) (g : ykd Y a = 0 ∧ a < yn Y) (g2 : ykd Y t = 8 ∧ t < yn Y) : ∀ b, o = some b → b < yn Y ∧ ykd Y b = 7 := by
  intro b hb
  subst hb
  unfold f_Bt_addSpinner nm at h
  split at h
  · have h' : Option.bind (f_Bt_at (sI μ a 1 (gI μ a 1 + 1)) a (gI (sI μ a 1 (gI μ a 1 + 1)) a 1 - 1)) (fun u2 => match u2 with | none => some (none, sI μ a 1 (gI μ a 1 + 1)) | some e3 => some (some e3, sI (sR (sI μ a 1 (gI μ a 1 + 1)) e3 0 (some t)) e3 1 x)) = some (some b, μ1) := h
    cases hq : f_Bt_at (sI μ a 1 (gI μ a 1 + 1)) a (gI (sI μ a 1 (gI μ a 1 + 1)) a 1 - 1) with
    | none => rw [hq] at h'; cases h'
    | some o =>
      rw [hq] at h'
      cases o with
      | none => cases h'
      | some e =>
        have h2 : some (some e, sI (sR (sI μ a 1 (gI μ a 1 + 1)) e 0 (some t)) e 1 x) = some (some b, μ1) := h'
        have h3 : some e = some b := congrArg Prod.fst (Option.some.inj h2)
        have hT' : WT Y (sI μ a 1 (gI μ a 1 + 1)) := hT
        exact rt_Bt_at hY hT' hq g b h3
  · cases h
theorem cp_nat : Cond.native arraycopyName ∈ TT := by decide +kernel
theorem cp_st : Cond.static arraycopyName ∈ TT := by decide +kernel
theorem cp_in : Cond.initialized "java/lang/System" ∈ TT := by decide +kernel

/-! One row an instruction, over J. -/
def DC (cc : ByteArray) (pc : Nat) (i : Instr) (len pc' : Nat) : Prop := decode cc pc = .ok (i, len) ∧ pc + len = pc'
def DB (cc : ByteArray) (pc : Nat) (i : Instr) (off : Int) (tgt pc' : Nat) : Prop := decode cc pc = .ok (i, 3) ∧ (pc : Int) + off = (tgt : Int) ∧ pc + 3 = pc'
theorem mt {i : Nat} {w : Cond} (h : tables_1[i]? = some w) (hg : goodWord w = true) : w ∈ TT := by unfold TT lw_tbl; exact List.mem_filter.mpr ⟨List.mem_append_right _ (List.mem_of_getElem? h), hg⟩
theorem ms {i : Nat} {w : Cond} (h : (k2_sels lw_privs)[i]? = some w) (hg : goodWord w = true) : w ∈ TT := by unfold TT lw_tbl; exact List.mem_filter.mpr ⟨List.mem_append_left _ (List.mem_of_getElem? h), hg⟩
theorem mtm {w : Cond} (h : w ∈ tables_1) (hg : goodWord w = true) : w ∈ TT := by unfold TT lw_tbl; exact List.mem_filter.mpr ⟨List.mem_append_right _ h, hg⟩
theorem mt1 {i : Nat} {w : Cond} (h : tables_1_1[i]? = some w) (hg : goodWord w = true) : w ∈ TT := mtm (by unfold tables_1; exact List.mem_append_left _ (List.mem_of_getElem? h)) hg
theorem mt2 {i : Nat} {w : Cond} (h : tables_1_2[i]? = some w) (hg : goodWord w = true) : w ∈ TT := mtm (by unfold tables_1; exact List.mem_append_right _ (List.mem_append_left _ (List.mem_of_getElem? h))) hg
theorem mt3 {i : Nat} {w : Cond} (h : tables_1_3[i]? = some w) (hg : goodWord w = true) : w ∈ TT := mtm (by unfold tables_1; exact List.mem_append_right _ (List.mem_append_right _ (List.mem_append_left _ (List.mem_of_getElem? h)))) hg
theorem mt4 {i : Nat} {w : Cond} (h : tables_1_4[i]? = some w) (hg : goodWord w = true) : w ∈ TT := mtm (by unfold tables_1; exact List.mem_append_right _ (List.mem_append_right _ (List.mem_append_right _ (List.mem_append_left _ (List.mem_of_getElem? h))))) hg
theorem mt5 {i : Nat} {w : Cond} (h : tables_1_5[i]? = some w) (hg : goodWord w = true) : w ∈ TT := mtm (by unfold tables_1; exact List.mem_append_right _ (List.mem_append_right _ (List.mem_append_right _ (List.mem_append_right _ (List.mem_append_left _ (List.mem_of_getElem? h)))))) hg
theorem mt6 {i : Nat} {w : Cond} (h : tables_1_6[i]? = some w) (hg : goodWord w = true) : w ∈ TT := mtm (by unfold tables_1; exact List.mem_append_right _ (List.mem_append_right _ (List.mem_append_right _ (List.mem_append_right _ (List.mem_append_right _ (List.mem_append_left _ (List.mem_of_getElem? h))))))) hg
theorem mt7 {i : Nat} {w : Cond} (h : tables_1_7[i]? = some w) (hg : goodWord w = true) : w ∈ TT := mtm (by unfold tables_1; exact List.mem_append_right _ (List.mem_append_right _ (List.mem_append_right _ (List.mem_append_right _ (List.mem_append_right _ (List.mem_append_right _ (List.mem_of_getElem? h))))))) hg
section ROWS
variable {X : Ctx} {Y : Lay} {A : Nat → Prop} {Q : State → Prop} {cells slots : Nat} {μ : Mem} {nL pc pc' tgt' : Nat} {lv lv' : List (Nat × Value)} {st : List Value} {cc : ByteArray} {ret : Option FieldType} {own : String} {Rm : Room}

theorem j_iconst {n : Int} {v : Int32} (C : CxG X Y A cc nL ret own Rm) (hd : DC cc pc (.iconst n) 1 pc') (hv : Int32.ofInt n = v) (k : G X Y A Q cells slots nL pc' lv (.int v :: st) μ) : G X Y A Q cells slots nL pc lv (st) μ := by
  obtain ⟨hd, rfl⟩ := hd
  intro H locs ls hl hw
  exact lv_iconst C.1.1 C.1.2.1 hd hv (k H locs ls hl hw)
theorem j_bipush {n : Int} {v : Int32} (C : CxG X Y A cc nL ret own Rm) (hd : DC cc pc (.bipush n) 2 pc') (hv : (Int8.ofInt n).toInt32 = v) (k : G X Y A Q cells slots nL pc' lv (.int v :: st) μ) : G X Y A Q cells slots nL pc lv (st) μ := by
  obtain ⟨hd, rfl⟩ := hd
  intro H locs ls hl hw
  exact lv_bipush C.1.1 C.1.2.1 hd hv (k H locs ls hl hw)
theorem j_sipush {n : Int} {v : Int32} (C : CxG X Y A cc nL ret own Rm) (hd : DC cc pc (.sipush n) 3 pc') (hv : (Int16.ofInt n).toInt32 = v) (k : G X Y A Q cells slots nL pc' lv (.int v :: st) μ) : G X Y A Q cells slots nL pc lv (st) μ := by
  obtain ⟨hd, rfl⟩ := hd
  intro H locs ls hl hw
  exact lv_sipush C.1.1 C.1.2.1 hd hv (k H locs ls hl hw)
theorem j_lconst {n : Fin 2} {v : Int64} (C : CxG X Y A cc nL ret own Rm) (hd : DC cc pc (.lconst n) 1 pc') (hv : Int64.ofNat (n : Nat) = v) (k : G X Y A Q cells slots nL pc' lv (.long v :: st) μ) : G X Y A Q cells slots nL pc lv (st) μ := by
  obtain ⟨hd, rfl⟩ := hd
  intro H locs ls hl hw
  exact lv_lconst C.1.1 C.1.2.1 hd hv (k H locs ls hl hw)
theorem j_ldc {n : Nat} {v : Int32} (C : CxG X Y A cc nL ret own Rm) (hd : DC cc pc (.ldc n) 2 pc') (hw : Cond.constant own n v ∈ TT) (k : G X Y A Q cells slots nL pc' lv (.int v :: st) μ) : G X Y A Q cells slots nL pc lv (st) μ := by
  obtain ⟨hd, rfl⟩ := hd
  intro H locs ls hl hw
  exact lv_ldc C.1.1 C.1.2.1 C.1.2.2.2.1 (C.1.2.2.2.2 _ ‹_›) hd (k H locs ls hl hw)
theorem j_ldcw {n : Nat} {v : Int32} (C : CxG X Y A cc nL ret own Rm) (hd : DC cc pc (.ldc_w n) 3 pc') (hw : Cond.constant own n v ∈ TT) (k : G X Y A Q cells slots nL pc' lv (.int v :: st) μ) : G X Y A Q cells slots nL pc lv (st) μ := by
  obtain ⟨hd, rfl⟩ := hd
  intro H locs ls hl hw
  exact lv_ldcw C.1.1 C.1.2.1 C.1.2.2.2.1 (C.1.2.2.2.2 _ ‹_›) hd (k H locs ls hl hw)
theorem j_ldc2 {n : Nat} {v : Int64} (C : CxG X Y A cc nL ret own Rm) (hd : DC cc pc (.ldc2_w n) 3 pc') (hw : Cond.constantLong own n v ∈ TT) (k : G X Y A Q cells slots nL pc' lv (.long v :: st) μ) : G X Y A Q cells slots nL pc lv (st) μ := by
  obtain ⟨hd, rfl⟩ := hd
  intro H locs ls hl hw
  exact lv_ldc2 C.1.1 C.1.2.1 C.1.2.2.2.1 (C.1.2.2.2.2 _ ‹_›) hd (k H locs ls hl hw)
theorem j_null  (C : CxG X Y A cc nL ret own Rm) (hd : DC cc pc (.aconst_null) 1 pc')  (k : G X Y A Q cells slots nL pc' lv (.null :: st) μ) : G X Y A Q cells slots nL pc lv (st) μ := by
  obtain ⟨hd, rfl⟩ := hd
  intro H locs ls hl hw
  exact lv_null C.1.1 C.1.2.1 hd (k H locs ls hl hw)
theorem j_iload_n {i : Fin 4} {x : Int32} (C : CxG X Y A cc nL ret own Rm) (hd : DC cc pc (.iload_n i) 1 pc') (q : Nat) (hq : lv[q]? = some ((i : Nat), .int x)) (k : G X Y A Q cells slots nL pc' lv (.int x :: st) μ) : G X Y A Q cells slots nL pc lv (st) μ := by
  obtain ⟨hd, rfl⟩ := hd
  intro H locs ls hl hw
  exact lv_iload_n C.1.1 C.1.2.1 hd rfl (lv_at hl q hq) (k H locs ls hl hw)
theorem j_iload {i : Nat} {x : Int32} (C : CxG X Y A cc nL ret own Rm) (hd : DC cc pc (.iload i) 2 pc') (q : Nat) (hq : lv[q]? = some (i, .int x)) (k : G X Y A Q cells slots nL pc' lv (.int x :: st) μ) : G X Y A Q cells slots nL pc lv (st) μ := by
  obtain ⟨hd, rfl⟩ := hd
  intro H locs ls hl hw
  exact lv_iload C.1.1 C.1.2.1 hd (lv_at hl q hq) (k H locs ls hl hw)
theorem j_lload_n {i : Fin 4} {x : Int64} (C : CxG X Y A cc nL ret own Rm) (hd : DC cc pc (.lload_n i) 1 pc') (q : Nat) (hq : lv[q]? = some ((i : Nat), .long x)) (k : G X Y A Q cells slots nL pc' lv (.long x :: st) μ) : G X Y A Q cells slots nL pc lv (st) μ := by
  obtain ⟨hd, rfl⟩ := hd
  intro H locs ls hl hw
  exact lv_lload_n C.1.1 C.1.2.1 hd rfl (lv_at hl q hq) (k H locs ls hl hw)
theorem j_lload {i : Nat} {x : Int64} (C : CxG X Y A cc nL ret own Rm) (hd : DC cc pc (.lload i) 2 pc') (q : Nat) (hq : lv[q]? = some (i, .long x)) (k : G X Y A Q cells slots nL pc' lv (.long x :: st) μ) : G X Y A Q cells slots nL pc lv (st) μ := by
  obtain ⟨hd, rfl⟩ := hd
  intro H locs ls hl hw
  exact lv_lload C.1.1 C.1.2.1 hd (lv_at hl q hq) (k H locs ls hl hw)
theorem j_aload_n {i : Fin 4} {x : Nat} (C : CxG X Y A cc nL ret own Rm) (hd : DC cc pc (.aload_n i) 1 pc') (q : Nat) (hq : lv[q]? = some ((i : Nat), .ref x)) (k : G X Y A Q cells slots nL pc' lv (.ref x :: st) μ) : G X Y A Q cells slots nL pc lv (st) μ := by
  obtain ⟨hd, rfl⟩ := hd
  intro H locs ls hl hw
  exact lv_aload_n C.1.1 C.1.2.1 hd rfl (lv_at hl q hq) (k H locs ls hl hw)
theorem j_aload {i : Nat} {x : Nat} (C : CxG X Y A cc nL ret own Rm) (hd : DC cc pc (.aload i) 2 pc') (q : Nat) (hq : lv[q]? = some (i, .ref x)) (k : G X Y A Q cells slots nL pc' lv (.ref x :: st) μ) : G X Y A Q cells slots nL pc lv (st) μ := by
  obtain ⟨hd, rfl⟩ := hd
  intro H locs ls hl hw
  exact lv_aload C.1.1 C.1.2.1 hd (lv_at hl q hq) (k H locs ls hl hw)
theorem j_aloado_n {i : Fin 4} {x : Option Nat} (C : CxG X Y A cc nL ret own Rm) (hd : DC cc pc (.aload_n i) 1 pc') (q : Nat) (hq : lv[q]? = some ((i : Nat), va_rf x)) (k : G X Y A Q cells slots nL pc' lv (va_rf x :: st) μ) : G X Y A Q cells slots nL pc lv st μ := by
  obtain ⟨hd, rfl⟩ := hd
  intro H locs ls hl hw
  cases x with
  | none => exact lv_aload_nN C.1.1 C.1.2.1 hd rfl (lv_at hl q hq) (k H locs ls hl hw)
  | some x => exact lv_aload_n C.1.1 C.1.2.1 hd rfl (lv_at hl q hq) (k H locs ls hl hw)
theorem j_aloado {i : Nat} {x : Option Nat} (C : CxG X Y A cc nL ret own Rm) (hd : DC cc pc (.aload i) 2 pc') (q : Nat) (hq : lv[q]? = some (i, va_rf x)) (k : G X Y A Q cells slots nL pc' lv (va_rf x :: st) μ) : G X Y A Q cells slots nL pc lv st μ := by
  obtain ⟨hd, rfl⟩ := hd
  intro H locs ls hl hw
  cases x with
  | none => exact lv_aloadN C.1.1 C.1.2.1 hd (lv_at hl q hq) (k H locs ls hl hw)
  | some x => exact lv_aload C.1.1 C.1.2.1 hd (lv_at hl q hq) (k H locs ls hl hw)
theorem j_istore_n {i : Fin 4} {x : Int32} {lvf : List (Nat × Value)} (C : CxG X Y A cc nL ret own Rm) (hd : DC cc pc (.istore_n i) 1 pc') (hn : (i : Nat) < nL) (hlv : lv.filter (fun q => !(q.1 == (i : Nat)) && !(q.1 + 1 == (i : Nat) && q.2.category == 2)) = lvf) (k : G X Y A Q cells slots nL pc' (((i : Nat), Value.int x) :: lvf) st μ) : G X Y A Q cells slots nL pc lv (.int x :: st) μ := by
  obtain ⟨hd, rfl⟩ := hd
  intro H locs ls hl hw
  exact lv_istore_n C.1.1 C.1.2.1 hd rfl hl hn (congrArg (List.cons _) hlv) (fun ls' hl' => k H locs ls' hl' hw)
theorem j_istore_nN {β : Type} {r : β} {i : Fin 4} {x : Int32} {f : Int32 → Option β} {lvf : List (Nat × Value)} (C : CxG X Y A cc nL ret own Rm) (hd : DC cc pc (.istore_n i) 1 pc') (hn : (i : Nat) < nL) (hlv : lv.filter (fun q => !(q.1 == (i : Nat)) && !(q.1 + 1 == (i : Nat) && q.2.category == 2)) = lvf) (hf : nm x f = some r) (k : ∀ v, f v = some r → G X Y A Q cells slots nL pc' (((i : Nat), Value.int v) :: lvf) st μ) : G X Y A Q cells slots nL pc lv (.int x :: st) μ := j_istore_n C hd hn hlv (k x hf)
theorem j_istore {i : Nat} {x : Int32} {lvf : List (Nat × Value)} (C : CxG X Y A cc nL ret own Rm) (hd : DC cc pc (.istore i) 2 pc') (hn : i < nL) (hlv : lv.filter (fun q => !(q.1 == i) && !(q.1 + 1 == i && q.2.category == 2)) = lvf) (k : G X Y A Q cells slots nL pc' ((i, Value.int x) :: lvf) st μ) : G X Y A Q cells slots nL pc lv (.int x :: st) μ := by
  obtain ⟨hd, rfl⟩ := hd
  intro H locs ls hl hw
  exact lv_istore C.1.1 C.1.2.1 hd hl hn (congrArg (List.cons _) hlv) (fun ls' hl' => k H locs ls' hl' hw)
theorem j_istoreN {β : Type} {r : β} {i : Nat} {x : Int32} {f : Int32 → Option β} {lvf : List (Nat × Value)} (C : CxG X Y A cc nL ret own Rm) (hd : DC cc pc (.istore i) 2 pc') (hn : i < nL) (hlv : lv.filter (fun q => !(q.1 == i) && !(q.1 + 1 == i && q.2.category == 2)) = lvf) (hf : nm x f = some r) (k : ∀ v, f v = some r → G X Y A Q cells slots nL pc' ((i, Value.int v) :: lvf) st μ) : G X Y A Q cells slots nL pc lv (.int x :: st) μ := j_istore C hd hn hlv (k x hf)
theorem j_lstore_n {i : Fin 4} {x : Int64} {lvf : List (Nat × Value)} (C : CxG X Y A cc nL ret own Rm) (hd : DC cc pc (.lstore_n i) 1 pc') (hn : (i : Nat) + 1 < nL) (hlv : lv.filter (fun q => !(q.1 == (i : Nat)) && (!(q.1 == (i : Nat) + 1) && !(q.1 + 1 == (i : Nat) && q.2.category == 2))) = lvf) (k : G X Y A Q cells slots nL pc' (((i : Nat), Value.long x) :: lvf) st μ) : G X Y A Q cells slots nL pc lv (.long x :: st) μ := by
  obtain ⟨hd, rfl⟩ := hd
  intro H locs ls hl hw
  exact lv_lstore_n C.1.1 C.1.2.1 hd rfl hl hn (congrArg (List.cons _) hlv) (fun ls' hl' => k H locs ls' hl' hw)
theorem j_lstore_nN {β : Type} {r : β} {i : Fin 4} {x : Int64} {f : Int64 → Option β} {lvf : List (Nat × Value)} (C : CxG X Y A cc nL ret own Rm) (hd : DC cc pc (.lstore_n i) 1 pc') (hn : (i : Nat) + 1 < nL) (hlv : lv.filter (fun q => !(q.1 == (i : Nat)) && (!(q.1 == (i : Nat) + 1) && !(q.1 + 1 == (i : Nat) && q.2.category == 2))) = lvf) (hf : nm x f = some r) (k : ∀ v, f v = some r → G X Y A Q cells slots nL pc' (((i : Nat), Value.long v) :: lvf) st μ) : G X Y A Q cells slots nL pc lv (.long x :: st) μ := j_lstore_n C hd hn hlv (k x hf)
theorem j_lstore {i : Nat} {x : Int64} {lvf : List (Nat × Value)} (C : CxG X Y A cc nL ret own Rm) (hd : DC cc pc (.lstore i) 2 pc') (hn : i + 1 < nL) (hlv : lv.filter (fun q => !(q.1 == i) && (!(q.1 == i + 1) && !(q.1 + 1 == i && q.2.category == 2))) = lvf) (k : G X Y A Q cells slots nL pc' ((i, Value.long x) :: lvf) st μ) : G X Y A Q cells slots nL pc lv (.long x :: st) μ := by
  obtain ⟨hd, rfl⟩ := hd
  intro H locs ls hl hw
  exact lv_lstore C.1.1 C.1.2.1 hd hl hn (congrArg (List.cons _) hlv) (fun ls' hl' => k H locs ls' hl' hw)
theorem j_lstoreN {β : Type} {r : β} {i : Nat} {x : Int64} {f : Int64 → Option β} {lvf : List (Nat × Value)} (C : CxG X Y A cc nL ret own Rm) (hd : DC cc pc (.lstore i) 2 pc') (hn : i + 1 < nL) (hlv : lv.filter (fun q => !(q.1 == i) && (!(q.1 == i + 1) && !(q.1 + 1 == i && q.2.category == 2))) = lvf) (hf : nm x f = some r) (k : ∀ v, f v = some r → G X Y A Q cells slots nL pc' ((i, Value.long v) :: lvf) st μ) : G X Y A Q cells slots nL pc lv (.long x :: st) μ := j_lstore C hd hn hlv (k x hf)
theorem j_astore_n {i : Fin 4} {x : Nat} {lvf : List (Nat × Value)} (C : CxG X Y A cc nL ret own Rm) (hd : DC cc pc (.astore_n i) 1 pc') (hn : (i : Nat) < nL) (hlv : lv.filter (fun q => !(q.1 == (i : Nat)) && !(q.1 + 1 == (i : Nat) && q.2.category == 2)) = lvf) (k : G X Y A Q cells slots nL pc' (((i : Nat), Value.ref x) :: lvf) st μ) : G X Y A Q cells slots nL pc lv (.ref x :: st) μ := by
  obtain ⟨hd, rfl⟩ := hd
  intro H locs ls hl hw
  exact lv_astore_n C.1.1 C.1.2.1 hd rfl hl hn (congrArg (List.cons _) hlv) (fun ls' hl' => k H locs ls' hl' hw)
theorem j_astore {i : Nat} {x : Nat} {lvf : List (Nat × Value)} (C : CxG X Y A cc nL ret own Rm) (hd : DC cc pc (.astore i) 2 pc') (hn : i < nL) (hlv : lv.filter (fun q => !(q.1 == i) && !(q.1 + 1 == i && q.2.category == 2)) = lvf) (k : G X Y A Q cells slots nL pc' ((i, Value.ref x) :: lvf) st μ) : G X Y A Q cells slots nL pc lv (.ref x :: st) μ := by
  obtain ⟨hd, rfl⟩ := hd
  intro H locs ls hl hw
  exact lv_astore C.1.1 C.1.2.1 hd hl hn (congrArg (List.cons _) hlv) (fun ls' hl' => k H locs ls' hl' hw)
theorem j_astoreo_n {i : Fin 4} {x : Option Nat} {lvf : List (Nat × Value)} (C : CxG X Y A cc nL ret own Rm) (hd : DC cc pc (.astore_n i) 1 pc') (hn : (i : Nat) < nL) (hlv : lv.filter (fun q => !(q.1 == (i : Nat)) && !(q.1 + 1 == (i : Nat) && q.2.category == 2)) = lvf) (k : G X Y A Q cells slots nL pc' (((i : Nat), va_rf x) :: lvf) st μ) : G X Y A Q cells slots nL pc lv (va_rf x :: st) μ := by
  obtain ⟨hd, rfl⟩ := hd
  intro H locs ls hl hw
  cases x with
  | none => exact lv_astore_nN C.1.1 C.1.2.1 hd rfl hl hn (congrArg (List.cons _) hlv) (fun ls' hl' => k H locs ls' hl' hw)
  | some x => exact lv_astore_n C.1.1 C.1.2.1 hd rfl hl hn (congrArg (List.cons _) hlv) (fun ls' hl' => k H locs ls' hl' hw)
theorem j_astoreo {i : Nat} {x : Option Nat} {lvf : List (Nat × Value)} (C : CxG X Y A cc nL ret own Rm) (hd : DC cc pc (.astore i) 2 pc') (hn : i < nL) (hlv : lv.filter (fun q => !(q.1 == i) && !(q.1 + 1 == i && q.2.category == 2)) = lvf) (k : G X Y A Q cells slots nL pc' ((i, va_rf x) :: lvf) st μ) : G X Y A Q cells slots nL pc lv (va_rf x :: st) μ := by
  obtain ⟨hd, rfl⟩ := hd
  intro H locs ls hl hw
  cases x with
  | none => exact lv_astoreN C.1.1 C.1.2.1 hd hl hn (congrArg (List.cons _) hlv) (fun ls' hl' => k H locs ls' hl' hw)
  | some x => exact lv_astore C.1.1 C.1.2.1 hd hl hn (congrArg (List.cons _) hlv) (fun ls' hl' => k H locs ls' hl' hw)
theorem j_iinc {β : Type} {r : β} {f : Int32 → Option β} {i : Nat} {n : Int} {x v : Int32} {lvf : List (Nat × Value)} (C : CxG X Y A cc nL ret own Rm) (hd : DC cc pc (.iinc i n) 3 pc') (q : Nat) (hq : lv[q]? = some (i, .int x)) (hv : Int32.ofInt n = v) (hn : i < nL) (hlv : lv.filter (fun q => !(q.1 == i) && !(q.1 + 1 == i && q.2.category == 2)) = lvf) (hf : nm (x + v) f = some r) (k : ∀ w, f w = some r → G X Y A Q cells slots nL pc' ((i, .int w) :: lvf) st μ) : G X Y A Q cells slots nL pc lv st μ := by
  obtain ⟨hd, rfl⟩ := hd
  intro H locs ls hl hw
  exact lv_iinc C.1.1 C.1.2.1 hd hl hq (by rw [hv]) hn (congrArg (List.cons _) hlv) (fun ls' hl' => k (x + v) hf H locs ls' hl' hw)
theorem j_sub (ks : List Nat) (h : lv_pick lv ks = lv') (k : G X Y A Q cells slots nL pc lv' st μ) : G X Y A Q cells slots nL pc lv st μ := fun H locs ls hl hw => k H locs ls (lv_sub hl ks h) hw
theorem j_wt (k : WT Y μ → St Y μ → G X Y A Q cells slots nL pc lv st μ) : G X Y A Q cells slots nL pc lv st μ := fun H locs ls hl hw => k hw.2.2.2.2.1 hw.2.2.2.2.2 H locs ls hl hw
theorem j_iadd {x y : Int32} (C : CxG X Y A cc nL ret own Rm) (hd : DC cc pc (.iadd) 1 pc')  (k : G X Y A Q cells slots nL pc' lv (.int (x + y) :: st) μ) : G X Y A Q cells slots nL pc lv (.int y :: .int x :: st) μ := by
  obtain ⟨hd, rfl⟩ := hd
  intro H locs ls hl hw
  exact lv_iadd C.1.1 C.1.2.1 hd (k H locs ls hl hw)
theorem j_ladd {x y : Int64} (C : CxG X Y A cc nL ret own Rm) (hd : DC cc pc (.ladd) 1 pc')  (k : G X Y A Q cells slots nL pc' lv (.long (x + y) :: st) μ) : G X Y A Q cells slots nL pc lv (.long y :: .long x :: st) μ := by
  obtain ⟨hd, rfl⟩ := hd
  intro H locs ls hl hw
  exact lv_ladd C.1.1 C.1.2.1 hd (k H locs ls hl hw)
theorem j_isub {x y : Int32} (C : CxG X Y A cc nL ret own Rm) (hd : DC cc pc (.isub) 1 pc')  (k : G X Y A Q cells slots nL pc' lv (.int (x - y) :: st) μ) : G X Y A Q cells slots nL pc lv (.int y :: .int x :: st) μ := by
  obtain ⟨hd, rfl⟩ := hd
  intro H locs ls hl hw
  exact lv_isub C.1.1 C.1.2.1 hd (k H locs ls hl hw)
theorem j_lsub {x y : Int64} (C : CxG X Y A cc nL ret own Rm) (hd : DC cc pc (.lsub) 1 pc')  (k : G X Y A Q cells slots nL pc' lv (.long (x - y) :: st) μ) : G X Y A Q cells slots nL pc lv (.long y :: .long x :: st) μ := by
  obtain ⟨hd, rfl⟩ := hd
  intro H locs ls hl hw
  exact lv_lsub C.1.1 C.1.2.1 hd (k H locs ls hl hw)
theorem j_imul {x y : Int32} (C : CxG X Y A cc nL ret own Rm) (hd : DC cc pc (.imul) 1 pc')  (k : G X Y A Q cells slots nL pc' lv (.int (x * y) :: st) μ) : G X Y A Q cells slots nL pc lv (.int y :: .int x :: st) μ := by
  obtain ⟨hd, rfl⟩ := hd
  intro H locs ls hl hw
  exact lv_imul C.1.1 C.1.2.1 hd (k H locs ls hl hw)
theorem j_lmul {x y : Int64} (C : CxG X Y A cc nL ret own Rm) (hd : DC cc pc (.lmul) 1 pc')  (k : G X Y A Q cells slots nL pc' lv (.long (x * y) :: st) μ) : G X Y A Q cells slots nL pc lv (.long y :: .long x :: st) μ := by
  obtain ⟨hd, rfl⟩ := hd
  intro H locs ls hl hw
  exact lv_lmul C.1.1 C.1.2.1 hd (k H locs ls hl hw)
theorem j_iand {x y : Int32} (C : CxG X Y A cc nL ret own Rm) (hd : DC cc pc (.iand) 1 pc')  (k : G X Y A Q cells slots nL pc' lv (.int (x &&& y) :: st) μ) : G X Y A Q cells slots nL pc lv (.int y :: .int x :: st) μ := by
  obtain ⟨hd, rfl⟩ := hd
  intro H locs ls hl hw
  exact lv_iand C.1.1 C.1.2.1 hd (k H locs ls hl hw)
theorem j_land {x y : Int64} (C : CxG X Y A cc nL ret own Rm) (hd : DC cc pc (.land) 1 pc')  (k : G X Y A Q cells slots nL pc' lv (.long (x &&& y) :: st) μ) : G X Y A Q cells slots nL pc lv (.long y :: .long x :: st) μ := by
  obtain ⟨hd, rfl⟩ := hd
  intro H locs ls hl hw
  exact lv_land C.1.1 C.1.2.1 hd (k H locs ls hl hw)
theorem j_ior {x y : Int32} (C : CxG X Y A cc nL ret own Rm) (hd : DC cc pc (.ior) 1 pc')  (k : G X Y A Q cells slots nL pc' lv (.int (x ||| y) :: st) μ) : G X Y A Q cells slots nL pc lv (.int y :: .int x :: st) μ := by
  obtain ⟨hd, rfl⟩ := hd
  intro H locs ls hl hw
  exact lv_ior C.1.1 C.1.2.1 hd (k H locs ls hl hw)
theorem j_lor {x y : Int64} (C : CxG X Y A cc nL ret own Rm) (hd : DC cc pc (.lor) 1 pc')  (k : G X Y A Q cells slots nL pc' lv (.long (x ||| y) :: st) μ) : G X Y A Q cells slots nL pc lv (.long y :: .long x :: st) μ := by
  obtain ⟨hd, rfl⟩ := hd
  intro H locs ls hl hw
  exact lv_lor C.1.1 C.1.2.1 hd (k H locs ls hl hw)
theorem j_ixor {x y : Int32} (C : CxG X Y A cc nL ret own Rm) (hd : DC cc pc (.ixor) 1 pc')  (k : G X Y A Q cells slots nL pc' lv (.int (x ^^^ y) :: st) μ) : G X Y A Q cells slots nL pc lv (.int y :: .int x :: st) μ := by
  obtain ⟨hd, rfl⟩ := hd
  intro H locs ls hl hw
  exact lv_ixor C.1.1 C.1.2.1 hd (k H locs ls hl hw)
theorem j_lxor {x y : Int64} (C : CxG X Y A cc nL ret own Rm) (hd : DC cc pc (.lxor) 1 pc')  (k : G X Y A Q cells slots nL pc' lv (.long (x ^^^ y) :: st) μ) : G X Y A Q cells slots nL pc lv (.long y :: .long x :: st) μ := by
  obtain ⟨hd, rfl⟩ := hd
  intro H locs ls hl hw
  exact lv_lxor C.1.1 C.1.2.1 hd (k H locs ls hl hw)
theorem j_ishl {x y : Int32} (C : CxG X Y A cc nL ret own Rm) (hd : DC cc pc (.ishl) 1 pc')  (k : G X Y A Q cells slots nL pc' lv (.int (x <<< (y &&& 31)) :: st) μ) : G X Y A Q cells slots nL pc lv (.int y :: .int x :: st) μ := by
  obtain ⟨hd, rfl⟩ := hd
  intro H locs ls hl hw
  exact lv_ishl C.1.1 C.1.2.1 hd (k H locs ls hl hw)
theorem j_ishr {x y : Int32} (C : CxG X Y A cc nL ret own Rm) (hd : DC cc pc (.ishr) 1 pc')  (k : G X Y A Q cells slots nL pc' lv (.int (x >>> (y &&& 31)) :: st) μ) : G X Y A Q cells slots nL pc lv (.int y :: .int x :: st) μ := by
  obtain ⟨hd, rfl⟩ := hd
  intro H locs ls hl hw
  exact lv_ishr C.1.1 C.1.2.1 hd (k H locs ls hl hw)
theorem j_iushr {x y : Int32} (C : CxG X Y A cc nL ret own Rm) (hd : DC cc pc (.iushr) 1 pc')  (k : G X Y A Q cells slots nL pc' lv (.int (x.toUInt32 >>> (y.toUInt32 &&& Int32.toUInt32 31)).toInt32 :: st) μ) : G X Y A Q cells slots nL pc lv (.int y :: .int x :: st) μ := by
  obtain ⟨hd, rfl⟩ := hd
  intro H locs ls hl hw
  exact lv_iushr C.1.1 C.1.2.1 hd rfl (k H locs ls hl hw)
theorem j_lshl {x : Int64} {y : Int32} (C : CxG X Y A cc nL ret own Rm) (hd : DC cc pc (.lshl) 1 pc')  (k : G X Y A Q cells slots nL pc' lv (.long (x <<< (y.toInt64 &&& 63)) :: st) μ) : G X Y A Q cells slots nL pc lv (.int y :: .long x :: st) μ := by
  obtain ⟨hd, rfl⟩ := hd
  intro H locs ls hl hw
  exact lv_lshl C.1.1 C.1.2.1 hd rfl (k H locs ls hl hw)
theorem j_lshr {x : Int64} {y : Int32} (C : CxG X Y A cc nL ret own Rm) (hd : DC cc pc (.lshr) 1 pc')  (k : G X Y A Q cells slots nL pc' lv (.long (x >>> (y.toInt64 &&& 63)) :: st) μ) : G X Y A Q cells slots nL pc lv (.int y :: .long x :: st) μ := by
  obtain ⟨hd, rfl⟩ := hd
  intro H locs ls hl hw
  exact lv_lshr C.1.1 C.1.2.1 hd rfl (k H locs ls hl hw)
theorem j_idiv {x y : Int32} (C : CxG X Y A cc nL ret own Rm) (hd : DC cc pc (.idiv) 1 pc') (hne : ¬ y = 0) (k : G X Y A Q cells slots nL pc' lv (.int (x / y) :: st) μ) : G X Y A Q cells slots nL pc lv (.int y :: .int x :: st) μ := by
  obtain ⟨hd, rfl⟩ := hd
  intro H locs ls hl hw
  exact lv_idiv C.1.1 C.1.2.1 hd hne (k H locs ls hl hw)
theorem j_irem {x y : Int32} (C : CxG X Y A cc nL ret own Rm) (hd : DC cc pc (.irem) 1 pc') (hne : ¬ y = 0) (k : G X Y A Q cells slots nL pc' lv (.int (x - x / y * y) :: st) μ) : G X Y A Q cells slots nL pc lv (.int y :: .int x :: st) μ := by
  obtain ⟨hd, rfl⟩ := hd
  intro H locs ls hl hw
  exact lv_irem C.1.1 C.1.2.1 hd hne (k H locs ls hl hw)
theorem j_ldiv {x y : Int64} (C : CxG X Y A cc nL ret own Rm) (hd : DC cc pc (.ldiv) 1 pc') (hne : ¬ y = 0) (k : G X Y A Q cells slots nL pc' lv (.long (x / y) :: st) μ) : G X Y A Q cells slots nL pc lv (.long y :: .long x :: st) μ := by
  obtain ⟨hd, rfl⟩ := hd
  intro H locs ls hl hw
  exact lv_ldiv C.1.1 C.1.2.1 hd hne (k H locs ls hl hw)
theorem j_ineg {x : Int32} (C : CxG X Y A cc nL ret own Rm) (hd : DC cc pc (.ineg) 1 pc')  (k : G X Y A Q cells slots nL pc' lv (.int (-x) :: st) μ) : G X Y A Q cells slots nL pc lv (.int x :: st) μ := by
  obtain ⟨hd, rfl⟩ := hd
  intro H locs ls hl hw
  exact lv_ineg C.1.1 C.1.2.1 hd (k H locs ls hl hw)
theorem j_lneg {x : Int64} (C : CxG X Y A cc nL ret own Rm) (hd : DC cc pc (.lneg) 1 pc')  (k : G X Y A Q cells slots nL pc' lv (.long (-x) :: st) μ) : G X Y A Q cells slots nL pc lv (.long x :: st) μ := by
  obtain ⟨hd, rfl⟩ := hd
  intro H locs ls hl hw
  exact lv_lneg C.1.1 C.1.2.1 hd (k H locs ls hl hw)
theorem j_i2l {x : Int32} (C : CxG X Y A cc nL ret own Rm) (hd : DC cc pc (.i2l) 1 pc')  (k : G X Y A Q cells slots nL pc' lv (.long x.toInt64 :: st) μ) : G X Y A Q cells slots nL pc lv (.int x :: st) μ := by
  obtain ⟨hd, rfl⟩ := hd
  intro H locs ls hl hw
  exact lv_i2l C.1.1 C.1.2.1 hd rfl (k H locs ls hl hw)
theorem j_l2i {x : Int64} (C : CxG X Y A cc nL ret own Rm) (hd : DC cc pc (.l2i) 1 pc')  (k : G X Y A Q cells slots nL pc' lv (.int x.toInt32 :: st) μ) : G X Y A Q cells slots nL pc lv (.long x :: st) μ := by
  obtain ⟨hd, rfl⟩ := hd
  intro H locs ls hl hw
  exact lv_l2i C.1.1 C.1.2.1 hd rfl (k H locs ls hl hw)
theorem j_i2b {x : Int32} (C : CxG X Y A cc nL ret own Rm) (hd : DC cc pc (.i2b) 1 pc')  (k : G X Y A Q cells slots nL pc' lv (.int x.toInt8.toInt32 :: st) μ) : G X Y A Q cells slots nL pc lv (.int x :: st) μ := by
  obtain ⟨hd, rfl⟩ := hd
  intro H locs ls hl hw
  exact lv_i2b C.1.1 C.1.2.1 hd rfl (k H locs ls hl hw)
theorem j_i2s {x : Int32} (C : CxG X Y A cc nL ret own Rm) (hd : DC cc pc (.i2s) 1 pc')  (k : G X Y A Q cells slots nL pc' lv (.int x.toInt16.toInt32 :: st) μ) : G X Y A Q cells slots nL pc lv (.int x :: st) μ := by
  obtain ⟨hd, rfl⟩ := hd
  intro H locs ls hl hw
  exact lv_i2s C.1.1 C.1.2.1 hd rfl (k H locs ls hl hw)
theorem j_dup {va : Value} (C : CxG X Y A cc nL ret own Rm) (hd : DC cc pc (.dup) 1 pc') (hva : va.category = 1) (k : G X Y A Q cells slots nL pc' lv (va :: va :: st) μ) : G X Y A Q cells slots nL pc lv (va :: st) μ := by
  obtain ⟨hd, rfl⟩ := hd
  intro H locs ls hl hw
  exact lv_dup C.1.1 C.1.2.1 hd hva (k H locs ls hl hw)
theorem j_pop {va : Value} (C : CxG X Y A cc nL ret own Rm) (hd : DC cc pc (.pop) 1 pc') (hva : va.category = 1) (k : G X Y A Q cells slots nL pc' lv (st) μ) : G X Y A Q cells slots nL pc lv (va :: st) μ := by
  obtain ⟨hd, rfl⟩ := hd
  intro H locs ls hl hw
  exact lv_pop C.1.1 C.1.2.1 hd hva (k H locs ls hl hw)
theorem j_dup2 {va vb : Value} (C : CxG X Y A cc nL ret own Rm) (hd : DC cc pc (.dup2) 1 pc') (hva : va.category = 1) (hvb : vb.category = 1) (k : G X Y A Q cells slots nL pc' lv (va :: vb :: va :: vb :: st) μ) : G X Y A Q cells slots nL pc lv (va :: vb :: st) μ := by
  obtain ⟨hd, rfl⟩ := hd
  intro H locs ls hl hw
  exact lv_dup2_11 C.1.1 C.1.2.1 hd hva hvb (k H locs ls hl hw)
theorem j_if_eq {β : Type} {r : β} {t u : Option β} {x : Int32} {off : Int} (C : CxG X Y A cc nL ret own Rm) (hd : DB cc pc (.ifCond .eq off) off tgt' pc') (hf : (if x = 0 then t else u) = some r) (kt : t = some r → G X Y A Q cells slots nL tgt' lv st μ) (kf : u = some r → G X Y A Q cells slots nL pc' lv st μ) : G X Y A Q cells slots nL pc lv (.int x :: st) μ := by
  obtain ⟨hd, ht, rfl⟩ := hd
  intro H locs ls hl hw
  refine lv_if_eq C.1.1 C.1.2.1 hd ht (fun h => ?_) (fun h => ?_)
  · exact kt (by first | (rw [if_pos h] at hf; exact hf) | (simp only [h, not_true_eq_false, not_false_eq_true, if_true, if_false] at hf; exact hf)) H locs ls hl hw
  · exact kf (by first | (rw [if_neg h] at hf; exact hf) | (simp only [h, not_true_eq_false, not_false_eq_true, if_true, if_false] at hf; exact hf)) H locs ls hl hw
theorem j_icmp_eq {β : Type} {r : β} {t u : Option β} {x y : Int32} {off : Int} (C : CxG X Y A cc nL ret own Rm) (hd : DB cc pc (.if_icmp .eq off) off tgt' pc') (hf : (if x = y then t else u) = some r) (kt : t = some r → G X Y A Q cells slots nL tgt' lv st μ) (kf : u = some r → G X Y A Q cells slots nL pc' lv st μ) : G X Y A Q cells slots nL pc lv (.int y :: .int x :: st) μ := by
  obtain ⟨hd, ht, rfl⟩ := hd
  intro H locs ls hl hw
  refine lv_icmp_eq C.1.1 C.1.2.1 hd ht (fun h => ?_) (fun h => ?_)
  · exact kt (by first | (rw [if_pos h] at hf; exact hf) | (simp only [h, not_true_eq_false, not_false_eq_true, if_true, if_false] at hf; exact hf)) H locs ls hl hw
  · exact kf (by first | (rw [if_neg h] at hf; exact hf) | (simp only [h, not_true_eq_false, not_false_eq_true, if_true, if_false] at hf; exact hf)) H locs ls hl hw
theorem j_if_ne {β : Type} {r : β} {t u : Option β} {x : Int32} {off : Int} (C : CxG X Y A cc nL ret own Rm) (hd : DB cc pc (.ifCond .ne off) off tgt' pc') (hf : (if ¬ x = 0 then t else u) = some r) (kt : t = some r → G X Y A Q cells slots nL tgt' lv st μ) (kf : u = some r → G X Y A Q cells slots nL pc' lv st μ) : G X Y A Q cells slots nL pc lv (.int x :: st) μ := by
  obtain ⟨hd, ht, rfl⟩ := hd
  intro H locs ls hl hw
  refine lv_if_ne C.1.1 C.1.2.1 hd ht (fun h => ?_) (fun h => ?_)
  · exact kt (by first | (rw [if_pos h] at hf; exact hf) | (simp only [h, not_true_eq_false, not_false_eq_true, if_true, if_false] at hf; exact hf)) H locs ls hl hw
  · exact kf (by first | (rw [if_neg h] at hf; exact hf) | (simp only [h, not_true_eq_false, not_false_eq_true, if_true, if_false] at hf; exact hf)) H locs ls hl hw
theorem j_icmp_ne {β : Type} {r : β} {t u : Option β} {x y : Int32} {off : Int} (C : CxG X Y A cc nL ret own Rm) (hd : DB cc pc (.if_icmp .ne off) off tgt' pc') (hf : (if ¬ x = y then t else u) = some r) (kt : t = some r → G X Y A Q cells slots nL tgt' lv st μ) (kf : u = some r → G X Y A Q cells slots nL pc' lv st μ) : G X Y A Q cells slots nL pc lv (.int y :: .int x :: st) μ := by
  obtain ⟨hd, ht, rfl⟩ := hd
  intro H locs ls hl hw
  refine lv_icmp_ne C.1.1 C.1.2.1 hd ht (fun h => ?_) (fun h => ?_)
  · exact kt (by first | (rw [if_pos h] at hf; exact hf) | (simp only [h, not_true_eq_false, not_false_eq_true, if_true, if_false] at hf; exact hf)) H locs ls hl hw
  · exact kf (by first | (rw [if_neg h] at hf; exact hf) | (simp only [h, not_true_eq_false, not_false_eq_true, if_true, if_false] at hf; exact hf)) H locs ls hl hw
theorem j_if_lt {β : Type} {r : β} {t u : Option β} {x : Int32} {off : Int} (C : CxG X Y A cc nL ret own Rm) (hd : DB cc pc (.ifCond .lt off) off tgt' pc') (hf : (if x < 0 then t else u) = some r) (kt : t = some r → G X Y A Q cells slots nL tgt' lv st μ) (kf : u = some r → G X Y A Q cells slots nL pc' lv st μ) : G X Y A Q cells slots nL pc lv (.int x :: st) μ := by
  obtain ⟨hd, ht, rfl⟩ := hd
  intro H locs ls hl hw
  refine lv_if_lt C.1.1 C.1.2.1 hd ht (fun h => ?_) (fun h => ?_)
  · exact kt (by first | (rw [if_pos h] at hf; exact hf) | (simp only [h, not_true_eq_false, not_false_eq_true, if_true, if_false] at hf; exact hf)) H locs ls hl hw
  · exact kf (by first | (rw [if_neg h] at hf; exact hf) | (simp only [h, not_true_eq_false, not_false_eq_true, if_true, if_false] at hf; exact hf)) H locs ls hl hw
theorem j_icmp_lt {β : Type} {r : β} {t u : Option β} {x y : Int32} {off : Int} (C : CxG X Y A cc nL ret own Rm) (hd : DB cc pc (.if_icmp .lt off) off tgt' pc') (hf : (if x < y then t else u) = some r) (kt : t = some r → G X Y A Q cells slots nL tgt' lv st μ) (kf : u = some r → G X Y A Q cells slots nL pc' lv st μ) : G X Y A Q cells slots nL pc lv (.int y :: .int x :: st) μ := by
  obtain ⟨hd, ht, rfl⟩ := hd
  intro H locs ls hl hw
  refine lv_icmp_lt C.1.1 C.1.2.1 hd ht (fun h => ?_) (fun h => ?_)
  · exact kt (by first | (rw [if_pos h] at hf; exact hf) | (simp only [h, not_true_eq_false, not_false_eq_true, if_true, if_false] at hf; exact hf)) H locs ls hl hw
  · exact kf (by first | (rw [if_neg h] at hf; exact hf) | (simp only [h, not_true_eq_false, not_false_eq_true, if_true, if_false] at hf; exact hf)) H locs ls hl hw
theorem j_if_ge {β : Type} {r : β} {t u : Option β} {x : Int32} {off : Int} (C : CxG X Y A cc nL ret own Rm) (hd : DB cc pc (.ifCond .ge off) off tgt' pc') (hf : (if 0 ≤ x then t else u) = some r) (kt : t = some r → G X Y A Q cells slots nL tgt' lv st μ) (kf : u = some r → G X Y A Q cells slots nL pc' lv st μ) : G X Y A Q cells slots nL pc lv (.int x :: st) μ := by
  obtain ⟨hd, ht, rfl⟩ := hd
  intro H locs ls hl hw
  refine lv_if_ge C.1.1 C.1.2.1 hd ht (fun h => ?_) (fun h => ?_)
  · exact kt (by first | (rw [if_pos h] at hf; exact hf) | (simp only [h, not_true_eq_false, not_false_eq_true, if_true, if_false] at hf; exact hf)) H locs ls hl hw
  · exact kf (by first | (rw [if_neg h] at hf; exact hf) | (simp only [h, not_true_eq_false, not_false_eq_true, if_true, if_false] at hf; exact hf)) H locs ls hl hw
theorem j_icmp_ge {β : Type} {r : β} {t u : Option β} {x y : Int32} {off : Int} (C : CxG X Y A cc nL ret own Rm) (hd : DB cc pc (.if_icmp .ge off) off tgt' pc') (hf : (if y ≤ x then t else u) = some r) (kt : t = some r → G X Y A Q cells slots nL tgt' lv st μ) (kf : u = some r → G X Y A Q cells slots nL pc' lv st μ) : G X Y A Q cells slots nL pc lv (.int y :: .int x :: st) μ := by
  obtain ⟨hd, ht, rfl⟩ := hd
  intro H locs ls hl hw
  refine lv_icmp_ge C.1.1 C.1.2.1 hd ht (fun h => ?_) (fun h => ?_)
  · exact kt (by first | (rw [if_pos h] at hf; exact hf) | (simp only [h, not_true_eq_false, not_false_eq_true, if_true, if_false] at hf; exact hf)) H locs ls hl hw
  · exact kf (by first | (rw [if_neg h] at hf; exact hf) | (simp only [h, not_true_eq_false, not_false_eq_true, if_true, if_false] at hf; exact hf)) H locs ls hl hw
theorem j_if_gt {β : Type} {r : β} {t u : Option β} {x : Int32} {off : Int} (C : CxG X Y A cc nL ret own Rm) (hd : DB cc pc (.ifCond .gt off) off tgt' pc') (hf : (if 0 < x then t else u) = some r) (kt : t = some r → G X Y A Q cells slots nL tgt' lv st μ) (kf : u = some r → G X Y A Q cells slots nL pc' lv st μ) : G X Y A Q cells slots nL pc lv (.int x :: st) μ := by
  obtain ⟨hd, ht, rfl⟩ := hd
  intro H locs ls hl hw
  refine lv_if_gt C.1.1 C.1.2.1 hd ht (fun h => ?_) (fun h => ?_)
  · exact kt (by first | (rw [if_pos h] at hf; exact hf) | (simp only [h, not_true_eq_false, not_false_eq_true, if_true, if_false] at hf; exact hf)) H locs ls hl hw
  · exact kf (by first | (rw [if_neg h] at hf; exact hf) | (simp only [h, not_true_eq_false, not_false_eq_true, if_true, if_false] at hf; exact hf)) H locs ls hl hw
theorem j_icmp_gt {β : Type} {r : β} {t u : Option β} {x y : Int32} {off : Int} (C : CxG X Y A cc nL ret own Rm) (hd : DB cc pc (.if_icmp .gt off) off tgt' pc') (hf : (if y < x then t else u) = some r) (kt : t = some r → G X Y A Q cells slots nL tgt' lv st μ) (kf : u = some r → G X Y A Q cells slots nL pc' lv st μ) : G X Y A Q cells slots nL pc lv (.int y :: .int x :: st) μ := by
  obtain ⟨hd, ht, rfl⟩ := hd
  intro H locs ls hl hw
  refine lv_icmp_gt C.1.1 C.1.2.1 hd ht (fun h => ?_) (fun h => ?_)
  · exact kt (by first | (rw [if_pos h] at hf; exact hf) | (simp only [h, not_true_eq_false, not_false_eq_true, if_true, if_false] at hf; exact hf)) H locs ls hl hw
  · exact kf (by first | (rw [if_neg h] at hf; exact hf) | (simp only [h, not_true_eq_false, not_false_eq_true, if_true, if_false] at hf; exact hf)) H locs ls hl hw
theorem j_if_le {β : Type} {r : β} {t u : Option β} {x : Int32} {off : Int} (C : CxG X Y A cc nL ret own Rm) (hd : DB cc pc (.ifCond .le off) off tgt' pc') (hf : (if x ≤ 0 then t else u) = some r) (kt : t = some r → G X Y A Q cells slots nL tgt' lv st μ) (kf : u = some r → G X Y A Q cells slots nL pc' lv st μ) : G X Y A Q cells slots nL pc lv (.int x :: st) μ := by
  obtain ⟨hd, ht, rfl⟩ := hd
  intro H locs ls hl hw
  refine lv_if_le C.1.1 C.1.2.1 hd ht (fun h => ?_) (fun h => ?_)
  · exact kt (by first | (rw [if_pos h] at hf; exact hf) | (simp only [h, not_true_eq_false, not_false_eq_true, if_true, if_false] at hf; exact hf)) H locs ls hl hw
  · exact kf (by first | (rw [if_neg h] at hf; exact hf) | (simp only [h, not_true_eq_false, not_false_eq_true, if_true, if_false] at hf; exact hf)) H locs ls hl hw
theorem j_icmp_le {β : Type} {r : β} {t u : Option β} {x y : Int32} {off : Int} (C : CxG X Y A cc nL ret own Rm) (hd : DB cc pc (.if_icmp .le off) off tgt' pc') (hf : (if x ≤ y then t else u) = some r) (kt : t = some r → G X Y A Q cells slots nL tgt' lv st μ) (kf : u = some r → G X Y A Q cells slots nL pc' lv st μ) : G X Y A Q cells slots nL pc lv (.int y :: .int x :: st) μ := by
  obtain ⟨hd, ht, rfl⟩ := hd
  intro H locs ls hl hw
  refine lv_icmp_le C.1.1 C.1.2.1 hd ht (fun h => ?_) (fun h => ?_)
  · exact kt (by first | (rw [if_pos h] at hf; exact hf) | (simp only [h, not_true_eq_false, not_false_eq_true, if_true, if_false] at hf; exact hf)) H locs ls hl hw
  · exact kf (by first | (rw [if_neg h] at hf; exact hf) | (simp only [h, not_true_eq_false, not_false_eq_true, if_true, if_false] at hf; exact hf)) H locs ls hl hw
theorem j_goto {off : Int} (C : CxG X Y A cc nL ret own Rm) (hd : DB cc pc (.goto off) off tgt' pc') (k : G X Y A Q cells slots nL tgt' lv st μ) : G X Y A Q cells slots nL pc lv st μ := by
  obtain ⟨hd, ht, rfl⟩ := hd
  intro H locs ls hl hw
  exact lv_goto C.1.1 C.1.2.1 hd ht (k H locs ls hl hw)
theorem j_nul_t {off : Int} (C : CxG X Y A cc nL ret own Rm) (hd : DB cc pc (.ifnull off) off tgt' pc') (k : G X Y A Q cells slots nL tgt' lv st μ) : G X Y A Q cells slots nL pc lv (.null :: st) μ := by
  obtain ⟨hd, ht, rfl⟩ := hd
  intro H locs ls hl hw
  exact lv_ifnullN C.1.1 C.1.2.1 hd ht (k H locs ls hl hw)
theorem j_nul_f {off : Int} {x : Nat} (C : CxG X Y A cc nL ret own Rm) (hd : DB cc pc (.ifnull off) off tgt' pc') (k : G X Y A Q cells slots nL pc' lv st μ) : G X Y A Q cells slots nL pc lv (.ref x :: st) μ := by
  obtain ⟨hd, ht, rfl⟩ := hd
  intro H locs ls hl hw
  exact lv_ifnull C.1.1 C.1.2.1 hd (k H locs ls hl hw)
theorem j_nnul_t {off : Int} {x : Nat} (C : CxG X Y A cc nL ret own Rm) (hd : DB cc pc (.ifnonnull off) off tgt' pc') (k : G X Y A Q cells slots nL tgt' lv st μ) : G X Y A Q cells slots nL pc lv (.ref x :: st) μ := by
  obtain ⟨hd, ht, rfl⟩ := hd
  intro H locs ls hl hw
  exact lv_ifnonnull C.1.1 C.1.2.1 hd ht (k H locs ls hl hw)
theorem j_nnul_f {off : Int} (C : CxG X Y A cc nL ret own Rm) (hd : DB cc pc (.ifnonnull off) off tgt' pc') (k : G X Y A Q cells slots nL pc' lv st μ) : G X Y A Q cells slots nL pc lv (.null :: st) μ := by
  obtain ⟨hd, ht, rfl⟩ := hd
  intro H locs ls hl hw
  exact lv_ifnonnullN C.1.1 C.1.2.1 hd (k H locs ls hl hw)
theorem lc_eq (x y : Int64) : (lg_cmp x y = 0) ↔ (x = y) := lg_cmp_eq x y
theorem j_lcmp_eq {β : Type} {r : β} {t u : Option β} {x y : Int64} {off : Int} {pc1 : Nat} (C : CxG X Y A cc nL ret own Rm) (hd1 : DC cc pc .lcmp 1 pc1) (hd : DB cc pc1 (.ifCond .eq off) off tgt' pc') (hf : (if x = y then t else u) = some r) (kt : t = some r → G X Y A Q cells slots nL tgt' lv st μ) (kf : u = some r → G X Y A Q cells slots nL pc' lv st μ) : G X Y A Q cells slots nL pc lv (.long y :: .long x :: st) μ := by
  obtain ⟨hd1, rfl⟩ := hd1
  intro H locs ls hl hw
  refine W.lcmp C.1.1 C.1.2.1 hd1 ?_
  refine j_if_eq (r := r) (t := t) (u := u) C hd ?_ kt kf H locs ls hl hw
  rw [← hf]
  by_cases h : x = y
  · rw [if_pos h, if_pos ((lc_eq x y).mpr h)]
  · rw [if_neg h, if_neg (fun q => h ((lc_eq x y).mp q))]
theorem lc_ne (x y : Int64) : (¬ lg_cmp x y = 0) ↔ (¬ x = y) := not_congr (lg_cmp_eq x y)
theorem j_lcmp_ne {β : Type} {r : β} {t u : Option β} {x y : Int64} {off : Int} {pc1 : Nat} (C : CxG X Y A cc nL ret own Rm) (hd1 : DC cc pc .lcmp 1 pc1) (hd : DB cc pc1 (.ifCond .ne off) off tgt' pc') (hf : (if ¬ x = y then t else u) = some r) (kt : t = some r → G X Y A Q cells slots nL tgt' lv st μ) (kf : u = some r → G X Y A Q cells slots nL pc' lv st μ) : G X Y A Q cells slots nL pc lv (.long y :: .long x :: st) μ := by
  obtain ⟨hd1, rfl⟩ := hd1
  intro H locs ls hl hw
  refine W.lcmp C.1.1 C.1.2.1 hd1 ?_
  refine j_if_ne (r := r) (t := t) (u := u) C hd ?_ kt kf H locs ls hl hw
  rw [← hf]
  by_cases h : ¬ x = y
  · rw [if_pos h, if_pos ((lc_ne x y).mpr h)]
  · rw [if_neg h, if_neg (fun q => h ((lc_ne x y).mp q))]
theorem lc_lt (x y : Int64) : (lg_cmp x y < 0) ↔ (x < y) := lg_cmp_lt x y
theorem j_lcmp_lt {β : Type} {r : β} {t u : Option β} {x y : Int64} {off : Int} {pc1 : Nat} (C : CxG X Y A cc nL ret own Rm) (hd1 : DC cc pc .lcmp 1 pc1) (hd : DB cc pc1 (.ifCond .lt off) off tgt' pc') (hf : (if x < y then t else u) = some r) (kt : t = some r → G X Y A Q cells slots nL tgt' lv st μ) (kf : u = some r → G X Y A Q cells slots nL pc' lv st μ) : G X Y A Q cells slots nL pc lv (.long y :: .long x :: st) μ := by
  obtain ⟨hd1, rfl⟩ := hd1
  intro H locs ls hl hw
  refine W.lcmp C.1.1 C.1.2.1 hd1 ?_
  refine j_if_lt (r := r) (t := t) (u := u) C hd ?_ kt kf H locs ls hl hw
  rw [← hf]
  by_cases h : x < y
  · rw [if_pos h, if_pos ((lc_lt x y).mpr h)]
  · rw [if_neg h, if_neg (fun q => h ((lc_lt x y).mp q))]
theorem lc_ge (x y : Int64) : (0 ≤ lg_cmp x y) ↔ (y ≤ x) := lg_cmp_ge x y
theorem j_lcmp_ge {β : Type} {r : β} {t u : Option β} {x y : Int64} {off : Int} {pc1 : Nat} (C : CxG X Y A cc nL ret own Rm) (hd1 : DC cc pc .lcmp 1 pc1) (hd : DB cc pc1 (.ifCond .ge off) off tgt' pc') (hf : (if y ≤ x then t else u) = some r) (kt : t = some r → G X Y A Q cells slots nL tgt' lv st μ) (kf : u = some r → G X Y A Q cells slots nL pc' lv st μ) : G X Y A Q cells slots nL pc lv (.long y :: .long x :: st) μ := by
  obtain ⟨hd1, rfl⟩ := hd1
  intro H locs ls hl hw
  refine W.lcmp C.1.1 C.1.2.1 hd1 ?_
  refine j_if_ge (r := r) (t := t) (u := u) C hd ?_ kt kf H locs ls hl hw
  rw [← hf]
  by_cases h : y ≤ x
  · rw [if_pos h, if_pos ((lc_ge x y).mpr h)]
  · rw [if_neg h, if_neg (fun q => h ((lc_ge x y).mp q))]
theorem lc_gt (x y : Int64) : (0 < lg_cmp x y) ↔ (y < x) := lg_cmp_gt x y
theorem j_lcmp_gt {β : Type} {r : β} {t u : Option β} {x y : Int64} {off : Int} {pc1 : Nat} (C : CxG X Y A cc nL ret own Rm) (hd1 : DC cc pc .lcmp 1 pc1) (hd : DB cc pc1 (.ifCond .gt off) off tgt' pc') (hf : (if y < x then t else u) = some r) (kt : t = some r → G X Y A Q cells slots nL tgt' lv st μ) (kf : u = some r → G X Y A Q cells slots nL pc' lv st μ) : G X Y A Q cells slots nL pc lv (.long y :: .long x :: st) μ := by
  obtain ⟨hd1, rfl⟩ := hd1
  intro H locs ls hl hw
  refine W.lcmp C.1.1 C.1.2.1 hd1 ?_
  refine j_if_gt (r := r) (t := t) (u := u) C hd ?_ kt kf H locs ls hl hw
  rw [← hf]
  by_cases h : y < x
  · rw [if_pos h, if_pos ((lc_gt x y).mpr h)]
  · rw [if_neg h, if_neg (fun q => h ((lc_gt x y).mp q))]
theorem lc_le (x y : Int64) : (lg_cmp x y ≤ 0) ↔ (x ≤ y) := lg_cmp_le x y
theorem j_lcmp_le {β : Type} {r : β} {t u : Option β} {x y : Int64} {off : Int} {pc1 : Nat} (C : CxG X Y A cc nL ret own Rm) (hd1 : DC cc pc .lcmp 1 pc1) (hd : DB cc pc1 (.ifCond .le off) off tgt' pc') (hf : (if x ≤ y then t else u) = some r) (kt : t = some r → G X Y A Q cells slots nL tgt' lv st μ) (kf : u = some r → G X Y A Q cells slots nL pc' lv st μ) : G X Y A Q cells slots nL pc lv (.long y :: .long x :: st) μ := by
  obtain ⟨hd1, rfl⟩ := hd1
  intro H locs ls hl hw
  refine W.lcmp C.1.1 C.1.2.1 hd1 ?_
  refine j_if_le (r := r) (t := t) (u := u) C hd ?_ kt kf H locs ls hl hw
  rw [← hf]
  by_cases h : x ≤ y
  · rw [if_pos h, if_pos ((lc_le x y).mpr h)]
  · rw [if_neg h, if_neg (fun q => h ((lc_le x y).mp q))]
/-- a switch's step: one key -/
theorem j_key {β : Type} {r : β} {t u : Option β} {x v : Int32} (hf : (if x = v then t else u) = some r) (kt : x = v → t = some r → G X Y A Q cells slots nL pc lv st μ) (kf : ¬ x = v → u = some r → G X Y A Q cells slots nL pc lv st μ) : G X Y A Q cells slots nL pc lv st μ := by
  by_cases h : x = v
  · rw [if_pos h] at hf; exact kt h hf
  · rw [if_neg h] at hf; exact kf h hf
theorem sw_ne {x v : Int32} {z : Int} (h : ¬ x = v) (hv : v.toInt = z) : ¬ x.toInt = z := fun e => h (Int32.toInt_inj.mp (e.trans hv.symm))
theorem j_tin {dflt lo hi : Int} {offs : Array Int} {len : Nat} {x v : Int32} {off : Int} (C : CxG X Y A cc nL ret own Rm) (hd : decode cc pc = .ok (.tableswitch dflt lo hi offs, len)) (hx : x = v) (h1 : ¬ v.toInt < lo) (h2 : ¬ hi < v.toInt) (ho : offs[(v.toInt - lo).toNat]? = some off) (ht : (pc : Int) + off = (tgt' : Int)) (k : G X Y A Q cells slots nL tgt' lv st μ) : G X Y A Q cells slots nL pc lv (.int x :: st) μ := by
  subst hx
  intro H locs ls hl hw
  exact lv_tableIn C.1.1 C.1.2.1 hd h1 h2 ho ht (k H locs ls hl hw)
theorem j_tout {dflt lo hi : Int} {offs : Array Int} {len : Nat} {x : Int32} (C : CxG X Y A cc nL ret own Rm) (hd : decode cc pc = .ok (.tableswitch dflt lo hi offs, len)) (h : x.toInt < lo ∨ hi < x.toInt) (ht : (pc : Int) + dflt = (tgt' : Int)) (k : G X Y A Q cells slots nL tgt' lv st μ) : G X Y A Q cells slots nL pc lv (.int x :: st) μ := by
  intro H locs ls hl hw
  exact lv_tableOut C.1.1 C.1.2.1 hd h ht (k H locs ls hl hw)
theorem j_look {dflt : Int} {ps : Array (Int × Int)} {len : Nat} {x : Int32} {off : Int} (C : CxG X Y A cc nL ret own Rm) (hd : decode cc pc = .ok (.lookupswitch dflt ps, len)) (hp : (ps.toList.zip (ps.toList.drop 1)).all (fun (a, next) => a.1 < next.1) = true) (ho : Op.lookupswitch.offset ps.toList dflt x.toInt = off) (ht : (pc : Int) + off = (tgt' : Int)) (k : G X Y A Q cells slots nL tgt' lv st μ) : G X Y A Q cells slots nL pc lv (.int x :: st) μ := by
  intro H locs ls hl hw
  exact lv_lookup C.1.1 C.1.2.1 hd hp ho ht (k H locs ls hl hw)
theorem ck {β : Type} {r : β} {c : Prop} [Decidable c] {t : Option β} {P : Prop} (hf : (if c then t else none) = some r) (k : c → t = some r → P) : P := by
  by_cases h : c
  · rw [if_pos h] at hf; exact k h hf
  · rw [if_neg h] at hf; cases hf
theorem ckn {β : Type} {r : β} {c : Prop} [Decidable c] {t : Option β} {P : Prop} (hf : (if c then none else t) = some r) (k : ¬ c → t = some r → P) : P := by
  by_cases h : c
  · rw [if_pos h] at hf; cases hf
  · rw [if_neg h] at hf; exact k h hf
theorem nmi {α β : Type} {r : β} {e : α} {f : α → Option β} {P : α → Prop} (hf : nm e f = some r) (k : ∀ v, f v = some r → P v) : P e := k e hf
theorem bd {α β : Type} {r : β} {o : Option α} {k : α → Option β} {P : Prop} (hf : o.bind k = some r) (h : ∀ v, o = some v → k v = some r → P) : P := by
  cases o with
  | none => cases hf
  | some v => exact h v rfl hf
theorem bd2 {α β : Type} {r : β} {o : Option (α × Mem)} {k : α → Mem → Option β} {P : Prop} (hf : bM2 o k = some r) (h : ∀ v μ1, o = some (v, μ1) → k v μ1 = some r → P) : P := by
  cases o with
  | none => cases hf
  | some v => exact h v.1 v.2 rfl hf
end ROWS

/-! new int[4][4], from the machine's own steps: one outer row, four inner ones, each written into the outer as it comes -/
def muO (c : ClassId) : Cell := { cls := c, slots := Array.replicate 4 .null, vm := .none }
def muI (c : ClassId) : Cell := { cls := c, slots := Array.replicate 4 (.int 0), vm := .none }
def muC (c : ClassId) (h : Nat) : Nat → Cell
  | 0 => muO c
  | i + 1 => (muC c h i).setSlot i (.ref (h + 1 + i))
def muS (s : State) (c ci : ClassId) : Nat → State
  | 0 => s.pushCell (muO c)
  | i + 1 => ((muS s c ci i).pushCell (muI ci)).setCell s.heap.size (muC c s.heap.size (i + 1))
theorem muC_f (c : ClassId) (h : Nat) : ∀ i, (muC c h i).slots.size = 4 ∧ (muC c h i).cls = c ∧ (muC c h i).vm = .none
  | 0 => ⟨rfl, rfl, rfl⟩
  | i + 1 => by
    obtain ⟨h1, h2, h3⟩ := muC_f c h i
    refine ⟨?_, h2, h3⟩
    show ((muC c h i).slots.setIfInBounds i _).size = 4
    rw [Array.size_setIfInBounds]
    exact h1
theorem muS_f (s : State) (c ci : ClassId) : ∀ i, (muS s c ci i).heap.size = s.heap.size + 1 + i ∧ (muS s c ci i).slotsUsed = s.slotsUsed + 4 + 4 * i ∧ (muS s c ci i).vm = s.vm ∧ (muS s c ci i).heap[s.heap.size]? = some (muC c s.heap.size i) ∧ (∀ x : Nat, x < s.heap.size → (muS s c ci i).heap[x]? = s.heap[x]?) ∧ (∀ j : Nat, j < i → (muS s c ci i).heap[s.heap.size + 1 + j]? = some (muI ci))
  | 0 => ⟨Array.size_push _, rfl, rfl, State.heap_pushCell_size _ _, fun x hx => State.heap_pushCell_of_lt _ _ hx, fun j hj => absurd hj (Nat.not_lt_zero _)⟩
  | i + 1 => by
    obtain ⟨h1, h2, h3, h4, h5, h6⟩ := muS_f s c ci i
    have e : (muS s c ci (i + 1)).heap = ((muS s c ci i).heap.push (muI ci)).setIfInBounds s.heap.size (muC c s.heap.size (i + 1)) := rfl
    refine ⟨?_, ?_, h3, ?_, fun x hx => ?_, fun j hj => ?_⟩
    · rw [e, Array.size_setIfInBounds, Array.size_push, h1]; omega
    · show (muS s c ci i).slotsUsed + 4 = _
      rw [h2]; omega
    · rw [e, Array.getElem?_setIfInBounds, if_pos rfl, if_pos (by rw [Array.size_push]; omega)]
    · rw [e, Array.getElem?_setIfInBounds, if_neg (by omega), Array.getElem?_push, if_neg (by omega)]
      exact h5 x hx
    · rw [e, Array.getElem?_setIfInBounds, if_neg (by omega), Array.getElem?_push]
      by_cases q : j = i
      · subst q
        rw [if_pos (by omega)]
      · rw [if_neg (by omega)]
        exact h6 j (by omega)
theorem muS_top (s : State) (f : JFrame) (c ci : ClassId) : ∀ i, muS (s.setTop f) c ci i = (muS s c ci i).setTop f
  | 0 => rfl
  | i + 1 => by
    unfold muS
    rw [muS_top s f c ci i]
    rfl
theorem muS_tj (s : State) (c ci : ClassId) : ∀ i, (muS s c ci i).topJava? = s.topJava?
  | 0 => rfl
  | i + 1 => muS_tj s c ci i
theorem mu4 : (4 : Int32).toNatClampNeg = 4 := by decide
section MU
variable {E : CtlPost} {e : Env} {d : Bool} {acts : List Action} {s : State} {ci ti cA : ClassId} {kA kI : Class}
theorem mu_in {Q : Addr → Pre} (hk : s.vm.classes[ci]? = some kI) (hkind : kI.kind = .array ti .int) (hlim : 4 ≤ e.platform.arrayLengthLimit) (hhp : 16 ≤ e.platform.maxHeapBytes) (hc : s.heap.size + 1 ≤ e.platform.maxCells) (hsl : s.slotsUsed + 4 ≤ e.platform.maxSlots) (hq : ∀ acts', Q s.heap.size d acts' (s.pushCell (muI ci))) : wp (Jvm.Op.multianewarray.make ci [4]) Q E e d acts s := by
  rw [Jvm.Op.multianewarray.make]
  simp only [wp_bind', W.ite, show ¬ ((4 : Int32) < 0) by decide, if_false, wp_pure', W.theClass, hk, Option.some.injEq, exists_eq_left', hkind, mu4]
  exact W.newArray_of hk hkind (by omega) (by show ¬ 4 * 4 > _; omega) (by omega) hsl rfl hq
theorem mu_loop {Q : PUnit → Pre} {f : Nat → PUnit → Sem (ForInStep PUnit)} (hf : ∀ i u, f i u = (do let a ← Jvm.Op.multianewarray.make ci [4]; Jvm.writeLoc s.heap.size i (.ref a); Pure.pure (ForInStep.yield PUnit.unit))) (hkA : s.vm.classes[cA]? = some kA) (hkindA : kA.kind = .array ci (.array .int)) (hk : s.vm.classes[ci]? = some kI) (hkind : kI.kind = .array ti .int) (hlim : 4 ≤ e.platform.arrayLengthLimit) (hhp : 16 ≤ e.platform.maxHeapBytes) (hc : s.heap.size + 5 ≤ e.platform.maxCells) (hsl : s.slotsUsed + 20 ≤ e.platform.maxSlots) (hq : ∀ d' acts', Q ⟨⟩ d' acts' (muS s cA ci 4)) : ∀ n i d acts, i + n = 4 → wp (forIn (List.range' i n) PUnit.unit f) Q E e d acts (muS s cA ci i) := by
  intro n
  induction n with
  | zero =>
    intro i d acts h
    have hi : i = 4 := by omega
    subst hi
    exact hq _ _
  | succ n ih =>
    intro i d acts h
    obtain ⟨h1, h2, h3, h4, h5, h6⟩ := muS_f s cA ci i
    obtain ⟨g1, g2, g3⟩ := muC_f cA s.heap.size i
    rw [List.range'_succ, List.forIn_cons, hf]
    simp only [wp_bind', wp_pure']
    refine mu_in (by rw [h3]; exact hk) hkind hlim hhp (by omega) (by omega) (fun acts' => ?_)
    rw [wp_bind', W.writeLoc]
    refine ⟨muC cA s.heap.size i, ?_, ?_, ?_, ?_, ?_⟩
    · rw [State.heap_pushCell_of_lt (muS s cA ci i) (muI ci) (show s.heap.size < (muS s cA ci i).heap.size by omega)]; exact h4
    · rw [g3]; intro q; cases q
    · rw [g1]; omega
    · rw [State.fitsSlot_pushCell, g2, g3]
      simp [State.fitsSlot, State.slotType?, h3, hkA, hkindA]
      rfl
    · have e9 : ((muS s cA ci i).pushCell (muI ci)).setCell s.heap.size ((muC cA s.heap.size i).setSlot i (.ref (muS s cA ci i).heap.size)) = muS s cA ci (i + 1) := by rw [h1]; rfl
      rw [e9]
      exact ih (i + 1) _ _ (by omega)
theorem mu_out {Q : Addr → Pre} (hkA : s.vm.classes[cA]? = some kA) (hkindA : kA.kind = .array ci (.array .int)) (hk : s.vm.classes[ci]? = some kI) (hkind : kI.kind = .array ti .int) (hlim : 4 ≤ e.platform.arrayLengthLimit) (hhp : 16 ≤ e.platform.maxHeapBytes) (hc : s.heap.size + 5 ≤ e.platform.maxCells) (hsl : s.slotsUsed + 20 ≤ e.platform.maxSlots) (hq : ∀ d' acts', Q s.heap.size d' acts' (muS s cA ci 4)) : wp (Jvm.Op.multianewarray.make cA [4, 4]) Q E e d acts s := by
  rw [Jvm.Op.multianewarray.make]
  simp only [wp_bind', W.ite, show ¬ ((4 : Int32) < 0) by decide, if_false, wp_pure', W.theClass, hkA, Option.some.injEq, exists_eq_left', hkindA, mu4]
  refine W.newArray_of hkA hkindA (by omega) (by show ¬ 4 * 4 > _; omega) (by omega) (by omega) rfl (fun acts1 => ?_)
  simp only [show ((4 : Int32) == 0) = false from by decide, Bool.false_eq_true, if_false, wp_pure']
  rw [Std.Legacy.Range.forIn_eq_forIn_range']
  rw [wp_bind']
  refine mu_loop (f := _) (fun i u => rfl) hkA hkindA hk hkind hlim hhp hc hsl ?_ 4 0 _ _ rfl
  intro d' acts'
  exact hq d' acts'
theorem mu_wp {Q : Unit → Pre} {f : JFrame} {index : Nat} {rest : List Value} (hs : s.topJava?.isSome) (hr : s.vm.classReady f.method.cls index cA) (hkA : s.vm.classes[cA]? = some kA) (hkindA : kA.kind = .array ci (.array .int)) (hk : s.vm.classes[ci]? = some kI) (hkind : kI.kind = .array ti .int) (hlim : 4 ≤ e.platform.arrayLengthLimit) (hhp : 16 ≤ e.platform.maxHeapBytes) (hc : s.heap.size + 5 ≤ e.platform.maxCells) (hsl : s.slotsUsed + 20 ≤ e.platform.maxSlots) (hstack : f.stack = .int 4 :: .int 4 :: rest) (hq : ∀ acts', Q () true acts' ((muS s cA ci 4).setTop { f with stack := .ref s.heap.size :: rest })) : wp (Jvm.Op.multianewarray.sem index 2) Q E e d acts (s.setTop f) := by
  simp only [Jvm.Op.multianewarray.sem, wp_bind', W.resolveClassAt_ready (State.method?_setTop f hs) hr]
  rw [W.popN, if_neg (by decide)]
  refine ⟨f, State.topJava?_setTop' _ hs, [.int 4, .int 4], rest, rfl, hstack, ?_⟩
  simp only [List.mapM, List.mapM.loop, wp_bind', wp_pure', State.setTop_setTop, List.reverse_cons, List.reverse_nil, List.nil_append, List.cons_append]
  refine mu_out (s := s.setTop { f with stack := rest }) hkA hkindA hk hkind hlim hhp hc hsl (fun d' acts' => ?_)
  rw [muS_top]
  show ∃ f0 : JFrame, ((muS s cA ci 4).setTop { f with stack := rest }).topJava? = some f0 ∧ Q () true acts' (((muS s cA ci 4).setTop { f with stack := rest }).setTop { f0 with stack := .ref s.heap.size :: f0.stack })
  refine ⟨{ f with stack := rest }, State.topJava?_setTop' _ (by rw [muS_tj]; exact hs), ?_⟩
  rw [State.setTop_setTop]
  exact hq _
theorem mu_cold {Q : Unit → Pre} {f : JFrame} {index c : Nat} {vm' : Vm} (hs : s.topJava?.isSome) (hg : (Jvm.resolveClass f.method.cls index).Gives e.toSetting s.vm (.ok c) vm') (hr : vm'.classReady f.method.cls index c) (hsz : vm'.classes.size ≤ s.vm.classes.size) : wp (Jvm.Op.multianewarray.sem index 2) Q E e d acts (s.setTop f) ↔ wp (Jvm.Op.multianewarray.sem index 2) Q E e d acts ((s.setVm vm').setTop f) := by
  simp only [Jvm.Op.multianewarray.sem, wp_bind']
  exact W.resolveClassAt_transfer (s := s.setTop f) (State.method?_setTop f hs) hg hr hsz
end MU
theorem mu_over {s : State} (h : va_AOA .int s) : ∃ comp c k, s.vm.findClass "[I" = some comp ∧ s.vm.classes[c]? = some k ∧ k.kind = .array comp (.array .int) ∧ s.vm.findClass "[[I" = some c := by
  unfold va_AOA at h
  have e1 : (FieldType.array .int).toString = "[I" := by decide
  have e2 : "[" ++ (FieldType.array .int).toString = "[[I" := by decide
  simp only [Cond.before, Cond.holds, Cond.value, beq_iff_eq] at h
  cases hc : s.vm.findClass (FieldType.array .int).toString with
  | none => simp [hc] at h
  | some comp =>
    simp only [hc, Option.bind_some, Option.bind_eq_some_iff, Option.map_eq_some_iff] at h
    obtain ⟨c, hi, k, hk, hb⟩ := h
    obtain ⟨hlt, hp, -⟩ := Array.findIdx?_eq_some_iff_getElem.mp hi
    have hkk : s.vm.classes[c] = k := (Array.getElem?_eq_some_iff.mp hk).2
    rw [hkk] at hp
    cases hkind : k.kind with
    | array component ty =>
      rw [hkind] at hb hp
      simp only [beq_iff_eq] at hp
      simp only [Bool.and_eq_true, decide_eq_true_eq] at hb
      have h2 : s.vm.findClass ("[" ++ (FieldType.array .int).toString) = some c := by simpa using hb.2
      have h1 : ty = .array .int := by simpa using hb.1
      exact ⟨comp, c, k, by rw [← e1]; exact hc, hk, by rw [hkind, hp, h1], by rw [← e2]; exact h2⟩
    | _ => rw [hkind] at hb; simp at hb
section MU2
variable {p : Program} {l : Launch} {e : Env} {R : Room} {s : State} {m : MethodId} {args : Array Value} {below : List Frame} {meth : Method} {c : Code} {T : State} {locs : List Loc} {cells slots : Nat}
theorem mu_st (X : Stand p l e R s m args below meth c T locs cells slots) (cA ci : ClassId) : ∀ i, ∃ locs', (∀ q ∈ locs', q ∈ locs ∨ q.base = T.heap.size) ∧ Stand p l e R s m args below meth c (muS T cA ci i) locs' (cells + 1 + i) (slots + 4 + 4 * i)
  | 0 => ⟨locs, fun q hq => Or.inl hq, X.pushed (muO cA)⟩
  | i + 1 => by
    obtain ⟨locs', h1, h2⟩ := mu_st X cA ci i
    obtain ⟨g1, g2, g3, g4, g5, g6⟩ := muS_f T cA ci i
    have h3 := (h2.pushed (muI ci)).stored (a := T.heap.size) (cell := muC cA T.heap.size i) (by rw [State.heap_pushCell_of_lt (muS T cA ci i) (muI ci) (show T.heap.size < (muS T cA ci i).heap.size by omega)]; exact g4) i (.ref (T.heap.size + 1 + i))
    refine ⟨_, ?_, h3⟩
    intro q hq
    rcases List.mem_append.mp hq with z | z
    · exact h1 q z
    · rw [List.mem_singleton.mp z]; exact Or.inr rfl
theorem mu_stand (X : Stand p l e R s m args below meth c T locs cells slots) (hexec : p.tables.exec = Jvm.exec) {own : String} {index : Nat} (hown : s.vm.findClass own = some m.cls) (hclink : (Cond.classLink own index "[[I").before args s = true) {cA ci ti : ClassId} {kA kI : Class} (hfA : s.vm.findClass "[[I" = some cA) (hkA : s.vm.classes[cA]? = some kA) (hkindA : kA.kind = .array ci (.array .int)) (hkI : s.vm.classes[ci]? = some kI) (hkindI : kI.kind = .array ti .int) {g : JFrame} (hg : g.method = m) (hdg : decode c.code g.pc = .ok (.multianewarray index 2, 4)) {rest : List Value} (hstack : g.stack = .int 4 :: .int 4 :: rest) (hcells : cells + 5 ≤ R.cells) (hslots : slots + 20 ≤ R.slots) :
    ∃ vm₁ locs', (∀ q ∈ locs', q ∈ locs ∨ q.base = T.heap.size) ∧ Stand p l e R s m args below meth c (muS (T.setVm vm₁) cA ci 4) locs' (cells + 5) (slots + 20) ∧ ∀ target, Steps p.tables e below ((muS (T.setVm vm₁) cA ci 4).setTop { g with pc := g.pc + 4, stack := .ref T.heap.size :: rest }) target → Steps p.tables e below (T.setTop g) target := by
  subst hg
  have hpl : e.platform.magicAccessors = ({} : Platform).magicAccessors := by rw [X.admits.platform]
  obtain ⟨cc, hfcc, hcl⟩ := Cond.classLink_spec hown hclink e.platform hpl
  cases hfA.symm.trans hfcc
  obtain ⟨hg₁, hwarm₁, hready₁⟩ := State.classEntry (e := e) X.warmed hcl
  generalize T.vm.noted g.method.cls index (.cls cA) = vm₁ at hg₁ hwarm₁ hready₁
  have hal : s.vm.Alike vm₁ := hwarm₁.alike
  have halT : s.vm.Alike T.vm := X.warmed.alike
  obtain ⟨kA₁, hkA₁, heA⟩ := hal.2.2 _ _ hkA
  have hkindA₁ : kA₁.kind = .array ci (.array .int) := by rw [heA]; exact hkindA
  obtain ⟨kI₁, hkI₁, heI⟩ := hal.2.2 _ _ hkI
  have hkindI₁ : kI₁.kind = .array ti .int := by rw [heI]; exact hkindI
  have hlim : 4 ≤ e.platform.arrayLengthLimit := by rw [Launch.admits_arrayLengthLimit X.admits]; omega
  have hhp : 16 ≤ e.platform.maxHeapBytes := by rw [Launch.admits_maxHeapBytes X.admits]; omega
  obtain ⟨hr1, hr2⟩ := X.roomAbove hcells hslots
  have hsz : vm₁.classes.size ≤ T.vm.classes.size := by
    have h1 := hal.2.1
    have h2 := halT.2.1
    omega
  obtain ⟨locs', h1, h2⟩ := mu_st (X.noted hwarm₁) cA ci 4
  refine ⟨vm₁, locs', h1, h2, fun target hrest => ?_⟩
  jvm_step X.here [hexec, hdg]
  rw [mu_cold X.here.top hg₁ hready₁ hsz]
  refine mu_wp (s := T.setVm vm₁) X.here.top hready₁ hkA₁ hkindA₁ hkI₁ hkindI₁ hlim hhp hr1 hr2 hstack (fun acts' => ?_)
  intro acts
  rw [afterInstr_ok]
  exact hrest
end MU2
theorem outer4 (c : ClassId) (h : Nat) : muC c h 4 = vp_cell c (4, .inr (.inr (.inr (.inr (fun i => if i < 4 then some (h + 1 + i) else none))))) := by
  rw [vp_cell_q]
  show ((((({ cls := c, slots := Array.replicate 4 .null, vm := .none } : Cell).setSlot 0 (.ref (h + 1 + 0))).setSlot 1 (.ref (h + 1 + 1))).setSlot 2 (.ref (h + 1 + 2))).setSlot 3 (.ref (h + 1 + 3))) = _
  rw [arrV_new, arrV_store, arrV_store, arrV_store, arrV_store]
  refine congrArg (arrV c 4) (funext fun j => ?_)
  by_cases e3 : j = 3
  · subst e3; rfl
  · by_cases e2 : j = 2
    · subst e2; rfl
    · by_cases e1 : j = 1
      · subst e1; rfl
      · by_cases e0 : j = 0
        · subst e0; rfl
        · unfold updV
          rw [if_neg e3, if_neg e2, if_neg e1, if_neg e0, if_neg (show ¬ j < 4 by omega)]
          rfl
theorem inner4 (c : ClassId) : muI c = vp_cell c (4, .inl (fun _ => 0)) := by
  rw [vp_cell_i]
  exact arrV_new c 4 (.int 0)
theorem gI_mna {μ : Mem} {a j : Nat} (h : a < 26) : gI (mna μ 26 4) a j = gI μ a j := by
  show gI (zer (zer (zer (zer (zer μ 26) 27) 28) 29) 30) a j = _
  rw [gIz (by omega), gIz (by omega), gIz (by omega), gIz (by omega), gIz (by omega)]
theorem gL_mna {μ : Mem} {a j : Nat} (h : a < 26) : gL (mna μ 26 4) a j = gL μ a j := by
  show gL (zer (zer (zer (zer (zer μ 26) 27) 28) 29) 30) a j = _
  rw [gLz (by omega), gLz (by omega), gLz (by omega), gLz (by omega), gLz (by omega)]
theorem gR_mna {μ : Mem} {a j : Nat} (h : a < 26) : gR (mna μ 26 4) a j = gR μ a j := by
  show gR (sR (sR (sR (sR (zer (zer (zer (zer (zer μ 26) 27) 28) 29) 30) 26 0 (some 27)) 26 1 (some 28)) 26 2 (some 29)) 26 3 (some 30)) a j = _
  rw [gR_sR, if_neg (by omega), gR_sR, if_neg (by omega), gR_sR, if_neg (by omega), gR_sR, if_neg (by omega), gRz (by omega), gRz (by omega), gRz (by omega), gRz (by omega), gRz (by omega)]
theorem gR_mna26 {μ : Mem} {j : Nat} : gR (mna μ 26 4) 26 j = if j < 4 then some (27 + j) else none := by
  by_cases e3 : j = 3
  · subst e3; rfl
  · by_cases e2 : j = 2
    · subst e2; rfl
    · by_cases e1 : j = 1
      · subst e1; rfl
      · by_cases e0 : j = 0
        · subst e0; rfl
        · show gR (sR (sR (sR (sR (zer (zer (zer (zer (zer μ 26) 27) 28) 29) 30) 26 0 (some 27)) 26 1 (some 28)) 26 2 (some 29)) 26 3 (some 30)) 26 j = _
          rw [gR_sR, if_pos rfl, if_neg e3, gR_sR, if_pos rfl, if_neg e2, gR_sR, if_pos rfl, if_neg e1, gR_sR, if_pos rfl, if_neg e0, if_neg (show ¬ j < 4 by omega)]
          rfl
theorem gR_mnaN {μ : Mem} {a j : Nat} (h : 26 < a) (h2 : a < 31) : gR (mna μ 26 4) a j = none := by
  have e : a = 27 ∨ a = 28 ∨ a = 29 ∨ a = 30 := by omega
  rcases e with e | e | e | e <;> subst e <;> rfl
theorem gI_mnaN {μ : Mem} {a : Nat} (h : 26 < a) (h2 : a < 31) : gI (mna μ 26 4) a = fun _ => 0 := by
  have e : a = 27 ∨ a = 28 ∨ a = 29 ∨ a = 30 := by omega
  rcases e with e | e | e | e <;> subst e <;> rfl
theorem mna_cell {Y : Lay} {ad ad' : Nat → Nat} {μ : Mem} {a : Nat} (hT : WT (yset Y ad 26) μ) (h : a < 26) (hh : ∀ b, b < 26 → ad' b = ad b) : cellOf (yset Y ad' 31) (mna μ 26 4) a = cellOf (yset Y ad 26) μ a := by
  have h1 : gI (mna μ 26 4) a = gI μ a := funext fun j => gI_mna h
  have h2 : gL (mna μ 26 4) a = gL μ a := funext fun j => gL_mna h
  have h3 : ∀ j, (gR (mna μ 26 4) a j).map ad' = (gR μ a j).map ad := by
    intro j
    rw [gR_mna h]
    cases hr : gR μ a j with
    | none => rfl
    | some b =>
      have hb : b < 26 := (hT a j b h hr).1
      show some (ad' b) = some (ad b)
      rw [hh b hb]
  unfold cellOf fkv
  show (if ykd Y a = 11 then _ else _) = (if ykd Y a = 11 then _ else _)
  simp only [h1, h2, show ∀ j, (gR (mna μ 26 4) a j).map (yad (yset Y ad' 31)) = (gR μ a j).map (yad (yset Y ad 26)) from h3]
  rfl
theorem wl_ix {Y : Lay} {μ : Mem} {k : Nat} {x : Nat × va_E} (h : (wl Y μ)[k]? = some x) : k < yn Y ∧ x = (yad Y k, cellOf Y μ k) := by
  have hk : k < yn Y := by
    have y := (List.getElem?_eq_some_iff.mp h).1
    rw [wl_len] at y
    exact y
  rw [wl_at hk] at h
  exact ⟨hk, (Option.some.inj h).symm⟩
theorem g_mna {β : Type} {r : β} {f : Mem → Option β} {X : Ctx} {Y : Lay} {A : Nat → Prop} {Q : State → Prop} {cells slots : Nat} {μ : Mem} {nL pc pc' : Nat} {lv : List (Nat × Value)} {st : List Value} {cc : ByteArray} {ret : Option FieldType} {own : String} {Rm : Room} {idx : Nat} {ad : Nat → Nat} (C : CxG X (yset Y ad 26) A cc nL ret own Rm) (hA : ∀ q, (xs X).heap.size ≤ q → A q) (hY : IsD Y) (w1 : Cond.classLink own idx "[[I" ∈ TT) (hao : va_AOA .int (xs X)) (w2 : Cond.arrayClass .int ∈ TT) (hc : cells + 5 ≤ Rm.cells) (hs : slots + 20 ≤ Rm.slots) (hd : DC cc pc (.multianewarray idx 2) 4 pc') (hf : nm (mna μ 26 4) f = some r)
    (k : ∀ (ad' : Nat → Nat) (μ1 : Mem), (∀ a, a < 26 → ad' a = ad a) → f μ1 = some r → G X (yset Y ad' 31) A Q (cells + 5) (slots + 20) nL pc' lv (.ref (ad' 26) :: st) μ1) : G X (yset Y ad 26) A Q cells slots nL pc lv (.int 4 :: .int 4 :: st) μ := by
  obtain ⟨hd, rfl⟩ := hd
  intro H locs ls hl hw
  obtain ⟨hK, hP, hD, hS, hT, hSt⟩ := id hw
  have hts := C.1.2.2.2.2
  intro T hTH Xs
  obtain ⟨comp, cA, kA, fC, hkA, hkindA, fA⟩ := mu_over hao
  obtain ⟨cI, kI, tI, fC2, hkI, hkindI⟩ := Cond.arrayClass_spec (hts _ w2)
  have e1 : "[" ++ FieldType.int.toString = "[I" := by decide
  rw [e1] at fC2
  have ec2 : cI = comp := Option.some.inj (fC2.symm.trans fC)
  subst ec2
  obtain ⟨vm₁, locs', hl9, X', step⟩ := mu_stand Xs C.1.1 C.1.2.2.2.1 (hts _ w1) fA hkA hkindA hkI hkindI (g := F0 (xm X) pc ls (.int 4 :: .int 4 :: st)) rfl (by rw [C.1.2.1]; exact hd) rfl (by rw [C.2.2.2.2]; exact hc) (by rw [C.2.2.2.2]; exact hs)
  have ec : cI = ycy Y 0 := Option.some.inj (fC.symm.trans (hK.2 0 (ycy Y 0, .int) rfl).2)
  have ea : cA = ycy Y 5 := Option.some.inj (fA.symm.trans (hK.2 5 (ycy Y 5, .array .int) rfl).2)
  subst ec
  subst ea
  have hTh : (T.setVm vm₁).heap = H := hTH
  obtain ⟨f1, -, -, f2, hold, hrow⟩ := muS_f (T.setVm vm₁) (ycy Y 5) (ycy Y 0) 4
  generalize hF : muS (T.setVm vm₁) (ycy Y 5) (ycy Y 0) 4 = F at X' step f1 f2 hold hrow
  rw [hTh] at f1 f2 hold hrow
  rw [outer4] at f2
  rw [inner4] at hrow
  have hao2 : ∀ b, b < 26 → (fun a => if a < 26 then ad a else H.size + (a - 26)) b = ad b := fun b hb => by
    show (if b < 26 then ad b else H.size + (b - 26)) = ad b
    rw [if_pos hb]
  have had : ∀ b, b < 26 → ad b < H.size := fun b hb => (hP b _ (wl_at (Y := yset Y ad 26) hb)).lt
  have hP' : va_P (yD Y) vwCl (wl (yset Y (fun a => if a < 26 then ad a else H.size + (a - 26)) 31) (mna μ 26 4)) F.heap := by
    intro k9 x hx
    obtain ⟨hk, rfl⟩ := wl_ix hx
    have hk : k9 < 31 := hk
    by_cases c1 : k9 < 26
    · rw [mna_cell hT c1 hao2]
      show va_at _ _ ((fun a => if a < 26 then ad a else H.size + (a - 26)) k9, _) _
      rw [hao2 k9 c1]
      exact (hP k9 _ (wl_at (Y := yset Y ad 26) c1)).kept (hold _ (had k9 c1))
    · by_cases c2 : k9 = 26
      · subst c2
        rw [cell_ref (Y := yset Y (fun a => if a < 26 then ad a else H.size + (a - 26)) 31) (kD hY (show kdX 26 = 16 from rfl)) (by decide)]
        have er : (fun i => (gR (mna μ 26 4) 26 i).map (yad (yset Y (fun a => if a < 26 then ad a else H.size + (a - 26)) 31))) = fun i => if i < 4 then some (H.size + 1 + i) else none := by
          funext i
          rw [gR_mna26]
          by_cases ci : i < 4
          · rw [if_pos ci, if_pos ci]
            show some (if 27 + i < 26 then ad (27 + i) else H.size + (27 + i - 26)) = _
            rw [if_neg (by omega)]
            congr 1
            omega
          · rw [if_neg ci, if_neg ci]
            rfl
        rw [er, lD hY (show lnX 26 = 4 from rfl)]
        exact f2
      · rw [cell_int (Y := yset Y (fun a => if a < 26 then ad a else H.size + (a - 26)) 31) (kD hY (show kdX k9 = 11 by
          have y : k9 = 27 ∨ k9 = 28 ∨ k9 = 29 ∨ k9 = 30 := by omega
          rcases y with y | y | y | y <;> subst y <;> rfl)), gI_mnaN (by omega) hk, lD hY (show lnX k9 = 4 by
          have y : k9 = 27 ∨ k9 = 28 ∨ k9 = 29 ∨ k9 = 30 := by omega
          rcases y with y | y | y | y <;> subst y <;> rfl)]
        show F.heap[(if k9 < 26 then ad k9 else H.size + (k9 - 26))]? = some (vp_cell (ycy Y 0) (4, .inl (fun _ => 0)))
        rw [if_neg c1, show H.size + (k9 - 26) = H.size + 1 + (k9 - 27) by omega]
        exact hrow _ (by omega)
  have hD' : va_D A (wl (yset Y (fun a => if a < 26 then ad a else H.size + (a - 26)) 31) (mna μ 26 4)) := by
    refine ⟨fun i j p q hi hj hpq => ?_, fun k9 x hx => ?_⟩
    · obtain ⟨i1, rfl⟩ := wl_ix hi
      obtain ⟨j1, rfl⟩ := wl_ix hj
      have hpq : (if i < 26 then ad i else H.size + (i - 26)) = (if j < 26 then ad j else H.size + (j - 26)) := hpq
      by_cases c1 : i < 26
      · rw [if_pos c1] at hpq
        have y := had i c1
        by_cases c2 : j < 26
        · rw [if_pos c2] at hpq
          exact hD.1 i j _ _ (wl_at (Y := yset Y ad 26) c1) (wl_at (Y := yset Y ad 26) c2) hpq
        · rw [if_neg c2] at hpq
          omega
      · rw [if_neg c1] at hpq
        by_cases c2 : j < 26
        · rw [if_pos c2] at hpq
          have y := had j c2
          omega
        · rw [if_neg c2] at hpq
          omega
    · obtain ⟨k1, rfl⟩ := wl_ix hx
      show A (if k9 < 26 then ad k9 else H.size + (k9 - 26))
      by_cases c1 : k9 < 26
      · rw [if_pos c1]
        exact hD.2 k9 _ (wl_at (Y := yset Y ad 26) c1)
      · rw [if_neg c1]
        have y := hS.1
        exact hA _ (by omega)
  have hT' : WT (yset Y (fun a => if a < 26 then ad a else H.size + (a - 26)) 31) (mna μ 26 4) := by
    intro a j b h1 h2
    have h1 : a < 31 := h1
    by_cases c1 : a < 26
    · rw [gR_mna c1] at h2
      have y := hT a j b c1 h2
      have y1 : b < 26 := y.1
      exact ⟨show b < 31 by omega, y.2⟩
    · by_cases c2 : a = 26
      · subst c2
        rw [gR_mna26] at h2
        by_cases cj : j < 4
        · rw [if_pos cj] at h2
          have eb : b = 27 + j := (Option.some.inj h2).symm
          have ej : j = 0 ∨ j = 1 ∨ j = 2 ∨ j = 3 := by omega
          rcases ej with y | y | y | y <;> subst y <;> subst eb <;> exact ⟨by show _ < 31; omega, by rw [kD hY (show kdX 26 = 16 from rfl)]; exact kD hY rfl⟩
        · rw [if_neg cj] at h2
          cases h2
      · rw [gR_mnaN (by omega) h1] at h2
        cases h2
  obtain ⟨t, a1, b1⟩ := k (fun a => if a < 26 then ad a else H.size + (a - 26)) (mna μ 26 4) hao2 hf F.heap locs' ls hl ⟨hK, hP', hD', ⟨by rw [f1]; have y := hS.1; omega, fun x g1 g2 => (hold x (Nat.lt_of_lt_of_le g1 hS.1)).trans (hS.2.1 x g1 g2), fun q hq => by
    rcases hl9 q hq with z | z
    · exact hS.2.2 q z
    · rw [z, hTH]; exact hA _ hS.1⟩, hT', St_f hY.2.2⟩ F rfl X'
  refine ⟨t, step t ?_, b1⟩
  have e : T.heap.size = H.size := by rw [hTH]
  rw [e]
  exact a1

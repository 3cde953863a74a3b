/-! The world: cells by their relative places, over the memory. -/
abbrev Ctx : Type := Program × Launch × Env × Room × State × MethodId × Array Value × List Frame × Method × Code
abbrev xp (X : Ctx) : Program := X.1
abbrev xl (X : Ctx) : Launch := X.2.1
abbrev xe (X : Ctx) : Env := X.2.2.1
abbrev xR (X : Ctx) : Room := X.2.2.2.1
abbrev xs (X : Ctx) : State := X.2.2.2.2.1
abbrev xm (X : Ctx) : MethodId := X.2.2.2.2.2.1
abbrev xa (X : Ctx) : Array Value := X.2.2.2.2.2.2.1
abbrev xb (X : Ctx) : List Frame := X.2.2.2.2.2.2.2.1
abbrev xt (X : Ctx) : Method := X.2.2.2.2.2.2.2.2.1
abbrev xc (X : Ctx) : Code := X.2.2.2.2.2.2.2.2.2
/-- kinds, lengths, fixed references, whether those stand, array classes, classes and slots, addresses, how many cells, static arrays -/
abbrev Lay : Type := (Nat → Nat) × (Nat → Nat) × (Nat → Nat → Nat) × Bool × (Nat → ClassId) × va_G × (Nat → Nat) × Nat × (Nat → Nat)
abbrev ykd (Y : Lay) : Nat → Nat := Y.1
abbrev yln (Y : Lay) : Nat → Nat := Y.2.1
abbrev ysr (Y : Lay) : Nat → Nat → Nat := Y.2.2.1
abbrev ymd (Y : Lay) : Bool := Y.2.2.2.1
abbrev ycy (Y : Lay) : Nat → ClassId := Y.2.2.2.2.1
abbrev yD (Y : Lay) : va_G := Y.2.2.2.2.2.1
abbrev yad (Y : Lay) : Nat → Nat := Y.2.2.2.2.2.2.1
abbrev yn (Y : Lay) : Nat := Y.2.2.2.2.2.2.2.1
abbrev ytS (Y : Lay) : Nat → Nat := Y.2.2.2.2.2.2.2.2
def fkv (ad : Nat → Nat) (μ : Mem) (a : Nat) (ks : List Nat) : List Value := (List.range ks.length).map (fun j => if ks.getD j 0 = 0 then Value.int (gI μ a j) else if ks.getD j 0 = 1 then Value.long (gL μ a j) else va_rf ((gR μ a j).map ad))
def cellOf (Y : Lay) (μ : Mem) (a : Nat) : va_E :=
  if ykd Y a = 11 then .inl (ycy Y 0, yln Y a, .inl (gI μ a))
  else if ykd Y a = 12 then .inl (ycy Y 1, yln Y a, .inr (.inl (gL μ a)))
  else if 12 < ykd Y a then .inl (ycy Y (ykd Y a - 11), yln Y a, .inr (.inr (.inr (.inr (fun i => (gR μ a i).map (yad Y))))))
  else .inr (ykd Y a, fkv (yad Y) μ a (fks (ykd Y a)))
def wl (Y : Lay) (μ : Mem) : va_W := (List.range (yn Y)).map (fun a => (yad Y a, cellOf Y μ a))
def WT (Y : Lay) (μ : Mem) : Prop := ∀ a j b, a < yn Y → gR μ a j = some b → b < yn Y ∧ ykd Y b = tgt (ykd Y a) j
def St (Y : Lay) (μ : Mem) : Prop := ymd Y = true → ∀ a j, a < yn Y → stt (ykd Y a) j = true → (12 < ykd Y a → j < yln Y a) → gR μ a j = some (ysr Y a j)
def Aof (Y : Lay) : Nat → Prop := fun q => ∃ a, a < yn Y ∧ yad Y a = q
def SOK (Y : Lay) (A : Nat → Prop) (U : State) : Prop := ∀ (k : Nat) (r : String × String × String × FieldType × List Int32), sts[k]? = some r → va_Z r.1 r.2.1 r.2.2.1 (.ref (ytS Y k)) A U U.heap ∧ va_T r.2.2.2.1 (ytS Y k) r.2.2.2.2.length (fun i => .int (r.2.2.2.2.getD i 0)) A U U.heap ∧ ∃ cell : Cell, U.heap[ytS Y k]? = some cell ∧ cell.slots.size = r.2.2.2.2.length
def WS (Y : Lay) (μ : Mem) (U : State) : Prop := va_K (yD Y) vwCl (tysOf (ycy Y)) U ∧ va_P (yD Y) vwCl (wl Y μ) U.heap ∧ va_D (fun _ => True) (wl Y μ) ∧ WT Y μ ∧ St Y μ ∧ SOK Y (Aof Y) U
def Wd (s : State) (Y : Lay) (A : Nat → Prop) (μ : Mem) (H : Heap) (locs : List Loc) : Prop := va_K (yD Y) vwCl (tysOf (ycy Y)) s ∧ va_P (yD Y) vwCl (wl Y μ) H ∧ va_D A (wl Y μ) ∧ va_S A s.heap H locs ∧ WT Y μ ∧ St Y μ
/-- a method's end -/
def Qn (Y : Lay) (rv : Option Value) (μ : Mem) : Array Value → State → Outcome → State → Prop := fun _ st oc t => oc = .returned rv ∧ WS Y μ t ∧ va_F (Aof Y) st t
/-- from this point the machine comes to Q -/
def G (X : Ctx) (Y : Lay) (A : Nat → Prop) (Q : State → Prop) (cells slots nL pc : Nat) (lv : List (Nat × Value)) (st : List Value) (μ : Mem) : Prop :=
  ∀ (H : Heap) (locs : List Loc) (ls : Array Slot), lv_has ls nL lv → Wd (xs X) Y A μ H locs → W (xp X) (xl X) (xe X) (xR X) (xs X) (xm X) (xa X) (xb X) (xt X) (xc X) H locs cells slots Q (F0 (xm X) pc ls st)
/-- from this point the method returns rv, with the memory μ' -/
abbrev J (X : Ctx) (Y : Lay) (rv : Option Value) (μ' : Mem) (nL pc : Nat) (lv : List (Nat × Value)) (st : List Value) (μ : Mem) : Prop :=
  G X Y (Aof Y) (MQ (xb X) (Qn Y rv μ') (xa X) (xs X) 0 0 (Aof Y)) 0 0 nL pc lv st μ
def rmN (d : Nat) : Room := { frames := d, cells := 0, slots := 0, locals := 64 * d }
/-- what stands through a method -/
def CxG (X : Ctx) (Y : Lay) (A : Nat → Prop) (cc : ByteArray) (nL : Nat) (ret : Option FieldType) (own : String) (Rm : Room) : Prop :=
  CallFix (xp X) (xm X) (xc X) cc nL (xs X) (xa X) TT own ∧ (xt X).sig.returnType = ret ∧ (xt X).locks = false ∧ SOK Y A (xs X) ∧ xR X = Rm
abbrev Cx (X : Ctx) (Y : Lay) (cc : ByteArray) (nL : Nat) (ret : Option FieldType) (own : String) (d : Nat) : Prop := CxG X Y (Aof Y) cc nL ret own (rmN d)
/-- a method's contract -/
def Ct (l : Launch) (Y : Lay) (y : MethodName) (cc : ByteArray) (nL : Nat) (ret : Option FieldType) (d : Nat) (as : List Value) (rv : Option Value) (μ μ' : Mem) : Prop :=
  Met l y (.code y cc nL ret :: TT) (rmN d) (va_Pc as (WS Y μ)) (Qn Y rv μ') 0 0 (Aof Y)
theorem wl_at {Y : Lay} {μ : Mem} {a : Nat} (h : a < yn Y) : (wl Y μ)[a]? = some (yad Y a, cellOf Y μ a) := by
  unfold wl
  rw [List.getElem?_map, List.getElem?_range h]
  rfl
theorem wl_len {Y : Lay} {μ : Mem} : (wl Y μ).length = yn Y := by simp [wl]
theorem wl_set {Y : Lay} {μ μ' : Mem} {a : Nat} {c : va_E} (hc : cellOf Y μ' a = c) (ho : ∀ b, b ≠ a → cellOf Y μ' b = cellOf Y μ b) : (wl Y μ).set a (yad Y a, c) = wl Y μ' := by
  apply List.ext_getElem?
  intro i
  rw [List.getElem?_set]
  by_cases hi : a = i
  · subst hi
    rw [if_pos rfl]
    by_cases hl : a < yn Y
    · rw [if_pos (by rw [wl_len]; exact hl), wl_at hl, hc]
    · rw [if_neg (by rw [wl_len]; exact hl)]
      symm
      apply List.getElem?_eq_none
      rw [wl_len]; omega
  · rw [if_neg hi]
    by_cases hl : i < yn Y
    · rw [wl_at hl, wl_at hl, ho i (fun h => hi h.symm)]
    · rw [List.getElem?_eq_none (by rw [wl_len]; omega), List.getElem?_eq_none (by rw [wl_len]; omega)]
theorem cell_int {Y : Lay} {μ : Mem} {a : Nat} (h : ykd Y a = 11) : cellOf Y μ a = .inl (ycy Y 0, yln Y a, .inl (gI μ a)) := by unfold cellOf; rw [if_pos h]
theorem cell_long {Y : Lay} {μ : Mem} {a : Nat} (h : ykd Y a = 12) : cellOf Y μ a = .inl (ycy Y 1, yln Y a, .inr (.inl (gL μ a))) := by unfold cellOf; rw [if_neg (by omega), if_pos h]
theorem cell_ref {Y : Lay} {μ : Mem} {a k : Nat} (h : ykd Y a = k) (hk : 12 < k) : cellOf Y μ a = .inl (ycy Y (k - 11), yln Y a, .inr (.inr (.inr (.inr (fun i => (gR μ a i).map (yad Y)))))) := by unfold cellOf; rw [if_neg (by omega), if_neg (by omega), if_pos (by omega), h]
theorem cell_obj {Y : Lay} {μ : Mem} {a k : Nat} (h : ykd Y a = k) (hk : k < 11) : cellOf Y μ a = .inr (k, fkv (yad Y) μ a (fks k)) := by unfold cellOf; rw [if_neg (by omega), if_neg (by omega), if_neg (by omega), h]
theorem fkv_len {ad : Nat → Nat} {μ : Mem} {a : Nat} {ks : List Nat} : (fkv ad μ a ks).length = ks.length := by simp [fkv]
theorem fkv_at {ad : Nat → Nat} {μ : Mem} {a j : Nat} {ks : List Nat} (h : j < ks.length) : (fkv ad μ a ks)[j]? = some (if ks.getD j 0 = 0 then Value.int (gI μ a j) else if ks.getD j 0 = 1 then Value.long (gL μ a j) else va_rf ((gR μ a j).map ad)) := by
  unfold fkv
  rw [List.getElem?_map, List.getElem?_range h]
  rfl
theorem fkv_set {ad : Nat → Nat} {μ μ' : Mem} {a j : Nat} {ks : List Nat} {v : Value} (hv : v = if ks.getD j 0 = 0 then Value.int (gI μ' a j) else if ks.getD j 0 = 1 then Value.long (gL μ' a j) else va_rf ((gR μ' a j).map ad)) (hI : ∀ i, i ≠ j → gI μ' a i = gI μ a i) (hL : ∀ i, i ≠ j → gL μ' a i = gL μ a i) (hR : ∀ i, i ≠ j → gR μ' a i = gR μ a i) : (fkv ad μ a ks).set j v = fkv ad μ' a ks := by
  apply List.ext_getElem?
  intro i
  rw [List.getElem?_set]
  by_cases hi : j = i
  · subst hi
    rw [if_pos rfl]
    by_cases hl : j < ks.length
    · rw [if_pos (by rw [fkv_len]; exact hl), fkv_at hl, hv]
    · rw [if_neg (by rw [fkv_len]; exact hl)]
      symm
      apply List.getElem?_eq_none
      rw [fkv_len]; omega
  · rw [if_neg hi]
    by_cases hl : i < ks.length
    · rw [fkv_at hl, fkv_at hl, hI i (fun h => hi h.symm), hL i (fun h => hi h.symm), hR i (fun h => hi h.symm)]
    · rw [List.getElem?_eq_none (by rw [fkv_len]; omega), List.getElem?_eq_none (by rw [fkv_len]; omega)]
theorem cell_same {Y : Lay} {μ μ' : Mem} {b : Nat} (hI : ∀ j, gI μ' b j = gI μ b j) (hL : ∀ j, gL μ' b j = gL μ b j) (hR : ∀ j, gR μ' b j = gR μ b j) : cellOf Y μ' b = cellOf Y μ b := by
  have h1 : gI μ' b = gI μ b := funext hI
  have h2 : gL μ' b = gL μ b := funext hL
  unfold cellOf fkv
  simp only [h1, h2, hR]
theorem ne_sI {μ : Mem} {a k b j : Nat} {v : Int32} (h : b ≠ a) : gI (sI μ a k v) b j = gI μ b j := by rw [gI_sI, if_neg h]
theorem ne_sL {μ : Mem} {a k b j : Nat} {v : Int64} (h : b ≠ a) : gL (sL μ a k v) b j = gL μ b j := by rw [gL_sL, if_neg h]
theorem ne_sR {μ : Mem} {a k b j : Nat} {v : Option Nat} (h : b ≠ a) : gR (sR μ a k v) b j = gR μ b j := by rw [gR_sR, if_neg h]
theorem ne_sA {μ : Mem} {a b j : Nat} {g : Nat → Int32} (h : b ≠ a) : gI (sA μ a g) b j = gI μ b j := by rw [gI_sA, if_neg h]

/-! Rows for fields, arrays, ends and calls, over J. -/
def FL (own : String) (idx ci j : Nat) (fin : Bool) (ty : FieldType) : Prop :=
  ∃ (Cn : String) (T : u_T) (N : Nat) (ty0 : Nat → FieldType), vwCl[ci]? = some (Cn, T, N) ∧ (∀ w ∈ u_ws Cn T N, w ∈ TT) ∧ j < N ∧ (fks ci).length = N ∧ ci < 11 ∧ Cond.fieldLink own idx Cn (T j).2.1 (T j).2.2.1 ∈ TT ∧ (T j).1 = Cn ∧ (T j).2.2.2 = fin ∧ (∀ k, k < N → parseFieldDescriptor (T k).2.2.1 = some (ty0 k)) ∧ (∀ a, a < N → ∀ b, b < N → a ≠ b → (T a).2.1 ≠ (T b).2.1) ∧ ty0 j = ty
theorem lw_good : TT.all goodWord = true := List.all_eq_true.mpr (fun w h => (List.mem_filter.mp h).2)
theorem wl_addr {Y : Lay} {μ : Mem} {i : Nat} {q : Nat × va_E} (h : (wl Y μ)[i]? = some q) : i < yn Y ∧ q.1 = yad Y i := by
  have hi : i < yn Y := by
    rcases Nat.lt_or_ge i (yn Y) with h1 | h1
    · exact h1
    · rw [List.getElem?_eq_none (by rw [wl_len]; exact h1)] at h; cases h
  rw [wl_at hi] at h
  cases h
  exact ⟨hi, rfl⟩
theorem wl_D {Y : Lay} {μ μ1 : Mem} {A B : Nat → Prop} (hAB : ∀ a, a < yn Y → A (yad Y a) → B (yad Y a)) (h : va_D A (wl Y μ)) : va_D B (wl Y μ1) := by
  refine ⟨fun i j p q hp hq e => ?_, fun k q hq => ?_⟩
  · obtain ⟨h1, h2⟩ := wl_addr hp
    obtain ⟨h3, h4⟩ := wl_addr hq
    exact h.1 i j _ _ (wl_at h1) (wl_at h3) (by show yad Y i = yad Y j; rw [← h2, ← h4]; exact e)
  · obtain ⟨h1, h2⟩ := wl_addr hq
    rw [h2]
    exact hAB k h1 (h.2 k _ (wl_at h1))
theorem SOK.moved {Y : Lay} {A : Nat → Prop} {s t : State} {H : Heap} {locs : List Loc} (h : SOK Y A s) (hS : va_S A s.heap H locs) (ht : t.heap = H) (hv : s.vm.Alike t.vm) : SOK Y A t := by
  intro k r hr
  obtain ⟨h1, h2, cell, h3, h4⟩ := h k r hr
  have hq : ∀ a : Nat, a < s.heap.size → ¬ A a → t.heap[a]? = s.heap[a]? := fun a ha hA => by rw [ht]; exact hS.2.1 a ha hA
  refine ⟨(h1.kept hq).moved hv, (h2.kept hq).moved hv, cell, ?_, h4⟩
  obtain ⟨c2, g1, g2, g3, g4, g5, g6, g7⟩ := h2
  rw [hq _ (Array.getElem?_eq_some_iff.mp h3).1 g7]; exact h3
theorem Wd.ws {Y : Lay} {μ : Mem} {s t : State} {H : Heap} {locs : List Loc} (hw : Wd s Y (Aof Y) μ H locs) (hs : SOK Y (Aof Y) s) (ht : t.heap = H) (hv : s.vm.Alike t.vm) : WS Y μ t := by
  obtain ⟨hK, hP, hD, hS, hT, hSt⟩ := hw
  exact ⟨va_K.moved hv hK, by rw [ht]; exact hP, hD.weaken (fun _ _ _ _ => trivial), hT, hSt, hs.moved hS ht hv⟩
theorem WS.wd {Y : Lay} {μ : Mem} {s : State} (h : WS Y μ s) : Wd s Y (Aof Y) μ s.heap [] := by
  obtain ⟨hK, hP, hD, hT, hSt, hO⟩ := h
  exact ⟨hK, hP, wl_D (fun a ha _ => ⟨a, ha, rfl⟩) hD, va_S.rf, hT, hSt⟩
theorem WS.blind {Y : Lay} {μ : Mem} {U : State} (g : JFrame) (mk : MethodId) (a : Array Value) (h : WS Y μ U) : WS Y μ (U.calling g mk a) := by
  obtain ⟨hK, hP, hD, hT, hSt, hO⟩ := h
  refine ⟨va_K.moved (u := U) (U := U.calling g mk a) (Vm.Alike.refl U.vm) hK, hP, hD, hT, hSt, fun k r hr => ?_⟩
  obtain ⟨h1, h2, cell, h3, h4⟩ := hO k r hr
  exact ⟨va_Z.moved (u := U) (U := U.calling g mk a) (Vm.Alike.refl U.vm) h1, va_T.moved (u := U) (U := U.calling g mk a) (Vm.Alike.refl U.vm) h2, cell, h3, h4⟩
theorem good_ws {y : MethodName} {bytes : ByteArray} {maxL : Nat} {ret : Option FieldType} (h : Cond.code y bytes maxL ret ∈ TT) : GoodIn TT (.code y bytes maxL ret :: TT) := by
  intro w hw
  have h1 : w ∈ TT := by
    rcases List.mem_cons.mp hw with e | e
    · rw [e]; exact h
    · exact e
  exact ⟨h1, good_of_word (List.all_eq_true.mp lw_good w h1)⟩
theorem n20 {x : Nat} (h : x = 2) : ¬ x = 0 := by omega
theorem n21 {x : Nat} (h : x = 2) : ¬ x = 1 := by omega
theorem n10 {x : Nat} (h : x = 1) : ¬ x = 0 := by omega
section MROWS
variable {X : Ctx} {Y : Lay} {A : Nat → Prop} {Q : State → Prop} {cells slots : Nat} {rv : Option Value} {μ' μ : Mem} {nL pc pc' tgt' : Nat} {lv lv' : List (Nat × Value)} {st : List Value} {cc : ByteArray} {ret : Option FieldType} {own : String} {Rm : Room} {d : Nat} {idx ci j a : Nat} {fin : Bool} {ty : FieldType}
theorem j_gI (C : CxG X Y A cc nL ret own Rm) (F : FL own idx ci j fin ty) (hk : ykd Y a = ci) (ha : a < yn Y) (h0 : (fks ci).getD j 0 = 0) (hd : DC cc pc (.getfield idx) 3 pc') (k : G X Y A Q cells slots nL pc' lv (.int (gI μ a j) :: st) μ) : G X Y A Q cells slots nL pc lv (.ref (yad Y a) :: st) μ := by
  obtain ⟨hd, rfl⟩ := hd
  obtain ⟨Cn, T, N, ty0, f1, f2, f3, f4, f5, f6, f7, f8, f9, f10, f11⟩ := F
  intro H locs ls hl hw
  obtain ⟨hK, hP, hD, hS, hT, hSt⟩ := id hw
  exact va_get (D := yD Y) (ci := ci) (v := .int (gI μ a j)) (C := Cn) (T := T) (N := N) C.1.1 C.1.2.1 C.1.2.2.2.2 f2 C.1.2.2.2.1 hK hP a (by rw [wl_at ha, cell_obj hk f5]) f1 j f3 (C.1.2.2.2.2 _ f6) (fun x h => by rw [f7] at h; exact h) (by rw [fkv_at (by omega), if_pos h0]) hd (k H locs ls hl hw)
theorem j_gL (C : CxG X Y A cc nL ret own Rm) (F : FL own idx ci j fin ty) (hk : ykd Y a = ci) (ha : a < yn Y) (h0 : (fks ci).getD j 0 = 1) (hd : DC cc pc (.getfield idx) 3 pc') (k : G X Y A Q cells slots nL pc' lv (.long (gL μ a j) :: st) μ) : G X Y A Q cells slots nL pc lv (.ref (yad Y a) :: st) μ := by
  obtain ⟨hd, rfl⟩ := hd
  obtain ⟨Cn, T, N, ty0, f1, f2, f3, f4, f5, f6, f7, f8, f9, f10, f11⟩ := F
  intro H locs ls hl hw
  obtain ⟨hK, hP, hD, hS, hT, hSt⟩ := id hw
  exact va_get (D := yD Y) (ci := ci) (v := .long (gL μ a j)) (C := Cn) (T := T) (N := N) C.1.1 C.1.2.1 C.1.2.2.2.2 f2 C.1.2.2.2.1 hK hP a (by rw [wl_at ha, cell_obj hk f5]) f1 j f3 (C.1.2.2.2.2 _ f6) (fun x h => by rw [f7] at h; exact h) (by rw [fkv_at (by omega), if_neg (n10 h0), if_pos h0]) hd (k H locs ls hl hw)
/-- a fixed reference -/
theorem j_gS {b : Nat} (C : CxG X Y A cc nL ret own Rm) (F : FL own idx ci j fin ty) (hk : ykd Y a = ci) (ha : a < yn Y) (h0 : (fks ci).getD j 0 = 2) (hm : ymd Y = true) (hs : stt ci j = true) (hb : ysr Y a j = b) (hd : DC cc pc (.getfield idx) 3 pc') (k : G X Y A Q cells slots nL pc' lv (.ref (yad Y b) :: st) μ) : G X Y A Q cells slots nL pc lv (.ref (yad Y a) :: st) μ := by
  obtain ⟨hd, rfl⟩ := hd
  obtain ⟨Cn, T, N, ty0, f1, f2, f3, f4, f5, f6, f7, f8, f9, f10, f11⟩ := F
  intro H locs ls hl hw
  obtain ⟨hK, hP, hD, hS, hT, hSt⟩ := id hw
  have hr := hSt hm a j ha (by rw [hk]; exact hs) (fun h => absurd h (by omega))
  exact va_get (D := yD Y) (ci := ci) (v := .ref (yad Y b)) (C := Cn) (T := T) (N := N) C.1.1 C.1.2.1 C.1.2.2.2.2 f2 C.1.2.2.2.1 hK hP a (by rw [wl_at ha, cell_obj hk f5]) f1 j f3 (C.1.2.2.2.2 _ f6) (fun x h => by rw [f7] at h; exact h) (by rw [fkv_at (by omega), if_neg (n20 h0), if_neg (n21 h0), hr, hb]; rfl) hd (k H locs ls hl hw)
/-- a reference that may change -/
theorem j_gR {β : Type} {r : β} {f : Option Nat → Option β} (C : CxG X Y A cc nL ret own Rm) (F : FL own idx ci j fin ty) (hk : ykd Y a = ci) (ha : a < yn Y) (h0 : (fks ci).getD j 0 = 2) (hd : DC cc pc (.getfield idx) 3 pc') (hf : nm (gR μ a j) f = some r) (k : ∀ o : Option Nat, (∀ b, o = some b → b < yn Y ∧ ykd Y b = tgt ci j) → f o = some r → G X Y A Q cells slots nL pc' lv (va_rf (o.map (yad Y)) :: st) μ) : G X Y A Q cells slots nL pc lv (.ref (yad Y a) :: st) μ := by
  obtain ⟨hd, rfl⟩ := hd
  obtain ⟨Cn, T, N, ty0, f1, f2, f3, f4, f5, f6, f7, f8, f9, f10, f11⟩ := F
  intro H locs ls hl hw
  obtain ⟨hK, hP, hD, hS, hT, hSt⟩ := id hw
  exact va_get (D := yD Y) (ci := ci) (v := va_rf ((gR μ a j).map (yad Y))) (C := Cn) (T := T) (N := N) C.1.1 C.1.2.1 C.1.2.2.2.2 f2 C.1.2.2.2.1 hK hP a (by rw [wl_at ha, cell_obj hk f5]) f1 j f3 (C.1.2.2.2.2 _ f6) (fun x h => by rw [f7] at h; exact h) (by rw [fkv_at (by omega), if_neg (n20 h0), if_neg (n21 h0)]) hd (k _ (fun b hb => by have := hT a j b ha hb; rw [hk] at this; exact this) hf H locs ls hl hw)
theorem j_pI {β : Type} {r : β} {f : Mem → Option β} {v : Int32} (C : CxG X Y A cc nL ret own Rm) (F : FL own idx ci j false ty) (hk : ykd Y a = ci) (ha : a < yn Y) (h0 : (fks ci).getD j 0 = 0) (hn : narrow ty (.int v) = .int v) (hfit : fits ty (.int v) = true) (hd : DC cc pc (.putfield idx) 3 pc') (hf : nm (sI μ a j v) f = some r) (k : ∀ μ1, f μ1 = some r → G X Y A Q cells slots nL pc' lv st μ1) : G X Y A Q cells slots nL pc lv (.int v :: .ref (yad Y a) :: st) μ := by
  obtain ⟨hd, rfl⟩ := hd
  obtain ⟨Cn, T, N, ty0, f1, f2, f3, f4, f5, f6, f7, f8, f9, f10, f11⟩ := F
  intro H locs ls hl hw
  obtain ⟨hK, hP, hD, hS, hT, hSt⟩ := id hw
  have hset : (wl Y μ).set a (yad Y a, .inr (ci, (fkv (yad Y) μ a (fks ci)).set j (.int v))) = wl Y (sI μ a j v) := by
    refine wl_set ?_ (fun b hb => cell_same (fun i => ne_sI hb) (fun _ => rfl) (fun _ => rfl))
    rw [cell_obj hk f5, fkv_set (μ := μ) (μ' := sI μ a j v) (by rw [if_pos h0, gI_sI, if_pos rfl, if_pos rfl]) (fun i hi => by rw [gI_sI, if_pos rfl, if_neg hi]) (fun _ _ => rfl) (fun _ _ => rfl)]
  refine va_put (D := yD Y) (ci := ci) (v := .int v) (ty := ty) (C := Cn) (T := T) (N := N) C.1.1 C.1.2.1 C.1.2.2.2.2 f2 ty0 f9 f10 C.1.2.2.2.1 hK hP hD hS a (by rw [wl_at ha, cell_obj hk f5]) f1 j f3 (C.1.2.2.2.2 _ f6) (fun x h => by rw [f7] at h; exact h) f8 (by rw [f9 j f3, f11]) hn hfit (by rw [fkv_len]; omega) hd (fun H1 locs1 hP1 hD1 hS1 => ?_)
  rw [hset] at hP1 hD1
  exact k _ hf H1 locs1 ls hl ⟨hK, hP1, hD1, hS1, hT, hSt⟩
theorem j_pL {β : Type} {r : β} {f : Mem → Option β} {v : Int64} (C : CxG X Y A cc nL ret own Rm) (F : FL own idx ci j false ty) (hk : ykd Y a = ci) (ha : a < yn Y) (h0 : (fks ci).getD j 0 = 1) (hn : narrow ty (.long v) = .long v) (hfit : fits ty (.long v) = true) (hd : DC cc pc (.putfield idx) 3 pc') (hf : nm (sL μ a j v) f = some r) (k : ∀ μ1, f μ1 = some r → G X Y A Q cells slots nL pc' lv st μ1) : G X Y A Q cells slots nL pc lv (.long v :: .ref (yad Y a) :: st) μ := by
  obtain ⟨hd, rfl⟩ := hd
  obtain ⟨Cn, T, N, ty0, f1, f2, f3, f4, f5, f6, f7, f8, f9, f10, f11⟩ := F
  intro H locs ls hl hw
  obtain ⟨hK, hP, hD, hS, hT, hSt⟩ := id hw
  have hset : (wl Y μ).set a (yad Y a, .inr (ci, (fkv (yad Y) μ a (fks ci)).set j (.long v))) = wl Y (sL μ a j v) := by
    refine wl_set ?_ (fun b hb => cell_same (fun _ => rfl) (fun i => ne_sL hb) (fun _ => rfl))
    rw [cell_obj hk f5, fkv_set (μ := μ) (μ' := sL μ a j v) (by rw [if_neg (n10 h0), if_pos h0, gL_sL, if_pos rfl, if_pos rfl]) (fun _ _ => rfl) (fun i hi => by rw [gL_sL, if_pos rfl, if_neg hi]) (fun _ _ => rfl)]
  refine va_put (D := yD Y) (ci := ci) (v := .long v) (ty := ty) (C := Cn) (T := T) (N := N) C.1.1 C.1.2.1 C.1.2.2.2.2 f2 ty0 f9 f10 C.1.2.2.2.1 hK hP hD hS a (by rw [wl_at ha, cell_obj hk f5]) f1 j f3 (C.1.2.2.2.2 _ f6) (fun x h => by rw [f7] at h; exact h) f8 (by rw [f9 j f3, f11]) hn hfit (by rw [fkv_len]; omega) hd (fun H1 locs1 hP1 hD1 hS1 => ?_)
  rw [hset] at hP1 hD1
  exact k _ hf H1 locs1 ls hl ⟨hK, hP1, hD1, hS1, hT, hSt⟩
theorem sR_WT {b : Option Nat} (ha : a < yn Y) (hk : ykd Y a = ci) (hb : ∀ q, b = some q → q < yn Y ∧ ykd Y q = tgt ci j) (hT : WT Y μ) : WT Y (sR μ a j b) := by
  intro a' j' b' h1 h2
  rw [gR_sR] at h2
  by_cases e : a' = a
  · subst e
    rw [if_pos rfl] at h2
    by_cases e2 : j' = j
    · subst e2
      rw [if_pos rfl] at h2
      rw [hk]; exact hb b' h2
    · rw [if_neg e2] at h2; exact hT a' j' b' h1 h2
  · rw [if_neg e] at h2; exact hT a' j' b' h1 h2
theorem sR_St {b : Option Nat} (hk : ykd Y a = ci) (hs : stt ci j = false) (hSt : St Y μ) : St Y (sR μ a j b) := by
  intro hm a' j' h1 h2 h3
  rw [gR_sR]
  by_cases e : a' = a
  · subst e
    rw [if_pos rfl]
    by_cases e2 : j' = j
    · subst e2
      rw [hk, hs] at h2; cases h2
    · rw [if_neg e2]; exact hSt hm a' j' h1 h2 h3
  · rw [if_neg e]; exact hSt hm a' j' h1 h2 h3
theorem j_pR {β : Type} {r : β} {f : Mem → Option β} {b : Option Nat} (C : CxG X Y A cc nL ret own Rm) (F : FL own idx ci j false ty) (hk : ykd Y a = ci) (ha : a < yn Y) (h0 : (fks ci).getD j 0 = 2) (hs : stt ci j = false) (hb : ∀ q, b = some q → q < yn Y ∧ ykd Y q = tgt ci j) (hn : ∀ o : Option Nat, narrow ty (va_rf o) = va_rf o) (hfit : ∀ o : Option Nat, fits ty (va_rf o) = true) (hd : DC cc pc (.putfield idx) 3 pc') (hf : nm (sR μ a j b) f = some r) (k : ∀ μ1, f μ1 = some r → G X Y A Q cells slots nL pc' lv st μ1) : G X Y A Q cells slots nL pc lv (va_rf (b.map (yad Y)) :: .ref (yad Y a) :: st) μ := by
  obtain ⟨hd, rfl⟩ := hd
  obtain ⟨Cn, T, N, ty0, f1, f2, f3, f4, f5, f6, f7, f8, f9, f10, f11⟩ := F
  intro H locs ls hl hw
  obtain ⟨hK, hP, hD, hS, hT, hSt⟩ := id hw
  have hset : (wl Y μ).set a (yad Y a, .inr (ci, (fkv (yad Y) μ a (fks ci)).set j (va_rf (b.map (yad Y))))) = wl Y (sR μ a j b) := by
    refine wl_set ?_ (fun b hb => cell_same (fun _ => rfl) (fun _ => rfl) (fun i => ne_sR hb))
    rw [cell_obj hk f5, fkv_set (μ := μ) (μ' := sR μ a j b) (by rw [if_neg (n20 h0), if_neg (n21 h0), gR_sR, if_pos rfl, if_pos rfl]) (fun _ _ => rfl) (fun _ _ => rfl) (fun i hi => by rw [gR_sR, if_pos rfl, if_neg hi])]
  refine va_put (D := yD Y) (ci := ci) (v := va_rf (b.map (yad Y))) (ty := ty) (C := Cn) (T := T) (N := N) C.1.1 C.1.2.1 C.1.2.2.2.2 f2 ty0 f9 f10 C.1.2.2.2.1 hK hP hD hS a (by rw [wl_at ha, cell_obj hk f5]) f1 j f3 (C.1.2.2.2.2 _ f6) (fun x h => by rw [f7] at h; exact h) f8 (by rw [f9 j f3, f11]) (hn _) (hfit _) (by rw [fkv_len]; omega) hd (fun H1 locs1 hP1 hD1 hS1 => ?_)
  rw [hset] at hP1 hD1
  exact k _ hf H1 locs1 ls hl ⟨hK, hP1, hD1, hS1, sR_WT ha hk hb hT, sR_St hk hs hSt⟩
theorem j_iald {n : Nat} {i : Int32} (C : CxG X Y A cc nL ret own Rm) (hk : ykd Y a = 11) (ha : a < yn Y) (hln : yln Y a = n) (hi : ib i n = true) (hd : DC cc pc .iaload 1 pc') (k : G X Y A Q cells slots nL pc' lv (.int (gI μ a (ix i)) :: st) μ) : G X Y A Q cells slots nL pc lv (.int i :: .ref (yad Y a) :: st) μ := by
  obtain ⟨hd, rfl⟩ := hd
  intro H locs ls hl hw
  obtain ⟨hK, hP, hD, hS, hT, hSt⟩ := id hw
  exact va_iald C.1.1 C.1.2.1 hK hP a 0 (by rw [wl_at ha, cell_int hk, hln]) rfl (ib_in hi) hd (k H locs ls hl hw)
theorem j_lald {n : Nat} {i : Int32} (C : CxG X Y A cc nL ret own Rm) (hk : ykd Y a = 12) (ha : a < yn Y) (hln : yln Y a = n) (hi : ib i n = true) (hd : DC cc pc .laload 1 pc') (k : G X Y A Q cells slots nL pc' lv (.long (gL μ a (ix i)) :: st) μ) : G X Y A Q cells slots nL pc lv (.int i :: .ref (yad Y a) :: st) μ := by
  obtain ⟨hd, rfl⟩ := hd
  intro H locs ls hl hw
  obtain ⟨hK, hP, hD, hS, hT, hSt⟩ := id hw
  exact va_lald C.1.1 C.1.2.1 hK hP a 1 (by rw [wl_at ha, cell_long hk, hln]) rfl (ib_in hi) hd (k H locs ls hl hw)
theorem j_iast {β : Type} {r : β} {f : Mem → Option β} {n : Nat} {i v : Int32} (C : CxG X Y A cc nL ret own Rm) (hk : ykd Y a = 11) (ha : a < yn Y) (hln : yln Y a = n) (hi : ib i n = true) (hd : DC cc pc .iastore 1 pc') (hf : nm (sI μ a (ix i) v) f = some r) (k : ∀ μ1, f μ1 = some r → G X Y A Q cells slots nL pc' lv st μ1) : G X Y A Q cells slots nL pc lv (.int v :: .int i :: .ref (yad Y a) :: st) μ := by
  obtain ⟨hd, rfl⟩ := hd
  intro H locs ls hl hw
  obtain ⟨hK, hP, hD, hS, hT, hSt⟩ := id hw
  have hset : (wl Y μ).set a (yad Y a, .inl (ycy Y 0, n, .inl (upd (gI μ a) (ix i) v))) = wl Y (sI μ a (ix i) v) := by
    refine wl_set ?_ (fun b hb => cell_same (fun i => ne_sI hb) (fun _ => rfl) (fun _ => rfl))
    rw [cell_int hk, hln]
    have : gI (sI μ a (ix i) v) a = upd (gI μ a) (ix i) v := funext fun q => by rw [gI_sI, if_pos rfl]; rfl
    rw [this]
  refine va_iast C.1.1 C.1.2.1 hK hP hD hS a 0 (by rw [wl_at ha, cell_int hk, hln]) rfl (ib_in hi) hd (fun H1 locs1 hP1 hD1 hS1 => ?_)
  rw [show i.toNatClampNeg = ix i from rfl, hset] at hP1 hD1
  exact k _ hf H1 locs1 ls hl ⟨hK, hP1, hD1, hS1, hT, hSt⟩
theorem j_last {β : Type} {r : β} {f : Mem → Option β} {n : Nat} {i : Int32} {v : Int64} (C : CxG X Y A cc nL ret own Rm) (hk : ykd Y a = 12) (ha : a < yn Y) (hln : yln Y a = n) (hi : ib i n = true) (hd : DC cc pc .lastore 1 pc') (hf : nm (sL μ a (ix i) v) f = some r) (k : ∀ μ1, f μ1 = some r → G X Y A Q cells slots nL pc' lv st μ1) : G X Y A Q cells slots nL pc lv (.long v :: .int i :: .ref (yad Y a) :: st) μ := by
  obtain ⟨hd, rfl⟩ := hd
  intro H locs ls hl hw
  obtain ⟨hK, hP, hD, hS, hT, hSt⟩ := id hw
  have hset : (wl Y μ).set a (yad Y a, .inl (ycy Y 1, n, .inr (.inl (vp_updL (gL μ a) (ix i) v)))) = wl Y (sL μ a (ix i) v) := by
    refine wl_set ?_ (fun b hb => cell_same (fun _ => rfl) (fun i => ne_sL hb) (fun _ => rfl))
    rw [cell_long hk, hln]
    have : gL (sL μ a (ix i) v) a = vp_updL (gL μ a) (ix i) v := funext fun q => by rw [gL_sL, if_pos rfl]; rfl
    rw [this]
  refine va_last C.1.1 C.1.2.1 hK hP hD hS a 1 (by rw [wl_at ha, cell_long hk, hln]) rfl (ib_in hi) hd (fun H1 locs1 hP1 hD1 hS1 => ?_)
  rw [show i.toNatClampNeg = ix i from rfl, hset] at hP1 hD1
  exact k _ hf H1 locs1 ls hl ⟨hK, hP1, hD1, hS1, hT, hSt⟩
theorem aald {H : Heap} {locs : List Loc} {ls : Array Slot} {n q : Nat} {i : Int32} (C : CxG X Y A cc nL ret own Rm) (hk : ykd Y a = q) (hq : 12 < q) (hty : (tysOf (ycy Y))[q - 11]? = some (ycy Y (q - 11), ty)) (hre : ty.isReference = true) (ha : a < yn Y) (hln : yln Y a = n) (hi : ib i n = true) (hd : decode cc pc = .ok (.aaload, 1)) (hw : Wd (xs X) Y A μ H locs) (kk : W (xp X) (xl X) (xe X) (xR X) (xs X) (xm X) (xa X) (xb X) (xt X) (xc X) H locs cells slots Q (F0 (xm X) (pc + 1) ls (va_rf ((gR μ a (ix i)).map (yad Y)) :: st))) : W (xp X) (xl X) (xe X) (xR X) (xs X) (xm X) (xa X) (xb X) (xt X) (xc X) H locs cells slots Q (F0 (xm X) pc ls (.int i :: .ref (yad Y a) :: st)) := by
  obtain ⟨hK, hP, hD, hS, hT, hSt⟩ := hw
  have hlt : i.toNatClampNeg < n := Nat.not_le.mp fun q => ib_in hi (Or.inr q)
  have hc : (wl Y μ)[a]? = some (yad Y a, .inl (ycy Y (q - 11), n, .inr (.inr (.inr (.inr (fun i => (gR μ a i).map (yad Y))))))) := by rw [wl_at ha, cell_ref hk hq, hln]
  exact W.aald (v := va_rf ((gR μ a (ix i)).map (yad Y))) (ty := ty) C.1.1 C.1.2.1 (hP a _ hc) ((hK.2 _ _ hty).1 n (fun j => va_rf ((gR μ a j).map (yad Y)))) hre (fun q => by cases q) (by show ¬ (i < 0 ∨ (arrV _ _ _).slots.size ≤ _); rw [arrV_size]; exact ib_in hi) (by show (arrV _ _ _).slots[_]? = _; rw [arrV_read _ _ hlt]; rfl) rfl rfl hd kk
theorem j_aldS {n q b : Nat} {i : Int32} (C : CxG X Y A cc nL ret own Rm) (hk : ykd Y a = q) (hq : 12 < q) (hty : (tysOf (ycy Y))[q - 11]? = some (ycy Y (q - 11), ty)) (hre : ty.isReference = true) (ha : a < yn Y) (hln : yln Y a = n) (hi : ib i n = true) (hm : ymd Y = true) (hs : stt q (ix i) = true) (hb : ysr Y a (ix i) = b) (hd : DC cc pc .aaload 1 pc') (k : G X Y A Q cells slots nL pc' lv (.ref (yad Y b) :: st) μ) : G X Y A Q cells slots nL pc lv (.int i :: .ref (yad Y a) :: st) μ := by
  obtain ⟨hd, rfl⟩ := hd
  intro H locs ls hl hw
  refine aald C hk hq hty hre ha hln hi hd hw ?_
  have hlt : ix i < n := Nat.not_le.mp fun q => ib_in hi (Or.inr q)
  have hr := hw.2.2.2.2.2 hm a (ix i) ha (by rw [hk]; exact hs) (fun _ => by rw [hln]; exact hlt)
  rw [hr, hb]
  exact k H locs ls hl hw
theorem j_aldD {β : Type} {r : β} {f : Option Nat → Option β} {n q : Nat} {i : Int32} (C : CxG X Y A cc nL ret own Rm) (hk : ykd Y a = q) (hq : 12 < q) (hty : (tysOf (ycy Y))[q - 11]? = some (ycy Y (q - 11), ty)) (hre : ty.isReference = true) (ha : a < yn Y) (hln : yln Y a = n) (hi : ib i n = true) (hd : DC cc pc .aaload 1 pc') (hf : nm (gR μ a (ix i)) f = some r) (k : ∀ o : Option Nat, (∀ b, o = some b → b < yn Y ∧ ykd Y b = tgt q (ix i)) → f o = some r → G X Y A Q cells slots nL pc' lv (va_rf (o.map (yad Y)) :: st) μ) : G X Y A Q cells slots nL pc lv (.int i :: .ref (yad Y a) :: st) μ := by
  obtain ⟨hd, rfl⟩ := hd
  intro H locs ls hl hw
  refine aald C hk hq hty hre ha hln hi hd hw ?_
  exact k _ (fun b hb => by have := hw.2.2.2.2.1 a (ix i) b ha hb; rw [hk] at this; exact this) hf H locs ls hl hw
theorem j_alen {n : Nat} (C : CxG X Y A cc nL ret own Rm) (hk : ykd Y a = 11) (ha : a < yn Y) (hln : yln Y a = n) (hd : DC cc pc .arraylength 1 pc') (k : G X Y A Q cells slots nL pc' lv (.int (Int32.ofNat n) :: st) μ) : G X Y A Q cells slots nL pc lv (.ref (yad Y a) :: st) μ := by
  obtain ⟨hd, rfl⟩ := hd
  intro H locs ls hl hw
  obtain ⟨hK, hP, hD, hS, hT, hSt⟩ := id hw
  exact va_alen C.1.1 C.1.2.1 hK hP a 0 (by rw [wl_at ha, cell_int hk]) rfl (by rw [← hln]) hd (k H locs ls hl hw)
theorem j_gets {i : Nat} {r : String × String × String × FieldType × List Int32} (C : CxG X Y A cc nL ret own Rm) (hr : sts[i]? = some r) (hlk : Cond.fieldLink own idx r.1 r.2.1 r.2.2.1 ∈ TT) (hd : DC cc pc (.getstatic idx) 3 pc') (k : G X Y A Q cells slots nL pc' lv (.ref (ytS Y i) :: st) μ) : G X Y A Q cells slots nL pc lv st μ := by
  obtain ⟨hd, rfl⟩ := hd
  intro H locs ls hl hw
  obtain ⟨hK, hP, hD, hS, hT, hSt⟩ := id hw
  exact va_gets C.1.1 C.1.2.1 (C.2.2.2.1 i r hr).1 hS C.1.2.2.2.1 (C.1.2.2.2.2 _ hlk) (fun x h => h) hd (k H locs ls hl hw)
theorem j_tI {t : Nat} {i : Int32} {r : String × String × String × FieldType × List Int32} (C : CxG X Y A cc nL ret own Rm) (hr : sts[t]? = some r) (hty : r.2.2.2.1 = .int) (hi : ib i r.2.2.2.2.length = true) (hd : DC cc pc .iaload 1 pc') (k : G X Y A Q cells slots nL pc' lv (.int (r.2.2.2.2.getD (ix i) 0) :: st) μ) : G X Y A Q cells slots nL pc lv (.int i :: .ref (ytS Y t) :: st) μ := by
  obtain ⟨hd, rfl⟩ := hd
  intro H locs ls hl hw
  obtain ⟨hK, hP, hD, hS, hT, hSt⟩ := id hw
  have h2 := (C.2.2.2.1 t r hr).2.1
  rw [hty] at h2
  exact va_ti C.1.1 C.1.2.1 h2 hS (ib_in hi) rfl hd (k H locs ls hl hw)
theorem j_tC {t : Nat} {i : Int32} {r : String × String × String × FieldType × List Int32} (C : CxG X Y A cc nL ret own Rm) (hr : sts[t]? = some r) (hty : r.2.2.2.1 = .char) (hi : ib i r.2.2.2.2.length = true) (hd : DC cc pc .caload 1 pc') (k : G X Y A Q cells slots nL pc' lv (.int (r.2.2.2.2.getD (ix i) 0) :: st) μ) : G X Y A Q cells slots nL pc lv (.int i :: .ref (ytS Y t) :: st) μ := by
  obtain ⟨hd, rfl⟩ := hd
  intro H locs ls hl hw
  obtain ⟨hK, hP, hD, hS, hT, hSt⟩ := id hw
  have h2 := (C.2.2.2.1 t r hr).2.1
  rw [hty] at h2
  exact va_tc C.1.1 C.1.2.1 h2 hS (ib_in hi) rfl hd (k H locs ls hl hw)
-- ends
theorem j_iret {v : Int32} (C : Cx X Y cc nL (some .int) own d) (hd : decode cc pc = .ok (.ireturn, 1)) : J X Y (some (.int v)) μ nL pc lv [.int v] μ := by
  intro H locs ls hl hw
  exact W.iret C.1.1 C.1.2.1 C.2.1 (fun t ht hW => ⟨rfl, hw.ws C.2.2.2.1 ht hW.alike, hw.2.2.2.1.F ht⟩) hw.2.2.2.1.2.2 hd C.2.2.1
theorem j_zret {v : Int32} (C : Cx X Y cc nL (some .boolean) own d) (hv : v = 0 ∨ v = 1) (hd : decode cc pc = .ok (.ireturn, 1)) : J X Y (some (.int v)) μ nL pc lv [.int v] μ := by
  intro H locs ls hl hw
  exact W.zret C.1.1 C.1.2.1 C.2.1 (by rcases hv with rfl | rfl <;> decide) (fun t ht hW => ⟨rfl, hw.ws C.2.2.2.1 ht hW.alike, hw.2.2.2.1.F ht⟩) hw.2.2.2.1.2.2 hd C.2.2.1
theorem j_lret {v : Int64} (C : Cx X Y cc nL (some .long) own d) (hd : decode cc pc = .ok (.lreturn, 1)) : J X Y (some (.long v)) μ nL pc lv [.long v] μ := by
  intro H locs ls hl hw
  exact W.lret C.1.1 C.1.2.1 C.2.1 (fun t ht hW => ⟨rfl, hw.ws C.2.2.2.1 ht hW.alike, hw.2.2.2.1.F ht⟩) hw.2.2.2.1.2.2 hd C.2.2.1
theorem j_vret (C : Cx X Y cc nL none own d) (hd : decode cc pc = .ok (.return_, 1)) : J X Y none μ nL pc lv [] μ := by
  intro H locs ls hl hw
  exact W.vret C.1.1 C.1.2.1 C.2.1 (fun t ht hW => ⟨rfl, hw.ws C.2.2.2.1 ht hW.alike, hw.2.2.2.1.F ht⟩) hw.2.2.2.1.2.2 hd C.2.2.1
theorem j_aret {v : Option Nat} {cn : String} (C : Cx X Y cc nL (some (.object cn)) own d) (hd : decode cc pc = .ok (.areturn, 1)) : J X Y (some (va_rf v)) μ nL pc lv [va_rf v] μ := by
  intro H locs ls hl hw
  exact W.aret C.1.1 C.1.2.1 C.2.1 (Or.inl ⟨_, rfl⟩) (va_rf_or v) (fun t ht hW => ⟨rfl, hw.ws C.2.2.2.1 ht hW.alike, hw.2.2.2.1.F ht⟩) hw.2.2.2.1.2.2 hd C.2.2.1
-- calls
def LV (own : String) (idx : Nat) (y : MethodName) (bytes : ByteArray) (maxL : Nat) (ret1 : Option FieldType) (n : Nat) : Prop :=
  Cond.methodLink own idx y ∈ TT ∧ Cond.instanceMethod y ∈ TT ∧ Cond.selects y.cls y y ∈ TT ∧ Cond.initialized y.cls ∈ TT ∧ Cond.code y bytes maxL ret1 ∈ TT ∧ (y.cls ≠ "java/lang/invoke/MethodHandle" ∧ y.cls ≠ "java/lang/invoke/VarHandle" ∧ (parseMethodDescriptor y.desc).map (fun d => d.parameters.length) = some n) ∧ maxL ≤ 45
def LSt (own : String) (idx : Nat) (y : MethodName) (bytes : ByteArray) (maxL : Nat) (ret1 : Option FieldType) (n : Nat) : Prop :=
  Cond.methodLink own idx y ∈ TT ∧ Cond.static y ∈ TT ∧ Cond.initialized y.cls ∈ TT ∧ Cond.code y bytes maxL ret1 ∈ TT ∧ (y.cls ≠ "java/lang/invoke/MethodHandle" ∧ y.cls ≠ "java/lang/invoke/VarHandle" ∧ (parseMethodDescriptor y.desc).map (fun d => d.parameters.length) = some n) ∧ maxL ≤ 45
theorem run_on {H : Heap} {locs : List Loc} {ls : Array Slot} {st0 rest : List Value} {Q : State → Prop} {rv1 : Option Value} {μ1 : Mem} {as : Array Value} (hr : va_Run (xp X) (xl X) (xe X) (xR X) (xs X) (xm X) (xa X) (xb X) (xt X) (xc X) H locs 0 0 0 0 (F0 (xm X) pc ls st0) rest (Qn Y rv1 μ1 as) (Aof Y)) (hw : Wd (xs X) Y (Aof Y) μ H locs)
    (k : ∀ H1 locs1, Wd (xs X) Y (Aof Y) μ1 H1 locs1 → W (xp X) (xl X) (xe X) (xR X) (xs X) (xm X) (xa X) (xb X) (xt X) (xc X) H1 locs1 0 0 Q (F0 (xm X) (pc + 3) ls (rv1.toList ++ rest))) : W (xp X) (xl X) (xe X) (xR X) (xs X) (xm X) (xa X) (xb X) (xt X) (xc X) H locs 0 0 Q (F0 (xm X) pc ls st0) := by
  obtain ⟨hK, hP, hD, hS, hT, hSt⟩ := hw
  intro T hT0 X0
  obtain ⟨v, st₀, t, T', L, h0, X', hL, e1, e2, ⟨hv, hB, hz, hk⟩, hst⟩ := hr T hT0 X0
  cases hv
  rw [h0] at hz hk
  obtain ⟨gK, gP, gD, gT, gSt, gO⟩ := hB
  have hal : (xs X).vm.Alike t.vm := by rw [← e2]; exact X'.warmed.alike
  obtain ⟨t2, a1, b1⟩ := k t.heap (locs ++ L) ⟨va_K.moved hal.symm gK, gP, wl_D (fun _ _ h => h) hD,
    ⟨Nat.le_trans hS.1 hz, fun q h1 h2 => by rw [hk q (Nat.lt_of_lt_of_le h1 hS.1) h2]; exact hS.2.1 q h1 h2, fun q hq => by
      rcases List.mem_append.mp hq with h | h
      · exact hS.2.2 q h
      · exact hL q h⟩, gT, gSt⟩ T' e1 X'
  exact ⟨t2, hst t2 a1, b1⟩
theorem j_cV {y : MethodName} {bytes : ByteArray} {maxL n d1 : Nat} {ret1 : Option FieldType} {As rest : List Value} {rv1 : Option Value} {μ1 : Mem} {q : vw_C} (C : Cx X Y cc nL ret own d) (L : LV own idx y bytes maxL ret1 n) (hM : Ct (xl X) Y y bytes maxL ret1 d1 (.ref (yad Y a) :: As) rv1 μ μ1) (hn : As.length = n) (hk : ykd Y a = ci) (ha : a < yn Y) (hci : ci < 11) (hq : vwCl[ci]? = some q) (hqy : q.1 = y.cls) (hdd : d1 + 1 ≤ d) (hst : st = As.reverse ++ .ref (yad Y a) :: rest) (hcat : (rest.map fun v => v.category).sum ≤ 8) (hd : DC cc pc (.invokevirtual idx) 3 pc') (k : J X Y rv μ' nL pc' lv (rv1.toList ++ rest) μ1) : J X Y rv μ' nL pc lv st μ := by
  obtain ⟨hd, rfl⟩ := hd
  obtain ⟨l1, l2, l3, l4, l5, l6, l7⟩ := L
  subst hst
  intro H locs ls hl hw
  have hts := C.1.2.2.2.2
  have hR : (rmN d1).frames + 1 ≤ (xR X).frames ∧ 8 + (maxL + 11) + (rmN d1).locals ≤ (xR X).locals := by
    rw [C.2.2.2.2]; unfold rmN; simp only; omega
  refine run_on (va_runV (C := q.1) (As := As) (rest := rest) C.1 hM ⟨callB_of n hts (good_ws l5) rfl rfl rfl (hts _ l4) (hts _ l1) l6 hR, hts _ l2, by rw [hqy]; exact hts _ l3⟩ ⟨fun a U g mk h => ⟨h.1, h.2.blind g mk a⟩, va_recv hw.1 hw.2.1 (ci := ci) (q0 := a) hq (by rw [wl_at ha, cell_obj hk hci]), fun U hU hW => ⟨rfl, hw.ws C.2.2.2.1 hU hW.alike⟩⟩ rfl hn hl.1 rfl (lv_room hcat) hd ⟨by rw [C.2.2.2.2]; exact Nat.le_refl 0, by rw [C.2.2.2.2]; exact Nat.le_refl 0⟩) hw ?_
  exact fun H1 locs1 hw1 => k H1 locs1 ls hl hw1
theorem j_cS {y : MethodName} {bytes : ByteArray} {maxL n d1 : Nat} {ret1 : Option FieldType} {As rest : List Value} {rv1 : Option Value} {μ1 : Mem} (C : Cx X Y cc nL ret own d) (L : LSt own idx y bytes maxL ret1 n) (hM : Ct (xl X) Y y bytes maxL ret1 d1 As rv1 μ μ1) (hn : As.length = n) (hdd : d1 + 1 ≤ d) (hst : st = As.reverse ++ rest) (hcat : (rest.map fun v => v.category).sum ≤ 8) (hd : DC cc pc (.invokestatic idx) 3 pc') (k : J X Y rv μ' nL pc' lv (rv1.toList ++ rest) μ1) : J X Y rv μ' nL pc lv st μ := by
  obtain ⟨hd, rfl⟩ := hd
  obtain ⟨l1, l2, l4, l5, l6, l7⟩ := L
  subst hst
  intro H locs ls hl hw
  have hts := C.1.2.2.2.2
  have hR : (rmN d1).frames + 1 ≤ (xR X).frames ∧ 8 + (maxL + 11) + (rmN d1).locals ≤ (xR X).locals := by
    rw [C.2.2.2.2]; unfold rmN; simp only; omega
  refine run_on (va_runS (As := As) (rest := rest) C.1 hM ⟨callB_of n hts (good_ws l5) rfl rfl rfl (hts _ l4) (hts _ l1) l6 hR, hts _ l2⟩ ⟨fun a U g mk h => ⟨h.1, h.2.blind g mk a⟩, fun U hU hW => ⟨rfl, hw.ws C.2.2.2.1 hU hW.alike⟩⟩ rfl hn hl.1 rfl (lv_room hcat) hd ⟨by rw [C.2.2.2.2]; exact Nat.le_refl 0, by rw [C.2.2.2.2]; exact Nat.le_refl 0⟩) hw ?_
  exact fun H1 locs1 hw1 => k H1 locs1 ls hl hw1
end MROWS
/-- a method's contract out of its walk -/
theorem ct_of {l : Launch} {Y : Lay} {y : MethodName} {cc : ByteArray} {nL : Nat} {ret : Option FieldType} {d : Nat} {as : List Value} {rv : Option Value} {μ μ' : Mem} {lv : List (Nat × Value)} {own : String} (hy : plainFor y = true) (hown : y.cls = own) (hle : (lg_sl as).length ≤ nL) (hlv : lv_args 0 as = lv)
    (body : ∀ X : Ctx, xl X = l → Cx X Y cc nL ret own d → J X Y rv μ' nL 0 lv [] μ) : Ct l Y y cc nL ret d as rv μ μ' := by
  refine va_MetF (cc := cc) (maxL := nL) (ret := ret) hy rfl ?_
  intro p e s m args below meth c s₁ B hml hv
  obtain ⟨rfl, hW⟩ := hv
  have hts := atoms_spec (ws := (Cond.code y cc nL ret :: TT)) B.pre
  have hl := lv_entry as (n := nL) hle
  rw [lg_entry_eq]
  have hown' : s.vm.findClass own = some m.cls := by rw [← hown]; exact findClass_of_methodNamed B.named
  have hb := body (p, l, e, rmN d, s, m, as.toArray, below, meth, c) rfl ⟨⟨B.exec, B.bytes, hml, hown', fun w hw => hts w (List.mem_cons_of_mem _ hw)⟩, B.returns, B.notSynchronized, hW.2.2.2.2.2, rfl⟩
  rw [hlv] at hl
  exact hb s.heap [] _ hl hW.wd

/-! The law: two worlds beside each other. -/
abbrev AL (s : State) : Nat → Prop := fun q => s.heap.size ≤ q
def L2 (s : State) (Y1 Y2 : Lay) (μ1 μ2 : Mem) (H : Heap) (locs : List Loc) : Prop := Wd s Y1 (AL s) μ1 H locs ∧ Wd s Y2 (AL s) μ2 H locs ∧ ∀ a b, a < yn Y1 → b < yn Y2 → yad Y1 a ≠ yad Y2 b
theorem wl_lt {Y : Lay} {μ : Mem} {D : va_G} {H : Heap} {a : Nat} (hP : va_P D vwCl (wl Y μ) H) (h : a < yn Y) : yad Y a < H.size := (hP a _ (wl_at h)).lt
theorem wl_kept {Y : Lay} {μ : Mem} {D : va_G} {H H1 : Heap} (hP : va_P D vwCl (wl Y μ) H) (hk : ∀ a, a < yn Y → H1[yad Y a]? = H[yad Y a]?) : va_P D vwCl (wl Y μ) H1 := by
  intro k q hq
  obtain ⟨h1, h2⟩ := wl_addr hq
  exact (hP k q hq).kept (by rw [h2]; exact hk k h1)
theorem SOK.sub {Y : Lay} {A B : Nat → Prop} {s : State} (h : SOK Y A s) (hs : ∀ q, B q → A q) : SOK Y B s := by
  intro k r hr
  obtain ⟨h1, h2, h3⟩ := h k r hr
  exact ⟨h1.narrow hs, h2.narrow hs, h3⟩
theorem Wd.sub {s : State} {Y : Lay} {A : Nat → Prop} {μ : Mem} {H : Heap} {locs : List Loc} (hw : Wd s Y A μ H locs) : ∀ q, Aof Y q → A q := by
  rintro q ⟨a, ha, rfl⟩
  exact hw.2.2.1.2 a _ (wl_at ha)
theorem Wd.wsA {Y : Lay} {A : Nat → Prop} {μ : Mem} {s t : State} {H : Heap} {locs : List Loc} (hw : Wd s Y A μ H locs) (hs : SOK Y A s) (ht : t.heap = H) (hv : s.vm.Alike t.vm) : WS Y μ t := by
  have hsub := hw.sub
  obtain ⟨hK, hP, hD, hS, hT, hSt⟩ := hw
  exact ⟨va_K.moved hv hK, by rw [ht]; exact hP, hD.weaken (fun _ _ _ _ => trivial), hT, hSt, (hs.moved hS ht hv).sub hsub⟩
section LAW
variable {p : Program} {l : Launch} {e : Env} {s : State} {m : MethodId} {args : Array Value} {below : List Frame} {meth : Method} {c : Code} {cc : ByteArray} {H : Heap} {locs : List Loc} {ls : Array Slot} {cells slots : Nat} {Q : State → Prop} {Y1 Y2 : Lay} {μ1 μ2 : Mem} {nL pc pc' idx : Nat} {st rest As : List Value} {own : String}
abbrev WL (p : Program) (l : Launch) (e : Env) (s : State) (m : MethodId) (args : Array Value) (below : List Frame) (meth : Method) (c : Code) (H : Heap) (locs : List Loc) (cells slots : Nat) (Q : State → Prop) (g : JFrame) : Prop := W p l e room_1 s m args below meth c H locs cells slots Q g
/-- behind a method that makes no cell, of one world -/
theorem l_after {Y Z : Lay} {μ ν μ' : Mem} {t : State} {H1 : Heap} {locs1 : List Loc} (hw : Wd s Y (AL s) μ H locs) (hz : Wd s Z (AL s) ν H locs) (hdis : ∀ a b, a < yn Y → b < yn Z → yad Y a ≠ yad Z b) (ht : t.heap = H1) (hal : s.vm.Alike t.vm) (hB : WS Y μ' t) (hsz : H.size ≤ H1.size) (hk : ∀ q : Nat, q < H.size → ¬ Aof Y q → H1[q]? = H[q]?) (hS1 : va_S (AL s) s.heap H1 locs1) : Wd s Y (AL s) μ' H1 locs1 ∧ Wd s Z (AL s) ν H1 locs1 := by
  obtain ⟨hK, hP, hD, hS, hT, hSt⟩ := hw
  obtain ⟨zK, zP, zD, zS, zT, zSt⟩ := hz
  obtain ⟨gK, gP, gD, gT, gSt, gO⟩ := hB
  refine ⟨⟨va_K.moved hal.symm gK, by rw [← ht]; exact gP, wl_D (fun _ _ h => h) hD, hS1, gT, gSt⟩, ⟨zK, wl_kept zP (fun b hb => hk _ (wl_lt zP hb) ?_), zD, hS1, zT, zSt⟩⟩
  rintro ⟨a, ha, e⟩
  exact hdis a b ha hb e
theorem l_run {Y Z : Lay} {μ ν μ' : Mem} {rv1 : Option Value} {as : Array Value} {st0 : List Value} (hr : va_Run p l e room_1 s m args below meth c H locs cells slots 0 0 (F0 m pc ls st0) rest (Qn Y rv1 μ' as) (Aof Y)) (hw : Wd s Y (AL s) μ H locs) (hz : Wd s Z (AL s) ν H locs) (hdis : ∀ a b, a < yn Y → b < yn Z → yad Y a ≠ yad Z b)
    (k : ∀ H1 locs1, Wd s Y (AL s) μ' H1 locs1 → Wd s Z (AL s) ν H1 locs1 → WL p l e s m args below meth c H1 locs1 cells slots Q (F0 m (pc + 3) ls (rv1.toList ++ rest))) : WL p l e s m args below meth c H locs cells slots Q (F0 m pc ls st0) := by
  have hsub := hw.sub
  have hS := hw.2.2.2.1
  intro T hT0 X0
  obtain ⟨v, st₀, t, T', L, h0, X', hL, e1, e2, ⟨hv, hB, hsz, hk⟩, hst⟩ := hr T hT0 X0
  cases hv
  rw [h0] at hsz hk
  have hal : s.vm.Alike t.vm := by rw [← e2]; exact X'.warmed.alike
  have hS1 : va_S (AL s) s.heap t.heap (locs ++ L) := ⟨Nat.le_trans hS.1 hsz, fun q h1 h2 => by rw [hk q (Nat.lt_of_lt_of_le h1 hS.1) (fun z => h2 (hsub q z))]; exact hS.2.1 q h1 h2, fun q hq => by
      rcases List.mem_append.mp hq with h | h
      · exact hS.2.2 q h
      · exact hsub _ (hL q h)⟩
  obtain ⟨a, b⟩ := l_after hw hz hdis rfl hal hB hsz hk hS1
  obtain ⟨t2, a1, b1⟩ := k t.heap (locs ++ L) a b T' e1 X'
  exact ⟨t2, hst t2 a1, b1⟩
theorem l_call {Y Z : Lay} {μ ν μ' : Mem} {y : MethodName} {bytes : ByteArray} {maxL n d1 a ci : Nat} {ret1 : Option FieldType} {rv1 : Option Value} {q : vw_C} (S : CallFix p m c cc nL s args TT own) (hO : SOK Y (AL s) s) (L : LV own idx y bytes maxL ret1 n) (hM : Ct l Y y bytes maxL ret1 d1 (.ref (yad Y a) :: As) rv1 μ μ') (hn : As.length = n) (hk : ykd Y a = ci) (ha : a < yn Y) (hci : ci < 11) (hq : vwCl[ci]? = some q) (hqy : q.1 = y.cls) (hdd : d1 ≤ 30) (hlsz : ls.size = nL) (hc : cells ≤ 600000) (hs : slots ≤ 7302250) (hst : st = As.reverse ++ .ref (yad Y a) :: rest) (hcat : (rest.map fun v => v.category).sum ≤ 8) (hd : DC cc pc (.invokevirtual idx) 3 pc') (hw : Wd s Y (AL s) μ H locs) (hz : Wd s Z (AL s) ν H locs) (hdis : ∀ a b, a < yn Y → b < yn Z → yad Y a ≠ yad Z b)
    (k : ∀ H1 locs1, Wd s Y (AL s) μ' H1 locs1 → Wd s Z (AL s) ν H1 locs1 → WL p l e s m args below meth c H1 locs1 cells slots Q (F0 m pc' ls (rv1.toList ++ rest))) : WL p l e s m args below meth c H locs cells slots Q (F0 m pc ls st) := by
  obtain ⟨hd, rfl⟩ := hd
  obtain ⟨l1, l2, l3, l4, l5, l6, l7⟩ := L
  subst hst
  have hts := S.2.2.2.2
  have hR : (rmN d1).frames + 1 ≤ room_1.frames ∧ 8 + (maxL + 11) + (rmN d1).locals ≤ room_1.locals := by
    unfold rmN room_1; simp only; omega
  refine l_run (va_runV (C := q.1) (As := As) (rest := rest) S hM ⟨callB_of n hts (good_ws l5) rfl rfl rfl (hts _ l4) (hts _ l1) l6 hR, hts _ l2, by rw [hqy]; exact hts _ l3⟩ ⟨fun a U g mk h => ⟨h.1, h.2.blind g mk a⟩, va_recv hw.1 hw.2.1 (ci := ci) (q0 := a) hq (by rw [wl_at ha, cell_obj hk hci]), fun U hU hW => ⟨rfl, hw.wsA hO hU hW.alike⟩⟩ rfl hn hlsz rfl (lv_room hcat) hd ⟨by unfold room_1; exact hc, by unfold room_1; exact hs⟩) hw hz hdis k
/-- one word of the script onto the stack -/
theorem l_arg {b L i0 j : Nat} {xs : Nat → Int32} {lv : List (Nat × Value)} {nn : Int} {p1 p2 p3 p4 : Nat} (S : CallFix p m c cc nL s args TT own) (hX : va_X b L xs s s.heap) (hbl : b < s.heap.size) (hS : va_S (AL s) s.heap H locs) (hl : lv_has ls nL lv) (q0 q3 : Nat) (h0 : lv[q0]? = some (0, .ref b)) (h3 : lv[q3]? = some (3, .int (nI i0))) (hj : Int32.ofInt nn = nI j) (hij : i0 + j < L) (hL : L < 2 ^ 31) (d0 : DC cc pc (.aload_n 0) 1 p1) (d1 : DC cc p1 (.iload_n 3) 1 p2) (d2 : DC cc p2 (.iconst nn) 1 p3) (d3 : DC cc p3 .iadd 1 p4) (d4 : DC cc p4 .iaload 1 pc')
    (k : WL p l e s m args below meth c H locs cells slots Q (F0 m pc' ls (.int (xs (i0 + j)) :: st))) : WL p l e s m args below meth c H locs cells slots Q (F0 m pc ls st) := by
  obtain ⟨d0, rfl⟩ := d0; obtain ⟨d1, rfl⟩ := d1; obtain ⟨d2, rfl⟩ := d2; obtain ⟨d3, rfl⟩ := d3; obtain ⟨d4, rfl⟩ := d4
  refine lv_aload_n S.1 S.2.1 d0 rfl (lv_at hl q0 h0) ?_
  refine lv_iload_n S.1 S.2.1 d1 rfl (lv_at hl q3 h3) ?_
  refine lv_iconst S.1 S.2.1 d2 hj ?_
  refine lv_iadd S.1 S.2.1 d3 ?_
  rw [nI_add]
  refine va_sld S.1 S.2.1 hX hbl (show ¬ AL s b from Nat.not_le.mpr hbl) hS (vp_in_nI hij hL) d4 ?_
  rw [nI_clamp (by omega)]
  exact k
/-- the call of top -/
theorem l_top {Y Z : Lay} {μ ν : Mem} {x1 x2 x3 x4 x5 : Int32} {r : Int32 × Nat × Mem} (S : CallFix p m c cc nL s args TT own) (hO : SOK Y (AL s) s) (hY : IsX Y) (w1 : Cond.methodLink own idx y_X_top ∈ TT) (w2 : Cond.instanceMethod y_X_top ∈ TT) (w3 : Cond.selects "TopYard" y_X_top y_X_top ∈ TT) (w4 : Cond.initialized "TopYard" ∈ TT) (w5 : Cond.code y_X_top b_X_top 7 (some .int) ∈ TT) (hf : f_X_top (yn Y) μ x1 x2 x3 x4 x5 = some r) (hlsz : ls.size = nL) (hc : cells + 1 ≤ 600000) (hs : slots + 6 ≤ 7302250) (hd : DC cc pc (.invokevirtual idx) 3 pc') (hw : Wd s Y (AL s) μ H locs) (hz : Wd s Z (AL s) ν H locs) (hdis : ∀ a b, a < yn Y → b < yn Z → yad Y a ≠ yad Z b)
    (k : ∀ (ad' : Nat → Nat) H1 locs1, (∀ a, a < yn Y → ad' a = yad Y a) → Wd s (yset Y ad' r.2.1) (AL s) r.2.2 H1 locs1 → Wd s Z (AL s) ν H1 locs1 → (∀ a b, a < r.2.1 → b < yn Z → ad' a ≠ yad Z b) → WL p l e s m args below meth c H1 locs1 (cells + 1) (slots + 6) Q (F0 m pc' ls [.int r.1])) : WL p l e s m args below meth c H locs cells slots Q (F0 m pc ls [.int x5, .int x4, .int x3, .int x2, .int x1, .ref (yad Y 0)]) := by
  obtain ⟨hd, rfl⟩ := hd
  have hts := S.2.2.2.2
  have hsub := hw.sub
  have h0 : 0 < yn Y := nX hY (by decide)
  have hAn : ∀ q, An Y H.size q → AL s q := by
    rintro q (h | h)
    · exact hsub q h
    · exact Nat.le_trans hw.2.2.2.1.1 h
  have hrun := va_runV (C := "TopYard") (As := [.int x1, .int x2, .int x3, .int x4, .int x5]) (rest := []) (R := room_1) (H := H) (locs := locs) (e := e) (below := below) (meth := meth) (cells := cells) (slots := slots) (g := F0 m pc ls [.int x5, .int x4, .int x3, .int x2, .int x1, .ref (yad Y 0)]) S (c_X_top (l := l) hY hf H.size) ⟨callB_of 5 hts (good_ws w5) rfl rfl rfl (hts _ w4) (hts _ w1) ⟨by decide +kernel, by decide +kernel, by decide +kernel⟩ ⟨by decide, by decide⟩, hts _ w2, hts _ w3⟩ ⟨fun a U g mk h => ⟨h.1, h.2.1.blind g mk a, h.2.2⟩, va_recv hw.1 hw.2.1 (ci := 9) (q0 := 0) (q := (kR9, kF9, 14)) rfl (by rw [wl_at h0, cell_obj (k := 9) (kX hY rfl) (by decide)]), fun U hU hW => ⟨rfl, hw.wsA hO hU hW.alike, by rw [hU]⟩⟩ rfl rfl hlsz rfl (lv_room (Nat.zero_le _)) hd ⟨by unfold room_1; exact hc, by unfold room_1; exact hs⟩
  obtain ⟨hK, hP, hD, hS, hT, hSt⟩ := id hw
  obtain ⟨zK, zP, zD, zS, zT, zSt⟩ := id hz
  intro T hT0 X0
  obtain ⟨v, st₀, t, T', L, g0, X', hL, e1, e2, ⟨hv, ⟨ad', hag, hin, hB⟩, hsz, hk⟩, hst⟩ := hrun T hT0 X0
  cases hv
  rw [g0] at hsz hk
  obtain ⟨gK, gP, gD, gT, gSt, gO⟩ := hB
  have hal : s.vm.Alike t.vm := by rw [← e2]; exact X'.warmed.alike
  have hS1 : va_S (AL s) s.heap t.heap (locs ++ L) := ⟨Nat.le_trans hS.1 hsz, fun q h1 h2 => by rw [hk q (Nat.lt_of_lt_of_le h1 hS.1) (fun z => h2 (hAn q z))]; exact hS.2.1 q h1 h2, fun q hq => by
      rcases List.mem_append.mp hq with h | h
      · exact hS.2.2 q h
      · exact hAn _ (hL q h)⟩
  have hne : ∀ b, b < yn Z → ¬ An Y H.size (yad Z b) := by
    rintro b hb (⟨a, ha, e⟩ | h)
    · exact hdis a b ha hb e
    · have := wl_lt zP hb; omega
  obtain ⟨t2, a1, b1⟩ := k ad' t.heap (locs ++ L) hag ⟨va_K.moved hal.symm gK, gP, ⟨gD.1, fun i q hi => by
      obtain ⟨i1, i2⟩ := wl_addr hi
      rw [i2]
      exact hAn _ (hin i i1)⟩, hS1, gT, gSt⟩ ⟨zK, wl_kept zP (fun b hb => hk _ (wl_lt zP hb) (hne b hb)), zD, hS1, zT, zSt⟩ (fun a b ha hb he => hne b hb (by rw [← he]; exact hin a ha)) T' e1 X'
  exact ⟨t2, hst t2 a1, b1⟩
end LAW

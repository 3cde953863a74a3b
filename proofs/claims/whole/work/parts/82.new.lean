/-! New objects in the law, beside another world. -/
def mem0 : Mem := (fun _ _ => 0, fun _ _ => 0, fun _ _ => none)
section LAWN
variable {p : Program} {l : Launch} {e : Env} {s : State} {m : MethodId} {args : Array Value} {below : List Frame} {meth : Method} {c : Code} {cc : ByteArray} {H : Heap} {locs : List Loc} {ls : Array Slot} {cells slots : Nat} {Q : State → Prop} {nL pc pc' idx : Nat} {st rest : List Value} {own : String}
theorem l_new {Y Z : Lay} {ν : Mem} {Cn : String} {T : u_T} {N ci : Nat} {ty0 : Nat → FieldType} (S : CallFix p m c cc nL s args TT own) (hci : ci < 11) (hcl : vwCl[ci]? = some (Cn, T, N)) (hin : ∀ w ∈ u_ws Cn T N, w ∈ TT) (hty : ∀ k, k < N → parseFieldDescriptor (T k).2.2.1 = some (ty0 k)) (hN : (fks ci).length = N) (hdf : ∀ j, j < N → defaultValue (ty0 j) = if (fks ci).getD j 0 = 0 then Value.int 0 else if (fks ci).getD j 0 = 1 then Value.long 0 else Value.null) (w1 : Cond.classLink own idx Cn ∈ TT) (w2 : Cond.instantiable Cn N ∈ TT) (w3 : Cond.initialized Cn ∈ TT) (hk0 : ykd Y 0 = ci) (hmd : ymd Y = false) (hYD : yD Z = yD Y) (hYc : ycy Z = ycy Y) (hc : cells + 1 ≤ 600000) (hs : slots + N ≤ 7302250) (hd : DC cc pc (.new idx) 3 pc') (hz : Wd s Z (AL s) ν H locs)
    (k : ∀ (q : Nat) (H1 : Heap), Wd s (yset Y (fun _ => q) 1) (AL s) (zer mem0 0) H1 locs → Wd s Z (AL s) ν H1 locs → (∀ a, a < yn Z → yad Z a ≠ q) → WL p l e s m args below meth c H1 locs (cells + 1) (slots + N) Q (F0 m pc' ls (.ref q :: st))) : WL p l e s m args below meth c H locs cells slots Q (F0 m pc ls st) := by
  obtain ⟨hd, rfl⟩ := hd
  obtain ⟨zK, zP, zD, zS, zT, zSt⟩ := id hz
  have hts := S.2.2.2.2
  refine va_new (ci := ci) (C := Cn) (T := T) (N := N) (fs := fkv (fun _ => 0) (zer mem0 0) 0 (fks ci)) S.1 S.2.1 hts hin ty0 hty S.2.2.2.1 (hts _ w1) (hts _ w2) (hts _ w3) zK zP zD zS (fun q h => h) hcl ?_ (by unfold room_1; exact hc) (by unfold room_1; exact hs) hd (fun q H1 hP1 hD1 hS1 => ?_)
  · intro j hj
    unfold vp_V
    have e := fkv_at (ad := fun _ => 0) (μ := zer mem0 0) (a := 0) (j := j) (ks := fks ci) (by omega)
    rw [gI_zer, gL_zer, gR_zer, if_pos rfl, if_pos rfl, if_pos rfl] at e
    rw [hdf j hj, List.getD_eq_getElem?_getD (l := fkv (fun _ => 0) (zer mem0 0) 0 (fks ci)), e]
    rfl
  · have he : fkv (fun _ => 0) (zer mem0 0) 0 (fks ci) = fkv (fun _ => q) (zer mem0 0) 0 (fks ci) := by
      unfold fkv
      apply List.map_congr_left
      intro j _
      rw [gR_zer, if_pos rfl]
      rfl
    have hcell : cellOf (yset Y (fun _ => q) 1) (zer mem0 0) 0 = .inr (ci, fkv (fun _ => 0) (zer mem0 0) 0 (fks ci)) := by
      rw [he]
      exact cell_obj (Y := yset Y (fun _ => q) 1) hk0 hci
    have hwl : wl (yset Y (fun _ => q) 1) (zer mem0 0) = [(q, .inr (ci, fkv (fun _ => 0) (zer mem0 0) 0 (fks ci)))] := by
      rw [← hcell]
      rfl
    have hlast : (wl Z ν ++ [(q, (.inr (ci, fkv (fun _ => 0) (zer mem0 0) 0 (fks ci)) : va_E))])[(wl Z ν).length]? = some (q, .inr (ci, fkv (fun _ => 0) (zer mem0 0) 0 (fks ci))) := by
      rw [List.getElem?_append_right (Nat.le_refl _), Nat.sub_self]
      rfl
    have hleft : ∀ (i : Nat) (x : Nat × va_E), (wl Z ν)[i]? = some x → (wl Z ν ++ [(q, (.inr (ci, fkv (fun _ => 0) (zer mem0 0) 0 (fks ci)) : va_E))])[i]? = some x := by
      intro i x hx
      rw [List.getElem?_append_left (List.getElem?_eq_some_iff.mp hx).1]
      exact hx
    have hone : ∀ (i : Nat) (x : Nat × va_E), (wl (yset Y (fun _ => q) 1) (zer mem0 0))[i]? = some x → i = 0 ∧ x = (q, .inr (ci, fkv (fun _ => 0) (zer mem0 0) 0 (fks ci))) := by
      intro i x hx
      rw [hwl] at hx
      have y : i < 1 := (List.getElem?_eq_some_iff.mp hx).1
      have y0 : i = 0 := by omega
      subst y0
      exact ⟨rfl, (Option.some.inj hx).symm⟩
    rw [hYD, hYc] at zK
    rw [hYD] at hP1
    refine k q H1 ⟨zK, fun i x hx => ?_, ⟨fun i j x y hi hj _ => ?_, fun i x hx => ?_⟩, hS1, fun a j b h1 h2 => ?_, St_f hmd⟩ ⟨hz.1, fun i x hx => ?_, zD, hS1, zT, zSt⟩ (fun a ha hq => ?_)
    · obtain ⟨_, e⟩ := hone i x hx
      rw [e]
      exact hP1 _ _ hlast
    · rw [(hone i x hi).1, (hone j y hj).1]
    · obtain ⟨_, e⟩ := hone i x hx
      rw [e]
      exact hD1.2 _ _ hlast
    · have h1' : a < 1 := h1
      have ha : a = 0 := by omega
      subst ha
      rw [gR_zer, if_pos rfl] at h2
      cases h2
    · rw [hYD]
      exact hP1 _ _ (hleft i x hx)
    · have y := hD1.1 a _ _ _ (hleft a _ (wl_at ha)) hlast hq
      rw [wl_len] at y
      omega
theorem l_ctor {Y Z : Lay} {μ ν μ1 : Mem} {y : MethodName} {bytes : ByteArray} {maxL n1 : Nat} {Rm1 : Room} (S : CallFix p m c cc nL s args TT own) (hO : SOK Y (AL s) s) (w1 : Cond.methodLink own idx y ∈ TT) (w2 : Cond.instanceMethod y ∈ TT) (w3 : Cond.initialized y.cls ∈ TT) (w4 : Cond.code y bytes maxL none ∈ TT) (hy1 : y.name = "<init>") (hy : y.cls ≠ "java/lang/invoke/MethodHandle" ∧ y.cls ≠ "java/lang/invoke/VarHandle" ∧ (parseMethodDescriptor y.desc).map (fun d => d.parameters.length) = some 0) (hM : CtA l Y y bytes maxL Rm1 [.ref (yad Y 0)] n1 μ μ1 AOs) (hE : AOs s) (hR : Rm1.frames + 1 ≤ room_1.frames ∧ 8 + (maxL + 11) + Rm1.locals ≤ room_1.locals) (hc : cells + Rm1.cells ≤ 600000) (hs : slots + Rm1.slots ≤ 7302250) (hlsz : ls.size = nL) (hcat : (rest.map fun v => v.category).sum ≤ 8) (hd : DC cc pc (.invokespecial idx) 3 pc') (hw : Wd s Y (AL s) μ H locs) (hz : Wd s Z (AL s) ν H locs) (hdis : ∀ a b, a < yn Y → b < yn Z → yad Y a ≠ yad Z b)
    (k : ∀ (ad' : Nat → Nat) H1 locs1, (∀ a, a < yn Y → ad' a = yad Y a) → Wd s (yset Y ad' n1) (AL s) μ1 H1 locs1 → Wd s Z (AL s) ν H1 locs1 → (∀ a b, a < n1 → b < yn Z → ad' a ≠ yad Z b) → WL p l e s m args below meth c H1 locs1 (cells + Rm1.cells) (slots + Rm1.slots) Q (F0 m pc' ls rest)) : WL p l e s m args below meth c H locs cells slots Q (F0 m pc ls (.ref (yad Y 0) :: rest)) := by
  obtain ⟨hd, rfl⟩ := hd
  have hts := S.2.2.2.2
  have hsub := hw.sub
  have hAn : ∀ q, An Y H.size q → AL s q := by
    rintro q (h | h)
    · exact hsub q h
    · exact Nat.le_trans hw.2.2.2.1.1 h
  have hrun := va_runI (As := []) (rest := rest) (R := room_1) (H := H) (locs := locs) (e := e) (below := below) (meth := meth) (cells := cells) (slots := slots) (g := F0 m pc ls (.ref (yad Y 0) :: rest)) S (hM H.size) ⟨callB_of 0 hts (good_ws w4) rfl rfl rfl (hts _ w3) (hts _ w1) hy hR, hy1, hts _ w2⟩ ⟨fun a U g mk h => ⟨h.1, h.2.1.blind g mk a, h.2.2.1, h.2.2.2.blind g mk a⟩, fun U hU hW => ⟨rfl, hw.wsA hO hU hW.alike, by rw [hU], hE.moved hW.alike⟩⟩ rfl rfl hlsz rfl (lv_room hcat) hd ⟨by unfold room_1; exact hc, by unfold room_1; exact hs⟩
  obtain ⟨hK, hP, hD, hS, hT, hSt⟩ := id hw
  obtain ⟨zK, zP, zD, zS, zT, zSt⟩ := id hz
  intro T hT0 X0
  obtain ⟨v, st₀, t, T', L, g0, X', hL, e1, e2, ⟨hv, ⟨ad', hag, hin, hB⟩, hsz, hk⟩, hst⟩ := hrun T hT0 X0
  cases hv
  rw [g0] at hsz hk
  obtain ⟨gK, gP, gD, gT, gSt, gO⟩ := hB
  have hal : s.vm.Alike t.vm := by rw [← e2]; exact X'.warmed.alike
  have hS1 : va_S (AL s) s.heap t.heap (locs ++ L) := ⟨Nat.le_trans hS.1 hsz, fun q h1 h2 => by rw [hk q (Nat.lt_of_lt_of_le h1 hS.1) (fun z => h2 (hAn q z))]; exact hS.2.1 q h1 h2, fun q hq => by
      rcases List.mem_append.mp hq with h | h
      · exact hS.2.2 q h
      · exact hAn _ (hL q h)⟩
  have hne : ∀ b, b < yn Z → ¬ An Y H.size (yad Z b) := by
    rintro b hb (⟨a, ha, e⟩ | h)
    · exact hdis a b ha hb e
    · have := wl_lt zP hb; omega
  obtain ⟨t2, a1, b1⟩ := k ad' t.heap (locs ++ L) hag ⟨va_K.moved hal.symm gK, gP, ⟨gD.1, fun i q hi => by
      obtain ⟨i1, i2⟩ := wl_addr hi
      rw [i2]
      exact hAn _ (hin i i1)⟩, hS1, gT, gSt⟩ ⟨zK, wl_kept zP (fun b hb => hk _ (wl_lt zP hb) (hne b hb)), zD, hS1, zT, zSt⟩ (fun a b ha hb he => hne b hb (by rw [← he]; exact hin a ha)) T' e1 X'
  exact ⟨t2, hst t2 a1, b1⟩
end LAWN

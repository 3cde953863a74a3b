/-! What stands at the law's entry. -/
theorem over_arr {args : Array Value} {s : State} {t : FieldType} (h : (Cond.arrayOver (.array t)).before args s = true) : ∃ comp c k, s.vm.classes[c]? = some k ∧ k.kind = .array comp (.array t) ∧ s.vm.findClass ("[" ++ (FieldType.array t).toString) = some c := by
  simp only [Cond.before, Cond.holds, Cond.value, beq_iff_eq] at h
  cases hc : s.vm.findClass (FieldType.array t).toString with
  | none => simp [hc] at h
  | some comp =>
    simp only [hc, Option.bind_some, Option.bind_eq_some_iff, Option.map_eq_some_iff] at h
    obtain ⟨c, hi, k, hk, hb⟩ := h
    cases hkind : k.kind with
    | array component ty =>
      rw [hkind] at hb
      simp at hb
      exact ⟨component, c, k, hk, by rw [hkind, hb.1], hb.2⟩
    | _ => rw [hkind] at hb; simp at hb
theorem len_lt {args : Array Value} {s : State} {tm : Term} {v : Value} (hv : (Term.length tm).eval args s none [] s = some v) : ∃ a cell, tm.eval args s none [] s = some (.ref a) ∧ s.arrayAt? a = some cell ∧ v = .int cell.slots.size.toInt32 ∧ cell.slots.size < 2147483648 := by
  obtain ⟨a, cell, ht, hat, he⟩ := Term.length_spec hv
  refine ⟨a, cell, ht, hat, he, ?_⟩
  simp only [Term.eval, ht, hat, Option.bind_eq_bind, Option.bind_some] at hv
  by_cases hlt : cell.slots.size < 2147483648
  · exact hlt
  · simp [hlt] at hv
theorem st_of {args : Array Value} {s : State} {C n d : String} {ty : FieldType} {N : Nat} {vs : List Int32} (hN : N < 2147483648) (hl : (Cond.laysStatic C n d).before args s = true) (hini : (Cond.initialized C).before args s = true) (harr : (Cond.arrayOf (.static C n d) ty).before args s = true) (hlen : (Cond.eq (.length (.static C n d)) (.int (Int32.ofNat N))).before args s = true) (hel : ∀ j : Nat, j < N → (Cond.eq (.elem (.static C n d) (.int (Int32.ofNat j))) (.int (vs.getD j 0))).before args s = true) : ∃ t : Nat, ∀ A : Nat → Prop, (∀ a : Nat, a < s.heap.size → ¬ A a) → va_Z C n d (.ref t) A s s.heap ∧ va_T ty t N (fun i => .int (vs.getD i 0)) A s s.heap ∧ ∃ cell : Cell, s.heap[t]? = some cell ∧ cell.slots.size = N := by
  have hv := va_eqt hlen
  obtain ⟨t, cell, ht, hat, he, hlt⟩ := len_lt hv
  refine ⟨t, fun A hA => ?_⟩
  obtain ⟨t', ht', hT⟩ := va_Tof hN harr hv (fun j hj => va_eqt (hel j hj)) hA
  have e1 : t' = t := by
    cases ht.symm.trans ht'
    rfl
  rw [e1] at hT
  refine ⟨va_Zof hl hini ht hA, hT, cell, (State.arrayAt?_spec hat).1, ?_⟩
  have e : nI N = nI cell.slots.size := Value.int.inj he
  rw [y_eq hN hlt] at e
  exact e.symm
abbrev gn1 : Cond := Jvm.Cond.and given_1 narrow_1
theorem st0_e : ∀ j, j < 10 → Cond.eq (.elem (.static "TopYard$Headings" "QUARTER" "[I") (.int (Int32.ofNat j))) (.int (([65, 63, 60, 56, 52, 39, 33, 25, 16, 0] : List Int32).getD j 0)) ∈ flatC gn1 := by decide +kernel
theorem st1_e : ∀ j, j < 5 → Cond.eq (.elem (.static "TopYard$Game" "USUAL_NUMBERS" "[I") (.int (Int32.ofNat j))) (.int (([1, 5, -1, 30, 0] : List Int32).getD j 0)) ∈ flatC gn1 := by decide +kernel
theorem st2_e : ∀ j, j < 5 → Cond.eq (.elem (.static "TopYard$Game" "LETTERS" "[C") (.int (Int32.ofNat j))) (.int (([119, 98, 114, 116, 107] : List Int32).getD j 0)) ∈ flatC gn1 := by decide +kernel
theorem st3_e : ∀ j, j < 5 → Cond.eq (.elem (.static "TopYard$Game" "LEAST_NUMBERS" "[I") (.int (Int32.ofNat j))) (.int (([1, 1, 0, 1, 0] : List Int32).getD j 0)) ∈ flatC gn1 := by decide +kernel
theorem st4_e : ∀ j, j < 5 → Cond.eq (.elem (.static "TopYard$Game" "MOST_NUMBERS" "[I") (.int (Int32.ofNat j))) (.int (([9, 20, 30, 60, 3] : List Int32).getD j 0)) ∈ flatC gn1 := by decide +kernel
theorem sok_of {b : Nat} {s : State} (hts : ∀ w ∈ lw_tbl, w.before #[Value.ref b] s = true) (hg : (Jvm.Cond.and given_1 narrow_1).before #[Value.ref b] s = true) : ∃ tS : Nat → Nat, ∀ (Y : Lay) (A : Nat → Prop), ytS Y = tS → (∀ a : Nat, a < s.heap.size → ¬ A a) → SOK Y A s := by
  have hs : ∀ w ∈ flatC gn1, w.before #[Value.ref b] s = true := flat_of_before _ hg
  obtain ⟨t0, h0⟩ := st_of (args := #[Value.ref b]) (s := s) (C := "TopYard$Headings") (n := "QUARTER") (d := "[I") (ty := .int) (N := 10) (vs := [65, 63, 60, 56, 52, 39, 33, 25, 16, 0]) (by decide) (hts _ (by decide +kernel)) (hts _ (by decide +kernel)) (hs _ (by decide +kernel)) (hs _ (by decide +kernel)) (fun j hj => hs _ (st0_e j hj))
  obtain ⟨t1, h1⟩ := st_of (args := #[Value.ref b]) (s := s) (C := "TopYard$Game") (n := "USUAL_NUMBERS") (d := "[I") (ty := .int) (N := 5) (vs := [1, 5, -1, 30, 0]) (by decide) (hts _ (by decide +kernel)) (hts _ (by decide +kernel)) (hs _ (by decide +kernel)) (hs _ (by decide +kernel)) (fun j hj => hs _ (st1_e j hj))
  obtain ⟨t2, h2⟩ := st_of (args := #[Value.ref b]) (s := s) (C := "TopYard$Game") (n := "LETTERS") (d := "[C") (ty := .char) (N := 5) (vs := [119, 98, 114, 116, 107]) (by decide) (hts _ (by decide +kernel)) (hts _ (by decide +kernel)) (hs _ (by decide +kernel)) (hs _ (by decide +kernel)) (fun j hj => hs _ (st2_e j hj))
  obtain ⟨t3, h3⟩ := st_of (args := #[Value.ref b]) (s := s) (C := "TopYard$Game") (n := "LEAST_NUMBERS") (d := "[I") (ty := .int) (N := 5) (vs := [1, 1, 0, 1, 0]) (by decide) (hts _ (by decide +kernel)) (hts _ (by decide +kernel)) (hs _ (by decide +kernel)) (hs _ (by decide +kernel)) (fun j hj => hs _ (st3_e j hj))
  obtain ⟨t4, h4⟩ := st_of (args := #[Value.ref b]) (s := s) (C := "TopYard$Game") (n := "MOST_NUMBERS") (d := "[I") (ty := .int) (N := 5) (vs := [9, 20, 30, 60, 3]) (by decide) (hts _ (by decide +kernel)) (hts _ (by decide +kernel)) (hs _ (by decide +kernel)) (hs _ (by decide +kernel)) (fun j hj => hs _ (st4_e j hj))
  refine ⟨fun k => [t0, t1, t2, t3, t4].getD k 0, fun Y A hY hA k r hr => ?_⟩
  rw [hY]
  have hk : k < 5 := (List.getElem?_eq_some_iff.mp hr).1
  have hk' : k = 0 ∨ k = 1 ∨ k = 2 ∨ k = 3 ∨ k = 4 := by omega
  rcases hk' with e | e | e | e | e <;> subst e
  · have e : r = ("TopYard$Headings", "QUARTER", "[I", .int, [65, 63, 60, 56, 52, 39, 33, 25, 16, 0]) := (Option.some.inj hr).symm
    subst e
    exact h0 A hA
  · have e : r = ("TopYard$Game", "USUAL_NUMBERS", "[I", .int, [1, 5, -1, 30, 0]) := (Option.some.inj hr).symm
    subst e
    exact h1 A hA
  · have e : r = ("TopYard$Game", "LETTERS", "[C", .char, [119, 98, 114, 116, 107]) := (Option.some.inj hr).symm
    subst e
    exact h2 A hA
  · have e : r = ("TopYard$Game", "LEAST_NUMBERS", "[I", .int, [1, 1, 0, 1, 0]) := (Option.some.inj hr).symm
    subst e
    exact h3 A hA
  · have e : r = ("TopYard$Game", "MOST_NUMBERS", "[I", .int, [9, 20, 30, 60, 3]) := (Option.some.inj hr).symm
    subst e
    exact h4 A hA
theorem kn1 {b : Nat} {s : State} {C : String} {T : u_T} {N n : Nat} (hts : ∀ w ∈ TT, w.before #[Value.ref b] s = true) (hin : ∀ w ∈ u_ws C T N, w ∈ TT) (hi : Cond.instantiable C n ∈ TT) : ∃ q : ClassId × (Nat → Nat), ∀ r : vw_C, some (C, T, N) = some r → u_Kn s r.1 r.2.1 r.2.2 q.1 q.2 := by
  obtain ⟨cC, iS, h⟩ := u_known hts hin (hts _ hi)
  refine ⟨(cC, iS), fun r hr => ?_⟩
  cases hr
  exact h
theorem kn_all {b : Nat} {s : State} (hts : ∀ w ∈ TT, w.before #[Value.ref b] s = true) : ∀ c : Nat, ∃ q : ClassId × (Nat → Nat), ∀ r : vw_C, vwCl[c]? = some r → u_Kn s r.1 r.2.1 r.2.2 q.1 q.2 := by
  intro c
  rcases Nat.lt_or_ge c 11 with h | h
  · have h' : c = 0 ∨ c = 1 ∨ c = 2 ∨ c = 3 ∨ c = 4 ∨ c = 5 ∨ c = 6 ∨ c = 7 ∨ c = 8 ∨ c = 9 ∨ c = 10 := by omega
    rcases h' with e | e | e | e | e | e | e | e | e | e | e <;> subst e
    · exact kn1 hts kW0 wd_258
    · exact kn1 hts kW1 wd_248
    · exact kn1 hts kW2 wd_273
    · exact kn1 hts kW3 wd_289
    · exact kn1 hts kW4 wd_296
    · exact kn1 hts kW5 wd_282
    · exact kn1 hts kW6 wd_303
    · exact kn1 hts kW7 wd_262
    · exact kn1 hts kW8 wd_310
    · exact kn1 hts kW9 wd_320
    · exact kn1 hts kW10 wd_326
  · refine ⟨(0, fun _ => 0), fun r hr => ?_⟩
    have y := (List.getElem?_eq_some_iff.mp hr).1
    have y2 : c < 11 := y
    omega
theorem known_of {b : Nat} {s : State} (hts : ∀ w ∈ TT, w.before #[Value.ref b] s = true) (hl : ∀ w ∈ lw_tbl, w.before #[Value.ref b] s = true) : ∃ (D : va_G) (cy : Nat → ClassId), va_K D vwCl (tysOf cy) s := by
  obtain ⟨g, hg⟩ := Classical.axiomOfChoice (kn_all hts)
  obtain ⟨c0, k0, p0, a0, b0, d0⟩ := Cond.arrayClass_spec (hts _ wd_253)
  obtain ⟨c1, k1, p1, a1, b1, d1⟩ := Cond.arrayClass_spec (hts _ wd_277)
  obtain ⟨p2, c2, k2, f2, _, b2, d2, a2⟩ := Cond.arrayOver_spec (hl (Cond.arrayOver (.object "TopYard$Sheet")) (by decide +kernel))
  obtain ⟨p3, c3, k3, f3, _, b3, d3, a3⟩ := Cond.arrayOver_spec (hl (Cond.arrayOver (.object "TopYard$Spinner")) (by decide +kernel))
  obtain ⟨p4, c4, k4, f4, _, b4, d4, a4⟩ := Cond.arrayOver_spec (hl (Cond.arrayOver (.object "TopYard$Top")) (by decide +kernel))
  obtain ⟨p5, c5, k5, b5, d5, a5⟩ := over_arr (hl (Cond.arrayOver (.array .int)) (by decide +kernel))
  refine ⟨(fun c => (g c).1, fun c => (g c).2), fun k => match k with
    | 0 => c0
    | 1 => c1
    | 2 => c2
    | 3 => c3
    | 4 => c4
    | _ => c5, fun c q hq => hg c q hq, fun k q hq => ?_⟩
  have hk : k < 6 := (List.getElem?_eq_some_iff.mp hq).1
  have hk' : k = 0 ∨ k = 1 ∨ k = 2 ∨ k = 3 ∨ k = 4 ∨ k = 5 := by omega
  rcases hk' with e | e | e | e | e | e <;> subst e
  · have e : q = (c0, .int) := (Option.some.inj hq).symm
    subst e
    exact ⟨fun N z => ⟨fun k h => (by cases h), k0, b0, p0, d0⟩, a0⟩
  · have e : q = (c1, .long) := (Option.some.inj hq).symm
    subst e
    exact ⟨fun N z => ⟨fun k h => (by cases h), k1, b1, p1, d1⟩, a1⟩
  · have e : q = (c2, .object "TopYard$Sheet") := (Option.some.inj hq).symm
    subst e
    exact ⟨fun N z => ⟨fun k h => (by cases h), k2, b2, p2, d2⟩, k2, p2, b2, d2, f2, a2⟩
  · have e : q = (c3, .object "TopYard$Spinner") := (Option.some.inj hq).symm
    subst e
    exact ⟨fun N z => ⟨fun k h => (by cases h), k3, b3, p3, d3⟩, k3, p3, b3, d3, f3, a3⟩
  · have e : q = (c4, .object "TopYard$Top") := (Option.some.inj hq).symm
    subst e
    exact ⟨fun N z => ⟨fun k h => (by cases h), k4, b4, p4, d4⟩, k4, p4, b4, d4, f4, a4⟩
  · have e : q = (c5, .array .int) := (Option.some.inj hq).symm
    subst e
    exact ⟨fun N z => ⟨fun k h => (by cases h), k5, b5, p5, d5⟩, a5⟩
theorem aos_of {b : Nat} {s : State} (hl : ∀ w ∈ lw_tbl, w.before #[Value.ref b] s = true) : AOs s :=
  ⟨va_AO.of (hl _ (by decide +kernel)), va_AO.of (hl _ (by decide +kernel)), va_AO.of (hl _ (by decide +kernel)), hl (Cond.arrayOver (.array .int)) (by decide +kernel)⟩

theorem d_X_sheet_0 : DC b_X_sheet 0 (.aload_n 0) 1 1 := ⟨by decide +kernel, rfl⟩
theorem d_X_sheet_1 : DC b_X_sheet 1 (.iload_n 1) 1 2 := ⟨by decide +kernel, rfl⟩
theorem d_X_sheet_2 : DC b_X_sheet 2 (.invokevirtual 267) 3 5 := ⟨by decide +kernel, rfl⟩
theorem d_X_sheet_5 : DC b_X_sheet 5 (.astore 4) 2 7 := ⟨by decide +kernel, rfl⟩
theorem d_X_sheet_7 : DC b_X_sheet 7 (.aload 4) 2 9 := ⟨by decide +kernel, rfl⟩
theorem d_X_sheet_9 : DB b_X_sheet 9 (.ifnull 16) 16 25 12 := ⟨by decide +kernel, by decide, rfl⟩
theorem d_X_sheet_12 : DC b_X_sheet 12 (.iload_n 2) 1 13 := ⟨by decide +kernel, rfl⟩
theorem d_X_sheet_13 : DC b_X_sheet 13 (.invokestatic 343) 3 16 := ⟨by decide +kernel, rfl⟩
theorem d_X_sheet_16 : DB b_X_sheet 16 (.ifCond .eq 9) 9 25 19 := ⟨by decide +kernel, by decide, rfl⟩
theorem d_X_sheet_19 : DC b_X_sheet 19 (.iload_n 3) 1 20 := ⟨by decide +kernel, rfl⟩
theorem d_X_sheet_20 : DC b_X_sheet 20 (.bipush 120) 2 22 := ⟨by decide +kernel, rfl⟩
theorem d_X_sheet_22 : DB b_X_sheet 22 (.if_icmp .le 6) 6 28 25 := ⟨by decide +kernel, by decide, rfl⟩
theorem d_X_sheet_25 : DC b_X_sheet 25 (.bipush (-2)) 2 27 := ⟨by decide +kernel, rfl⟩
theorem d_X_sheet_27 : decode b_X_sheet 27 = .ok (.ireturn, 1) := by decide +kernel
theorem d_X_sheet_28 : DC b_X_sheet 28 (.iload_n 3) 1 29 := ⟨by decide +kernel, rfl⟩
theorem d_X_sheet_29 : DB b_X_sheet 29 (.ifCond .ge 9) 9 38 32 := ⟨by decide +kernel, by decide, rfl⟩
theorem d_X_sheet_32 : DC b_X_sheet 32 (.aload_n 0) 1 33 := ⟨by decide +kernel, rfl⟩
theorem d_X_sheet_33 : DC b_X_sheet 33 (.iconst 5) 1 34 := ⟨by decide +kernel, rfl⟩
theorem d_X_sheet_34 : DC b_X_sheet 34 (.invokevirtual 275) 3 37 := ⟨by decide +kernel, rfl⟩
theorem d_X_sheet_37 : decode b_X_sheet 37 = .ok (.ireturn, 1) := by decide +kernel
theorem d_X_sheet_38 : DC b_X_sheet 38 (.aload 4) 2 40 := ⟨by decide +kernel, rfl⟩
theorem d_X_sheet_40 : DC b_X_sheet 40 (.iload_n 2) 1 41 := ⟨by decide +kernel, rfl⟩
theorem d_X_sheet_41 : DC b_X_sheet 41 (.iload_n 3) 1 42 := ⟨by decide +kernel, rfl⟩
theorem d_X_sheet_42 : DC b_X_sheet 42 (.invokevirtual 346) 3 45 := ⟨by decide +kernel, rfl⟩
theorem d_X_sheet_45 : DC b_X_sheet 45 (.iload_n 3) 1 46 := ⟨by decide +kernel, rfl⟩
theorem d_X_sheet_46 : decode b_X_sheet 46 = .ok (.ireturn, 1) := by decide +kernel
theorem c_X_sheet {l : Launch} {Y : Lay} (hY : IsX Y) {N : Nat} {μ : Mem} {x1 : Int32} {x2 : Int32} {x3 : Int32} {r : Int32 × Mem} (hf : f_X_sheet N μ x1 x2 x3 = some r) : Ct l Y y_X_sheet b_X_sheet 5 (some .int) 3 [.ref (yad Y 0), .int x1, .int x2, .int x3] (some (.int r.1)) μ r.2 := by
  refine ct_of (own := "TopYard") (lv := [(0, .ref (yad Y 0)), (1, .int x1), (2, .int x2), (3, .int x3)]) (by decide +kernel) rfl (Nat.le_of_ble_eq_true rfl) rfl (fun X hl C => ?_)
  subst hl
  unfold f_X_sheet at hf
  refine j_aload_n C d_X_sheet_0 0 rfl ?_
  refine j_iload_n C d_X_sheet_1 1 rfl ?_
  refine bd hf (fun u1 hc10 hf => ?_)
  refine j_wt (fun hT hSt => ?_)
  have hu1 := rt_X_sheetAt hY hT hc10
  refine j_cV (rest := []) C lk_X_267 (c_X_sheetAt hY hc10) rfl (kX hY rfl) (nX hY (by decide)) (by decide) rfl rfl (by decide) rfl (Nat.le_of_ble_eq_true rfl) d_X_sheet_2 ?_
  refine j_astoreo (lvf := [(0, .ref (yad Y 0)), (1, .int x1), (2, .int x2), (3, .int x3)]) C d_X_sheet_5 (by decide) rfl ?_
  refine j_aloado C d_X_sheet_7 0 rfl ?_
  cases u1 with
  | none =>
    refine j_nul_t C d_X_sheet_9 ?_
    refine j_bipush (v := (-2)) C d_X_sheet_25 (by decide) ?_
    obtain rfl := Option.some.inj hf
    exact j_iret C d_X_sheet_27
  | some e2 =>
    refine j_nul_f C d_X_sheet_9 ?_
    refine j_iload_n C d_X_sheet_12 3 rfl ?_
    refine bd hf (fun v3 hc9 hf => ?_)
    refine j_cS (rest := []) C lk_X_343 (c_Sh_isForm hY hc9) rfl (by decide) rfl (Nat.le_of_ble_eq_true rfl) d_X_sheet_13 ?_
    refine j_if_eq C d_X_sheet_16 hf (fun hf => ?_) (fun hf => ?_)
    · refine j_bipush (v := (-2)) C d_X_sheet_25 (by decide) ?_
      obtain rfl := Option.some.inj hf
      exact j_iret C d_X_sheet_27
    · refine j_iload_n C d_X_sheet_19 4 rfl ?_
      refine j_bipush (v := 120) C d_X_sheet_20 (by decide) ?_
      refine j_icmp_le C d_X_sheet_22 hf (fun hf => ?_) (fun hf => ?_)
      · refine j_iload_n C d_X_sheet_28 4 rfl ?_
        refine j_if_ge C d_X_sheet_29 hf (fun hf => ?_) (fun hf => ?_)
        · refine j_aload C d_X_sheet_38 0 rfl ?_
          refine j_iload_n C d_X_sheet_40 3 rfl ?_
          refine j_iload_n C d_X_sheet_41 4 rfl ?_
          refine bd hf (fun μ4 hc5 hf => ?_)
          refine j_cV (rest := []) C lk_X_346 (c_Sh_begin hY ⟨(hu1 e2 rfl).2, (hu1 e2 rfl).1⟩ hc5) rfl (hu1 e2 rfl).2 (hu1 e2 rfl).1 (by decide) rfl rfl (by decide) rfl (Nat.le_of_ble_eq_true rfl) d_X_sheet_42 ?_
          refine j_iload_n C d_X_sheet_45 4 rfl ?_
          obtain rfl := Option.some.inj hf
          exact j_iret C d_X_sheet_46
        · refine j_aload_n C d_X_sheet_32 1 rfl ?_
          refine j_iconst (v := 5) C d_X_sheet_33 (by decide) ?_
          refine bd2 hf (fun v6 μ7 hc8 hf => ?_)
          refine j_cV (rest := []) C lk_X_275 (c_X_find hY hc8) rfl (kX hY rfl) (nX hY (by decide)) (by decide) rfl rfl (by decide) rfl (Nat.le_of_ble_eq_true rfl) d_X_sheet_34 ?_
          obtain rfl := Option.some.inj hf
          exact j_iret C d_X_sheet_37
      · refine j_bipush (v := (-2)) C d_X_sheet_25 (by decide) ?_
        obtain rfl := Option.some.inj hf
        exact j_iret C d_X_sheet_27
theorem d_X_lose_0 : DC b_X_lose 0 (.aload_n 0) 1 1 := ⟨by decide +kernel, rfl⟩
theorem d_X_lose_1 : DC b_X_lose 1 (.iload_n 1) 1 2 := ⟨by decide +kernel, rfl⟩
theorem d_X_lose_2 : DC b_X_lose 2 (.invokevirtual 267) 3 5 := ⟨by decide +kernel, rfl⟩
theorem d_X_lose_5 : DC b_X_lose 5 (.astore_n 2) 1 6 := ⟨by decide +kernel, rfl⟩
theorem d_X_lose_6 : DC b_X_lose 6 (.aload_n 2) 1 7 := ⟨by decide +kernel, rfl⟩
theorem d_X_lose_7 : DB b_X_lose 7 (.ifnonnull 6) 6 13 10 := ⟨by decide +kernel, by decide, rfl⟩
theorem d_X_lose_10 : DC b_X_lose 10 (.bipush (-2)) 2 12 := ⟨by decide +kernel, rfl⟩
theorem d_X_lose_12 : decode b_X_lose 12 = .ok (.ireturn, 1) := by decide +kernel
theorem d_X_lose_13 : DC b_X_lose 13 (.aload_n 2) 1 14 := ⟨by decide +kernel, rfl⟩
theorem d_X_lose_14 : DC b_X_lose 14 (.getfield 271) 3 17 := ⟨by decide +kernel, rfl⟩
theorem d_X_lose_17 : DB b_X_lose 17 (.ifCond .eq 9) 9 26 20 := ⟨by decide +kernel, by decide, rfl⟩
theorem d_X_lose_20 : DC b_X_lose 20 (.aload_n 0) 1 21 := ⟨by decide +kernel, rfl⟩
theorem d_X_lose_21 : DC b_X_lose 21 (.iconst 1) 1 22 := ⟨by decide +kernel, rfl⟩
theorem d_X_lose_22 : DC b_X_lose 22 (.invokevirtual 275) 3 25 := ⟨by decide +kernel, rfl⟩
theorem d_X_lose_25 : decode b_X_lose 25 = .ok (.ireturn, 1) := by decide +kernel
theorem d_X_lose_26 : DC b_X_lose 26 (.aload_n 2) 1 27 := ⟨by decide +kernel, rfl⟩
theorem d_X_lose_27 : DC b_X_lose 27 (.iconst 1) 1 28 := ⟨by decide +kernel, rfl⟩
theorem d_X_lose_28 : DC b_X_lose 28 (.putfield 271) 3 31 := ⟨by decide +kernel, rfl⟩
theorem d_X_lose_31 : DC b_X_lose 31 (.aload_n 2) 1 32 := ⟨by decide +kernel, rfl⟩
theorem d_X_lose_32 : DC b_X_lose 32 (.getfield 278) 3 35 := ⟨by decide +kernel, rfl⟩
theorem d_X_lose_35 : decode b_X_lose 35 = .ok (.ireturn, 1) := by decide +kernel
theorem c_X_lose {l : Launch} {Y : Lay} (hY : IsX Y) {μ : Mem} {x1 : Int32} {r : Int32 × Mem} (hf : f_X_lose μ x1 = some r) : Ct l Y y_X_lose b_X_lose 3 (some .int) 2 [.ref (yad Y 0), .int x1] (some (.int r.1)) μ r.2 := by
  refine ct_of (own := "TopYard") (lv := [(0, .ref (yad Y 0)), (1, .int x1)]) (by decide +kernel) rfl (Nat.le_of_ble_eq_true rfl) rfl (fun X hl C => ?_)
  subst hl
  unfold f_X_lose at hf
  refine j_aload_n C d_X_lose_0 0 rfl ?_
  refine j_iload_n C d_X_lose_1 1 rfl ?_
  refine bd hf (fun u1 hc7 hf => ?_)
  refine j_wt (fun hT hSt => ?_)
  have hu1 := rt_X_sheetAt hY hT hc7
  refine j_cV (rest := []) C lk_X_267 (c_X_sheetAt hY hc7) rfl (kX hY rfl) (nX hY (by decide)) (by decide) rfl rfl (by decide) rfl (Nat.le_of_ble_eq_true rfl) d_X_lose_2 ?_
  refine j_astoreo_n (lvf := [(0, .ref (yad Y 0)), (1, .int x1)]) C d_X_lose_5 (by decide) rfl ?_
  refine j_aloado_n C d_X_lose_6 0 rfl ?_
  cases u1 with
  | none =>
    refine j_nnul_f C d_X_lose_7 ?_
    refine j_bipush (v := (-2)) C d_X_lose_10 (by decide) ?_
    obtain rfl := Option.some.inj hf
    exact j_iret C d_X_lose_12
  | some e2 =>
    refine j_nnul_t C d_X_lose_7 ?_
    refine j_aload_n C d_X_lose_13 0 rfl ?_
    refine j_gI C fl_X_271 (hu1 e2 rfl).2 (hu1 e2 rfl).1 rfl d_X_lose_14 ?_
    refine j_if_eq C d_X_lose_17 hf (fun hf => ?_) (fun hf => ?_)
    · refine j_aload_n C d_X_lose_26 0 rfl ?_
      refine j_iconst (v := 1) C d_X_lose_27 (by decide) ?_
      refine j_pI C fl_X_271 (hu1 e2 rfl).2 (hu1 e2 rfl).1 rfl (by decide) (by decide) d_X_lose_28 hf (fun μ3 hf => ?_)
      refine j_aload_n C d_X_lose_31 0 rfl ?_
      refine j_gI C fl_X_278 (hu1 e2 rfl).2 (hu1 e2 rfl).1 rfl d_X_lose_32 ?_
      obtain rfl := Option.some.inj hf
      exact j_iret C d_X_lose_35
    · refine j_aload_n C d_X_lose_20 1 rfl ?_
      refine j_iconst (v := 1) C d_X_lose_21 (by decide) ?_
      refine bd2 hf (fun v4 μ5 hc6 hf => ?_)
      refine j_cV (rest := []) C lk_X_275 (c_X_find hY hc6) rfl (kX hY rfl) (nX hY (by decide)) (by decide) rfl rfl (by decide) rfl (Nat.le_of_ble_eq_true rfl) d_X_lose_22 ?_
      obtain rfl := Option.some.inj hf
      exact j_iret C d_X_lose_25
theorem d_Sh_findingAt_0 : DC b_Sh_findingAt 0 (.aload_n 0) 1 1 := ⟨by decide +kernel, rfl⟩
theorem d_Sh_findingAt_1 : DC b_Sh_findingAt 1 (.getfield 9) 3 4 := ⟨by decide +kernel, rfl⟩
theorem d_Sh_findingAt_4 : DB b_Sh_findingAt 4 (.ifCond .eq 5) 5 9 7 := ⟨by decide +kernel, by decide, rfl⟩
theorem d_Sh_findingAt_7 : DC b_Sh_findingAt 7 (.iconst 1) 1 8 := ⟨by decide +kernel, rfl⟩
theorem d_Sh_findingAt_8 : decode b_Sh_findingAt 8 = .ok (.ireturn, 1) := by decide +kernel
theorem d_Sh_findingAt_9 : DC b_Sh_findingAt 9 (.iload_n 1) 1 10 := ⟨by decide +kernel, rfl⟩
theorem d_Sh_findingAt_10 : DC b_Sh_findingAt 10 (.aload_n 0) 1 11 := ⟨by decide +kernel, rfl⟩
theorem d_Sh_findingAt_11 : DC b_Sh_findingAt 11 (.getfield 15) 3 14 := ⟨by decide +kernel, rfl⟩
theorem d_Sh_findingAt_14 : DB b_Sh_findingAt 14 (.if_icmp .eq 5) 5 19 17 := ⟨by decide +kernel, by decide, rfl⟩
theorem d_Sh_findingAt_17 : DC b_Sh_findingAt 17 (.iconst 3) 1 18 := ⟨by decide +kernel, rfl⟩
theorem d_Sh_findingAt_18 : decode b_Sh_findingAt 18 = .ok (.ireturn, 1) := by decide +kernel
theorem d_Sh_findingAt_19 : DC b_Sh_findingAt 19 (.iload_n 2) 1 20 := ⟨by decide +kernel, rfl⟩
theorem d_Sh_findingAt_20 : DB b_Sh_findingAt 20 (.ifCond .lt 15) 15 35 23 := ⟨by decide +kernel, by decide, rfl⟩
theorem d_Sh_findingAt_23 : DC b_Sh_findingAt 23 (.iload_n 2) 1 24 := ⟨by decide +kernel, rfl⟩
theorem d_Sh_findingAt_24 : DC b_Sh_findingAt 24 (.aload_n 0) 1 25 := ⟨by decide +kernel, rfl⟩
theorem d_Sh_findingAt_25 : DC b_Sh_findingAt 25 (.getfield 19) 3 28 := ⟨by decide +kernel, rfl⟩
theorem d_Sh_findingAt_28 : DB b_Sh_findingAt 28 (.if_icmp .ge 7) 7 35 31 := ⟨by decide +kernel, by decide, rfl⟩
theorem d_Sh_findingAt_31 : DC b_Sh_findingAt 31 (.iconst 0) 1 32 := ⟨by decide +kernel, rfl⟩
theorem d_Sh_findingAt_32 : DB b_Sh_findingAt 32 (.goto 4) 4 36 35 := ⟨by decide +kernel, by decide, rfl⟩
theorem d_Sh_findingAt_35 : DC b_Sh_findingAt 35 (.iconst 2) 1 36 := ⟨by decide +kernel, rfl⟩
theorem d_Sh_findingAt_36 : decode b_Sh_findingAt 36 = .ok (.ireturn, 1) := by decide +kernel
theorem c_Sh_findingAt {l : Launch} {Y : Lay} (hY : IsX Y) {μ : Mem} {a0 : Nat} {x1 : Int32} {x2 : Int32} (g0 : ykd Y a0 = 6 ∧ a0 < yn Y) {r : Int32} (hf : f_Sh_findingAt μ a0 x1 x2 = some r) : Ct l Y y_Sh_findingAt b_Sh_findingAt 3 (some .int) 1 [.ref (yad Y a0), .int x1, .int x2] (some (.int r)) μ μ := by
  refine ct_of (own := "TopYard$Sheet") (lv := [(0, .ref (yad Y a0)), (1, .int x1), (2, .int x2)]) (by decide +kernel) rfl (Nat.le_of_ble_eq_true rfl) rfl (fun X hl C => ?_)
  subst hl
  unfold f_Sh_findingAt at hf
  refine j_aload_n C d_Sh_findingAt_0 0 rfl ?_
  refine j_gI C fl_Sh_9 g0.1 g0.2 rfl d_Sh_findingAt_1 ?_
  refine j_if_eq C d_Sh_findingAt_4 hf (fun hf => ?_) (fun hf => ?_)
  · refine j_iload_n C d_Sh_findingAt_9 1 rfl ?_
    refine j_aload_n C d_Sh_findingAt_10 0 rfl ?_
    refine j_gI C fl_Sh_15 g0.1 g0.2 rfl d_Sh_findingAt_11 ?_
    refine j_icmp_eq C d_Sh_findingAt_14 hf (fun hf => ?_) (fun hf => ?_)
    · refine j_iload_n C d_Sh_findingAt_19 2 rfl ?_
      refine j_if_lt C d_Sh_findingAt_20 hf (fun hf => ?_) (fun hf => ?_)
      · refine j_iconst (v := 2) C d_Sh_findingAt_35 (by decide) ?_
        obtain rfl := Option.some.inj hf
        exact j_iret C d_Sh_findingAt_36
      · refine j_iload_n C d_Sh_findingAt_23 2 rfl ?_
        refine j_aload_n C d_Sh_findingAt_24 0 rfl ?_
        refine j_gI C fl_Sh_19 g0.1 g0.2 rfl d_Sh_findingAt_25 ?_
        refine j_icmp_ge C d_Sh_findingAt_28 hf (fun hf => ?_) (fun hf => ?_)
        · refine j_iconst (v := 2) C d_Sh_findingAt_35 (by decide) ?_
          obtain rfl := Option.some.inj hf
          exact j_iret C d_Sh_findingAt_36
        · refine j_iconst (v := 0) C d_Sh_findingAt_31 (by decide) ?_
          refine j_goto C d_Sh_findingAt_32 ?_
          obtain rfl := Option.some.inj hf
          exact j_iret C d_Sh_findingAt_36
    · refine j_iconst (v := 3) C d_Sh_findingAt_17 (by decide) ?_
      obtain rfl := Option.some.inj hf
      exact j_iret C d_Sh_findingAt_18
  · refine j_iconst (v := 1) C d_Sh_findingAt_7 (by decide) ?_
    obtain rfl := Option.some.inj hf
    exact j_iret C d_Sh_findingAt_8
theorem d_Sh_narrowed_0 : DC b_Sh_narrowed 0 (.aload_n 0) 1 1 := ⟨by decide +kernel, rfl⟩
theorem d_Sh_narrowed_1 : DC b_Sh_narrowed 1 (.getfield 15) 3 4 := ⟨by decide +kernel, rfl⟩
theorem d_Sh_narrowed_4 : decode b_Sh_narrowed 4 = .ok (.lookupswitch 34 #[(0, 28), (1, 31)], 28) := by decide +kernel
theorem d_Sh_narrowed_32 : DC b_Sh_narrowed 32 (.iload_n 1) 1 33 := ⟨by decide +kernel, rfl⟩
theorem d_Sh_narrowed_33 : DC b_Sh_narrowed 33 (.i2b) 1 34 := ⟨by decide +kernel, rfl⟩
theorem d_Sh_narrowed_34 : decode b_Sh_narrowed 34 = .ok (.ireturn, 1) := by decide +kernel
theorem d_Sh_narrowed_35 : DC b_Sh_narrowed 35 (.iload_n 1) 1 36 := ⟨by decide +kernel, rfl⟩
theorem d_Sh_narrowed_36 : DC b_Sh_narrowed 36 (.i2s) 1 37 := ⟨by decide +kernel, rfl⟩
theorem d_Sh_narrowed_37 : decode b_Sh_narrowed 37 = .ok (.ireturn, 1) := by decide +kernel
theorem d_Sh_narrowed_38 : DC b_Sh_narrowed 38 (.iload_n 1) 1 39 := ⟨by decide +kernel, rfl⟩
theorem d_Sh_narrowed_39 : decode b_Sh_narrowed 39 = .ok (.ireturn, 1) := by decide +kernel
theorem c_Sh_narrowed {l : Launch} {Y : Lay} (hY : IsX Y) {μ : Mem} {a0 : Nat} {x1 : Int32} (g0 : ykd Y a0 = 6 ∧ a0 < yn Y) {r : Int32} (hf : f_Sh_narrowed μ a0 x1 = some r) : Ct l Y y_Sh_narrowed b_Sh_narrowed 2 (some .int) 1 [.ref (yad Y a0), .int x1] (some (.int r)) μ μ := by
  refine ct_of (own := "TopYard$Sheet") (lv := [(0, .ref (yad Y a0)), (1, .int x1)]) (by decide +kernel) rfl (Nat.le_of_ble_eq_true rfl) rfl (fun X hl C => ?_)
  subst hl
  unfold f_Sh_narrowed at hf
  refine j_aload_n C d_Sh_narrowed_0 0 rfl ?_
  refine j_gI C fl_Sh_15 g0.1 g0.2 rfl d_Sh_narrowed_1 ?_
  refine j_key hf (fun hx1 hf => ?_) (fun hx1 hf => ?_)
  · refine j_look (tgt' := 32) (off := 28) C d_Sh_narrowed_4 (by decide) (by rw [hx1]; decide) (by decide) ?_
    refine j_iload_n C d_Sh_narrowed_32 1 rfl ?_
    refine j_i2b C d_Sh_narrowed_33 ?_
    obtain rfl := Option.some.inj hf
    exact j_iret C d_Sh_narrowed_34
  · refine j_key hf (fun hx2 hf => ?_) (fun hx2 hf => ?_)
    · refine j_look (tgt' := 35) (off := 31) C d_Sh_narrowed_4 (by decide) (by rw [hx2]; decide) (by decide) ?_
      refine j_iload_n C d_Sh_narrowed_35 1 rfl ?_
      refine j_i2s C d_Sh_narrowed_36 ?_
      obtain rfl := Option.some.inj hf
      exact j_iret C d_Sh_narrowed_37
    · refine j_look (tgt' := 38) (off := 34) C d_Sh_narrowed_4 (by decide) (by have qhx1 := sw_ne (z := 0) hx1 (by decide); have qhx2 := sw_ne (z := 1) hx2 (by decide); exact look_dflt _ (by simp; omega)) (by decide) ?_
      refine j_iload_n C d_Sh_narrowed_38 1 rfl ?_
      obtain rfl := Option.some.inj hf
      exact j_iret C d_Sh_narrowed_39
theorem d_Sh_store_0 : DC b_Sh_store 0 (.iload_n 1) 1 1 := ⟨by decide +kernel, rfl⟩
theorem d_Sh_store_1 : DB b_Sh_store 1 (.ifCond .lt 22) 22 23 4 := ⟨by decide +kernel, by decide, rfl⟩
theorem d_Sh_store_4 : DC b_Sh_store 4 (.iload_n 1) 1 5 := ⟨by decide +kernel, rfl⟩
theorem d_Sh_store_5 : DC b_Sh_store 5 (.aload_n 0) 1 6 := ⟨by decide +kernel, rfl⟩
theorem d_Sh_store_6 : DC b_Sh_store 6 (.getfield 19) 3 9 := ⟨by decide +kernel, rfl⟩
theorem d_Sh_store_9 : DB b_Sh_store 9 (.if_icmp .ge 14) 14 23 12 := ⟨by decide +kernel, by decide, rfl⟩
theorem d_Sh_store_12 : DC b_Sh_store 12 (.aload_n 0) 1 13 := ⟨by decide +kernel, rfl⟩
theorem d_Sh_store_13 : DC b_Sh_store 13 (.getfield 22) 3 16 := ⟨by decide +kernel, rfl⟩
theorem d_Sh_store_16 : DC b_Sh_store 16 (.iload_n 1) 1 17 := ⟨by decide +kernel, rfl⟩
theorem d_Sh_store_17 : DC b_Sh_store 17 (.aload_n 0) 1 18 := ⟨by decide +kernel, rfl⟩
theorem d_Sh_store_18 : DC b_Sh_store 18 (.iload_n 2) 1 19 := ⟨by decide +kernel, rfl⟩
theorem d_Sh_store_19 : DC b_Sh_store 19 (.invokevirtual 41) 3 22 := ⟨by decide +kernel, rfl⟩
theorem d_Sh_store_22 : DC b_Sh_store 22 (.iastore) 1 23 := ⟨by decide +kernel, rfl⟩
theorem d_Sh_store_23 : decode b_Sh_store 23 = .ok (.return_, 1) := by decide +kernel
theorem c_Sh_store {l : Launch} {Y : Lay} (hY : IsX Y) {μ : Mem} {a0 : Nat} {x1 : Int32} {x2 : Int32} (g0 : ykd Y a0 = 6 ∧ a0 < yn Y) {r : Mem} (hf : f_Sh_store μ a0 x1 x2 = some r) : Ct l Y y_Sh_store b_Sh_store 3 none 2 [.ref (yad Y a0), .int x1, .int x2] none μ r := by
  refine ct_of (own := "TopYard$Sheet") (lv := [(0, .ref (yad Y a0)), (1, .int x1), (2, .int x2)]) (by decide +kernel) rfl (Nat.le_of_ble_eq_true rfl) rfl (fun X hl C => ?_)
  subst hl
  unfold f_Sh_store at hf
  refine j_iload_n C d_Sh_store_0 1 rfl ?_
  refine j_if_lt C d_Sh_store_1 hf (fun hf => ?_) (fun hf => ?_)
  · obtain rfl := Option.some.inj hf
    exact j_vret C d_Sh_store_23
  · refine j_iload_n C d_Sh_store_4 1 rfl ?_
    refine j_aload_n C d_Sh_store_5 0 rfl ?_
    refine j_gI C fl_Sh_19 g0.1 g0.2 rfl d_Sh_store_6 ?_
    refine j_icmp_ge C d_Sh_store_9 hf (fun hf => ?_) (fun hf => ?_)
    · obtain rfl := Option.some.inj hf
      exact j_vret C d_Sh_store_23
    · refine j_aload_n C d_Sh_store_12 0 rfl ?_
      refine j_gS (b := (srX a0 3)) C fl_Sh_22 g0.1 g0.2 rfl hY.2.2.2.1 rfl (sX hY rfl) d_Sh_store_13 ?_
      refine j_iload_n C d_Sh_store_16 1 rfl ?_
      refine j_aload_n C d_Sh_store_17 0 rfl ?_
      refine j_iload_n C d_Sh_store_18 2 rfl ?_
      refine bd hf (fun v1 hc4 hf => ?_)
      refine j_cV (rest := [.int x1, .ref (yad Y (srX a0 3))]) C lk_Sh_41 (c_Sh_narrowed hY ⟨g0.1, g0.2⟩ hc4) rfl g0.1 g0.2 (by decide) rfl rfl (by decide) rfl (Nat.le_of_ble_eq_true rfl) d_Sh_store_19 ?_
      refine ck hf (fun hi2 hf => ?_)
      refine j_iast C (tbX_6_3 hY g0.1).1 (tbX_6_3 hY g0.1).2.1 (tbX_6_3 hY g0.1).2.2 hi2 d_Sh_store_22 hf (fun μ3 hf => ?_)
      obtain rfl := Option.some.inj hf
      exact j_vret C d_Sh_store_23
theorem d_X_put_0 : DC b_X_put 0 (.aload_n 0) 1 1 := ⟨by decide +kernel, rfl⟩
theorem d_X_put_1 : DC b_X_put 1 (.iload_n 1) 1 2 := ⟨by decide +kernel, rfl⟩
theorem d_X_put_2 : DC b_X_put 2 (.invokevirtual 267) 3 5 := ⟨by decide +kernel, rfl⟩
theorem d_X_put_5 : DC b_X_put 5 (.astore 5) 2 7 := ⟨by decide +kernel, rfl⟩
theorem d_X_put_7 : DC b_X_put 7 (.aload 5) 2 9 := ⟨by decide +kernel, rfl⟩
theorem d_X_put_9 : DB b_X_put 9 (.ifnull 10) 10 19 12 := ⟨by decide +kernel, by decide, rfl⟩
theorem d_X_put_12 : DC b_X_put 12 (.iload_n 2) 1 13 := ⟨by decide +kernel, rfl⟩
theorem d_X_put_13 : DC b_X_put 13 (.invokestatic 343) 3 16 := ⟨by decide +kernel, rfl⟩
theorem d_X_put_16 : DB b_X_put 16 (.ifCond .ne 6) 6 22 19 := ⟨by decide +kernel, by decide, rfl⟩
theorem d_X_put_19 : DC b_X_put 19 (.bipush (-2)) 2 21 := ⟨by decide +kernel, rfl⟩
theorem d_X_put_21 : decode b_X_put 21 = .ok (.ireturn, 1) := by decide +kernel
theorem d_X_put_22 : DC b_X_put 22 (.aload 5) 2 24 := ⟨by decide +kernel, rfl⟩
theorem d_X_put_24 : DC b_X_put 24 (.iload_n 2) 1 25 := ⟨by decide +kernel, rfl⟩
theorem d_X_put_25 : DC b_X_put 25 (.iload_n 3) 1 26 := ⟨by decide +kernel, rfl⟩
theorem d_X_put_26 : DC b_X_put 26 (.invokevirtual 348) 3 29 := ⟨by decide +kernel, rfl⟩
theorem d_X_put_29 : DC b_X_put 29 (.istore 6) 2 31 := ⟨by decide +kernel, rfl⟩
theorem d_X_put_31 : DC b_X_put 31 (.iload 6) 2 33 := ⟨by decide +kernel, rfl⟩
theorem d_X_put_33 : DB b_X_put 33 (.ifCond .eq 10) 10 43 36 := ⟨by decide +kernel, by decide, rfl⟩
theorem d_X_put_36 : DC b_X_put 36 (.aload_n 0) 1 37 := ⟨by decide +kernel, rfl⟩
theorem d_X_put_37 : DC b_X_put 37 (.iload 6) 2 39 := ⟨by decide +kernel, rfl⟩
theorem d_X_put_39 : DC b_X_put 39 (.invokevirtual 275) 3 42 := ⟨by decide +kernel, rfl⟩
theorem d_X_put_42 : decode b_X_put 42 = .ok (.ireturn, 1) := by decide +kernel
theorem d_X_put_43 : DC b_X_put 43 (.aload 5) 2 45 := ⟨by decide +kernel, rfl⟩
theorem d_X_put_45 : DC b_X_put 45 (.iload_n 3) 1 46 := ⟨by decide +kernel, rfl⟩
theorem d_X_put_46 : DC b_X_put 46 (.iload 4) 2 48 := ⟨by decide +kernel, rfl⟩
theorem d_X_put_48 : DC b_X_put 48 (.invokevirtual 351) 3 51 := ⟨by decide +kernel, rfl⟩
theorem d_X_put_51 : DC b_X_put 51 (.iconst 1) 1 52 := ⟨by decide +kernel, rfl⟩
theorem d_X_put_52 : decode b_X_put 52 = .ok (.ireturn, 1) := by decide +kernel
theorem c_X_put {l : Launch} {Y : Lay} (hY : IsX Y) {μ : Mem} {x1 : Int32} {x2 : Int32} {x3 : Int32} {x4 : Int32} {r : Int32 × Mem} (hf : f_X_put μ x1 x2 x3 x4 = some r) : Ct l Y y_X_put b_X_put 7 (some .int) 3 [.ref (yad Y 0), .int x1, .int x2, .int x3, .int x4] (some (.int r.1)) μ r.2 := by
  refine ct_of (own := "TopYard") (lv := [(0, .ref (yad Y 0)), (1, .int x1), (2, .int x2), (3, .int x3), (4, .int x4)]) (by decide +kernel) rfl (Nat.le_of_ble_eq_true rfl) rfl (fun X hl C => ?_)
  subst hl
  unfold f_X_put at hf
  refine j_aload_n C d_X_put_0 0 rfl ?_
  refine j_iload_n C d_X_put_1 1 rfl ?_
  refine bd hf (fun u1 hc12 hf => ?_)
  refine j_wt (fun hT hSt => ?_)
  have hu1 := rt_X_sheetAt hY hT hc12
  refine j_cV (rest := []) C lk_X_267 (c_X_sheetAt hY hc12) rfl (kX hY rfl) (nX hY (by decide)) (by decide) rfl rfl (by decide) rfl (Nat.le_of_ble_eq_true rfl) d_X_put_2 ?_
  refine j_astoreo (lvf := [(0, .ref (yad Y 0)), (1, .int x1), (2, .int x2), (3, .int x3), (4, .int x4)]) C d_X_put_5 (by decide) rfl ?_
  refine j_aloado C d_X_put_7 0 rfl ?_
  cases u1 with
  | none =>
    refine j_nul_t C d_X_put_9 ?_
    refine j_bipush (v := (-2)) C d_X_put_19 (by decide) ?_
    obtain rfl := Option.some.inj hf
    exact j_iret C d_X_put_21
  | some e2 =>
    refine j_nul_f C d_X_put_9 ?_
    refine j_iload_n C d_X_put_12 3 rfl ?_
    refine bd hf (fun v3 hc11 hf => ?_)
    refine j_cS (rest := []) C lk_X_343 (c_Sh_isForm hY hc11) rfl (by decide) rfl (Nat.le_of_ble_eq_true rfl) d_X_put_13 ?_
    refine j_if_ne C d_X_put_16 hf (fun hf => ?_) (fun hf => ?_)
    · refine j_aload C d_X_put_22 0 rfl ?_
      refine j_iload_n C d_X_put_24 3 rfl ?_
      refine j_iload_n C d_X_put_25 4 rfl ?_
      refine bd hf (fun v4 hc10 hf => ?_)
      refine j_cV (rest := []) C lk_X_348 (c_Sh_findingAt hY ⟨(hu1 e2 rfl).2, (hu1 e2 rfl).1⟩ hc10) rfl (hu1 e2 rfl).2 (hu1 e2 rfl).1 (by decide) rfl rfl (by decide) rfl (Nat.le_of_ble_eq_true rfl) d_X_put_26 ?_
      refine j_istore (lvf := [(5, .ref (yad Y e2)), (0, .ref (yad Y 0)), (1, .int x1), (2, .int x2), (3, .int x3), (4, .int x4)]) C d_X_put_29 (by decide) rfl ?_
      refine j_iload C d_X_put_31 0 rfl ?_
      refine j_if_eq C d_X_put_33 hf (fun hf => ?_) (fun hf => ?_)
      · refine j_aload C d_X_put_43 1 rfl ?_
        refine j_iload_n C d_X_put_45 5 rfl ?_
        refine j_iload C d_X_put_46 6 rfl ?_
        refine bd hf (fun μ5 hc6 hf => ?_)
        refine j_cV (rest := []) C lk_X_351 (c_Sh_store hY ⟨(hu1 e2 rfl).2, (hu1 e2 rfl).1⟩ hc6) rfl (hu1 e2 rfl).2 (hu1 e2 rfl).1 (by decide) rfl rfl (by decide) rfl (Nat.le_of_ble_eq_true rfl) d_X_put_48 ?_
        refine j_iconst (v := 1) C d_X_put_51 (by decide) ?_
        obtain rfl := Option.some.inj hf
        exact j_iret C d_X_put_52
      · refine j_aload_n C d_X_put_36 2 rfl ?_
        refine j_iload C d_X_put_37 0 rfl ?_
        refine bd2 hf (fun v7 μ8 hc9 hf => ?_)
        refine j_cV (rest := []) C lk_X_275 (c_X_find hY hc9) rfl (kX hY rfl) (nX hY (by decide)) (by decide) rfl rfl (by decide) rfl (Nat.le_of_ble_eq_true rfl) d_X_put_39 ?_
        obtain rfl := Option.some.inj hf
        exact j_iret C d_X_put_42
    · refine j_bipush (v := (-2)) C d_X_put_19 (by decide) ?_
      obtain rfl := Option.some.inj hf
      exact j_iret C d_X_put_21
theorem d_X_get_0 : DC b_X_get 0 (.aload_n 0) 1 1 := ⟨by decide +kernel, rfl⟩
theorem d_X_get_1 : DC b_X_get 1 (.iload_n 1) 1 2 := ⟨by decide +kernel, rfl⟩
theorem d_X_get_2 : DC b_X_get 2 (.invokevirtual 267) 3 5 := ⟨by decide +kernel, rfl⟩
theorem d_X_get_5 : DC b_X_get 5 (.astore 4) 2 7 := ⟨by decide +kernel, rfl⟩
theorem d_X_get_7 : DC b_X_get 7 (.aload 4) 2 9 := ⟨by decide +kernel, rfl⟩
theorem d_X_get_9 : DB b_X_get 9 (.ifnull 10) 10 19 12 := ⟨by decide +kernel, by decide, rfl⟩
theorem d_X_get_12 : DC b_X_get 12 (.iload_n 2) 1 13 := ⟨by decide +kernel, rfl⟩
theorem d_X_get_13 : DC b_X_get 13 (.invokestatic 343) 3 16 := ⟨by decide +kernel, rfl⟩
theorem d_X_get_16 : DB b_X_get 16 (.ifCond .ne 6) 6 22 19 := ⟨by decide +kernel, by decide, rfl⟩
theorem d_X_get_19 : DC b_X_get 19 (.ldc 151) 2 21 := ⟨by decide +kernel, rfl⟩
theorem d_X_get_21 : decode b_X_get 21 = .ok (.ireturn, 1) := by decide +kernel
theorem d_X_get_22 : DC b_X_get 22 (.aload 4) 2 24 := ⟨by decide +kernel, rfl⟩
theorem d_X_get_24 : DC b_X_get 24 (.iload_n 2) 1 25 := ⟨by decide +kernel, rfl⟩
theorem d_X_get_25 : DC b_X_get 25 (.iload_n 3) 1 26 := ⟨by decide +kernel, rfl⟩
theorem d_X_get_26 : DC b_X_get 26 (.invokevirtual 348) 3 29 := ⟨by decide +kernel, rfl⟩
theorem d_X_get_29 : DC b_X_get 29 (.istore 5) 2 31 := ⟨by decide +kernel, rfl⟩
theorem d_X_get_31 : DC b_X_get 31 (.iload 5) 2 33 := ⟨by decide +kernel, rfl⟩
theorem d_X_get_33 : DB b_X_get 33 (.ifCond .eq 13) 13 46 36 := ⟨by decide +kernel, by decide, rfl⟩
theorem d_X_get_36 : DC b_X_get 36 (.aload_n 0) 1 37 := ⟨by decide +kernel, rfl⟩
theorem d_X_get_37 : DC b_X_get 37 (.iload 5) 2 39 := ⟨by decide +kernel, rfl⟩
theorem d_X_get_39 : DC b_X_get 39 (.invokevirtual 275) 3 42 := ⟨by decide +kernel, rfl⟩
theorem d_X_get_42 : DC b_X_get 42 (.pop) 1 43 := ⟨by decide +kernel, rfl⟩
theorem d_X_get_43 : DC b_X_get 43 (.ldc 151) 2 45 := ⟨by decide +kernel, rfl⟩
theorem d_X_get_45 : decode b_X_get 45 = .ok (.ireturn, 1) := by decide +kernel
theorem d_X_get_46 : DC b_X_get 46 (.aload 4) 2 48 := ⟨by decide +kernel, rfl⟩
theorem d_X_get_48 : DC b_X_get 48 (.iload_n 3) 1 49 := ⟨by decide +kernel, rfl⟩
theorem d_X_get_49 : DC b_X_get 49 (.invokevirtual 281) 3 52 := ⟨by decide +kernel, rfl⟩
theorem d_X_get_52 : decode b_X_get 52 = .ok (.ireturn, 1) := by decide +kernel
theorem c_X_get {l : Launch} {Y : Lay} (hY : IsX Y) {μ : Mem} {x1 : Int32} {x2 : Int32} {x3 : Int32} {r : Int32 × Mem} (hf : f_X_get μ x1 x2 x3 = some r) : Ct l Y y_X_get b_X_get 6 (some .int) 2 [.ref (yad Y 0), .int x1, .int x2, .int x3] (some (.int r.1)) μ r.2 := by
  refine ct_of (own := "TopYard") (lv := [(0, .ref (yad Y 0)), (1, .int x1), (2, .int x2), (3, .int x3)]) (by decide +kernel) rfl (Nat.le_of_ble_eq_true rfl) rfl (fun X hl C => ?_)
  subst hl
  unfold f_X_get at hf
  refine j_aload_n C d_X_get_0 0 rfl ?_
  refine j_iload_n C d_X_get_1 1 rfl ?_
  refine bd hf (fun u1 hc12 hf => ?_)
  refine j_wt (fun hT hSt => ?_)
  have hu1 := rt_X_sheetAt hY hT hc12
  refine j_cV (rest := []) C lk_X_267 (c_X_sheetAt hY hc12) rfl (kX hY rfl) (nX hY (by decide)) (by decide) rfl rfl (by decide) rfl (Nat.le_of_ble_eq_true rfl) d_X_get_2 ?_
  refine j_astoreo (lvf := [(0, .ref (yad Y 0)), (1, .int x1), (2, .int x2), (3, .int x3)]) C d_X_get_5 (by decide) rfl ?_
  refine j_aloado C d_X_get_7 0 rfl ?_
  cases u1 with
  | none =>
    refine j_nul_t C d_X_get_9 ?_
    refine j_ldc (v := (-2147483648)) C d_X_get_19 wd_15 ?_
    obtain rfl := Option.some.inj hf
    exact j_iret C d_X_get_21
  | some e2 =>
    refine j_nul_f C d_X_get_9 ?_
    refine j_iload_n C d_X_get_12 3 rfl ?_
    refine bd hf (fun v3 hc11 hf => ?_)
    refine j_cS (rest := []) C lk_X_343 (c_Sh_isForm hY hc11) rfl (by decide) rfl (Nat.le_of_ble_eq_true rfl) d_X_get_13 ?_
    refine j_if_ne C d_X_get_16 hf (fun hf => ?_) (fun hf => ?_)
    · refine j_aload C d_X_get_22 0 rfl ?_
      refine j_iload_n C d_X_get_24 3 rfl ?_
      refine j_iload_n C d_X_get_25 4 rfl ?_
      refine bd hf (fun v4 hc10 hf => ?_)
      refine j_cV (rest := []) C lk_X_348 (c_Sh_findingAt hY ⟨(hu1 e2 rfl).2, (hu1 e2 rfl).1⟩ hc10) rfl (hu1 e2 rfl).2 (hu1 e2 rfl).1 (by decide) rfl rfl (by decide) rfl (Nat.le_of_ble_eq_true rfl) d_X_get_26 ?_
      refine j_istore (lvf := [(4, .ref (yad Y e2)), (0, .ref (yad Y 0)), (1, .int x1), (2, .int x2), (3, .int x3)]) C d_X_get_29 (by decide) rfl ?_
      refine j_iload C d_X_get_31 0 rfl ?_
      refine j_if_eq C d_X_get_33 hf (fun hf => ?_) (fun hf => ?_)
      · refine j_aload C d_X_get_46 1 rfl ?_
        refine j_iload_n C d_X_get_48 5 rfl ?_
        refine bd hf (fun v5 hc6 hf => ?_)
        refine j_cV (rest := []) C lk_X_281 (c_Sh_item hY ⟨(hu1 e2 rfl).2, (hu1 e2 rfl).1⟩ hc6) rfl (hu1 e2 rfl).2 (hu1 e2 rfl).1 (by decide) rfl rfl (by decide) rfl (Nat.le_of_ble_eq_true rfl) d_X_get_49 ?_
        obtain rfl := Option.some.inj hf
        exact j_iret C d_X_get_52
      · refine j_aload_n C d_X_get_36 2 rfl ?_
        refine j_iload C d_X_get_37 0 rfl ?_
        refine bd2 hf (fun v7 μ8 hc9 hf => ?_)
        refine j_cV (rest := []) C lk_X_275 (c_X_find hY hc9) rfl (kX hY rfl) (nX hY (by decide)) (by decide) rfl rfl (by decide) rfl (Nat.le_of_ble_eq_true rfl) d_X_get_39 ?_
        refine j_pop C d_X_get_42 rfl ?_
        refine j_ldc (v := (-2147483648)) C d_X_get_43 wd_15 ?_
        obtain rfl := Option.some.inj hf
        exact j_iret C d_X_get_45
    · refine j_ldc (v := (-2147483648)) C d_X_get_19 wd_15 ?_
      obtain rfl := Option.some.inj hf
      exact j_iret C d_X_get_21
theorem d_Sh_spans_0 : DC b_Sh_spans 0 (.iload_n 1) 1 1 := ⟨by decide +kernel, rfl⟩
theorem d_Sh_spans_1 : DB b_Sh_spans 1 (.ifCond .lt 25) 25 26 4 := ⟨by decide +kernel, by decide, rfl⟩
theorem d_Sh_spans_4 : DC b_Sh_spans 4 (.iload_n 2) 1 5 := ⟨by decide +kernel, rfl⟩
theorem d_Sh_spans_5 : DB b_Sh_spans 5 (.ifCond .lt 21) 21 26 8 := ⟨by decide +kernel, by decide, rfl⟩
theorem d_Sh_spans_8 : DC b_Sh_spans 8 (.iload_n 1) 1 9 := ⟨by decide +kernel, rfl⟩
theorem d_Sh_spans_9 : DC b_Sh_spans 9 (.i2l) 1 10 := ⟨by decide +kernel, rfl⟩
theorem d_Sh_spans_10 : DC b_Sh_spans 10 (.iload_n 2) 1 11 := ⟨by decide +kernel, rfl⟩
theorem d_Sh_spans_11 : DC b_Sh_spans 11 (.i2l) 1 12 := ⟨by decide +kernel, rfl⟩
theorem d_Sh_spans_12 : DC b_Sh_spans 12 (.ladd) 1 13 := ⟨by decide +kernel, rfl⟩
theorem d_Sh_spans_13 : DC b_Sh_spans 13 (.aload_n 0) 1 14 := ⟨by decide +kernel, rfl⟩
theorem d_Sh_spans_14 : DC b_Sh_spans 14 (.getfield 19) 3 17 := ⟨by decide +kernel, rfl⟩
theorem d_Sh_spans_17 : DC b_Sh_spans 17 (.i2l) 1 18 := ⟨by decide +kernel, rfl⟩
theorem d_Sh_spans_18 : DC b_Sh_spans 18 (.lcmp) 1 19 := ⟨by decide +kernel, rfl⟩
theorem d_Sh_spans_19 : DB b_Sh_spans 19 (.ifCond .gt 7) 7 26 22 := ⟨by decide +kernel, by decide, rfl⟩
theorem d_Sh_spans_22 : DC b_Sh_spans 22 (.iconst 1) 1 23 := ⟨by decide +kernel, rfl⟩
theorem d_Sh_spans_23 : DB b_Sh_spans 23 (.goto 4) 4 27 26 := ⟨by decide +kernel, by decide, rfl⟩
theorem d_Sh_spans_26 : DC b_Sh_spans 26 (.iconst 0) 1 27 := ⟨by decide +kernel, rfl⟩
theorem d_Sh_spans_27 : decode b_Sh_spans 27 = .ok (.ireturn, 1) := by decide +kernel
theorem c_Sh_spans {l : Launch} {Y : Lay} (hY : IsX Y) {μ : Mem} {a0 : Nat} {x1 : Int32} {x2 : Int32} (g0 : ykd Y a0 = 6 ∧ a0 < yn Y) {r : Int32} (hf : f_Sh_spans μ a0 x1 x2 = some r) : Ct l Y y_Sh_spans b_Sh_spans 3 (some .boolean) 1 [.ref (yad Y a0), .int x1, .int x2] (some (.int r)) μ μ := by
  refine ct_of (own := "TopYard$Sheet") (lv := [(0, .ref (yad Y a0)), (1, .int x1), (2, .int x2)]) (by decide +kernel) rfl (Nat.le_of_ble_eq_true rfl) rfl (fun X hl C => ?_)
  subst hl
  unfold f_Sh_spans at hf
  refine j_iload_n C d_Sh_spans_0 1 rfl ?_
  refine j_if_lt C d_Sh_spans_1 hf (fun hf => ?_) (fun hf => ?_)
  · refine j_iconst (v := 0) C d_Sh_spans_26 (by decide) ?_
    obtain rfl := Option.some.inj hf
    exact j_zret C (Or.inl rfl) d_Sh_spans_27
  · refine j_iload_n C d_Sh_spans_4 2 rfl ?_
    refine j_if_lt C d_Sh_spans_5 hf (fun hf => ?_) (fun hf => ?_)
    · refine j_iconst (v := 0) C d_Sh_spans_26 (by decide) ?_
      obtain rfl := Option.some.inj hf
      exact j_zret C (Or.inl rfl) d_Sh_spans_27
    · refine j_iload_n C d_Sh_spans_8 1 rfl ?_
      refine j_i2l C d_Sh_spans_9 ?_
      refine j_iload_n C d_Sh_spans_10 2 rfl ?_
      refine j_i2l C d_Sh_spans_11 ?_
      refine j_ladd C d_Sh_spans_12 ?_
      refine j_aload_n C d_Sh_spans_13 0 rfl ?_
      refine j_gI C fl_Sh_19 g0.1 g0.2 rfl d_Sh_spans_14 ?_
      refine j_i2l C d_Sh_spans_17 ?_
      refine j_lcmp_gt C d_Sh_spans_18 d_Sh_spans_19 hf (fun hf => ?_) (fun hf => ?_)
      · refine j_iconst (v := 0) C d_Sh_spans_26 (by decide) ?_
        obtain rfl := Option.some.inj hf
        exact j_zret C (Or.inl rfl) d_Sh_spans_27
      · refine j_iconst (v := 1) C d_Sh_spans_22 (by decide) ?_
        refine j_goto C d_Sh_spans_23 ?_
        obtain rfl := Option.some.inj hf
        exact j_zret C (Or.inr rfl) d_Sh_spans_27
theorem d_X_copy_0 : DC b_X_copy 0 (.aload_n 0) 1 1 := ⟨by decide +kernel, rfl⟩
theorem d_X_copy_1 : DC b_X_copy 1 (.iload_n 1) 1 2 := ⟨by decide +kernel, rfl⟩
theorem d_X_copy_2 : DC b_X_copy 2 (.invokevirtual 267) 3 5 := ⟨by decide +kernel, rfl⟩
theorem d_X_copy_5 : DC b_X_copy 5 (.astore 6) 2 7 := ⟨by decide +kernel, rfl⟩
theorem d_X_copy_7 : DC b_X_copy 7 (.aload_n 0) 1 8 := ⟨by decide +kernel, rfl⟩
theorem d_X_copy_8 : DC b_X_copy 8 (.iload_n 3) 1 9 := ⟨by decide +kernel, rfl⟩
theorem d_X_copy_9 : DC b_X_copy 9 (.invokevirtual 267) 3 12 := ⟨by decide +kernel, rfl⟩
theorem d_X_copy_12 : DC b_X_copy 12 (.astore 7) 2 14 := ⟨by decide +kernel, rfl⟩
theorem d_X_copy_14 : DC b_X_copy 14 (.aload 6) 2 16 := ⟨by decide +kernel, rfl⟩
theorem d_X_copy_16 : DB b_X_copy 16 (.ifnull 8) 8 24 19 := ⟨by decide +kernel, by decide, rfl⟩
theorem d_X_copy_19 : DC b_X_copy 19 (.aload 7) 2 21 := ⟨by decide +kernel, rfl⟩
theorem d_X_copy_21 : DB b_X_copy 21 (.ifnonnull 6) 6 27 24 := ⟨by decide +kernel, by decide, rfl⟩
theorem d_X_copy_24 : DC b_X_copy 24 (.bipush (-2)) 2 26 := ⟨by decide +kernel, rfl⟩
theorem d_X_copy_26 : decode b_X_copy 26 = .ok (.ireturn, 1) := by decide +kernel
theorem d_X_copy_27 : DC b_X_copy 27 (.aload 6) 2 29 := ⟨by decide +kernel, rfl⟩
theorem d_X_copy_29 : DC b_X_copy 29 (.getfield 271) 3 32 := ⟨by decide +kernel, rfl⟩
theorem d_X_copy_32 : DB b_X_copy 32 (.ifCond .ne 11) 11 43 35 := ⟨by decide +kernel, by decide, rfl⟩
theorem d_X_copy_35 : DC b_X_copy 35 (.aload 7) 2 37 := ⟨by decide +kernel, rfl⟩
theorem d_X_copy_37 : DC b_X_copy 37 (.getfield 271) 3 40 := ⟨by decide +kernel, rfl⟩
theorem d_X_copy_40 : DB b_X_copy 40 (.ifCond .eq 9) 9 49 43 := ⟨by decide +kernel, by decide, rfl⟩
theorem d_X_copy_43 : DC b_X_copy 43 (.aload_n 0) 1 44 := ⟨by decide +kernel, rfl⟩
theorem d_X_copy_44 : DC b_X_copy 44 (.iconst 1) 1 45 := ⟨by decide +kernel, rfl⟩
theorem d_X_copy_45 : DC b_X_copy 45 (.invokevirtual 275) 3 48 := ⟨by decide +kernel, rfl⟩
theorem d_X_copy_48 : decode b_X_copy 48 = .ok (.ireturn, 1) := by decide +kernel
theorem d_X_copy_49 : DC b_X_copy 49 (.aload 6) 2 51 := ⟨by decide +kernel, rfl⟩
theorem d_X_copy_51 : DC b_X_copy 51 (.getfield 354) 3 54 := ⟨by decide +kernel, rfl⟩
theorem d_X_copy_54 : DC b_X_copy 54 (.aload 7) 2 56 := ⟨by decide +kernel, rfl⟩
theorem d_X_copy_56 : DC b_X_copy 56 (.getfield 354) 3 59 := ⟨by decide +kernel, rfl⟩
theorem d_X_copy_59 : DB b_X_copy 59 (.if_icmp .eq 9) 9 68 62 := ⟨by decide +kernel, by decide, rfl⟩
theorem d_X_copy_62 : DC b_X_copy 62 (.aload_n 0) 1 63 := ⟨by decide +kernel, rfl⟩
theorem d_X_copy_63 : DC b_X_copy 63 (.iconst 4) 1 64 := ⟨by decide +kernel, rfl⟩
theorem d_X_copy_64 : DC b_X_copy 64 (.invokevirtual 275) 3 67 := ⟨by decide +kernel, rfl⟩
theorem d_X_copy_67 : decode b_X_copy 67 = .ok (.ireturn, 1) := by decide +kernel
theorem d_X_copy_68 : DC b_X_copy 68 (.aload 6) 2 70 := ⟨by decide +kernel, rfl⟩
theorem d_X_copy_70 : DC b_X_copy 70 (.iload_n 2) 1 71 := ⟨by decide +kernel, rfl⟩
theorem d_X_copy_71 : DC b_X_copy 71 (.iload 5) 2 73 := ⟨by decide +kernel, rfl⟩
theorem d_X_copy_73 : DC b_X_copy 73 (.invokevirtual 357) 3 76 := ⟨by decide +kernel, rfl⟩
theorem d_X_copy_76 : DB b_X_copy 76 (.ifCond .eq 15) 15 91 79 := ⟨by decide +kernel, by decide, rfl⟩
theorem d_X_copy_79 : DC b_X_copy 79 (.aload 7) 2 81 := ⟨by decide +kernel, rfl⟩
theorem d_X_copy_81 : DC b_X_copy 81 (.iload 4) 2 83 := ⟨by decide +kernel, rfl⟩
theorem d_X_copy_83 : DC b_X_copy 83 (.iload 5) 2 85 := ⟨by decide +kernel, rfl⟩
theorem d_X_copy_85 : DC b_X_copy 85 (.invokevirtual 357) 3 88 := ⟨by decide +kernel, rfl⟩
theorem d_X_copy_88 : DB b_X_copy 88 (.ifCond .ne 9) 9 97 91 := ⟨by decide +kernel, by decide, rfl⟩
theorem d_X_copy_91 : DC b_X_copy 91 (.aload_n 0) 1 92 := ⟨by decide +kernel, rfl⟩
theorem d_X_copy_92 : DC b_X_copy 92 (.iconst 2) 1 93 := ⟨by decide +kernel, rfl⟩
theorem d_X_copy_93 : DC b_X_copy 93 (.invokevirtual 275) 3 96 := ⟨by decide +kernel, rfl⟩
theorem d_X_copy_96 : decode b_X_copy 96 = .ok (.ireturn, 1) := by decide +kernel
theorem d_X_copy_97 : DC b_X_copy 97 (.aload 6) 2 99 := ⟨by decide +kernel, rfl⟩
theorem d_X_copy_99 : DC b_X_copy 99 (.getfield 360) 3 102 := ⟨by decide +kernel, rfl⟩
theorem d_X_copy_102 : DC b_X_copy 102 (.iload_n 2) 1 103 := ⟨by decide +kernel, rfl⟩
theorem d_X_copy_103 : DC b_X_copy 103 (.aload 7) 2 105 := ⟨by decide +kernel, rfl⟩
theorem d_X_copy_105 : DC b_X_copy 105 (.getfield 360) 3 108 := ⟨by decide +kernel, rfl⟩
theorem d_X_copy_108 : DC b_X_copy 108 (.iload 4) 2 110 := ⟨by decide +kernel, rfl⟩
theorem d_X_copy_110 : DC b_X_copy 110 (.iload 5) 2 112 := ⟨by decide +kernel, rfl⟩
theorem d_X_copy_112 : DC b_X_copy 112 (.invokestatic 363) 3 115 := ⟨by decide +kernel, rfl⟩
theorem d_X_copy_115 : DC b_X_copy 115 (.iconst 1) 1 116 := ⟨by decide +kernel, rfl⟩
theorem d_X_copy_116 : decode b_X_copy 116 = .ok (.ireturn, 1) := by decide +kernel
theorem w_X_copy_b43 {X : Ctx} {Y : Lay} (hY : IsX Y) (C : Cx X Y b_X_copy 8 (some .int) "TopYard" 2) {r : Int32 × Mem} (μ : Mem) (hf : f_X_copy_b43 μ = some r) : J X Y (some (.int r.1)) r.2 8 43 [(0, .ref (yad Y 0))] [] μ := by
  unfold f_X_copy_b43 at hf
  refine j_aload_n C d_X_copy_43 0 rfl ?_
  refine j_iconst (v := 1) C d_X_copy_44 (by decide) ?_
  refine bd2 hf (fun v1 μ2 hc3 hf => ?_)
  refine j_cV (rest := []) C lk_X_275 (c_X_find hY hc3) rfl (kX hY rfl) (nX hY (by decide)) (by decide) rfl rfl (by decide) rfl (Nat.le_of_ble_eq_true rfl) d_X_copy_45 ?_
  obtain rfl := Option.some.inj hf
  exact j_iret C d_X_copy_48
theorem w_X_copy_b91 {X : Ctx} {Y : Lay} (hY : IsX Y) (C : Cx X Y b_X_copy 8 (some .int) "TopYard" 2) {r : Int32 × Mem} (μ : Mem) (hf : f_X_copy_b91 μ = some r) : J X Y (some (.int r.1)) r.2 8 91 [(0, .ref (yad Y 0))] [] μ := by
  unfold f_X_copy_b91 at hf
  refine j_aload_n C d_X_copy_91 0 rfl ?_
  refine j_iconst (v := 2) C d_X_copy_92 (by decide) ?_
  refine bd2 hf (fun v1 μ2 hc3 hf => ?_)
  refine j_cV (rest := []) C lk_X_275 (c_X_find hY hc3) rfl (kX hY rfl) (nX hY (by decide)) (by decide) rfl rfl (by decide) rfl (Nat.le_of_ble_eq_true rfl) d_X_copy_93 ?_
  obtain rfl := Option.some.inj hf
  exact j_iret C d_X_copy_96
theorem c_X_copy {l : Launch} {Y : Lay} (hY : IsX Y) {μ : Mem} {x1 : Int32} {x2 : Int32} {x3 : Int32} {x4 : Int32} {x5 : Int32} {r : Int32 × Mem} (hf : f_X_copy μ x1 x2 x3 x4 x5 = some r) : Ct l Y y_X_copy b_X_copy 8 (some .int) 2 [.ref (yad Y 0), .int x1, .int x2, .int x3, .int x4, .int x5] (some (.int r.1)) μ r.2 := by
  refine ct_of (own := "TopYard") (lv := [(0, .ref (yad Y 0)), (1, .int x1), (2, .int x2), (3, .int x3), (4, .int x4), (5, .int x5)]) (by decide +kernel) rfl (Nat.le_of_ble_eq_true rfl) rfl (fun X hl C => ?_)
  subst hl
  unfold f_X_copy at hf
  refine j_aload_n C d_X_copy_0 0 rfl ?_
  refine j_iload_n C d_X_copy_1 1 rfl ?_
  refine bd hf (fun u1 hc15 hf => ?_)
  refine j_wt (fun hT hSt => ?_)
  have hu1 := rt_X_sheetAt hY hT hc15
  refine j_cV (rest := []) C lk_X_267 (c_X_sheetAt hY hc15) rfl (kX hY rfl) (nX hY (by decide)) (by decide) rfl rfl (by decide) rfl (Nat.le_of_ble_eq_true rfl) d_X_copy_2 ?_
  refine j_astoreo (lvf := [(0, .ref (yad Y 0)), (1, .int x1), (2, .int x2), (3, .int x3), (4, .int x4), (5, .int x5)]) C d_X_copy_5 (by decide) rfl ?_
  refine j_aload_n C d_X_copy_7 1 rfl ?_
  refine j_iload_n C d_X_copy_8 4 rfl ?_
  refine bd hf (fun u2 hc14 hf => ?_)
  refine j_wt (fun hT hSt => ?_)
  have hu2 := rt_X_sheetAt hY hT hc14
  refine j_cV (rest := []) C lk_X_267 (c_X_sheetAt hY hc14) rfl (kX hY rfl) (nX hY (by decide)) (by decide) rfl rfl (by decide) rfl (Nat.le_of_ble_eq_true rfl) d_X_copy_9 ?_
  refine j_astoreo (lvf := [(6, va_rf (Option.map (yad Y) u1)), (0, .ref (yad Y 0)), (1, .int x1), (2, .int x2), (3, .int x3), (4, .int x4), (5, .int x5)]) C d_X_copy_12 (by decide) (by simp [rf_cat]) ?_
  refine j_aloado C d_X_copy_14 1 rfl ?_
  cases u1 with
  | none =>
    refine j_nul_t C d_X_copy_16 ?_
    refine j_bipush (v := (-2)) C d_X_copy_24 (by decide) ?_
    obtain rfl := Option.some.inj hf
    exact j_iret C d_X_copy_26
  | some e3 =>
    refine j_nul_f C d_X_copy_16 ?_
    refine j_aloado C d_X_copy_19 0 rfl ?_
    cases u2 with
    | none =>
      refine j_nnul_f C d_X_copy_21 ?_
      refine j_bipush (v := (-2)) C d_X_copy_24 (by decide) ?_
      obtain rfl := Option.some.inj hf
      exact j_iret C d_X_copy_26
    | some e4 =>
      refine j_nnul_t C d_X_copy_21 ?_
      refine j_aload C d_X_copy_27 1 rfl ?_
      refine j_gI C fl_X_271 (hu1 e3 rfl).2 (hu1 e3 rfl).1 rfl d_X_copy_29 ?_
      refine j_if_ne C d_X_copy_32 hf (fun hf => ?_) (fun hf => ?_)
      · refine j_sub [2] rfl ?_
        exact w_X_copy_b43 hY C μ hf
      · refine j_aload C d_X_copy_35 0 rfl ?_
        refine j_gI C fl_X_271 (hu2 e4 rfl).2 (hu2 e4 rfl).1 rfl d_X_copy_37 ?_
        refine j_if_eq C d_X_copy_40 hf (fun hf => ?_) (fun hf => ?_)
        · refine j_aload C d_X_copy_49 1 rfl ?_
          refine j_gI C fl_X_354 (hu1 e3 rfl).2 (hu1 e3 rfl).1 rfl d_X_copy_51 ?_
          refine j_aload C d_X_copy_54 0 rfl ?_
          refine j_gI C fl_X_354 (hu2 e4 rfl).2 (hu2 e4 rfl).1 rfl d_X_copy_56 ?_
          refine j_icmp_eq C d_X_copy_59 hf (fun hf => ?_) (fun hf => ?_)
          · refine j_aload C d_X_copy_68 1 rfl ?_
            refine j_iload_n C d_X_copy_70 4 rfl ?_
            refine j_iload C d_X_copy_71 7 rfl ?_
            refine bd hf (fun v5 hc10 hf => ?_)
            refine j_cV (rest := []) C lk_X_357 (c_Sh_spans hY ⟨(hu1 e3 rfl).2, (hu1 e3 rfl).1⟩ hc10) rfl (hu1 e3 rfl).2 (hu1 e3 rfl).1 (by decide) rfl rfl (by decide) rfl (Nat.le_of_ble_eq_true rfl) d_X_copy_73 ?_
            refine j_if_eq C d_X_copy_76 hf (fun hf => ?_) (fun hf => ?_)
            · refine j_sub [2] rfl ?_
              exact w_X_copy_b91 hY C μ hf
            · refine j_aload C d_X_copy_79 0 rfl ?_
              refine j_iload C d_X_copy_81 6 rfl ?_
              refine j_iload C d_X_copy_83 7 rfl ?_
              refine bd hf (fun v6 hc9 hf => ?_)
              refine j_cV (rest := []) C lk_X_357 (c_Sh_spans hY ⟨(hu2 e4 rfl).2, (hu2 e4 rfl).1⟩ hc9) rfl (hu2 e4 rfl).2 (hu2 e4 rfl).1 (by decide) rfl rfl (by decide) rfl (Nat.le_of_ble_eq_true rfl) d_X_copy_85 ?_
              refine j_if_ne C d_X_copy_88 hf (fun hf => ?_) (fun hf => ?_)
              · refine j_aload C d_X_copy_97 1 rfl ?_
                refine j_gS (b := (srX e3 3)) C fl_X_360 (hu1 e3 rfl).2 (hu1 e3 rfl).1 rfl hY.2.2.2.1 rfl (sX hY rfl) d_X_copy_99 ?_
                refine j_iload_n C d_X_copy_102 4 rfl ?_
                refine j_aload C d_X_copy_103 0 rfl ?_
                refine j_gS (b := (srX e4 3)) C fl_X_360 (hu2 e4 rfl).2 (hu2 e4 rfl).1 rfl hY.2.2.2.1 rfl (sX hY rfl) d_X_copy_105 ?_
                refine j_iload C d_X_copy_108 6 rfl ?_
                refine j_iload C d_X_copy_110 7 rfl ?_
                refine ck hf (fun hi7 hf => ?_)
                refine j_copyI (rest := []) C wd_141 cp_nat cp_st cp_in (tbX_6_3 hY (hu1 e3 rfl).2).1 (tbX_6_3 hY (hu1 e3 rfl).2).2.1 (tbX_6_3 hY (hu1 e3 rfl).2).2.2 (tbX_6_3 hY (hu2 e4 rfl).2).1 (tbX_6_3 hY (hu2 e4 rfl).2).2.1 (tbX_6_3 hY (hu2 e4 rfl).2).2.2 hi7 ⟨Nat.le_of_ble_eq_true rfl, Nat.le_of_ble_eq_true rfl⟩ rfl d_X_copy_112 hf (fun μ8 hf => ?_)
                refine j_iconst (v := 1) C d_X_copy_115 (by decide) ?_
                obtain rfl := Option.some.inj hf
                exact j_iret C d_X_copy_116
              · refine j_sub [2] rfl ?_
                exact w_X_copy_b91 hY C μ hf
          · refine j_aload_n C d_X_copy_62 2 rfl ?_
            refine j_iconst (v := 4) C d_X_copy_63 (by decide) ?_
            refine bd2 hf (fun v11 μ12 hc13 hf => ?_)
            refine j_cV (rest := []) C lk_X_275 (c_X_find hY hc13) rfl (kX hY rfl) (nX hY (by decide)) (by decide) rfl rfl (by decide) rfl (Nat.le_of_ble_eq_true rfl) d_X_copy_64 ?_
            obtain rfl := Option.some.inj hf
            exact j_iret C d_X_copy_67
        · refine j_sub [2] rfl ?_
          exact w_X_copy_b43 hY C μ hf
theorem d_X_write_0 : DC b_X_write 0 (.aload_n 0) 1 1 := ⟨by decide +kernel, rfl⟩
theorem d_X_write_1 : DC b_X_write 1 (.iload_n 1) 1 2 := ⟨by decide +kernel, rfl⟩
theorem d_X_write_2 : DC b_X_write 2 (.invokevirtual 267) 3 5 := ⟨by decide +kernel, rfl⟩
theorem d_X_write_5 : DC b_X_write 5 (.astore_n 3) 1 6 := ⟨by decide +kernel, rfl⟩
theorem d_X_write_6 : DC b_X_write 6 (.aload_n 3) 1 7 := ⟨by decide +kernel, rfl⟩
theorem d_X_write_7 : DB b_X_write 7 (.ifnull 14) 14 21 10 := ⟨by decide +kernel, by decide, rfl⟩
theorem d_X_write_10 : DC b_X_write 10 (.iload_n 2) 1 11 := ⟨by decide +kernel, rfl⟩
theorem d_X_write_11 : DC b_X_write 11 (.iconst 0) 1 12 := ⟨by decide +kernel, rfl⟩
theorem d_X_write_12 : DC b_X_write 12 (.sipush 400) 3 15 := ⟨by decide +kernel, rfl⟩
theorem d_X_write_15 : DC b_X_write 15 (.invokestatic 90) 3 18 := ⟨by decide +kernel, rfl⟩
theorem d_X_write_18 : DB b_X_write 18 (.ifCond .ne 6) 6 24 21 := ⟨by decide +kernel, by decide, rfl⟩
theorem d_X_write_21 : DC b_X_write 21 (.bipush (-2)) 2 23 := ⟨by decide +kernel, rfl⟩
theorem d_X_write_23 : decode b_X_write 23 = .ok (.ireturn, 1) := by decide +kernel
theorem d_X_write_24 : DC b_X_write 24 (.aload_n 3) 1 25 := ⟨by decide +kernel, rfl⟩
theorem d_X_write_25 : DC b_X_write 25 (.getfield 271) 3 28 := ⟨by decide +kernel, rfl⟩
theorem d_X_write_28 : DB b_X_write 28 (.ifCond .eq 9) 9 37 31 := ⟨by decide +kernel, by decide, rfl⟩
theorem d_X_write_31 : DC b_X_write 31 (.aload_n 0) 1 32 := ⟨by decide +kernel, rfl⟩
theorem d_X_write_32 : DC b_X_write 32 (.iconst 1) 1 33 := ⟨by decide +kernel, rfl⟩
theorem d_X_write_33 : DC b_X_write 33 (.invokevirtual 275) 3 36 := ⟨by decide +kernel, rfl⟩
theorem d_X_write_36 : decode b_X_write 36 = .ok (.ireturn, 1) := by decide +kernel
theorem d_X_write_37 : DC b_X_write 37 (.aload_n 0) 1 38 := ⟨by decide +kernel, rfl⟩
theorem d_X_write_38 : DC b_X_write 38 (.getfield 33) 3 41 := ⟨by decide +kernel, rfl⟩
theorem d_X_write_41 : DC b_X_write 41 (.getfield 175) 3 44 := ⟨by decide +kernel, rfl⟩
theorem d_X_write_44 : DC b_X_write 44 (.iconst 2) 1 45 := ⟨by decide +kernel, rfl⟩
theorem d_X_write_45 : DB b_X_write 45 (.if_icmp .ge 6) 6 51 48 := ⟨by decide +kernel, by decide, rfl⟩
theorem d_X_write_48 : DC b_X_write 48 (.bipush (-3)) 2 50 := ⟨by decide +kernel, rfl⟩
theorem d_X_write_50 : decode b_X_write 50 = .ok (.ireturn, 1) := by decide +kernel
theorem d_X_write_51 : DC b_X_write 51 (.aload_n 0) 1 52 := ⟨by decide +kernel, rfl⟩
theorem d_X_write_52 : DC b_X_write 52 (.iload_n 2) 1 53 := ⟨by decide +kernel, rfl⟩
theorem d_X_write_53 : DC b_X_write 53 (.invokevirtual 187) 3 56 := ⟨by decide +kernel, rfl⟩
theorem d_X_write_56 : DC b_X_write 56 (.pop) 1 57 := ⟨by decide +kernel, rfl⟩
theorem d_X_write_57 : DC b_X_write 57 (.bipush 8) 2 59 := ⟨by decide +kernel, rfl⟩
theorem d_X_write_59 : DC b_X_write 59 (.aload_n 0) 1 60 := ⟨by decide +kernel, rfl⟩
theorem d_X_write_60 : DC b_X_write 60 (.getfield 33) 3 63 := ⟨by decide +kernel, rfl⟩
theorem d_X_write_63 : DC b_X_write 63 (.getfield 175) 3 66 := ⟨by decide +kernel, rfl⟩
theorem d_X_write_66 : DC b_X_write 66 (.imul) 1 67 := ⟨by decide +kernel, rfl⟩
theorem d_X_write_67 : DC b_X_write 67 (.aload_n 3) 1 68 := ⟨by decide +kernel, rfl⟩
theorem d_X_write_68 : DC b_X_write 68 (.getfield 278) 3 71 := ⟨by decide +kernel, rfl⟩
theorem d_X_write_71 : DC b_X_write 71 (.invokestatic 369) 3 74 := ⟨by decide +kernel, rfl⟩
theorem d_X_write_74 : DC b_X_write 74 (.istore 4) 2 76 := ⟨by decide +kernel, rfl⟩
theorem d_X_write_76 : DC b_X_write 76 (.iconst 0) 1 77 := ⟨by decide +kernel, rfl⟩
theorem d_X_write_77 : DC b_X_write 77 (.istore 5) 2 79 := ⟨by decide +kernel, rfl⟩
theorem d_X_write_79 : DC b_X_write 79 (.iload 5) 2 81 := ⟨by decide +kernel, rfl⟩
theorem d_X_write_81 : DC b_X_write 81 (.iload 4) 2 83 := ⟨by decide +kernel, rfl⟩
theorem d_X_write_83 : DB b_X_write 83 (.if_icmp .ge 48) 48 131 86 := ⟨by decide +kernel, by decide, rfl⟩
theorem d_X_write_86 : DC b_X_write 86 (.aload_n 0) 1 87 := ⟨by decide +kernel, rfl⟩
theorem d_X_write_87 : DC b_X_write 87 (.getfield 33) 3 90 := ⟨by decide +kernel, rfl⟩
theorem d_X_write_90 : DC b_X_write 90 (.iload 5) 2 92 := ⟨by decide +kernel, rfl⟩
theorem d_X_write_92 : DC b_X_write 92 (.bipush 8) 2 94 := ⟨by decide +kernel, rfl⟩
theorem d_X_write_94 : DC b_X_write 94 (.idiv) 1 95 := ⟨by decide +kernel, rfl⟩
theorem d_X_write_95 : DC b_X_write 95 (.invokevirtual 200) 3 98 := ⟨by decide +kernel, rfl⟩
theorem d_X_write_98 : DC b_X_write 98 (.astore 6) 2 100 := ⟨by decide +kernel, rfl⟩
theorem d_X_write_100 : DC b_X_write 100 (.aload_n 3) 1 101 := ⟨by decide +kernel, rfl⟩
theorem d_X_write_101 : DC b_X_write 101 (.iload 5) 2 103 := ⟨by decide +kernel, rfl⟩
theorem d_X_write_103 : DC b_X_write 103 (.aload 6) 2 105 := ⟨by decide +kernel, rfl⟩
theorem d_X_write_105 : DB b_X_write 105 (.ifnonnull 7) 7 112 108 := ⟨by decide +kernel, by decide, rfl⟩
theorem d_X_write_108 : DC b_X_write 108 (.iconst 0) 1 109 := ⟨by decide +kernel, rfl⟩
theorem d_X_write_109 : DB b_X_write 109 (.goto 13) 13 122 112 := ⟨by decide +kernel, by decide, rfl⟩
theorem d_X_write_112 : DC b_X_write 112 (.aload 6) 2 114 := ⟨by decide +kernel, rfl⟩
theorem d_X_write_114 : DC b_X_write 114 (.iload 5) 2 116 := ⟨by decide +kernel, rfl⟩
theorem d_X_write_116 : DC b_X_write 116 (.bipush 8) 2 118 := ⟨by decide +kernel, rfl⟩
theorem d_X_write_118 : DC b_X_write 118 (.irem) 1 119 := ⟨by decide +kernel, rfl⟩
theorem d_X_write_119 : DC b_X_write 119 (.invokevirtual 204) 3 122 := ⟨by decide +kernel, rfl⟩
theorem d_X_write_122 : DC b_X_write 122 (.invokevirtual 351) 3 125 := ⟨by decide +kernel, rfl⟩
theorem d_X_write_125 : DC b_X_write 125 (.iinc 5 1) 3 128 := ⟨by decide +kernel, rfl⟩
theorem d_X_write_128 : DB b_X_write 128 (.goto (-49)) (-49) 79 131 := ⟨by decide +kernel, by decide, rfl⟩
theorem d_X_write_131 : DC b_X_write 131 (.iload 4) 2 133 := ⟨by decide +kernel, rfl⟩
theorem d_X_write_133 : decode b_X_write 133 = .ok (.ireturn, 1) := by decide +kernel
theorem w_X_write_b122 {X : Ctx} {Y : Lay} (hY : IsX Y) (C : Cx X Y b_X_write 7 (some .int) "TopYard" 7) {N : Nat} {r : Int32 × Mem} (k79 : Nat → Int32 → Int32 → Mem → Option (Int32 × Mem)) (hk79 : ∀ (a3 : Nat) (x4 : Int32) (x5 : Int32) (ν : Mem) (g3 : ykd Y a3 = 6 ∧ a3 < yn Y), k79 a3 x4 x5 ν = some r → J X Y (some (.int r.1)) r.2 7 79 [(0, .ref (yad Y 0)), (3, .ref (yad Y a3)), (4, .int x4), (5, .int x5)] [] ν) (a3 : Nat) (x4 : Int32) (x5 : Int32) (xs0 : Int32) (xs1 : Int32) (as2 : Nat) (μ : Mem) (g3 : ykd Y a3 = 6 ∧ a3 < yn Y) (gs2 : ykd Y as2 = 6 ∧ as2 < yn Y) (hf : f_X_write_b122 N k79 a3 x4 x5 xs0 xs1 as2 μ = some r) : J X Y (some (.int r.1)) r.2 7 122 [(0, .ref (yad Y 0)), (3, .ref (yad Y a3)), (4, .int x4), (5, .int x5)] [.int xs0, .int xs1, .ref (yad Y as2)] μ := by
  unfold f_X_write_b122 at hf
  refine bd hf (fun μ1 hc3 hf => ?_)
  refine j_cV (rest := []) C lk_X_351 (c_Sh_store hY ⟨gs2.1, gs2.2⟩ hc3) rfl gs2.1 gs2.2 (by decide) rfl rfl (by decide) rfl (Nat.le_of_ble_eq_true rfl) d_X_write_122 ?_
  refine j_iinc (lvf := [(0, .ref (yad Y 0)), (3, .ref (yad Y a3)), (4, .int x4)]) (v := 1) C d_X_write_125 3 rfl (by decide) (by decide) rfl hf (fun v2 hf => ?_)
  refine j_goto C d_X_write_128 ?_
  refine j_sub [1, 2, 3, 0] rfl ?_
  exact hk79 a3 x4 v2 μ1 ⟨g3.1, g3.2⟩ hf
theorem w_X_write_l79 {X : Ctx} {Y : Lay} (hY : IsX Y) (C : Cx X Y b_X_write 7 (some .int) "TopYard" 7) {N : Nat} {r : Int32 × Mem} : ∀ (n : Nat) (a3 : Nat) (x4 : Int32) (x5 : Int32) (μ : Mem) (g3 : ykd Y a3 = 6 ∧ a3 < yn Y), f_X_write_l79 N n a3 x4 x5 μ = some r → J X Y (some (.int r.1)) r.2 7 79 [(0, .ref (yad Y 0)), (3, .ref (yad Y a3)), (4, .int x4), (5, .int x5)] [] μ := by
  intro n
  induction n with
  | zero => intro a3 x4 x5 μ g3 hf; rw [f_X_write_l79] at hf; cases hf
  | succ n ih =>
    intro a3 x4 x5 μ g3 hf
    rw [f_X_write_l79] at hf
    refine j_iload C d_X_write_79 3 rfl ?_
    refine j_iload C d_X_write_81 2 rfl ?_
    refine j_icmp_ge C d_X_write_83 hf (fun hf => ?_) (fun hf => ?_)
    · refine j_iload C d_X_write_131 2 rfl ?_
      obtain rfl := Option.some.inj hf
      exact j_iret C d_X_write_133
    · refine j_aload_n C d_X_write_86 0 rfl ?_
      refine j_gS (b := 5) C fl_X_33 (kX hY rfl) (nX hY (by decide)) rfl hY.2.2.2.1 rfl (sX hY rfl) d_X_write_87 ?_
      refine j_iload C d_X_write_90 3 rfl ?_
      refine j_bipush (v := 8) C d_X_write_92 (by decide) ?_
      refine j_idiv C d_X_write_94 (by decide) ?_
      refine bd hf (fun u1 hc5 hf => ?_)
      refine j_wt (fun hT hSt => ?_)
      have hu1 := rt_Bt_at hY hT hc5 ⟨(kX hY rfl), (nX hY (by decide))⟩
      refine j_cV (rest := []) C lk_X_200 (c_Bt_at hY ⟨(kX hY rfl), (nX hY (by decide))⟩ hc5) rfl (kX hY rfl) (nX hY (by decide)) (by decide) rfl rfl (by decide) rfl (Nat.le_of_ble_eq_true rfl) d_X_write_95 ?_
      refine j_astoreo (lvf := [(0, .ref (yad Y 0)), (3, .ref (yad Y a3)), (4, .int x4), (5, .int x5)]) C d_X_write_98 (by decide) rfl ?_
      refine j_aload_n C d_X_write_100 2 rfl ?_
      refine j_iload C d_X_write_101 4 rfl ?_
      refine j_aloado C d_X_write_103 0 rfl ?_
      cases u1 with
      | none =>
        refine j_nnul_f C d_X_write_105 ?_
        refine j_iconst (v := 0) C d_X_write_108 (by decide) ?_
        refine j_goto C d_X_write_109 ?_
        refine j_sub [1, 2, 3, 4] rfl ?_
        exact w_X_write_b122 hY C (f_X_write_l79 N n) ih a3 x4 x5 0 x5 a3 μ ⟨g3.1, g3.2⟩ ⟨g3.1, g3.2⟩ hf
      | some e2 =>
        refine j_nnul_t C d_X_write_105 ?_
        refine j_aload C d_X_write_112 0 rfl ?_
        refine j_iload C d_X_write_114 4 rfl ?_
        refine j_bipush (v := 8) C d_X_write_116 (by decide) ?_
        refine j_irem C d_X_write_118 (by decide) ?_
        refine bd hf (fun v3 hc4 hf => ?_)
        refine j_cV (rest := [.int x5, .ref (yad Y a3)]) C lk_X_204 (c_Sp_figure hY ⟨(hu1 e2 rfl).2, (hu1 e2 rfl).1⟩ hc4) rfl (hu1 e2 rfl).2 (hu1 e2 rfl).1 (by decide) rfl rfl (by decide) rfl (Nat.le_of_ble_eq_true rfl) d_X_write_119 ?_
        refine j_sub [1, 2, 3, 4] rfl ?_
        exact w_X_write_b122 hY C (f_X_write_l79 N n) ih a3 x4 x5 v3 x5 a3 μ ⟨g3.1, g3.2⟩ ⟨g3.1, g3.2⟩ hf
theorem c_X_write {l : Launch} {Y : Lay} (hY : IsX Y) {N : Nat} {μ : Mem} {x1 : Int32} {x2 : Int32} {r : Int32 × Mem} (hf : f_X_write N μ x1 x2 = some r) : Ct l Y y_X_write b_X_write 7 (some .int) 7 [.ref (yad Y 0), .int x1, .int x2] (some (.int r.1)) μ r.2 := by
  refine ct_of (own := "TopYard") (lv := [(0, .ref (yad Y 0)), (1, .int x1), (2, .int x2)]) (by decide +kernel) rfl (Nat.le_of_ble_eq_true rfl) rfl (fun X hl C => ?_)
  subst hl
  unfold f_X_write at hf
  refine j_aload_n C d_X_write_0 0 rfl ?_
  refine j_iload_n C d_X_write_1 1 rfl ?_
  refine bd hf (fun u1 hc13 hf => ?_)
  refine j_wt (fun hT hSt => ?_)
  have hu1 := rt_X_sheetAt hY hT hc13
  refine j_cV (rest := []) C lk_X_267 (c_X_sheetAt hY hc13) rfl (kX hY rfl) (nX hY (by decide)) (by decide) rfl rfl (by decide) rfl (Nat.le_of_ble_eq_true rfl) d_X_write_2 ?_
  refine j_astoreo_n (lvf := [(0, .ref (yad Y 0)), (1, .int x1), (2, .int x2)]) C d_X_write_5 (by decide) rfl ?_
  refine j_aloado_n C d_X_write_6 0 rfl ?_
  cases u1 with
  | none =>
    refine j_nul_t C d_X_write_7 ?_
    refine j_bipush (v := (-2)) C d_X_write_21 (by decide) ?_
    obtain rfl := Option.some.inj hf
    exact j_iret C d_X_write_23
  | some e2 =>
    refine j_nul_f C d_X_write_7 ?_
    refine j_iload_n C d_X_write_10 3 rfl ?_
    refine j_iconst (v := 0) C d_X_write_11 (by decide) ?_
    refine j_sipush (v := 400) C d_X_write_12 (by decide) ?_
    refine bd hf (fun v3 hc12 hf => ?_)
    refine j_cS (rest := []) C lk_X_90 (c_X_within hY hc12) rfl (by decide) rfl (Nat.le_of_ble_eq_true rfl) d_X_write_15 ?_
    refine j_if_ne C d_X_write_18 hf (fun hf => ?_) (fun hf => ?_)
    · refine j_aload_n C d_X_write_24 0 rfl ?_
      refine j_gI C fl_X_271 (hu1 e2 rfl).2 (hu1 e2 rfl).1 rfl d_X_write_25 ?_
      refine j_if_eq C d_X_write_28 hf (fun hf => ?_) (fun hf => ?_)
      · refine j_aload_n C d_X_write_37 1 rfl ?_
        refine j_gS (b := 5) C fl_X_33 (kX hY rfl) (nX hY (by decide)) rfl hY.2.2.2.1 rfl (sX hY rfl) d_X_write_38 ?_
        refine j_gI C fl_X_175 (kX hY rfl) (nX hY (by decide)) rfl d_X_write_41 ?_
        refine j_iconst (v := 2) C d_X_write_44 (by decide) ?_
        refine j_icmp_ge C d_X_write_45 hf (fun hf => ?_) (fun hf => ?_)
        · refine j_aload_n C d_X_write_51 1 rfl ?_
          refine j_iload_n C d_X_write_52 3 rfl ?_
          refine bd2 hf (fun v4 μ5 hc8 hf => ?_)
          refine j_cV (rest := []) C lk_X_187 (c_X_spinBout hY hc8) rfl (kX hY rfl) (nX hY (by decide)) (by decide) rfl rfl (by decide) rfl (Nat.le_of_ble_eq_true rfl) d_X_write_53 ?_
          refine j_pop C d_X_write_56 rfl ?_
          refine j_bipush (v := 8) C d_X_write_57 (by decide) ?_
          refine j_aload_n C d_X_write_59 1 rfl ?_
          refine j_gS (b := 5) C fl_X_33 (kX hY rfl) (nX hY (by decide)) rfl hY.2.2.2.1 rfl (sX hY rfl) d_X_write_60 ?_
          refine j_gI C fl_X_175 (kX hY rfl) (nX hY (by decide)) rfl d_X_write_63 ?_
          refine j_imul C d_X_write_66 ?_
          refine j_aload_n C d_X_write_67 0 rfl ?_
          refine j_gI C fl_X_278 (hu1 e2 rfl).2 (hu1 e2 rfl).1 rfl d_X_write_68 ?_
          refine bd hf (fun v6 hc7 hf => ?_)
          refine j_cS (rest := []) C lk_X_369 (c_JM_min hY hc7) rfl (by decide) rfl (Nat.le_of_ble_eq_true rfl) d_X_write_71 ?_
          refine j_istore (lvf := [(3, .ref (yad Y e2)), (0, .ref (yad Y 0)), (1, .int x1), (2, .int x2)]) C d_X_write_74 (by decide) rfl ?_
          refine j_iconst (v := 0) C d_X_write_76 (by decide) ?_
          refine j_istore (lvf := [(4, .int v6), (3, .ref (yad Y e2)), (0, .ref (yad Y 0)), (1, .int x1), (2, .int x2)]) C d_X_write_77 (by decide) rfl ?_
          refine j_sub [3, 2, 1, 0] rfl ?_
          exact w_X_write_l79 hY C N e2 v6 0 μ5 ⟨(hu1 e2 rfl).2, (hu1 e2 rfl).1⟩ hf
        · refine j_bipush (v := (-3)) C d_X_write_48 (by decide) ?_
          obtain rfl := Option.some.inj hf
          exact j_iret C d_X_write_50
      · refine j_aload_n C d_X_write_31 1 rfl ?_
        refine j_iconst (v := 1) C d_X_write_32 (by decide) ?_
        refine bd2 hf (fun v9 μ10 hc11 hf => ?_)
        refine j_cV (rest := []) C lk_X_275 (c_X_find hY hc11) rfl (kX hY rfl) (nX hY (by decide)) (by decide) rfl rfl (by decide) rfl (Nat.le_of_ble_eq_true rfl) d_X_write_33 ?_
        obtain rfl := Option.some.inj hf
        exact j_iret C d_X_write_36
    · refine j_bipush (v := (-2)) C d_X_write_21 (by decide) ?_
      obtain rfl := Option.some.inj hf
      exact j_iret C d_X_write_23
theorem d_X_count_0 : DC b_X_count 0 (.iload_n 1) 1 1 := ⟨by decide +kernel, rfl⟩
theorem d_X_count_1 : decode b_X_count 1 = .ok (.tableswitch 141 0 10 #[59, 64, 72, 80, 88, 96, 104, 112, 120, 125, 133], 59) := by decide +kernel
theorem d_X_count_60 : DC b_X_count 60 (.aload_n 0) 1 61 := ⟨by decide +kernel, rfl⟩
theorem d_X_count_61 : DC b_X_count 61 (.getfield 15) 3 64 := ⟨by decide +kernel, rfl⟩
theorem d_X_count_64 : decode b_X_count 64 = .ok (.ireturn, 1) := by decide +kernel
theorem d_X_count_65 : DC b_X_count 65 (.aload_n 0) 1 66 := ⟨by decide +kernel, rfl⟩
theorem d_X_count_66 : DC b_X_count 66 (.getfield 22) 3 69 := ⟨by decide +kernel, rfl⟩
theorem d_X_count_69 : DC b_X_count 69 (.getfield 145) 3 72 := ⟨by decide +kernel, rfl⟩
theorem d_X_count_72 : decode b_X_count 72 = .ok (.ireturn, 1) := by decide +kernel
theorem d_X_count_73 : DC b_X_count 73 (.aload_n 0) 1 74 := ⟨by decide +kernel, rfl⟩
theorem d_X_count_74 : DC b_X_count 74 (.getfield 33) 3 77 := ⟨by decide +kernel, rfl⟩
theorem d_X_count_77 : DC b_X_count 77 (.getfield 175) 3 80 := ⟨by decide +kernel, rfl⟩
theorem d_X_count_80 : decode b_X_count 80 = .ok (.ireturn, 1) := by decide +kernel
theorem d_X_count_81 : DC b_X_count 81 (.aload_n 0) 1 82 := ⟨by decide +kernel, rfl⟩
theorem d_X_count_82 : DC b_X_count 82 (.getfield 33) 3 85 := ⟨by decide +kernel, rfl⟩
theorem d_X_count_85 : DC b_X_count 85 (.getfield 184) 3 88 := ⟨by decide +kernel, rfl⟩
theorem d_X_count_88 : decode b_X_count 88 = .ok (.ireturn, 1) := by decide +kernel
theorem d_X_count_89 : DC b_X_count 89 (.aload_n 0) 1 90 := ⟨by decide +kernel, rfl⟩
theorem d_X_count_90 : DC b_X_count 90 (.getfield 43) 3 93 := ⟨by decide +kernel, rfl⟩
theorem d_X_count_93 : DC b_X_count 93 (.getfield 207) 3 96 := ⟨by decide +kernel, rfl⟩
theorem d_X_count_96 : decode b_X_count 96 = .ok (.ireturn, 1) := by decide +kernel
theorem d_X_count_97 : DC b_X_count 97 (.aload_n 0) 1 98 := ⟨by decide +kernel, rfl⟩
theorem d_X_count_98 : DC b_X_count 98 (.getfield 43) 3 101 := ⟨by decide +kernel, rfl⟩
theorem d_X_count_101 : DC b_X_count 101 (.getfield 210) 3 104 := ⟨by decide +kernel, rfl⟩
theorem d_X_count_104 : decode b_X_count 104 = .ok (.ireturn, 1) := by decide +kernel
theorem d_X_count_105 : DC b_X_count 105 (.aload_n 0) 1 106 := ⟨by decide +kernel, rfl⟩
theorem d_X_count_106 : DC b_X_count 106 (.getfield 50) 3 109 := ⟨by decide +kernel, rfl⟩
theorem d_X_count_109 : DC b_X_count 109 (.getfield 266) 3 112 := ⟨by decide +kernel, rfl⟩
theorem d_X_count_112 : decode b_X_count 112 = .ok (.ireturn, 1) := by decide +kernel
theorem d_X_count_113 : DC b_X_count 113 (.aload_n 0) 1 114 := ⟨by decide +kernel, rfl⟩
theorem d_X_count_114 : DC b_X_count 114 (.getfield 57) 3 117 := ⟨by decide +kernel, rfl⟩
theorem d_X_count_117 : DC b_X_count 117 (.getfield 304) 3 120 := ⟨by decide +kernel, rfl⟩
theorem d_X_count_120 : decode b_X_count 120 = .ok (.ireturn, 1) := by decide +kernel
theorem d_X_count_121 : DC b_X_count 121 (.aload_n 0) 1 122 := ⟨by decide +kernel, rfl⟩
theorem d_X_count_122 : DC b_X_count 122 (.getfield 80) 3 125 := ⟨by decide +kernel, rfl⟩
theorem d_X_count_125 : decode b_X_count 125 = .ok (.ireturn, 1) := by decide +kernel
theorem d_X_count_126 : DC b_X_count 126 (.aload_n 0) 1 127 := ⟨by decide +kernel, rfl⟩
theorem d_X_count_127 : DC b_X_count 127 (.getfield 22) 3 130 := ⟨by decide +kernel, rfl⟩
theorem d_X_count_130 : DC b_X_count 130 (.getfield 132) 3 133 := ⟨by decide +kernel, rfl⟩
theorem d_X_count_133 : decode b_X_count 133 = .ok (.ireturn, 1) := by decide +kernel
theorem d_X_count_134 : DC b_X_count 134 (.aload_n 0) 1 135 := ⟨by decide +kernel, rfl⟩
theorem d_X_count_135 : DC b_X_count 135 (.getfield 22) 3 138 := ⟨by decide +kernel, rfl⟩
theorem d_X_count_138 : DC b_X_count 138 (.getfield 135) 3 141 := ⟨by decide +kernel, rfl⟩
theorem d_X_count_141 : decode b_X_count 141 = .ok (.ireturn, 1) := by decide +kernel
theorem d_X_count_142 : DC b_X_count 142 (.bipush (-2)) 2 144 := ⟨by decide +kernel, rfl⟩
theorem d_X_count_144 : decode b_X_count 144 = .ok (.ireturn, 1) := by decide +kernel
theorem c_X_count {l : Launch} {Y : Lay} (hY : IsX Y) {μ : Mem} {x1 : Int32} {r : Int32} (hf : f_X_count μ x1 = some r) : Ct l Y y_X_count b_X_count 2 (some .int) 1 [.ref (yad Y 0), .int x1] (some (.int r)) μ μ := by
  refine ct_of (own := "TopYard") (lv := [(0, .ref (yad Y 0)), (1, .int x1)]) (by decide +kernel) rfl (Nat.le_of_ble_eq_true rfl) rfl (fun X hl C => ?_)
  subst hl
  unfold f_X_count at hf
  refine j_iload_n C d_X_count_0 1 rfl ?_
  refine j_key hf (fun hx1 hf => ?_) (fun hx1 hf => ?_)
  · refine j_tin (tgt' := 60) (off := 59) (v := 0) C d_X_count_1 hx1 (by decide) (by decide) (by decide) (by decide) ?_
    refine j_aload_n C d_X_count_60 0 rfl ?_
    refine j_gI C fl_X_15 (kX hY rfl) (nX hY (by decide)) rfl d_X_count_61 ?_
    obtain rfl := Option.some.inj hf
    exact j_iret C d_X_count_64
  · refine j_key hf (fun hx2 hf => ?_) (fun hx2 hf => ?_)
    · refine j_tin (tgt' := 65) (off := 64) (v := 1) C d_X_count_1 hx2 (by decide) (by decide) (by decide) (by decide) ?_
      refine j_aload_n C d_X_count_65 0 rfl ?_
      refine j_gS (b := 2) C fl_X_22 (kX hY rfl) (nX hY (by decide)) rfl hY.2.2.2.1 rfl (sX hY rfl) d_X_count_66 ?_
      refine j_gI C fl_X_145 (kX hY rfl) (nX hY (by decide)) rfl d_X_count_69 ?_
      obtain rfl := Option.some.inj hf
      exact j_iret C d_X_count_72
    · refine j_key hf (fun hx3 hf => ?_) (fun hx3 hf => ?_)
      · refine j_tin (tgt' := 73) (off := 72) (v := 2) C d_X_count_1 hx3 (by decide) (by decide) (by decide) (by decide) ?_
        refine j_aload_n C d_X_count_73 0 rfl ?_
        refine j_gS (b := 5) C fl_X_33 (kX hY rfl) (nX hY (by decide)) rfl hY.2.2.2.1 rfl (sX hY rfl) d_X_count_74 ?_
        refine j_gI C fl_X_175 (kX hY rfl) (nX hY (by decide)) rfl d_X_count_77 ?_
        obtain rfl := Option.some.inj hf
        exact j_iret C d_X_count_80
      · refine j_key hf (fun hx4 hf => ?_) (fun hx4 hf => ?_)
        · refine j_tin (tgt' := 81) (off := 80) (v := 3) C d_X_count_1 hx4 (by decide) (by decide) (by decide) (by decide) ?_
          refine j_aload_n C d_X_count_81 0 rfl ?_
          refine j_gS (b := 5) C fl_X_33 (kX hY rfl) (nX hY (by decide)) rfl hY.2.2.2.1 rfl (sX hY rfl) d_X_count_82 ?_
          refine j_gI C fl_X_184 (kX hY rfl) (nX hY (by decide)) rfl d_X_count_85 ?_
          obtain rfl := Option.some.inj hf
          exact j_iret C d_X_count_88
        · refine j_key hf (fun hx5 hf => ?_) (fun hx5 hf => ?_)
          · refine j_tin (tgt' := 89) (off := 88) (v := 4) C d_X_count_1 hx5 (by decide) (by decide) (by decide) (by decide) ?_
            refine j_aload_n C d_X_count_89 0 rfl ?_
            refine j_gS (b := 23) C fl_X_43 (kX hY rfl) (nX hY (by decide)) rfl hY.2.2.2.1 rfl (sX hY rfl) d_X_count_90 ?_
            refine j_gI C fl_X_207 (kX hY rfl) (nX hY (by decide)) rfl d_X_count_93 ?_
            obtain rfl := Option.some.inj hf
            exact j_iret C d_X_count_96
          · refine j_key hf (fun hx6 hf => ?_) (fun hx6 hf => ?_)
            · refine j_tin (tgt' := 97) (off := 96) (v := 5) C d_X_count_1 hx6 (by decide) (by decide) (by decide) (by decide) ?_
              refine j_aload_n C d_X_count_97 0 rfl ?_
              refine j_gS (b := 23) C fl_X_43 (kX hY rfl) (nX hY (by decide)) rfl hY.2.2.2.1 rfl (sX hY rfl) d_X_count_98 ?_
              refine j_gI C fl_X_210 (kX hY rfl) (nX hY (by decide)) rfl d_X_count_101 ?_
              obtain rfl := Option.some.inj hf
              exact j_iret C d_X_count_104
            · refine j_key hf (fun hx7 hf => ?_) (fun hx7 hf => ?_)
              · refine j_tin (tgt' := 105) (off := 104) (v := 6) C d_X_count_1 hx7 (by decide) (by decide) (by decide) (by decide) ?_
                refine j_aload_n C d_X_count_105 0 rfl ?_
                refine j_gS (b := 34) C fl_X_50 (kX hY rfl) (nX hY (by decide)) rfl hY.2.2.2.1 rfl (sX hY rfl) d_X_count_106 ?_
                refine j_gI C fl_X_266 (kX hY rfl) (nX hY (by decide)) rfl d_X_count_109 ?_
                obtain rfl := Option.some.inj hf
                exact j_iret C d_X_count_112
              · refine j_key hf (fun hx8 hf => ?_) (fun hx8 hf => ?_)
                · refine j_tin (tgt' := 113) (off := 112) (v := 7) C d_X_count_1 hx8 (by decide) (by decide) (by decide) (by decide) ?_
                  refine j_aload_n C d_X_count_113 0 rfl ?_
                  refine j_gS (b := 39) C fl_X_57 (kX hY rfl) (nX hY (by decide)) rfl hY.2.2.2.1 rfl (sX hY rfl) d_X_count_114 ?_
                  refine j_gI C fl_X_304 (kX hY rfl) (nX hY (by decide)) rfl d_X_count_117 ?_
                  obtain rfl := Option.some.inj hf
                  exact j_iret C d_X_count_120
                · refine j_key hf (fun hx9 hf => ?_) (fun hx9 hf => ?_)
                  · refine j_tin (tgt' := 121) (off := 120) (v := 8) C d_X_count_1 hx9 (by decide) (by decide) (by decide) (by decide) ?_
                    refine j_aload_n C d_X_count_121 0 rfl ?_
                    refine j_gI C fl_X_80 (kX hY rfl) (nX hY (by decide)) rfl d_X_count_122 ?_
                    obtain rfl := Option.some.inj hf
                    exact j_iret C d_X_count_125
                  · refine j_key hf (fun hx10 hf => ?_) (fun hx10 hf => ?_)
                    · refine j_tin (tgt' := 126) (off := 125) (v := 9) C d_X_count_1 hx10 (by decide) (by decide) (by decide) (by decide) ?_
                      refine j_aload_n C d_X_count_126 0 rfl ?_
                      refine j_gS (b := 2) C fl_X_22 (kX hY rfl) (nX hY (by decide)) rfl hY.2.2.2.1 rfl (sX hY rfl) d_X_count_127 ?_
                      refine j_gI C fl_X_132 (kX hY rfl) (nX hY (by decide)) rfl d_X_count_130 ?_
                      obtain rfl := Option.some.inj hf
                      exact j_iret C d_X_count_133
                    · refine j_key hf (fun hx11 hf => ?_) (fun hx11 hf => ?_)
                      · refine j_tin (tgt' := 134) (off := 133) (v := 10) C d_X_count_1 hx11 (by decide) (by decide) (by decide) (by decide) ?_
                        refine j_aload_n C d_X_count_134 0 rfl ?_
                        refine j_gS (b := 2) C fl_X_22 (kX hY rfl) (nX hY (by decide)) rfl hY.2.2.2.1 rfl (sX hY rfl) d_X_count_135 ?_
                        refine j_gI C fl_X_135 (kX hY rfl) (nX hY (by decide)) rfl d_X_count_138 ?_
                        obtain rfl := Option.some.inj hf
                        exact j_iret C d_X_count_141
                      · refine j_tout (tgt' := 142) C d_X_count_1 (by have qhx1 := sw_ne (z := 0) hx1 (by decide); have qhx2 := sw_ne (z := 1) hx2 (by decide); have qhx3 := sw_ne (z := 2) hx3 (by decide); have qhx4 := sw_ne (z := 3) hx4 (by decide); have qhx5 := sw_ne (z := 4) hx5 (by decide); have qhx6 := sw_ne (z := 5) hx6 (by decide); have qhx7 := sw_ne (z := 6) hx7 (by decide); have qhx8 := sw_ne (z := 7) hx8 (by decide); have qhx9 := sw_ne (z := 8) hx9 (by decide); have qhx10 := sw_ne (z := 9) hx10 (by decide); have qhx11 := sw_ne (z := 10) hx11 (by decide); omega) (by decide) ?_
                        refine j_bipush (v := (-2)) C d_X_count_142 (by decide) ?_
                        obtain rfl := Option.some.inj hf
                        exact j_iret C d_X_count_144
theorem d_X_digest_0 : DC b_X_digest 0 (.ldc2_w 374) 3 3 := ⟨by decide +kernel, rfl⟩
theorem d_X_digest_3 : DC b_X_digest 3 (.lstore_n 1) 1 4 := ⟨by decide +kernel, rfl⟩
theorem d_X_digest_4 : DC b_X_digest 4 (.iconst 0) 1 5 := ⟨by decide +kernel, rfl⟩
theorem d_X_digest_5 : DC b_X_digest 5 (.istore_n 3) 1 6 := ⟨by decide +kernel, rfl⟩
theorem d_X_digest_6 : DC b_X_digest 6 (.iload_n 3) 1 7 := ⟨by decide +kernel, rfl⟩
theorem d_X_digest_7 : DC b_X_digest 7 (.bipush 10) 2 9 := ⟨by decide +kernel, rfl⟩
theorem d_X_digest_9 : DB b_X_digest 9 (.if_icmp .gt 32) 32 41 12 := ⟨by decide +kernel, by decide, rfl⟩
theorem d_X_digest_12 : DC b_X_digest 12 (.iload_n 3) 1 13 := ⟨by decide +kernel, rfl⟩
theorem d_X_digest_13 : DC b_X_digest 13 (.bipush 8) 2 15 := ⟨by decide +kernel, rfl⟩
theorem d_X_digest_15 : DB b_X_digest 15 (.if_icmp .ne 7) 7 22 18 := ⟨by decide +kernel, by decide, rfl⟩
theorem d_X_digest_18 : DC b_X_digest 18 (.lload_n 1) 1 19 := ⟨by decide +kernel, rfl⟩
theorem d_X_digest_19 : DB b_X_digest 19 (.goto 15) 15 34 22 := ⟨by decide +kernel, by decide, rfl⟩
theorem d_X_digest_22 : DC b_X_digest 22 (.ldc2_w 376) 3 25 := ⟨by decide +kernel, rfl⟩
theorem d_X_digest_25 : DC b_X_digest 25 (.lload_n 1) 1 26 := ⟨by decide +kernel, rfl⟩
theorem d_X_digest_26 : DC b_X_digest 26 (.lmul) 1 27 := ⟨by decide +kernel, rfl⟩
theorem d_X_digest_27 : DC b_X_digest 27 (.aload_n 0) 1 28 := ⟨by decide +kernel, rfl⟩
theorem d_X_digest_28 : DC b_X_digest 28 (.iload_n 3) 1 29 := ⟨by decide +kernel, rfl⟩
theorem d_X_digest_29 : DC b_X_digest 29 (.invokevirtual 378) 3 32 := ⟨by decide +kernel, rfl⟩
theorem d_X_digest_32 : DC b_X_digest 32 (.i2l) 1 33 := ⟨by decide +kernel, rfl⟩
theorem d_X_digest_33 : DC b_X_digest 33 (.ladd) 1 34 := ⟨by decide +kernel, rfl⟩
theorem d_X_digest_34 : DC b_X_digest 34 (.lstore_n 1) 1 35 := ⟨by decide +kernel, rfl⟩
theorem d_X_digest_35 : DC b_X_digest 35 (.iinc 3 1) 3 38 := ⟨by decide +kernel, rfl⟩
theorem d_X_digest_38 : DB b_X_digest 38 (.goto (-32)) (-32) 6 41 := ⟨by decide +kernel, by decide, rfl⟩
theorem d_X_digest_41 : DC b_X_digest 41 (.iconst 0) 1 42 := ⟨by decide +kernel, rfl⟩
theorem d_X_digest_42 : DC b_X_digest 42 (.istore_n 3) 1 43 := ⟨by decide +kernel, rfl⟩
theorem d_X_digest_43 : DC b_X_digest 43 (.iload_n 3) 1 44 := ⟨by decide +kernel, rfl⟩
theorem d_X_digest_44 : DC b_X_digest 44 (.aload_n 0) 1 45 := ⟨by decide +kernel, rfl⟩
theorem d_X_digest_45 : DC b_X_digest 45 (.getfield 15) 3 48 := ⟨by decide +kernel, rfl⟩
theorem d_X_digest_48 : DB b_X_digest 48 (.if_icmp .ge 37) 37 85 51 := ⟨by decide +kernel, by decide, rfl⟩
theorem d_X_digest_51 : DC b_X_digest 51 (.ldc2_w 376) 3 54 := ⟨by decide +kernel, rfl⟩
theorem d_X_digest_54 : DC b_X_digest 54 (.lload_n 1) 1 55 := ⟨by decide +kernel, rfl⟩
theorem d_X_digest_55 : DC b_X_digest 55 (.lmul) 1 56 := ⟨by decide +kernel, rfl⟩
theorem d_X_digest_56 : DC b_X_digest 56 (.aload_n 0) 1 57 := ⟨by decide +kernel, rfl⟩
theorem d_X_digest_57 : DC b_X_digest 57 (.iload_n 3) 1 58 := ⟨by decide +kernel, rfl⟩
theorem d_X_digest_58 : DC b_X_digest 58 (.iconst 4) 1 59 := ⟨by decide +kernel, rfl⟩
theorem d_X_digest_59 : DC b_X_digest 59 (.invokevirtual 381) 3 62 := ⟨by decide +kernel, rfl⟩
theorem d_X_digest_62 : DC b_X_digest 62 (.i2l) 1 63 := ⟨by decide +kernel, rfl⟩
theorem d_X_digest_63 : DC b_X_digest 63 (.ladd) 1 64 := ⟨by decide +kernel, rfl⟩
theorem d_X_digest_64 : DC b_X_digest 64 (.lstore_n 1) 1 65 := ⟨by decide +kernel, rfl⟩
theorem d_X_digest_65 : DC b_X_digest 65 (.ldc2_w 376) 3 68 := ⟨by decide +kernel, rfl⟩
theorem d_X_digest_68 : DC b_X_digest 68 (.lload_n 1) 1 69 := ⟨by decide +kernel, rfl⟩
theorem d_X_digest_69 : DC b_X_digest 69 (.lmul) 1 70 := ⟨by decide +kernel, rfl⟩
theorem d_X_digest_70 : DC b_X_digest 70 (.aload_n 0) 1 71 := ⟨by decide +kernel, rfl⟩
theorem d_X_digest_71 : DC b_X_digest 71 (.iload_n 3) 1 72 := ⟨by decide +kernel, rfl⟩
theorem d_X_digest_72 : DC b_X_digest 72 (.iconst 5) 1 73 := ⟨by decide +kernel, rfl⟩
theorem d_X_digest_73 : DC b_X_digest 73 (.invokevirtual 381) 3 76 := ⟨by decide +kernel, rfl⟩
theorem d_X_digest_76 : DC b_X_digest 76 (.i2l) 1 77 := ⟨by decide +kernel, rfl⟩
theorem d_X_digest_77 : DC b_X_digest 77 (.ladd) 1 78 := ⟨by decide +kernel, rfl⟩
theorem d_X_digest_78 : DC b_X_digest 78 (.lstore_n 1) 1 79 := ⟨by decide +kernel, rfl⟩
theorem d_X_digest_79 : DC b_X_digest 79 (.iinc 3 1) 3 82 := ⟨by decide +kernel, rfl⟩
theorem d_X_digest_82 : DB b_X_digest 82 (.goto (-39)) (-39) 43 85 := ⟨by decide +kernel, by decide, rfl⟩
theorem d_X_digest_85 : DC b_X_digest 85 (.iconst 0) 1 86 := ⟨by decide +kernel, rfl⟩
theorem d_X_digest_86 : DC b_X_digest 86 (.istore_n 3) 1 87 := ⟨by decide +kernel, rfl⟩
theorem d_X_digest_87 : DC b_X_digest 87 (.iload_n 3) 1 88 := ⟨by decide +kernel, rfl⟩
theorem d_X_digest_88 : DC b_X_digest 88 (.bipush 8) 2 90 := ⟨by decide +kernel, rfl⟩
theorem d_X_digest_90 : DB b_X_digest 90 (.if_icmp .ge 23) 23 113 93 := ⟨by decide +kernel, by decide, rfl⟩
theorem d_X_digest_93 : DC b_X_digest 93 (.ldc2_w 376) 3 96 := ⟨by decide +kernel, rfl⟩
theorem d_X_digest_96 : DC b_X_digest 96 (.lload_n 1) 1 97 := ⟨by decide +kernel, rfl⟩
theorem d_X_digest_97 : DC b_X_digest 97 (.lmul) 1 98 := ⟨by decide +kernel, rfl⟩
theorem d_X_digest_98 : DC b_X_digest 98 (.aload_n 0) 1 99 := ⟨by decide +kernel, rfl⟩
theorem d_X_digest_99 : DC b_X_digest 99 (.getfield 26) 3 102 := ⟨by decide +kernel, rfl⟩
theorem d_X_digest_102 : DC b_X_digest 102 (.iload_n 3) 1 103 := ⟨by decide +kernel, rfl⟩
theorem d_X_digest_103 : DC b_X_digest 103 (.iaload) 1 104 := ⟨by decide +kernel, rfl⟩
theorem d_X_digest_104 : DC b_X_digest 104 (.i2l) 1 105 := ⟨by decide +kernel, rfl⟩
theorem d_X_digest_105 : DC b_X_digest 105 (.ladd) 1 106 := ⟨by decide +kernel, rfl⟩
theorem d_X_digest_106 : DC b_X_digest 106 (.lstore_n 1) 1 107 := ⟨by decide +kernel, rfl⟩
theorem d_X_digest_107 : DC b_X_digest 107 (.iinc 3 1) 3 110 := ⟨by decide +kernel, rfl⟩
theorem d_X_digest_110 : DB b_X_digest 110 (.goto (-23)) (-23) 87 113 := ⟨by decide +kernel, by decide, rfl⟩
theorem d_X_digest_113 : DC b_X_digest 113 (.ldc2_w 376) 3 116 := ⟨by decide +kernel, rfl⟩
theorem d_X_digest_116 : DC b_X_digest 116 (.lload_n 1) 1 117 := ⟨by decide +kernel, rfl⟩
theorem d_X_digest_117 : DC b_X_digest 117 (.lmul) 1 118 := ⟨by decide +kernel, rfl⟩
theorem d_X_digest_118 : DC b_X_digest 118 (.aload_n 0) 1 119 := ⟨by decide +kernel, rfl⟩
theorem d_X_digest_119 : DC b_X_digest 119 (.invokevirtual 384) 3 122 := ⟨by decide +kernel, rfl⟩
theorem d_X_digest_122 : DC b_X_digest 122 (.i2l) 1 123 := ⟨by decide +kernel, rfl⟩
theorem d_X_digest_123 : DC b_X_digest 123 (.ladd) 1 124 := ⟨by decide +kernel, rfl⟩
theorem d_X_digest_124 : DC b_X_digest 124 (.lstore_n 1) 1 125 := ⟨by decide +kernel, rfl⟩
theorem d_X_digest_125 : DC b_X_digest 125 (.ldc2_w 376) 3 128 := ⟨by decide +kernel, rfl⟩
theorem d_X_digest_128 : DC b_X_digest 128 (.lload_n 1) 1 129 := ⟨by decide +kernel, rfl⟩
theorem d_X_digest_129 : DC b_X_digest 129 (.lmul) 1 130 := ⟨by decide +kernel, rfl⟩
theorem d_X_digest_130 : DC b_X_digest 130 (.aload_n 0) 1 131 := ⟨by decide +kernel, rfl⟩
theorem d_X_digest_131 : DC b_X_digest 131 (.invokevirtual 387) 3 134 := ⟨by decide +kernel, rfl⟩
theorem d_X_digest_134 : DC b_X_digest 134 (.i2l) 1 135 := ⟨by decide +kernel, rfl⟩
theorem d_X_digest_135 : DC b_X_digest 135 (.ladd) 1 136 := ⟨by decide +kernel, rfl⟩
theorem d_X_digest_136 : DC b_X_digest 136 (.lstore_n 1) 1 137 := ⟨by decide +kernel, rfl⟩
theorem d_X_digest_137 : DC b_X_digest 137 (.ldc2_w 376) 3 140 := ⟨by decide +kernel, rfl⟩
theorem d_X_digest_140 : DC b_X_digest 140 (.lload_n 1) 1 141 := ⟨by decide +kernel, rfl⟩
theorem d_X_digest_141 : DC b_X_digest 141 (.lmul) 1 142 := ⟨by decide +kernel, rfl⟩
theorem d_X_digest_142 : DC b_X_digest 142 (.aload_n 0) 1 143 := ⟨by decide +kernel, rfl⟩
theorem d_X_digest_143 : DC b_X_digest 143 (.invokevirtual 390) 3 146 := ⟨by decide +kernel, rfl⟩
theorem d_X_digest_146 : DC b_X_digest 146 (.i2l) 1 147 := ⟨by decide +kernel, rfl⟩
theorem d_X_digest_147 : DC b_X_digest 147 (.ladd) 1 148 := ⟨by decide +kernel, rfl⟩
theorem d_X_digest_148 : DC b_X_digest 148 (.lstore_n 1) 1 149 := ⟨by decide +kernel, rfl⟩
theorem d_X_digest_149 : DC b_X_digest 149 (.iconst 0) 1 150 := ⟨by decide +kernel, rfl⟩
theorem d_X_digest_150 : DC b_X_digest 150 (.istore_n 3) 1 151 := ⟨by decide +kernel, rfl⟩
theorem d_X_digest_151 : DC b_X_digest 151 (.iload_n 3) 1 152 := ⟨by decide +kernel, rfl⟩
theorem d_X_digest_152 : DC b_X_digest 152 (.bipush 8) 2 154 := ⟨by decide +kernel, rfl⟩
theorem d_X_digest_154 : DB b_X_digest 154 (.if_icmp .ge 47) 47 201 157 := ⟨by decide +kernel, by decide, rfl⟩
theorem d_X_digest_157 : DC b_X_digest 157 (.iload_n 3) 1 158 := ⟨by decide +kernel, rfl⟩
theorem d_X_digest_158 : DC b_X_digest 158 (.iconst 1) 1 159 := ⟨by decide +kernel, rfl⟩
theorem d_X_digest_159 : DC b_X_digest 159 (.iadd) 1 160 := ⟨by decide +kernel, rfl⟩
theorem d_X_digest_160 : DC b_X_digest 160 (.istore 4) 2 162 := ⟨by decide +kernel, rfl⟩
theorem d_X_digest_162 : DC b_X_digest 162 (.iload 4) 2 164 := ⟨by decide +kernel, rfl⟩
theorem d_X_digest_164 : DC b_X_digest 164 (.bipush 8) 2 166 := ⟨by decide +kernel, rfl⟩
theorem d_X_digest_166 : DB b_X_digest 166 (.if_icmp .ge 29) 29 195 169 := ⟨by decide +kernel, by decide, rfl⟩
theorem d_X_digest_169 : DC b_X_digest 169 (.ldc2_w 376) 3 172 := ⟨by decide +kernel, rfl⟩
theorem d_X_digest_172 : DC b_X_digest 172 (.lload_n 1) 1 173 := ⟨by decide +kernel, rfl⟩
theorem d_X_digest_173 : DC b_X_digest 173 (.lmul) 1 174 := ⟨by decide +kernel, rfl⟩
theorem d_X_digest_174 : DC b_X_digest 174 (.aload_n 0) 1 175 := ⟨by decide +kernel, rfl⟩
theorem d_X_digest_175 : DC b_X_digest 175 (.getfield 64) 3 178 := ⟨by decide +kernel, rfl⟩
theorem d_X_digest_178 : DC b_X_digest 178 (.iload_n 3) 1 179 := ⟨by decide +kernel, rfl⟩
theorem d_X_digest_179 : DC b_X_digest 179 (.bipush 8) 2 181 := ⟨by decide +kernel, rfl⟩
theorem d_X_digest_181 : DC b_X_digest 181 (.imul) 1 182 := ⟨by decide +kernel, rfl⟩
theorem d_X_digest_182 : DC b_X_digest 182 (.iload 4) 2 184 := ⟨by decide +kernel, rfl⟩
theorem d_X_digest_184 : DC b_X_digest 184 (.iadd) 1 185 := ⟨by decide +kernel, rfl⟩
theorem d_X_digest_185 : DC b_X_digest 185 (.iaload) 1 186 := ⟨by decide +kernel, rfl⟩
theorem d_X_digest_186 : DC b_X_digest 186 (.i2l) 1 187 := ⟨by decide +kernel, rfl⟩
theorem d_X_digest_187 : DC b_X_digest 187 (.ladd) 1 188 := ⟨by decide +kernel, rfl⟩
theorem d_X_digest_188 : DC b_X_digest 188 (.lstore_n 1) 1 189 := ⟨by decide +kernel, rfl⟩
theorem d_X_digest_189 : DC b_X_digest 189 (.iinc 4 1) 3 192 := ⟨by decide +kernel, rfl⟩
theorem d_X_digest_192 : DB b_X_digest 192 (.goto (-30)) (-30) 162 195 := ⟨by decide +kernel, by decide, rfl⟩
theorem d_X_digest_195 : DC b_X_digest 195 (.iinc 3 1) 3 198 := ⟨by decide +kernel, rfl⟩
theorem d_X_digest_198 : DB b_X_digest 198 (.goto (-47)) (-47) 151 201 := ⟨by decide +kernel, by decide, rfl⟩
theorem d_X_digest_201 : DC b_X_digest 201 (.lload_n 1) 1 202 := ⟨by decide +kernel, rfl⟩
theorem d_X_digest_202 : decode b_X_digest 202 = .ok (.lreturn, 1) := by decide +kernel
theorem w_X_digest_b34 {X : Ctx} {Y : Lay} (hY : IsX Y) (C : Cx X Y b_X_digest 5 (some .long) "TopYard" 8) {N : Nat} {r : Int64 × Mem} (k6 : Int64 → Int32 → Mem → Option (Int64 × Mem)) (hk6 : ∀ (x1 : Int64) (x3 : Int32) (ν : Mem), k6 x1 x3 ν = some r → J X Y (some (.long r.1)) r.2 5 6 [(0, .ref (yad Y 0)), (1, .long x1), (3, .int x3)] [] ν) (x3 : Int32) (xs0 : Int64) (μ : Mem) (hf : f_X_digest_b34 N k6 x3 xs0 μ = some r) : J X Y (some (.long r.1)) r.2 5 34 [(0, .ref (yad Y 0)), (3, .int x3)] [.long xs0] μ := by
  unfold f_X_digest_b34 at hf
  refine j_lstore_n (lvf := [(0, .ref (yad Y 0)), (3, .int x3)]) C d_X_digest_34 (by decide) rfl ?_
  refine j_iinc (lvf := [(1, .long xs0), (0, .ref (yad Y 0))]) (v := 1) C d_X_digest_35 2 rfl (by decide) (by decide) rfl hf (fun v1 hf => ?_)
  refine j_goto C d_X_digest_38 ?_
  refine j_sub [2, 1, 0] rfl ?_
  exact hk6 xs0 v1 μ hf
theorem w_X_digest_l162 {X : Ctx} {Y : Lay} (hY : IsX Y) (C : Cx X Y b_X_digest 5 (some .long) "TopYard" 8) {N : Nat} {r : Int64 × Mem} (k151 : Int64 → Int32 → Mem → Option (Int64 × Mem)) (hk151 : ∀ (x1 : Int64) (x3 : Int32) (ν : Mem), k151 x1 x3 ν = some r → J X Y (some (.long r.1)) r.2 5 151 [(0, .ref (yad Y 0)), (1, .long x1), (3, .int x3)] [] ν) : ∀ (n : Nat) (x1 : Int64) (x3 : Int32) (x4 : Int32) (μ : Mem), f_X_digest_l162 N k151 n x1 x3 x4 μ = some r → J X Y (some (.long r.1)) r.2 5 162 [(0, .ref (yad Y 0)), (1, .long x1), (3, .int x3), (4, .int x4)] [] μ := by
  intro n
  induction n with
  | zero => intro x1 x3 x4 μ hf; rw [f_X_digest_l162] at hf; cases hf
  | succ n ih =>
    intro x1 x3 x4 μ hf
    rw [f_X_digest_l162] at hf
    refine j_iload C d_X_digest_162 3 rfl ?_
    refine j_bipush (v := 8) C d_X_digest_164 (by decide) ?_
    refine j_icmp_ge C d_X_digest_166 hf (fun hf => ?_) (fun hf => ?_)
    · refine j_iinc (lvf := [(0, .ref (yad Y 0)), (1, .long x1), (4, .int x4)]) (v := 1) C d_X_digest_195 2 rfl (by decide) (by decide) rfl hf (fun v1 hf => ?_)
      refine j_goto C d_X_digest_198 ?_
      refine j_sub [1, 2, 0] rfl ?_
      exact hk151 x1 v1 μ hf
    · refine j_ldc2 (v := 31) C d_X_digest_169 wd_143 ?_
      refine j_lload_n C d_X_digest_172 1 rfl ?_
      refine j_lmul C d_X_digest_173 ?_
      refine j_aload_n C d_X_digest_174 0 rfl ?_
      refine j_gS (b := 43) C fl_X_64 (kX hY rfl) (nX hY (by decide)) rfl hY.2.2.2.1 rfl (sX hY rfl) d_X_digest_175 ?_
      refine j_iload_n C d_X_digest_178 2 rfl ?_
      refine j_bipush (v := 8) C d_X_digest_179 (by decide) ?_
      refine j_imul C d_X_digest_181 ?_
      refine j_iload C d_X_digest_182 3 rfl ?_
      refine j_iadd C d_X_digest_184 ?_
      refine ck hf (fun hi2 hf => ?_)
      refine j_iald C (kX hY rfl) (nX hY (by decide)) (lX hY rfl) hi2 d_X_digest_185 ?_
      refine j_i2l C d_X_digest_186 ?_
      refine j_ladd C d_X_digest_187 ?_
      refine j_lstore_nN (lvf := [(0, .ref (yad Y 0)), (3, .int x3), (4, .int x4)]) C d_X_digest_188 (by decide) rfl hf (fun v3 hf => ?_)
      refine j_iinc (lvf := [(1, .long v3), (0, .ref (yad Y 0)), (3, .int x3)]) (v := 1) C d_X_digest_189 3 rfl (by decide) (by decide) rfl hf (fun v4 hf => ?_)
      refine j_goto C d_X_digest_192 ?_
      refine j_sub [2, 1, 3, 0] rfl ?_
      exact ih v3 x3 v4 μ hf
theorem w_X_digest_l151 {X : Ctx} {Y : Lay} (hY : IsX Y) (C : Cx X Y b_X_digest 5 (some .long) "TopYard" 8) {N : Nat} {r : Int64 × Mem} : ∀ (n : Nat) (x1 : Int64) (x3 : Int32) (μ : Mem), f_X_digest_l151 N n x1 x3 μ = some r → J X Y (some (.long r.1)) r.2 5 151 [(0, .ref (yad Y 0)), (1, .long x1), (3, .int x3)] [] μ := by
  intro n
  induction n with
  | zero => intro x1 x3 μ hf; rw [f_X_digest_l151] at hf; cases hf
  | succ n ih =>
    intro x1 x3 μ hf
    rw [f_X_digest_l151] at hf
    refine j_iload_n C d_X_digest_151 2 rfl ?_
    refine j_bipush (v := 8) C d_X_digest_152 (by decide) ?_
    refine j_icmp_ge C d_X_digest_154 hf (fun hf => ?_) (fun hf => ?_)
    · refine j_lload_n C d_X_digest_201 1 rfl ?_
      obtain rfl := Option.some.inj hf
      exact j_lret C d_X_digest_202
    · refine j_iload_n C d_X_digest_157 2 rfl ?_
      refine j_iconst (v := 1) C d_X_digest_158 (by decide) ?_
      refine j_iadd C d_X_digest_159 ?_
      refine j_istoreN (lvf := [(0, .ref (yad Y 0)), (1, .long x1), (3, .int x3)]) C d_X_digest_160 (by decide) rfl hf (fun v1 hf => ?_)
      refine j_sub [1, 2, 3, 0] rfl ?_
      exact w_X_digest_l162 hY C (f_X_digest_l151 N n) ih N x1 x3 v1 μ hf
theorem w_X_digest_l87 {X : Ctx} {Y : Lay} (hY : IsX Y) (C : Cx X Y b_X_digest 5 (some .long) "TopYard" 8) {N : Nat} {r : Int64 × Mem} : ∀ (n : Nat) (x1 : Int64) (x3 : Int32) (μ : Mem), f_X_digest_l87 N n x1 x3 μ = some r → J X Y (some (.long r.1)) r.2 5 87 [(0, .ref (yad Y 0)), (1, .long x1), (3, .int x3)] [] μ := by
  intro n
  induction n with
  | zero => intro x1 x3 μ hf; rw [f_X_digest_l87] at hf; cases hf
  | succ n ih =>
    intro x1 x3 μ hf
    rw [f_X_digest_l87] at hf
    refine j_iload_n C d_X_digest_87 2 rfl ?_
    refine j_bipush (v := 8) C d_X_digest_88 (by decide) ?_
    refine j_icmp_ge C d_X_digest_90 hf (fun hf => ?_) (fun hf => ?_)
    · refine j_ldc2 (v := 31) C d_X_digest_113 wd_143 ?_
      refine j_lload_n C d_X_digest_116 1 rfl ?_
      refine j_lmul C d_X_digest_117 ?_
      refine j_aload_n C d_X_digest_118 0 rfl ?_
      refine bd2 hf (fun v1 μ2 hc12 hf => ?_)
      refine j_cV (rest := [.long ((31 : Int64) * x1)]) C lk_X_384 (c_X_run hY hc12) rfl (kX hY rfl) (nX hY (by decide)) (by decide) rfl rfl (by decide) rfl (Nat.le_of_ble_eq_true rfl) d_X_digest_119 ?_
      refine j_i2l C d_X_digest_122 ?_
      refine j_ladd C d_X_digest_123 ?_
      refine j_lstore_nN (lvf := [(0, .ref (yad Y 0)), (3, .int x3)]) C d_X_digest_124 (by decide) rfl hf (fun v3 hf => ?_)
      refine j_ldc2 (v := 31) C d_X_digest_125 wd_143 ?_
      refine j_lload_n C d_X_digest_128 0 rfl ?_
      refine j_lmul C d_X_digest_129 ?_
      refine j_aload_n C d_X_digest_130 1 rfl ?_
      refine bd2 hf (fun v4 μ5 hc11 hf => ?_)
      refine j_cV (rest := [.long ((31 : Int64) * v3)]) C lk_X_387 (c_X_winner hY hc11) rfl (kX hY rfl) (nX hY (by decide)) (by decide) rfl rfl (by decide) rfl (Nat.le_of_ble_eq_true rfl) d_X_digest_131 ?_
      refine j_i2l C d_X_digest_134 ?_
      refine j_ladd C d_X_digest_135 ?_
      refine j_lstore_nN (lvf := [(0, .ref (yad Y 0)), (3, .int x3)]) C d_X_digest_136 (by decide) rfl hf (fun v6 hf => ?_)
      refine j_ldc2 (v := 31) C d_X_digest_137 wd_143 ?_
      refine j_lload_n C d_X_digest_140 0 rfl ?_
      refine j_lmul C d_X_digest_141 ?_
      refine j_aload_n C d_X_digest_142 1 rfl ?_
      refine bd2 hf (fun v7 μ8 hc10 hf => ?_)
      refine j_cV (rest := [.long ((31 : Int64) * v6)]) C lk_X_390 (c_X_value hY hc10) rfl (kX hY rfl) (nX hY (by decide)) (by decide) rfl rfl (by decide) rfl (Nat.le_of_ble_eq_true rfl) d_X_digest_143 ?_
      refine j_i2l C d_X_digest_146 ?_
      refine j_ladd C d_X_digest_147 ?_
      refine j_lstore_nN (lvf := [(0, .ref (yad Y 0)), (3, .int x3)]) C d_X_digest_148 (by decide) rfl hf (fun v9 hf => ?_)
      refine j_iconst (v := 0) C d_X_digest_149 (by decide) ?_
      refine j_istore_n (lvf := [(1, .long v9), (0, .ref (yad Y 0))]) C d_X_digest_150 (by decide) rfl ?_
      refine j_sub [2, 1, 0] rfl ?_
      exact w_X_digest_l151 hY C N v9 0 μ8 hf
    · refine j_ldc2 (v := 31) C d_X_digest_93 wd_143 ?_
      refine j_lload_n C d_X_digest_96 1 rfl ?_
      refine j_lmul C d_X_digest_97 ?_
      refine j_aload_n C d_X_digest_98 0 rfl ?_
      refine j_gS (b := 4) C fl_X_26 (kX hY rfl) (nX hY (by decide)) rfl hY.2.2.2.1 rfl (sX hY rfl) d_X_digest_99 ?_
      refine j_iload_n C d_X_digest_102 2 rfl ?_
      refine ck hf (fun hi13 hf => ?_)
      refine j_iald C (kX hY rfl) (nX hY (by decide)) (lX hY rfl) hi13 d_X_digest_103 ?_
      refine j_i2l C d_X_digest_104 ?_
      refine j_ladd C d_X_digest_105 ?_
      refine j_lstore_nN (lvf := [(0, .ref (yad Y 0)), (3, .int x3)]) C d_X_digest_106 (by decide) rfl hf (fun v14 hf => ?_)
      refine j_iinc (lvf := [(1, .long v14), (0, .ref (yad Y 0))]) (v := 1) C d_X_digest_107 2 rfl (by decide) (by decide) rfl hf (fun v15 hf => ?_)
      refine j_goto C d_X_digest_110 ?_
      refine j_sub [2, 1, 0] rfl ?_
      exact ih v14 v15 μ hf
theorem w_X_digest_l43 {X : Ctx} {Y : Lay} (hY : IsX Y) (C : Cx X Y b_X_digest 5 (some .long) "TopYard" 8) {N : Nat} {r : Int64 × Mem} : ∀ (n : Nat) (x1 : Int64) (x3 : Int32) (μ : Mem), f_X_digest_l43 N n x1 x3 μ = some r → J X Y (some (.long r.1)) r.2 5 43 [(0, .ref (yad Y 0)), (1, .long x1), (3, .int x3)] [] μ := by
  intro n
  induction n with
  | zero => intro x1 x3 μ hf; rw [f_X_digest_l43] at hf; cases hf
  | succ n ih =>
    intro x1 x3 μ hf
    rw [f_X_digest_l43] at hf
    refine j_iload_n C d_X_digest_43 2 rfl ?_
    refine j_aload_n C d_X_digest_44 0 rfl ?_
    refine j_gI C fl_X_15 (kX hY rfl) (nX hY (by decide)) rfl d_X_digest_45 ?_
    refine j_icmp_ge C d_X_digest_48 hf (fun hf => ?_) (fun hf => ?_)
    · refine j_iconst (v := 0) C d_X_digest_85 (by decide) ?_
      refine j_istore_n (lvf := [(0, .ref (yad Y 0)), (1, .long x1)]) C d_X_digest_86 (by decide) rfl ?_
      refine j_sub [1, 2, 0] rfl ?_
      exact w_X_digest_l87 hY C N x1 0 μ hf
    · refine j_ldc2 (v := 31) C d_X_digest_51 wd_143 ?_
      refine j_lload_n C d_X_digest_54 1 rfl ?_
      refine j_lmul C d_X_digest_55 ?_
      refine j_aload_n C d_X_digest_56 0 rfl ?_
      refine j_iload_n C d_X_digest_57 2 rfl ?_
      refine j_iconst (v := 4) C d_X_digest_58 (by decide) ?_
      refine bd hf (fun v1 hc7 hf => ?_)
      refine j_cV (rest := [.long ((31 : Int64) * x1)]) C lk_X_381 (c_X_about hY hc7) rfl (kX hY rfl) (nX hY (by decide)) (by decide) rfl rfl (by decide) rfl (Nat.le_of_ble_eq_true rfl) d_X_digest_59 ?_
      refine j_i2l C d_X_digest_62 ?_
      refine j_ladd C d_X_digest_63 ?_
      refine j_lstore_nN (lvf := [(0, .ref (yad Y 0)), (3, .int x3)]) C d_X_digest_64 (by decide) rfl hf (fun v2 hf => ?_)
      refine j_ldc2 (v := 31) C d_X_digest_65 wd_143 ?_
      refine j_lload_n C d_X_digest_68 0 rfl ?_
      refine j_lmul C d_X_digest_69 ?_
      refine j_aload_n C d_X_digest_70 1 rfl ?_
      refine j_iload_n C d_X_digest_71 2 rfl ?_
      refine j_iconst (v := 5) C d_X_digest_72 (by decide) ?_
      refine bd hf (fun v3 hc6 hf => ?_)
      refine j_cV (rest := [.long ((31 : Int64) * v2)]) C lk_X_381 (c_X_about hY hc6) rfl (kX hY rfl) (nX hY (by decide)) (by decide) rfl rfl (by decide) rfl (Nat.le_of_ble_eq_true rfl) d_X_digest_73 ?_
      refine j_i2l C d_X_digest_76 ?_
      refine j_ladd C d_X_digest_77 ?_
      refine j_lstore_nN (lvf := [(0, .ref (yad Y 0)), (3, .int x3)]) C d_X_digest_78 (by decide) rfl hf (fun v4 hf => ?_)
      refine j_iinc (lvf := [(1, .long v4), (0, .ref (yad Y 0))]) (v := 1) C d_X_digest_79 2 rfl (by decide) (by decide) rfl hf (fun v5 hf => ?_)
      refine j_goto C d_X_digest_82 ?_
      refine j_sub [2, 1, 0] rfl ?_
      exact ih v4 v5 μ hf
theorem w_X_digest_l6 {X : Ctx} {Y : Lay} (hY : IsX Y) (C : Cx X Y b_X_digest 5 (some .long) "TopYard" 8) {N : Nat} {r : Int64 × Mem} : ∀ (n : Nat) (x1 : Int64) (x3 : Int32) (μ : Mem), f_X_digest_l6 N n x1 x3 μ = some r → J X Y (some (.long r.1)) r.2 5 6 [(0, .ref (yad Y 0)), (1, .long x1), (3, .int x3)] [] μ := by
  intro n
  induction n with
  | zero => intro x1 x3 μ hf; rw [f_X_digest_l6] at hf; cases hf
  | succ n ih =>
    intro x1 x3 μ hf
    rw [f_X_digest_l6] at hf
    refine j_iload_n C d_X_digest_6 2 rfl ?_
    refine j_bipush (v := 10) C d_X_digest_7 (by decide) ?_
    refine j_icmp_gt C d_X_digest_9 hf (fun hf => ?_) (fun hf => ?_)
    · refine j_iconst (v := 0) C d_X_digest_41 (by decide) ?_
      refine j_istore_n (lvf := [(0, .ref (yad Y 0)), (1, .long x1)]) C d_X_digest_42 (by decide) rfl ?_
      refine j_sub [1, 2, 0] rfl ?_
      exact w_X_digest_l43 hY C N x1 0 μ hf
    · refine j_iload_n C d_X_digest_12 2 rfl ?_
      refine j_bipush (v := 8) C d_X_digest_13 (by decide) ?_
      refine j_icmp_ne C d_X_digest_15 hf (fun hf => ?_) (fun hf => ?_)
      · refine j_ldc2 (v := 31) C d_X_digest_22 wd_143 ?_
        refine j_lload_n C d_X_digest_25 1 rfl ?_
        refine j_lmul C d_X_digest_26 ?_
        refine j_aload_n C d_X_digest_27 0 rfl ?_
        refine j_iload_n C d_X_digest_28 2 rfl ?_
        refine bd hf (fun v1 hc2 hf => ?_)
        refine j_cV (rest := [.long ((31 : Int64) * x1)]) C lk_X_378 (c_X_count hY hc2) rfl (kX hY rfl) (nX hY (by decide)) (by decide) rfl rfl (by decide) rfl (Nat.le_of_ble_eq_true rfl) d_X_digest_29 ?_
        refine j_i2l C d_X_digest_32 ?_
        refine j_ladd C d_X_digest_33 ?_
        refine j_sub [0, 2] rfl ?_
        exact w_X_digest_b34 hY C (f_X_digest_l6 N n) ih x3 (((31 : Int64) * x1) + v1.toInt64) μ hf
      · refine j_lload_n C d_X_digest_18 1 rfl ?_
        refine j_goto C d_X_digest_19 ?_
        refine j_sub [0, 2] rfl ?_
        exact w_X_digest_b34 hY C (f_X_digest_l6 N n) ih x3 x1 μ hf
theorem c_X_digest {l : Launch} {Y : Lay} (hY : IsX Y) {N : Nat} {μ : Mem} {r : Int64 × Mem} (hf : f_X_digest N μ = some r) : Ct l Y y_X_digest b_X_digest 5 (some .long) 8 [.ref (yad Y 0)] (some (.long r.1)) μ r.2 := by
  refine ct_of (own := "TopYard") (lv := [(0, .ref (yad Y 0))]) (by decide +kernel) rfl (Nat.le_of_ble_eq_true rfl) rfl (fun X hl C => ?_)
  subst hl
  unfold f_X_digest at hf
  refine j_ldc2 (v := 17) C d_X_digest_0 wd_142 ?_
  refine j_lstore_n (lvf := [(0, .ref (yad Y 0))]) C d_X_digest_3 (by decide) rfl ?_
  refine j_iconst (v := 0) C d_X_digest_4 (by decide) ?_
  refine j_istore_n (lvf := [(1, .long 17), (0, .ref (yad Y 0))]) C d_X_digest_5 (by decide) rfl ?_
  refine j_sub [2, 1, 0] rfl ?_
  exact w_X_digest_l6 hY C N 17 0 μ hf
theorem d_M_in_0 : DC b_M_in 0 (.lload_n 0) 1 1 := ⟨by decide +kernel, rfl⟩
theorem d_M_in_1 : DC b_M_in 1 (.lload_n 2) 1 2 := ⟨by decide +kernel, rfl⟩
theorem d_M_in_2 : DC b_M_in 2 (.lcmp) 1 3 := ⟨by decide +kernel, rfl⟩
theorem d_M_in_3 : DB b_M_in 3 (.ifCond .lt 14) 14 17 6 := ⟨by decide +kernel, by decide, rfl⟩
theorem d_M_in_6 : DC b_M_in 6 (.lload_n 0) 1 7 := ⟨by decide +kernel, rfl⟩
theorem d_M_in_7 : DC b_M_in 7 (.lload 4) 2 9 := ⟨by decide +kernel, rfl⟩
theorem d_M_in_9 : DC b_M_in 9 (.lcmp) 1 10 := ⟨by decide +kernel, rfl⟩
theorem d_M_in_10 : DB b_M_in 10 (.ifCond .gt 7) 7 17 13 := ⟨by decide +kernel, by decide, rfl⟩
theorem d_M_in_13 : DC b_M_in 13 (.iconst 1) 1 14 := ⟨by decide +kernel, rfl⟩
theorem d_M_in_14 : DB b_M_in 14 (.goto 4) 4 18 17 := ⟨by decide +kernel, by decide, rfl⟩
theorem d_M_in_17 : DC b_M_in 17 (.iconst 0) 1 18 := ⟨by decide +kernel, rfl⟩
theorem d_M_in_18 : decode b_M_in 18 = .ok (.ireturn, 1) := by decide +kernel
theorem c_M_in {l : Launch} {Y : Lay} (hY : IsM Y) {μ : Mem} {x0 : Int64} {x2 : Int64} {x4 : Int64} {r : Int32} (hf : f_M_in x0 x2 x4 = some r) : Ct l Y y_M_in b_M_in 6 (some .boolean) 1 [.long x0, .long x2, .long x4] (some (.int r)) μ μ := by
  refine ct_of (own := "TopYardModel") (lv := [(0, .long x0), (2, .long x2), (4, .long x4)]) (by decide +kernel) rfl (Nat.le_of_ble_eq_true rfl) rfl (fun X hl C => ?_)
  subst hl
  unfold f_M_in at hf
  refine j_lload_n C d_M_in_0 0 rfl ?_
  refine j_lload_n C d_M_in_1 1 rfl ?_
  refine j_lcmp_lt C d_M_in_2 d_M_in_3 hf (fun hf => ?_) (fun hf => ?_)
  · refine j_iconst (v := 0) C d_M_in_17 (by decide) ?_
    obtain rfl := Option.some.inj hf
    exact j_zret C (Or.inl rfl) d_M_in_18
  · refine j_lload_n C d_M_in_6 0 rfl ?_
    refine j_lload C d_M_in_7 2 rfl ?_
    refine j_lcmp_gt C d_M_in_9 d_M_in_10 hf (fun hf => ?_) (fun hf => ?_)
    · refine j_iconst (v := 0) C d_M_in_17 (by decide) ?_
      obtain rfl := Option.some.inj hf
      exact j_zret C (Or.inl rfl) d_M_in_18
    · refine j_iconst (v := 1) C d_M_in_13 (by decide) ?_
      refine j_goto C d_M_in_14 ?_
      obtain rfl := Option.some.inj hf
      exact j_zret C (Or.inr rfl) d_M_in_18
theorem d_M_c_0 : DC b_M_c 0 (.aload_n 0) 1 1 := ⟨by decide +kernel, rfl⟩
theorem d_M_c_1 : DC b_M_c 1 (.getfield 7) 3 4 := ⟨by decide +kernel, rfl⟩
theorem d_M_c_4 : DC b_M_c 4 (.iload_n 1) 1 5 := ⟨by decide +kernel, rfl⟩
theorem d_M_c_5 : DC b_M_c 5 (.bipush 36) 2 7 := ⟨by decide +kernel, rfl⟩
theorem d_M_c_7 : DC b_M_c 7 (.irem) 1 8 := ⟨by decide +kernel, rfl⟩
theorem d_M_c_8 : DC b_M_c 8 (.iaload) 1 9 := ⟨by decide +kernel, rfl⟩
theorem d_M_c_9 : decode b_M_c 9 = .ok (.ireturn, 1) := by decide +kernel
theorem c_M_c {l : Launch} {Y : Lay} (hY : IsM Y) {μ : Mem} {x1 : Int32} {r : Int32} (hf : f_M_c μ x1 = some r) : Ct l Y y_M_c b_M_c 2 (some .int) 1 [.ref (yad Y 0), .int x1] (some (.int r)) μ μ := by
  refine ct_of (own := "TopYardModel") (lv := [(0, .ref (yad Y 0)), (1, .int x1)]) (by decide +kernel) rfl (Nat.le_of_ble_eq_true rfl) rfl (fun X hl C => ?_)
  subst hl
  unfold f_M_c at hf
  refine j_aload_n C d_M_c_0 0 rfl ?_
  refine j_gS (b := 1) C fl_M_7 (kM hY rfl) (nM hY (by decide)) rfl hY.2.2.2.1 rfl (sM hY rfl) d_M_c_1 ?_
  refine j_iload_n C d_M_c_4 1 rfl ?_
  refine j_bipush (v := 36) C d_M_c_5 (by decide) ?_
  refine j_irem C d_M_c_7 (by decide) ?_
  refine ck hf (fun hi1 hf => ?_)
  refine j_iald C (kM hY rfl) (nM hY (by decide)) (lM hY rfl) hi1 d_M_c_8 ?_
  obtain rfl := Option.some.inj hf
  exact j_iret C d_M_c_9
theorem d_M_s_0 : DC b_M_s 0 (.aload_n 0) 1 1 := ⟨by decide +kernel, rfl⟩
theorem d_M_s_1 : DC b_M_s 1 (.getfield 7) 3 4 := ⟨by decide +kernel, rfl⟩
theorem d_M_s_4 : DC b_M_s 4 (.iload_n 1) 1 5 := ⟨by decide +kernel, rfl⟩
theorem d_M_s_5 : DC b_M_s 5 (.bipush 27) 2 7 := ⟨by decide +kernel, rfl⟩
theorem d_M_s_7 : DC b_M_s 7 (.iadd) 1 8 := ⟨by decide +kernel, rfl⟩
theorem d_M_s_8 : DC b_M_s 8 (.bipush 36) 2 10 := ⟨by decide +kernel, rfl⟩
theorem d_M_s_10 : DC b_M_s 10 (.irem) 1 11 := ⟨by decide +kernel, rfl⟩
theorem d_M_s_11 : DC b_M_s 11 (.iaload) 1 12 := ⟨by decide +kernel, rfl⟩
theorem d_M_s_12 : decode b_M_s 12 = .ok (.ireturn, 1) := by decide +kernel
theorem c_M_s {l : Launch} {Y : Lay} (hY : IsM Y) {μ : Mem} {x1 : Int32} {r : Int32} (hf : f_M_s μ x1 = some r) : Ct l Y y_M_s b_M_s 2 (some .int) 1 [.ref (yad Y 0), .int x1] (some (.int r)) μ μ := by
  refine ct_of (own := "TopYardModel") (lv := [(0, .ref (yad Y 0)), (1, .int x1)]) (by decide +kernel) rfl (Nat.le_of_ble_eq_true rfl) rfl (fun X hl C => ?_)
  subst hl
  unfold f_M_s at hf
  refine j_aload_n C d_M_s_0 0 rfl ?_
  refine j_gS (b := 1) C fl_M_7 (kM hY rfl) (nM hY (by decide)) rfl hY.2.2.2.1 rfl (sM hY rfl) d_M_s_1 ?_
  refine j_iload_n C d_M_s_4 1 rfl ?_
  refine j_bipush (v := 27) C d_M_s_5 (by decide) ?_
  refine j_iadd C d_M_s_7 ?_
  refine j_bipush (v := 36) C d_M_s_8 (by decide) ?_
  refine j_irem C d_M_s_10 (by decide) ?_
  refine ck hf (fun hi1 hf => ?_)
  refine j_iald C (kM hY rfl) (nM hY (by decide)) (lM hY rfl) hi1 d_M_s_11 ?_
  obtain rfl := Option.some.inj hf
  exact j_iret C d_M_s_12
theorem d_M_turn_0 : DC b_M_turn 0 (.iload_n 1) 1 1 := ⟨by decide +kernel, rfl⟩
theorem d_M_turn_1 : DC b_M_turn 1 (.i2l) 1 2 := ⟨by decide +kernel, rfl⟩
theorem d_M_turn_2 : DC b_M_turn 2 (.lconst 0) 1 3 := ⟨by decide +kernel, rfl⟩
theorem d_M_turn_3 : DC b_M_turn 3 (.ldc2_w 162) 3 6 := ⟨by decide +kernel, rfl⟩
theorem d_M_turn_6 : DC b_M_turn 6 (.invokestatic 164) 3 9 := ⟨by decide +kernel, rfl⟩
theorem d_M_turn_9 : DB b_M_turn 9 (.ifCond .eq 13) 13 22 12 := ⟨by decide +kernel, by decide, rfl⟩
theorem d_M_turn_12 : DC b_M_turn 12 (.iload_n 2) 1 13 := ⟨by decide +kernel, rfl⟩
theorem d_M_turn_13 : DC b_M_turn 13 (.i2l) 1 14 := ⟨by decide +kernel, rfl⟩
theorem d_M_turn_14 : DC b_M_turn 14 (.lconst 0) 1 15 := ⟨by decide +kernel, rfl⟩
theorem d_M_turn_15 : DC b_M_turn 15 (.lconst 1) 1 16 := ⟨by decide +kernel, rfl⟩
theorem d_M_turn_16 : DC b_M_turn 16 (.invokestatic 164) 3 19 := ⟨by decide +kernel, rfl⟩
theorem d_M_turn_19 : DB b_M_turn 19 (.ifCond .ne 7) 7 26 22 := ⟨by decide +kernel, by decide, rfl⟩
theorem d_M_turn_22 : DC b_M_turn 22 (.sipush (-1000)) 3 25 := ⟨by decide +kernel, rfl⟩
theorem d_M_turn_25 : decode b_M_turn 25 = .ok (.ireturn, 1) := by decide +kernel
theorem d_M_turn_26 : DC b_M_turn 26 (.iload_n 2) 1 27 := ⟨by decide +kernel, rfl⟩
theorem d_M_turn_27 : DB b_M_turn 27 (.ifCond .ne 11) 11 38 30 := ⟨by decide +kernel, by decide, rfl⟩
theorem d_M_turn_30 : DC b_M_turn 30 (.aload_n 0) 1 31 := ⟨by decide +kernel, rfl⟩
theorem d_M_turn_31 : DC b_M_turn 31 (.iload_n 1) 1 32 := ⟨by decide +kernel, rfl⟩
theorem d_M_turn_32 : DC b_M_turn 32 (.invokevirtual 168) 3 35 := ⟨by decide +kernel, rfl⟩
theorem d_M_turn_35 : DB b_M_turn 35 (.goto 8) 8 43 38 := ⟨by decide +kernel, by decide, rfl⟩
theorem d_M_turn_38 : DC b_M_turn 38 (.aload_n 0) 1 39 := ⟨by decide +kernel, rfl⟩
theorem d_M_turn_39 : DC b_M_turn 39 (.iload_n 1) 1 40 := ⟨by decide +kernel, rfl⟩
theorem d_M_turn_40 : DC b_M_turn 40 (.invokevirtual 172) 3 43 := ⟨by decide +kernel, rfl⟩
theorem d_M_turn_43 : decode b_M_turn 43 = .ok (.ireturn, 1) := by decide +kernel
theorem c_M_turn {l : Launch} {Y : Lay} (hY : IsM Y) {μ : Mem} {x1 : Int32} {x2 : Int32} {r : Int32} (hf : f_M_turn μ x1 x2 = some r) : Ct l Y y_M_turn b_M_turn 3 (some .int) 2 [.ref (yad Y 0), .int x1, .int x2] (some (.int r)) μ μ := by
  refine ct_of (own := "TopYardModel") (lv := [(0, .ref (yad Y 0)), (1, .int x1), (2, .int x2)]) (by decide +kernel) rfl (Nat.le_of_ble_eq_true rfl) rfl (fun X hl C => ?_)
  subst hl
  unfold f_M_turn at hf
  refine j_iload_n C d_M_turn_0 1 rfl ?_
  refine j_i2l C d_M_turn_1 ?_
  refine j_lconst (v := 0) C d_M_turn_2 (by decide) ?_
  refine j_ldc2 (v := 35) C d_M_turn_3 wd_145 ?_
  refine bd hf (fun v1 hc8 hf => ?_)
  refine j_cS (rest := []) C lk_M_164 (c_M_in hY hc8) rfl (by decide) rfl (Nat.le_of_ble_eq_true rfl) d_M_turn_6 ?_
  refine j_if_eq C d_M_turn_9 hf (fun hf => ?_) (fun hf => ?_)
  · refine j_sipush (v := (-1000)) C d_M_turn_22 (by decide) ?_
    obtain rfl := Option.some.inj hf
    exact j_iret C d_M_turn_25
  · refine j_iload_n C d_M_turn_12 2 rfl ?_
    refine j_i2l C d_M_turn_13 ?_
    refine j_lconst (v := 0) C d_M_turn_14 (by decide) ?_
    refine j_lconst (v := 1) C d_M_turn_15 (by decide) ?_
    refine bd hf (fun v2 hc7 hf => ?_)
    refine j_cS (rest := []) C lk_M_164 (c_M_in hY hc7) rfl (by decide) rfl (Nat.le_of_ble_eq_true rfl) d_M_turn_16 ?_
    refine j_if_ne C d_M_turn_19 hf (fun hf => ?_) (fun hf => ?_)
    · refine j_iload_n C d_M_turn_26 2 rfl ?_
      refine j_if_ne C d_M_turn_27 hf (fun hf => ?_) (fun hf => ?_)
      · refine j_aload_n C d_M_turn_38 0 rfl ?_
        refine j_iload_n C d_M_turn_39 1 rfl ?_
        refine bd hf (fun v3 hc4 hf => ?_)
        refine j_cV (rest := []) C lk_M_172 (c_M_s hY hc4) rfl (kM hY rfl) (nM hY (by decide)) (by decide) rfl rfl (by decide) rfl (Nat.le_of_ble_eq_true rfl) d_M_turn_40 ?_
        obtain rfl := Option.some.inj hf
        exact j_iret C d_M_turn_43
      · refine j_aload_n C d_M_turn_30 0 rfl ?_
        refine j_iload_n C d_M_turn_31 1 rfl ?_
        refine bd hf (fun v5 hc6 hf => ?_)
        refine j_cV (rest := []) C lk_M_168 (c_M_c hY hc6) rfl (kM hY rfl) (nM hY (by decide)) (by decide) rfl rfl (by decide) rfl (Nat.le_of_ble_eq_true rfl) d_M_turn_32 ?_
        refine j_goto C d_M_turn_35 ?_
        obtain rfl := Option.some.inj hf
        exact j_iret C d_M_turn_43
    · refine j_sipush (v := (-1000)) C d_M_turn_22 (by decide) ?_
      obtain rfl := Option.some.inj hf
      exact j_iret C d_M_turn_25
theorem d_M_isTop_0 : DC b_M_isTop 0 (.iload_n 1) 1 1 := ⟨by decide +kernel, rfl⟩
theorem d_M_isTop_1 : DC b_M_isTop 1 (.i2l) 1 2 := ⟨by decide +kernel, rfl⟩
theorem d_M_isTop_2 : DC b_M_isTop 2 (.lconst 0) 1 3 := ⟨by decide +kernel, rfl⟩
theorem d_M_isTop_3 : DC b_M_isTop 3 (.aload_n 0) 1 4 := ⟨by decide +kernel, rfl⟩
theorem d_M_isTop_4 : DC b_M_isTop 4 (.getfield 175) 3 7 := ⟨by decide +kernel, rfl⟩
theorem d_M_isTop_7 : DC b_M_isTop 7 (.iconst 1) 1 8 := ⟨by decide +kernel, rfl⟩
theorem d_M_isTop_8 : DC b_M_isTop 8 (.isub) 1 9 := ⟨by decide +kernel, rfl⟩
theorem d_M_isTop_9 : DC b_M_isTop 9 (.i2l) 1 10 := ⟨by decide +kernel, rfl⟩
theorem d_M_isTop_10 : DC b_M_isTop 10 (.invokestatic 164) 3 13 := ⟨by decide +kernel, rfl⟩
theorem d_M_isTop_13 : decode b_M_isTop 13 = .ok (.ireturn, 1) := by decide +kernel
theorem c_M_isTop {l : Launch} {Y : Lay} (hY : IsM Y) {μ : Mem} {x1 : Int32} {r : Int32} (hf : f_M_isTop μ x1 = some r) : Ct l Y y_M_isTop b_M_isTop 2 (some .boolean) 2 [.ref (yad Y 0), .int x1] (some (.int r)) μ μ := by
  refine ct_of (own := "TopYardModel") (lv := [(0, .ref (yad Y 0)), (1, .int x1)]) (by decide +kernel) rfl (Nat.le_of_ble_eq_true rfl) rfl (fun X hl C => ?_)
  subst hl
  unfold f_M_isTop at hf
  refine j_iload_n C d_M_isTop_0 1 rfl ?_
  refine j_i2l C d_M_isTop_1 ?_
  refine j_lconst (v := 0) C d_M_isTop_2 (by decide) ?_
  refine j_aload_n C d_M_isTop_3 0 rfl ?_
  refine j_gI C fl_M_175 (kM hY rfl) (nM hY (by decide)) rfl d_M_isTop_4 ?_
  refine j_iconst (v := 1) C d_M_isTop_7 (by decide) ?_
  refine j_isub C d_M_isTop_8 ?_
  refine j_i2l C d_M_isTop_9 ?_
  refine bd hf (fun v1 hc3 hf => ?_)
  refine j_cS (rest := []) C lk_M_164 (c_M_in hY hc3) rfl (by decide) rfl (Nat.le_of_ble_eq_true rfl) d_M_isTop_10 ?_
  refine ck hf (fun hb2 hf => ?_)
  obtain rfl := Option.some.inj hf
  exact j_zret C hb2 d_M_isTop_13
theorem d_M_isOwner_0 : DC b_M_isOwner 0 (.iload_n 0) 1 1 := ⟨by decide +kernel, rfl⟩
theorem d_M_isOwner_1 : DC b_M_isOwner 1 (.i2l) 1 2 := ⟨by decide +kernel, rfl⟩
theorem d_M_isOwner_2 : DC b_M_isOwner 2 (.lconst 0) 1 3 := ⟨by decide +kernel, rfl⟩
theorem d_M_isOwner_3 : DC b_M_isOwner 3 (.ldc2_w 178) 3 6 := ⟨by decide +kernel, rfl⟩
theorem d_M_isOwner_6 : DC b_M_isOwner 6 (.invokestatic 164) 3 9 := ⟨by decide +kernel, rfl⟩
theorem d_M_isOwner_9 : decode b_M_isOwner 9 = .ok (.ireturn, 1) := by decide +kernel
theorem c_M_isOwner {l : Launch} {Y : Lay} (hY : IsM Y) {μ : Mem} {x0 : Int32} {r : Int32} (hf : f_M_isOwner x0 = some r) : Ct l Y y_M_isOwner b_M_isOwner 1 (some .boolean) 2 [.int x0] (some (.int r)) μ μ := by
  refine ct_of (own := "TopYardModel") (lv := [(0, .int x0)]) (by decide +kernel) rfl (Nat.le_of_ble_eq_true rfl) rfl (fun X hl C => ?_)
  subst hl
  unfold f_M_isOwner at hf
  refine j_iload_n C d_M_isOwner_0 0 rfl ?_
  refine j_i2l C d_M_isOwner_1 ?_
  refine j_lconst (v := 0) C d_M_isOwner_2 (by decide) ?_
  refine j_ldc2 (v := 7) C d_M_isOwner_3 wd_147 ?_
  refine bd hf (fun v1 hc3 hf => ?_)
  refine j_cS (rest := []) C lk_M_164 (c_M_in hY hc3) rfl (by decide) rfl (Nat.le_of_ble_eq_true rfl) d_M_isOwner_6 ?_
  refine ck hf (fun hb2 hf => ?_)
  obtain rfl := Option.some.inj hf
  exact j_zret C hb2 d_M_isOwner_9
theorem d_M_top_0 : DC b_M_top 0 (.iload_n 1) 1 1 := ⟨by decide +kernel, rfl⟩
theorem d_M_top_1 : DC b_M_top 1 (.i2l) 1 2 := ⟨by decide +kernel, rfl⟩
theorem d_M_top_2 : DC b_M_top 2 (.lconst 1) 1 3 := ⟨by decide +kernel, rfl⟩
theorem d_M_top_3 : DC b_M_top 3 (.ldc2_w 180) 3 6 := ⟨by decide +kernel, rfl⟩
theorem d_M_top_6 : DC b_M_top 6 (.invokestatic 164) 3 9 := ⟨by decide +kernel, rfl⟩
theorem d_M_top_9 : DB b_M_top 9 (.ifCond .eq 47) 47 56 12 := ⟨by decide +kernel, by decide, rfl⟩
theorem d_M_top_12 : DC b_M_top 12 (.iload_n 2) 1 13 := ⟨by decide +kernel, rfl⟩
theorem d_M_top_13 : DC b_M_top 13 (.i2l) 1 14 := ⟨by decide +kernel, rfl⟩
theorem d_M_top_14 : DC b_M_top 14 (.lconst 1) 1 15 := ⟨by decide +kernel, rfl⟩
theorem d_M_top_15 : DC b_M_top 15 (.ldc2_w 182) 3 18 := ⟨by decide +kernel, rfl⟩
theorem d_M_top_18 : DC b_M_top 18 (.invokestatic 164) 3 21 := ⟨by decide +kernel, rfl⟩
theorem d_M_top_21 : DB b_M_top 21 (.ifCond .eq 35) 35 56 24 := ⟨by decide +kernel, by decide, rfl⟩
theorem d_M_top_24 : DC b_M_top 24 (.iload_n 3) 1 25 := ⟨by decide +kernel, rfl⟩
theorem d_M_top_25 : DC b_M_top 25 (.i2l) 1 26 := ⟨by decide +kernel, rfl⟩
theorem d_M_top_26 : DC b_M_top 26 (.lconst 1) 1 27 := ⟨by decide +kernel, rfl⟩
theorem d_M_top_27 : DC b_M_top 27 (.ldc2_w 184) 3 30 := ⟨by decide +kernel, rfl⟩
theorem d_M_top_30 : DC b_M_top 30 (.invokestatic 164) 3 33 := ⟨by decide +kernel, rfl⟩
theorem d_M_top_33 : DB b_M_top 33 (.ifCond .eq 23) 23 56 36 := ⟨by decide +kernel, by decide, rfl⟩
theorem d_M_top_36 : DC b_M_top 36 (.iload 4) 2 38 := ⟨by decide +kernel, rfl⟩
theorem d_M_top_38 : DC b_M_top 38 (.iconst 1) 1 39 := ⟨by decide +kernel, rfl⟩
theorem d_M_top_39 : DB b_M_top 39 (.if_icmp .eq 9) 9 48 42 := ⟨by decide +kernel, by decide, rfl⟩
theorem d_M_top_42 : DC b_M_top 42 (.iload 4) 2 44 := ⟨by decide +kernel, rfl⟩
theorem d_M_top_44 : DC b_M_top 44 (.iconst (-1)) 1 45 := ⟨by decide +kernel, rfl⟩
theorem d_M_top_45 : DB b_M_top 45 (.if_icmp .ne 11) 11 56 48 := ⟨by decide +kernel, by decide, rfl⟩
theorem d_M_top_48 : DC b_M_top 48 (.iload 5) 2 50 := ⟨by decide +kernel, rfl⟩
theorem d_M_top_50 : DC b_M_top 50 (.invokestatic 186) 3 53 := ⟨by decide +kernel, rfl⟩
theorem d_M_top_53 : DB b_M_top 53 (.ifCond .ne 6) 6 59 56 := ⟨by decide +kernel, by decide, rfl⟩
theorem d_M_top_56 : DC b_M_top 56 (.bipush (-2)) 2 58 := ⟨by decide +kernel, rfl⟩
theorem d_M_top_58 : decode b_M_top 58 = .ok (.ireturn, 1) := by decide +kernel
theorem d_M_top_59 : DC b_M_top 59 (.aload_n 0) 1 60 := ⟨by decide +kernel, rfl⟩
theorem d_M_top_60 : DC b_M_top 60 (.getfield 175) 3 63 := ⟨by decide +kernel, rfl⟩
theorem d_M_top_63 : DC b_M_top 63 (.bipush 40) 2 65 := ⟨by decide +kernel, rfl⟩
theorem d_M_top_65 : DB b_M_top 65 (.if_icmp .ne 6) 6 71 68 := ⟨by decide +kernel, by decide, rfl⟩
theorem d_M_top_68 : DC b_M_top 68 (.bipush (-4)) 2 70 := ⟨by decide +kernel, rfl⟩
theorem d_M_top_70 : decode b_M_top 70 = .ok (.ireturn, 1) := by decide +kernel
theorem d_M_top_71 : DC b_M_top 71 (.aload_n 0) 1 72 := ⟨by decide +kernel, rfl⟩
theorem d_M_top_72 : DC b_M_top 72 (.getfield 13) 3 75 := ⟨by decide +kernel, rfl⟩
theorem d_M_top_75 : DC b_M_top 75 (.aload_n 0) 1 76 := ⟨by decide +kernel, rfl⟩
theorem d_M_top_76 : DC b_M_top 76 (.getfield 175) 3 79 := ⟨by decide +kernel, rfl⟩
theorem d_M_top_79 : DC b_M_top 79 (.iload_n 1) 1 80 := ⟨by decide +kernel, rfl⟩
theorem d_M_top_80 : DC b_M_top 80 (.iastore) 1 81 := ⟨by decide +kernel, rfl⟩
theorem d_M_top_81 : DC b_M_top 81 (.aload_n 0) 1 82 := ⟨by decide +kernel, rfl⟩
theorem d_M_top_82 : DC b_M_top 82 (.getfield 16) 3 85 := ⟨by decide +kernel, rfl⟩
theorem d_M_top_85 : DC b_M_top 85 (.aload_n 0) 1 86 := ⟨by decide +kernel, rfl⟩
theorem d_M_top_86 : DC b_M_top 86 (.getfield 175) 3 89 := ⟨by decide +kernel, rfl⟩
theorem d_M_top_89 : DC b_M_top 89 (.iload_n 2) 1 90 := ⟨by decide +kernel, rfl⟩
theorem d_M_top_90 : DC b_M_top 90 (.iastore) 1 91 := ⟨by decide +kernel, rfl⟩
theorem d_M_top_91 : DC b_M_top 91 (.aload_n 0) 1 92 := ⟨by decide +kernel, rfl⟩
theorem d_M_top_92 : DC b_M_top 92 (.getfield 19) 3 95 := ⟨by decide +kernel, rfl⟩
theorem d_M_top_95 : DC b_M_top 95 (.aload_n 0) 1 96 := ⟨by decide +kernel, rfl⟩
theorem d_M_top_96 : DC b_M_top 96 (.getfield 175) 3 99 := ⟨by decide +kernel, rfl⟩
theorem d_M_top_99 : DC b_M_top 99 (.iload_n 3) 1 100 := ⟨by decide +kernel, rfl⟩
theorem d_M_top_100 : DC b_M_top 100 (.iastore) 1 101 := ⟨by decide +kernel, rfl⟩
theorem d_M_top_101 : DC b_M_top 101 (.aload_n 0) 1 102 := ⟨by decide +kernel, rfl⟩
theorem d_M_top_102 : DC b_M_top 102 (.getfield 22) 3 105 := ⟨by decide +kernel, rfl⟩
theorem d_M_top_105 : DC b_M_top 105 (.aload_n 0) 1 106 := ⟨by decide +kernel, rfl⟩
theorem d_M_top_106 : DC b_M_top 106 (.getfield 175) 3 109 := ⟨by decide +kernel, rfl⟩
theorem d_M_top_109 : DC b_M_top 109 (.iload 4) 2 111 := ⟨by decide +kernel, rfl⟩
theorem d_M_top_111 : DC b_M_top 111 (.iastore) 1 112 := ⟨by decide +kernel, rfl⟩
theorem d_M_top_112 : DC b_M_top 112 (.aload_n 0) 1 113 := ⟨by decide +kernel, rfl⟩
theorem d_M_top_113 : DC b_M_top 113 (.getfield 25) 3 116 := ⟨by decide +kernel, rfl⟩
theorem d_M_top_116 : DC b_M_top 116 (.aload_n 0) 1 117 := ⟨by decide +kernel, rfl⟩
theorem d_M_top_117 : DC b_M_top 117 (.getfield 175) 3 120 := ⟨by decide +kernel, rfl⟩
theorem d_M_top_120 : DC b_M_top 120 (.iload 5) 2 122 := ⟨by decide +kernel, rfl⟩
theorem d_M_top_122 : DC b_M_top 122 (.iastore) 1 123 := ⟨by decide +kernel, rfl⟩
theorem d_M_top_123 : DC b_M_top 123 (.aload_n 0) 1 124 := ⟨by decide +kernel, rfl⟩
theorem d_M_top_124 : DC b_M_top 124 (.dup) 1 125 := ⟨by decide +kernel, rfl⟩
theorem d_M_top_125 : DC b_M_top 125 (.getfield 175) 3 128 := ⟨by decide +kernel, rfl⟩
theorem d_M_top_128 : DC b_M_top 128 (.iconst 1) 1 129 := ⟨by decide +kernel, rfl⟩
theorem d_M_top_129 : DC b_M_top 129 (.iadd) 1 130 := ⟨by decide +kernel, rfl⟩
theorem d_M_top_130 : DC b_M_top 130 (.putfield 175) 3 133 := ⟨by decide +kernel, rfl⟩
theorem d_M_top_133 : DC b_M_top 133 (.aload_n 0) 1 134 := ⟨by decide +kernel, rfl⟩
theorem d_M_top_134 : DC b_M_top 134 (.getfield 175) 3 137 := ⟨by decide +kernel, rfl⟩
theorem d_M_top_137 : DC b_M_top 137 (.iconst 1) 1 138 := ⟨by decide +kernel, rfl⟩
theorem d_M_top_138 : DC b_M_top 138 (.isub) 1 139 := ⟨by decide +kernel, rfl⟩
theorem d_M_top_139 : decode b_M_top 139 = .ok (.ireturn, 1) := by decide +kernel
theorem w_M_top_b48 {X : Ctx} {Y : Lay} (hY : IsM Y) (C : Cx X Y b_M_top 6 (some .int) "TopYardModel" 3) {r : Int32 × Mem} (x1 : Int32) (x2 : Int32) (x3 : Int32) (x4 : Int32) (x5 : Int32) (μ : Mem) (hf : f_M_top_b48 x1 x2 x3 x4 x5 μ = some r) : J X Y (some (.int r.1)) r.2 6 48 [(0, .ref (yad Y 0)), (1, .int x1), (2, .int x2), (3, .int x3), (4, .int x4), (5, .int x5)] [] μ := by
  unfold f_M_top_b48 at hf
  refine j_iload C d_M_top_48 5 rfl ?_
  refine bd hf (fun v1 hc13 hf => ?_)
  refine j_cS (rest := []) C lk_M_186 (c_M_isOwner hY hc13) rfl (by decide) rfl (Nat.le_of_ble_eq_true rfl) d_M_top_50 ?_
  refine j_if_ne C d_M_top_53 hf (fun hf => ?_) (fun hf => ?_)
  · refine j_aload_n C d_M_top_59 0 rfl ?_
    refine j_gI C fl_M_175 (kM hY rfl) (nM hY (by decide)) rfl d_M_top_60 ?_
    refine j_bipush (v := 40) C d_M_top_63 (by decide) ?_
    refine j_icmp_ne C d_M_top_65 hf (fun hf => ?_) (fun hf => ?_)
    · refine j_aload_n C d_M_top_71 0 rfl ?_
      refine j_gS (b := 2) C fl_M_13 (kM hY rfl) (nM hY (by decide)) rfl hY.2.2.2.1 rfl (sM hY rfl) d_M_top_72 ?_
      refine j_aload_n C d_M_top_75 0 rfl ?_
      refine j_gI C fl_M_175 (kM hY rfl) (nM hY (by decide)) rfl d_M_top_76 ?_
      refine j_iload_n C d_M_top_79 1 rfl ?_
      refine ck hf (fun hi2 hf => ?_)
      refine j_iast C (kM hY rfl) (nM hY (by decide)) (lM hY rfl) hi2 d_M_top_80 hf (fun μ3 hf => ?_)
      refine j_aload_n C d_M_top_81 0 rfl ?_
      refine j_gS (b := 3) C fl_M_16 (kM hY rfl) (nM hY (by decide)) rfl hY.2.2.2.1 rfl (sM hY rfl) d_M_top_82 ?_
      refine j_aload_n C d_M_top_85 0 rfl ?_
      refine j_gI C fl_M_175 (kM hY rfl) (nM hY (by decide)) rfl d_M_top_86 ?_
      refine j_iload_n C d_M_top_89 2 rfl ?_
      refine ck hf (fun hi4 hf => ?_)
      refine j_iast C (kM hY rfl) (nM hY (by decide)) (lM hY rfl) hi4 d_M_top_90 hf (fun μ5 hf => ?_)
      refine j_aload_n C d_M_top_91 0 rfl ?_
      refine j_gS (b := 4) C fl_M_19 (kM hY rfl) (nM hY (by decide)) rfl hY.2.2.2.1 rfl (sM hY rfl) d_M_top_92 ?_
      refine j_aload_n C d_M_top_95 0 rfl ?_
      refine j_gI C fl_M_175 (kM hY rfl) (nM hY (by decide)) rfl d_M_top_96 ?_
      refine j_iload_n C d_M_top_99 3 rfl ?_
      refine ck hf (fun hi6 hf => ?_)
      refine j_iast C (kM hY rfl) (nM hY (by decide)) (lM hY rfl) hi6 d_M_top_100 hf (fun μ7 hf => ?_)
      refine j_aload_n C d_M_top_101 0 rfl ?_
      refine j_gS (b := 5) C fl_M_22 (kM hY rfl) (nM hY (by decide)) rfl hY.2.2.2.1 rfl (sM hY rfl) d_M_top_102 ?_
      refine j_aload_n C d_M_top_105 0 rfl ?_
      refine j_gI C fl_M_175 (kM hY rfl) (nM hY (by decide)) rfl d_M_top_106 ?_
      refine j_iload C d_M_top_109 4 rfl ?_
      refine ck hf (fun hi8 hf => ?_)
      refine j_iast C (kM hY rfl) (nM hY (by decide)) (lM hY rfl) hi8 d_M_top_111 hf (fun μ9 hf => ?_)
      refine j_aload_n C d_M_top_112 0 rfl ?_
      refine j_gS (b := 6) C fl_M_25 (kM hY rfl) (nM hY (by decide)) rfl hY.2.2.2.1 rfl (sM hY rfl) d_M_top_113 ?_
      refine j_aload_n C d_M_top_116 0 rfl ?_
      refine j_gI C fl_M_175 (kM hY rfl) (nM hY (by decide)) rfl d_M_top_117 ?_
      refine j_iload C d_M_top_120 5 rfl ?_
      refine ck hf (fun hi10 hf => ?_)
      refine j_iast C (kM hY rfl) (nM hY (by decide)) (lM hY rfl) hi10 d_M_top_122 hf (fun μ11 hf => ?_)
      refine j_aload_n C d_M_top_123 0 rfl ?_
      refine j_dup C d_M_top_124 rfl ?_
      refine j_gI C fl_M_175 (kM hY rfl) (nM hY (by decide)) rfl d_M_top_125 ?_
      refine j_iconst (v := 1) C d_M_top_128 (by decide) ?_
      refine j_iadd C d_M_top_129 ?_
      refine j_pI C fl_M_175 (kM hY rfl) (nM hY (by decide)) rfl rfl rfl d_M_top_130 hf (fun μ12 hf => ?_)
      refine j_aload_n C d_M_top_133 0 rfl ?_
      refine j_gI C fl_M_175 (kM hY rfl) (nM hY (by decide)) rfl d_M_top_134 ?_
      refine j_iconst (v := 1) C d_M_top_137 (by decide) ?_
      refine j_isub C d_M_top_138 ?_
      obtain rfl := Option.some.inj hf
      exact j_iret C d_M_top_139
    · refine j_bipush (v := (-4)) C d_M_top_68 (by decide) ?_
      obtain rfl := Option.some.inj hf
      exact j_iret C d_M_top_70
  · refine j_bipush (v := (-2)) C d_M_top_56 (by decide) ?_
    obtain rfl := Option.some.inj hf
    exact j_iret C d_M_top_58
theorem c_M_top {l : Launch} {Y : Lay} (hY : IsM Y) {μ : Mem} {x1 : Int32} {x2 : Int32} {x3 : Int32} {x4 : Int32} {x5 : Int32} {r : Int32 × Mem} (hf : f_M_top μ x1 x2 x3 x4 x5 = some r) : Ct l Y y_M_top b_M_top 6 (some .int) 3 [.ref (yad Y 0), .int x1, .int x2, .int x3, .int x4, .int x5] (some (.int r.1)) μ r.2 := by
  refine ct_of (own := "TopYardModel") (lv := [(0, .ref (yad Y 0)), (1, .int x1), (2, .int x2), (3, .int x3), (4, .int x4), (5, .int x5)]) (by decide +kernel) rfl (Nat.le_of_ble_eq_true rfl) rfl (fun X hl C => ?_)
  subst hl
  unfold f_M_top at hf
  refine j_iload_n C d_M_top_0 1 rfl ?_
  refine j_i2l C d_M_top_1 ?_
  refine j_lconst (v := 1) C d_M_top_2 (by decide) ?_
  refine j_ldc2 (v := 50) C d_M_top_3 wd_148 ?_
  refine bd hf (fun v1 hc6 hf => ?_)
  refine j_cS (rest := []) C lk_M_164 (c_M_in hY hc6) rfl (by decide) rfl (Nat.le_of_ble_eq_true rfl) d_M_top_6 ?_
  refine j_if_eq C d_M_top_9 hf (fun hf => ?_) (fun hf => ?_)
  · refine j_bipush (v := (-2)) C d_M_top_56 (by decide) ?_
    obtain rfl := Option.some.inj hf
    exact j_iret C d_M_top_58
  · refine j_iload_n C d_M_top_12 2 rfl ?_
    refine j_i2l C d_M_top_13 ?_
    refine j_lconst (v := 1) C d_M_top_14 (by decide) ?_
    refine j_ldc2 (v := 12) C d_M_top_15 wd_149 ?_
    refine bd hf (fun v2 hc5 hf => ?_)
    refine j_cS (rest := []) C lk_M_164 (c_M_in hY hc5) rfl (by decide) rfl (Nat.le_of_ble_eq_true rfl) d_M_top_18 ?_
    refine j_if_eq C d_M_top_21 hf (fun hf => ?_) (fun hf => ?_)
    · refine j_bipush (v := (-2)) C d_M_top_56 (by decide) ?_
      obtain rfl := Option.some.inj hf
      exact j_iret C d_M_top_58
    · refine j_iload_n C d_M_top_24 3 rfl ?_
      refine j_i2l C d_M_top_25 ?_
      refine j_lconst (v := 1) C d_M_top_26 (by decide) ?_
      refine j_ldc2 (v := 9) C d_M_top_27 wd_150 ?_
      refine bd hf (fun v3 hc4 hf => ?_)
      refine j_cS (rest := []) C lk_M_164 (c_M_in hY hc4) rfl (by decide) rfl (Nat.le_of_ble_eq_true rfl) d_M_top_30 ?_
      refine j_if_eq C d_M_top_33 hf (fun hf => ?_) (fun hf => ?_)
      · refine j_bipush (v := (-2)) C d_M_top_56 (by decide) ?_
        obtain rfl := Option.some.inj hf
        exact j_iret C d_M_top_58
      · refine j_iload C d_M_top_36 4 rfl ?_
        refine j_iconst (v := 1) C d_M_top_38 (by decide) ?_
        refine j_icmp_eq C d_M_top_39 hf (fun hf => ?_) (fun hf => ?_)
        · refine j_sub [0, 1, 2, 3, 4, 5] rfl ?_
          exact w_M_top_b48 hY C x1 x2 x3 x4 x5 μ hf
        · refine j_iload C d_M_top_42 4 rfl ?_
          refine j_iconst (v := (-1)) C d_M_top_44 (by decide) ?_
          refine j_icmp_ne C d_M_top_45 hf (fun hf => ?_) (fun hf => ?_)
          · refine j_bipush (v := (-2)) C d_M_top_56 (by decide) ?_
            obtain rfl := Option.some.inj hf
            exact j_iret C d_M_top_58
          · refine j_sub [0, 1, 2, 3, 4, 5] rfl ?_
            exact w_M_top_b48 hY C x1 x2 x3 x4 x5 μ hf
theorem d_M_about_0 : DC b_M_about 0 (.aload_n 0) 1 1 := ⟨by decide +kernel, rfl⟩
theorem d_M_about_1 : DC b_M_about 1 (.iload_n 1) 1 2 := ⟨by decide +kernel, rfl⟩
theorem d_M_about_2 : DC b_M_about 2 (.invokevirtual 190) 3 5 := ⟨by decide +kernel, rfl⟩
theorem d_M_about_5 : DB b_M_about 5 (.ifCond .ne 7) 7 12 8 := ⟨by decide +kernel, by decide, rfl⟩
theorem d_M_about_8 : DC b_M_about 8 (.sipush (-1000)) 3 11 := ⟨by decide +kernel, rfl⟩
theorem d_M_about_11 : decode b_M_about 11 = .ok (.ireturn, 1) := by decide +kernel
theorem d_M_about_12 : DC b_M_about 12 (.iload_n 2) 1 13 := ⟨by decide +kernel, rfl⟩
theorem d_M_about_13 : decode b_M_about 13 = .ok (.tableswitch 81 0 5 #[39, 46, 53, 60, 67, 74], 39) := by decide +kernel
theorem d_M_about_52 : DC b_M_about 52 (.aload_n 0) 1 53 := ⟨by decide +kernel, rfl⟩
theorem d_M_about_53 : DC b_M_about 53 (.getfield 13) 3 56 := ⟨by decide +kernel, rfl⟩
theorem d_M_about_56 : DC b_M_about 56 (.iload_n 1) 1 57 := ⟨by decide +kernel, rfl⟩
theorem d_M_about_57 : DC b_M_about 57 (.iaload) 1 58 := ⟨by decide +kernel, rfl⟩
theorem d_M_about_58 : decode b_M_about 58 = .ok (.ireturn, 1) := by decide +kernel
theorem d_M_about_59 : DC b_M_about 59 (.aload_n 0) 1 60 := ⟨by decide +kernel, rfl⟩
theorem d_M_about_60 : DC b_M_about 60 (.getfield 16) 3 63 := ⟨by decide +kernel, rfl⟩
theorem d_M_about_63 : DC b_M_about 63 (.iload_n 1) 1 64 := ⟨by decide +kernel, rfl⟩
theorem d_M_about_64 : DC b_M_about 64 (.iaload) 1 65 := ⟨by decide +kernel, rfl⟩
theorem d_M_about_65 : decode b_M_about 65 = .ok (.ireturn, 1) := by decide +kernel
theorem d_M_about_66 : DC b_M_about 66 (.aload_n 0) 1 67 := ⟨by decide +kernel, rfl⟩
theorem d_M_about_67 : DC b_M_about 67 (.getfield 19) 3 70 := ⟨by decide +kernel, rfl⟩
theorem d_M_about_70 : DC b_M_about 70 (.iload_n 1) 1 71 := ⟨by decide +kernel, rfl⟩
theorem d_M_about_71 : DC b_M_about 71 (.iaload) 1 72 := ⟨by decide +kernel, rfl⟩
theorem d_M_about_72 : decode b_M_about 72 = .ok (.ireturn, 1) := by decide +kernel
theorem d_M_about_73 : DC b_M_about 73 (.aload_n 0) 1 74 := ⟨by decide +kernel, rfl⟩
theorem d_M_about_74 : DC b_M_about 74 (.getfield 22) 3 77 := ⟨by decide +kernel, rfl⟩
theorem d_M_about_77 : DC b_M_about 77 (.iload_n 1) 1 78 := ⟨by decide +kernel, rfl⟩
theorem d_M_about_78 : DC b_M_about 78 (.iaload) 1 79 := ⟨by decide +kernel, rfl⟩
theorem d_M_about_79 : decode b_M_about 79 = .ok (.ireturn, 1) := by decide +kernel
theorem d_M_about_80 : DC b_M_about 80 (.aload_n 0) 1 81 := ⟨by decide +kernel, rfl⟩
theorem d_M_about_81 : DC b_M_about 81 (.getfield 25) 3 84 := ⟨by decide +kernel, rfl⟩
theorem d_M_about_84 : DC b_M_about 84 (.iload_n 1) 1 85 := ⟨by decide +kernel, rfl⟩
theorem d_M_about_85 : DC b_M_about 85 (.iaload) 1 86 := ⟨by decide +kernel, rfl⟩
theorem d_M_about_86 : decode b_M_about 86 = .ok (.ireturn, 1) := by decide +kernel
theorem d_M_about_87 : DC b_M_about 87 (.aload_n 0) 1 88 := ⟨by decide +kernel, rfl⟩
theorem d_M_about_88 : DC b_M_about 88 (.getfield 28) 3 91 := ⟨by decide +kernel, rfl⟩
theorem d_M_about_91 : DC b_M_about 91 (.iload_n 1) 1 92 := ⟨by decide +kernel, rfl⟩
theorem d_M_about_92 : DC b_M_about 92 (.iaload) 1 93 := ⟨by decide +kernel, rfl⟩
theorem d_M_about_93 : decode b_M_about 93 = .ok (.ireturn, 1) := by decide +kernel
theorem d_M_about_94 : DC b_M_about 94 (.sipush (-1000)) 3 97 := ⟨by decide +kernel, rfl⟩
theorem d_M_about_97 : decode b_M_about 97 = .ok (.ireturn, 1) := by decide +kernel
theorem c_M_about {l : Launch} {Y : Lay} (hY : IsM Y) {μ : Mem} {x1 : Int32} {x2 : Int32} {r : Int32} (hf : f_M_about μ x1 x2 = some r) : Ct l Y y_M_about b_M_about 3 (some .int) 3 [.ref (yad Y 0), .int x1, .int x2] (some (.int r)) μ μ := by
  refine ct_of (own := "TopYardModel") (lv := [(0, .ref (yad Y 0)), (1, .int x1), (2, .int x2)]) (by decide +kernel) rfl (Nat.le_of_ble_eq_true rfl) rfl (fun X hl C => ?_)
  subst hl
  unfold f_M_about at hf
  refine j_aload_n C d_M_about_0 0 rfl ?_
  refine j_iload_n C d_M_about_1 1 rfl ?_
  refine bd hf (fun v1 hc14 hf => ?_)
  refine j_cV (rest := []) C lk_M_190 (c_M_isTop hY hc14) rfl (kM hY rfl) (nM hY (by decide)) (by decide) rfl rfl (by decide) rfl (Nat.le_of_ble_eq_true rfl) d_M_about_2 ?_
  refine j_if_ne C d_M_about_5 hf (fun hf => ?_) (fun hf => ?_)
  · refine j_iload_n C d_M_about_12 2 rfl ?_
    refine j_key hf (fun hx3 hf => ?_) (fun hx3 hf => ?_)
    · refine j_tin (tgt' := 52) (off := 39) (v := 0) C d_M_about_13 hx3 (by decide) (by decide) (by decide) (by decide) ?_
      refine j_aload_n C d_M_about_52 0 rfl ?_
      refine j_gS (b := 2) C fl_M_13 (kM hY rfl) (nM hY (by decide)) rfl hY.2.2.2.1 rfl (sM hY rfl) d_M_about_53 ?_
      refine j_iload_n C d_M_about_56 1 rfl ?_
      refine ck hf (fun hi2 hf => ?_)
      refine j_iald C (kM hY rfl) (nM hY (by decide)) (lM hY rfl) hi2 d_M_about_57 ?_
      obtain rfl := Option.some.inj hf
      exact j_iret C d_M_about_58
    · refine j_key hf (fun hx5 hf => ?_) (fun hx5 hf => ?_)
      · refine j_tin (tgt' := 59) (off := 46) (v := 1) C d_M_about_13 hx5 (by decide) (by decide) (by decide) (by decide) ?_
        refine j_aload_n C d_M_about_59 0 rfl ?_
        refine j_gS (b := 3) C fl_M_16 (kM hY rfl) (nM hY (by decide)) rfl hY.2.2.2.1 rfl (sM hY rfl) d_M_about_60 ?_
        refine j_iload_n C d_M_about_63 1 rfl ?_
        refine ck hf (fun hi4 hf => ?_)
        refine j_iald C (kM hY rfl) (nM hY (by decide)) (lM hY rfl) hi4 d_M_about_64 ?_
        obtain rfl := Option.some.inj hf
        exact j_iret C d_M_about_65
      · refine j_key hf (fun hx7 hf => ?_) (fun hx7 hf => ?_)
        · refine j_tin (tgt' := 66) (off := 53) (v := 2) C d_M_about_13 hx7 (by decide) (by decide) (by decide) (by decide) ?_
          refine j_aload_n C d_M_about_66 0 rfl ?_
          refine j_gS (b := 4) C fl_M_19 (kM hY rfl) (nM hY (by decide)) rfl hY.2.2.2.1 rfl (sM hY rfl) d_M_about_67 ?_
          refine j_iload_n C d_M_about_70 1 rfl ?_
          refine ck hf (fun hi6 hf => ?_)
          refine j_iald C (kM hY rfl) (nM hY (by decide)) (lM hY rfl) hi6 d_M_about_71 ?_
          obtain rfl := Option.some.inj hf
          exact j_iret C d_M_about_72
        · refine j_key hf (fun hx9 hf => ?_) (fun hx9 hf => ?_)
          · refine j_tin (tgt' := 73) (off := 60) (v := 3) C d_M_about_13 hx9 (by decide) (by decide) (by decide) (by decide) ?_
            refine j_aload_n C d_M_about_73 0 rfl ?_
            refine j_gS (b := 5) C fl_M_22 (kM hY rfl) (nM hY (by decide)) rfl hY.2.2.2.1 rfl (sM hY rfl) d_M_about_74 ?_
            refine j_iload_n C d_M_about_77 1 rfl ?_
            refine ck hf (fun hi8 hf => ?_)
            refine j_iald C (kM hY rfl) (nM hY (by decide)) (lM hY rfl) hi8 d_M_about_78 ?_
            obtain rfl := Option.some.inj hf
            exact j_iret C d_M_about_79
          · refine j_key hf (fun hx11 hf => ?_) (fun hx11 hf => ?_)
            · refine j_tin (tgt' := 80) (off := 67) (v := 4) C d_M_about_13 hx11 (by decide) (by decide) (by decide) (by decide) ?_
              refine j_aload_n C d_M_about_80 0 rfl ?_
              refine j_gS (b := 6) C fl_M_25 (kM hY rfl) (nM hY (by decide)) rfl hY.2.2.2.1 rfl (sM hY rfl) d_M_about_81 ?_
              refine j_iload_n C d_M_about_84 1 rfl ?_
              refine ck hf (fun hi10 hf => ?_)
              refine j_iald C (kM hY rfl) (nM hY (by decide)) (lM hY rfl) hi10 d_M_about_85 ?_
              obtain rfl := Option.some.inj hf
              exact j_iret C d_M_about_86
            · refine j_key hf (fun hx13 hf => ?_) (fun hx13 hf => ?_)
              · refine j_tin (tgt' := 87) (off := 74) (v := 5) C d_M_about_13 hx13 (by decide) (by decide) (by decide) (by decide) ?_
                refine j_aload_n C d_M_about_87 0 rfl ?_
                refine j_gS (b := 7) C fl_M_28 (kM hY rfl) (nM hY (by decide)) rfl hY.2.2.2.1 rfl (sM hY rfl) d_M_about_88 ?_
                refine j_iload_n C d_M_about_91 1 rfl ?_
                refine ck hf (fun hi12 hf => ?_)
                refine j_iald C (kM hY rfl) (nM hY (by decide)) (lM hY rfl) hi12 d_M_about_92 ?_
                obtain rfl := Option.some.inj hf
                exact j_iret C d_M_about_93
              · refine j_tout (tgt' := 94) C d_M_about_13 (by have qhx3 := sw_ne (z := 0) hx3 (by decide); have qhx5 := sw_ne (z := 1) hx5 (by decide); have qhx7 := sw_ne (z := 2) hx7 (by decide); have qhx9 := sw_ne (z := 3) hx9 (by decide); have qhx11 := sw_ne (z := 4) hx11 (by decide); have qhx13 := sw_ne (z := 5) hx13 (by decide); omega) (by decide) ?_
                refine j_sipush (v := (-1000)) C d_M_about_94 (by decide) ?_
                obtain rfl := Option.some.inj hf
                exact j_iret C d_M_about_97
  · refine j_sipush (v := (-1000)) C d_M_about_8 (by decide) ?_
    obtain rfl := Option.some.inj hf
    exact j_iret C d_M_about_11
theorem d_M_wear_0 : DC b_M_wear 0 (.aload_n 0) 1 1 := ⟨by decide +kernel, rfl⟩
theorem d_M_wear_1 : DC b_M_wear 1 (.iload_n 1) 1 2 := ⟨by decide +kernel, rfl⟩
theorem d_M_wear_2 : DC b_M_wear 2 (.invokevirtual 190) 3 5 := ⟨by decide +kernel, rfl⟩
theorem d_M_wear_5 : DB b_M_wear 5 (.ifCond .eq 15) 15 20 8 := ⟨by decide +kernel, by decide, rfl⟩
theorem d_M_wear_8 : DC b_M_wear 8 (.iload_n 2) 1 9 := ⟨by decide +kernel, rfl⟩
theorem d_M_wear_9 : DC b_M_wear 9 (.i2l) 1 10 := ⟨by decide +kernel, rfl⟩
theorem d_M_wear_10 : DC b_M_wear 10 (.lconst 0) 1 11 := ⟨by decide +kernel, rfl⟩
theorem d_M_wear_11 : DC b_M_wear 11 (.ldc2_w 184) 3 14 := ⟨by decide +kernel, rfl⟩
theorem d_M_wear_14 : DC b_M_wear 14 (.invokestatic 164) 3 17 := ⟨by decide +kernel, rfl⟩
theorem d_M_wear_17 : DB b_M_wear 17 (.ifCond .ne 6) 6 23 20 := ⟨by decide +kernel, by decide, rfl⟩
theorem d_M_wear_20 : DC b_M_wear 20 (.bipush (-2)) 2 22 := ⟨by decide +kernel, rfl⟩
theorem d_M_wear_22 : decode b_M_wear 22 = .ok (.ireturn, 1) := by decide +kernel
theorem d_M_wear_23 : DC b_M_wear 23 (.aload_n 0) 1 24 := ⟨by decide +kernel, rfl⟩
theorem d_M_wear_24 : DC b_M_wear 24 (.getfield 28) 3 27 := ⟨by decide +kernel, rfl⟩
theorem d_M_wear_27 : DC b_M_wear 27 (.iload_n 1) 1 28 := ⟨by decide +kernel, rfl⟩
theorem d_M_wear_28 : DC b_M_wear 28 (.iaload) 1 29 := ⟨by decide +kernel, rfl⟩
theorem d_M_wear_29 : DC b_M_wear 29 (.istore_n 3) 1 30 := ⟨by decide +kernel, rfl⟩
theorem d_M_wear_30 : DC b_M_wear 30 (.aload_n 0) 1 31 := ⟨by decide +kernel, rfl⟩
theorem d_M_wear_31 : DC b_M_wear 31 (.getfield 28) 3 34 := ⟨by decide +kernel, rfl⟩
theorem d_M_wear_34 : DC b_M_wear 34 (.iload_n 1) 1 35 := ⟨by decide +kernel, rfl⟩
theorem d_M_wear_35 : DC b_M_wear 35 (.iload_n 2) 1 36 := ⟨by decide +kernel, rfl⟩
theorem d_M_wear_36 : DC b_M_wear 36 (.iastore) 1 37 := ⟨by decide +kernel, rfl⟩
theorem d_M_wear_37 : DC b_M_wear 37 (.iload_n 3) 1 38 := ⟨by decide +kernel, rfl⟩
theorem d_M_wear_38 : decode b_M_wear 38 = .ok (.ireturn, 1) := by decide +kernel
theorem c_M_wear {l : Launch} {Y : Lay} (hY : IsM Y) {μ : Mem} {x1 : Int32} {x2 : Int32} {r : Int32 × Mem} (hf : f_M_wear μ x1 x2 = some r) : Ct l Y y_M_wear b_M_wear 4 (some .int) 3 [.ref (yad Y 0), .int x1, .int x2] (some (.int r.1)) μ r.2 := by
  refine ct_of (own := "TopYardModel") (lv := [(0, .ref (yad Y 0)), (1, .int x1), (2, .int x2)]) (by decide +kernel) rfl (Nat.le_of_ble_eq_true rfl) rfl (fun X hl C => ?_)
  subst hl
  unfold f_M_wear at hf
  refine j_aload_n C d_M_wear_0 0 rfl ?_
  refine j_iload_n C d_M_wear_1 1 rfl ?_
  refine bd hf (fun v1 hc8 hf => ?_)
  refine j_cV (rest := []) C lk_M_190 (c_M_isTop hY hc8) rfl (kM hY rfl) (nM hY (by decide)) (by decide) rfl rfl (by decide) rfl (Nat.le_of_ble_eq_true rfl) d_M_wear_2 ?_
  refine j_if_eq C d_M_wear_5 hf (fun hf => ?_) (fun hf => ?_)
  · refine j_bipush (v := (-2)) C d_M_wear_20 (by decide) ?_
    obtain rfl := Option.some.inj hf
    exact j_iret C d_M_wear_22
  · refine j_iload_n C d_M_wear_8 2 rfl ?_
    refine j_i2l C d_M_wear_9 ?_
    refine j_lconst (v := 0) C d_M_wear_10 (by decide) ?_
    refine j_ldc2 (v := 9) C d_M_wear_11 wd_150 ?_
    refine bd hf (fun v2 hc7 hf => ?_)
    refine j_cS (rest := []) C lk_M_164 (c_M_in hY hc7) rfl (by decide) rfl (Nat.le_of_ble_eq_true rfl) d_M_wear_14 ?_
    refine j_if_ne C d_M_wear_17 hf (fun hf => ?_) (fun hf => ?_)
    · refine j_aload_n C d_M_wear_23 0 rfl ?_
      refine j_gS (b := 7) C fl_M_28 (kM hY rfl) (nM hY (by decide)) rfl hY.2.2.2.1 rfl (sM hY rfl) d_M_wear_24 ?_
      refine j_iload_n C d_M_wear_27 1 rfl ?_
      refine ck hf (fun hi3 hf => ?_)
      refine j_iald C (kM hY rfl) (nM hY (by decide)) (lM hY rfl) hi3 d_M_wear_28 ?_
      refine j_istore_nN (lvf := [(0, .ref (yad Y 0)), (1, .int x1), (2, .int x2)]) C d_M_wear_29 (by decide) rfl hf (fun v4 hf => ?_)
      refine j_aload_n C d_M_wear_30 1 rfl ?_
      refine j_gS (b := 7) C fl_M_28 (kM hY rfl) (nM hY (by decide)) rfl hY.2.2.2.1 rfl (sM hY rfl) d_M_wear_31 ?_
      refine j_iload_n C d_M_wear_34 2 rfl ?_
      refine j_iload_n C d_M_wear_35 3 rfl ?_
      refine ck hf (fun hi5 hf => ?_)
      refine j_iast C (kM hY rfl) (nM hY (by decide)) (lM hY rfl) hi5 d_M_wear_36 hf (fun μ6 hf => ?_)
      refine j_iload_n C d_M_wear_37 0 rfl ?_
      obtain rfl := Option.some.inj hf
      exact j_iret C d_M_wear_38
    · refine j_bipush (v := (-2)) C d_M_wear_20 (by decide) ?_
      obtain rfl := Option.some.inj hf
      exact j_iret C d_M_wear_22
theorem d_M_give_0 : DC b_M_give 0 (.aload_n 0) 1 1 := ⟨by decide +kernel, rfl⟩
theorem d_M_give_1 : DC b_M_give 1 (.iload_n 1) 1 2 := ⟨by decide +kernel, rfl⟩
theorem d_M_give_2 : DC b_M_give 2 (.invokevirtual 190) 3 5 := ⟨by decide +kernel, rfl⟩
theorem d_M_give_5 : DB b_M_give 5 (.ifCond .eq 10) 10 15 8 := ⟨by decide +kernel, by decide, rfl⟩
theorem d_M_give_8 : DC b_M_give 8 (.iload_n 2) 1 9 := ⟨by decide +kernel, rfl⟩
theorem d_M_give_9 : DC b_M_give 9 (.invokestatic 186) 3 12 := ⟨by decide +kernel, rfl⟩
theorem d_M_give_12 : DB b_M_give 12 (.ifCond .ne 6) 6 18 15 := ⟨by decide +kernel, by decide, rfl⟩
theorem d_M_give_15 : DC b_M_give 15 (.bipush (-2)) 2 17 := ⟨by decide +kernel, rfl⟩
theorem d_M_give_17 : decode b_M_give 17 = .ok (.ireturn, 1) := by decide +kernel
theorem d_M_give_18 : DC b_M_give 18 (.aload_n 0) 1 19 := ⟨by decide +kernel, rfl⟩
theorem d_M_give_19 : DC b_M_give 19 (.getfield 25) 3 22 := ⟨by decide +kernel, rfl⟩
theorem d_M_give_22 : DC b_M_give 22 (.iload_n 1) 1 23 := ⟨by decide +kernel, rfl⟩
theorem d_M_give_23 : DC b_M_give 23 (.iaload) 1 24 := ⟨by decide +kernel, rfl⟩
theorem d_M_give_24 : DC b_M_give 24 (.istore_n 3) 1 25 := ⟨by decide +kernel, rfl⟩
theorem d_M_give_25 : DC b_M_give 25 (.aload_n 0) 1 26 := ⟨by decide +kernel, rfl⟩
theorem d_M_give_26 : DC b_M_give 26 (.getfield 25) 3 29 := ⟨by decide +kernel, rfl⟩
theorem d_M_give_29 : DC b_M_give 29 (.iload_n 1) 1 30 := ⟨by decide +kernel, rfl⟩
theorem d_M_give_30 : DC b_M_give 30 (.iload_n 2) 1 31 := ⟨by decide +kernel, rfl⟩
theorem d_M_give_31 : DC b_M_give 31 (.iastore) 1 32 := ⟨by decide +kernel, rfl⟩
theorem d_M_give_32 : DC b_M_give 32 (.iload_n 3) 1 33 := ⟨by decide +kernel, rfl⟩
theorem d_M_give_33 : decode b_M_give 33 = .ok (.ireturn, 1) := by decide +kernel
theorem c_M_give {l : Launch} {Y : Lay} (hY : IsM Y) {μ : Mem} {x1 : Int32} {x2 : Int32} {r : Int32 × Mem} (hf : f_M_give μ x1 x2 = some r) : Ct l Y y_M_give b_M_give 4 (some .int) 3 [.ref (yad Y 0), .int x1, .int x2] (some (.int r.1)) μ r.2 := by
  refine ct_of (own := "TopYardModel") (lv := [(0, .ref (yad Y 0)), (1, .int x1), (2, .int x2)]) (by decide +kernel) rfl (Nat.le_of_ble_eq_true rfl) rfl (fun X hl C => ?_)
  subst hl
  unfold f_M_give at hf
  refine j_aload_n C d_M_give_0 0 rfl ?_
  refine j_iload_n C d_M_give_1 1 rfl ?_
  refine bd hf (fun v1 hc8 hf => ?_)
  refine j_cV (rest := []) C lk_M_190 (c_M_isTop hY hc8) rfl (kM hY rfl) (nM hY (by decide)) (by decide) rfl rfl (by decide) rfl (Nat.le_of_ble_eq_true rfl) d_M_give_2 ?_
  refine j_if_eq C d_M_give_5 hf (fun hf => ?_) (fun hf => ?_)
  · refine j_bipush (v := (-2)) C d_M_give_15 (by decide) ?_
    obtain rfl := Option.some.inj hf
    exact j_iret C d_M_give_17
  · refine j_iload_n C d_M_give_8 2 rfl ?_
    refine bd hf (fun v2 hc7 hf => ?_)
    refine j_cS (rest := []) C lk_M_186 (c_M_isOwner hY hc7) rfl (by decide) rfl (Nat.le_of_ble_eq_true rfl) d_M_give_9 ?_
    refine j_if_ne C d_M_give_12 hf (fun hf => ?_) (fun hf => ?_)
    · refine j_aload_n C d_M_give_18 0 rfl ?_
      refine j_gS (b := 6) C fl_M_25 (kM hY rfl) (nM hY (by decide)) rfl hY.2.2.2.1 rfl (sM hY rfl) d_M_give_19 ?_
      refine j_iload_n C d_M_give_22 1 rfl ?_
      refine ck hf (fun hi3 hf => ?_)
      refine j_iald C (kM hY rfl) (nM hY (by decide)) (lM hY rfl) hi3 d_M_give_23 ?_
      refine j_istore_nN (lvf := [(0, .ref (yad Y 0)), (1, .int x1), (2, .int x2)]) C d_M_give_24 (by decide) rfl hf (fun v4 hf => ?_)
      refine j_aload_n C d_M_give_25 1 rfl ?_
      refine j_gS (b := 6) C fl_M_25 (kM hY rfl) (nM hY (by decide)) rfl hY.2.2.2.1 rfl (sM hY rfl) d_M_give_26 ?_
      refine j_iload_n C d_M_give_29 2 rfl ?_
      refine j_iload_n C d_M_give_30 3 rfl ?_
      refine ck hf (fun hi5 hf => ?_)
      refine j_iast C (kM hY rfl) (nM hY (by decide)) (lM hY rfl) hi5 d_M_give_31 hf (fun μ6 hf => ?_)
      refine j_iload_n C d_M_give_32 0 rfl ?_
      obtain rfl := Option.some.inj hf
      exact j_iret C d_M_give_33
    · refine j_bipush (v := (-2)) C d_M_give_15 (by decide) ?_
      obtain rfl := Option.some.inj hf
      exact j_iret C d_M_give_17
theorem d_M_bowl_0 : DC b_M_bowl 0 (.iload_n 1) 1 1 := ⟨by decide +kernel, rfl⟩
theorem d_M_bowl_1 : DB b_M_bowl 1 (.ifCond .ne 29) 29 30 4 := ⟨by decide +kernel, by decide, rfl⟩
theorem d_M_bowl_4 : DC b_M_bowl 4 (.iload_n 2) 1 5 := ⟨by decide +kernel, rfl⟩
theorem d_M_bowl_5 : DC b_M_bowl 5 (.i2l) 1 6 := ⟨by decide +kernel, rfl⟩
theorem d_M_bowl_6 : DC b_M_bowl 6 (.ldc2_w 193) 3 9 := ⟨by decide +kernel, rfl⟩
theorem d_M_bowl_9 : DC b_M_bowl 9 (.ldc2_w 195) 3 12 := ⟨by decide +kernel, rfl⟩
theorem d_M_bowl_12 : DC b_M_bowl 12 (.invokestatic 164) 3 15 := ⟨by decide +kernel, rfl⟩
theorem d_M_bowl_15 : DB b_M_bowl 15 (.ifCond .eq 15) 15 30 18 := ⟨by decide +kernel, by decide, rfl⟩
theorem d_M_bowl_18 : DC b_M_bowl 18 (.aload_n 0) 1 19 := ⟨by decide +kernel, rfl⟩
theorem d_M_bowl_19 : DC b_M_bowl 19 (.getfield 34) 3 22 := ⟨by decide +kernel, rfl⟩
theorem d_M_bowl_22 : DC b_M_bowl 22 (.istore_n 3) 1 23 := ⟨by decide +kernel, rfl⟩
theorem d_M_bowl_23 : DC b_M_bowl 23 (.aload_n 0) 1 24 := ⟨by decide +kernel, rfl⟩
theorem d_M_bowl_24 : DC b_M_bowl 24 (.iload_n 2) 1 25 := ⟨by decide +kernel, rfl⟩
theorem d_M_bowl_25 : DC b_M_bowl 25 (.putfield 34) 3 28 := ⟨by decide +kernel, rfl⟩
theorem d_M_bowl_28 : DC b_M_bowl 28 (.iload_n 3) 1 29 := ⟨by decide +kernel, rfl⟩
theorem d_M_bowl_29 : decode b_M_bowl 29 = .ok (.ireturn, 1) := by decide +kernel
theorem d_M_bowl_30 : DC b_M_bowl 30 (.iload_n 1) 1 31 := ⟨by decide +kernel, rfl⟩
theorem d_M_bowl_31 : DC b_M_bowl 31 (.iconst 1) 1 32 := ⟨by decide +kernel, rfl⟩
theorem d_M_bowl_32 : DB b_M_bowl 32 (.if_icmp .ne 27) 27 59 35 := ⟨by decide +kernel, by decide, rfl⟩
theorem d_M_bowl_35 : DC b_M_bowl 35 (.iload_n 2) 1 36 := ⟨by decide +kernel, rfl⟩
theorem d_M_bowl_36 : DC b_M_bowl 36 (.i2l) 1 37 := ⟨by decide +kernel, rfl⟩
theorem d_M_bowl_37 : DC b_M_bowl 37 (.lconst 0) 1 38 := ⟨by decide +kernel, rfl⟩
theorem d_M_bowl_38 : DC b_M_bowl 38 (.ldc2_w 195) 3 41 := ⟨by decide +kernel, rfl⟩
theorem d_M_bowl_41 : DC b_M_bowl 41 (.invokestatic 164) 3 44 := ⟨by decide +kernel, rfl⟩
theorem d_M_bowl_44 : DB b_M_bowl 44 (.ifCond .eq 15) 15 59 47 := ⟨by decide +kernel, by decide, rfl⟩
theorem d_M_bowl_47 : DC b_M_bowl 47 (.aload_n 0) 1 48 := ⟨by decide +kernel, rfl⟩
theorem d_M_bowl_48 : DC b_M_bowl 48 (.getfield 38) 3 51 := ⟨by decide +kernel, rfl⟩
theorem d_M_bowl_51 : DC b_M_bowl 51 (.istore_n 3) 1 52 := ⟨by decide +kernel, rfl⟩
theorem d_M_bowl_52 : DC b_M_bowl 52 (.aload_n 0) 1 53 := ⟨by decide +kernel, rfl⟩
theorem d_M_bowl_53 : DC b_M_bowl 53 (.iload_n 2) 1 54 := ⟨by decide +kernel, rfl⟩
theorem d_M_bowl_54 : DC b_M_bowl 54 (.putfield 38) 3 57 := ⟨by decide +kernel, rfl⟩
theorem d_M_bowl_57 : DC b_M_bowl 57 (.iload_n 3) 1 58 := ⟨by decide +kernel, rfl⟩
theorem d_M_bowl_58 : decode b_M_bowl 58 = .ok (.ireturn, 1) := by decide +kernel
theorem d_M_bowl_59 : DC b_M_bowl 59 (.bipush (-2)) 2 61 := ⟨by decide +kernel, rfl⟩
theorem d_M_bowl_61 : decode b_M_bowl 61 = .ok (.ireturn, 1) := by decide +kernel
theorem w_M_bowl_b30 {X : Ctx} {Y : Lay} (hY : IsM Y) (C : Cx X Y b_M_bowl 4 (some .int) "TopYardModel" 2) {r : Int32 × Mem} (x1 : Int32) (x2 : Int32) (μ : Mem) (hf : f_M_bowl_b30 x1 x2 μ = some r) : J X Y (some (.int r.1)) r.2 4 30 [(0, .ref (yad Y 0)), (1, .int x1), (2, .int x2)] [] μ := by
  unfold f_M_bowl_b30 at hf
  refine j_iload_n C d_M_bowl_30 1 rfl ?_
  refine j_iconst (v := 1) C d_M_bowl_31 (by decide) ?_
  refine j_icmp_ne C d_M_bowl_32 hf (fun hf => ?_) (fun hf => ?_)
  · refine j_bipush (v := (-2)) C d_M_bowl_59 (by decide) ?_
    obtain rfl := Option.some.inj hf
    exact j_iret C d_M_bowl_61
  · refine j_iload_n C d_M_bowl_35 2 rfl ?_
    refine j_i2l C d_M_bowl_36 ?_
    refine j_lconst (v := 0) C d_M_bowl_37 (by decide) ?_
    refine j_ldc2 (v := 30) C d_M_bowl_38 wd_158 ?_
    refine bd hf (fun v1 hc4 hf => ?_)
    refine j_cS (rest := []) C lk_M_164 (c_M_in hY hc4) rfl (by decide) rfl (Nat.le_of_ble_eq_true rfl) d_M_bowl_41 ?_
    refine j_if_eq C d_M_bowl_44 hf (fun hf => ?_) (fun hf => ?_)
    · refine j_bipush (v := (-2)) C d_M_bowl_59 (by decide) ?_
      obtain rfl := Option.some.inj hf
      exact j_iret C d_M_bowl_61
    · refine j_aload_n C d_M_bowl_47 0 rfl ?_
      refine j_gI C fl_M_38 (kM hY rfl) (nM hY (by decide)) rfl d_M_bowl_48 ?_
      refine j_istore_nN (lvf := [(0, .ref (yad Y 0)), (1, .int x1), (2, .int x2)]) C d_M_bowl_51 (by decide) rfl hf (fun v2 hf => ?_)
      refine j_aload_n C d_M_bowl_52 1 rfl ?_
      refine j_iload_n C d_M_bowl_53 3 rfl ?_
      refine j_pI C fl_M_38 (kM hY rfl) (nM hY (by decide)) rfl rfl rfl d_M_bowl_54 hf (fun μ3 hf => ?_)
      refine j_iload_n C d_M_bowl_57 0 rfl ?_
      obtain rfl := Option.some.inj hf
      exact j_iret C d_M_bowl_58
theorem c_M_bowl {l : Launch} {Y : Lay} (hY : IsM Y) {μ : Mem} {x1 : Int32} {x2 : Int32} {r : Int32 × Mem} (hf : f_M_bowl μ x1 x2 = some r) : Ct l Y y_M_bowl b_M_bowl 4 (some .int) 2 [.ref (yad Y 0), .int x1, .int x2] (some (.int r.1)) μ r.2 := by
  refine ct_of (own := "TopYardModel") (lv := [(0, .ref (yad Y 0)), (1, .int x1), (2, .int x2)]) (by decide +kernel) rfl (Nat.le_of_ble_eq_true rfl) rfl (fun X hl C => ?_)
  subst hl
  unfold f_M_bowl at hf
  refine j_iload_n C d_M_bowl_0 1 rfl ?_
  refine j_if_ne C d_M_bowl_1 hf (fun hf => ?_) (fun hf => ?_)
  · refine j_sub [0, 1, 2] rfl ?_
    exact w_M_bowl_b30 hY C x1 x2 μ hf
  · refine j_iload_n C d_M_bowl_4 2 rfl ?_
    refine j_i2l C d_M_bowl_5 ?_
    refine j_ldc2 (v := 5) C d_M_bowl_6 wd_157 ?_
    refine j_ldc2 (v := 30) C d_M_bowl_9 wd_158 ?_
    refine bd hf (fun v1 hc4 hf => ?_)
    refine j_cS (rest := []) C lk_M_164 (c_M_in hY hc4) rfl (by decide) rfl (Nat.le_of_ble_eq_true rfl) d_M_bowl_12 ?_
    refine j_if_eq C d_M_bowl_15 hf (fun hf => ?_) (fun hf => ?_)
    · refine j_sub [0, 1, 2] rfl ?_
      exact w_M_bowl_b30 hY C x1 x2 μ hf
    · refine j_aload_n C d_M_bowl_18 0 rfl ?_
      refine j_gI C fl_M_34 (kM hY rfl) (nM hY (by decide)) rfl d_M_bowl_19 ?_
      refine j_istore_nN (lvf := [(0, .ref (yad Y 0)), (1, .int x1), (2, .int x2)]) C d_M_bowl_22 (by decide) rfl hf (fun v2 hf => ?_)
      refine j_aload_n C d_M_bowl_23 1 rfl ?_
      refine j_iload_n C d_M_bowl_24 3 rfl ?_
      refine j_pI C fl_M_34 (kM hY rfl) (nM hY (by decide)) rfl rfl rfl d_M_bowl_25 hf (fun μ3 hf => ?_)
      refine j_iload_n C d_M_bowl_28 0 rfl ?_
      obtain rfl := Option.some.inj hf
      exact j_iret C d_M_bowl_29
theorem d_M_dent_0 : DC b_M_dent 0 (.iload_n 1) 1 1 := ⟨by decide +kernel, rfl⟩
theorem d_M_dent_1 : DC b_M_dent 1 (.i2l) 1 2 := ⟨by decide +kernel, rfl⟩
theorem d_M_dent_2 : DC b_M_dent 2 (.ldc2_w 197) 3 5 := ⟨by decide +kernel, rfl⟩
theorem d_M_dent_5 : DC b_M_dent 5 (.ldc2_w 199) 3 8 := ⟨by decide +kernel, rfl⟩
theorem d_M_dent_8 : DC b_M_dent 8 (.invokestatic 164) 3 11 := ⟨by decide +kernel, rfl⟩
theorem d_M_dent_11 : DB b_M_dent 11 (.ifCond .eq 31) 31 42 14 := ⟨by decide +kernel, by decide, rfl⟩
theorem d_M_dent_14 : DC b_M_dent 14 (.iload_n 2) 1 15 := ⟨by decide +kernel, rfl⟩
theorem d_M_dent_15 : DC b_M_dent 15 (.i2l) 1 16 := ⟨by decide +kernel, rfl⟩
theorem d_M_dent_16 : DC b_M_dent 16 (.ldc2_w 197) 3 19 := ⟨by decide +kernel, rfl⟩
theorem d_M_dent_19 : DC b_M_dent 19 (.ldc2_w 199) 3 22 := ⟨by decide +kernel, rfl⟩
theorem d_M_dent_22 : DC b_M_dent 22 (.invokestatic 164) 3 25 := ⟨by decide +kernel, rfl⟩
theorem d_M_dent_25 : DB b_M_dent 25 (.ifCond .eq 17) 17 42 28 := ⟨by decide +kernel, by decide, rfl⟩
theorem d_M_dent_28 : DC b_M_dent 28 (.iload_n 3) 1 29 := ⟨by decide +kernel, rfl⟩
theorem d_M_dent_29 : DC b_M_dent 29 (.i2l) 1 30 := ⟨by decide +kernel, rfl⟩
theorem d_M_dent_30 : DC b_M_dent 30 (.ldc2_w 201) 3 33 := ⟨by decide +kernel, rfl⟩
theorem d_M_dent_33 : DC b_M_dent 33 (.ldc2_w 203) 3 36 := ⟨by decide +kernel, rfl⟩
theorem d_M_dent_36 : DC b_M_dent 36 (.invokestatic 164) 3 39 := ⟨by decide +kernel, rfl⟩
theorem d_M_dent_39 : DB b_M_dent 39 (.ifCond .ne 6) 6 45 42 := ⟨by decide +kernel, by decide, rfl⟩
theorem d_M_dent_42 : DC b_M_dent 42 (.bipush (-2)) 2 44 := ⟨by decide +kernel, rfl⟩
theorem d_M_dent_44 : decode b_M_dent 44 = .ok (.ireturn, 1) := by decide +kernel
theorem d_M_dent_45 : DC b_M_dent 45 (.aload_n 0) 1 46 := ⟨by decide +kernel, rfl⟩
theorem d_M_dent_46 : DC b_M_dent 46 (.getfield 205) 3 49 := ⟨by decide +kernel, rfl⟩
theorem d_M_dent_49 : DC b_M_dent 49 (.bipush 24) 2 51 := ⟨by decide +kernel, rfl⟩
theorem d_M_dent_51 : DB b_M_dent 51 (.if_icmp .ne 6) 6 57 54 := ⟨by decide +kernel, by decide, rfl⟩
theorem d_M_dent_54 : DC b_M_dent 54 (.bipush (-4)) 2 56 := ⟨by decide +kernel, rfl⟩
theorem d_M_dent_56 : decode b_M_dent 56 = .ok (.ireturn, 1) := by decide +kernel
theorem d_M_dent_57 : DC b_M_dent 57 (.aload_n 0) 1 58 := ⟨by decide +kernel, rfl⟩
theorem d_M_dent_58 : DC b_M_dent 58 (.getfield 41) 3 61 := ⟨by decide +kernel, rfl⟩
theorem d_M_dent_61 : DC b_M_dent 61 (.aload_n 0) 1 62 := ⟨by decide +kernel, rfl⟩
theorem d_M_dent_62 : DC b_M_dent 62 (.getfield 205) 3 65 := ⟨by decide +kernel, rfl⟩
theorem d_M_dent_65 : DC b_M_dent 65 (.iload_n 1) 1 66 := ⟨by decide +kernel, rfl⟩
theorem d_M_dent_66 : DC b_M_dent 66 (.iastore) 1 67 := ⟨by decide +kernel, rfl⟩
theorem d_M_dent_67 : DC b_M_dent 67 (.aload_n 0) 1 68 := ⟨by decide +kernel, rfl⟩
theorem d_M_dent_68 : DC b_M_dent 68 (.getfield 44) 3 71 := ⟨by decide +kernel, rfl⟩
theorem d_M_dent_71 : DC b_M_dent 71 (.aload_n 0) 1 72 := ⟨by decide +kernel, rfl⟩
theorem d_M_dent_72 : DC b_M_dent 72 (.getfield 205) 3 75 := ⟨by decide +kernel, rfl⟩
theorem d_M_dent_75 : DC b_M_dent 75 (.iload_n 2) 1 76 := ⟨by decide +kernel, rfl⟩
theorem d_M_dent_76 : DC b_M_dent 76 (.iastore) 1 77 := ⟨by decide +kernel, rfl⟩
theorem d_M_dent_77 : DC b_M_dent 77 (.aload_n 0) 1 78 := ⟨by decide +kernel, rfl⟩
theorem d_M_dent_78 : DC b_M_dent 78 (.getfield 47) 3 81 := ⟨by decide +kernel, rfl⟩
theorem d_M_dent_81 : DC b_M_dent 81 (.aload_n 0) 1 82 := ⟨by decide +kernel, rfl⟩
theorem d_M_dent_82 : DC b_M_dent 82 (.getfield 205) 3 85 := ⟨by decide +kernel, rfl⟩
theorem d_M_dent_85 : DC b_M_dent 85 (.iload_n 3) 1 86 := ⟨by decide +kernel, rfl⟩
theorem d_M_dent_86 : DC b_M_dent 86 (.iastore) 1 87 := ⟨by decide +kernel, rfl⟩
theorem d_M_dent_87 : DC b_M_dent 87 (.aload_n 0) 1 88 := ⟨by decide +kernel, rfl⟩
theorem d_M_dent_88 : DC b_M_dent 88 (.dup) 1 89 := ⟨by decide +kernel, rfl⟩
theorem d_M_dent_89 : DC b_M_dent 89 (.getfield 205) 3 92 := ⟨by decide +kernel, rfl⟩
theorem d_M_dent_92 : DC b_M_dent 92 (.iconst 1) 1 93 := ⟨by decide +kernel, rfl⟩
theorem d_M_dent_93 : DC b_M_dent 93 (.iadd) 1 94 := ⟨by decide +kernel, rfl⟩
theorem d_M_dent_94 : DC b_M_dent 94 (.putfield 205) 3 97 := ⟨by decide +kernel, rfl⟩
theorem d_M_dent_97 : DC b_M_dent 97 (.aload_n 0) 1 98 := ⟨by decide +kernel, rfl⟩
theorem d_M_dent_98 : DC b_M_dent 98 (.getfield 205) 3 101 := ⟨by decide +kernel, rfl⟩
theorem d_M_dent_101 : decode b_M_dent 101 = .ok (.ireturn, 1) := by decide +kernel
theorem c_M_dent {l : Launch} {Y : Lay} (hY : IsM Y) {μ : Mem} {x1 : Int32} {x2 : Int32} {x3 : Int32} {r : Int32 × Mem} (hf : f_M_dent μ x1 x2 x3 = some r) : Ct l Y y_M_dent b_M_dent 4 (some .int) 2 [.ref (yad Y 0), .int x1, .int x2, .int x3] (some (.int r.1)) μ r.2 := by
  refine ct_of (own := "TopYardModel") (lv := [(0, .ref (yad Y 0)), (1, .int x1), (2, .int x2), (3, .int x3)]) (by decide +kernel) rfl (Nat.le_of_ble_eq_true rfl) rfl (fun X hl C => ?_)
  subst hl
  unfold f_M_dent at hf
  refine j_iload_n C d_M_dent_0 1 rfl ?_
  refine j_i2l C d_M_dent_1 ?_
  refine j_ldc2 (v := (-31)) C d_M_dent_2 wd_161 ?_
  refine j_ldc2 (v := 31) C d_M_dent_5 wd_162 ?_
  refine bd hf (fun v1 hc13 hf => ?_)
  refine j_cS (rest := []) C lk_M_164 (c_M_in hY hc13) rfl (by decide) rfl (Nat.le_of_ble_eq_true rfl) d_M_dent_8 ?_
  refine j_if_eq C d_M_dent_11 hf (fun hf => ?_) (fun hf => ?_)
  · refine j_bipush (v := (-2)) C d_M_dent_42 (by decide) ?_
    obtain rfl := Option.some.inj hf
    exact j_iret C d_M_dent_44
  · refine j_iload_n C d_M_dent_14 2 rfl ?_
    refine j_i2l C d_M_dent_15 ?_
    refine j_ldc2 (v := (-31)) C d_M_dent_16 wd_161 ?_
    refine j_ldc2 (v := 31) C d_M_dent_19 wd_162 ?_
    refine bd hf (fun v2 hc12 hf => ?_)
    refine j_cS (rest := []) C lk_M_164 (c_M_in hY hc12) rfl (by decide) rfl (Nat.le_of_ble_eq_true rfl) d_M_dent_22 ?_
    refine j_if_eq C d_M_dent_25 hf (fun hf => ?_) (fun hf => ?_)
    · refine j_bipush (v := (-2)) C d_M_dent_42 (by decide) ?_
      obtain rfl := Option.some.inj hf
      exact j_iret C d_M_dent_44
    · refine j_iload_n C d_M_dent_28 3 rfl ?_
      refine j_i2l C d_M_dent_29 ?_
      refine j_ldc2 (v := (-20)) C d_M_dent_30 wd_163 ?_
      refine j_ldc2 (v := 20) C d_M_dent_33 wd_164 ?_
      refine bd hf (fun v3 hc11 hf => ?_)
      refine j_cS (rest := []) C lk_M_164 (c_M_in hY hc11) rfl (by decide) rfl (Nat.le_of_ble_eq_true rfl) d_M_dent_36 ?_
      refine j_if_ne C d_M_dent_39 hf (fun hf => ?_) (fun hf => ?_)
      · refine j_aload_n C d_M_dent_45 0 rfl ?_
        refine j_gI C fl_M_205 (kM hY rfl) (nM hY (by decide)) rfl d_M_dent_46 ?_
        refine j_bipush (v := 24) C d_M_dent_49 (by decide) ?_
        refine j_icmp_ne C d_M_dent_51 hf (fun hf => ?_) (fun hf => ?_)
        · refine j_aload_n C d_M_dent_57 0 rfl ?_
          refine j_gS (b := 9) C fl_M_41 (kM hY rfl) (nM hY (by decide)) rfl hY.2.2.2.1 rfl (sM hY rfl) d_M_dent_58 ?_
          refine j_aload_n C d_M_dent_61 0 rfl ?_
          refine j_gI C fl_M_205 (kM hY rfl) (nM hY (by decide)) rfl d_M_dent_62 ?_
          refine j_iload_n C d_M_dent_65 1 rfl ?_
          refine ck hf (fun hi4 hf => ?_)
          refine j_iast C (kM hY rfl) (nM hY (by decide)) (lM hY rfl) hi4 d_M_dent_66 hf (fun μ5 hf => ?_)
          refine j_aload_n C d_M_dent_67 0 rfl ?_
          refine j_gS (b := 10) C fl_M_44 (kM hY rfl) (nM hY (by decide)) rfl hY.2.2.2.1 rfl (sM hY rfl) d_M_dent_68 ?_
          refine j_aload_n C d_M_dent_71 0 rfl ?_
          refine j_gI C fl_M_205 (kM hY rfl) (nM hY (by decide)) rfl d_M_dent_72 ?_
          refine j_iload_n C d_M_dent_75 2 rfl ?_
          refine ck hf (fun hi6 hf => ?_)
          refine j_iast C (kM hY rfl) (nM hY (by decide)) (lM hY rfl) hi6 d_M_dent_76 hf (fun μ7 hf => ?_)
          refine j_aload_n C d_M_dent_77 0 rfl ?_
          refine j_gS (b := 11) C fl_M_47 (kM hY rfl) (nM hY (by decide)) rfl hY.2.2.2.1 rfl (sM hY rfl) d_M_dent_78 ?_
          refine j_aload_n C d_M_dent_81 0 rfl ?_
          refine j_gI C fl_M_205 (kM hY rfl) (nM hY (by decide)) rfl d_M_dent_82 ?_
          refine j_iload_n C d_M_dent_85 3 rfl ?_
          refine ck hf (fun hi8 hf => ?_)
          refine j_iast C (kM hY rfl) (nM hY (by decide)) (lM hY rfl) hi8 d_M_dent_86 hf (fun μ9 hf => ?_)
          refine j_aload_n C d_M_dent_87 0 rfl ?_
          refine j_dup C d_M_dent_88 rfl ?_
          refine j_gI C fl_M_205 (kM hY rfl) (nM hY (by decide)) rfl d_M_dent_89 ?_
          refine j_iconst (v := 1) C d_M_dent_92 (by decide) ?_
          refine j_iadd C d_M_dent_93 ?_
          refine j_pI C fl_M_205 (kM hY rfl) (nM hY (by decide)) rfl rfl rfl d_M_dent_94 hf (fun μ10 hf => ?_)
          refine j_aload_n C d_M_dent_97 0 rfl ?_
          refine j_gI C fl_M_205 (kM hY rfl) (nM hY (by decide)) rfl d_M_dent_98 ?_
          obtain rfl := Option.some.inj hf
          exact j_iret C d_M_dent_101
        · refine j_bipush (v := (-4)) C d_M_dent_54 (by decide) ?_
          obtain rfl := Option.some.inj hf
          exact j_iret C d_M_dent_56
      · refine j_bipush (v := (-2)) C d_M_dent_42 (by decide) ?_
        obtain rfl := Option.some.inj hf
        exact j_iret C d_M_dent_44
theorem d_M_smooth_0 : DC b_M_smooth 0 (.aload_n 0) 1 1 := ⟨by decide +kernel, rfl⟩
theorem d_M_smooth_1 : DC b_M_smooth 1 (.getfield 205) 3 4 := ⟨by decide +kernel, rfl⟩
theorem d_M_smooth_4 : DC b_M_smooth 4 (.istore_n 1) 1 5 := ⟨by decide +kernel, rfl⟩
theorem d_M_smooth_5 : DC b_M_smooth 5 (.aload_n 0) 1 6 := ⟨by decide +kernel, rfl⟩
theorem d_M_smooth_6 : DC b_M_smooth 6 (.iconst 0) 1 7 := ⟨by decide +kernel, rfl⟩
theorem d_M_smooth_7 : DC b_M_smooth 7 (.putfield 205) 3 10 := ⟨by decide +kernel, rfl⟩
theorem d_M_smooth_10 : DC b_M_smooth 10 (.iload_n 1) 1 11 := ⟨by decide +kernel, rfl⟩
theorem d_M_smooth_11 : decode b_M_smooth 11 = .ok (.ireturn, 1) := by decide +kernel
theorem c_M_smooth {l : Launch} {Y : Lay} (hY : IsM Y) {μ : Mem} {r : Int32 × Mem} (hf : f_M_smooth μ = some r) : Ct l Y y_M_smooth b_M_smooth 2 (some .int) 1 [.ref (yad Y 0)] (some (.int r.1)) μ r.2 := by
  refine ct_of (own := "TopYardModel") (lv := [(0, .ref (yad Y 0))]) (by decide +kernel) rfl (Nat.le_of_ble_eq_true rfl) rfl (fun X hl C => ?_)
  subst hl
  unfold f_M_smooth at hf
  refine j_aload_n C d_M_smooth_0 0 rfl ?_
  refine j_gI C fl_M_205 (kM hY rfl) (nM hY (by decide)) rfl d_M_smooth_1 ?_
  refine j_istore_nN (lvf := [(0, .ref (yad Y 0))]) C d_M_smooth_4 (by decide) rfl hf (fun v1 hf => ?_)
  refine j_aload_n C d_M_smooth_5 1 rfl ?_
  refine j_iconst (v := 0) C d_M_smooth_6 (by decide) ?_
  refine j_pI C fl_M_205 (kM hY rfl) (nM hY (by decide)) rfl rfl rfl d_M_smooth_7 hf (fun μ2 hf => ?_)
  refine j_iload_n C d_M_smooth_10 0 rfl ?_
  obtain rfl := Option.some.inj hf
  exact j_iret C d_M_smooth_11
theorem d_M_heightOf_0 : DC b_M_heightOf 0 (.iload_n 1) 1 1 := ⟨by decide +kernel, rfl⟩
theorem d_M_heightOf_1 : DC b_M_heightOf 1 (.iload_n 1) 1 2 := ⟨by decide +kernel, rfl⟩
theorem d_M_heightOf_2 : DC b_M_heightOf 2 (.imul) 1 3 := ⟨by decide +kernel, rfl⟩
theorem d_M_heightOf_3 : DC b_M_heightOf 3 (.iload_n 2) 1 4 := ⟨by decide +kernel, rfl⟩
theorem d_M_heightOf_4 : DC b_M_heightOf 4 (.iload_n 2) 1 5 := ⟨by decide +kernel, rfl⟩
theorem d_M_heightOf_5 : DC b_M_heightOf 5 (.imul) 1 6 := ⟨by decide +kernel, rfl⟩
theorem d_M_heightOf_6 : DC b_M_heightOf 6 (.iadd) 1 7 := ⟨by decide +kernel, rfl⟩
theorem d_M_heightOf_7 : DC b_M_heightOf 7 (.iconst 2) 1 8 := ⟨by decide +kernel, rfl⟩
theorem d_M_heightOf_8 : DC b_M_heightOf 8 (.idiv) 1 9 := ⟨by decide +kernel, rfl⟩
theorem d_M_heightOf_9 : DC b_M_heightOf 9 (.istore_n 3) 1 10 := ⟨by decide +kernel, rfl⟩
theorem d_M_heightOf_10 : DC b_M_heightOf 10 (.iconst 0) 1 11 := ⟨by decide +kernel, rfl⟩
theorem d_M_heightOf_11 : DC b_M_heightOf 11 (.istore 4) 2 13 := ⟨by decide +kernel, rfl⟩
theorem d_M_heightOf_13 : DC b_M_heightOf 13 (.iload 4) 2 15 := ⟨by decide +kernel, rfl⟩
theorem d_M_heightOf_15 : DC b_M_heightOf 15 (.aload_n 0) 1 16 := ⟨by decide +kernel, rfl⟩
theorem d_M_heightOf_16 : DC b_M_heightOf 16 (.getfield 205) 3 19 := ⟨by decide +kernel, rfl⟩
theorem d_M_heightOf_19 : DB b_M_heightOf 19 (.if_icmp .ge 45) 45 64 22 := ⟨by decide +kernel, by decide, rfl⟩
theorem d_M_heightOf_22 : DC b_M_heightOf 22 (.iload_n 3) 1 23 := ⟨by decide +kernel, rfl⟩
theorem d_M_heightOf_23 : DC b_M_heightOf 23 (.aload_n 0) 1 24 := ⟨by decide +kernel, rfl⟩
theorem d_M_heightOf_24 : DC b_M_heightOf 24 (.getfield 41) 3 27 := ⟨by decide +kernel, rfl⟩
theorem d_M_heightOf_27 : DC b_M_heightOf 27 (.iload 4) 2 29 := ⟨by decide +kernel, rfl⟩
theorem d_M_heightOf_29 : DC b_M_heightOf 29 (.iaload) 1 30 := ⟨by decide +kernel, rfl⟩
theorem d_M_heightOf_30 : DC b_M_heightOf 30 (.iload_n 1) 1 31 := ⟨by decide +kernel, rfl⟩
theorem d_M_heightOf_31 : DB b_M_heightOf 31 (.if_icmp .ne 24) 24 55 34 := ⟨by decide +kernel, by decide, rfl⟩
theorem d_M_heightOf_34 : DC b_M_heightOf 34 (.aload_n 0) 1 35 := ⟨by decide +kernel, rfl⟩
theorem d_M_heightOf_35 : DC b_M_heightOf 35 (.getfield 44) 3 38 := ⟨by decide +kernel, rfl⟩
theorem d_M_heightOf_38 : DC b_M_heightOf 38 (.iload 4) 2 40 := ⟨by decide +kernel, rfl⟩
theorem d_M_heightOf_40 : DC b_M_heightOf 40 (.iaload) 1 41 := ⟨by decide +kernel, rfl⟩
theorem d_M_heightOf_41 : DC b_M_heightOf 41 (.iload_n 2) 1 42 := ⟨by decide +kernel, rfl⟩
theorem d_M_heightOf_42 : DB b_M_heightOf 42 (.if_icmp .ne 13) 13 55 45 := ⟨by decide +kernel, by decide, rfl⟩
theorem d_M_heightOf_45 : DC b_M_heightOf 45 (.aload_n 0) 1 46 := ⟨by decide +kernel, rfl⟩
theorem d_M_heightOf_46 : DC b_M_heightOf 46 (.getfield 47) 3 49 := ⟨by decide +kernel, rfl⟩
theorem d_M_heightOf_49 : DC b_M_heightOf 49 (.iload 4) 2 51 := ⟨by decide +kernel, rfl⟩
theorem d_M_heightOf_51 : DC b_M_heightOf 51 (.iaload) 1 52 := ⟨by decide +kernel, rfl⟩
theorem d_M_heightOf_52 : DB b_M_heightOf 52 (.goto 4) 4 56 55 := ⟨by decide +kernel, by decide, rfl⟩
theorem d_M_heightOf_55 : DC b_M_heightOf 55 (.iconst 0) 1 56 := ⟨by decide +kernel, rfl⟩
theorem d_M_heightOf_56 : DC b_M_heightOf 56 (.iadd) 1 57 := ⟨by decide +kernel, rfl⟩
theorem d_M_heightOf_57 : DC b_M_heightOf 57 (.istore_n 3) 1 58 := ⟨by decide +kernel, rfl⟩
theorem d_M_heightOf_58 : DC b_M_heightOf 58 (.iinc 4 1) 3 61 := ⟨by decide +kernel, rfl⟩
theorem d_M_heightOf_61 : DB b_M_heightOf 61 (.goto (-48)) (-48) 13 64 := ⟨by decide +kernel, by decide, rfl⟩
theorem d_M_heightOf_64 : DC b_M_heightOf 64 (.iload_n 3) 1 65 := ⟨by decide +kernel, rfl⟩
theorem d_M_heightOf_65 : decode b_M_heightOf 65 = .ok (.ireturn, 1) := by decide +kernel
theorem w_M_heightOf_b56 {X : Ctx} {Y : Lay} (hY : IsM Y) (C : Cx X Y b_M_heightOf 5 (some .int) "TopYardModel" 1) {N : Nat} {μ : Mem} {r : Int32} (k13 : Int32 → Int32 → Int32 → Int32 → Option (Int32)) (hk13 : ∀ (x1 : Int32) (x2 : Int32) (x3 : Int32) (x4 : Int32), k13 x1 x2 x3 x4 = some r → J X Y (some (.int r)) μ 5 13 [(0, .ref (yad Y 0)), (1, .int x1), (2, .int x2), (3, .int x3), (4, .int x4)] [] μ) (x1 : Int32) (x2 : Int32) (x4 : Int32) (xs0 : Int32) (xs1 : Int32) (hf : f_M_heightOf_b56 N μ k13 x1 x2 x4 xs0 xs1 = some r) : J X Y (some (.int r)) μ 5 56 [(0, .ref (yad Y 0)), (1, .int x1), (2, .int x2), (4, .int x4)] [.int xs0, .int xs1] μ := by
  unfold f_M_heightOf_b56 at hf
  refine j_iadd C d_M_heightOf_56 ?_
  refine j_istore_nN (lvf := [(0, .ref (yad Y 0)), (1, .int x1), (2, .int x2), (4, .int x4)]) C d_M_heightOf_57 (by decide) rfl hf (fun v1 hf => ?_)
  refine j_iinc (lvf := [(3, .int v1), (0, .ref (yad Y 0)), (1, .int x1), (2, .int x2)]) (v := 1) C d_M_heightOf_58 4 rfl (by decide) (by decide) rfl hf (fun v2 hf => ?_)
  refine j_goto C d_M_heightOf_61 ?_
  refine j_sub [2, 3, 4, 1, 0] rfl ?_
  exact hk13 x1 x2 v1 v2 hf
theorem w_M_heightOf_b55 {X : Ctx} {Y : Lay} (hY : IsM Y) (C : Cx X Y b_M_heightOf 5 (some .int) "TopYardModel" 1) {N : Nat} {μ : Mem} {r : Int32} (k13 : Int32 → Int32 → Int32 → Int32 → Option (Int32)) (hk13 : ∀ (x1 : Int32) (x2 : Int32) (x3 : Int32) (x4 : Int32), k13 x1 x2 x3 x4 = some r → J X Y (some (.int r)) μ 5 13 [(0, .ref (yad Y 0)), (1, .int x1), (2, .int x2), (3, .int x3), (4, .int x4)] [] μ) (x1 : Int32) (x2 : Int32) (x4 : Int32) (xs0 : Int32) (hf : f_M_heightOf_b55 N μ k13 x1 x2 x4 xs0 = some r) : J X Y (some (.int r)) μ 5 55 [(0, .ref (yad Y 0)), (1, .int x1), (2, .int x2), (4, .int x4)] [.int xs0] μ := by
  unfold f_M_heightOf_b55 at hf
  refine j_iconst (v := 0) C d_M_heightOf_55 (by decide) ?_
  refine j_sub [0, 1, 2, 3] rfl ?_
  exact w_M_heightOf_b56 hY C k13 hk13 x1 x2 x4 0 xs0 hf
theorem w_M_heightOf_l13 {X : Ctx} {Y : Lay} (hY : IsM Y) (C : Cx X Y b_M_heightOf 5 (some .int) "TopYardModel" 1) {N : Nat} {μ : Mem} {r : Int32} : ∀ (n : Nat) (x1 : Int32) (x2 : Int32) (x3 : Int32) (x4 : Int32), f_M_heightOf_l13 N μ n x1 x2 x3 x4 = some r → J X Y (some (.int r)) μ 5 13 [(0, .ref (yad Y 0)), (1, .int x1), (2, .int x2), (3, .int x3), (4, .int x4)] [] μ := by
  intro n
  induction n with
  | zero => intro x1 x2 x3 x4 hf; rw [f_M_heightOf_l13] at hf; cases hf
  | succ n ih =>
    intro x1 x2 x3 x4 hf
    rw [f_M_heightOf_l13] at hf
    refine j_iload C d_M_heightOf_13 4 rfl ?_
    refine j_aload_n C d_M_heightOf_15 0 rfl ?_
    refine j_gI C fl_M_205 (kM hY rfl) (nM hY (by decide)) rfl d_M_heightOf_16 ?_
    refine j_icmp_ge C d_M_heightOf_19 hf (fun hf => ?_) (fun hf => ?_)
    · refine j_iload_n C d_M_heightOf_64 3 rfl ?_
      obtain rfl := Option.some.inj hf
      exact j_iret C d_M_heightOf_65
    · refine j_iload_n C d_M_heightOf_22 3 rfl ?_
      refine j_aload_n C d_M_heightOf_23 0 rfl ?_
      refine j_gS (b := 9) C fl_M_41 (kM hY rfl) (nM hY (by decide)) rfl hY.2.2.2.1 rfl (sM hY rfl) d_M_heightOf_24 ?_
      refine j_iload C d_M_heightOf_27 4 rfl ?_
      refine ck hf (fun hi1 hf => ?_)
      refine j_iald C (kM hY rfl) (nM hY (by decide)) (lM hY rfl) hi1 d_M_heightOf_29 ?_
      refine j_iload_n C d_M_heightOf_30 1 rfl ?_
      refine j_icmp_ne C d_M_heightOf_31 hf (fun hf => ?_) (fun hf => ?_)
      · refine j_sub [0, 1, 2, 4] rfl ?_
        exact w_M_heightOf_b55 hY C (f_M_heightOf_l13 N μ n) ih x1 x2 x4 x3 hf
      · refine j_aload_n C d_M_heightOf_34 0 rfl ?_
        refine j_gS (b := 10) C fl_M_44 (kM hY rfl) (nM hY (by decide)) rfl hY.2.2.2.1 rfl (sM hY rfl) d_M_heightOf_35 ?_
        refine j_iload C d_M_heightOf_38 4 rfl ?_
        refine ck hf (fun hi2 hf => ?_)
        refine j_iald C (kM hY rfl) (nM hY (by decide)) (lM hY rfl) hi2 d_M_heightOf_40 ?_
        refine j_iload_n C d_M_heightOf_41 2 rfl ?_
        refine j_icmp_ne C d_M_heightOf_42 hf (fun hf => ?_) (fun hf => ?_)
        · refine j_sub [0, 1, 2, 4] rfl ?_
          exact w_M_heightOf_b55 hY C (f_M_heightOf_l13 N μ n) ih x1 x2 x4 x3 hf
        · refine j_aload_n C d_M_heightOf_45 0 rfl ?_
          refine j_gS (b := 11) C fl_M_47 (kM hY rfl) (nM hY (by decide)) rfl hY.2.2.2.1 rfl (sM hY rfl) d_M_heightOf_46 ?_
          refine j_iload C d_M_heightOf_49 4 rfl ?_
          refine ck hf (fun hi3 hf => ?_)
          refine j_iald C (kM hY rfl) (nM hY (by decide)) (lM hY rfl) hi3 d_M_heightOf_51 ?_
          refine j_goto C d_M_heightOf_52 ?_
          refine j_sub [0, 1, 2, 4] rfl ?_
          exact w_M_heightOf_b56 hY C (f_M_heightOf_l13 N μ n) ih x1 x2 x4 (gI μ 11 (ix x4)) x3 hf
theorem c_M_heightOf {l : Launch} {Y : Lay} (hY : IsM Y) {N : Nat} {μ : Mem} {x1 : Int32} {x2 : Int32} {r : Int32} (hf : f_M_heightOf N μ x1 x2 = some r) : Ct l Y y_M_heightOf b_M_heightOf 5 (some .int) 1 [.ref (yad Y 0), .int x1, .int x2] (some (.int r)) μ μ := by
  refine ct_of (own := "TopYardModel") (lv := [(0, .ref (yad Y 0)), (1, .int x1), (2, .int x2)]) (by decide +kernel) rfl (Nat.le_of_ble_eq_true rfl) rfl (fun X hl C => ?_)
  subst hl
  unfold f_M_heightOf at hf
  refine j_iload_n C d_M_heightOf_0 1 rfl ?_
  refine j_iload_n C d_M_heightOf_1 1 rfl ?_
  refine j_imul C d_M_heightOf_2 ?_
  refine j_iload_n C d_M_heightOf_3 2 rfl ?_
  refine j_iload_n C d_M_heightOf_4 2 rfl ?_
  refine j_imul C d_M_heightOf_5 ?_
  refine j_iadd C d_M_heightOf_6 ?_
  refine j_iconst (v := 2) C d_M_heightOf_7 (by decide) ?_
  refine j_idiv C d_M_heightOf_8 (by decide) ?_
  refine j_istore_nN (lvf := [(0, .ref (yad Y 0)), (1, .int x1), (2, .int x2)]) C d_M_heightOf_9 (by decide) rfl hf (fun v1 hf => ?_)
  refine j_iconst (v := 0) C d_M_heightOf_10 (by decide) ?_
  refine j_istore (lvf := [(3, .int v1), (0, .ref (yad Y 0)), (1, .int x1), (2, .int x2)]) C d_M_heightOf_11 (by decide) rfl ?_
  refine j_sub [2, 3, 4, 1, 0] rfl ?_
  exact w_M_heightOf_l13 hY C N x1 x2 v1 0 hf
theorem d_M_slopeX_0 : DC b_M_slopeX 0 (.aload_n 0) 1 1 := ⟨by decide +kernel, rfl⟩
theorem d_M_slopeX_1 : DC b_M_slopeX 1 (.iload_n 1) 1 2 := ⟨by decide +kernel, rfl⟩
theorem d_M_slopeX_2 : DC b_M_slopeX 2 (.iconst 1) 1 3 := ⟨by decide +kernel, rfl⟩
theorem d_M_slopeX_3 : DC b_M_slopeX 3 (.iadd) 1 4 := ⟨by decide +kernel, rfl⟩
theorem d_M_slopeX_4 : DC b_M_slopeX 4 (.iload_n 2) 1 5 := ⟨by decide +kernel, rfl⟩
theorem d_M_slopeX_5 : DC b_M_slopeX 5 (.invokevirtual 208) 3 8 := ⟨by decide +kernel, rfl⟩
theorem d_M_slopeX_8 : DC b_M_slopeX 8 (.aload_n 0) 1 9 := ⟨by decide +kernel, rfl⟩
theorem d_M_slopeX_9 : DC b_M_slopeX 9 (.iload_n 1) 1 10 := ⟨by decide +kernel, rfl⟩
theorem d_M_slopeX_10 : DC b_M_slopeX 10 (.iconst 1) 1 11 := ⟨by decide +kernel, rfl⟩
theorem d_M_slopeX_11 : DC b_M_slopeX 11 (.isub) 1 12 := ⟨by decide +kernel, rfl⟩
theorem d_M_slopeX_12 : DC b_M_slopeX 12 (.iload_n 2) 1 13 := ⟨by decide +kernel, rfl⟩
theorem d_M_slopeX_13 : DC b_M_slopeX 13 (.invokevirtual 208) 3 16 := ⟨by decide +kernel, rfl⟩
theorem d_M_slopeX_16 : DC b_M_slopeX 16 (.isub) 1 17 := ⟨by decide +kernel, rfl⟩
theorem d_M_slopeX_17 : decode b_M_slopeX 17 = .ok (.ireturn, 1) := by decide +kernel
theorem c_M_slopeX {l : Launch} {Y : Lay} (hY : IsM Y) {N : Nat} {μ : Mem} {x1 : Int32} {x2 : Int32} {r : Int32} (hf : f_M_slopeX N μ x1 x2 = some r) : Ct l Y y_M_slopeX b_M_slopeX 3 (some .int) 2 [.ref (yad Y 0), .int x1, .int x2] (some (.int r)) μ μ := by
  refine ct_of (own := "TopYardModel") (lv := [(0, .ref (yad Y 0)), (1, .int x1), (2, .int x2)]) (by decide +kernel) rfl (Nat.le_of_ble_eq_true rfl) rfl (fun X hl C => ?_)
  subst hl
  unfold f_M_slopeX at hf
  refine j_aload_n C d_M_slopeX_0 0 rfl ?_
  refine j_iload_n C d_M_slopeX_1 1 rfl ?_
  refine j_iconst (v := 1) C d_M_slopeX_2 (by decide) ?_
  refine j_iadd C d_M_slopeX_3 ?_
  refine j_iload_n C d_M_slopeX_4 2 rfl ?_
  refine bd hf (fun v1 hc4 hf => ?_)
  refine j_cV (rest := []) C lk_M_208 (c_M_heightOf hY hc4) rfl (kM hY rfl) (nM hY (by decide)) (by decide) rfl rfl (by decide) rfl (Nat.le_of_ble_eq_true rfl) d_M_slopeX_5 ?_
  refine j_aload_n C d_M_slopeX_8 0 rfl ?_
  refine j_iload_n C d_M_slopeX_9 1 rfl ?_
  refine j_iconst (v := 1) C d_M_slopeX_10 (by decide) ?_
  refine j_isub C d_M_slopeX_11 ?_
  refine j_iload_n C d_M_slopeX_12 2 rfl ?_
  refine bd hf (fun v2 hc3 hf => ?_)
  refine j_cV (rest := [.int v1]) C lk_M_208 (c_M_heightOf hY hc3) rfl (kM hY rfl) (nM hY (by decide)) (by decide) rfl rfl (by decide) rfl (Nat.le_of_ble_eq_true rfl) d_M_slopeX_13 ?_
  refine j_isub C d_M_slopeX_16 ?_
  obtain rfl := Option.some.inj hf
  exact j_iret C d_M_slopeX_17
theorem d_M_slopeY_0 : DC b_M_slopeY 0 (.aload_n 0) 1 1 := ⟨by decide +kernel, rfl⟩
theorem d_M_slopeY_1 : DC b_M_slopeY 1 (.iload_n 1) 1 2 := ⟨by decide +kernel, rfl⟩
theorem d_M_slopeY_2 : DC b_M_slopeY 2 (.iload_n 2) 1 3 := ⟨by decide +kernel, rfl⟩
theorem d_M_slopeY_3 : DC b_M_slopeY 3 (.iconst 1) 1 4 := ⟨by decide +kernel, rfl⟩
theorem d_M_slopeY_4 : DC b_M_slopeY 4 (.iadd) 1 5 := ⟨by decide +kernel, rfl⟩
theorem d_M_slopeY_5 : DC b_M_slopeY 5 (.invokevirtual 208) 3 8 := ⟨by decide +kernel, rfl⟩
theorem d_M_slopeY_8 : DC b_M_slopeY 8 (.aload_n 0) 1 9 := ⟨by decide +kernel, rfl⟩
theorem d_M_slopeY_9 : DC b_M_slopeY 9 (.iload_n 1) 1 10 := ⟨by decide +kernel, rfl⟩
theorem d_M_slopeY_10 : DC b_M_slopeY 10 (.iload_n 2) 1 11 := ⟨by decide +kernel, rfl⟩
theorem d_M_slopeY_11 : DC b_M_slopeY 11 (.iconst 1) 1 12 := ⟨by decide +kernel, rfl⟩
theorem d_M_slopeY_12 : DC b_M_slopeY 12 (.isub) 1 13 := ⟨by decide +kernel, rfl⟩
theorem d_M_slopeY_13 : DC b_M_slopeY 13 (.invokevirtual 208) 3 16 := ⟨by decide +kernel, rfl⟩
theorem d_M_slopeY_16 : DC b_M_slopeY 16 (.isub) 1 17 := ⟨by decide +kernel, rfl⟩
theorem d_M_slopeY_17 : decode b_M_slopeY 17 = .ok (.ireturn, 1) := by decide +kernel
theorem c_M_slopeY {l : Launch} {Y : Lay} (hY : IsM Y) {N : Nat} {μ : Mem} {x1 : Int32} {x2 : Int32} {r : Int32} (hf : f_M_slopeY N μ x1 x2 = some r) : Ct l Y y_M_slopeY b_M_slopeY 3 (some .int) 2 [.ref (yad Y 0), .int x1, .int x2] (some (.int r)) μ μ := by
  refine ct_of (own := "TopYardModel") (lv := [(0, .ref (yad Y 0)), (1, .int x1), (2, .int x2)]) (by decide +kernel) rfl (Nat.le_of_ble_eq_true rfl) rfl (fun X hl C => ?_)
  subst hl
  unfold f_M_slopeY at hf
  refine j_aload_n C d_M_slopeY_0 0 rfl ?_
  refine j_iload_n C d_M_slopeY_1 1 rfl ?_
  refine j_iload_n C d_M_slopeY_2 2 rfl ?_
  refine j_iconst (v := 1) C d_M_slopeY_3 (by decide) ?_
  refine j_iadd C d_M_slopeY_4 ?_
  refine bd hf (fun v1 hc4 hf => ?_)
  refine j_cV (rest := []) C lk_M_208 (c_M_heightOf hY hc4) rfl (kM hY rfl) (nM hY (by decide)) (by decide) rfl rfl (by decide) rfl (Nat.le_of_ble_eq_true rfl) d_M_slopeY_5 ?_
  refine j_aload_n C d_M_slopeY_8 0 rfl ?_
  refine j_iload_n C d_M_slopeY_9 1 rfl ?_
  refine j_iload_n C d_M_slopeY_10 2 rfl ?_
  refine j_iconst (v := 1) C d_M_slopeY_11 (by decide) ?_
  refine j_isub C d_M_slopeY_12 ?_
  refine bd hf (fun v2 hc3 hf => ?_)
  refine j_cV (rest := [.int v1]) C lk_M_208 (c_M_heightOf hY hc3) rfl (kM hY rfl) (nM hY (by decide)) (by decide) rfl rfl (by decide) rfl (Nat.le_of_ble_eq_true rfl) d_M_slopeY_13 ?_
  refine j_isub C d_M_slopeY_16 ?_
  obtain rfl := Option.some.inj hf
  exact j_iret C d_M_slopeY_17
theorem d_M_height_0 : DC b_M_height 0 (.iload_n 1) 1 1 := ⟨by decide +kernel, rfl⟩
theorem d_M_height_1 : DC b_M_height 1 (.i2l) 1 2 := ⟨by decide +kernel, rfl⟩
theorem d_M_height_2 : DC b_M_height 2 (.ldc2_w 212) 3 5 := ⟨by decide +kernel, rfl⟩
theorem d_M_height_5 : DC b_M_height 5 (.ldc2_w 214) 3 8 := ⟨by decide +kernel, rfl⟩
theorem d_M_height_8 : DC b_M_height 8 (.invokestatic 164) 3 11 := ⟨by decide +kernel, rfl⟩
theorem d_M_height_11 : DB b_M_height 11 (.ifCond .eq 29) 29 40 14 := ⟨by decide +kernel, by decide, rfl⟩
theorem d_M_height_14 : DC b_M_height 14 (.iload_n 2) 1 15 := ⟨by decide +kernel, rfl⟩
theorem d_M_height_15 : DC b_M_height 15 (.i2l) 1 16 := ⟨by decide +kernel, rfl⟩
theorem d_M_height_16 : DC b_M_height 16 (.ldc2_w 212) 3 19 := ⟨by decide +kernel, rfl⟩
theorem d_M_height_19 : DC b_M_height 19 (.ldc2_w 214) 3 22 := ⟨by decide +kernel, rfl⟩
theorem d_M_height_22 : DC b_M_height 22 (.invokestatic 164) 3 25 := ⟨by decide +kernel, rfl⟩
theorem d_M_height_25 : DB b_M_height 25 (.ifCond .eq 15) 15 40 28 := ⟨by decide +kernel, by decide, rfl⟩
theorem d_M_height_28 : DC b_M_height 28 (.iload_n 3) 1 29 := ⟨by decide +kernel, rfl⟩
theorem d_M_height_29 : DC b_M_height 29 (.i2l) 1 30 := ⟨by decide +kernel, rfl⟩
theorem d_M_height_30 : DC b_M_height 30 (.lconst 0) 1 31 := ⟨by decide +kernel, rfl⟩
theorem d_M_height_31 : DC b_M_height 31 (.ldc2_w 216) 3 34 := ⟨by decide +kernel, rfl⟩
theorem d_M_height_34 : DC b_M_height 34 (.invokestatic 164) 3 37 := ⟨by decide +kernel, rfl⟩
theorem d_M_height_37 : DB b_M_height 37 (.ifCond .ne 6) 6 43 40 := ⟨by decide +kernel, by decide, rfl⟩
theorem d_M_height_40 : DC b_M_height 40 (.ldc 218) 2 42 := ⟨by decide +kernel, rfl⟩
theorem d_M_height_42 : decode b_M_height 42 = .ok (.ireturn, 1) := by decide +kernel
theorem d_M_height_43 : DC b_M_height 43 (.iload_n 3) 1 44 := ⟨by decide +kernel, rfl⟩
theorem d_M_height_44 : DB b_M_height 44 (.ifCond .ne 12) 12 56 47 := ⟨by decide +kernel, by decide, rfl⟩
theorem d_M_height_47 : DC b_M_height 47 (.aload_n 0) 1 48 := ⟨by decide +kernel, rfl⟩
theorem d_M_height_48 : DC b_M_height 48 (.iload_n 1) 1 49 := ⟨by decide +kernel, rfl⟩
theorem d_M_height_49 : DC b_M_height 49 (.iload_n 2) 1 50 := ⟨by decide +kernel, rfl⟩
theorem d_M_height_50 : DC b_M_height 50 (.invokevirtual 208) 3 53 := ⟨by decide +kernel, rfl⟩
theorem d_M_height_53 : DB b_M_height 53 (.goto 23) 23 76 56 := ⟨by decide +kernel, by decide, rfl⟩
theorem d_M_height_56 : DC b_M_height 56 (.iload_n 3) 1 57 := ⟨by decide +kernel, rfl⟩
theorem d_M_height_57 : DC b_M_height 57 (.iconst 1) 1 58 := ⟨by decide +kernel, rfl⟩
theorem d_M_height_58 : DB b_M_height 58 (.if_icmp .ne 12) 12 70 61 := ⟨by decide +kernel, by decide, rfl⟩
theorem d_M_height_61 : DC b_M_height 61 (.aload_n 0) 1 62 := ⟨by decide +kernel, rfl⟩
theorem d_M_height_62 : DC b_M_height 62 (.iload_n 1) 1 63 := ⟨by decide +kernel, rfl⟩
theorem d_M_height_63 : DC b_M_height 63 (.iload_n 2) 1 64 := ⟨by decide +kernel, rfl⟩
theorem d_M_height_64 : DC b_M_height 64 (.invokevirtual 219) 3 67 := ⟨by decide +kernel, rfl⟩
theorem d_M_height_67 : DB b_M_height 67 (.goto 9) 9 76 70 := ⟨by decide +kernel, by decide, rfl⟩
theorem d_M_height_70 : DC b_M_height 70 (.aload_n 0) 1 71 := ⟨by decide +kernel, rfl⟩
theorem d_M_height_71 : DC b_M_height 71 (.iload_n 1) 1 72 := ⟨by decide +kernel, rfl⟩
theorem d_M_height_72 : DC b_M_height 72 (.iload_n 2) 1 73 := ⟨by decide +kernel, rfl⟩
theorem d_M_height_73 : DC b_M_height 73 (.invokevirtual 222) 3 76 := ⟨by decide +kernel, rfl⟩
theorem d_M_height_76 : decode b_M_height 76 = .ok (.ireturn, 1) := by decide +kernel
theorem c_M_height {l : Launch} {Y : Lay} (hY : IsM Y) {N : Nat} {μ : Mem} {x1 : Int32} {x2 : Int32} {x3 : Int32} {r : Int32} (hf : f_M_height N μ x1 x2 x3 = some r) : Ct l Y y_M_height b_M_height 4 (some .int) 3 [.ref (yad Y 0), .int x1, .int x2, .int x3] (some (.int r)) μ μ := by
  refine ct_of (own := "TopYardModel") (lv := [(0, .ref (yad Y 0)), (1, .int x1), (2, .int x2), (3, .int x3)]) (by decide +kernel) rfl (Nat.le_of_ble_eq_true rfl) rfl (fun X hl C => ?_)
  subst hl
  unfold f_M_height at hf
  refine j_iload_n C d_M_height_0 1 rfl ?_
  refine j_i2l C d_M_height_1 ?_
  refine j_ldc2 (v := (-32)) C d_M_height_2 wd_169 ?_
  refine j_ldc2 (v := 32) C d_M_height_5 wd_170 ?_
  refine bd hf (fun v1 hc12 hf => ?_)
  refine j_cS (rest := []) C lk_M_164 (c_M_in hY hc12) rfl (by decide) rfl (Nat.le_of_ble_eq_true rfl) d_M_height_8 ?_
  refine j_if_eq C d_M_height_11 hf (fun hf => ?_) (fun hf => ?_)
  · refine j_ldc (v := (-2147483648)) C d_M_height_40 wd_171 ?_
    obtain rfl := Option.some.inj hf
    exact j_iret C d_M_height_42
  · refine j_iload_n C d_M_height_14 2 rfl ?_
    refine j_i2l C d_M_height_15 ?_
    refine j_ldc2 (v := (-32)) C d_M_height_16 wd_169 ?_
    refine j_ldc2 (v := 32) C d_M_height_19 wd_170 ?_
    refine bd hf (fun v2 hc11 hf => ?_)
    refine j_cS (rest := []) C lk_M_164 (c_M_in hY hc11) rfl (by decide) rfl (Nat.le_of_ble_eq_true rfl) d_M_height_22 ?_
    refine j_if_eq C d_M_height_25 hf (fun hf => ?_) (fun hf => ?_)
    · refine j_ldc (v := (-2147483648)) C d_M_height_40 wd_171 ?_
      obtain rfl := Option.some.inj hf
      exact j_iret C d_M_height_42
    · refine j_iload_n C d_M_height_28 3 rfl ?_
      refine j_i2l C d_M_height_29 ?_
      refine j_lconst (v := 0) C d_M_height_30 (by decide) ?_
      refine j_ldc2 (v := 2) C d_M_height_31 wd_172 ?_
      refine bd hf (fun v3 hc10 hf => ?_)
      refine j_cS (rest := []) C lk_M_164 (c_M_in hY hc10) rfl (by decide) rfl (Nat.le_of_ble_eq_true rfl) d_M_height_34 ?_
      refine j_if_ne C d_M_height_37 hf (fun hf => ?_) (fun hf => ?_)
      · refine j_iload_n C d_M_height_43 3 rfl ?_
        refine j_if_ne C d_M_height_44 hf (fun hf => ?_) (fun hf => ?_)
        · refine j_iload_n C d_M_height_56 3 rfl ?_
          refine j_iconst (v := 1) C d_M_height_57 (by decide) ?_
          refine j_icmp_ne C d_M_height_58 hf (fun hf => ?_) (fun hf => ?_)
          · refine j_aload_n C d_M_height_70 0 rfl ?_
            refine j_iload_n C d_M_height_71 1 rfl ?_
            refine j_iload_n C d_M_height_72 2 rfl ?_
            refine bd hf (fun v4 hc5 hf => ?_)
            refine j_cV (rest := []) C lk_M_222 (c_M_slopeY hY hc5) rfl (kM hY rfl) (nM hY (by decide)) (by decide) rfl rfl (by decide) rfl (Nat.le_of_ble_eq_true rfl) d_M_height_73 ?_
            obtain rfl := Option.some.inj hf
            exact j_iret C d_M_height_76
          · refine j_aload_n C d_M_height_61 0 rfl ?_
            refine j_iload_n C d_M_height_62 1 rfl ?_
            refine j_iload_n C d_M_height_63 2 rfl ?_
            refine bd hf (fun v6 hc7 hf => ?_)
            refine j_cV (rest := []) C lk_M_219 (c_M_slopeX hY hc7) rfl (kM hY rfl) (nM hY (by decide)) (by decide) rfl rfl (by decide) rfl (Nat.le_of_ble_eq_true rfl) d_M_height_64 ?_
            refine j_goto C d_M_height_67 ?_
            obtain rfl := Option.some.inj hf
            exact j_iret C d_M_height_76
        · refine j_aload_n C d_M_height_47 0 rfl ?_
          refine j_iload_n C d_M_height_48 1 rfl ?_
          refine j_iload_n C d_M_height_49 2 rfl ?_
          refine bd hf (fun v8 hc9 hf => ?_)
          refine j_cV (rest := []) C lk_M_208 (c_M_heightOf hY hc9) rfl (kM hY rfl) (nM hY (by decide)) (by decide) rfl rfl (by decide) rfl (Nat.le_of_ble_eq_true rfl) d_M_height_50 ?_
          refine j_goto C d_M_height_53 ?_
          obtain rfl := Option.some.inj hf
          exact j_iret C d_M_height_76
      · refine j_ldc (v := (-2147483648)) C d_M_height_40 wd_171 ?_
        obtain rfl := Option.some.inj hf
        exact j_iret C d_M_height_42
theorem d_M_string_0 : DC b_M_string 0 (.iload_n 1) 1 1 := ⟨by decide +kernel, rfl⟩
theorem d_M_string_1 : DC b_M_string 1 (.invokestatic 186) 3 4 := ⟨by decide +kernel, rfl⟩
theorem d_M_string_4 : DB b_M_string 4 (.ifCond .eq 15) 15 19 7 := ⟨by decide +kernel, by decide, rfl⟩
theorem d_M_string_7 : DC b_M_string 7 (.iload_n 2) 1 8 := ⟨by decide +kernel, rfl⟩
theorem d_M_string_8 : DC b_M_string 8 (.i2l) 1 9 := ⟨by decide +kernel, rfl⟩
theorem d_M_string_9 : DC b_M_string 9 (.lconst 0) 1 10 := ⟨by decide +kernel, rfl⟩
theorem d_M_string_10 : DC b_M_string 10 (.ldc2_w 225) 3 13 := ⟨by decide +kernel, rfl⟩
theorem d_M_string_13 : DC b_M_string 13 (.invokestatic 164) 3 16 := ⟨by decide +kernel, rfl⟩
theorem d_M_string_16 : DB b_M_string 16 (.ifCond .ne 6) 6 22 19 := ⟨by decide +kernel, by decide, rfl⟩
theorem d_M_string_19 : DC b_M_string 19 (.bipush (-2)) 2 21 := ⟨by decide +kernel, rfl⟩
theorem d_M_string_21 : decode b_M_string 21 = .ok (.ireturn, 1) := by decide +kernel
theorem d_M_string_22 : DC b_M_string 22 (.aload_n 0) 1 23 := ⟨by decide +kernel, rfl⟩
theorem d_M_string_23 : DC b_M_string 23 (.getfield 31) 3 26 := ⟨by decide +kernel, rfl⟩
theorem d_M_string_26 : DC b_M_string 26 (.iload_n 1) 1 27 := ⟨by decide +kernel, rfl⟩
theorem d_M_string_27 : DC b_M_string 27 (.iaload) 1 28 := ⟨by decide +kernel, rfl⟩
theorem d_M_string_28 : DC b_M_string 28 (.istore_n 3) 1 29 := ⟨by decide +kernel, rfl⟩
theorem d_M_string_29 : DC b_M_string 29 (.aload_n 0) 1 30 := ⟨by decide +kernel, rfl⟩
theorem d_M_string_30 : DC b_M_string 30 (.getfield 31) 3 33 := ⟨by decide +kernel, rfl⟩
theorem d_M_string_33 : DC b_M_string 33 (.iload_n 1) 1 34 := ⟨by decide +kernel, rfl⟩
theorem d_M_string_34 : DC b_M_string 34 (.iload_n 2) 1 35 := ⟨by decide +kernel, rfl⟩
theorem d_M_string_35 : DC b_M_string 35 (.iastore) 1 36 := ⟨by decide +kernel, rfl⟩
theorem d_M_string_36 : DC b_M_string 36 (.iload_n 3) 1 37 := ⟨by decide +kernel, rfl⟩
theorem d_M_string_37 : decode b_M_string 37 = .ok (.ireturn, 1) := by decide +kernel
theorem c_M_string {l : Launch} {Y : Lay} (hY : IsM Y) {μ : Mem} {x1 : Int32} {x2 : Int32} {r : Int32 × Mem} (hf : f_M_string μ x1 x2 = some r) : Ct l Y y_M_string b_M_string 4 (some .int) 3 [.ref (yad Y 0), .int x1, .int x2] (some (.int r.1)) μ r.2 := by
  refine ct_of (own := "TopYardModel") (lv := [(0, .ref (yad Y 0)), (1, .int x1), (2, .int x2)]) (by decide +kernel) rfl (Nat.le_of_ble_eq_true rfl) rfl (fun X hl C => ?_)
  subst hl
  unfold f_M_string at hf
  refine j_iload_n C d_M_string_0 1 rfl ?_
  refine bd hf (fun v1 hc8 hf => ?_)
  refine j_cS (rest := []) C lk_M_186 (c_M_isOwner hY hc8) rfl (by decide) rfl (Nat.le_of_ble_eq_true rfl) d_M_string_1 ?_
  refine j_if_eq C d_M_string_4 hf (fun hf => ?_) (fun hf => ?_)
  · refine j_bipush (v := (-2)) C d_M_string_19 (by decide) ?_
    obtain rfl := Option.some.inj hf
    exact j_iret C d_M_string_21
  · refine j_iload_n C d_M_string_7 2 rfl ?_
    refine j_i2l C d_M_string_8 ?_
    refine j_lconst (v := 0) C d_M_string_9 (by decide) ?_
    refine j_ldc2 (v := 200) C d_M_string_10 wd_173 ?_
    refine bd hf (fun v2 hc7 hf => ?_)
    refine j_cS (rest := []) C lk_M_164 (c_M_in hY hc7) rfl (by decide) rfl (Nat.le_of_ble_eq_true rfl) d_M_string_13 ?_
    refine j_if_ne C d_M_string_16 hf (fun hf => ?_) (fun hf => ?_)
    · refine j_aload_n C d_M_string_22 0 rfl ?_
      refine j_gS (b := 8) C fl_M_31 (kM hY rfl) (nM hY (by decide)) rfl hY.2.2.2.1 rfl (sM hY rfl) d_M_string_23 ?_
      refine j_iload_n C d_M_string_26 1 rfl ?_
      refine ck hf (fun hi3 hf => ?_)
      refine j_iald C (kM hY rfl) (nM hY (by decide)) (lM hY rfl) hi3 d_M_string_27 ?_
      refine j_istore_nN (lvf := [(0, .ref (yad Y 0)), (1, .int x1), (2, .int x2)]) C d_M_string_28 (by decide) rfl hf (fun v4 hf => ?_)
      refine j_aload_n C d_M_string_29 1 rfl ?_
      refine j_gS (b := 8) C fl_M_31 (kM hY rfl) (nM hY (by decide)) rfl hY.2.2.2.1 rfl (sM hY rfl) d_M_string_30 ?_
      refine j_iload_n C d_M_string_33 2 rfl ?_
      refine j_iload_n C d_M_string_34 3 rfl ?_
      refine ck hf (fun hi5 hf => ?_)
      refine j_iast C (kM hY rfl) (nM hY (by decide)) (lM hY rfl) hi5 d_M_string_35 hf (fun μ6 hf => ?_)
      refine j_iload_n C d_M_string_36 0 rfl ?_
      obtain rfl := Option.some.inj hf
      exact j_iret C d_M_string_37
    · refine j_bipush (v := (-2)) C d_M_string_19 (by decide) ?_
      obtain rfl := Option.some.inj hf
      exact j_iret C d_M_string_21
theorem d_M_enter_0 : DC b_M_enter 0 (.aload_n 0) 1 1 := ⟨by decide +kernel, rfl⟩
theorem d_M_enter_1 : DC b_M_enter 1 (.iload_n 1) 1 2 := ⟨by decide +kernel, rfl⟩
theorem d_M_enter_2 : DC b_M_enter 2 (.invokevirtual 190) 3 5 := ⟨by decide +kernel, rfl⟩
theorem d_M_enter_5 : DB b_M_enter 5 (.ifCond .eq 57) 57 62 8 := ⟨by decide +kernel, by decide, rfl⟩
theorem d_M_enter_8 : DC b_M_enter 8 (.iload_n 2) 1 9 := ⟨by decide +kernel, rfl⟩
theorem d_M_enter_9 : DC b_M_enter 9 (.i2l) 1 10 := ⟨by decide +kernel, rfl⟩
theorem d_M_enter_10 : DC b_M_enter 10 (.ldc2_w 227) 3 13 := ⟨by decide +kernel, rfl⟩
theorem d_M_enter_13 : DC b_M_enter 13 (.ldc2_w 195) 3 16 := ⟨by decide +kernel, rfl⟩
theorem d_M_enter_16 : DC b_M_enter 16 (.invokestatic 164) 3 19 := ⟨by decide +kernel, rfl⟩
theorem d_M_enter_19 : DB b_M_enter 19 (.ifCond .eq 43) 43 62 22 := ⟨by decide +kernel, by decide, rfl⟩
theorem d_M_enter_22 : DC b_M_enter 22 (.iload_n 3) 1 23 := ⟨by decide +kernel, rfl⟩
theorem d_M_enter_23 : DC b_M_enter 23 (.i2l) 1 24 := ⟨by decide +kernel, rfl⟩
theorem d_M_enter_24 : DC b_M_enter 24 (.ldc2_w 227) 3 27 := ⟨by decide +kernel, rfl⟩
theorem d_M_enter_27 : DC b_M_enter 27 (.ldc2_w 195) 3 30 := ⟨by decide +kernel, rfl⟩
theorem d_M_enter_30 : DC b_M_enter 30 (.invokestatic 164) 3 33 := ⟨by decide +kernel, rfl⟩
theorem d_M_enter_33 : DB b_M_enter 33 (.ifCond .eq 29) 29 62 36 := ⟨by decide +kernel, by decide, rfl⟩
theorem d_M_enter_36 : DC b_M_enter 36 (.iload 4) 2 38 := ⟨by decide +kernel, rfl⟩
theorem d_M_enter_38 : DC b_M_enter 38 (.i2l) 1 39 := ⟨by decide +kernel, rfl⟩
theorem d_M_enter_39 : DC b_M_enter 39 (.lconst 0) 1 40 := ⟨by decide +kernel, rfl⟩
theorem d_M_enter_40 : DC b_M_enter 40 (.ldc2_w 162) 3 43 := ⟨by decide +kernel, rfl⟩
theorem d_M_enter_43 : DC b_M_enter 43 (.invokestatic 164) 3 46 := ⟨by decide +kernel, rfl⟩
theorem d_M_enter_46 : DB b_M_enter 46 (.ifCond .eq 16) 16 62 49 := ⟨by decide +kernel, by decide, rfl⟩
theorem d_M_enter_49 : DC b_M_enter 49 (.iload 5) 2 51 := ⟨by decide +kernel, rfl⟩
theorem d_M_enter_51 : DC b_M_enter 51 (.i2l) 1 52 := ⟨by decide +kernel, rfl⟩
theorem d_M_enter_52 : DC b_M_enter 52 (.lconst 1) 1 53 := ⟨by decide +kernel, rfl⟩
theorem d_M_enter_53 : DC b_M_enter 53 (.ldc2_w 229) 3 56 := ⟨by decide +kernel, rfl⟩
theorem d_M_enter_56 : DC b_M_enter 56 (.invokestatic 164) 3 59 := ⟨by decide +kernel, rfl⟩
theorem d_M_enter_59 : DB b_M_enter 59 (.ifCond .ne 6) 6 65 62 := ⟨by decide +kernel, by decide, rfl⟩
theorem d_M_enter_62 : DC b_M_enter 62 (.bipush (-2)) 2 64 := ⟨by decide +kernel, rfl⟩
theorem d_M_enter_64 : decode b_M_enter 64 = .ok (.ireturn, 1) := by decide +kernel
theorem d_M_enter_65 : DC b_M_enter 65 (.iconst 0) 1 66 := ⟨by decide +kernel, rfl⟩
theorem d_M_enter_66 : DC b_M_enter 66 (.istore 6) 2 68 := ⟨by decide +kernel, rfl⟩
theorem d_M_enter_68 : DC b_M_enter 68 (.iload 6) 2 70 := ⟨by decide +kernel, rfl⟩
theorem d_M_enter_70 : DC b_M_enter 70 (.aload_n 0) 1 71 := ⟨by decide +kernel, rfl⟩
theorem d_M_enter_71 : DC b_M_enter 71 (.getfield 231) 3 74 := ⟨by decide +kernel, rfl⟩
theorem d_M_enter_74 : DB b_M_enter 74 (.if_icmp .ge 23) 23 97 77 := ⟨by decide +kernel, by decide, rfl⟩
theorem d_M_enter_77 : DC b_M_enter 77 (.aload_n 0) 1 78 := ⟨by decide +kernel, rfl⟩
theorem d_M_enter_78 : DC b_M_enter 78 (.getfield 50) 3 81 := ⟨by decide +kernel, rfl⟩
theorem d_M_enter_81 : DC b_M_enter 81 (.iload 6) 2 83 := ⟨by decide +kernel, rfl⟩
theorem d_M_enter_83 : DC b_M_enter 83 (.iaload) 1 84 := ⟨by decide +kernel, rfl⟩
theorem d_M_enter_84 : DC b_M_enter 84 (.iload_n 1) 1 85 := ⟨by decide +kernel, rfl⟩
theorem d_M_enter_85 : DB b_M_enter 85 (.if_icmp .ne 6) 6 91 88 := ⟨by decide +kernel, by decide, rfl⟩
theorem d_M_enter_88 : DC b_M_enter 88 (.bipush (-2)) 2 90 := ⟨by decide +kernel, rfl⟩
theorem d_M_enter_90 : decode b_M_enter 90 = .ok (.ireturn, 1) := by decide +kernel
theorem d_M_enter_91 : DC b_M_enter 91 (.iinc 6 1) 3 94 := ⟨by decide +kernel, rfl⟩
theorem d_M_enter_94 : DB b_M_enter 94 (.goto (-26)) (-26) 68 97 := ⟨by decide +kernel, by decide, rfl⟩
theorem d_M_enter_97 : DC b_M_enter 97 (.aload_n 0) 1 98 := ⟨by decide +kernel, rfl⟩
theorem d_M_enter_98 : DC b_M_enter 98 (.getfield 231) 3 101 := ⟨by decide +kernel, rfl⟩
theorem d_M_enter_101 : DC b_M_enter 101 (.iconst 4) 1 102 := ⟨by decide +kernel, rfl⟩
theorem d_M_enter_102 : DB b_M_enter 102 (.if_icmp .ne 6) 6 108 105 := ⟨by decide +kernel, by decide, rfl⟩
theorem d_M_enter_105 : DC b_M_enter 105 (.bipush (-4)) 2 107 := ⟨by decide +kernel, rfl⟩
theorem d_M_enter_107 : decode b_M_enter 107 = .ok (.ireturn, 1) := by decide +kernel
theorem d_M_enter_108 : DC b_M_enter 108 (.aload_n 0) 1 109 := ⟨by decide +kernel, rfl⟩
theorem d_M_enter_109 : DC b_M_enter 109 (.getfield 50) 3 112 := ⟨by decide +kernel, rfl⟩
theorem d_M_enter_112 : DC b_M_enter 112 (.aload_n 0) 1 113 := ⟨by decide +kernel, rfl⟩
theorem d_M_enter_113 : DC b_M_enter 113 (.getfield 231) 3 116 := ⟨by decide +kernel, rfl⟩
theorem d_M_enter_116 : DC b_M_enter 116 (.iload_n 1) 1 117 := ⟨by decide +kernel, rfl⟩
theorem d_M_enter_117 : DC b_M_enter 117 (.iastore) 1 118 := ⟨by decide +kernel, rfl⟩
theorem d_M_enter_118 : DC b_M_enter 118 (.aload_n 0) 1 119 := ⟨by decide +kernel, rfl⟩
theorem d_M_enter_119 : DC b_M_enter 119 (.getfield 53) 3 122 := ⟨by decide +kernel, rfl⟩
theorem d_M_enter_122 : DC b_M_enter 122 (.aload_n 0) 1 123 := ⟨by decide +kernel, rfl⟩
theorem d_M_enter_123 : DC b_M_enter 123 (.getfield 231) 3 126 := ⟨by decide +kernel, rfl⟩
theorem d_M_enter_126 : DC b_M_enter 126 (.iload_n 2) 1 127 := ⟨by decide +kernel, rfl⟩
theorem d_M_enter_127 : DC b_M_enter 127 (.iastore) 1 128 := ⟨by decide +kernel, rfl⟩
theorem d_M_enter_128 : DC b_M_enter 128 (.aload_n 0) 1 129 := ⟨by decide +kernel, rfl⟩
theorem d_M_enter_129 : DC b_M_enter 129 (.getfield 56) 3 132 := ⟨by decide +kernel, rfl⟩
theorem d_M_enter_132 : DC b_M_enter 132 (.aload_n 0) 1 133 := ⟨by decide +kernel, rfl⟩
theorem d_M_enter_133 : DC b_M_enter 133 (.getfield 231) 3 136 := ⟨by decide +kernel, rfl⟩
theorem d_M_enter_136 : DC b_M_enter 136 (.iload_n 3) 1 137 := ⟨by decide +kernel, rfl⟩
theorem d_M_enter_137 : DC b_M_enter 137 (.iastore) 1 138 := ⟨by decide +kernel, rfl⟩
theorem d_M_enter_138 : DC b_M_enter 138 (.aload_n 0) 1 139 := ⟨by decide +kernel, rfl⟩
theorem d_M_enter_139 : DC b_M_enter 139 (.getfield 59) 3 142 := ⟨by decide +kernel, rfl⟩
theorem d_M_enter_142 : DC b_M_enter 142 (.aload_n 0) 1 143 := ⟨by decide +kernel, rfl⟩
theorem d_M_enter_143 : DC b_M_enter 143 (.getfield 231) 3 146 := ⟨by decide +kernel, rfl⟩
theorem d_M_enter_146 : DC b_M_enter 146 (.iload 4) 2 148 := ⟨by decide +kernel, rfl⟩
theorem d_M_enter_148 : DC b_M_enter 148 (.iastore) 1 149 := ⟨by decide +kernel, rfl⟩
theorem d_M_enter_149 : DC b_M_enter 149 (.aload_n 0) 1 150 := ⟨by decide +kernel, rfl⟩
theorem d_M_enter_150 : DC b_M_enter 150 (.getfield 62) 3 153 := ⟨by decide +kernel, rfl⟩
theorem d_M_enter_153 : DC b_M_enter 153 (.aload_n 0) 1 154 := ⟨by decide +kernel, rfl⟩
theorem d_M_enter_154 : DC b_M_enter 154 (.getfield 231) 3 157 := ⟨by decide +kernel, rfl⟩
theorem d_M_enter_157 : DC b_M_enter 157 (.iload 5) 2 159 := ⟨by decide +kernel, rfl⟩
theorem d_M_enter_159 : DC b_M_enter 159 (.iastore) 1 160 := ⟨by decide +kernel, rfl⟩
theorem d_M_enter_160 : DC b_M_enter 160 (.aload_n 0) 1 161 := ⟨by decide +kernel, rfl⟩
theorem d_M_enter_161 : DC b_M_enter 161 (.dup) 1 162 := ⟨by decide +kernel, rfl⟩
theorem d_M_enter_162 : DC b_M_enter 162 (.getfield 231) 3 165 := ⟨by decide +kernel, rfl⟩
theorem d_M_enter_165 : DC b_M_enter 165 (.iconst 1) 1 166 := ⟨by decide +kernel, rfl⟩
theorem d_M_enter_166 : DC b_M_enter 166 (.iadd) 1 167 := ⟨by decide +kernel, rfl⟩
theorem d_M_enter_167 : DC b_M_enter 167 (.putfield 231) 3 170 := ⟨by decide +kernel, rfl⟩
theorem d_M_enter_170 : DC b_M_enter 170 (.aload_n 0) 1 171 := ⟨by decide +kernel, rfl⟩
theorem d_M_enter_171 : DC b_M_enter 171 (.getfield 231) 3 174 := ⟨by decide +kernel, rfl⟩
theorem d_M_enter_174 : DC b_M_enter 174 (.iconst 1) 1 175 := ⟨by decide +kernel, rfl⟩
theorem d_M_enter_175 : DC b_M_enter 175 (.isub) 1 176 := ⟨by decide +kernel, rfl⟩
theorem d_M_enter_176 : decode b_M_enter 176 = .ok (.ireturn, 1) := by decide +kernel
theorem w_M_enter_l68 {X : Ctx} {Y : Lay} (hY : IsM Y) (C : Cx X Y b_M_enter 7 (some .int) "TopYardModel" 3) {N : Nat} {r : Int32 × Mem} : ∀ (n : Nat) (x1 : Int32) (x2 : Int32) (x3 : Int32) (x4 : Int32) (x5 : Int32) (x6 : Int32) (μ : Mem), f_M_enter_l68 N n x1 x2 x3 x4 x5 x6 μ = some r → J X Y (some (.int r.1)) r.2 7 68 [(0, .ref (yad Y 0)), (1, .int x1), (2, .int x2), (3, .int x3), (4, .int x4), (5, .int x5), (6, .int x6)] [] μ := by
  intro n
  induction n with
  | zero => intro x1 x2 x3 x4 x5 x6 μ hf; rw [f_M_enter_l68] at hf; cases hf
  | succ n ih =>
    intro x1 x2 x3 x4 x5 x6 μ hf
    rw [f_M_enter_l68] at hf
    refine j_iload C d_M_enter_68 6 rfl ?_
    refine j_aload_n C d_M_enter_70 0 rfl ?_
    refine j_gI C fl_M_231 (kM hY rfl) (nM hY (by decide)) rfl d_M_enter_71 ?_
    refine j_icmp_ge C d_M_enter_74 hf (fun hf => ?_) (fun hf => ?_)
    · refine j_aload_n C d_M_enter_97 0 rfl ?_
      refine j_gI C fl_M_231 (kM hY rfl) (nM hY (by decide)) rfl d_M_enter_98 ?_
      refine j_iconst (v := 4) C d_M_enter_101 (by decide) ?_
      refine j_icmp_ne C d_M_enter_102 hf (fun hf => ?_) (fun hf => ?_)
      · refine j_aload_n C d_M_enter_108 0 rfl ?_
        refine j_gS (b := 12) C fl_M_50 (kM hY rfl) (nM hY (by decide)) rfl hY.2.2.2.1 rfl (sM hY rfl) d_M_enter_109 ?_
        refine j_aload_n C d_M_enter_112 0 rfl ?_
        refine j_gI C fl_M_231 (kM hY rfl) (nM hY (by decide)) rfl d_M_enter_113 ?_
        refine j_iload_n C d_M_enter_116 1 rfl ?_
        refine ck hf (fun hi1 hf => ?_)
        refine j_iast C (kM hY rfl) (nM hY (by decide)) (lM hY rfl) hi1 d_M_enter_117 hf (fun μ2 hf => ?_)
        refine j_aload_n C d_M_enter_118 0 rfl ?_
        refine j_gS (b := 13) C fl_M_53 (kM hY rfl) (nM hY (by decide)) rfl hY.2.2.2.1 rfl (sM hY rfl) d_M_enter_119 ?_
        refine j_aload_n C d_M_enter_122 0 rfl ?_
        refine j_gI C fl_M_231 (kM hY rfl) (nM hY (by decide)) rfl d_M_enter_123 ?_
        refine j_iload_n C d_M_enter_126 2 rfl ?_
        refine ck hf (fun hi3 hf => ?_)
        refine j_iast C (kM hY rfl) (nM hY (by decide)) (lM hY rfl) hi3 d_M_enter_127 hf (fun μ4 hf => ?_)
        refine j_aload_n C d_M_enter_128 0 rfl ?_
        refine j_gS (b := 14) C fl_M_56 (kM hY rfl) (nM hY (by decide)) rfl hY.2.2.2.1 rfl (sM hY rfl) d_M_enter_129 ?_
        refine j_aload_n C d_M_enter_132 0 rfl ?_
        refine j_gI C fl_M_231 (kM hY rfl) (nM hY (by decide)) rfl d_M_enter_133 ?_
        refine j_iload_n C d_M_enter_136 3 rfl ?_
        refine ck hf (fun hi5 hf => ?_)
        refine j_iast C (kM hY rfl) (nM hY (by decide)) (lM hY rfl) hi5 d_M_enter_137 hf (fun μ6 hf => ?_)
        refine j_aload_n C d_M_enter_138 0 rfl ?_
        refine j_gS (b := 15) C fl_M_59 (kM hY rfl) (nM hY (by decide)) rfl hY.2.2.2.1 rfl (sM hY rfl) d_M_enter_139 ?_
        refine j_aload_n C d_M_enter_142 0 rfl ?_
        refine j_gI C fl_M_231 (kM hY rfl) (nM hY (by decide)) rfl d_M_enter_143 ?_
        refine j_iload C d_M_enter_146 4 rfl ?_
        refine ck hf (fun hi7 hf => ?_)
        refine j_iast C (kM hY rfl) (nM hY (by decide)) (lM hY rfl) hi7 d_M_enter_148 hf (fun μ8 hf => ?_)
        refine j_aload_n C d_M_enter_149 0 rfl ?_
        refine j_gS (b := 16) C fl_M_62 (kM hY rfl) (nM hY (by decide)) rfl hY.2.2.2.1 rfl (sM hY rfl) d_M_enter_150 ?_
        refine j_aload_n C d_M_enter_153 0 rfl ?_
        refine j_gI C fl_M_231 (kM hY rfl) (nM hY (by decide)) rfl d_M_enter_154 ?_
        refine j_iload C d_M_enter_157 5 rfl ?_
        refine ck hf (fun hi9 hf => ?_)
        refine j_iast C (kM hY rfl) (nM hY (by decide)) (lM hY rfl) hi9 d_M_enter_159 hf (fun μ10 hf => ?_)
        refine j_aload_n C d_M_enter_160 0 rfl ?_
        refine j_dup C d_M_enter_161 rfl ?_
        refine j_gI C fl_M_231 (kM hY rfl) (nM hY (by decide)) rfl d_M_enter_162 ?_
        refine j_iconst (v := 1) C d_M_enter_165 (by decide) ?_
        refine j_iadd C d_M_enter_166 ?_
        refine j_pI C fl_M_231 (kM hY rfl) (nM hY (by decide)) rfl rfl rfl d_M_enter_167 hf (fun μ11 hf => ?_)
        refine j_aload_n C d_M_enter_170 0 rfl ?_
        refine j_gI C fl_M_231 (kM hY rfl) (nM hY (by decide)) rfl d_M_enter_171 ?_
        refine j_iconst (v := 1) C d_M_enter_174 (by decide) ?_
        refine j_isub C d_M_enter_175 ?_
        obtain rfl := Option.some.inj hf
        exact j_iret C d_M_enter_176
      · refine j_bipush (v := (-4)) C d_M_enter_105 (by decide) ?_
        obtain rfl := Option.some.inj hf
        exact j_iret C d_M_enter_107
    · refine j_aload_n C d_M_enter_77 0 rfl ?_
      refine j_gS (b := 12) C fl_M_50 (kM hY rfl) (nM hY (by decide)) rfl hY.2.2.2.1 rfl (sM hY rfl) d_M_enter_78 ?_
      refine j_iload C d_M_enter_81 6 rfl ?_
      refine ck hf (fun hi12 hf => ?_)
      refine j_iald C (kM hY rfl) (nM hY (by decide)) (lM hY rfl) hi12 d_M_enter_83 ?_
      refine j_iload_n C d_M_enter_84 1 rfl ?_
      refine j_icmp_ne C d_M_enter_85 hf (fun hf => ?_) (fun hf => ?_)
      · refine j_iinc (lvf := [(0, .ref (yad Y 0)), (1, .int x1), (2, .int x2), (3, .int x3), (4, .int x4), (5, .int x5)]) (v := 1) C d_M_enter_91 6 rfl (by decide) (by decide) rfl hf (fun v13 hf => ?_)
        refine j_goto C d_M_enter_94 ?_
        refine j_sub [1, 2, 3, 4, 5, 6, 0] rfl ?_
        exact ih x1 x2 x3 x4 x5 v13 μ hf
      · refine j_bipush (v := (-2)) C d_M_enter_88 (by decide) ?_
        obtain rfl := Option.some.inj hf
        exact j_iret C d_M_enter_90
theorem c_M_enter {l : Launch} {Y : Lay} (hY : IsM Y) {N : Nat} {μ : Mem} {x1 : Int32} {x2 : Int32} {x3 : Int32} {x4 : Int32} {x5 : Int32} {r : Int32 × Mem} (hf : f_M_enter N μ x1 x2 x3 x4 x5 = some r) : Ct l Y y_M_enter b_M_enter 7 (some .int) 3 [.ref (yad Y 0), .int x1, .int x2, .int x3, .int x4, .int x5] (some (.int r.1)) μ r.2 := by
  refine ct_of (own := "TopYardModel") (lv := [(0, .ref (yad Y 0)), (1, .int x1), (2, .int x2), (3, .int x3), (4, .int x4), (5, .int x5)]) (by decide +kernel) rfl (Nat.le_of_ble_eq_true rfl) rfl (fun X hl C => ?_)
  subst hl
  unfold f_M_enter at hf
  refine j_aload_n C d_M_enter_0 0 rfl ?_
  refine j_iload_n C d_M_enter_1 1 rfl ?_
  refine bd hf (fun v1 hc10 hf => ?_)
  refine j_cV (rest := []) C lk_M_190 (c_M_isTop hY hc10) rfl (kM hY rfl) (nM hY (by decide)) (by decide) rfl rfl (by decide) rfl (Nat.le_of_ble_eq_true rfl) d_M_enter_2 ?_
  refine j_if_eq C d_M_enter_5 hf (fun hf => ?_) (fun hf => ?_)
  · refine j_bipush (v := (-2)) C d_M_enter_62 (by decide) ?_
    obtain rfl := Option.some.inj hf
    exact j_iret C d_M_enter_64
  · refine j_iload_n C d_M_enter_8 2 rfl ?_
    refine j_i2l C d_M_enter_9 ?_
    refine j_ldc2 (v := (-30)) C d_M_enter_10 wd_175 ?_
    refine j_ldc2 (v := 30) C d_M_enter_13 wd_158 ?_
    refine bd hf (fun v2 hc9 hf => ?_)
    refine j_cS (rest := []) C lk_M_164 (c_M_in hY hc9) rfl (by decide) rfl (Nat.le_of_ble_eq_true rfl) d_M_enter_16 ?_
    refine j_if_eq C d_M_enter_19 hf (fun hf => ?_) (fun hf => ?_)
    · refine j_bipush (v := (-2)) C d_M_enter_62 (by decide) ?_
      obtain rfl := Option.some.inj hf
      exact j_iret C d_M_enter_64
    · refine j_iload_n C d_M_enter_22 3 rfl ?_
      refine j_i2l C d_M_enter_23 ?_
      refine j_ldc2 (v := (-30)) C d_M_enter_24 wd_175 ?_
      refine j_ldc2 (v := 30) C d_M_enter_27 wd_158 ?_
      refine bd hf (fun v3 hc8 hf => ?_)
      refine j_cS (rest := []) C lk_M_164 (c_M_in hY hc8) rfl (by decide) rfl (Nat.le_of_ble_eq_true rfl) d_M_enter_30 ?_
      refine j_if_eq C d_M_enter_33 hf (fun hf => ?_) (fun hf => ?_)
      · refine j_bipush (v := (-2)) C d_M_enter_62 (by decide) ?_
        obtain rfl := Option.some.inj hf
        exact j_iret C d_M_enter_64
      · refine j_iload C d_M_enter_36 4 rfl ?_
        refine j_i2l C d_M_enter_38 ?_
        refine j_lconst (v := 0) C d_M_enter_39 (by decide) ?_
        refine j_ldc2 (v := 35) C d_M_enter_40 wd_145 ?_
        refine bd hf (fun v4 hc7 hf => ?_)
        refine j_cS (rest := []) C lk_M_164 (c_M_in hY hc7) rfl (by decide) rfl (Nat.le_of_ble_eq_true rfl) d_M_enter_43 ?_
        refine j_if_eq C d_M_enter_46 hf (fun hf => ?_) (fun hf => ?_)
        · refine j_bipush (v := (-2)) C d_M_enter_62 (by decide) ?_
          obtain rfl := Option.some.inj hf
          exact j_iret C d_M_enter_64
        · refine j_iload C d_M_enter_49 5 rfl ?_
          refine j_i2l C d_M_enter_51 ?_
          refine j_lconst (v := 1) C d_M_enter_52 (by decide) ?_
          refine j_ldc2 (v := 60) C d_M_enter_53 wd_176 ?_
          refine bd hf (fun v5 hc6 hf => ?_)
          refine j_cS (rest := []) C lk_M_164 (c_M_in hY hc6) rfl (by decide) rfl (Nat.le_of_ble_eq_true rfl) d_M_enter_56 ?_
          refine j_if_ne C d_M_enter_59 hf (fun hf => ?_) (fun hf => ?_)
          · refine j_iconst (v := 0) C d_M_enter_65 (by decide) ?_
            refine j_istore (lvf := [(0, .ref (yad Y 0)), (1, .int x1), (2, .int x2), (3, .int x3), (4, .int x4), (5, .int x5)]) C d_M_enter_66 (by decide) rfl ?_
            refine j_sub [1, 2, 3, 4, 5, 6, 0] rfl ?_
            exact w_M_enter_l68 hY C N x1 x2 x3 x4 x5 0 μ hf
          · refine j_bipush (v := (-2)) C d_M_enter_62 (by decide) ?_
            obtain rfl := Option.some.inj hf
            exact j_iret C d_M_enter_64
theorem d_M_clear_0 : DC b_M_clear 0 (.aload_n 0) 1 1 := ⟨by decide +kernel, rfl⟩
theorem d_M_clear_1 : DC b_M_clear 1 (.getfield 231) 3 4 := ⟨by decide +kernel, rfl⟩
theorem d_M_clear_4 : DC b_M_clear 4 (.istore_n 1) 1 5 := ⟨by decide +kernel, rfl⟩
theorem d_M_clear_5 : DC b_M_clear 5 (.aload_n 0) 1 6 := ⟨by decide +kernel, rfl⟩
theorem d_M_clear_6 : DC b_M_clear 6 (.iconst 0) 1 7 := ⟨by decide +kernel, rfl⟩
theorem d_M_clear_7 : DC b_M_clear 7 (.putfield 231) 3 10 := ⟨by decide +kernel, rfl⟩
theorem d_M_clear_10 : DC b_M_clear 10 (.aload_n 0) 1 11 := ⟨by decide +kernel, rfl⟩
theorem d_M_clear_11 : DC b_M_clear 11 (.iconst 0) 1 12 := ⟨by decide +kernel, rfl⟩
theorem d_M_clear_12 : DC b_M_clear 12 (.putfield 234) 3 15 := ⟨by decide +kernel, rfl⟩
theorem d_M_clear_15 : DC b_M_clear 15 (.iload_n 1) 1 16 := ⟨by decide +kernel, rfl⟩
theorem d_M_clear_16 : decode b_M_clear 16 = .ok (.ireturn, 1) := by decide +kernel
theorem c_M_clear {l : Launch} {Y : Lay} (hY : IsM Y) {μ : Mem} {r : Int32 × Mem} (hf : f_M_clear μ = some r) : Ct l Y y_M_clear b_M_clear 2 (some .int) 1 [.ref (yad Y 0)] (some (.int r.1)) μ r.2 := by
  refine ct_of (own := "TopYardModel") (lv := [(0, .ref (yad Y 0))]) (by decide +kernel) rfl (Nat.le_of_ble_eq_true rfl) rfl (fun X hl C => ?_)
  subst hl
  unfold f_M_clear at hf
  refine j_aload_n C d_M_clear_0 0 rfl ?_
  refine j_gI C fl_M_231 (kM hY rfl) (nM hY (by decide)) rfl d_M_clear_1 ?_
  refine j_istore_nN (lvf := [(0, .ref (yad Y 0))]) C d_M_clear_4 (by decide) rfl hf (fun v1 hf => ?_)
  refine j_aload_n C d_M_clear_5 1 rfl ?_
  refine j_iconst (v := 0) C d_M_clear_6 (by decide) ?_
  refine j_pI C fl_M_231 (kM hY rfl) (nM hY (by decide)) rfl rfl rfl d_M_clear_7 hf (fun μ2 hf => ?_)
  refine j_aload_n C d_M_clear_10 1 rfl ?_
  refine j_iconst (v := 0) C d_M_clear_11 (by decide) ?_
  refine j_pI C fl_M_234 (kM hY rfl) (nM hY (by decide)) rfl rfl rfl d_M_clear_12 hf (fun μ3 hf => ?_)
  refine j_iload_n C d_M_clear_15 0 rfl ?_
  obtain rfl := Option.some.inj hf
  exact j_iret C d_M_clear_16
theorem d_M_whip_0 : DC b_M_whip 0 (.iload_n 1) 1 1 := ⟨by decide +kernel, rfl⟩
theorem d_M_whip_1 : DC b_M_whip 1 (.i2l) 1 2 := ⟨by decide +kernel, rfl⟩
theorem d_M_whip_2 : DC b_M_whip 2 (.lconst 0) 1 3 := ⟨by decide +kernel, rfl⟩
theorem d_M_whip_3 : DC b_M_whip 3 (.ldc2_w 237) 3 6 := ⟨by decide +kernel, rfl⟩
theorem d_M_whip_6 : DC b_M_whip 6 (.invokestatic 164) 3 9 := ⟨by decide +kernel, rfl⟩
theorem d_M_whip_9 : DB b_M_whip 9 (.ifCond .eq 27) 27 36 12 := ⟨by decide +kernel, by decide, rfl⟩
theorem d_M_whip_12 : DC b_M_whip 12 (.iload_n 2) 1 13 := ⟨by decide +kernel, rfl⟩
theorem d_M_whip_13 : DC b_M_whip 13 (.i2l) 1 14 := ⟨by decide +kernel, rfl⟩
theorem d_M_whip_14 : DC b_M_whip 14 (.lconst 1) 1 15 := ⟨by decide +kernel, rfl⟩
theorem d_M_whip_15 : DC b_M_whip 15 (.ldc2_w 239) 3 18 := ⟨by decide +kernel, rfl⟩
theorem d_M_whip_18 : DC b_M_whip 18 (.invokestatic 164) 3 21 := ⟨by decide +kernel, rfl⟩
theorem d_M_whip_21 : DB b_M_whip 21 (.ifCond .eq 15) 15 36 24 := ⟨by decide +kernel, by decide, rfl⟩
theorem d_M_whip_24 : DC b_M_whip 24 (.iload_n 3) 1 25 := ⟨by decide +kernel, rfl⟩
theorem d_M_whip_25 : DC b_M_whip 25 (.i2l) 1 26 := ⟨by decide +kernel, rfl⟩
theorem d_M_whip_26 : DC b_M_whip 26 (.lconst 1) 1 27 := ⟨by decide +kernel, rfl⟩
theorem d_M_whip_27 : DC b_M_whip 27 (.ldc2_w 241) 3 30 := ⟨by decide +kernel, rfl⟩
theorem d_M_whip_30 : DC b_M_whip 30 (.invokestatic 164) 3 33 := ⟨by decide +kernel, rfl⟩
theorem d_M_whip_33 : DB b_M_whip 33 (.ifCond .ne 6) 6 39 36 := ⟨by decide +kernel, by decide, rfl⟩
theorem d_M_whip_36 : DC b_M_whip 36 (.bipush (-2)) 2 38 := ⟨by decide +kernel, rfl⟩
theorem d_M_whip_38 : decode b_M_whip 38 = .ok (.ireturn, 1) := by decide +kernel
theorem d_M_whip_39 : DC b_M_whip 39 (.aload_n 0) 1 40 := ⟨by decide +kernel, rfl⟩
theorem d_M_whip_40 : DC b_M_whip 40 (.getfield 234) 3 43 := ⟨by decide +kernel, rfl⟩
theorem d_M_whip_43 : DC b_M_whip 43 (.bipush 8) 2 45 := ⟨by decide +kernel, rfl⟩
theorem d_M_whip_45 : DB b_M_whip 45 (.if_icmp .ne 6) 6 51 48 := ⟨by decide +kernel, by decide, rfl⟩
theorem d_M_whip_48 : DC b_M_whip 48 (.bipush (-4)) 2 50 := ⟨by decide +kernel, rfl⟩
theorem d_M_whip_50 : decode b_M_whip 50 = .ok (.ireturn, 1) := by decide +kernel
theorem d_M_whip_51 : DC b_M_whip 51 (.aload_n 0) 1 52 := ⟨by decide +kernel, rfl⟩
theorem d_M_whip_52 : DC b_M_whip 52 (.getfield 65) 3 55 := ⟨by decide +kernel, rfl⟩
theorem d_M_whip_55 : DC b_M_whip 55 (.aload_n 0) 1 56 := ⟨by decide +kernel, rfl⟩
theorem d_M_whip_56 : DC b_M_whip 56 (.getfield 234) 3 59 := ⟨by decide +kernel, rfl⟩
theorem d_M_whip_59 : DC b_M_whip 59 (.iload_n 1) 1 60 := ⟨by decide +kernel, rfl⟩
theorem d_M_whip_60 : DC b_M_whip 60 (.iastore) 1 61 := ⟨by decide +kernel, rfl⟩
theorem d_M_whip_61 : DC b_M_whip 61 (.aload_n 0) 1 62 := ⟨by decide +kernel, rfl⟩
theorem d_M_whip_62 : DC b_M_whip 62 (.getfield 68) 3 65 := ⟨by decide +kernel, rfl⟩
theorem d_M_whip_65 : DC b_M_whip 65 (.aload_n 0) 1 66 := ⟨by decide +kernel, rfl⟩
theorem d_M_whip_66 : DC b_M_whip 66 (.getfield 234) 3 69 := ⟨by decide +kernel, rfl⟩
theorem d_M_whip_69 : DC b_M_whip 69 (.iload_n 2) 1 70 := ⟨by decide +kernel, rfl⟩
theorem d_M_whip_70 : DC b_M_whip 70 (.iastore) 1 71 := ⟨by decide +kernel, rfl⟩
theorem d_M_whip_71 : DC b_M_whip 71 (.aload_n 0) 1 72 := ⟨by decide +kernel, rfl⟩
theorem d_M_whip_72 : DC b_M_whip 72 (.getfield 71) 3 75 := ⟨by decide +kernel, rfl⟩
theorem d_M_whip_75 : DC b_M_whip 75 (.aload_n 0) 1 76 := ⟨by decide +kernel, rfl⟩
theorem d_M_whip_76 : DC b_M_whip 76 (.getfield 234) 3 79 := ⟨by decide +kernel, rfl⟩
theorem d_M_whip_79 : DC b_M_whip 79 (.iload_n 3) 1 80 := ⟨by decide +kernel, rfl⟩
theorem d_M_whip_80 : DC b_M_whip 80 (.iastore) 1 81 := ⟨by decide +kernel, rfl⟩
theorem d_M_whip_81 : DC b_M_whip 81 (.aload_n 0) 1 82 := ⟨by decide +kernel, rfl⟩
theorem d_M_whip_82 : DC b_M_whip 82 (.dup) 1 83 := ⟨by decide +kernel, rfl⟩
theorem d_M_whip_83 : DC b_M_whip 83 (.getfield 234) 3 86 := ⟨by decide +kernel, rfl⟩
theorem d_M_whip_86 : DC b_M_whip 86 (.iconst 1) 1 87 := ⟨by decide +kernel, rfl⟩
theorem d_M_whip_87 : DC b_M_whip 87 (.iadd) 1 88 := ⟨by decide +kernel, rfl⟩
theorem d_M_whip_88 : DC b_M_whip 88 (.putfield 234) 3 91 := ⟨by decide +kernel, rfl⟩
theorem d_M_whip_91 : DC b_M_whip 91 (.aload_n 0) 1 92 := ⟨by decide +kernel, rfl⟩
theorem d_M_whip_92 : DC b_M_whip 92 (.getfield 234) 3 95 := ⟨by decide +kernel, rfl⟩
theorem d_M_whip_95 : decode b_M_whip 95 = .ok (.ireturn, 1) := by decide +kernel
theorem c_M_whip {l : Launch} {Y : Lay} (hY : IsM Y) {μ : Mem} {x1 : Int32} {x2 : Int32} {x3 : Int32} {r : Int32 × Mem} (hf : f_M_whip μ x1 x2 x3 = some r) : Ct l Y y_M_whip b_M_whip 4 (some .int) 2 [.ref (yad Y 0), .int x1, .int x2, .int x3] (some (.int r.1)) μ r.2 := by
  refine ct_of (own := "TopYardModel") (lv := [(0, .ref (yad Y 0)), (1, .int x1), (2, .int x2), (3, .int x3)]) (by decide +kernel) rfl (Nat.le_of_ble_eq_true rfl) rfl (fun X hl C => ?_)
  subst hl
  unfold f_M_whip at hf
  refine j_iload_n C d_M_whip_0 1 rfl ?_
  refine j_i2l C d_M_whip_1 ?_
  refine j_lconst (v := 0) C d_M_whip_2 (by decide) ?_
  refine j_ldc2 (v := 3) C d_M_whip_3 wd_184 ?_
  refine bd hf (fun v1 hc13 hf => ?_)
  refine j_cS (rest := []) C lk_M_164 (c_M_in hY hc13) rfl (by decide) rfl (Nat.le_of_ble_eq_true rfl) d_M_whip_6 ?_
  refine j_if_eq C d_M_whip_9 hf (fun hf => ?_) (fun hf => ?_)
  · refine j_bipush (v := (-2)) C d_M_whip_36 (by decide) ?_
    obtain rfl := Option.some.inj hf
    exact j_iret C d_M_whip_38
  · refine j_iload_n C d_M_whip_12 2 rfl ?_
    refine j_i2l C d_M_whip_13 ?_
    refine j_lconst (v := 1) C d_M_whip_14 (by decide) ?_
    refine j_ldc2 (v := 400) C d_M_whip_15 wd_185 ?_
    refine bd hf (fun v2 hc12 hf => ?_)
    refine j_cS (rest := []) C lk_M_164 (c_M_in hY hc12) rfl (by decide) rfl (Nat.le_of_ble_eq_true rfl) d_M_whip_18 ?_
    refine j_if_eq C d_M_whip_21 hf (fun hf => ?_) (fun hf => ?_)
    · refine j_bipush (v := (-2)) C d_M_whip_36 (by decide) ?_
      obtain rfl := Option.some.inj hf
      exact j_iret C d_M_whip_38
    · refine j_iload_n C d_M_whip_24 3 rfl ?_
      refine j_i2l C d_M_whip_25 ?_
      refine j_lconst (v := 1) C d_M_whip_26 (by decide) ?_
      refine j_ldc2 (v := 100) C d_M_whip_27 wd_186 ?_
      refine bd hf (fun v3 hc11 hf => ?_)
      refine j_cS (rest := []) C lk_M_164 (c_M_in hY hc11) rfl (by decide) rfl (Nat.le_of_ble_eq_true rfl) d_M_whip_30 ?_
      refine j_if_ne C d_M_whip_33 hf (fun hf => ?_) (fun hf => ?_)
      · refine j_aload_n C d_M_whip_39 0 rfl ?_
        refine j_gI C fl_M_234 (kM hY rfl) (nM hY (by decide)) rfl d_M_whip_40 ?_
        refine j_bipush (v := 8) C d_M_whip_43 (by decide) ?_
        refine j_icmp_ne C d_M_whip_45 hf (fun hf => ?_) (fun hf => ?_)
        · refine j_aload_n C d_M_whip_51 0 rfl ?_
          refine j_gS (b := 17) C fl_M_65 (kM hY rfl) (nM hY (by decide)) rfl hY.2.2.2.1 rfl (sM hY rfl) d_M_whip_52 ?_
          refine j_aload_n C d_M_whip_55 0 rfl ?_
          refine j_gI C fl_M_234 (kM hY rfl) (nM hY (by decide)) rfl d_M_whip_56 ?_
          refine j_iload_n C d_M_whip_59 1 rfl ?_
          refine ck hf (fun hi4 hf => ?_)
          refine j_iast C (kM hY rfl) (nM hY (by decide)) (lM hY rfl) hi4 d_M_whip_60 hf (fun μ5 hf => ?_)
          refine j_aload_n C d_M_whip_61 0 rfl ?_
          refine j_gS (b := 18) C fl_M_68 (kM hY rfl) (nM hY (by decide)) rfl hY.2.2.2.1 rfl (sM hY rfl) d_M_whip_62 ?_
          refine j_aload_n C d_M_whip_65 0 rfl ?_
          refine j_gI C fl_M_234 (kM hY rfl) (nM hY (by decide)) rfl d_M_whip_66 ?_
          refine j_iload_n C d_M_whip_69 2 rfl ?_
          refine ck hf (fun hi6 hf => ?_)
          refine j_iast C (kM hY rfl) (nM hY (by decide)) (lM hY rfl) hi6 d_M_whip_70 hf (fun μ7 hf => ?_)
          refine j_aload_n C d_M_whip_71 0 rfl ?_
          refine j_gS (b := 19) C fl_M_71 (kM hY rfl) (nM hY (by decide)) rfl hY.2.2.2.1 rfl (sM hY rfl) d_M_whip_72 ?_
          refine j_aload_n C d_M_whip_75 0 rfl ?_
          refine j_gI C fl_M_234 (kM hY rfl) (nM hY (by decide)) rfl d_M_whip_76 ?_
          refine j_iload_n C d_M_whip_79 3 rfl ?_
          refine ck hf (fun hi8 hf => ?_)
          refine j_iast C (kM hY rfl) (nM hY (by decide)) (lM hY rfl) hi8 d_M_whip_80 hf (fun μ9 hf => ?_)
          refine j_aload_n C d_M_whip_81 0 rfl ?_
          refine j_dup C d_M_whip_82 rfl ?_
          refine j_gI C fl_M_234 (kM hY rfl) (nM hY (by decide)) rfl d_M_whip_83 ?_
          refine j_iconst (v := 1) C d_M_whip_86 (by decide) ?_
          refine j_iadd C d_M_whip_87 ?_
          refine j_pI C fl_M_234 (kM hY rfl) (nM hY (by decide)) rfl rfl rfl d_M_whip_88 hf (fun μ10 hf => ?_)
          refine j_aload_n C d_M_whip_91 0 rfl ?_
          refine j_gI C fl_M_234 (kM hY rfl) (nM hY (by decide)) rfl d_M_whip_92 ?_
          obtain rfl := Option.some.inj hf
          exact j_iret C d_M_whip_95
        · refine j_bipush (v := (-4)) C d_M_whip_48 (by decide) ?_
          obtain rfl := Option.some.inj hf
          exact j_iret C d_M_whip_50
      · refine j_bipush (v := (-2)) C d_M_whip_36 (by decide) ?_
        obtain rfl := Option.some.inj hf
        exact j_iret C d_M_whip_38
theorem d_M_begins_0 : DC b_M_begins 0 (.iload 6) 2 2 := ⟨by decide +kernel, rfl⟩
theorem d_M_begins_2 : DC b_M_begins 2 (.bipush 40) 2 4 := ⟨by decide +kernel, rfl⟩
theorem d_M_begins_4 : DC b_M_begins 4 (.iconst 2) 1 5 := ⟨by decide +kernel, rfl⟩
theorem d_M_begins_5 : DC b_M_begins 5 (.aload_n 0) 1 6 := ⟨by decide +kernel, rfl⟩
theorem d_M_begins_6 : DC b_M_begins 6 (.getfield 19) 3 9 := ⟨by decide +kernel, rfl⟩
theorem d_M_begins_9 : DC b_M_begins 9 (.iload_n 2) 1 10 := ⟨by decide +kernel, rfl⟩
theorem d_M_begins_10 : DC b_M_begins 10 (.iaload) 1 11 := ⟨by decide +kernel, rfl⟩
theorem d_M_begins_11 : DC b_M_begins 11 (.imul) 1 12 := ⟨by decide +kernel, rfl⟩
theorem d_M_begins_12 : DC b_M_begins 12 (.isub) 1 13 := ⟨by decide +kernel, rfl⟩
theorem d_M_begins_13 : DB b_M_begins 13 (.if_icmp .ge 8) 8 21 16 := ⟨by decide +kernel, by decide, rfl⟩
theorem d_M_begins_16 : DC b_M_begins 16 (.iload 6) 2 18 := ⟨by decide +kernel, rfl⟩
theorem d_M_begins_18 : DB b_M_begins 18 (.goto 14) 14 32 21 := ⟨by decide +kernel, by decide, rfl⟩
theorem d_M_begins_21 : DC b_M_begins 21 (.bipush 40) 2 23 := ⟨by decide +kernel, rfl⟩
theorem d_M_begins_23 : DC b_M_begins 23 (.iconst 2) 1 24 := ⟨by decide +kernel, rfl⟩
theorem d_M_begins_24 : DC b_M_begins 24 (.aload_n 0) 1 25 := ⟨by decide +kernel, rfl⟩
theorem d_M_begins_25 : DC b_M_begins 25 (.getfield 19) 3 28 := ⟨by decide +kernel, rfl⟩
theorem d_M_begins_28 : DC b_M_begins 28 (.iload_n 2) 1 29 := ⟨by decide +kernel, rfl⟩
theorem d_M_begins_29 : DC b_M_begins 29 (.iaload) 1 30 := ⟨by decide +kernel, rfl⟩
theorem d_M_begins_30 : DC b_M_begins 30 (.imul) 1 31 := ⟨by decide +kernel, rfl⟩
theorem d_M_begins_31 : DC b_M_begins 31 (.isub) 1 32 := ⟨by decide +kernel, rfl⟩
theorem d_M_begins_32 : DC b_M_begins 32 (.istore 7) 2 34 := ⟨by decide +kernel, rfl⟩
theorem d_M_begins_34 : DC b_M_begins 34 (.aload_n 0) 1 35 := ⟨by decide +kernel, rfl⟩
theorem d_M_begins_35 : DC b_M_begins 35 (.getfield 31) 3 38 := ⟨by decide +kernel, rfl⟩
theorem d_M_begins_38 : DC b_M_begins 38 (.aload_n 0) 1 39 := ⟨by decide +kernel, rfl⟩
theorem d_M_begins_39 : DC b_M_begins 39 (.getfield 25) 3 42 := ⟨by decide +kernel, rfl⟩
theorem d_M_begins_42 : DC b_M_begins 42 (.iload_n 2) 1 43 := ⟨by decide +kernel, rfl⟩
theorem d_M_begins_43 : DC b_M_begins 43 (.iaload) 1 44 := ⟨by decide +kernel, rfl⟩
theorem d_M_begins_44 : DC b_M_begins 44 (.iaload) 1 45 := ⟨by decide +kernel, rfl⟩
theorem d_M_begins_45 : DC b_M_begins 45 (.iload 7) 2 47 := ⟨by decide +kernel, rfl⟩
theorem d_M_begins_47 : DB b_M_begins 47 (.if_icmp .ge 17) 17 64 50 := ⟨by decide +kernel, by decide, rfl⟩
theorem d_M_begins_50 : DC b_M_begins 50 (.aload_n 0) 1 51 := ⟨by decide +kernel, rfl⟩
theorem d_M_begins_51 : DC b_M_begins 51 (.getfield 31) 3 54 := ⟨by decide +kernel, rfl⟩
theorem d_M_begins_54 : DC b_M_begins 54 (.aload_n 0) 1 55 := ⟨by decide +kernel, rfl⟩
theorem d_M_begins_55 : DC b_M_begins 55 (.getfield 25) 3 58 := ⟨by decide +kernel, rfl⟩
theorem d_M_begins_58 : DC b_M_begins 58 (.iload_n 2) 1 59 := ⟨by decide +kernel, rfl⟩
theorem d_M_begins_59 : DC b_M_begins 59 (.iaload) 1 60 := ⟨by decide +kernel, rfl⟩
theorem d_M_begins_60 : DC b_M_begins 60 (.iaload) 1 61 := ⟨by decide +kernel, rfl⟩
theorem d_M_begins_61 : DB b_M_begins 61 (.goto 5) 5 66 64 := ⟨by decide +kernel, by decide, rfl⟩
theorem d_M_begins_64 : DC b_M_begins 64 (.iload 7) 2 66 := ⟨by decide +kernel, rfl⟩
theorem d_M_begins_66 : DC b_M_begins 66 (.istore 7) 2 68 := ⟨by decide +kernel, rfl⟩
theorem d_M_begins_68 : DC b_M_begins 68 (.aload_n 0) 1 69 := ⟨by decide +kernel, rfl⟩
theorem d_M_begins_69 : DC b_M_begins 69 (.getfield 74) 3 72 := ⟨by decide +kernel, rfl⟩
theorem d_M_begins_72 : DC b_M_begins 72 (.iload_n 1) 1 73 := ⟨by decide +kernel, rfl⟩
theorem d_M_begins_73 : DC b_M_begins 73 (.iload_n 2) 1 74 := ⟨by decide +kernel, rfl⟩
theorem d_M_begins_74 : DC b_M_begins 74 (.iastore) 1 75 := ⟨by decide +kernel, rfl⟩
theorem d_M_begins_75 : DC b_M_begins 75 (.aload_n 0) 1 76 := ⟨by decide +kernel, rfl⟩
theorem d_M_begins_76 : DC b_M_begins 76 (.getfield 77) 3 79 := ⟨by decide +kernel, rfl⟩
theorem d_M_begins_79 : DC b_M_begins 79 (.iload_n 1) 1 80 := ⟨by decide +kernel, rfl⟩
theorem d_M_begins_80 : DC b_M_begins 80 (.ldc2_w 243) 3 83 := ⟨by decide +kernel, rfl⟩
theorem d_M_begins_83 : DC b_M_begins 83 (.iload_n 3) 1 84 := ⟨by decide +kernel, rfl⟩
theorem d_M_begins_84 : DC b_M_begins 84 (.i2l) 1 85 := ⟨by decide +kernel, rfl⟩
theorem d_M_begins_85 : DC b_M_begins 85 (.lmul) 1 86 := ⟨by decide +kernel, rfl⟩
theorem d_M_begins_86 : DC b_M_begins 86 (.lastore) 1 87 := ⟨by decide +kernel, rfl⟩
theorem d_M_begins_87 : DC b_M_begins 87 (.aload_n 0) 1 88 := ⟨by decide +kernel, rfl⟩
theorem d_M_begins_88 : DC b_M_begins 88 (.getfield 81) 3 91 := ⟨by decide +kernel, rfl⟩
theorem d_M_begins_91 : DC b_M_begins 91 (.iload_n 1) 1 92 := ⟨by decide +kernel, rfl⟩
theorem d_M_begins_92 : DC b_M_begins 92 (.ldc2_w 243) 3 95 := ⟨by decide +kernel, rfl⟩
theorem d_M_begins_95 : DC b_M_begins 95 (.iload 4) 2 97 := ⟨by decide +kernel, rfl⟩
theorem d_M_begins_97 : DC b_M_begins 97 (.i2l) 1 98 := ⟨by decide +kernel, rfl⟩
theorem d_M_begins_98 : DC b_M_begins 98 (.lmul) 1 99 := ⟨by decide +kernel, rfl⟩
theorem d_M_begins_99 : DC b_M_begins 99 (.lastore) 1 100 := ⟨by decide +kernel, rfl⟩
theorem d_M_begins_100 : DC b_M_begins 100 (.aload_n 0) 1 101 := ⟨by decide +kernel, rfl⟩
theorem d_M_begins_101 : DC b_M_begins 101 (.getfield 84) 3 104 := ⟨by decide +kernel, rfl⟩
theorem d_M_begins_104 : DC b_M_begins 104 (.iload_n 1) 1 105 := ⟨by decide +kernel, rfl⟩
theorem d_M_begins_105 : DC b_M_begins 105 (.iload 5) 2 107 := ⟨by decide +kernel, rfl⟩
theorem d_M_begins_107 : DC b_M_begins 107 (.iastore) 1 108 := ⟨by decide +kernel, rfl⟩
theorem d_M_begins_108 : DC b_M_begins 108 (.aload_n 0) 1 109 := ⟨by decide +kernel, rfl⟩
theorem d_M_begins_109 : DC b_M_begins 109 (.getfield 87) 3 112 := ⟨by decide +kernel, rfl⟩
theorem d_M_begins_112 : DC b_M_begins 112 (.iload_n 1) 1 113 := ⟨by decide +kernel, rfl⟩
theorem d_M_begins_113 : DC b_M_begins 113 (.aload_n 0) 1 114 := ⟨by decide +kernel, rfl⟩
theorem d_M_begins_114 : DC b_M_begins 114 (.getfield 13) 3 117 := ⟨by decide +kernel, rfl⟩
theorem d_M_begins_117 : DC b_M_begins 117 (.iload_n 2) 1 118 := ⟨by decide +kernel, rfl⟩
theorem d_M_begins_118 : DC b_M_begins 118 (.iaload) 1 119 := ⟨by decide +kernel, rfl⟩
theorem d_M_begins_119 : DC b_M_begins 119 (.i2l) 1 120 := ⟨by decide +kernel, rfl⟩
theorem d_M_begins_120 : DC b_M_begins 120 (.aload_n 0) 1 121 := ⟨by decide +kernel, rfl⟩
theorem d_M_begins_121 : DC b_M_begins 121 (.iload 5) 2 123 := ⟨by decide +kernel, rfl⟩
theorem d_M_begins_123 : DC b_M_begins 123 (.invokevirtual 168) 3 126 := ⟨by decide +kernel, rfl⟩
theorem d_M_begins_126 : DC b_M_begins 126 (.i2l) 1 127 := ⟨by decide +kernel, rfl⟩
theorem d_M_begins_127 : DC b_M_begins 127 (.lmul) 1 128 := ⟨by decide +kernel, rfl⟩
theorem d_M_begins_128 : DC b_M_begins 128 (.lastore) 1 129 := ⟨by decide +kernel, rfl⟩
theorem d_M_begins_129 : DC b_M_begins 129 (.aload_n 0) 1 130 := ⟨by decide +kernel, rfl⟩
theorem d_M_begins_130 : DC b_M_begins 130 (.getfield 90) 3 133 := ⟨by decide +kernel, rfl⟩
theorem d_M_begins_133 : DC b_M_begins 133 (.iload_n 1) 1 134 := ⟨by decide +kernel, rfl⟩
theorem d_M_begins_134 : DC b_M_begins 134 (.aload_n 0) 1 135 := ⟨by decide +kernel, rfl⟩
theorem d_M_begins_135 : DC b_M_begins 135 (.getfield 13) 3 138 := ⟨by decide +kernel, rfl⟩
theorem d_M_begins_138 : DC b_M_begins 138 (.iload_n 2) 1 139 := ⟨by decide +kernel, rfl⟩
theorem d_M_begins_139 : DC b_M_begins 139 (.iaload) 1 140 := ⟨by decide +kernel, rfl⟩
theorem d_M_begins_140 : DC b_M_begins 140 (.i2l) 1 141 := ⟨by decide +kernel, rfl⟩
theorem d_M_begins_141 : DC b_M_begins 141 (.aload_n 0) 1 142 := ⟨by decide +kernel, rfl⟩
theorem d_M_begins_142 : DC b_M_begins 142 (.iload 5) 2 144 := ⟨by decide +kernel, rfl⟩
theorem d_M_begins_144 : DC b_M_begins 144 (.invokevirtual 172) 3 147 := ⟨by decide +kernel, rfl⟩
theorem d_M_begins_147 : DC b_M_begins 147 (.i2l) 1 148 := ⟨by decide +kernel, rfl⟩
theorem d_M_begins_148 : DC b_M_begins 148 (.lmul) 1 149 := ⟨by decide +kernel, rfl⟩
theorem d_M_begins_149 : DC b_M_begins 149 (.lastore) 1 150 := ⟨by decide +kernel, rfl⟩
theorem d_M_begins_150 : DC b_M_begins 150 (.aload_n 0) 1 151 := ⟨by decide +kernel, rfl⟩
theorem d_M_begins_151 : DC b_M_begins 151 (.getfield 93) 3 154 := ⟨by decide +kernel, rfl⟩
theorem d_M_begins_154 : DC b_M_begins 154 (.iload_n 1) 1 155 := ⟨by decide +kernel, rfl⟩
theorem d_M_begins_155 : DC b_M_begins 155 (.bipush 10) 2 157 := ⟨by decide +kernel, rfl⟩
theorem d_M_begins_157 : DC b_M_begins 157 (.iload 7) 2 159 := ⟨by decide +kernel, rfl⟩
theorem d_M_begins_159 : DC b_M_begins 159 (.imul) 1 160 := ⟨by decide +kernel, rfl⟩
theorem d_M_begins_160 : DC b_M_begins 160 (.iastore) 1 161 := ⟨by decide +kernel, rfl⟩
theorem d_M_begins_161 : DC b_M_begins 161 (.aload_n 0) 1 162 := ⟨by decide +kernel, rfl⟩
theorem d_M_begins_162 : DC b_M_begins 162 (.getfield 96) 3 165 := ⟨by decide +kernel, rfl⟩
theorem d_M_begins_165 : DC b_M_begins 165 (.iload_n 1) 1 166 := ⟨by decide +kernel, rfl⟩
theorem d_M_begins_166 : DC b_M_begins 166 (.aload_n 0) 1 167 := ⟨by decide +kernel, rfl⟩
theorem d_M_begins_167 : DC b_M_begins 167 (.getfield 28) 3 170 := ⟨by decide +kernel, rfl⟩
theorem d_M_begins_170 : DC b_M_begins 170 (.iload_n 2) 1 171 := ⟨by decide +kernel, rfl⟩
theorem d_M_begins_171 : DC b_M_begins 171 (.iaload) 1 172 := ⟨by decide +kernel, rfl⟩
theorem d_M_begins_172 : DC b_M_begins 172 (.iconst 4) 1 173 := ⟨by decide +kernel, rfl⟩
theorem d_M_begins_173 : DB b_M_begins 173 (.if_icmp .ge 12) 12 185 176 := ⟨by decide +kernel, by decide, rfl⟩
theorem d_M_begins_176 : DC b_M_begins 176 (.aload_n 0) 1 177 := ⟨by decide +kernel, rfl⟩
theorem d_M_begins_177 : DC b_M_begins 177 (.getfield 28) 3 180 := ⟨by decide +kernel, rfl⟩
theorem d_M_begins_180 : DC b_M_begins 180 (.iload_n 2) 1 181 := ⟨by decide +kernel, rfl⟩
theorem d_M_begins_181 : DC b_M_begins 181 (.iaload) 1 182 := ⟨by decide +kernel, rfl⟩
theorem d_M_begins_182 : DB b_M_begins 182 (.goto 4) 4 186 185 := ⟨by decide +kernel, by decide, rfl⟩
theorem d_M_begins_185 : DC b_M_begins 185 (.iconst 4) 1 186 := ⟨by decide +kernel, rfl⟩
theorem d_M_begins_186 : DC b_M_begins 186 (.iastore) 1 187 := ⟨by decide +kernel, rfl⟩
theorem d_M_begins_187 : DC b_M_begins 187 (.aload_n 0) 1 188 := ⟨by decide +kernel, rfl⟩
theorem d_M_begins_188 : DC b_M_begins 188 (.getfield 99) 3 191 := ⟨by decide +kernel, rfl⟩
theorem d_M_begins_191 : DC b_M_begins 191 (.iload_n 1) 1 192 := ⟨by decide +kernel, rfl⟩
theorem d_M_begins_192 : DC b_M_begins 192 (.iconst 0) 1 193 := ⟨by decide +kernel, rfl⟩
theorem d_M_begins_193 : DC b_M_begins 193 (.iastore) 1 194 := ⟨by decide +kernel, rfl⟩
theorem d_M_begins_194 : decode b_M_begins 194 = .ok (.return_, 1) := by decide +kernel
theorem w_M_begins_b186 {X : Ctx} {Y : Lay} (hY : IsM Y) (C : Cx X Y b_M_begins 8 none "TopYardModel" 2) {r : Mem} (x1 : Int32) (xs0 : Int32) (xs1 : Int32) (μ : Mem) (hf : f_M_begins_b186 x1 xs0 xs1 μ = some r) : J X Y none r 8 186 [(0, .ref (yad Y 0)), (1, .int x1)] [.int xs0, .int xs1, .ref (yad Y 27)] μ := by
  unfold f_M_begins_b186 at hf
  refine ck hf (fun hi1 hf => ?_)
  refine j_iast C (kM hY rfl) (nM hY (by decide)) (lM hY rfl) hi1 d_M_begins_186 hf (fun μ2 hf => ?_)
  refine j_aload_n C d_M_begins_187 0 rfl ?_
  refine j_gS (b := 28) C fl_M_99 (kM hY rfl) (nM hY (by decide)) rfl hY.2.2.2.1 rfl (sM hY rfl) d_M_begins_188 ?_
  refine j_iload_n C d_M_begins_191 1 rfl ?_
  refine j_iconst (v := 0) C d_M_begins_192 (by decide) ?_
  refine ck hf (fun hi3 hf => ?_)
  refine j_iast C (kM hY rfl) (nM hY (by decide)) (lM hY rfl) hi3 d_M_begins_193 hf (fun μ4 hf => ?_)
  obtain rfl := Option.some.inj hf
  exact j_vret C d_M_begins_194
theorem w_M_begins_b66 {X : Ctx} {Y : Lay} (hY : IsM Y) (C : Cx X Y b_M_begins 8 none "TopYardModel" 2) {r : Mem} (x1 : Int32) (x2 : Int32) (x3 : Int32) (x4 : Int32) (x5 : Int32) (xs0 : Int32) (μ : Mem) (hf : f_M_begins_b66 x1 x2 x3 x4 x5 xs0 μ = some r) : J X Y none r 8 66 [(0, .ref (yad Y 0)), (1, .int x1), (2, .int x2), (3, .int x3), (4, .int x4), (5, .int x5)] [.int xs0] μ := by
  unfold f_M_begins_b66 at hf
  refine j_istore (lvf := [(0, .ref (yad Y 0)), (1, .int x1), (2, .int x2), (3, .int x3), (4, .int x4), (5, .int x5)]) C d_M_begins_66 (by decide) rfl ?_
  refine j_aload_n C d_M_begins_68 1 rfl ?_
  refine j_gS (b := 20) C fl_M_74 (kM hY rfl) (nM hY (by decide)) rfl hY.2.2.2.1 rfl (sM hY rfl) d_M_begins_69 ?_
  refine j_iload_n C d_M_begins_72 2 rfl ?_
  refine j_iload_n C d_M_begins_73 3 rfl ?_
  refine ck hf (fun hi1 hf => ?_)
  refine j_iast C (kM hY rfl) (nM hY (by decide)) (lM hY rfl) hi1 d_M_begins_74 hf (fun μ2 hf => ?_)
  refine j_aload_n C d_M_begins_75 1 rfl ?_
  refine j_gS (b := 21) C fl_M_77 (kM hY rfl) (nM hY (by decide)) rfl hY.2.2.2.1 rfl (sM hY rfl) d_M_begins_76 ?_
  refine j_iload_n C d_M_begins_79 2 rfl ?_
  refine j_ldc2 (v := 65) C d_M_begins_80 wd_192 ?_
  refine j_iload_n C d_M_begins_83 4 rfl ?_
  refine j_i2l C d_M_begins_84 ?_
  refine j_lmul C d_M_begins_85 ?_
  refine ck hf (fun hi3 hf => ?_)
  refine j_last C (kM hY rfl) (nM hY (by decide)) (lM hY rfl) hi3 d_M_begins_86 hf (fun μ4 hf => ?_)
  refine j_aload_n C d_M_begins_87 1 rfl ?_
  refine j_gS (b := 22) C fl_M_81 (kM hY rfl) (nM hY (by decide)) rfl hY.2.2.2.1 rfl (sM hY rfl) d_M_begins_88 ?_
  refine j_iload_n C d_M_begins_91 2 rfl ?_
  refine j_ldc2 (v := 65) C d_M_begins_92 wd_192 ?_
  refine j_iload C d_M_begins_95 5 rfl ?_
  refine j_i2l C d_M_begins_97 ?_
  refine j_lmul C d_M_begins_98 ?_
  refine ck hf (fun hi5 hf => ?_)
  refine j_last C (kM hY rfl) (nM hY (by decide)) (lM hY rfl) hi5 d_M_begins_99 hf (fun μ6 hf => ?_)
  refine j_aload_n C d_M_begins_100 1 rfl ?_
  refine j_gS (b := 23) C fl_M_84 (kM hY rfl) (nM hY (by decide)) rfl hY.2.2.2.1 rfl (sM hY rfl) d_M_begins_101 ?_
  refine j_iload_n C d_M_begins_104 2 rfl ?_
  refine j_iload C d_M_begins_105 6 rfl ?_
  refine ck hf (fun hi7 hf => ?_)
  refine j_iast C (kM hY rfl) (nM hY (by decide)) (lM hY rfl) hi7 d_M_begins_107 hf (fun μ8 hf => ?_)
  refine j_aload_n C d_M_begins_108 1 rfl ?_
  refine j_gS (b := 24) C fl_M_87 (kM hY rfl) (nM hY (by decide)) rfl hY.2.2.2.1 rfl (sM hY rfl) d_M_begins_109 ?_
  refine j_iload_n C d_M_begins_112 2 rfl ?_
  refine j_aload_n C d_M_begins_113 1 rfl ?_
  refine j_gS (b := 2) C fl_M_13 (kM hY rfl) (nM hY (by decide)) rfl hY.2.2.2.1 rfl (sM hY rfl) d_M_begins_114 ?_
  refine j_iload_n C d_M_begins_117 3 rfl ?_
  refine ck hf (fun hi9 hf => ?_)
  refine j_iald C (kM hY rfl) (nM hY (by decide)) (lM hY rfl) hi9 d_M_begins_118 ?_
  refine j_i2l C d_M_begins_119 ?_
  refine j_aload_n C d_M_begins_120 1 rfl ?_
  refine j_iload C d_M_begins_121 6 rfl ?_
  refine bd hf (fun v10 hc22 hf => ?_)
  refine j_cV (rest := [.long ((gI μ8 2 (ix x2)).toInt64), .int x1, .ref (yad Y 24)]) C lk_M_168 (c_M_c hY hc22) rfl (kM hY rfl) (nM hY (by decide)) (by decide) rfl rfl (by decide) rfl (Nat.le_of_ble_eq_true rfl) d_M_begins_123 ?_
  refine j_i2l C d_M_begins_126 ?_
  refine j_lmul C d_M_begins_127 ?_
  refine ck hf (fun hi11 hf => ?_)
  refine j_last C (kM hY rfl) (nM hY (by decide)) (lM hY rfl) hi11 d_M_begins_128 hf (fun μ12 hf => ?_)
  refine j_aload_n C d_M_begins_129 1 rfl ?_
  refine j_gS (b := 25) C fl_M_90 (kM hY rfl) (nM hY (by decide)) rfl hY.2.2.2.1 rfl (sM hY rfl) d_M_begins_130 ?_
  refine j_iload_n C d_M_begins_133 2 rfl ?_
  refine j_aload_n C d_M_begins_134 1 rfl ?_
  refine j_gS (b := 2) C fl_M_13 (kM hY rfl) (nM hY (by decide)) rfl hY.2.2.2.1 rfl (sM hY rfl) d_M_begins_135 ?_
  refine j_iload_n C d_M_begins_138 3 rfl ?_
  refine ck hf (fun hi13 hf => ?_)
  refine j_iald C (kM hY rfl) (nM hY (by decide)) (lM hY rfl) hi13 d_M_begins_139 ?_
  refine j_i2l C d_M_begins_140 ?_
  refine j_aload_n C d_M_begins_141 1 rfl ?_
  refine j_iload C d_M_begins_142 6 rfl ?_
  refine bd hf (fun v14 hc21 hf => ?_)
  refine j_cV (rest := [.long ((gI μ12 2 (ix x2)).toInt64), .int x1, .ref (yad Y 25)]) C lk_M_172 (c_M_s hY hc21) rfl (kM hY rfl) (nM hY (by decide)) (by decide) rfl rfl (by decide) rfl (Nat.le_of_ble_eq_true rfl) d_M_begins_144 ?_
  refine j_i2l C d_M_begins_147 ?_
  refine j_lmul C d_M_begins_148 ?_
  refine ck hf (fun hi15 hf => ?_)
  refine j_last C (kM hY rfl) (nM hY (by decide)) (lM hY rfl) hi15 d_M_begins_149 hf (fun μ16 hf => ?_)
  refine j_aload_n C d_M_begins_150 1 rfl ?_
  refine j_gS (b := 26) C fl_M_93 (kM hY rfl) (nM hY (by decide)) rfl hY.2.2.2.1 rfl (sM hY rfl) d_M_begins_151 ?_
  refine j_iload_n C d_M_begins_154 2 rfl ?_
  refine j_bipush (v := 10) C d_M_begins_155 (by decide) ?_
  refine j_iload C d_M_begins_157 0 rfl ?_
  refine j_imul C d_M_begins_159 ?_
  refine ck hf (fun hi17 hf => ?_)
  refine j_iast C (kM hY rfl) (nM hY (by decide)) (lM hY rfl) hi17 d_M_begins_160 hf (fun μ18 hf => ?_)
  refine j_aload_n C d_M_begins_161 1 rfl ?_
  refine j_gS (b := 27) C fl_M_96 (kM hY rfl) (nM hY (by decide)) rfl hY.2.2.2.1 rfl (sM hY rfl) d_M_begins_162 ?_
  refine j_iload_n C d_M_begins_165 2 rfl ?_
  refine j_aload_n C d_M_begins_166 1 rfl ?_
  refine j_gS (b := 7) C fl_M_28 (kM hY rfl) (nM hY (by decide)) rfl hY.2.2.2.1 rfl (sM hY rfl) d_M_begins_167 ?_
  refine j_iload_n C d_M_begins_170 3 rfl ?_
  refine ck hf (fun hi19 hf => ?_)
  refine j_iald C (kM hY rfl) (nM hY (by decide)) (lM hY rfl) hi19 d_M_begins_171 ?_
  refine j_iconst (v := 4) C d_M_begins_172 (by decide) ?_
  refine j_icmp_ge C d_M_begins_173 hf (fun hf => ?_) (fun hf => ?_)
  · refine j_iconst (v := 4) C d_M_begins_185 (by decide) ?_
    refine j_sub [1, 2] rfl ?_
    exact w_M_begins_b186 hY C x1 4 x1 μ18 hf
  · refine j_aload_n C d_M_begins_176 1 rfl ?_
    refine j_gS (b := 7) C fl_M_28 (kM hY rfl) (nM hY (by decide)) rfl hY.2.2.2.1 rfl (sM hY rfl) d_M_begins_177 ?_
    refine j_iload_n C d_M_begins_180 3 rfl ?_
    refine ck hf (fun hi20 hf => ?_)
    refine j_iald C (kM hY rfl) (nM hY (by decide)) (lM hY rfl) hi20 d_M_begins_181 ?_
    refine j_goto C d_M_begins_182 ?_
    refine j_sub [1, 2] rfl ?_
    exact w_M_begins_b186 hY C x1 (gI μ18 7 (ix x2)) x1 μ18 hf
theorem w_M_begins_b32 {X : Ctx} {Y : Lay} (hY : IsM Y) (C : Cx X Y b_M_begins 8 none "TopYardModel" 2) {r : Mem} (x1 : Int32) (x2 : Int32) (x3 : Int32) (x4 : Int32) (x5 : Int32) (xs0 : Int32) (μ : Mem) (hf : f_M_begins_b32 x1 x2 x3 x4 x5 xs0 μ = some r) : J X Y none r 8 32 [(0, .ref (yad Y 0)), (1, .int x1), (2, .int x2), (3, .int x3), (4, .int x4), (5, .int x5)] [.int xs0] μ := by
  unfold f_M_begins_b32 at hf
  refine j_istore (lvf := [(0, .ref (yad Y 0)), (1, .int x1), (2, .int x2), (3, .int x3), (4, .int x4), (5, .int x5)]) C d_M_begins_32 (by decide) rfl ?_
  refine j_aload_n C d_M_begins_34 1 rfl ?_
  refine j_gS (b := 8) C fl_M_31 (kM hY rfl) (nM hY (by decide)) rfl hY.2.2.2.1 rfl (sM hY rfl) d_M_begins_35 ?_
  refine j_aload_n C d_M_begins_38 1 rfl ?_
  refine j_gS (b := 6) C fl_M_25 (kM hY rfl) (nM hY (by decide)) rfl hY.2.2.2.1 rfl (sM hY rfl) d_M_begins_39 ?_
  refine j_iload_n C d_M_begins_42 3 rfl ?_
  refine ck hf (fun hi1 hf => ?_)
  refine j_iald C (kM hY rfl) (nM hY (by decide)) (lM hY rfl) hi1 d_M_begins_43 ?_
  refine ck hf (fun hi2 hf => ?_)
  refine j_iald C (kM hY rfl) (nM hY (by decide)) (lM hY rfl) hi2 d_M_begins_44 ?_
  refine j_iload C d_M_begins_45 0 rfl ?_
  refine j_icmp_ge C d_M_begins_47 hf (fun hf => ?_) (fun hf => ?_)
  · refine j_iload C d_M_begins_64 0 rfl ?_
    refine j_sub [1, 2, 3, 4, 5, 6] rfl ?_
    exact w_M_begins_b66 hY C x1 x2 x3 x4 x5 xs0 μ hf
  · refine j_aload_n C d_M_begins_50 1 rfl ?_
    refine j_gS (b := 8) C fl_M_31 (kM hY rfl) (nM hY (by decide)) rfl hY.2.2.2.1 rfl (sM hY rfl) d_M_begins_51 ?_
    refine j_aload_n C d_M_begins_54 1 rfl ?_
    refine j_gS (b := 6) C fl_M_25 (kM hY rfl) (nM hY (by decide)) rfl hY.2.2.2.1 rfl (sM hY rfl) d_M_begins_55 ?_
    refine j_iload_n C d_M_begins_58 3 rfl ?_
    refine ck hf (fun hi3 hf => ?_)
    refine j_iald C (kM hY rfl) (nM hY (by decide)) (lM hY rfl) hi3 d_M_begins_59 ?_
    refine ck hf (fun hi4 hf => ?_)
    refine j_iald C (kM hY rfl) (nM hY (by decide)) (lM hY rfl) hi4 d_M_begins_60 ?_
    refine j_goto C d_M_begins_61 ?_
    refine j_sub [1, 2, 3, 4, 5, 6] rfl ?_
    exact w_M_begins_b66 hY C x1 x2 x3 x4 x5 (gI μ 8 (ix (gI μ 6 (ix x2)))) μ hf
theorem c_M_begins {l : Launch} {Y : Lay} (hY : IsM Y) {μ : Mem} {x1 : Int32} {x2 : Int32} {x3 : Int32} {x4 : Int32} {x5 : Int32} {x6 : Int32} {r : Mem} (hf : f_M_begins μ x1 x2 x3 x4 x5 x6 = some r) : Ct l Y y_M_begins b_M_begins 8 none 2 [.ref (yad Y 0), .int x1, .int x2, .int x3, .int x4, .int x5, .int x6] none μ r := by
  refine ct_of (own := "TopYardModel") (lv := [(0, .ref (yad Y 0)), (1, .int x1), (2, .int x2), (3, .int x3), (4, .int x4), (5, .int x5), (6, .int x6)]) (by decide +kernel) rfl (Nat.le_of_ble_eq_true rfl) rfl (fun X hl C => ?_)
  subst hl
  unfold f_M_begins at hf
  refine j_iload C d_M_begins_0 6 rfl ?_
  refine j_bipush (v := 40) C d_M_begins_2 (by decide) ?_
  refine j_iconst (v := 2) C d_M_begins_4 (by decide) ?_
  refine j_aload_n C d_M_begins_5 0 rfl ?_
  refine j_gS (b := 4) C fl_M_19 (kM hY rfl) (nM hY (by decide)) rfl hY.2.2.2.1 rfl (sM hY rfl) d_M_begins_6 ?_
  refine j_iload_n C d_M_begins_9 2 rfl ?_
  refine ck hf (fun hi1 hf => ?_)
  refine j_iald C (kM hY rfl) (nM hY (by decide)) (lM hY rfl) hi1 d_M_begins_10 ?_
  refine j_imul C d_M_begins_11 ?_
  refine j_isub C d_M_begins_12 ?_
  refine j_icmp_ge C d_M_begins_13 hf (fun hf => ?_) (fun hf => ?_)
  · refine j_bipush (v := 40) C d_M_begins_21 (by decide) ?_
    refine j_iconst (v := 2) C d_M_begins_23 (by decide) ?_
    refine j_aload_n C d_M_begins_24 0 rfl ?_
    refine j_gS (b := 4) C fl_M_19 (kM hY rfl) (nM hY (by decide)) rfl hY.2.2.2.1 rfl (sM hY rfl) d_M_begins_25 ?_
    refine j_iload_n C d_M_begins_28 2 rfl ?_
    refine ck hf (fun hi2 hf => ?_)
    refine j_iald C (kM hY rfl) (nM hY (by decide)) (lM hY rfl) hi2 d_M_begins_29 ?_
    refine j_imul C d_M_begins_30 ?_
    refine j_isub C d_M_begins_31 ?_
    refine j_sub [0, 1, 2, 3, 4, 5] rfl ?_
    exact w_M_begins_b32 hY C x1 x2 x3 x4 x5 ((40 : Int32) - ((2 : Int32) * (gI μ 4 (ix x2)))) μ hf
  · refine j_iload C d_M_begins_16 6 rfl ?_
    refine j_goto C d_M_begins_18 ?_
    refine j_sub [0, 1, 2, 3, 4, 5] rfl ?_
    exact w_M_begins_b32 hY C x1 x2 x3 x4 x5 x6 μ hf

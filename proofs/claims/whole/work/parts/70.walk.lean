theorem d_M_sheet_0 : DC b_M_sheet 0 (.iload_n 1) 1 1 := ⟨by decide +kernel, rfl⟩
theorem d_M_sheet_1 : DC b_M_sheet 1 (.invokestatic 359) 3 4 := ⟨by decide +kernel, rfl⟩
theorem d_M_sheet_4 : DB b_M_sheet 4 (.ifCond .eq 21) 21 25 7 := ⟨by decide +kernel, by decide, rfl⟩
theorem d_M_sheet_7 : DC b_M_sheet 7 (.iload_n 2) 1 8 := ⟨by decide +kernel, rfl⟩
theorem d_M_sheet_8 : DC b_M_sheet 8 (.i2l) 1 9 := ⟨by decide +kernel, rfl⟩
theorem d_M_sheet_9 : DC b_M_sheet 9 (.lconst 0) 1 10 := ⟨by decide +kernel, rfl⟩
theorem d_M_sheet_10 : DC b_M_sheet 10 (.ldc2_w 216) 3 13 := ⟨by decide +kernel, rfl⟩
theorem d_M_sheet_13 : DC b_M_sheet 13 (.invokestatic 164) 3 16 := ⟨by decide +kernel, rfl⟩
theorem d_M_sheet_16 : DB b_M_sheet 16 (.ifCond .eq 9) 9 25 19 := ⟨by decide +kernel, by decide, rfl⟩
theorem d_M_sheet_19 : DC b_M_sheet 19 (.iload_n 3) 1 20 := ⟨by decide +kernel, rfl⟩
theorem d_M_sheet_20 : DC b_M_sheet 20 (.bipush 120) 2 22 := ⟨by decide +kernel, rfl⟩
theorem d_M_sheet_22 : DB b_M_sheet 22 (.if_icmp .le 6) 6 28 25 := ⟨by decide +kernel, by decide, rfl⟩
theorem d_M_sheet_25 : DC b_M_sheet 25 (.bipush (-2)) 2 27 := ⟨by decide +kernel, rfl⟩
theorem d_M_sheet_27 : decode b_M_sheet 27 = .ok (.ireturn, 1) := by decide +kernel
theorem d_M_sheet_28 : DC b_M_sheet 28 (.iload_n 3) 1 29 := ⟨by decide +kernel, rfl⟩
theorem d_M_sheet_29 : DB b_M_sheet 29 (.ifCond .ge 9) 9 38 32 := ⟨by decide +kernel, by decide, rfl⟩
theorem d_M_sheet_32 : DC b_M_sheet 32 (.aload_n 0) 1 33 := ⟨by decide +kernel, rfl⟩
theorem d_M_sheet_33 : DC b_M_sheet 33 (.iconst 5) 1 34 := ⟨by decide +kernel, rfl⟩
theorem d_M_sheet_34 : DC b_M_sheet 34 (.invokevirtual 362) 3 37 := ⟨by decide +kernel, rfl⟩
theorem d_M_sheet_37 : decode b_M_sheet 37 = .ok (.ireturn, 1) := by decide +kernel
theorem d_M_sheet_38 : DC b_M_sheet 38 (.aload_n 0) 1 39 := ⟨by decide +kernel, rfl⟩
theorem d_M_sheet_39 : DC b_M_sheet 39 (.getfield 150) 3 42 := ⟨by decide +kernel, rfl⟩
theorem d_M_sheet_42 : DC b_M_sheet 42 (.iload_n 1) 1 43 := ⟨by decide +kernel, rfl⟩
theorem d_M_sheet_43 : DC b_M_sheet 43 (.iload_n 2) 1 44 := ⟨by decide +kernel, rfl⟩
theorem d_M_sheet_44 : DC b_M_sheet 44 (.iastore) 1 45 := ⟨by decide +kernel, rfl⟩
theorem d_M_sheet_45 : DC b_M_sheet 45 (.aload_n 0) 1 46 := ⟨by decide +kernel, rfl⟩
theorem d_M_sheet_46 : DC b_M_sheet 46 (.getfield 153) 3 49 := ⟨by decide +kernel, rfl⟩
theorem d_M_sheet_49 : DC b_M_sheet 49 (.iload_n 1) 1 50 := ⟨by decide +kernel, rfl⟩
theorem d_M_sheet_50 : DC b_M_sheet 50 (.iload_n 3) 1 51 := ⟨by decide +kernel, rfl⟩
theorem d_M_sheet_51 : DC b_M_sheet 51 (.iastore) 1 52 := ⟨by decide +kernel, rfl⟩
theorem d_M_sheet_52 : DC b_M_sheet 52 (.iconst 0) 1 53 := ⟨by decide +kernel, rfl⟩
theorem d_M_sheet_53 : DC b_M_sheet 53 (.istore 4) 2 55 := ⟨by decide +kernel, rfl⟩
theorem d_M_sheet_55 : DC b_M_sheet 55 (.iload 4) 2 57 := ⟨by decide +kernel, rfl⟩
theorem d_M_sheet_57 : DC b_M_sheet 57 (.iload_n 3) 1 58 := ⟨by decide +kernel, rfl⟩
theorem d_M_sheet_58 : DB b_M_sheet 58 (.if_icmp .ge 22) 22 80 61 := ⟨by decide +kernel, by decide, rfl⟩
theorem d_M_sheet_61 : DC b_M_sheet 61 (.aload_n 0) 1 62 := ⟨by decide +kernel, rfl⟩
theorem d_M_sheet_62 : DC b_M_sheet 62 (.getfield 156) 3 65 := ⟨by decide +kernel, rfl⟩
theorem d_M_sheet_65 : DC b_M_sheet 65 (.bipush 120) 2 67 := ⟨by decide +kernel, rfl⟩
theorem d_M_sheet_67 : DC b_M_sheet 67 (.iload_n 1) 1 68 := ⟨by decide +kernel, rfl⟩
theorem d_M_sheet_68 : DC b_M_sheet 68 (.imul) 1 69 := ⟨by decide +kernel, rfl⟩
theorem d_M_sheet_69 : DC b_M_sheet 69 (.iload 4) 2 71 := ⟨by decide +kernel, rfl⟩
theorem d_M_sheet_71 : DC b_M_sheet 71 (.iadd) 1 72 := ⟨by decide +kernel, rfl⟩
theorem d_M_sheet_72 : DC b_M_sheet 72 (.iconst 0) 1 73 := ⟨by decide +kernel, rfl⟩
theorem d_M_sheet_73 : DC b_M_sheet 73 (.iastore) 1 74 := ⟨by decide +kernel, rfl⟩
theorem d_M_sheet_74 : DC b_M_sheet 74 (.iinc 4 1) 3 77 := ⟨by decide +kernel, rfl⟩
theorem d_M_sheet_77 : DB b_M_sheet 77 (.goto (-22)) (-22) 55 80 := ⟨by decide +kernel, by decide, rfl⟩
theorem d_M_sheet_80 : DC b_M_sheet 80 (.iload_n 3) 1 81 := ⟨by decide +kernel, rfl⟩
theorem d_M_sheet_81 : decode b_M_sheet 81 = .ok (.ireturn, 1) := by decide +kernel
theorem w_M_sheet_l55 {X : Ctx} {Y : Lay} (hY : IsM Y) (C : Cx X Y b_M_sheet 5 (some .int) "TopYardModel" 3) {N : Nat} {r : Int32 × Mem} : ∀ (n : Nat) (x1 : Int32) (x3 : Int32) (x4 : Int32) (μ : Mem), f_M_sheet_l55 N n x1 x3 x4 μ = some r → J X Y (some (.int r.1)) r.2 5 55 [(0, .ref (yad Y 0)), (1, .int x1), (3, .int x3), (4, .int x4)] [] μ := by
  intro n
  induction n with
  | zero => intro x1 x3 x4 μ hf; rw [f_M_sheet_l55] at hf; cases hf
  | succ n ih =>
    intro x1 x3 x4 μ hf
    rw [f_M_sheet_l55] at hf
    refine j_iload C d_M_sheet_55 3 rfl ?_
    refine j_iload_n C d_M_sheet_57 2 rfl ?_
    refine j_icmp_ge C d_M_sheet_58 hf (fun hf => ?_) (fun hf => ?_)
    · refine j_iload_n C d_M_sheet_80 2 rfl ?_
      obtain rfl := Option.some.inj hf
      exact j_iret C d_M_sheet_81
    · refine j_aload_n C d_M_sheet_61 0 rfl ?_
      refine j_gS (b := 47) C fl_M_156 (kM hY rfl) (nM hY (by decide)) rfl hY.2.2.2.1 rfl (sM hY rfl) d_M_sheet_62 ?_
      refine j_bipush (v := 120) C d_M_sheet_65 (by decide) ?_
      refine j_iload_n C d_M_sheet_67 1 rfl ?_
      refine j_imul C d_M_sheet_68 ?_
      refine j_iload C d_M_sheet_69 3 rfl ?_
      refine j_iadd C d_M_sheet_71 ?_
      refine j_iconst (v := 0) C d_M_sheet_72 (by decide) ?_
      refine ck hf (fun hi1 hf => ?_)
      refine j_iast C (kM hY rfl) (nM hY (by decide)) (lM hY rfl) hi1 d_M_sheet_73 hf (fun μ2 hf => ?_)
      refine j_iinc (lvf := [(0, .ref (yad Y 0)), (1, .int x1), (3, .int x3)]) (v := 1) C d_M_sheet_74 3 rfl (by decide) (by decide) rfl hf (fun v3 hf => ?_)
      refine j_goto C d_M_sheet_77 ?_
      refine j_sub [1, 2, 3, 0] rfl ?_
      exact ih x1 x3 v3 μ2 hf
theorem c_M_sheet {l : Launch} {Y : Lay} (hY : IsM Y) {N : Nat} {μ : Mem} {x1 : Int32} {x2 : Int32} {x3 : Int32} {r : Int32 × Mem} (hf : f_M_sheet N μ x1 x2 x3 = some r) : Ct l Y y_M_sheet b_M_sheet 5 (some .int) 3 [.ref (yad Y 0), .int x1, .int x2, .int x3] (some (.int r.1)) μ r.2 := by
  refine ct_of (own := "TopYardModel") (lv := [(0, .ref (yad Y 0)), (1, .int x1), (2, .int x2), (3, .int x3)]) (by decide +kernel) rfl (Nat.le_of_ble_eq_true rfl) rfl (fun X hl C => ?_)
  subst hl
  unfold f_M_sheet at hf
  refine j_iload_n C d_M_sheet_0 1 rfl ?_
  refine bd hf (fun v1 hc11 hf => ?_)
  refine j_cS (rest := []) C lk_M_359 (c_M_isSheet hY hc11) rfl (by decide) rfl (Nat.le_of_ble_eq_true rfl) d_M_sheet_1 ?_
  refine j_if_eq C d_M_sheet_4 hf (fun hf => ?_) (fun hf => ?_)
  · refine j_bipush (v := (-2)) C d_M_sheet_25 (by decide) ?_
    obtain rfl := Option.some.inj hf
    exact j_iret C d_M_sheet_27
  · refine j_iload_n C d_M_sheet_7 2 rfl ?_
    refine j_i2l C d_M_sheet_8 ?_
    refine j_lconst (v := 0) C d_M_sheet_9 (by decide) ?_
    refine j_ldc2 (v := 2) C d_M_sheet_10 wd_172 ?_
    refine bd hf (fun v2 hc10 hf => ?_)
    refine j_cS (rest := []) C lk_M_164 (c_M_in hY hc10) rfl (by decide) rfl (Nat.le_of_ble_eq_true rfl) d_M_sheet_13 ?_
    refine j_if_eq C d_M_sheet_16 hf (fun hf => ?_) (fun hf => ?_)
    · refine j_bipush (v := (-2)) C d_M_sheet_25 (by decide) ?_
      obtain rfl := Option.some.inj hf
      exact j_iret C d_M_sheet_27
    · refine j_iload_n C d_M_sheet_19 3 rfl ?_
      refine j_bipush (v := 120) C d_M_sheet_20 (by decide) ?_
      refine j_icmp_le C d_M_sheet_22 hf (fun hf => ?_) (fun hf => ?_)
      · refine j_iload_n C d_M_sheet_28 3 rfl ?_
        refine j_if_ge C d_M_sheet_29 hf (fun hf => ?_) (fun hf => ?_)
        · refine j_aload_n C d_M_sheet_38 0 rfl ?_
          refine j_gS (b := 45) C fl_M_150 (kM hY rfl) (nM hY (by decide)) rfl hY.2.2.2.1 rfl (sM hY rfl) d_M_sheet_39 ?_
          refine j_iload_n C d_M_sheet_42 1 rfl ?_
          refine j_iload_n C d_M_sheet_43 2 rfl ?_
          refine ck hf (fun hi3 hf => ?_)
          refine j_iast C (kM hY rfl) (nM hY (by decide)) (lM hY rfl) hi3 d_M_sheet_44 hf (fun μ4 hf => ?_)
          refine j_aload_n C d_M_sheet_45 0 rfl ?_
          refine j_gS (b := 46) C fl_M_153 (kM hY rfl) (nM hY (by decide)) rfl hY.2.2.2.1 rfl (sM hY rfl) d_M_sheet_46 ?_
          refine j_iload_n C d_M_sheet_49 1 rfl ?_
          refine j_iload_n C d_M_sheet_50 3 rfl ?_
          refine ck hf (fun hi5 hf => ?_)
          refine j_iast C (kM hY rfl) (nM hY (by decide)) (lM hY rfl) hi5 d_M_sheet_51 hf (fun μ6 hf => ?_)
          refine j_iconst (v := 0) C d_M_sheet_52 (by decide) ?_
          refine j_istore (lvf := [(0, .ref (yad Y 0)), (1, .int x1), (2, .int x2), (3, .int x3)]) C d_M_sheet_53 (by decide) rfl ?_
          refine j_sub [1, 2, 4, 0] rfl ?_
          exact w_M_sheet_l55 hY C N x1 x3 0 μ6 hf
        · refine j_aload_n C d_M_sheet_32 0 rfl ?_
          refine j_iconst (v := 5) C d_M_sheet_33 (by decide) ?_
          refine bd2 hf (fun v7 μ8 hc9 hf => ?_)
          refine j_cV (rest := []) C lk_M_362 (c_M_met2 hY hc9) rfl (kM hY rfl) (nM hY (by decide)) (by decide) rfl rfl (by decide) rfl (Nat.le_of_ble_eq_true rfl) d_M_sheet_34 ?_
          obtain rfl := Option.some.inj hf
          exact j_iret C d_M_sheet_37
      · refine j_bipush (v := (-2)) C d_M_sheet_25 (by decide) ?_
        obtain rfl := Option.some.inj hf
        exact j_iret C d_M_sheet_27
theorem d_M_lose_0 : DC b_M_lose 0 (.iload_n 1) 1 1 := ⟨by decide +kernel, rfl⟩
theorem d_M_lose_1 : DC b_M_lose 1 (.invokestatic 359) 3 4 := ⟨by decide +kernel, rfl⟩
theorem d_M_lose_4 : DB b_M_lose 4 (.ifCond .ne 6) 6 10 7 := ⟨by decide +kernel, by decide, rfl⟩
theorem d_M_lose_7 : DC b_M_lose 7 (.bipush (-2)) 2 9 := ⟨by decide +kernel, rfl⟩
theorem d_M_lose_9 : decode b_M_lose 9 = .ok (.ireturn, 1) := by decide +kernel
theorem d_M_lose_10 : DC b_M_lose 10 (.aload_n 0) 1 11 := ⟨by decide +kernel, rfl⟩
theorem d_M_lose_11 : DC b_M_lose 11 (.getfield 150) 3 14 := ⟨by decide +kernel, rfl⟩
theorem d_M_lose_14 : DC b_M_lose 14 (.iload_n 1) 1 15 := ⟨by decide +kernel, rfl⟩
theorem d_M_lose_15 : DC b_M_lose 15 (.iaload) 1 16 := ⟨by decide +kernel, rfl⟩
theorem d_M_lose_16 : DB b_M_lose 16 (.ifCond .ge 9) 9 25 19 := ⟨by decide +kernel, by decide, rfl⟩
theorem d_M_lose_19 : DC b_M_lose 19 (.aload_n 0) 1 20 := ⟨by decide +kernel, rfl⟩
theorem d_M_lose_20 : DC b_M_lose 20 (.iconst 1) 1 21 := ⟨by decide +kernel, rfl⟩
theorem d_M_lose_21 : DC b_M_lose 21 (.invokevirtual 362) 3 24 := ⟨by decide +kernel, rfl⟩
theorem d_M_lose_24 : decode b_M_lose 24 = .ok (.ireturn, 1) := by decide +kernel
theorem d_M_lose_25 : DC b_M_lose 25 (.aload_n 0) 1 26 := ⟨by decide +kernel, rfl⟩
theorem d_M_lose_26 : DC b_M_lose 26 (.getfield 150) 3 29 := ⟨by decide +kernel, rfl⟩
theorem d_M_lose_29 : DC b_M_lose 29 (.iload_n 1) 1 30 := ⟨by decide +kernel, rfl⟩
theorem d_M_lose_30 : DC b_M_lose 30 (.iconst (-1)) 1 31 := ⟨by decide +kernel, rfl⟩
theorem d_M_lose_31 : DC b_M_lose 31 (.iastore) 1 32 := ⟨by decide +kernel, rfl⟩
theorem d_M_lose_32 : DC b_M_lose 32 (.aload_n 0) 1 33 := ⟨by decide +kernel, rfl⟩
theorem d_M_lose_33 : DC b_M_lose 33 (.getfield 153) 3 36 := ⟨by decide +kernel, rfl⟩
theorem d_M_lose_36 : DC b_M_lose 36 (.iload_n 1) 1 37 := ⟨by decide +kernel, rfl⟩
theorem d_M_lose_37 : DC b_M_lose 37 (.iaload) 1 38 := ⟨by decide +kernel, rfl⟩
theorem d_M_lose_38 : decode b_M_lose 38 = .ok (.ireturn, 1) := by decide +kernel
theorem c_M_lose {l : Launch} {Y : Lay} (hY : IsM Y) {μ : Mem} {x1 : Int32} {r : Int32 × Mem} (hf : f_M_lose μ x1 = some r) : Ct l Y y_M_lose b_M_lose 2 (some .int) 3 [.ref (yad Y 0), .int x1] (some (.int r.1)) μ r.2 := by
  refine ct_of (own := "TopYardModel") (lv := [(0, .ref (yad Y 0)), (1, .int x1)]) (by decide +kernel) rfl (Nat.le_of_ble_eq_true rfl) rfl (fun X hl C => ?_)
  subst hl
  unfold f_M_lose at hf
  refine j_iload_n C d_M_lose_0 1 rfl ?_
  refine bd hf (fun v1 hc9 hf => ?_)
  refine j_cS (rest := []) C lk_M_359 (c_M_isSheet hY hc9) rfl (by decide) rfl (Nat.le_of_ble_eq_true rfl) d_M_lose_1 ?_
  refine j_if_ne C d_M_lose_4 hf (fun hf => ?_) (fun hf => ?_)
  · refine j_aload_n C d_M_lose_10 0 rfl ?_
    refine j_gS (b := 45) C fl_M_150 (kM hY rfl) (nM hY (by decide)) rfl hY.2.2.2.1 rfl (sM hY rfl) d_M_lose_11 ?_
    refine j_iload_n C d_M_lose_14 1 rfl ?_
    refine ck hf (fun hi2 hf => ?_)
    refine j_iald C (kM hY rfl) (nM hY (by decide)) (lM hY rfl) hi2 d_M_lose_15 ?_
    refine j_if_ge C d_M_lose_16 hf (fun hf => ?_) (fun hf => ?_)
    · refine j_aload_n C d_M_lose_25 0 rfl ?_
      refine j_gS (b := 45) C fl_M_150 (kM hY rfl) (nM hY (by decide)) rfl hY.2.2.2.1 rfl (sM hY rfl) d_M_lose_26 ?_
      refine j_iload_n C d_M_lose_29 1 rfl ?_
      refine j_iconst (v := (-1)) C d_M_lose_30 (by decide) ?_
      refine ck hf (fun hi3 hf => ?_)
      refine j_iast C (kM hY rfl) (nM hY (by decide)) (lM hY rfl) hi3 d_M_lose_31 hf (fun μ4 hf => ?_)
      refine j_aload_n C d_M_lose_32 0 rfl ?_
      refine j_gS (b := 46) C fl_M_153 (kM hY rfl) (nM hY (by decide)) rfl hY.2.2.2.1 rfl (sM hY rfl) d_M_lose_33 ?_
      refine j_iload_n C d_M_lose_36 1 rfl ?_
      refine ck hf (fun hi5 hf => ?_)
      refine j_iald C (kM hY rfl) (nM hY (by decide)) (lM hY rfl) hi5 d_M_lose_37 ?_
      obtain rfl := Option.some.inj hf
      exact j_iret C d_M_lose_38
    · refine j_aload_n C d_M_lose_19 0 rfl ?_
      refine j_iconst (v := 1) C d_M_lose_20 (by decide) ?_
      refine bd2 hf (fun v6 μ7 hc8 hf => ?_)
      refine j_cV (rest := []) C lk_M_362 (c_M_met2 hY hc8) rfl (kM hY rfl) (nM hY (by decide)) (by decide) rfl rfl (by decide) rfl (Nat.le_of_ble_eq_true rfl) d_M_lose_21 ?_
      obtain rfl := Option.some.inj hf
      exact j_iret C d_M_lose_24
  · refine j_bipush (v := (-2)) C d_M_lose_7 (by decide) ?_
    obtain rfl := Option.some.inj hf
    exact j_iret C d_M_lose_9
theorem d_M_lacks_0 : DC b_M_lacks 0 (.aload_n 0) 1 1 := ⟨by decide +kernel, rfl⟩
theorem d_M_lacks_1 : DC b_M_lacks 1 (.getfield 150) 3 4 := ⟨by decide +kernel, rfl⟩
theorem d_M_lacks_4 : DC b_M_lacks 4 (.iload_n 1) 1 5 := ⟨by decide +kernel, rfl⟩
theorem d_M_lacks_5 : DC b_M_lacks 5 (.iaload) 1 6 := ⟨by decide +kernel, rfl⟩
theorem d_M_lacks_6 : DB b_M_lacks 6 (.ifCond .ge 9) 9 15 9 := ⟨by decide +kernel, by decide, rfl⟩
theorem d_M_lacks_9 : DC b_M_lacks 9 (.aload_n 0) 1 10 := ⟨by decide +kernel, rfl⟩
theorem d_M_lacks_10 : DC b_M_lacks 10 (.iconst 1) 1 11 := ⟨by decide +kernel, rfl⟩
theorem d_M_lacks_11 : DC b_M_lacks 11 (.invokevirtual 362) 3 14 := ⟨by decide +kernel, rfl⟩
theorem d_M_lacks_14 : decode b_M_lacks 14 = .ok (.ireturn, 1) := by decide +kernel
theorem d_M_lacks_15 : DC b_M_lacks 15 (.aload_n 0) 1 16 := ⟨by decide +kernel, rfl⟩
theorem d_M_lacks_16 : DC b_M_lacks 16 (.getfield 150) 3 19 := ⟨by decide +kernel, rfl⟩
theorem d_M_lacks_19 : DC b_M_lacks 19 (.iload_n 1) 1 20 := ⟨by decide +kernel, rfl⟩
theorem d_M_lacks_20 : DC b_M_lacks 20 (.iaload) 1 21 := ⟨by decide +kernel, rfl⟩
theorem d_M_lacks_21 : DC b_M_lacks 21 (.iload_n 2) 1 22 := ⟨by decide +kernel, rfl⟩
theorem d_M_lacks_22 : DB b_M_lacks 22 (.if_icmp .eq 9) 9 31 25 := ⟨by decide +kernel, by decide, rfl⟩
theorem d_M_lacks_25 : DC b_M_lacks 25 (.aload_n 0) 1 26 := ⟨by decide +kernel, rfl⟩
theorem d_M_lacks_26 : DC b_M_lacks 26 (.iconst 3) 1 27 := ⟨by decide +kernel, rfl⟩
theorem d_M_lacks_27 : DC b_M_lacks 27 (.invokevirtual 362) 3 30 := ⟨by decide +kernel, rfl⟩
theorem d_M_lacks_30 : decode b_M_lacks 30 = .ok (.ireturn, 1) := by decide +kernel
theorem d_M_lacks_31 : DC b_M_lacks 31 (.iload_n 3) 1 32 := ⟨by decide +kernel, rfl⟩
theorem d_M_lacks_32 : DC b_M_lacks 32 (.i2l) 1 33 := ⟨by decide +kernel, rfl⟩
theorem d_M_lacks_33 : DC b_M_lacks 33 (.lconst 0) 1 34 := ⟨by decide +kernel, rfl⟩
theorem d_M_lacks_34 : DC b_M_lacks 34 (.aload_n 0) 1 35 := ⟨by decide +kernel, rfl⟩
theorem d_M_lacks_35 : DC b_M_lacks 35 (.getfield 153) 3 38 := ⟨by decide +kernel, rfl⟩
theorem d_M_lacks_38 : DC b_M_lacks 38 (.iload_n 1) 1 39 := ⟨by decide +kernel, rfl⟩
theorem d_M_lacks_39 : DC b_M_lacks 39 (.iaload) 1 40 := ⟨by decide +kernel, rfl⟩
theorem d_M_lacks_40 : DC b_M_lacks 40 (.iconst 1) 1 41 := ⟨by decide +kernel, rfl⟩
theorem d_M_lacks_41 : DC b_M_lacks 41 (.isub) 1 42 := ⟨by decide +kernel, rfl⟩
theorem d_M_lacks_42 : DC b_M_lacks 42 (.i2l) 1 43 := ⟨by decide +kernel, rfl⟩
theorem d_M_lacks_43 : DC b_M_lacks 43 (.invokestatic 164) 3 46 := ⟨by decide +kernel, rfl⟩
theorem d_M_lacks_46 : DB b_M_lacks 46 (.ifCond .eq 7) 7 53 49 := ⟨by decide +kernel, by decide, rfl⟩
theorem d_M_lacks_49 : DC b_M_lacks 49 (.iconst 0) 1 50 := ⟨by decide +kernel, rfl⟩
theorem d_M_lacks_50 : DB b_M_lacks 50 (.goto 8) 8 58 53 := ⟨by decide +kernel, by decide, rfl⟩
theorem d_M_lacks_53 : DC b_M_lacks 53 (.aload_n 0) 1 54 := ⟨by decide +kernel, rfl⟩
theorem d_M_lacks_54 : DC b_M_lacks 54 (.iconst 2) 1 55 := ⟨by decide +kernel, rfl⟩
theorem d_M_lacks_55 : DC b_M_lacks 55 (.invokevirtual 362) 3 58 := ⟨by decide +kernel, rfl⟩
theorem d_M_lacks_58 : decode b_M_lacks 58 = .ok (.ireturn, 1) := by decide +kernel
theorem c_M_lacks {l : Launch} {Y : Lay} (hY : IsM Y) {μ : Mem} {x1 : Int32} {x2 : Int32} {x3 : Int32} {r : Int32 × Mem} (hf : f_M_lacks μ x1 x2 x3 = some r) : Ct l Y y_M_lacks b_M_lacks 4 (some .int) 2 [.ref (yad Y 0), .int x1, .int x2, .int x3] (some (.int r.1)) μ r.2 := by
  refine ct_of (own := "TopYardModel") (lv := [(0, .ref (yad Y 0)), (1, .int x1), (2, .int x2), (3, .int x3)]) (by decide +kernel) rfl (Nat.le_of_ble_eq_true rfl) rfl (fun X hl C => ?_)
  subst hl
  unfold f_M_lacks at hf
  refine j_aload_n C d_M_lacks_0 0 rfl ?_
  refine j_gS (b := 45) C fl_M_150 (kM hY rfl) (nM hY (by decide)) rfl hY.2.2.2.1 rfl (sM hY rfl) d_M_lacks_1 ?_
  refine j_iload_n C d_M_lacks_4 1 rfl ?_
  refine ck hf (fun hi1 hf => ?_)
  refine j_iald C (kM hY rfl) (nM hY (by decide)) (lM hY rfl) hi1 d_M_lacks_5 ?_
  refine j_if_ge C d_M_lacks_6 hf (fun hf => ?_) (fun hf => ?_)
  · refine j_aload_n C d_M_lacks_15 0 rfl ?_
    refine j_gS (b := 45) C fl_M_150 (kM hY rfl) (nM hY (by decide)) rfl hY.2.2.2.1 rfl (sM hY rfl) d_M_lacks_16 ?_
    refine j_iload_n C d_M_lacks_19 1 rfl ?_
    refine ck hf (fun hi2 hf => ?_)
    refine j_iald C (kM hY rfl) (nM hY (by decide)) (lM hY rfl) hi2 d_M_lacks_20 ?_
    refine j_iload_n C d_M_lacks_21 2 rfl ?_
    refine j_icmp_eq C d_M_lacks_22 hf (fun hf => ?_) (fun hf => ?_)
    · refine j_iload_n C d_M_lacks_31 3 rfl ?_
      refine j_i2l C d_M_lacks_32 ?_
      refine j_lconst (v := 0) C d_M_lacks_33 (by decide) ?_
      refine j_aload_n C d_M_lacks_34 0 rfl ?_
      refine j_gS (b := 46) C fl_M_153 (kM hY rfl) (nM hY (by decide)) rfl hY.2.2.2.1 rfl (sM hY rfl) d_M_lacks_35 ?_
      refine j_iload_n C d_M_lacks_38 1 rfl ?_
      refine ck hf (fun hi3 hf => ?_)
      refine j_iald C (kM hY rfl) (nM hY (by decide)) (lM hY rfl) hi3 d_M_lacks_39 ?_
      refine j_iconst (v := 1) C d_M_lacks_40 (by decide) ?_
      refine j_isub C d_M_lacks_41 ?_
      refine j_i2l C d_M_lacks_42 ?_
      refine bd hf (fun v4 hc8 hf => ?_)
      refine j_cS (rest := []) C lk_M_164 (c_M_in hY hc8) rfl (by decide) rfl (Nat.le_of_ble_eq_true rfl) d_M_lacks_43 ?_
      refine j_if_eq C d_M_lacks_46 hf (fun hf => ?_) (fun hf => ?_)
      · refine j_aload_n C d_M_lacks_53 0 rfl ?_
        refine j_iconst (v := 2) C d_M_lacks_54 (by decide) ?_
        refine bd2 hf (fun v5 μ6 hc7 hf => ?_)
        refine j_cV (rest := []) C lk_M_362 (c_M_met2 hY hc7) rfl (kM hY rfl) (nM hY (by decide)) (by decide) rfl rfl (by decide) rfl (Nat.le_of_ble_eq_true rfl) d_M_lacks_55 ?_
        obtain rfl := Option.some.inj hf
        exact j_iret C d_M_lacks_58
      · refine j_iconst (v := 0) C d_M_lacks_49 (by decide) ?_
        refine j_goto C d_M_lacks_50 ?_
        obtain rfl := Option.some.inj hf
        exact j_iret C d_M_lacks_58
    · refine j_aload_n C d_M_lacks_25 0 rfl ?_
      refine j_iconst (v := 3) C d_M_lacks_26 (by decide) ?_
      refine bd2 hf (fun v9 μ10 hc11 hf => ?_)
      refine j_cV (rest := []) C lk_M_362 (c_M_met2 hY hc11) rfl (kM hY rfl) (nM hY (by decide)) (by decide) rfl rfl (by decide) rfl (Nat.le_of_ble_eq_true rfl) d_M_lacks_27 ?_
      obtain rfl := Option.some.inj hf
      exact j_iret C d_M_lacks_30
  · refine j_aload_n C d_M_lacks_9 0 rfl ?_
    refine j_iconst (v := 1) C d_M_lacks_10 (by decide) ?_
    refine bd2 hf (fun v12 μ13 hc14 hf => ?_)
    refine j_cV (rest := []) C lk_M_362 (c_M_met2 hY hc14) rfl (kM hY rfl) (nM hY (by decide)) (by decide) rfl rfl (by decide) rfl (Nat.le_of_ble_eq_true rfl) d_M_lacks_11 ?_
    obtain rfl := Option.some.inj hf
    exact j_iret C d_M_lacks_14
theorem d_M_cut_0 : DC b_M_cut 0 (.iload_n 0) 1 1 := ⟨by decide +kernel, rfl⟩
theorem d_M_cut_1 : DB b_M_cut 1 (.ifCond .ne 8) 8 9 4 := ⟨by decide +kernel, by decide, rfl⟩
theorem d_M_cut_4 : DC b_M_cut 4 (.iload_n 1) 1 5 := ⟨by decide +kernel, rfl⟩
theorem d_M_cut_5 : DC b_M_cut 5 (.i2b) 1 6 := ⟨by decide +kernel, rfl⟩
theorem d_M_cut_6 : DB b_M_cut 6 (.goto 14) 14 20 9 := ⟨by decide +kernel, by decide, rfl⟩
theorem d_M_cut_9 : DC b_M_cut 9 (.iload_n 0) 1 10 := ⟨by decide +kernel, rfl⟩
theorem d_M_cut_10 : DC b_M_cut 10 (.iconst 1) 1 11 := ⟨by decide +kernel, rfl⟩
theorem d_M_cut_11 : DB b_M_cut 11 (.if_icmp .ne 8) 8 19 14 := ⟨by decide +kernel, by decide, rfl⟩
theorem d_M_cut_14 : DC b_M_cut 14 (.iload_n 1) 1 15 := ⟨by decide +kernel, rfl⟩
theorem d_M_cut_15 : DC b_M_cut 15 (.i2s) 1 16 := ⟨by decide +kernel, rfl⟩
theorem d_M_cut_16 : DB b_M_cut 16 (.goto 4) 4 20 19 := ⟨by decide +kernel, by decide, rfl⟩
theorem d_M_cut_19 : DC b_M_cut 19 (.iload_n 1) 1 20 := ⟨by decide +kernel, rfl⟩
theorem d_M_cut_20 : decode b_M_cut 20 = .ok (.ireturn, 1) := by decide +kernel
theorem c_M_cut {l : Launch} {Y : Lay} (hY : IsM Y) {μ : Mem} {x0 : Int32} {x1 : Int32} {r : Int32} (hf : f_M_cut x0 x1 = some r) : Ct l Y y_M_cut b_M_cut 2 (some .int) 1 [.int x0, .int x1] (some (.int r)) μ μ := by
  refine ct_of (own := "TopYardModel") (lv := [(0, .int x0), (1, .int x1)]) (by decide +kernel) rfl (Nat.le_of_ble_eq_true rfl) rfl (fun X hl C => ?_)
  subst hl
  unfold f_M_cut at hf
  refine j_iload_n C d_M_cut_0 0 rfl ?_
  refine j_if_ne C d_M_cut_1 hf (fun hf => ?_) (fun hf => ?_)
  · refine j_iload_n C d_M_cut_9 0 rfl ?_
    refine j_iconst (v := 1) C d_M_cut_10 (by decide) ?_
    refine j_icmp_ne C d_M_cut_11 hf (fun hf => ?_) (fun hf => ?_)
    · refine j_iload_n C d_M_cut_19 1 rfl ?_
      obtain rfl := Option.some.inj hf
      exact j_iret C d_M_cut_20
    · refine j_iload_n C d_M_cut_14 1 rfl ?_
      refine j_i2s C d_M_cut_15 ?_
      refine j_goto C d_M_cut_16 ?_
      obtain rfl := Option.some.inj hf
      exact j_iret C d_M_cut_20
  · refine j_iload_n C d_M_cut_4 1 rfl ?_
    refine j_i2b C d_M_cut_5 ?_
    refine j_goto C d_M_cut_6 ?_
    obtain rfl := Option.some.inj hf
    exact j_iret C d_M_cut_20
theorem d_M_put_0 : DC b_M_put 0 (.iload_n 1) 1 1 := ⟨by decide +kernel, rfl⟩
theorem d_M_put_1 : DC b_M_put 1 (.invokestatic 359) 3 4 := ⟨by decide +kernel, rfl⟩
theorem d_M_put_4 : DB b_M_put 4 (.ifCond .eq 15) 15 19 7 := ⟨by decide +kernel, by decide, rfl⟩
theorem d_M_put_7 : DC b_M_put 7 (.iload_n 2) 1 8 := ⟨by decide +kernel, rfl⟩
theorem d_M_put_8 : DC b_M_put 8 (.i2l) 1 9 := ⟨by decide +kernel, rfl⟩
theorem d_M_put_9 : DC b_M_put 9 (.lconst 0) 1 10 := ⟨by decide +kernel, rfl⟩
theorem d_M_put_10 : DC b_M_put 10 (.ldc2_w 216) 3 13 := ⟨by decide +kernel, rfl⟩
theorem d_M_put_13 : DC b_M_put 13 (.invokestatic 164) 3 16 := ⟨by decide +kernel, rfl⟩
theorem d_M_put_16 : DB b_M_put 16 (.ifCond .ne 6) 6 22 19 := ⟨by decide +kernel, by decide, rfl⟩
theorem d_M_put_19 : DC b_M_put 19 (.bipush (-2)) 2 21 := ⟨by decide +kernel, rfl⟩
theorem d_M_put_21 : decode b_M_put 21 = .ok (.ireturn, 1) := by decide +kernel
theorem d_M_put_22 : DC b_M_put 22 (.aload_n 0) 1 23 := ⟨by decide +kernel, rfl⟩
theorem d_M_put_23 : DC b_M_put 23 (.iload_n 1) 1 24 := ⟨by decide +kernel, rfl⟩
theorem d_M_put_24 : DC b_M_put 24 (.iload_n 2) 1 25 := ⟨by decide +kernel, rfl⟩
theorem d_M_put_25 : DC b_M_put 25 (.iload_n 3) 1 26 := ⟨by decide +kernel, rfl⟩
theorem d_M_put_26 : DC b_M_put 26 (.invokevirtual 429) 3 29 := ⟨by decide +kernel, rfl⟩
theorem d_M_put_29 : DC b_M_put 29 (.istore 5) 2 31 := ⟨by decide +kernel, rfl⟩
theorem d_M_put_31 : DC b_M_put 31 (.iload 5) 2 33 := ⟨by decide +kernel, rfl⟩
theorem d_M_put_33 : DB b_M_put 33 (.ifCond .eq 6) 6 39 36 := ⟨by decide +kernel, by decide, rfl⟩
theorem d_M_put_36 : DC b_M_put 36 (.iload 5) 2 38 := ⟨by decide +kernel, rfl⟩
theorem d_M_put_38 : decode b_M_put 38 = .ok (.ireturn, 1) := by decide +kernel
theorem d_M_put_39 : DC b_M_put 39 (.aload_n 0) 1 40 := ⟨by decide +kernel, rfl⟩
theorem d_M_put_40 : DC b_M_put 40 (.getfield 156) 3 43 := ⟨by decide +kernel, rfl⟩
theorem d_M_put_43 : DC b_M_put 43 (.bipush 120) 2 45 := ⟨by decide +kernel, rfl⟩
theorem d_M_put_45 : DC b_M_put 45 (.iload_n 1) 1 46 := ⟨by decide +kernel, rfl⟩
theorem d_M_put_46 : DC b_M_put 46 (.imul) 1 47 := ⟨by decide +kernel, rfl⟩
theorem d_M_put_47 : DC b_M_put 47 (.iload_n 3) 1 48 := ⟨by decide +kernel, rfl⟩
theorem d_M_put_48 : DC b_M_put 48 (.iadd) 1 49 := ⟨by decide +kernel, rfl⟩
theorem d_M_put_49 : DC b_M_put 49 (.iload_n 2) 1 50 := ⟨by decide +kernel, rfl⟩
theorem d_M_put_50 : DC b_M_put 50 (.iload 4) 2 52 := ⟨by decide +kernel, rfl⟩
theorem d_M_put_52 : DC b_M_put 52 (.invokestatic 432) 3 55 := ⟨by decide +kernel, rfl⟩
theorem d_M_put_55 : DC b_M_put 55 (.iastore) 1 56 := ⟨by decide +kernel, rfl⟩
theorem d_M_put_56 : DC b_M_put 56 (.iconst 1) 1 57 := ⟨by decide +kernel, rfl⟩
theorem d_M_put_57 : decode b_M_put 57 = .ok (.ireturn, 1) := by decide +kernel
theorem c_M_put {l : Launch} {Y : Lay} (hY : IsM Y) {μ : Mem} {x1 : Int32} {x2 : Int32} {x3 : Int32} {x4 : Int32} {r : Int32 × Mem} (hf : f_M_put μ x1 x2 x3 x4 = some r) : Ct l Y y_M_put b_M_put 6 (some .int) 3 [.ref (yad Y 0), .int x1, .int x2, .int x3, .int x4] (some (.int r.1)) μ r.2 := by
  refine ct_of (own := "TopYardModel") (lv := [(0, .ref (yad Y 0)), (1, .int x1), (2, .int x2), (3, .int x3), (4, .int x4)]) (by decide +kernel) rfl (Nat.le_of_ble_eq_true rfl) rfl (fun X hl C => ?_)
  subst hl
  unfold f_M_put at hf
  refine j_iload_n C d_M_put_0 1 rfl ?_
  refine bd hf (fun v1 hc11 hf => ?_)
  refine j_cS (rest := []) C lk_M_359 (c_M_isSheet hY hc11) rfl (by decide) rfl (Nat.le_of_ble_eq_true rfl) d_M_put_1 ?_
  refine j_if_eq C d_M_put_4 hf (fun hf => ?_) (fun hf => ?_)
  · refine j_bipush (v := (-2)) C d_M_put_19 (by decide) ?_
    obtain rfl := Option.some.inj hf
    exact j_iret C d_M_put_21
  · refine j_iload_n C d_M_put_7 2 rfl ?_
    refine j_i2l C d_M_put_8 ?_
    refine j_lconst (v := 0) C d_M_put_9 (by decide) ?_
    refine j_ldc2 (v := 2) C d_M_put_10 wd_172 ?_
    refine bd hf (fun v2 hc10 hf => ?_)
    refine j_cS (rest := []) C lk_M_164 (c_M_in hY hc10) rfl (by decide) rfl (Nat.le_of_ble_eq_true rfl) d_M_put_13 ?_
    refine j_if_ne C d_M_put_16 hf (fun hf => ?_) (fun hf => ?_)
    · refine j_aload_n C d_M_put_22 0 rfl ?_
      refine j_iload_n C d_M_put_23 1 rfl ?_
      refine j_iload_n C d_M_put_24 2 rfl ?_
      refine j_iload_n C d_M_put_25 3 rfl ?_
      refine bd2 hf (fun v3 μ4 hc9 hf => ?_)
      refine j_cV (rest := []) C lk_M_429 (c_M_lacks hY hc9) rfl (kM hY rfl) (nM hY (by decide)) (by decide) rfl rfl (by decide) rfl (Nat.le_of_ble_eq_true rfl) d_M_put_26 ?_
      refine j_istore (lvf := [(0, .ref (yad Y 0)), (1, .int x1), (2, .int x2), (3, .int x3), (4, .int x4)]) C d_M_put_29 (by decide) rfl ?_
      refine j_iload C d_M_put_31 0 rfl ?_
      refine j_if_eq C d_M_put_33 hf (fun hf => ?_) (fun hf => ?_)
      · refine j_aload_n C d_M_put_39 1 rfl ?_
        refine j_gS (b := 47) C fl_M_156 (kM hY rfl) (nM hY (by decide)) rfl hY.2.2.2.1 rfl (sM hY rfl) d_M_put_40 ?_
        refine j_bipush (v := 120) C d_M_put_43 (by decide) ?_
        refine j_iload_n C d_M_put_45 2 rfl ?_
        refine j_imul C d_M_put_46 ?_
        refine j_iload_n C d_M_put_47 4 rfl ?_
        refine j_iadd C d_M_put_48 ?_
        refine j_iload_n C d_M_put_49 3 rfl ?_
        refine j_iload C d_M_put_50 5 rfl ?_
        refine bd hf (fun v5 hc8 hf => ?_)
        refine j_cS (rest := [.int (((120 : Int32) * x1) + x3), .ref (yad Y 47)]) C lk_M_432 (c_M_cut hY hc8) rfl (by decide) rfl (Nat.le_of_ble_eq_true rfl) d_M_put_52 ?_
        refine ck hf (fun hi6 hf => ?_)
        refine j_iast C (kM hY rfl) (nM hY (by decide)) (lM hY rfl) hi6 d_M_put_55 hf (fun μ7 hf => ?_)
        refine j_iconst (v := 1) C d_M_put_56 (by decide) ?_
        obtain rfl := Option.some.inj hf
        exact j_iret C d_M_put_57
      · refine j_iload C d_M_put_36 0 rfl ?_
        obtain rfl := Option.some.inj hf
        exact j_iret C d_M_put_38
    · refine j_bipush (v := (-2)) C d_M_put_19 (by decide) ?_
      obtain rfl := Option.some.inj hf
      exact j_iret C d_M_put_21
theorem d_M_get_0 : DC b_M_get 0 (.iload_n 1) 1 1 := ⟨by decide +kernel, rfl⟩
theorem d_M_get_1 : DC b_M_get 1 (.invokestatic 359) 3 4 := ⟨by decide +kernel, rfl⟩
theorem d_M_get_4 : DB b_M_get 4 (.ifCond .eq 25) 25 29 7 := ⟨by decide +kernel, by decide, rfl⟩
theorem d_M_get_7 : DC b_M_get 7 (.iload_n 2) 1 8 := ⟨by decide +kernel, rfl⟩
theorem d_M_get_8 : DC b_M_get 8 (.i2l) 1 9 := ⟨by decide +kernel, rfl⟩
theorem d_M_get_9 : DC b_M_get 9 (.lconst 0) 1 10 := ⟨by decide +kernel, rfl⟩
theorem d_M_get_10 : DC b_M_get 10 (.ldc2_w 216) 3 13 := ⟨by decide +kernel, rfl⟩
theorem d_M_get_13 : DC b_M_get 13 (.invokestatic 164) 3 16 := ⟨by decide +kernel, rfl⟩
theorem d_M_get_16 : DB b_M_get 16 (.ifCond .eq 13) 13 29 19 := ⟨by decide +kernel, by decide, rfl⟩
theorem d_M_get_19 : DC b_M_get 19 (.aload_n 0) 1 20 := ⟨by decide +kernel, rfl⟩
theorem d_M_get_20 : DC b_M_get 20 (.iload_n 1) 1 21 := ⟨by decide +kernel, rfl⟩
theorem d_M_get_21 : DC b_M_get 21 (.iload_n 2) 1 22 := ⟨by decide +kernel, rfl⟩
theorem d_M_get_22 : DC b_M_get 22 (.iload_n 3) 1 23 := ⟨by decide +kernel, rfl⟩
theorem d_M_get_23 : DC b_M_get 23 (.invokevirtual 429) 3 26 := ⟨by decide +kernel, rfl⟩
theorem d_M_get_26 : DB b_M_get 26 (.ifCond .eq 6) 6 32 29 := ⟨by decide +kernel, by decide, rfl⟩
theorem d_M_get_29 : DC b_M_get 29 (.ldc 218) 2 31 := ⟨by decide +kernel, rfl⟩
theorem d_M_get_31 : decode b_M_get 31 = .ok (.ireturn, 1) := by decide +kernel
theorem d_M_get_32 : DC b_M_get 32 (.aload_n 0) 1 33 := ⟨by decide +kernel, rfl⟩
theorem d_M_get_33 : DC b_M_get 33 (.getfield 156) 3 36 := ⟨by decide +kernel, rfl⟩
theorem d_M_get_36 : DC b_M_get 36 (.bipush 120) 2 38 := ⟨by decide +kernel, rfl⟩
theorem d_M_get_38 : DC b_M_get 38 (.iload_n 1) 1 39 := ⟨by decide +kernel, rfl⟩
theorem d_M_get_39 : DC b_M_get 39 (.imul) 1 40 := ⟨by decide +kernel, rfl⟩
theorem d_M_get_40 : DC b_M_get 40 (.iload_n 3) 1 41 := ⟨by decide +kernel, rfl⟩
theorem d_M_get_41 : DC b_M_get 41 (.iadd) 1 42 := ⟨by decide +kernel, rfl⟩
theorem d_M_get_42 : DC b_M_get 42 (.iaload) 1 43 := ⟨by decide +kernel, rfl⟩
theorem d_M_get_43 : decode b_M_get 43 = .ok (.ireturn, 1) := by decide +kernel
theorem c_M_get {l : Launch} {Y : Lay} (hY : IsM Y) {μ : Mem} {x1 : Int32} {x2 : Int32} {x3 : Int32} {r : Int32 × Mem} (hf : f_M_get μ x1 x2 x3 = some r) : Ct l Y y_M_get b_M_get 4 (some .int) 3 [.ref (yad Y 0), .int x1, .int x2, .int x3] (some (.int r.1)) μ r.2 := by
  refine ct_of (own := "TopYardModel") (lv := [(0, .ref (yad Y 0)), (1, .int x1), (2, .int x2), (3, .int x3)]) (by decide +kernel) rfl (Nat.le_of_ble_eq_true rfl) rfl (fun X hl C => ?_)
  subst hl
  unfold f_M_get at hf
  refine j_iload_n C d_M_get_0 1 rfl ?_
  refine bd hf (fun v1 hc8 hf => ?_)
  refine j_cS (rest := []) C lk_M_359 (c_M_isSheet hY hc8) rfl (by decide) rfl (Nat.le_of_ble_eq_true rfl) d_M_get_1 ?_
  refine j_if_eq C d_M_get_4 hf (fun hf => ?_) (fun hf => ?_)
  · refine j_ldc (v := (-2147483648)) C d_M_get_29 wd_171 ?_
    obtain rfl := Option.some.inj hf
    exact j_iret C d_M_get_31
  · refine j_iload_n C d_M_get_7 2 rfl ?_
    refine j_i2l C d_M_get_8 ?_
    refine j_lconst (v := 0) C d_M_get_9 (by decide) ?_
    refine j_ldc2 (v := 2) C d_M_get_10 wd_172 ?_
    refine bd hf (fun v2 hc7 hf => ?_)
    refine j_cS (rest := []) C lk_M_164 (c_M_in hY hc7) rfl (by decide) rfl (Nat.le_of_ble_eq_true rfl) d_M_get_13 ?_
    refine j_if_eq C d_M_get_16 hf (fun hf => ?_) (fun hf => ?_)
    · refine j_ldc (v := (-2147483648)) C d_M_get_29 wd_171 ?_
      obtain rfl := Option.some.inj hf
      exact j_iret C d_M_get_31
    · refine j_aload_n C d_M_get_19 0 rfl ?_
      refine j_iload_n C d_M_get_20 1 rfl ?_
      refine j_iload_n C d_M_get_21 2 rfl ?_
      refine j_iload_n C d_M_get_22 3 rfl ?_
      refine bd2 hf (fun v3 μ4 hc6 hf => ?_)
      refine j_cV (rest := []) C lk_M_429 (c_M_lacks hY hc6) rfl (kM hY rfl) (nM hY (by decide)) (by decide) rfl rfl (by decide) rfl (Nat.le_of_ble_eq_true rfl) d_M_get_23 ?_
      refine j_if_eq C d_M_get_26 hf (fun hf => ?_) (fun hf => ?_)
      · refine j_aload_n C d_M_get_32 0 rfl ?_
        refine j_gS (b := 47) C fl_M_156 (kM hY rfl) (nM hY (by decide)) rfl hY.2.2.2.1 rfl (sM hY rfl) d_M_get_33 ?_
        refine j_bipush (v := 120) C d_M_get_36 (by decide) ?_
        refine j_iload_n C d_M_get_38 1 rfl ?_
        refine j_imul C d_M_get_39 ?_
        refine j_iload_n C d_M_get_40 3 rfl ?_
        refine j_iadd C d_M_get_41 ?_
        refine ck hf (fun hi5 hf => ?_)
        refine j_iald C (kM hY rfl) (nM hY (by decide)) (lM hY rfl) hi5 d_M_get_42 ?_
        obtain rfl := Option.some.inj hf
        exact j_iret C d_M_get_43
      · refine j_ldc (v := (-2147483648)) C d_M_get_29 wd_171 ?_
        obtain rfl := Option.some.inj hf
        exact j_iret C d_M_get_31
theorem d_M_copy_0 : DC b_M_copy 0 (.iload_n 1) 1 1 := ⟨by decide +kernel, rfl⟩
theorem d_M_copy_1 : DC b_M_copy 1 (.invokestatic 359) 3 4 := ⟨by decide +kernel, rfl⟩
theorem d_M_copy_4 : DB b_M_copy 4 (.ifCond .eq 10) 10 14 7 := ⟨by decide +kernel, by decide, rfl⟩
theorem d_M_copy_7 : DC b_M_copy 7 (.iload_n 3) 1 8 := ⟨by decide +kernel, rfl⟩
theorem d_M_copy_8 : DC b_M_copy 8 (.invokestatic 359) 3 11 := ⟨by decide +kernel, rfl⟩
theorem d_M_copy_11 : DB b_M_copy 11 (.ifCond .ne 6) 6 17 14 := ⟨by decide +kernel, by decide, rfl⟩
theorem d_M_copy_14 : DC b_M_copy 14 (.bipush (-2)) 2 16 := ⟨by decide +kernel, rfl⟩
theorem d_M_copy_16 : decode b_M_copy 16 = .ok (.ireturn, 1) := by decide +kernel
theorem d_M_copy_17 : DC b_M_copy 17 (.aload_n 0) 1 18 := ⟨by decide +kernel, rfl⟩
theorem d_M_copy_18 : DC b_M_copy 18 (.getfield 150) 3 21 := ⟨by decide +kernel, rfl⟩
theorem d_M_copy_21 : DC b_M_copy 21 (.iload_n 1) 1 22 := ⟨by decide +kernel, rfl⟩
theorem d_M_copy_22 : DC b_M_copy 22 (.iaload) 1 23 := ⟨by decide +kernel, rfl⟩
theorem d_M_copy_23 : DB b_M_copy 23 (.ifCond .lt 12) 12 35 26 := ⟨by decide +kernel, by decide, rfl⟩
theorem d_M_copy_26 : DC b_M_copy 26 (.aload_n 0) 1 27 := ⟨by decide +kernel, rfl⟩
theorem d_M_copy_27 : DC b_M_copy 27 (.getfield 150) 3 30 := ⟨by decide +kernel, rfl⟩
theorem d_M_copy_30 : DC b_M_copy 30 (.iload_n 3) 1 31 := ⟨by decide +kernel, rfl⟩
theorem d_M_copy_31 : DC b_M_copy 31 (.iaload) 1 32 := ⟨by decide +kernel, rfl⟩
theorem d_M_copy_32 : DB b_M_copy 32 (.ifCond .ge 9) 9 41 35 := ⟨by decide +kernel, by decide, rfl⟩
theorem d_M_copy_35 : DC b_M_copy 35 (.aload_n 0) 1 36 := ⟨by decide +kernel, rfl⟩
theorem d_M_copy_36 : DC b_M_copy 36 (.iconst 1) 1 37 := ⟨by decide +kernel, rfl⟩
theorem d_M_copy_37 : DC b_M_copy 37 (.invokevirtual 362) 3 40 := ⟨by decide +kernel, rfl⟩
theorem d_M_copy_40 : decode b_M_copy 40 = .ok (.ireturn, 1) := by decide +kernel
theorem d_M_copy_41 : DC b_M_copy 41 (.aload_n 0) 1 42 := ⟨by decide +kernel, rfl⟩
theorem d_M_copy_42 : DC b_M_copy 42 (.getfield 150) 3 45 := ⟨by decide +kernel, rfl⟩
theorem d_M_copy_45 : DC b_M_copy 45 (.iload_n 1) 1 46 := ⟨by decide +kernel, rfl⟩
theorem d_M_copy_46 : DC b_M_copy 46 (.iaload) 1 47 := ⟨by decide +kernel, rfl⟩
theorem d_M_copy_47 : DC b_M_copy 47 (.aload_n 0) 1 48 := ⟨by decide +kernel, rfl⟩
theorem d_M_copy_48 : DC b_M_copy 48 (.getfield 150) 3 51 := ⟨by decide +kernel, rfl⟩
theorem d_M_copy_51 : DC b_M_copy 51 (.iload_n 3) 1 52 := ⟨by decide +kernel, rfl⟩
theorem d_M_copy_52 : DC b_M_copy 52 (.iaload) 1 53 := ⟨by decide +kernel, rfl⟩
theorem d_M_copy_53 : DB b_M_copy 53 (.if_icmp .eq 9) 9 62 56 := ⟨by decide +kernel, by decide, rfl⟩
theorem d_M_copy_56 : DC b_M_copy 56 (.aload_n 0) 1 57 := ⟨by decide +kernel, rfl⟩
theorem d_M_copy_57 : DC b_M_copy 57 (.iconst 4) 1 58 := ⟨by decide +kernel, rfl⟩
theorem d_M_copy_58 : DC b_M_copy 58 (.invokevirtual 362) 3 61 := ⟨by decide +kernel, rfl⟩
theorem d_M_copy_61 : decode b_M_copy 61 = .ok (.ireturn, 1) := by decide +kernel
theorem d_M_copy_62 : DC b_M_copy 62 (.iload_n 2) 1 63 := ⟨by decide +kernel, rfl⟩
theorem d_M_copy_63 : DB b_M_copy 63 (.ifCond .lt 48) 48 111 66 := ⟨by decide +kernel, by decide, rfl⟩
theorem d_M_copy_66 : DC b_M_copy 66 (.iload 4) 2 68 := ⟨by decide +kernel, rfl⟩
theorem d_M_copy_68 : DB b_M_copy 68 (.ifCond .lt 43) 43 111 71 := ⟨by decide +kernel, by decide, rfl⟩
theorem d_M_copy_71 : DC b_M_copy 71 (.iload 5) 2 73 := ⟨by decide +kernel, rfl⟩
theorem d_M_copy_73 : DB b_M_copy 73 (.ifCond .lt 38) 38 111 76 := ⟨by decide +kernel, by decide, rfl⟩
theorem d_M_copy_76 : DC b_M_copy 76 (.iload_n 2) 1 77 := ⟨by decide +kernel, rfl⟩
theorem d_M_copy_77 : DC b_M_copy 77 (.i2l) 1 78 := ⟨by decide +kernel, rfl⟩
theorem d_M_copy_78 : DC b_M_copy 78 (.iload 5) 2 80 := ⟨by decide +kernel, rfl⟩
theorem d_M_copy_80 : DC b_M_copy 80 (.i2l) 1 81 := ⟨by decide +kernel, rfl⟩
theorem d_M_copy_81 : DC b_M_copy 81 (.ladd) 1 82 := ⟨by decide +kernel, rfl⟩
theorem d_M_copy_82 : DC b_M_copy 82 (.aload_n 0) 1 83 := ⟨by decide +kernel, rfl⟩
theorem d_M_copy_83 : DC b_M_copy 83 (.getfield 153) 3 86 := ⟨by decide +kernel, rfl⟩
theorem d_M_copy_86 : DC b_M_copy 86 (.iload_n 1) 1 87 := ⟨by decide +kernel, rfl⟩
theorem d_M_copy_87 : DC b_M_copy 87 (.iaload) 1 88 := ⟨by decide +kernel, rfl⟩
theorem d_M_copy_88 : DC b_M_copy 88 (.i2l) 1 89 := ⟨by decide +kernel, rfl⟩
theorem d_M_copy_89 : DC b_M_copy 89 (.lcmp) 1 90 := ⟨by decide +kernel, rfl⟩
theorem d_M_copy_90 : DB b_M_copy 90 (.ifCond .gt 21) 21 111 93 := ⟨by decide +kernel, by decide, rfl⟩
theorem d_M_copy_93 : DC b_M_copy 93 (.iload 4) 2 95 := ⟨by decide +kernel, rfl⟩
theorem d_M_copy_95 : DC b_M_copy 95 (.i2l) 1 96 := ⟨by decide +kernel, rfl⟩
theorem d_M_copy_96 : DC b_M_copy 96 (.iload 5) 2 98 := ⟨by decide +kernel, rfl⟩
theorem d_M_copy_98 : DC b_M_copy 98 (.i2l) 1 99 := ⟨by decide +kernel, rfl⟩
theorem d_M_copy_99 : DC b_M_copy 99 (.ladd) 1 100 := ⟨by decide +kernel, rfl⟩
theorem d_M_copy_100 : DC b_M_copy 100 (.aload_n 0) 1 101 := ⟨by decide +kernel, rfl⟩
theorem d_M_copy_101 : DC b_M_copy 101 (.getfield 153) 3 104 := ⟨by decide +kernel, rfl⟩
theorem d_M_copy_104 : DC b_M_copy 104 (.iload_n 3) 1 105 := ⟨by decide +kernel, rfl⟩
theorem d_M_copy_105 : DC b_M_copy 105 (.iaload) 1 106 := ⟨by decide +kernel, rfl⟩
theorem d_M_copy_106 : DC b_M_copy 106 (.i2l) 1 107 := ⟨by decide +kernel, rfl⟩
theorem d_M_copy_107 : DC b_M_copy 107 (.lcmp) 1 108 := ⟨by decide +kernel, rfl⟩
theorem d_M_copy_108 : DB b_M_copy 108 (.ifCond .le 9) 9 117 111 := ⟨by decide +kernel, by decide, rfl⟩
theorem d_M_copy_111 : DC b_M_copy 111 (.aload_n 0) 1 112 := ⟨by decide +kernel, rfl⟩
theorem d_M_copy_112 : DC b_M_copy 112 (.iconst 2) 1 113 := ⟨by decide +kernel, rfl⟩
theorem d_M_copy_113 : DC b_M_copy 113 (.invokevirtual 362) 3 116 := ⟨by decide +kernel, rfl⟩
theorem d_M_copy_116 : decode b_M_copy 116 = .ok (.ireturn, 1) := by decide +kernel
theorem d_M_copy_117 : DC b_M_copy 117 (.iconst 0) 1 118 := ⟨by decide +kernel, rfl⟩
theorem d_M_copy_118 : DC b_M_copy 118 (.istore 6) 2 120 := ⟨by decide +kernel, rfl⟩
theorem d_M_copy_120 : DC b_M_copy 120 (.iload 6) 2 122 := ⟨by decide +kernel, rfl⟩
theorem d_M_copy_122 : DC b_M_copy 122 (.iload 5) 2 124 := ⟨by decide +kernel, rfl⟩
theorem d_M_copy_124 : DB b_M_copy 124 (.if_icmp .ge 30) 30 154 127 := ⟨by decide +kernel, by decide, rfl⟩
theorem d_M_copy_127 : DC b_M_copy 127 (.aload_n 0) 1 128 := ⟨by decide +kernel, rfl⟩
theorem d_M_copy_128 : DC b_M_copy 128 (.getfield 159) 3 131 := ⟨by decide +kernel, rfl⟩
theorem d_M_copy_131 : DC b_M_copy 131 (.iload 6) 2 133 := ⟨by decide +kernel, rfl⟩
theorem d_M_copy_133 : DC b_M_copy 133 (.aload_n 0) 1 134 := ⟨by decide +kernel, rfl⟩
theorem d_M_copy_134 : DC b_M_copy 134 (.getfield 156) 3 137 := ⟨by decide +kernel, rfl⟩
theorem d_M_copy_137 : DC b_M_copy 137 (.bipush 120) 2 139 := ⟨by decide +kernel, rfl⟩
theorem d_M_copy_139 : DC b_M_copy 139 (.iload_n 1) 1 140 := ⟨by decide +kernel, rfl⟩
theorem d_M_copy_140 : DC b_M_copy 140 (.imul) 1 141 := ⟨by decide +kernel, rfl⟩
theorem d_M_copy_141 : DC b_M_copy 141 (.iload_n 2) 1 142 := ⟨by decide +kernel, rfl⟩
theorem d_M_copy_142 : DC b_M_copy 142 (.iadd) 1 143 := ⟨by decide +kernel, rfl⟩
theorem d_M_copy_143 : DC b_M_copy 143 (.iload 6) 2 145 := ⟨by decide +kernel, rfl⟩
theorem d_M_copy_145 : DC b_M_copy 145 (.iadd) 1 146 := ⟨by decide +kernel, rfl⟩
theorem d_M_copy_146 : DC b_M_copy 146 (.iaload) 1 147 := ⟨by decide +kernel, rfl⟩
theorem d_M_copy_147 : DC b_M_copy 147 (.iastore) 1 148 := ⟨by decide +kernel, rfl⟩
theorem d_M_copy_148 : DC b_M_copy 148 (.iinc 6 1) 3 151 := ⟨by decide +kernel, rfl⟩
theorem d_M_copy_151 : DB b_M_copy 151 (.goto (-31)) (-31) 120 154 := ⟨by decide +kernel, by decide, rfl⟩
theorem d_M_copy_154 : DC b_M_copy 154 (.iconst 0) 1 155 := ⟨by decide +kernel, rfl⟩
theorem d_M_copy_155 : DC b_M_copy 155 (.istore 6) 2 157 := ⟨by decide +kernel, rfl⟩
theorem d_M_copy_157 : DC b_M_copy 157 (.iload 6) 2 159 := ⟨by decide +kernel, rfl⟩
theorem d_M_copy_159 : DC b_M_copy 159 (.iload 5) 2 161 := ⟨by decide +kernel, rfl⟩
theorem d_M_copy_161 : DB b_M_copy 161 (.if_icmp .ge 31) 31 192 164 := ⟨by decide +kernel, by decide, rfl⟩
theorem d_M_copy_164 : DC b_M_copy 164 (.aload_n 0) 1 165 := ⟨by decide +kernel, rfl⟩
theorem d_M_copy_165 : DC b_M_copy 165 (.getfield 156) 3 168 := ⟨by decide +kernel, rfl⟩
theorem d_M_copy_168 : DC b_M_copy 168 (.bipush 120) 2 170 := ⟨by decide +kernel, rfl⟩
theorem d_M_copy_170 : DC b_M_copy 170 (.iload_n 3) 1 171 := ⟨by decide +kernel, rfl⟩
theorem d_M_copy_171 : DC b_M_copy 171 (.imul) 1 172 := ⟨by decide +kernel, rfl⟩
theorem d_M_copy_172 : DC b_M_copy 172 (.iload 4) 2 174 := ⟨by decide +kernel, rfl⟩
theorem d_M_copy_174 : DC b_M_copy 174 (.iadd) 1 175 := ⟨by decide +kernel, rfl⟩
theorem d_M_copy_175 : DC b_M_copy 175 (.iload 6) 2 177 := ⟨by decide +kernel, rfl⟩
theorem d_M_copy_177 : DC b_M_copy 177 (.iadd) 1 178 := ⟨by decide +kernel, rfl⟩
theorem d_M_copy_178 : DC b_M_copy 178 (.aload_n 0) 1 179 := ⟨by decide +kernel, rfl⟩
theorem d_M_copy_179 : DC b_M_copy 179 (.getfield 159) 3 182 := ⟨by decide +kernel, rfl⟩
theorem d_M_copy_182 : DC b_M_copy 182 (.iload 6) 2 184 := ⟨by decide +kernel, rfl⟩
theorem d_M_copy_184 : DC b_M_copy 184 (.iaload) 1 185 := ⟨by decide +kernel, rfl⟩
theorem d_M_copy_185 : DC b_M_copy 185 (.iastore) 1 186 := ⟨by decide +kernel, rfl⟩
theorem d_M_copy_186 : DC b_M_copy 186 (.iinc 6 1) 3 189 := ⟨by decide +kernel, rfl⟩
theorem d_M_copy_189 : DB b_M_copy 189 (.goto (-32)) (-32) 157 192 := ⟨by decide +kernel, by decide, rfl⟩
theorem d_M_copy_192 : DC b_M_copy 192 (.iconst 1) 1 193 := ⟨by decide +kernel, rfl⟩
theorem d_M_copy_193 : decode b_M_copy 193 = .ok (.ireturn, 1) := by decide +kernel
theorem w_M_copy_b35 {X : Ctx} {Y : Lay} (hY : IsM Y) (C : Cx X Y b_M_copy 7 (some .int) "TopYardModel" 3) {N : Nat} {r : Int32 × Mem} (μ : Mem) (hf : f_M_copy_b35 N μ = some r) : J X Y (some (.int r.1)) r.2 7 35 [(0, .ref (yad Y 0))] [] μ := by
  unfold f_M_copy_b35 at hf
  refine j_aload_n C d_M_copy_35 0 rfl ?_
  refine j_iconst (v := 1) C d_M_copy_36 (by decide) ?_
  refine bd2 hf (fun v1 μ2 hc3 hf => ?_)
  refine j_cV (rest := []) C lk_M_362 (c_M_met2 hY hc3) rfl (kM hY rfl) (nM hY (by decide)) (by decide) rfl rfl (by decide) rfl (Nat.le_of_ble_eq_true rfl) d_M_copy_37 ?_
  obtain rfl := Option.some.inj hf
  exact j_iret C d_M_copy_40
theorem w_M_copy_b111 {X : Ctx} {Y : Lay} (hY : IsM Y) (C : Cx X Y b_M_copy 7 (some .int) "TopYardModel" 3) {N : Nat} {r : Int32 × Mem} (μ : Mem) (hf : f_M_copy_b111 N μ = some r) : J X Y (some (.int r.1)) r.2 7 111 [(0, .ref (yad Y 0))] [] μ := by
  unfold f_M_copy_b111 at hf
  refine j_aload_n C d_M_copy_111 0 rfl ?_
  refine j_iconst (v := 2) C d_M_copy_112 (by decide) ?_
  refine bd2 hf (fun v1 μ2 hc3 hf => ?_)
  refine j_cV (rest := []) C lk_M_362 (c_M_met2 hY hc3) rfl (kM hY rfl) (nM hY (by decide)) (by decide) rfl rfl (by decide) rfl (Nat.le_of_ble_eq_true rfl) d_M_copy_113 ?_
  obtain rfl := Option.some.inj hf
  exact j_iret C d_M_copy_116
theorem w_M_copy_l157 {X : Ctx} {Y : Lay} (hY : IsM Y) (C : Cx X Y b_M_copy 7 (some .int) "TopYardModel" 3) {N : Nat} {r : Int32 × Mem} : ∀ (n : Nat) (x3 : Int32) (x4 : Int32) (x5 : Int32) (x6 : Int32) (μ : Mem), f_M_copy_l157 N n x3 x4 x5 x6 μ = some r → J X Y (some (.int r.1)) r.2 7 157 [(0, .ref (yad Y 0)), (3, .int x3), (4, .int x4), (5, .int x5), (6, .int x6)] [] μ := by
  intro n
  induction n with
  | zero => intro x3 x4 x5 x6 μ hf; rw [f_M_copy_l157] at hf; cases hf
  | succ n ih =>
    intro x3 x4 x5 x6 μ hf
    rw [f_M_copy_l157] at hf
    refine j_iload C d_M_copy_157 4 rfl ?_
    refine j_iload C d_M_copy_159 3 rfl ?_
    refine j_icmp_ge C d_M_copy_161 hf (fun hf => ?_) (fun hf => ?_)
    · refine j_iconst (v := 1) C d_M_copy_192 (by decide) ?_
      obtain rfl := Option.some.inj hf
      exact j_iret C d_M_copy_193
    · refine j_aload_n C d_M_copy_164 0 rfl ?_
      refine j_gS (b := 47) C fl_M_156 (kM hY rfl) (nM hY (by decide)) rfl hY.2.2.2.1 rfl (sM hY rfl) d_M_copy_165 ?_
      refine j_bipush (v := 120) C d_M_copy_168 (by decide) ?_
      refine j_iload_n C d_M_copy_170 1 rfl ?_
      refine j_imul C d_M_copy_171 ?_
      refine j_iload C d_M_copy_172 2 rfl ?_
      refine j_iadd C d_M_copy_174 ?_
      refine j_iload C d_M_copy_175 4 rfl ?_
      refine j_iadd C d_M_copy_177 ?_
      refine j_aload_n C d_M_copy_178 0 rfl ?_
      refine j_gS (b := 48) C fl_M_159 (kM hY rfl) (nM hY (by decide)) rfl hY.2.2.2.1 rfl (sM hY rfl) d_M_copy_179 ?_
      refine j_iload C d_M_copy_182 4 rfl ?_
      refine ck hf (fun hi1 hf => ?_)
      refine j_iald C (kM hY rfl) (nM hY (by decide)) (lM hY rfl) hi1 d_M_copy_184 ?_
      refine ck hf (fun hi2 hf => ?_)
      refine j_iast C (kM hY rfl) (nM hY (by decide)) (lM hY rfl) hi2 d_M_copy_185 hf (fun μ3 hf => ?_)
      refine j_iinc (lvf := [(0, .ref (yad Y 0)), (3, .int x3), (4, .int x4), (5, .int x5)]) (v := 1) C d_M_copy_186 4 rfl (by decide) (by decide) rfl hf (fun v4 hf => ?_)
      refine j_goto C d_M_copy_189 ?_
      refine j_sub [1, 2, 3, 4, 0] rfl ?_
      exact ih x3 x4 x5 v4 μ3 hf
theorem w_M_copy_l120 {X : Ctx} {Y : Lay} (hY : IsM Y) (C : Cx X Y b_M_copy 7 (some .int) "TopYardModel" 3) {N : Nat} {r : Int32 × Mem} : ∀ (n : Nat) (x1 : Int32) (x2 : Int32) (x3 : Int32) (x4 : Int32) (x5 : Int32) (x6 : Int32) (μ : Mem), f_M_copy_l120 N n x1 x2 x3 x4 x5 x6 μ = some r → J X Y (some (.int r.1)) r.2 7 120 [(0, .ref (yad Y 0)), (1, .int x1), (2, .int x2), (3, .int x3), (4, .int x4), (5, .int x5), (6, .int x6)] [] μ := by
  intro n
  induction n with
  | zero => intro x1 x2 x3 x4 x5 x6 μ hf; rw [f_M_copy_l120] at hf; cases hf
  | succ n ih =>
    intro x1 x2 x3 x4 x5 x6 μ hf
    rw [f_M_copy_l120] at hf
    refine j_iload C d_M_copy_120 6 rfl ?_
    refine j_iload C d_M_copy_122 5 rfl ?_
    refine j_icmp_ge C d_M_copy_124 hf (fun hf => ?_) (fun hf => ?_)
    · refine j_iconst (v := 0) C d_M_copy_154 (by decide) ?_
      refine j_istore (lvf := [(0, .ref (yad Y 0)), (1, .int x1), (2, .int x2), (3, .int x3), (4, .int x4), (5, .int x5)]) C d_M_copy_155 (by decide) rfl ?_
      refine j_sub [1, 4, 5, 6, 0] rfl ?_
      exact w_M_copy_l157 hY C N x3 x4 x5 0 μ hf
    · refine j_aload_n C d_M_copy_127 0 rfl ?_
      refine j_gS (b := 48) C fl_M_159 (kM hY rfl) (nM hY (by decide)) rfl hY.2.2.2.1 rfl (sM hY rfl) d_M_copy_128 ?_
      refine j_iload C d_M_copy_131 6 rfl ?_
      refine j_aload_n C d_M_copy_133 0 rfl ?_
      refine j_gS (b := 47) C fl_M_156 (kM hY rfl) (nM hY (by decide)) rfl hY.2.2.2.1 rfl (sM hY rfl) d_M_copy_134 ?_
      refine j_bipush (v := 120) C d_M_copy_137 (by decide) ?_
      refine j_iload_n C d_M_copy_139 1 rfl ?_
      refine j_imul C d_M_copy_140 ?_
      refine j_iload_n C d_M_copy_141 2 rfl ?_
      refine j_iadd C d_M_copy_142 ?_
      refine j_iload C d_M_copy_143 6 rfl ?_
      refine j_iadd C d_M_copy_145 ?_
      refine ck hf (fun hi1 hf => ?_)
      refine j_iald C (kM hY rfl) (nM hY (by decide)) (lM hY rfl) hi1 d_M_copy_146 ?_
      refine ck hf (fun hi2 hf => ?_)
      refine j_iast C (kM hY rfl) (nM hY (by decide)) (lM hY rfl) hi2 d_M_copy_147 hf (fun μ3 hf => ?_)
      refine j_iinc (lvf := [(0, .ref (yad Y 0)), (1, .int x1), (2, .int x2), (3, .int x3), (4, .int x4), (5, .int x5)]) (v := 1) C d_M_copy_148 6 rfl (by decide) (by decide) rfl hf (fun v4 hf => ?_)
      refine j_goto C d_M_copy_151 ?_
      refine j_sub [1, 2, 3, 4, 5, 6, 0] rfl ?_
      exact ih x1 x2 x3 x4 x5 v4 μ3 hf
theorem c_M_copy {l : Launch} {Y : Lay} (hY : IsM Y) {N : Nat} {μ : Mem} {x1 : Int32} {x2 : Int32} {x3 : Int32} {x4 : Int32} {x5 : Int32} {r : Int32 × Mem} (hf : f_M_copy N μ x1 x2 x3 x4 x5 = some r) : Ct l Y y_M_copy b_M_copy 7 (some .int) 3 [.ref (yad Y 0), .int x1, .int x2, .int x3, .int x4, .int x5] (some (.int r.1)) μ r.2 := by
  refine ct_of (own := "TopYardModel") (lv := [(0, .ref (yad Y 0)), (1, .int x1), (2, .int x2), (3, .int x3), (4, .int x4), (5, .int x5)]) (by decide +kernel) rfl (Nat.le_of_ble_eq_true rfl) rfl (fun X hl C => ?_)
  subst hl
  unfold f_M_copy at hf
  refine j_iload_n C d_M_copy_0 1 rfl ?_
  refine bd hf (fun v1 hc13 hf => ?_)
  refine j_cS (rest := []) C lk_M_359 (c_M_isSheet hY hc13) rfl (by decide) rfl (Nat.le_of_ble_eq_true rfl) d_M_copy_1 ?_
  refine j_if_eq C d_M_copy_4 hf (fun hf => ?_) (fun hf => ?_)
  · refine j_bipush (v := (-2)) C d_M_copy_14 (by decide) ?_
    obtain rfl := Option.some.inj hf
    exact j_iret C d_M_copy_16
  · refine j_iload_n C d_M_copy_7 3 rfl ?_
    refine bd hf (fun v2 hc12 hf => ?_)
    refine j_cS (rest := []) C lk_M_359 (c_M_isSheet hY hc12) rfl (by decide) rfl (Nat.le_of_ble_eq_true rfl) d_M_copy_8 ?_
    refine j_if_ne C d_M_copy_11 hf (fun hf => ?_) (fun hf => ?_)
    · refine j_aload_n C d_M_copy_17 0 rfl ?_
      refine j_gS (b := 45) C fl_M_150 (kM hY rfl) (nM hY (by decide)) rfl hY.2.2.2.1 rfl (sM hY rfl) d_M_copy_18 ?_
      refine j_iload_n C d_M_copy_21 1 rfl ?_
      refine ck hf (fun hi3 hf => ?_)
      refine j_iald C (kM hY rfl) (nM hY (by decide)) (lM hY rfl) hi3 d_M_copy_22 ?_
      refine j_if_lt C d_M_copy_23 hf (fun hf => ?_) (fun hf => ?_)
      · refine j_sub [0] rfl ?_
        exact w_M_copy_b35 hY C μ hf
      · refine j_aload_n C d_M_copy_26 0 rfl ?_
        refine j_gS (b := 45) C fl_M_150 (kM hY rfl) (nM hY (by decide)) rfl hY.2.2.2.1 rfl (sM hY rfl) d_M_copy_27 ?_
        refine j_iload_n C d_M_copy_30 3 rfl ?_
        refine ck hf (fun hi4 hf => ?_)
        refine j_iald C (kM hY rfl) (nM hY (by decide)) (lM hY rfl) hi4 d_M_copy_31 ?_
        refine j_if_ge C d_M_copy_32 hf (fun hf => ?_) (fun hf => ?_)
        · refine j_aload_n C d_M_copy_41 0 rfl ?_
          refine j_gS (b := 45) C fl_M_150 (kM hY rfl) (nM hY (by decide)) rfl hY.2.2.2.1 rfl (sM hY rfl) d_M_copy_42 ?_
          refine j_iload_n C d_M_copy_45 1 rfl ?_
          refine ck hf (fun hi5 hf => ?_)
          refine j_iald C (kM hY rfl) (nM hY (by decide)) (lM hY rfl) hi5 d_M_copy_46 ?_
          refine j_aload_n C d_M_copy_47 0 rfl ?_
          refine j_gS (b := 45) C fl_M_150 (kM hY rfl) (nM hY (by decide)) rfl hY.2.2.2.1 rfl (sM hY rfl) d_M_copy_48 ?_
          refine j_iload_n C d_M_copy_51 3 rfl ?_
          refine ck hf (fun hi6 hf => ?_)
          refine j_iald C (kM hY rfl) (nM hY (by decide)) (lM hY rfl) hi6 d_M_copy_52 ?_
          refine j_icmp_eq C d_M_copy_53 hf (fun hf => ?_) (fun hf => ?_)
          · refine j_iload_n C d_M_copy_62 2 rfl ?_
            refine j_if_lt C d_M_copy_63 hf (fun hf => ?_) (fun hf => ?_)
            · refine j_sub [0] rfl ?_
              exact w_M_copy_b111 hY C μ hf
            · refine j_iload C d_M_copy_66 4 rfl ?_
              refine j_if_lt C d_M_copy_68 hf (fun hf => ?_) (fun hf => ?_)
              · refine j_sub [0] rfl ?_
                exact w_M_copy_b111 hY C μ hf
              · refine j_iload C d_M_copy_71 5 rfl ?_
                refine j_if_lt C d_M_copy_73 hf (fun hf => ?_) (fun hf => ?_)
                · refine j_sub [0] rfl ?_
                  exact w_M_copy_b111 hY C μ hf
                · refine j_iload_n C d_M_copy_76 2 rfl ?_
                  refine j_i2l C d_M_copy_77 ?_
                  refine j_iload C d_M_copy_78 5 rfl ?_
                  refine j_i2l C d_M_copy_80 ?_
                  refine j_ladd C d_M_copy_81 ?_
                  refine j_aload_n C d_M_copy_82 0 rfl ?_
                  refine j_gS (b := 46) C fl_M_153 (kM hY rfl) (nM hY (by decide)) rfl hY.2.2.2.1 rfl (sM hY rfl) d_M_copy_83 ?_
                  refine j_iload_n C d_M_copy_86 1 rfl ?_
                  refine ck hf (fun hi7 hf => ?_)
                  refine j_iald C (kM hY rfl) (nM hY (by decide)) (lM hY rfl) hi7 d_M_copy_87 ?_
                  refine j_i2l C d_M_copy_88 ?_
                  refine j_lcmp_gt C d_M_copy_89 d_M_copy_90 hf (fun hf => ?_) (fun hf => ?_)
                  · refine j_sub [0] rfl ?_
                    exact w_M_copy_b111 hY C μ hf
                  · refine j_iload C d_M_copy_93 4 rfl ?_
                    refine j_i2l C d_M_copy_95 ?_
                    refine j_iload C d_M_copy_96 5 rfl ?_
                    refine j_i2l C d_M_copy_98 ?_
                    refine j_ladd C d_M_copy_99 ?_
                    refine j_aload_n C d_M_copy_100 0 rfl ?_
                    refine j_gS (b := 46) C fl_M_153 (kM hY rfl) (nM hY (by decide)) rfl hY.2.2.2.1 rfl (sM hY rfl) d_M_copy_101 ?_
                    refine j_iload_n C d_M_copy_104 3 rfl ?_
                    refine ck hf (fun hi8 hf => ?_)
                    refine j_iald C (kM hY rfl) (nM hY (by decide)) (lM hY rfl) hi8 d_M_copy_105 ?_
                    refine j_i2l C d_M_copy_106 ?_
                    refine j_lcmp_le C d_M_copy_107 d_M_copy_108 hf (fun hf => ?_) (fun hf => ?_)
                    · refine j_iconst (v := 0) C d_M_copy_117 (by decide) ?_
                      refine j_istore (lvf := [(0, .ref (yad Y 0)), (1, .int x1), (2, .int x2), (3, .int x3), (4, .int x4), (5, .int x5)]) C d_M_copy_118 (by decide) rfl ?_
                      refine j_sub [1, 2, 3, 4, 5, 6, 0] rfl ?_
                      exact w_M_copy_l120 hY C N x1 x2 x3 x4 x5 0 μ hf
                    · refine j_sub [0] rfl ?_
                      exact w_M_copy_b111 hY C μ hf
          · refine j_aload_n C d_M_copy_56 0 rfl ?_
            refine j_iconst (v := 4) C d_M_copy_57 (by decide) ?_
            refine bd2 hf (fun v9 μ10 hc11 hf => ?_)
            refine j_cV (rest := []) C lk_M_362 (c_M_met2 hY hc11) rfl (kM hY rfl) (nM hY (by decide)) (by decide) rfl rfl (by decide) rfl (Nat.le_of_ble_eq_true rfl) d_M_copy_58 ?_
            obtain rfl := Option.some.inj hf
            exact j_iret C d_M_copy_61
        · refine j_sub [0] rfl ?_
          exact w_M_copy_b35 hY C μ hf
    · refine j_bipush (v := (-2)) C d_M_copy_14 (by decide) ?_
      obtain rfl := Option.some.inj hf
      exact j_iret C d_M_copy_16
theorem d_M_write_0 : DC b_M_write 0 (.iload_n 1) 1 1 := ⟨by decide +kernel, rfl⟩
theorem d_M_write_1 : DC b_M_write 1 (.invokestatic 359) 3 4 := ⟨by decide +kernel, rfl⟩
theorem d_M_write_4 : DB b_M_write 4 (.ifCond .eq 15) 15 19 7 := ⟨by decide +kernel, by decide, rfl⟩
theorem d_M_write_7 : DC b_M_write 7 (.iload_n 2) 1 8 := ⟨by decide +kernel, rfl⟩
theorem d_M_write_8 : DC b_M_write 8 (.i2l) 1 9 := ⟨by decide +kernel, rfl⟩
theorem d_M_write_9 : DC b_M_write 9 (.lconst 0) 1 10 := ⟨by decide +kernel, rfl⟩
theorem d_M_write_10 : DC b_M_write 10 (.ldc2_w 239) 3 13 := ⟨by decide +kernel, rfl⟩
theorem d_M_write_13 : DC b_M_write 13 (.invokestatic 164) 3 16 := ⟨by decide +kernel, rfl⟩
theorem d_M_write_16 : DB b_M_write 16 (.ifCond .ne 6) 6 22 19 := ⟨by decide +kernel, by decide, rfl⟩
theorem d_M_write_19 : DC b_M_write 19 (.bipush (-2)) 2 21 := ⟨by decide +kernel, rfl⟩
theorem d_M_write_21 : decode b_M_write 21 = .ok (.ireturn, 1) := by decide +kernel
theorem d_M_write_22 : DC b_M_write 22 (.aload_n 0) 1 23 := ⟨by decide +kernel, rfl⟩
theorem d_M_write_23 : DC b_M_write 23 (.getfield 150) 3 26 := ⟨by decide +kernel, rfl⟩
theorem d_M_write_26 : DC b_M_write 26 (.iload_n 1) 1 27 := ⟨by decide +kernel, rfl⟩
theorem d_M_write_27 : DC b_M_write 27 (.iaload) 1 28 := ⟨by decide +kernel, rfl⟩
theorem d_M_write_28 : DB b_M_write 28 (.ifCond .ge 9) 9 37 31 := ⟨by decide +kernel, by decide, rfl⟩
theorem d_M_write_31 : DC b_M_write 31 (.aload_n 0) 1 32 := ⟨by decide +kernel, rfl⟩
theorem d_M_write_32 : DC b_M_write 32 (.iconst 1) 1 33 := ⟨by decide +kernel, rfl⟩
theorem d_M_write_33 : DC b_M_write 33 (.invokevirtual 362) 3 36 := ⟨by decide +kernel, rfl⟩
theorem d_M_write_36 : decode b_M_write 36 = .ok (.ireturn, 1) := by decide +kernel
theorem d_M_write_37 : DC b_M_write 37 (.aload_n 0) 1 38 := ⟨by decide +kernel, rfl⟩
theorem d_M_write_38 : DC b_M_write 38 (.getfield 231) 3 41 := ⟨by decide +kernel, rfl⟩
theorem d_M_write_41 : DC b_M_write 41 (.iconst 2) 1 42 := ⟨by decide +kernel, rfl⟩
theorem d_M_write_42 : DB b_M_write 42 (.if_icmp .ge 6) 6 48 45 := ⟨by decide +kernel, by decide, rfl⟩
theorem d_M_write_45 : DC b_M_write 45 (.bipush (-3)) 2 47 := ⟨by decide +kernel, rfl⟩
theorem d_M_write_47 : decode b_M_write 47 = .ok (.ireturn, 1) := by decide +kernel
theorem d_M_write_48 : DC b_M_write 48 (.aload_n 0) 1 49 := ⟨by decide +kernel, rfl⟩
theorem d_M_write_49 : DC b_M_write 49 (.iload_n 2) 1 50 := ⟨by decide +kernel, rfl⟩
theorem d_M_write_50 : DC b_M_write 50 (.invokevirtual 289) 3 53 := ⟨by decide +kernel, rfl⟩
theorem d_M_write_53 : DC b_M_write 53 (.istore_n 3) 1 54 := ⟨by decide +kernel, rfl⟩
theorem d_M_write_54 : DC b_M_write 54 (.bipush 8) 2 56 := ⟨by decide +kernel, rfl⟩
theorem d_M_write_56 : DC b_M_write 56 (.aload_n 0) 1 57 := ⟨by decide +kernel, rfl⟩
theorem d_M_write_57 : DC b_M_write 57 (.getfield 231) 3 60 := ⟨by decide +kernel, rfl⟩
theorem d_M_write_60 : DC b_M_write 60 (.imul) 1 61 := ⟨by decide +kernel, rfl⟩
theorem d_M_write_61 : DC b_M_write 61 (.aload_n 0) 1 62 := ⟨by decide +kernel, rfl⟩
theorem d_M_write_62 : DC b_M_write 62 (.getfield 153) 3 65 := ⟨by decide +kernel, rfl⟩
theorem d_M_write_65 : DC b_M_write 65 (.iload_n 1) 1 66 := ⟨by decide +kernel, rfl⟩
theorem d_M_write_66 : DC b_M_write 66 (.iaload) 1 67 := ⟨by decide +kernel, rfl⟩
theorem d_M_write_67 : DB b_M_write 67 (.if_icmp .ge 13) 13 80 70 := ⟨by decide +kernel, by decide, rfl⟩
theorem d_M_write_70 : DC b_M_write 70 (.bipush 8) 2 72 := ⟨by decide +kernel, rfl⟩
theorem d_M_write_72 : DC b_M_write 72 (.aload_n 0) 1 73 := ⟨by decide +kernel, rfl⟩
theorem d_M_write_73 : DC b_M_write 73 (.getfield 231) 3 76 := ⟨by decide +kernel, rfl⟩
theorem d_M_write_76 : DC b_M_write 76 (.imul) 1 77 := ⟨by decide +kernel, rfl⟩
theorem d_M_write_77 : DB b_M_write 77 (.goto 9) 9 86 80 := ⟨by decide +kernel, by decide, rfl⟩
theorem d_M_write_80 : DC b_M_write 80 (.aload_n 0) 1 81 := ⟨by decide +kernel, rfl⟩
theorem d_M_write_81 : DC b_M_write 81 (.getfield 153) 3 84 := ⟨by decide +kernel, rfl⟩
theorem d_M_write_84 : DC b_M_write 84 (.iload_n 1) 1 85 := ⟨by decide +kernel, rfl⟩
theorem d_M_write_85 : DC b_M_write 85 (.iaload) 1 86 := ⟨by decide +kernel, rfl⟩
theorem d_M_write_86 : DC b_M_write 86 (.istore 4) 2 88 := ⟨by decide +kernel, rfl⟩
theorem d_M_write_88 : DC b_M_write 88 (.iconst 0) 1 89 := ⟨by decide +kernel, rfl⟩
theorem d_M_write_89 : DC b_M_write 89 (.istore 5) 2 91 := ⟨by decide +kernel, rfl⟩
theorem d_M_write_91 : DC b_M_write 91 (.iload 5) 2 93 := ⟨by decide +kernel, rfl⟩
theorem d_M_write_93 : DC b_M_write 93 (.iload 4) 2 95 := ⟨by decide +kernel, rfl⟩
theorem d_M_write_95 : DB b_M_write 95 (.if_icmp .ge 44) 44 139 98 := ⟨by decide +kernel, by decide, rfl⟩
theorem d_M_write_98 : DC b_M_write 98 (.aload_n 0) 1 99 := ⟨by decide +kernel, rfl⟩
theorem d_M_write_99 : DC b_M_write 99 (.getfield 156) 3 102 := ⟨by decide +kernel, rfl⟩
theorem d_M_write_102 : DC b_M_write 102 (.bipush 120) 2 104 := ⟨by decide +kernel, rfl⟩
theorem d_M_write_104 : DC b_M_write 104 (.iload_n 1) 1 105 := ⟨by decide +kernel, rfl⟩
theorem d_M_write_105 : DC b_M_write 105 (.imul) 1 106 := ⟨by decide +kernel, rfl⟩
theorem d_M_write_106 : DC b_M_write 106 (.iload 5) 2 108 := ⟨by decide +kernel, rfl⟩
theorem d_M_write_108 : DC b_M_write 108 (.iadd) 1 109 := ⟨by decide +kernel, rfl⟩
theorem d_M_write_109 : DC b_M_write 109 (.aload_n 0) 1 110 := ⟨by decide +kernel, rfl⟩
theorem d_M_write_110 : DC b_M_write 110 (.getfield 150) 3 113 := ⟨by decide +kernel, rfl⟩
theorem d_M_write_113 : DC b_M_write 113 (.iload_n 1) 1 114 := ⟨by decide +kernel, rfl⟩
theorem d_M_write_114 : DC b_M_write 114 (.iaload) 1 115 := ⟨by decide +kernel, rfl⟩
theorem d_M_write_115 : DC b_M_write 115 (.aload_n 0) 1 116 := ⟨by decide +kernel, rfl⟩
theorem d_M_write_116 : DC b_M_write 116 (.iload 5) 2 118 := ⟨by decide +kernel, rfl⟩
theorem d_M_write_118 : DC b_M_write 118 (.bipush 8) 2 120 := ⟨by decide +kernel, rfl⟩
theorem d_M_write_120 : DC b_M_write 120 (.idiv) 1 121 := ⟨by decide +kernel, rfl⟩
theorem d_M_write_121 : DC b_M_write 121 (.iload 5) 2 123 := ⟨by decide +kernel, rfl⟩
theorem d_M_write_123 : DC b_M_write 123 (.bipush 8) 2 125 := ⟨by decide +kernel, rfl⟩
theorem d_M_write_125 : DC b_M_write 125 (.irem) 1 126 := ⟨by decide +kernel, rfl⟩
theorem d_M_write_126 : DC b_M_write 126 (.invokevirtual 295) 3 129 := ⟨by decide +kernel, rfl⟩
theorem d_M_write_129 : DC b_M_write 129 (.invokestatic 432) 3 132 := ⟨by decide +kernel, rfl⟩
theorem d_M_write_132 : DC b_M_write 132 (.iastore) 1 133 := ⟨by decide +kernel, rfl⟩
theorem d_M_write_133 : DC b_M_write 133 (.iinc 5 1) 3 136 := ⟨by decide +kernel, rfl⟩
theorem d_M_write_136 : DB b_M_write 136 (.goto (-45)) (-45) 91 139 := ⟨by decide +kernel, by decide, rfl⟩
theorem d_M_write_139 : DC b_M_write 139 (.iload 4) 2 141 := ⟨by decide +kernel, rfl⟩
theorem d_M_write_141 : decode b_M_write 141 = .ok (.ireturn, 1) := by decide +kernel
theorem w_M_write_l91 {X : Ctx} {Y : Lay} (hY : IsM Y) (C : Cx X Y b_M_write 6 (some .int) "TopYardModel" 7) {N : Nat} {r : Int32 × Mem} : ∀ (n : Nat) (x1 : Int32) (x4 : Int32) (x5 : Int32) (μ : Mem), f_M_write_l91 N n x1 x4 x5 μ = some r → J X Y (some (.int r.1)) r.2 6 91 [(0, .ref (yad Y 0)), (1, .int x1), (4, .int x4), (5, .int x5)] [] μ := by
  intro n
  induction n with
  | zero => intro x1 x4 x5 μ hf; rw [f_M_write_l91] at hf; cases hf
  | succ n ih =>
    intro x1 x4 x5 μ hf
    rw [f_M_write_l91] at hf
    refine j_iload C d_M_write_91 3 rfl ?_
    refine j_iload C d_M_write_93 2 rfl ?_
    refine j_icmp_ge C d_M_write_95 hf (fun hf => ?_) (fun hf => ?_)
    · refine j_iload C d_M_write_139 2 rfl ?_
      obtain rfl := Option.some.inj hf
      exact j_iret C d_M_write_141
    · refine j_aload_n C d_M_write_98 0 rfl ?_
      refine j_gS (b := 47) C fl_M_156 (kM hY rfl) (nM hY (by decide)) rfl hY.2.2.2.1 rfl (sM hY rfl) d_M_write_99 ?_
      refine j_bipush (v := 120) C d_M_write_102 (by decide) ?_
      refine j_iload_n C d_M_write_104 1 rfl ?_
      refine j_imul C d_M_write_105 ?_
      refine j_iload C d_M_write_106 3 rfl ?_
      refine j_iadd C d_M_write_108 ?_
      refine j_aload_n C d_M_write_109 0 rfl ?_
      refine j_gS (b := 45) C fl_M_150 (kM hY rfl) (nM hY (by decide)) rfl hY.2.2.2.1 rfl (sM hY rfl) d_M_write_110 ?_
      refine j_iload_n C d_M_write_113 1 rfl ?_
      refine ck hf (fun hi1 hf => ?_)
      refine j_iald C (kM hY rfl) (nM hY (by decide)) (lM hY rfl) hi1 d_M_write_114 ?_
      refine j_aload_n C d_M_write_115 0 rfl ?_
      refine j_iload C d_M_write_116 3 rfl ?_
      refine j_bipush (v := 8) C d_M_write_118 (by decide) ?_
      refine j_idiv C d_M_write_120 (by decide) ?_
      refine j_iload C d_M_write_121 3 rfl ?_
      refine j_bipush (v := 8) C d_M_write_123 (by decide) ?_
      refine j_irem C d_M_write_125 (by decide) ?_
      refine bd hf (fun v2 hc8 hf => ?_)
      refine j_cV (rest := [.int (gI μ 45 (ix x1)), .int (((120 : Int32) * x1) + x5), .ref (yad Y 47)]) C lk_M_295 (c_M_stateOf hY hc8) rfl (kM hY rfl) (nM hY (by decide)) (by decide) rfl rfl (by decide) rfl (Nat.le_of_ble_eq_true rfl) d_M_write_126 ?_
      refine bd hf (fun v3 hc7 hf => ?_)
      refine j_cS (rest := [.int (((120 : Int32) * x1) + x5), .ref (yad Y 47)]) C lk_M_432 (c_M_cut hY hc7) rfl (by decide) rfl (Nat.le_of_ble_eq_true rfl) d_M_write_129 ?_
      refine ck hf (fun hi4 hf => ?_)
      refine j_iast C (kM hY rfl) (nM hY (by decide)) (lM hY rfl) hi4 d_M_write_132 hf (fun μ5 hf => ?_)
      refine j_iinc (lvf := [(0, .ref (yad Y 0)), (1, .int x1), (4, .int x4)]) (v := 1) C d_M_write_133 3 rfl (by decide) (by decide) rfl hf (fun v6 hf => ?_)
      refine j_goto C d_M_write_136 ?_
      refine j_sub [1, 2, 3, 0] rfl ?_
      exact ih x1 x4 v6 μ5 hf
theorem w_M_write_b86 {X : Ctx} {Y : Lay} (hY : IsM Y) (C : Cx X Y b_M_write 6 (some .int) "TopYardModel" 7) {N : Nat} {r : Int32 × Mem} (x1 : Int32) (xs0 : Int32) (μ : Mem) (hf : f_M_write_b86 N x1 xs0 μ = some r) : J X Y (some (.int r.1)) r.2 6 86 [(0, .ref (yad Y 0)), (1, .int x1)] [.int xs0] μ := by
  unfold f_M_write_b86 at hf
  refine j_istore (lvf := [(0, .ref (yad Y 0)), (1, .int x1)]) C d_M_write_86 (by decide) rfl ?_
  refine j_iconst (v := 0) C d_M_write_88 (by decide) ?_
  refine j_istore (lvf := [(4, .int xs0), (0, .ref (yad Y 0)), (1, .int x1)]) C d_M_write_89 (by decide) rfl ?_
  refine j_sub [2, 3, 1, 0] rfl ?_
  exact w_M_write_l91 hY C N x1 xs0 0 μ hf
theorem c_M_write {l : Launch} {Y : Lay} (hY : IsM Y) {N : Nat} {μ : Mem} {x1 : Int32} {x2 : Int32} {r : Int32 × Mem} (hf : f_M_write N μ x1 x2 = some r) : Ct l Y y_M_write b_M_write 6 (some .int) 7 [.ref (yad Y 0), .int x1, .int x2] (some (.int r.1)) μ r.2 := by
  refine ct_of (own := "TopYardModel") (lv := [(0, .ref (yad Y 0)), (1, .int x1), (2, .int x2)]) (by decide +kernel) rfl (Nat.le_of_ble_eq_true rfl) rfl (fun X hl C => ?_)
  subst hl
  unfold f_M_write at hf
  refine j_iload_n C d_M_write_0 1 rfl ?_
  refine bd hf (fun v1 hc13 hf => ?_)
  refine j_cS (rest := []) C lk_M_359 (c_M_isSheet hY hc13) rfl (by decide) rfl (Nat.le_of_ble_eq_true rfl) d_M_write_1 ?_
  refine j_if_eq C d_M_write_4 hf (fun hf => ?_) (fun hf => ?_)
  · refine j_bipush (v := (-2)) C d_M_write_19 (by decide) ?_
    obtain rfl := Option.some.inj hf
    exact j_iret C d_M_write_21
  · refine j_iload_n C d_M_write_7 2 rfl ?_
    refine j_i2l C d_M_write_8 ?_
    refine j_lconst (v := 0) C d_M_write_9 (by decide) ?_
    refine j_ldc2 (v := 400) C d_M_write_10 wd_185 ?_
    refine bd hf (fun v2 hc12 hf => ?_)
    refine j_cS (rest := []) C lk_M_164 (c_M_in hY hc12) rfl (by decide) rfl (Nat.le_of_ble_eq_true rfl) d_M_write_13 ?_
    refine j_if_ne C d_M_write_16 hf (fun hf => ?_) (fun hf => ?_)
    · refine j_aload_n C d_M_write_22 0 rfl ?_
      refine j_gS (b := 45) C fl_M_150 (kM hY rfl) (nM hY (by decide)) rfl hY.2.2.2.1 rfl (sM hY rfl) d_M_write_23 ?_
      refine j_iload_n C d_M_write_26 1 rfl ?_
      refine ck hf (fun hi3 hf => ?_)
      refine j_iald C (kM hY rfl) (nM hY (by decide)) (lM hY rfl) hi3 d_M_write_27 ?_
      refine j_if_ge C d_M_write_28 hf (fun hf => ?_) (fun hf => ?_)
      · refine j_aload_n C d_M_write_37 0 rfl ?_
        refine j_gI C fl_M_231 (kM hY rfl) (nM hY (by decide)) rfl d_M_write_38 ?_
        refine j_iconst (v := 2) C d_M_write_41 (by decide) ?_
        refine j_icmp_ge C d_M_write_42 hf (fun hf => ?_) (fun hf => ?_)
        · refine j_aload_n C d_M_write_48 0 rfl ?_
          refine j_iload_n C d_M_write_49 2 rfl ?_
          refine bd2 hf (fun v4 μ5 hc8 hf => ?_)
          refine j_cV (rest := []) C lk_M_289 (c_M_runsBout hY hc8) rfl (kM hY rfl) (nM hY (by decide)) (by decide) rfl rfl (by decide) rfl (Nat.le_of_ble_eq_true rfl) d_M_write_50 ?_
          refine j_istore_n (lvf := [(0, .ref (yad Y 0)), (1, .int x1), (2, .int x2)]) C d_M_write_53 (by decide) rfl ?_
          refine j_bipush (v := 8) C d_M_write_54 (by decide) ?_
          refine j_aload_n C d_M_write_56 1 rfl ?_
          refine j_gI C fl_M_231 (kM hY rfl) (nM hY (by decide)) rfl d_M_write_57 ?_
          refine j_imul C d_M_write_60 ?_
          refine j_aload_n C d_M_write_61 1 rfl ?_
          refine j_gS (b := 46) C fl_M_153 (kM hY rfl) (nM hY (by decide)) rfl hY.2.2.2.1 rfl (sM hY rfl) d_M_write_62 ?_
          refine j_iload_n C d_M_write_65 2 rfl ?_
          refine ck hf (fun hi6 hf => ?_)
          refine j_iald C (kM hY rfl) (nM hY (by decide)) (lM hY rfl) hi6 d_M_write_66 ?_
          refine j_icmp_ge C d_M_write_67 hf (fun hf => ?_) (fun hf => ?_)
          · refine j_aload_n C d_M_write_80 1 rfl ?_
            refine j_gS (b := 46) C fl_M_153 (kM hY rfl) (nM hY (by decide)) rfl hY.2.2.2.1 rfl (sM hY rfl) d_M_write_81 ?_
            refine j_iload_n C d_M_write_84 2 rfl ?_
            refine ck hf (fun hi7 hf => ?_)
            refine j_iald C (kM hY rfl) (nM hY (by decide)) (lM hY rfl) hi7 d_M_write_85 ?_
            refine j_sub [1, 2] rfl ?_
            exact w_M_write_b86 hY C x1 (gI μ5 46 (ix x1)) μ5 hf
          · refine j_bipush (v := 8) C d_M_write_70 (by decide) ?_
            refine j_aload_n C d_M_write_72 1 rfl ?_
            refine j_gI C fl_M_231 (kM hY rfl) (nM hY (by decide)) rfl d_M_write_73 ?_
            refine j_imul C d_M_write_76 ?_
            refine j_goto C d_M_write_77 ?_
            refine j_sub [1, 2] rfl ?_
            exact w_M_write_b86 hY C x1 ((8 : Int32) * (gI μ5 0 15)) μ5 hf
        · refine j_bipush (v := (-3)) C d_M_write_45 (by decide) ?_
          obtain rfl := Option.some.inj hf
          exact j_iret C d_M_write_47
      · refine j_aload_n C d_M_write_31 0 rfl ?_
        refine j_iconst (v := 1) C d_M_write_32 (by decide) ?_
        refine bd2 hf (fun v9 μ10 hc11 hf => ?_)
        refine j_cV (rest := []) C lk_M_362 (c_M_met2 hY hc11) rfl (kM hY rfl) (nM hY (by decide)) (by decide) rfl rfl (by decide) rfl (Nat.le_of_ble_eq_true rfl) d_M_write_33 ?_
        obtain rfl := Option.some.inj hf
        exact j_iret C d_M_write_36
    · refine j_bipush (v := (-2)) C d_M_write_19 (by decide) ?_
      obtain rfl := Option.some.inj hf
      exact j_iret C d_M_write_21
theorem d_M_count_0 : DC b_M_count 0 (.iload_n 1) 1 1 := ⟨by decide +kernel, rfl⟩
theorem d_M_count_1 : decode b_M_count 1 = .ok (.tableswitch 114 0 10 #[59, 64, 69, 74, 79, 84, 89, 94, 99, 104, 109], 59) := by decide +kernel
theorem d_M_count_60 : DC b_M_count 60 (.aload_n 0) 1 61 := ⟨by decide +kernel, rfl⟩
theorem d_M_count_61 : DC b_M_count 61 (.getfield 175) 3 64 := ⟨by decide +kernel, rfl⟩
theorem d_M_count_64 : decode b_M_count 64 = .ok (.ireturn, 1) := by decide +kernel
theorem d_M_count_65 : DC b_M_count 65 (.aload_n 0) 1 66 := ⟨by decide +kernel, rfl⟩
theorem d_M_count_66 : DC b_M_count 66 (.getfield 205) 3 69 := ⟨by decide +kernel, rfl⟩
theorem d_M_count_69 : decode b_M_count 69 = .ok (.ireturn, 1) := by decide +kernel
theorem d_M_count_70 : DC b_M_count 70 (.aload_n 0) 1 71 := ⟨by decide +kernel, rfl⟩
theorem d_M_count_71 : DC b_M_count 71 (.getfield 231) 3 74 := ⟨by decide +kernel, rfl⟩
theorem d_M_count_74 : decode b_M_count 74 = .ok (.ireturn, 1) := by decide +kernel
theorem d_M_count_75 : DC b_M_count 75 (.aload_n 0) 1 76 := ⟨by decide +kernel, rfl⟩
theorem d_M_count_76 : DC b_M_count 76 (.getfield 234) 3 79 := ⟨by decide +kernel, rfl⟩
theorem d_M_count_79 : decode b_M_count 79 = .ok (.ireturn, 1) := by decide +kernel
theorem d_M_count_80 : DC b_M_count 80 (.aload_n 0) 1 81 := ⟨by decide +kernel, rfl⟩
theorem d_M_count_81 : DC b_M_count 81 (.getfield 305) 3 84 := ⟨by decide +kernel, rfl⟩
theorem d_M_count_84 : decode b_M_count 84 = .ok (.ireturn, 1) := by decide +kernel
theorem d_M_count_85 : DC b_M_count 85 (.aload_n 0) 1 86 := ⟨by decide +kernel, rfl⟩
theorem d_M_count_86 : DC b_M_count 86 (.getfield 308) 3 89 := ⟨by decide +kernel, rfl⟩
theorem d_M_count_89 : decode b_M_count 89 = .ok (.ireturn, 1) := by decide +kernel
theorem d_M_count_90 : DC b_M_count 90 (.aload_n 0) 1 91 := ⟨by decide +kernel, rfl⟩
theorem d_M_count_91 : DC b_M_count 91 (.getfield 356) 3 94 := ⟨by decide +kernel, rfl⟩
theorem d_M_count_94 : decode b_M_count 94 = .ok (.ireturn, 1) := by decide +kernel
theorem d_M_count_95 : DC b_M_count 95 (.aload_n 0) 1 96 := ⟨by decide +kernel, rfl⟩
theorem d_M_count_96 : DC b_M_count 96 (.getfield 387) 3 99 := ⟨by decide +kernel, rfl⟩
theorem d_M_count_99 : decode b_M_count 99 = .ok (.ireturn, 1) := by decide +kernel
theorem d_M_count_100 : DC b_M_count 100 (.aload_n 0) 1 101 := ⟨by decide +kernel, rfl⟩
theorem d_M_count_101 : DC b_M_count 101 (.getfield 426) 3 104 := ⟨by decide +kernel, rfl⟩
theorem d_M_count_104 : decode b_M_count 104 = .ok (.ireturn, 1) := by decide +kernel
theorem d_M_count_105 : DC b_M_count 105 (.aload_n 0) 1 106 := ⟨by decide +kernel, rfl⟩
theorem d_M_count_106 : DC b_M_count 106 (.getfield 34) 3 109 := ⟨by decide +kernel, rfl⟩
theorem d_M_count_109 : decode b_M_count 109 = .ok (.ireturn, 1) := by decide +kernel
theorem d_M_count_110 : DC b_M_count 110 (.aload_n 0) 1 111 := ⟨by decide +kernel, rfl⟩
theorem d_M_count_111 : DC b_M_count 111 (.getfield 38) 3 114 := ⟨by decide +kernel, rfl⟩
theorem d_M_count_114 : decode b_M_count 114 = .ok (.ireturn, 1) := by decide +kernel
theorem d_M_count_115 : DC b_M_count 115 (.bipush (-2)) 2 117 := ⟨by decide +kernel, rfl⟩
theorem d_M_count_117 : decode b_M_count 117 = .ok (.ireturn, 1) := by decide +kernel
theorem c_M_count {l : Launch} {Y : Lay} (hY : IsM Y) {μ : Mem} {x1 : Int32} {r : Int32} (hf : f_M_count μ x1 = some r) : Ct l Y y_M_count b_M_count 2 (some .int) 1 [.ref (yad Y 0), .int x1] (some (.int r)) μ μ := by
  refine ct_of (own := "TopYardModel") (lv := [(0, .ref (yad Y 0)), (1, .int x1)]) (by decide +kernel) rfl (Nat.le_of_ble_eq_true rfl) rfl (fun X hl C => ?_)
  subst hl
  unfold f_M_count at hf
  refine j_iload_n C d_M_count_0 1 rfl ?_
  refine j_key hf (fun hx1 hf => ?_) (fun hx1 hf => ?_)
  · refine j_tin (tgt' := 60) (off := 59) (v := 0) C d_M_count_1 hx1 (by decide) (by decide) (by decide) (by decide) ?_
    refine j_aload_n C d_M_count_60 0 rfl ?_
    refine j_gI C fl_M_175 (kM hY rfl) (nM hY (by decide)) rfl d_M_count_61 ?_
    obtain rfl := Option.some.inj hf
    exact j_iret C d_M_count_64
  · refine j_key hf (fun hx2 hf => ?_) (fun hx2 hf => ?_)
    · refine j_tin (tgt' := 65) (off := 64) (v := 1) C d_M_count_1 hx2 (by decide) (by decide) (by decide) (by decide) ?_
      refine j_aload_n C d_M_count_65 0 rfl ?_
      refine j_gI C fl_M_205 (kM hY rfl) (nM hY (by decide)) rfl d_M_count_66 ?_
      obtain rfl := Option.some.inj hf
      exact j_iret C d_M_count_69
    · refine j_key hf (fun hx3 hf => ?_) (fun hx3 hf => ?_)
      · refine j_tin (tgt' := 70) (off := 69) (v := 2) C d_M_count_1 hx3 (by decide) (by decide) (by decide) (by decide) ?_
        refine j_aload_n C d_M_count_70 0 rfl ?_
        refine j_gI C fl_M_231 (kM hY rfl) (nM hY (by decide)) rfl d_M_count_71 ?_
        obtain rfl := Option.some.inj hf
        exact j_iret C d_M_count_74
      · refine j_key hf (fun hx4 hf => ?_) (fun hx4 hf => ?_)
        · refine j_tin (tgt' := 75) (off := 74) (v := 3) C d_M_count_1 hx4 (by decide) (by decide) (by decide) (by decide) ?_
          refine j_aload_n C d_M_count_75 0 rfl ?_
          refine j_gI C fl_M_234 (kM hY rfl) (nM hY (by decide)) rfl d_M_count_76 ?_
          obtain rfl := Option.some.inj hf
          exact j_iret C d_M_count_79
        · refine j_key hf (fun hx5 hf => ?_) (fun hx5 hf => ?_)
          · refine j_tin (tgt' := 80) (off := 79) (v := 4) C d_M_count_1 hx5 (by decide) (by decide) (by decide) (by decide) ?_
            refine j_aload_n C d_M_count_80 0 rfl ?_
            refine j_gI C fl_M_305 (kM hY rfl) (nM hY (by decide)) rfl d_M_count_81 ?_
            obtain rfl := Option.some.inj hf
            exact j_iret C d_M_count_84
          · refine j_key hf (fun hx6 hf => ?_) (fun hx6 hf => ?_)
            · refine j_tin (tgt' := 85) (off := 84) (v := 5) C d_M_count_1 hx6 (by decide) (by decide) (by decide) (by decide) ?_
              refine j_aload_n C d_M_count_85 0 rfl ?_
              refine j_gI C fl_M_308 (kM hY rfl) (nM hY (by decide)) rfl d_M_count_86 ?_
              obtain rfl := Option.some.inj hf
              exact j_iret C d_M_count_89
            · refine j_key hf (fun hx7 hf => ?_) (fun hx7 hf => ?_)
              · refine j_tin (tgt' := 90) (off := 89) (v := 6) C d_M_count_1 hx7 (by decide) (by decide) (by decide) (by decide) ?_
                refine j_aload_n C d_M_count_90 0 rfl ?_
                refine j_gI C fl_M_356 (kM hY rfl) (nM hY (by decide)) rfl d_M_count_91 ?_
                obtain rfl := Option.some.inj hf
                exact j_iret C d_M_count_94
              · refine j_key hf (fun hx8 hf => ?_) (fun hx8 hf => ?_)
                · refine j_tin (tgt' := 95) (off := 94) (v := 7) C d_M_count_1 hx8 (by decide) (by decide) (by decide) (by decide) ?_
                  refine j_aload_n C d_M_count_95 0 rfl ?_
                  refine j_gI C fl_M_387 (kM hY rfl) (nM hY (by decide)) rfl d_M_count_96 ?_
                  obtain rfl := Option.some.inj hf
                  exact j_iret C d_M_count_99
                · refine j_key hf (fun hx9 hf => ?_) (fun hx9 hf => ?_)
                  · refine j_tin (tgt' := 100) (off := 99) (v := 8) C d_M_count_1 hx9 (by decide) (by decide) (by decide) (by decide) ?_
                    refine j_aload_n C d_M_count_100 0 rfl ?_
                    refine j_gI C fl_M_426 (kM hY rfl) (nM hY (by decide)) rfl d_M_count_101 ?_
                    obtain rfl := Option.some.inj hf
                    exact j_iret C d_M_count_104
                  · refine j_key hf (fun hx10 hf => ?_) (fun hx10 hf => ?_)
                    · refine j_tin (tgt' := 105) (off := 104) (v := 9) C d_M_count_1 hx10 (by decide) (by decide) (by decide) (by decide) ?_
                      refine j_aload_n C d_M_count_105 0 rfl ?_
                      refine j_gI C fl_M_34 (kM hY rfl) (nM hY (by decide)) rfl d_M_count_106 ?_
                      obtain rfl := Option.some.inj hf
                      exact j_iret C d_M_count_109
                    · refine j_key hf (fun hx11 hf => ?_) (fun hx11 hf => ?_)
                      · refine j_tin (tgt' := 110) (off := 109) (v := 10) C d_M_count_1 hx11 (by decide) (by decide) (by decide) (by decide) ?_
                        refine j_aload_n C d_M_count_110 0 rfl ?_
                        refine j_gI C fl_M_38 (kM hY rfl) (nM hY (by decide)) rfl d_M_count_111 ?_
                        obtain rfl := Option.some.inj hf
                        exact j_iret C d_M_count_114
                      · refine j_tout (tgt' := 115) C d_M_count_1 (by have qhx1 := sw_ne (z := 0) hx1 (by decide); have qhx2 := sw_ne (z := 1) hx2 (by decide); have qhx3 := sw_ne (z := 2) hx3 (by decide); have qhx4 := sw_ne (z := 3) hx4 (by decide); have qhx5 := sw_ne (z := 4) hx5 (by decide); have qhx6 := sw_ne (z := 5) hx6 (by decide); have qhx7 := sw_ne (z := 6) hx7 (by decide); have qhx8 := sw_ne (z := 7) hx8 (by decide); have qhx9 := sw_ne (z := 8) hx9 (by decide); have qhx10 := sw_ne (z := 9) hx10 (by decide); have qhx11 := sw_ne (z := 10) hx11 (by decide); omega) (by decide) ?_
                        refine j_bipush (v := (-2)) C d_M_count_115 (by decide) ?_
                        obtain rfl := Option.some.inj hf
                        exact j_iret C d_M_count_117
theorem d_M_digest_0 : DC b_M_digest 0 (.ldc2_w 435) 3 3 := ⟨by decide +kernel, rfl⟩
theorem d_M_digest_3 : DC b_M_digest 3 (.lstore_n 1) 1 4 := ⟨by decide +kernel, rfl⟩
theorem d_M_digest_4 : DC b_M_digest 4 (.iconst 0) 1 5 := ⟨by decide +kernel, rfl⟩
theorem d_M_digest_5 : DC b_M_digest 5 (.istore_n 3) 1 6 := ⟨by decide +kernel, rfl⟩
theorem d_M_digest_6 : DC b_M_digest 6 (.iload_n 3) 1 7 := ⟨by decide +kernel, rfl⟩
theorem d_M_digest_7 : DC b_M_digest 7 (.bipush 11) 2 9 := ⟨by decide +kernel, rfl⟩
theorem d_M_digest_9 : DB b_M_digest 9 (.if_icmp .ge 32) 32 41 12 := ⟨by decide +kernel, by decide, rfl⟩
theorem d_M_digest_12 : DC b_M_digest 12 (.iload_n 3) 1 13 := ⟨by decide +kernel, rfl⟩
theorem d_M_digest_13 : DC b_M_digest 13 (.bipush 8) 2 15 := ⟨by decide +kernel, rfl⟩
theorem d_M_digest_15 : DB b_M_digest 15 (.if_icmp .ne 7) 7 22 18 := ⟨by decide +kernel, by decide, rfl⟩
theorem d_M_digest_18 : DC b_M_digest 18 (.lload_n 1) 1 19 := ⟨by decide +kernel, rfl⟩
theorem d_M_digest_19 : DB b_M_digest 19 (.goto 15) 15 34 22 := ⟨by decide +kernel, by decide, rfl⟩
theorem d_M_digest_22 : DC b_M_digest 22 (.ldc2_w 199) 3 25 := ⟨by decide +kernel, rfl⟩
theorem d_M_digest_25 : DC b_M_digest 25 (.lload_n 1) 1 26 := ⟨by decide +kernel, rfl⟩
theorem d_M_digest_26 : DC b_M_digest 26 (.lmul) 1 27 := ⟨by decide +kernel, rfl⟩
theorem d_M_digest_27 : DC b_M_digest 27 (.aload_n 0) 1 28 := ⟨by decide +kernel, rfl⟩
theorem d_M_digest_28 : DC b_M_digest 28 (.iload_n 3) 1 29 := ⟨by decide +kernel, rfl⟩
theorem d_M_digest_29 : DC b_M_digest 29 (.invokevirtual 437) 3 32 := ⟨by decide +kernel, rfl⟩
theorem d_M_digest_32 : DC b_M_digest 32 (.i2l) 1 33 := ⟨by decide +kernel, rfl⟩
theorem d_M_digest_33 : DC b_M_digest 33 (.ladd) 1 34 := ⟨by decide +kernel, rfl⟩
theorem d_M_digest_34 : DC b_M_digest 34 (.lstore_n 1) 1 35 := ⟨by decide +kernel, rfl⟩
theorem d_M_digest_35 : DC b_M_digest 35 (.iinc 3 1) 3 38 := ⟨by decide +kernel, rfl⟩
theorem d_M_digest_38 : DB b_M_digest 38 (.goto (-32)) (-32) 6 41 := ⟨by decide +kernel, by decide, rfl⟩
theorem d_M_digest_41 : DC b_M_digest 41 (.iconst 0) 1 42 := ⟨by decide +kernel, rfl⟩
theorem d_M_digest_42 : DC b_M_digest 42 (.istore_n 3) 1 43 := ⟨by decide +kernel, rfl⟩
theorem d_M_digest_43 : DC b_M_digest 43 (.iload_n 3) 1 44 := ⟨by decide +kernel, rfl⟩
theorem d_M_digest_44 : DC b_M_digest 44 (.aload_n 0) 1 45 := ⟨by decide +kernel, rfl⟩
theorem d_M_digest_45 : DC b_M_digest 45 (.getfield 175) 3 48 := ⟨by decide +kernel, rfl⟩
theorem d_M_digest_48 : DB b_M_digest 48 (.if_icmp .ge 37) 37 85 51 := ⟨by decide +kernel, by decide, rfl⟩
theorem d_M_digest_51 : DC b_M_digest 51 (.ldc2_w 199) 3 54 := ⟨by decide +kernel, rfl⟩
theorem d_M_digest_54 : DC b_M_digest 54 (.lload_n 1) 1 55 := ⟨by decide +kernel, rfl⟩
theorem d_M_digest_55 : DC b_M_digest 55 (.lmul) 1 56 := ⟨by decide +kernel, rfl⟩
theorem d_M_digest_56 : DC b_M_digest 56 (.aload_n 0) 1 57 := ⟨by decide +kernel, rfl⟩
theorem d_M_digest_57 : DC b_M_digest 57 (.getfield 25) 3 60 := ⟨by decide +kernel, rfl⟩
theorem d_M_digest_60 : DC b_M_digest 60 (.iload_n 3) 1 61 := ⟨by decide +kernel, rfl⟩
theorem d_M_digest_61 : DC b_M_digest 61 (.iaload) 1 62 := ⟨by decide +kernel, rfl⟩
theorem d_M_digest_62 : DC b_M_digest 62 (.i2l) 1 63 := ⟨by decide +kernel, rfl⟩
theorem d_M_digest_63 : DC b_M_digest 63 (.ladd) 1 64 := ⟨by decide +kernel, rfl⟩
theorem d_M_digest_64 : DC b_M_digest 64 (.lstore_n 1) 1 65 := ⟨by decide +kernel, rfl⟩
theorem d_M_digest_65 : DC b_M_digest 65 (.ldc2_w 199) 3 68 := ⟨by decide +kernel, rfl⟩
theorem d_M_digest_68 : DC b_M_digest 68 (.lload_n 1) 1 69 := ⟨by decide +kernel, rfl⟩
theorem d_M_digest_69 : DC b_M_digest 69 (.lmul) 1 70 := ⟨by decide +kernel, rfl⟩
theorem d_M_digest_70 : DC b_M_digest 70 (.aload_n 0) 1 71 := ⟨by decide +kernel, rfl⟩
theorem d_M_digest_71 : DC b_M_digest 71 (.getfield 28) 3 74 := ⟨by decide +kernel, rfl⟩
theorem d_M_digest_74 : DC b_M_digest 74 (.iload_n 3) 1 75 := ⟨by decide +kernel, rfl⟩
theorem d_M_digest_75 : DC b_M_digest 75 (.iaload) 1 76 := ⟨by decide +kernel, rfl⟩
theorem d_M_digest_76 : DC b_M_digest 76 (.i2l) 1 77 := ⟨by decide +kernel, rfl⟩
theorem d_M_digest_77 : DC b_M_digest 77 (.ladd) 1 78 := ⟨by decide +kernel, rfl⟩
theorem d_M_digest_78 : DC b_M_digest 78 (.lstore_n 1) 1 79 := ⟨by decide +kernel, rfl⟩
theorem d_M_digest_79 : DC b_M_digest 79 (.iinc 3 1) 3 82 := ⟨by decide +kernel, rfl⟩
theorem d_M_digest_82 : DB b_M_digest 82 (.goto (-39)) (-39) 43 85 := ⟨by decide +kernel, by decide, rfl⟩
theorem d_M_digest_85 : DC b_M_digest 85 (.iconst 0) 1 86 := ⟨by decide +kernel, rfl⟩
theorem d_M_digest_86 : DC b_M_digest 86 (.istore_n 3) 1 87 := ⟨by decide +kernel, rfl⟩
theorem d_M_digest_87 : DC b_M_digest 87 (.iload_n 3) 1 88 := ⟨by decide +kernel, rfl⟩
theorem d_M_digest_88 : DC b_M_digest 88 (.bipush 8) 2 90 := ⟨by decide +kernel, rfl⟩
theorem d_M_digest_90 : DB b_M_digest 90 (.if_icmp .ge 23) 23 113 93 := ⟨by decide +kernel, by decide, rfl⟩
theorem d_M_digest_93 : DC b_M_digest 93 (.ldc2_w 199) 3 96 := ⟨by decide +kernel, rfl⟩
theorem d_M_digest_96 : DC b_M_digest 96 (.lload_n 1) 1 97 := ⟨by decide +kernel, rfl⟩
theorem d_M_digest_97 : DC b_M_digest 97 (.lmul) 1 98 := ⟨by decide +kernel, rfl⟩
theorem d_M_digest_98 : DC b_M_digest 98 (.aload_n 0) 1 99 := ⟨by decide +kernel, rfl⟩
theorem d_M_digest_99 : DC b_M_digest 99 (.getfield 31) 3 102 := ⟨by decide +kernel, rfl⟩
theorem d_M_digest_102 : DC b_M_digest 102 (.iload_n 3) 1 103 := ⟨by decide +kernel, rfl⟩
theorem d_M_digest_103 : DC b_M_digest 103 (.iaload) 1 104 := ⟨by decide +kernel, rfl⟩
theorem d_M_digest_104 : DC b_M_digest 104 (.i2l) 1 105 := ⟨by decide +kernel, rfl⟩
theorem d_M_digest_105 : DC b_M_digest 105 (.ladd) 1 106 := ⟨by decide +kernel, rfl⟩
theorem d_M_digest_106 : DC b_M_digest 106 (.lstore_n 1) 1 107 := ⟨by decide +kernel, rfl⟩
theorem d_M_digest_107 : DC b_M_digest 107 (.iinc 3 1) 3 110 := ⟨by decide +kernel, rfl⟩
theorem d_M_digest_110 : DB b_M_digest 110 (.goto (-23)) (-23) 87 113 := ⟨by decide +kernel, by decide, rfl⟩
theorem d_M_digest_113 : DC b_M_digest 113 (.ldc2_w 199) 3 116 := ⟨by decide +kernel, rfl⟩
theorem d_M_digest_116 : DC b_M_digest 116 (.lload_n 1) 1 117 := ⟨by decide +kernel, rfl⟩
theorem d_M_digest_117 : DC b_M_digest 117 (.lmul) 1 118 := ⟨by decide +kernel, rfl⟩
theorem d_M_digest_118 : DC b_M_digest 118 (.aload_n 0) 1 119 := ⟨by decide +kernel, rfl⟩
theorem d_M_digest_119 : DC b_M_digest 119 (.invokevirtual 440) 3 122 := ⟨by decide +kernel, rfl⟩
theorem d_M_digest_122 : DC b_M_digest 122 (.i2l) 1 123 := ⟨by decide +kernel, rfl⟩
theorem d_M_digest_123 : DC b_M_digest 123 (.ladd) 1 124 := ⟨by decide +kernel, rfl⟩
theorem d_M_digest_124 : DC b_M_digest 124 (.lstore_n 1) 1 125 := ⟨by decide +kernel, rfl⟩
theorem d_M_digest_125 : DC b_M_digest 125 (.ldc2_w 199) 3 128 := ⟨by decide +kernel, rfl⟩
theorem d_M_digest_128 : DC b_M_digest 128 (.lload_n 1) 1 129 := ⟨by decide +kernel, rfl⟩
theorem d_M_digest_129 : DC b_M_digest 129 (.lmul) 1 130 := ⟨by decide +kernel, rfl⟩
theorem d_M_digest_130 : DC b_M_digest 130 (.aload_n 0) 1 131 := ⟨by decide +kernel, rfl⟩
theorem d_M_digest_131 : DC b_M_digest 131 (.invokevirtual 443) 3 134 := ⟨by decide +kernel, rfl⟩
theorem d_M_digest_134 : DC b_M_digest 134 (.i2l) 1 135 := ⟨by decide +kernel, rfl⟩
theorem d_M_digest_135 : DC b_M_digest 135 (.ladd) 1 136 := ⟨by decide +kernel, rfl⟩
theorem d_M_digest_136 : DC b_M_digest 136 (.lstore_n 1) 1 137 := ⟨by decide +kernel, rfl⟩
theorem d_M_digest_137 : DC b_M_digest 137 (.ldc2_w 199) 3 140 := ⟨by decide +kernel, rfl⟩
theorem d_M_digest_140 : DC b_M_digest 140 (.lload_n 1) 1 141 := ⟨by decide +kernel, rfl⟩
theorem d_M_digest_141 : DC b_M_digest 141 (.lmul) 1 142 := ⟨by decide +kernel, rfl⟩
theorem d_M_digest_142 : DC b_M_digest 142 (.aload_n 0) 1 143 := ⟨by decide +kernel, rfl⟩
theorem d_M_digest_143 : DC b_M_digest 143 (.invokevirtual 446) 3 146 := ⟨by decide +kernel, rfl⟩
theorem d_M_digest_146 : DC b_M_digest 146 (.i2l) 1 147 := ⟨by decide +kernel, rfl⟩
theorem d_M_digest_147 : DC b_M_digest 147 (.ladd) 1 148 := ⟨by decide +kernel, rfl⟩
theorem d_M_digest_148 : DC b_M_digest 148 (.lstore_n 1) 1 149 := ⟨by decide +kernel, rfl⟩
theorem d_M_digest_149 : DC b_M_digest 149 (.iconst 0) 1 150 := ⟨by decide +kernel, rfl⟩
theorem d_M_digest_150 : DC b_M_digest 150 (.istore_n 3) 1 151 := ⟨by decide +kernel, rfl⟩
theorem d_M_digest_151 : DC b_M_digest 151 (.iload_n 3) 1 152 := ⟨by decide +kernel, rfl⟩
theorem d_M_digest_152 : DC b_M_digest 152 (.bipush 8) 2 154 := ⟨by decide +kernel, rfl⟩
theorem d_M_digest_154 : DB b_M_digest 154 (.if_icmp .ge 47) 47 201 157 := ⟨by decide +kernel, by decide, rfl⟩
theorem d_M_digest_157 : DC b_M_digest 157 (.iload_n 3) 1 158 := ⟨by decide +kernel, rfl⟩
theorem d_M_digest_158 : DC b_M_digest 158 (.iconst 1) 1 159 := ⟨by decide +kernel, rfl⟩
theorem d_M_digest_159 : DC b_M_digest 159 (.iadd) 1 160 := ⟨by decide +kernel, rfl⟩
theorem d_M_digest_160 : DC b_M_digest 160 (.istore 4) 2 162 := ⟨by decide +kernel, rfl⟩
theorem d_M_digest_162 : DC b_M_digest 162 (.iload 4) 2 164 := ⟨by decide +kernel, rfl⟩
theorem d_M_digest_164 : DC b_M_digest 164 (.bipush 8) 2 166 := ⟨by decide +kernel, rfl⟩
theorem d_M_digest_166 : DB b_M_digest 166 (.if_icmp .ge 29) 29 195 169 := ⟨by decide +kernel, by decide, rfl⟩
theorem d_M_digest_169 : DC b_M_digest 169 (.ldc2_w 199) 3 172 := ⟨by decide +kernel, rfl⟩
theorem d_M_digest_172 : DC b_M_digest 172 (.lload_n 1) 1 173 := ⟨by decide +kernel, rfl⟩
theorem d_M_digest_173 : DC b_M_digest 173 (.lmul) 1 174 := ⟨by decide +kernel, rfl⟩
theorem d_M_digest_174 : DC b_M_digest 174 (.aload_n 0) 1 175 := ⟨by decide +kernel, rfl⟩
theorem d_M_digest_175 : DC b_M_digest 175 (.getfield 141) 3 178 := ⟨by decide +kernel, rfl⟩
theorem d_M_digest_178 : DC b_M_digest 178 (.bipush 8) 2 180 := ⟨by decide +kernel, rfl⟩
theorem d_M_digest_180 : DC b_M_digest 180 (.iload_n 3) 1 181 := ⟨by decide +kernel, rfl⟩
theorem d_M_digest_181 : DC b_M_digest 181 (.imul) 1 182 := ⟨by decide +kernel, rfl⟩
theorem d_M_digest_182 : DC b_M_digest 182 (.iload 4) 2 184 := ⟨by decide +kernel, rfl⟩
theorem d_M_digest_184 : DC b_M_digest 184 (.iadd) 1 185 := ⟨by decide +kernel, rfl⟩
theorem d_M_digest_185 : DC b_M_digest 185 (.iaload) 1 186 := ⟨by decide +kernel, rfl⟩
theorem d_M_digest_186 : DC b_M_digest 186 (.i2l) 1 187 := ⟨by decide +kernel, rfl⟩
theorem d_M_digest_187 : DC b_M_digest 187 (.ladd) 1 188 := ⟨by decide +kernel, rfl⟩
theorem d_M_digest_188 : DC b_M_digest 188 (.lstore_n 1) 1 189 := ⟨by decide +kernel, rfl⟩
theorem d_M_digest_189 : DC b_M_digest 189 (.iinc 4 1) 3 192 := ⟨by decide +kernel, rfl⟩
theorem d_M_digest_192 : DB b_M_digest 192 (.goto (-30)) (-30) 162 195 := ⟨by decide +kernel, by decide, rfl⟩
theorem d_M_digest_195 : DC b_M_digest 195 (.iinc 3 1) 3 198 := ⟨by decide +kernel, rfl⟩
theorem d_M_digest_198 : DB b_M_digest 198 (.goto (-47)) (-47) 151 201 := ⟨by decide +kernel, by decide, rfl⟩
theorem d_M_digest_201 : DC b_M_digest 201 (.lload_n 1) 1 202 := ⟨by decide +kernel, rfl⟩
theorem d_M_digest_202 : decode b_M_digest 202 = .ok (.lreturn, 1) := by decide +kernel
theorem w_M_digest_b34 {X : Ctx} {Y : Lay} (hY : IsM Y) (C : Cx X Y b_M_digest 5 (some .long) "TopYardModel" 8) {N : Nat} {r : Int64 × Mem} (k6 : Int64 → Int32 → Mem → Option (Int64 × Mem)) (hk6 : ∀ (x1 : Int64) (x3 : Int32) (ν : Mem), k6 x1 x3 ν = some r → J X Y (some (.long r.1)) r.2 5 6 [(0, .ref (yad Y 0)), (1, .long x1), (3, .int x3)] [] ν) (x3 : Int32) (xs0 : Int64) (μ : Mem) (hf : f_M_digest_b34 N k6 x3 xs0 μ = some r) : J X Y (some (.long r.1)) r.2 5 34 [(0, .ref (yad Y 0)), (3, .int x3)] [.long xs0] μ := by
  unfold f_M_digest_b34 at hf
  refine j_lstore_n (lvf := [(0, .ref (yad Y 0)), (3, .int x3)]) C d_M_digest_34 (by decide) rfl ?_
  refine j_iinc (lvf := [(1, .long xs0), (0, .ref (yad Y 0))]) (v := 1) C d_M_digest_35 2 rfl (by decide) (by decide) rfl hf (fun v1 hf => ?_)
  refine j_goto C d_M_digest_38 ?_
  refine j_sub [2, 1, 0] rfl ?_
  exact hk6 xs0 v1 μ hf
theorem w_M_digest_l162 {X : Ctx} {Y : Lay} (hY : IsM Y) (C : Cx X Y b_M_digest 5 (some .long) "TopYardModel" 8) {N : Nat} {r : Int64 × Mem} (k151 : Int64 → Int32 → Mem → Option (Int64 × Mem)) (hk151 : ∀ (x1 : Int64) (x3 : Int32) (ν : Mem), k151 x1 x3 ν = some r → J X Y (some (.long r.1)) r.2 5 151 [(0, .ref (yad Y 0)), (1, .long x1), (3, .int x3)] [] ν) : ∀ (n : Nat) (x1 : Int64) (x3 : Int32) (x4 : Int32) (μ : Mem), f_M_digest_l162 N k151 n x1 x3 x4 μ = some r → J X Y (some (.long r.1)) r.2 5 162 [(0, .ref (yad Y 0)), (1, .long x1), (3, .int x3), (4, .int x4)] [] μ := by
  intro n
  induction n with
  | zero => intro x1 x3 x4 μ hf; rw [f_M_digest_l162] at hf; cases hf
  | succ n ih =>
    intro x1 x3 x4 μ hf
    rw [f_M_digest_l162] at hf
    refine j_iload C d_M_digest_162 3 rfl ?_
    refine j_bipush (v := 8) C d_M_digest_164 (by decide) ?_
    refine j_icmp_ge C d_M_digest_166 hf (fun hf => ?_) (fun hf => ?_)
    · refine j_iinc (lvf := [(0, .ref (yad Y 0)), (1, .long x1), (4, .int x4)]) (v := 1) C d_M_digest_195 2 rfl (by decide) (by decide) rfl hf (fun v1 hf => ?_)
      refine j_goto C d_M_digest_198 ?_
      refine j_sub [1, 2, 0] rfl ?_
      exact hk151 x1 v1 μ hf
    · refine j_ldc2 (v := 31) C d_M_digest_169 wd_162 ?_
      refine j_lload_n C d_M_digest_172 1 rfl ?_
      refine j_lmul C d_M_digest_173 ?_
      refine j_aload_n C d_M_digest_174 0 rfl ?_
      refine j_gS (b := 42) C fl_M_141 (kM hY rfl) (nM hY (by decide)) rfl hY.2.2.2.1 rfl (sM hY rfl) d_M_digest_175 ?_
      refine j_bipush (v := 8) C d_M_digest_178 (by decide) ?_
      refine j_iload_n C d_M_digest_180 2 rfl ?_
      refine j_imul C d_M_digest_181 ?_
      refine j_iload C d_M_digest_182 3 rfl ?_
      refine j_iadd C d_M_digest_184 ?_
      refine ck hf (fun hi2 hf => ?_)
      refine j_iald C (kM hY rfl) (nM hY (by decide)) (lM hY rfl) hi2 d_M_digest_185 ?_
      refine j_i2l C d_M_digest_186 ?_
      refine j_ladd C d_M_digest_187 ?_
      refine j_lstore_nN (lvf := [(0, .ref (yad Y 0)), (3, .int x3), (4, .int x4)]) C d_M_digest_188 (by decide) rfl hf (fun v3 hf => ?_)
      refine j_iinc (lvf := [(1, .long v3), (0, .ref (yad Y 0)), (3, .int x3)]) (v := 1) C d_M_digest_189 3 rfl (by decide) (by decide) rfl hf (fun v4 hf => ?_)
      refine j_goto C d_M_digest_192 ?_
      refine j_sub [2, 1, 3, 0] rfl ?_
      exact ih v3 x3 v4 μ hf
theorem w_M_digest_l151 {X : Ctx} {Y : Lay} (hY : IsM Y) (C : Cx X Y b_M_digest 5 (some .long) "TopYardModel" 8) {N : Nat} {r : Int64 × Mem} : ∀ (n : Nat) (x1 : Int64) (x3 : Int32) (μ : Mem), f_M_digest_l151 N n x1 x3 μ = some r → J X Y (some (.long r.1)) r.2 5 151 [(0, .ref (yad Y 0)), (1, .long x1), (3, .int x3)] [] μ := by
  intro n
  induction n with
  | zero => intro x1 x3 μ hf; rw [f_M_digest_l151] at hf; cases hf
  | succ n ih =>
    intro x1 x3 μ hf
    rw [f_M_digest_l151] at hf
    refine j_iload_n C d_M_digest_151 2 rfl ?_
    refine j_bipush (v := 8) C d_M_digest_152 (by decide) ?_
    refine j_icmp_ge C d_M_digest_154 hf (fun hf => ?_) (fun hf => ?_)
    · refine j_lload_n C d_M_digest_201 1 rfl ?_
      obtain rfl := Option.some.inj hf
      exact j_lret C d_M_digest_202
    · refine j_iload_n C d_M_digest_157 2 rfl ?_
      refine j_iconst (v := 1) C d_M_digest_158 (by decide) ?_
      refine j_iadd C d_M_digest_159 ?_
      refine j_istoreN (lvf := [(0, .ref (yad Y 0)), (1, .long x1), (3, .int x3)]) C d_M_digest_160 (by decide) rfl hf (fun v1 hf => ?_)
      refine j_sub [1, 2, 3, 0] rfl ?_
      exact w_M_digest_l162 hY C (f_M_digest_l151 N n) ih N x1 x3 v1 μ hf
theorem w_M_digest_l87 {X : Ctx} {Y : Lay} (hY : IsM Y) (C : Cx X Y b_M_digest 5 (some .long) "TopYardModel" 8) {N : Nat} {r : Int64 × Mem} : ∀ (n : Nat) (x1 : Int64) (x3 : Int32) (μ : Mem), f_M_digest_l87 N n x1 x3 μ = some r → J X Y (some (.long r.1)) r.2 5 87 [(0, .ref (yad Y 0)), (1, .long x1), (3, .int x3)] [] μ := by
  intro n
  induction n with
  | zero => intro x1 x3 μ hf; rw [f_M_digest_l87] at hf; cases hf
  | succ n ih =>
    intro x1 x3 μ hf
    rw [f_M_digest_l87] at hf
    refine j_iload_n C d_M_digest_87 2 rfl ?_
    refine j_bipush (v := 8) C d_M_digest_88 (by decide) ?_
    refine j_icmp_ge C d_M_digest_90 hf (fun hf => ?_) (fun hf => ?_)
    · refine j_ldc2 (v := 31) C d_M_digest_113 wd_162 ?_
      refine j_lload_n C d_M_digest_116 1 rfl ?_
      refine j_lmul C d_M_digest_117 ?_
      refine j_aload_n C d_M_digest_118 0 rfl ?_
      refine bd2 hf (fun v1 μ2 hc12 hf => ?_)
      refine j_cV (rest := [.long ((31 : Int64) * x1)]) C lk_M_440 (c_M_run hY hc12) rfl (kM hY rfl) (nM hY (by decide)) (by decide) rfl rfl (by decide) rfl (Nat.le_of_ble_eq_true rfl) d_M_digest_119 ?_
      refine j_i2l C d_M_digest_122 ?_
      refine j_ladd C d_M_digest_123 ?_
      refine j_lstore_nN (lvf := [(0, .ref (yad Y 0)), (3, .int x3)]) C d_M_digest_124 (by decide) rfl hf (fun v3 hf => ?_)
      refine j_ldc2 (v := 31) C d_M_digest_125 wd_162 ?_
      refine j_lload_n C d_M_digest_128 0 rfl ?_
      refine j_lmul C d_M_digest_129 ?_
      refine j_aload_n C d_M_digest_130 1 rfl ?_
      refine bd2 hf (fun v4 μ5 hc11 hf => ?_)
      refine j_cV (rest := [.long ((31 : Int64) * v3)]) C lk_M_443 (c_M_winner hY hc11) rfl (kM hY rfl) (nM hY (by decide)) (by decide) rfl rfl (by decide) rfl (Nat.le_of_ble_eq_true rfl) d_M_digest_131 ?_
      refine j_i2l C d_M_digest_134 ?_
      refine j_ladd C d_M_digest_135 ?_
      refine j_lstore_nN (lvf := [(0, .ref (yad Y 0)), (3, .int x3)]) C d_M_digest_136 (by decide) rfl hf (fun v6 hf => ?_)
      refine j_ldc2 (v := 31) C d_M_digest_137 wd_162 ?_
      refine j_lload_n C d_M_digest_140 0 rfl ?_
      refine j_lmul C d_M_digest_141 ?_
      refine j_aload_n C d_M_digest_142 1 rfl ?_
      refine bd2 hf (fun v7 μ8 hc10 hf => ?_)
      refine j_cV (rest := [.long ((31 : Int64) * v6)]) C lk_M_446 (c_M_value hY hc10) rfl (kM hY rfl) (nM hY (by decide)) (by decide) rfl rfl (by decide) rfl (Nat.le_of_ble_eq_true rfl) d_M_digest_143 ?_
      refine j_i2l C d_M_digest_146 ?_
      refine j_ladd C d_M_digest_147 ?_
      refine j_lstore_nN (lvf := [(0, .ref (yad Y 0)), (3, .int x3)]) C d_M_digest_148 (by decide) rfl hf (fun v9 hf => ?_)
      refine j_iconst (v := 0) C d_M_digest_149 (by decide) ?_
      refine j_istore_n (lvf := [(1, .long v9), (0, .ref (yad Y 0))]) C d_M_digest_150 (by decide) rfl ?_
      refine j_sub [2, 1, 0] rfl ?_
      exact w_M_digest_l151 hY C N v9 0 μ8 hf
    · refine j_ldc2 (v := 31) C d_M_digest_93 wd_162 ?_
      refine j_lload_n C d_M_digest_96 1 rfl ?_
      refine j_lmul C d_M_digest_97 ?_
      refine j_aload_n C d_M_digest_98 0 rfl ?_
      refine j_gS (b := 8) C fl_M_31 (kM hY rfl) (nM hY (by decide)) rfl hY.2.2.2.1 rfl (sM hY rfl) d_M_digest_99 ?_
      refine j_iload_n C d_M_digest_102 2 rfl ?_
      refine ck hf (fun hi13 hf => ?_)
      refine j_iald C (kM hY rfl) (nM hY (by decide)) (lM hY rfl) hi13 d_M_digest_103 ?_
      refine j_i2l C d_M_digest_104 ?_
      refine j_ladd C d_M_digest_105 ?_
      refine j_lstore_nN (lvf := [(0, .ref (yad Y 0)), (3, .int x3)]) C d_M_digest_106 (by decide) rfl hf (fun v14 hf => ?_)
      refine j_iinc (lvf := [(1, .long v14), (0, .ref (yad Y 0))]) (v := 1) C d_M_digest_107 2 rfl (by decide) (by decide) rfl hf (fun v15 hf => ?_)
      refine j_goto C d_M_digest_110 ?_
      refine j_sub [2, 1, 0] rfl ?_
      exact ih v14 v15 μ hf
theorem w_M_digest_l43 {X : Ctx} {Y : Lay} (hY : IsM Y) (C : Cx X Y b_M_digest 5 (some .long) "TopYardModel" 8) {N : Nat} {r : Int64 × Mem} : ∀ (n : Nat) (x1 : Int64) (x3 : Int32) (μ : Mem), f_M_digest_l43 N n x1 x3 μ = some r → J X Y (some (.long r.1)) r.2 5 43 [(0, .ref (yad Y 0)), (1, .long x1), (3, .int x3)] [] μ := by
  intro n
  induction n with
  | zero => intro x1 x3 μ hf; rw [f_M_digest_l43] at hf; cases hf
  | succ n ih =>
    intro x1 x3 μ hf
    rw [f_M_digest_l43] at hf
    refine j_iload_n C d_M_digest_43 2 rfl ?_
    refine j_aload_n C d_M_digest_44 0 rfl ?_
    refine j_gI C fl_M_175 (kM hY rfl) (nM hY (by decide)) rfl d_M_digest_45 ?_
    refine j_icmp_ge C d_M_digest_48 hf (fun hf => ?_) (fun hf => ?_)
    · refine j_iconst (v := 0) C d_M_digest_85 (by decide) ?_
      refine j_istore_n (lvf := [(0, .ref (yad Y 0)), (1, .long x1)]) C d_M_digest_86 (by decide) rfl ?_
      refine j_sub [1, 2, 0] rfl ?_
      exact w_M_digest_l87 hY C N x1 0 μ hf
    · refine j_ldc2 (v := 31) C d_M_digest_51 wd_162 ?_
      refine j_lload_n C d_M_digest_54 1 rfl ?_
      refine j_lmul C d_M_digest_55 ?_
      refine j_aload_n C d_M_digest_56 0 rfl ?_
      refine j_gS (b := 6) C fl_M_25 (kM hY rfl) (nM hY (by decide)) rfl hY.2.2.2.1 rfl (sM hY rfl) d_M_digest_57 ?_
      refine j_iload_n C d_M_digest_60 2 rfl ?_
      refine ck hf (fun hi1 hf => ?_)
      refine j_iald C (kM hY rfl) (nM hY (by decide)) (lM hY rfl) hi1 d_M_digest_61 ?_
      refine j_i2l C d_M_digest_62 ?_
      refine j_ladd C d_M_digest_63 ?_
      refine j_lstore_nN (lvf := [(0, .ref (yad Y 0)), (3, .int x3)]) C d_M_digest_64 (by decide) rfl hf (fun v2 hf => ?_)
      refine j_ldc2 (v := 31) C d_M_digest_65 wd_162 ?_
      refine j_lload_n C d_M_digest_68 0 rfl ?_
      refine j_lmul C d_M_digest_69 ?_
      refine j_aload_n C d_M_digest_70 1 rfl ?_
      refine j_gS (b := 7) C fl_M_28 (kM hY rfl) (nM hY (by decide)) rfl hY.2.2.2.1 rfl (sM hY rfl) d_M_digest_71 ?_
      refine j_iload_n C d_M_digest_74 2 rfl ?_
      refine ck hf (fun hi3 hf => ?_)
      refine j_iald C (kM hY rfl) (nM hY (by decide)) (lM hY rfl) hi3 d_M_digest_75 ?_
      refine j_i2l C d_M_digest_76 ?_
      refine j_ladd C d_M_digest_77 ?_
      refine j_lstore_nN (lvf := [(0, .ref (yad Y 0)), (3, .int x3)]) C d_M_digest_78 (by decide) rfl hf (fun v4 hf => ?_)
      refine j_iinc (lvf := [(1, .long v4), (0, .ref (yad Y 0))]) (v := 1) C d_M_digest_79 2 rfl (by decide) (by decide) rfl hf (fun v5 hf => ?_)
      refine j_goto C d_M_digest_82 ?_
      refine j_sub [2, 1, 0] rfl ?_
      exact ih v4 v5 μ hf
theorem w_M_digest_l6 {X : Ctx} {Y : Lay} (hY : IsM Y) (C : Cx X Y b_M_digest 5 (some .long) "TopYardModel" 8) {N : Nat} {r : Int64 × Mem} : ∀ (n : Nat) (x1 : Int64) (x3 : Int32) (μ : Mem), f_M_digest_l6 N n x1 x3 μ = some r → J X Y (some (.long r.1)) r.2 5 6 [(0, .ref (yad Y 0)), (1, .long x1), (3, .int x3)] [] μ := by
  intro n
  induction n with
  | zero => intro x1 x3 μ hf; rw [f_M_digest_l6] at hf; cases hf
  | succ n ih =>
    intro x1 x3 μ hf
    rw [f_M_digest_l6] at hf
    refine j_iload_n C d_M_digest_6 2 rfl ?_
    refine j_bipush (v := 11) C d_M_digest_7 (by decide) ?_
    refine j_icmp_ge C d_M_digest_9 hf (fun hf => ?_) (fun hf => ?_)
    · refine j_iconst (v := 0) C d_M_digest_41 (by decide) ?_
      refine j_istore_n (lvf := [(0, .ref (yad Y 0)), (1, .long x1)]) C d_M_digest_42 (by decide) rfl ?_
      refine j_sub [1, 2, 0] rfl ?_
      exact w_M_digest_l43 hY C N x1 0 μ hf
    · refine j_iload_n C d_M_digest_12 2 rfl ?_
      refine j_bipush (v := 8) C d_M_digest_13 (by decide) ?_
      refine j_icmp_ne C d_M_digest_15 hf (fun hf => ?_) (fun hf => ?_)
      · refine j_ldc2 (v := 31) C d_M_digest_22 wd_162 ?_
        refine j_lload_n C d_M_digest_25 1 rfl ?_
        refine j_lmul C d_M_digest_26 ?_
        refine j_aload_n C d_M_digest_27 0 rfl ?_
        refine j_iload_n C d_M_digest_28 2 rfl ?_
        refine bd hf (fun v1 hc2 hf => ?_)
        refine j_cV (rest := [.long ((31 : Int64) * x1)]) C lk_M_437 (c_M_count hY hc2) rfl (kM hY rfl) (nM hY (by decide)) (by decide) rfl rfl (by decide) rfl (Nat.le_of_ble_eq_true rfl) d_M_digest_29 ?_
        refine j_i2l C d_M_digest_32 ?_
        refine j_ladd C d_M_digest_33 ?_
        refine j_sub [0, 2] rfl ?_
        exact w_M_digest_b34 hY C (f_M_digest_l6 N n) ih x3 (((31 : Int64) * x1) + v1.toInt64) μ hf
      · refine j_lload_n C d_M_digest_18 1 rfl ?_
        refine j_goto C d_M_digest_19 ?_
        refine j_sub [0, 2] rfl ?_
        exact w_M_digest_b34 hY C (f_M_digest_l6 N n) ih x3 x1 μ hf
theorem c_M_digest {l : Launch} {Y : Lay} (hY : IsM Y) {N : Nat} {μ : Mem} {r : Int64 × Mem} (hf : f_M_digest N μ = some r) : Ct l Y y_M_digest b_M_digest 5 (some .long) 8 [.ref (yad Y 0)] (some (.long r.1)) μ r.2 := by
  refine ct_of (own := "TopYardModel") (lv := [(0, .ref (yad Y 0))]) (by decide +kernel) rfl (Nat.le_of_ble_eq_true rfl) rfl (fun X hl C => ?_)
  subst hl
  unfold f_M_digest at hf
  refine j_ldc2 (v := 17) C d_M_digest_0 wd_244 ?_
  refine j_lstore_n (lvf := [(0, .ref (yad Y 0))]) C d_M_digest_3 (by decide) rfl ?_
  refine j_iconst (v := 0) C d_M_digest_4 (by decide) ?_
  refine j_istore_n (lvf := [(1, .long 17), (0, .ref (yad Y 0))]) C d_M_digest_5 (by decide) rfl ?_
  refine j_sub [2, 1, 0] rfl ?_
  exact w_M_digest_l6 hY C N 17 0 μ hf

theorem d_Ch_cofactor_0 : DC b_Ch_cofactor 0 (.iload_n 1) 1 1 := ⟨by decide +kernel, rfl⟩
theorem d_Ch_cofactor_1 : DC b_Ch_cofactor 1 (.iload_n 3) 1 2 := ⟨by decide +kernel, rfl⟩
theorem d_Ch_cofactor_2 : DC b_Ch_cofactor 2 (.ishr) 1 3 := ⟨by decide +kernel, rfl⟩
theorem d_Ch_cofactor_3 : DC b_Ch_cofactor 3 (.iconst 1) 1 4 := ⟨by decide +kernel, rfl⟩
theorem d_Ch_cofactor_4 : DC b_Ch_cofactor 4 (.iand) 1 5 := ⟨by decide +kernel, rfl⟩
theorem d_Ch_cofactor_5 : DB b_Ch_cofactor 5 (.ifCond .eq 12) 12 17 8 := ⟨by decide +kernel, by decide, rfl⟩
theorem d_Ch_cofactor_8 : DC b_Ch_cofactor 8 (.iload_n 2) 1 9 := ⟨by decide +kernel, rfl⟩
theorem d_Ch_cofactor_9 : DC b_Ch_cofactor 9 (.iload 4) 2 11 := ⟨by decide +kernel, rfl⟩
theorem d_Ch_cofactor_11 : DC b_Ch_cofactor 11 (.ishr) 1 12 := ⟨by decide +kernel, rfl⟩
theorem d_Ch_cofactor_12 : DC b_Ch_cofactor 12 (.iconst 1) 1 13 := ⟨by decide +kernel, rfl⟩
theorem d_Ch_cofactor_13 : DC b_Ch_cofactor 13 (.iand) 1 14 := ⟨by decide +kernel, rfl⟩
theorem d_Ch_cofactor_14 : DB b_Ch_cofactor 14 (.ifCond .ne 5) 5 19 17 := ⟨by decide +kernel, by decide, rfl⟩
theorem d_Ch_cofactor_17 : DC b_Ch_cofactor 17 (.lconst 0) 1 18 := ⟨by decide +kernel, rfl⟩
theorem d_Ch_cofactor_18 : decode b_Ch_cofactor 18 = .ok (.lreturn, 1) := by decide +kernel
theorem d_Ch_cofactor_19 : DC b_Ch_cofactor 19 (.iload_n 1) 1 20 := ⟨by decide +kernel, rfl⟩
theorem d_Ch_cofactor_20 : DC b_Ch_cofactor 20 (.iconst 1) 1 21 := ⟨by decide +kernel, rfl⟩
theorem d_Ch_cofactor_21 : DC b_Ch_cofactor 21 (.iload_n 3) 1 22 := ⟨by decide +kernel, rfl⟩
theorem d_Ch_cofactor_22 : DC b_Ch_cofactor 22 (.ishl) 1 23 := ⟨by decide +kernel, rfl⟩
theorem d_Ch_cofactor_23 : DC b_Ch_cofactor 23 (.iconst 1) 1 24 := ⟨by decide +kernel, rfl⟩
theorem d_Ch_cofactor_24 : DC b_Ch_cofactor 24 (.isub) 1 25 := ⟨by decide +kernel, rfl⟩
theorem d_Ch_cofactor_25 : DC b_Ch_cofactor 25 (.iand) 1 26 := ⟨by decide +kernel, rfl⟩
theorem d_Ch_cofactor_26 : DC b_Ch_cofactor 26 (.invokestatic 74) 3 29 := ⟨by decide +kernel, rfl⟩
theorem d_Ch_cofactor_29 : DC b_Ch_cofactor 29 (.istore 5) 2 31 := ⟨by decide +kernel, rfl⟩
theorem d_Ch_cofactor_31 : DC b_Ch_cofactor 31 (.iload_n 2) 1 32 := ⟨by decide +kernel, rfl⟩
theorem d_Ch_cofactor_32 : DC b_Ch_cofactor 32 (.iconst 1) 1 33 := ⟨by decide +kernel, rfl⟩
theorem d_Ch_cofactor_33 : DC b_Ch_cofactor 33 (.iload 4) 2 35 := ⟨by decide +kernel, rfl⟩
theorem d_Ch_cofactor_35 : DC b_Ch_cofactor 35 (.ishl) 1 36 := ⟨by decide +kernel, rfl⟩
theorem d_Ch_cofactor_36 : DC b_Ch_cofactor 36 (.iconst 1) 1 37 := ⟨by decide +kernel, rfl⟩
theorem d_Ch_cofactor_37 : DC b_Ch_cofactor 37 (.isub) 1 38 := ⟨by decide +kernel, rfl⟩
theorem d_Ch_cofactor_38 : DC b_Ch_cofactor 38 (.iand) 1 39 := ⟨by decide +kernel, rfl⟩
theorem d_Ch_cofactor_39 : DC b_Ch_cofactor 39 (.invokestatic 74) 3 42 := ⟨by decide +kernel, rfl⟩
theorem d_Ch_cofactor_42 : DC b_Ch_cofactor 42 (.istore 6) 2 44 := ⟨by decide +kernel, rfl⟩
theorem d_Ch_cofactor_44 : DC b_Ch_cofactor 44 (.aload_n 0) 1 45 := ⟨by decide +kernel, rfl⟩
theorem d_Ch_cofactor_45 : DC b_Ch_cofactor 45 (.iload_n 1) 1 46 := ⟨by decide +kernel, rfl⟩
theorem d_Ch_cofactor_46 : DC b_Ch_cofactor 46 (.iload_n 2) 1 47 := ⟨by decide +kernel, rfl⟩
theorem d_Ch_cofactor_47 : DC b_Ch_cofactor 47 (.iload_n 3) 1 48 := ⟨by decide +kernel, rfl⟩
theorem d_Ch_cofactor_48 : DC b_Ch_cofactor 48 (.iload 4) 2 50 := ⟨by decide +kernel, rfl⟩
theorem d_Ch_cofactor_50 : DC b_Ch_cofactor 50 (.invokevirtual 87) 3 53 := ⟨by decide +kernel, rfl⟩
theorem d_Ch_cofactor_53 : DC b_Ch_cofactor 53 (.lstore 7) 2 55 := ⟨by decide +kernel, rfl⟩
theorem d_Ch_cofactor_55 : DC b_Ch_cofactor 55 (.iload 5) 2 57 := ⟨by decide +kernel, rfl⟩
theorem d_Ch_cofactor_57 : DC b_Ch_cofactor 57 (.iload 6) 2 59 := ⟨by decide +kernel, rfl⟩
theorem d_Ch_cofactor_59 : DC b_Ch_cofactor 59 (.iadd) 1 60 := ⟨by decide +kernel, rfl⟩
theorem d_Ch_cofactor_60 : DC b_Ch_cofactor 60 (.iconst 2) 1 61 := ⟨by decide +kernel, rfl⟩
theorem d_Ch_cofactor_61 : DC b_Ch_cofactor 61 (.irem) 1 62 := ⟨by decide +kernel, rfl⟩
theorem d_Ch_cofactor_62 : DB b_Ch_cofactor 62 (.ifCond .ne 8) 8 70 65 := ⟨by decide +kernel, by decide, rfl⟩
theorem d_Ch_cofactor_65 : DC b_Ch_cofactor 65 (.lload 7) 2 67 := ⟨by decide +kernel, rfl⟩
theorem d_Ch_cofactor_67 : DB b_Ch_cofactor 67 (.goto 6) 6 73 70 := ⟨by decide +kernel, by decide, rfl⟩
theorem d_Ch_cofactor_70 : DC b_Ch_cofactor 70 (.lload 7) 2 72 := ⟨by decide +kernel, rfl⟩
theorem d_Ch_cofactor_72 : DC b_Ch_cofactor 72 (.lneg) 1 73 := ⟨by decide +kernel, rfl⟩
theorem d_Ch_cofactor_73 : decode b_Ch_cofactor 73 = .ok (.lreturn, 1) := by decide +kernel
theorem c_Ch_cofactor {l : Launch} {Y : Lay} (hY : IsX Y) {μ : Mem} {x1 : Int32} {x2 : Int32} {x3 : Int32} {x4 : Int32} {r : Int64} (hf : f_Ch_cofactor μ x1 x2 x3 x4 = some r) : Ct l Y y_Ch_cofactor b_Ch_cofactor 9 (some .long) 2 [.ref (yad Y 23), .int x1, .int x2, .int x3, .int x4] (some (.long r)) μ μ := by
  refine ct_of (own := "TopYard$Choice") (lv := [(0, .ref (yad Y 23)), (1, .int x1), (2, .int x2), (3, .int x3), (4, .int x4)]) (by decide +kernel) rfl (Nat.le_of_ble_eq_true rfl) rfl (fun X hl C => ?_)
  subst hl
  unfold f_Ch_cofactor at hf
  refine j_iload_n C d_Ch_cofactor_0 1 rfl ?_
  refine j_iload_n C d_Ch_cofactor_1 3 rfl ?_
  refine j_ishr C d_Ch_cofactor_2 ?_
  refine j_iconst (v := 1) C d_Ch_cofactor_3 (by decide) ?_
  refine j_iand C d_Ch_cofactor_4 ?_
  refine j_if_eq C d_Ch_cofactor_5 hf (fun hf => ?_) (fun hf => ?_)
  · refine j_lconst (v := 0) C d_Ch_cofactor_17 (by decide) ?_
    obtain rfl := Option.some.inj hf
    exact j_lret C d_Ch_cofactor_18
  · refine j_iload_n C d_Ch_cofactor_8 2 rfl ?_
    refine j_iload C d_Ch_cofactor_9 4 rfl ?_
    refine j_ishr C d_Ch_cofactor_11 ?_
    refine j_iconst (v := 1) C d_Ch_cofactor_12 (by decide) ?_
    refine j_iand C d_Ch_cofactor_13 ?_
    refine j_if_ne C d_Ch_cofactor_14 hf (fun hf => ?_) (fun hf => ?_)
    · refine j_iload_n C d_Ch_cofactor_19 1 rfl ?_
      refine j_iconst (v := 1) C d_Ch_cofactor_20 (by decide) ?_
      refine j_iload_n C d_Ch_cofactor_21 3 rfl ?_
      refine j_ishl C d_Ch_cofactor_22 ?_
      refine j_iconst (v := 1) C d_Ch_cofactor_23 (by decide) ?_
      refine j_isub C d_Ch_cofactor_24 ?_
      refine j_iand C d_Ch_cofactor_25 ?_
      refine bd hf (fun v1 hc6 hf => ?_)
      refine j_cS (rest := []) C lk_Ch_74 (c_JI_bitCount hY hc6) rfl (by decide) rfl (Nat.le_of_ble_eq_true rfl) d_Ch_cofactor_26 ?_
      refine j_istore (lvf := [(0, .ref (yad Y 23)), (1, .int x1), (2, .int x2), (3, .int x3), (4, .int x4)]) C d_Ch_cofactor_29 (by decide) rfl ?_
      refine j_iload_n C d_Ch_cofactor_31 3 rfl ?_
      refine j_iconst (v := 1) C d_Ch_cofactor_32 (by decide) ?_
      refine j_iload C d_Ch_cofactor_33 5 rfl ?_
      refine j_ishl C d_Ch_cofactor_35 ?_
      refine j_iconst (v := 1) C d_Ch_cofactor_36 (by decide) ?_
      refine j_isub C d_Ch_cofactor_37 ?_
      refine j_iand C d_Ch_cofactor_38 ?_
      refine bd hf (fun v2 hc5 hf => ?_)
      refine j_cS (rest := []) C lk_Ch_74 (c_JI_bitCount hY hc5) rfl (by decide) rfl (Nat.le_of_ble_eq_true rfl) d_Ch_cofactor_39 ?_
      refine j_istore (lvf := [(5, .int v1), (0, .ref (yad Y 23)), (1, .int x1), (2, .int x2), (3, .int x3), (4, .int x4)]) C d_Ch_cofactor_42 (by decide) rfl ?_
      refine j_aload_n C d_Ch_cofactor_44 2 rfl ?_
      refine j_iload_n C d_Ch_cofactor_45 3 rfl ?_
      refine j_iload_n C d_Ch_cofactor_46 4 rfl ?_
      refine j_iload_n C d_Ch_cofactor_47 5 rfl ?_
      refine j_iload C d_Ch_cofactor_48 6 rfl ?_
      refine bd hf (fun v3 hc4 hf => ?_)
      refine j_cV (rest := []) C lk_Ch_87 (c_Ch_minor hY hc4) rfl (kX hY rfl) (nX hY (by decide)) (by decide) rfl rfl (by decide) rfl (Nat.le_of_ble_eq_true rfl) d_Ch_cofactor_50 ?_
      refine j_lstore (lvf := [(6, .int v2), (5, .int v1), (0, .ref (yad Y 23)), (1, .int x1), (2, .int x2), (3, .int x3), (4, .int x4)]) C d_Ch_cofactor_53 (by decide) rfl ?_
      refine j_iload C d_Ch_cofactor_55 2 rfl ?_
      refine j_iload C d_Ch_cofactor_57 1 rfl ?_
      refine j_iadd C d_Ch_cofactor_59 ?_
      refine j_iconst (v := 2) C d_Ch_cofactor_60 (by decide) ?_
      refine j_irem C d_Ch_cofactor_61 (by decide) ?_
      refine j_if_ne C d_Ch_cofactor_62 hf (fun hf => ?_) (fun hf => ?_)
      · refine j_lload C d_Ch_cofactor_70 0 rfl ?_
        refine j_lneg C d_Ch_cofactor_72 ?_
        obtain rfl := Option.some.inj hf
        exact j_lret C d_Ch_cofactor_73
      · refine j_lload C d_Ch_cofactor_65 0 rfl ?_
        refine j_goto C d_Ch_cofactor_67 ?_
        obtain rfl := Option.some.inj hf
        exact j_lret C d_Ch_cofactor_73
    · refine j_lconst (v := 0) C d_Ch_cofactor_17 (by decide) ?_
      obtain rfl := Option.some.inj hf
      exact j_lret C d_Ch_cofactor_18
theorem d_Ch_changeSigns_0 : DC b_Ch_changeSigns 0 (.aload_n 0) 1 1 := ⟨by decide +kernel, rfl⟩
theorem d_Ch_changeSigns_1 : DC b_Ch_changeSigns 1 (.aload_n 0) 1 2 := ⟨by decide +kernel, rfl⟩
theorem d_Ch_changeSigns_2 : DC b_Ch_changeSigns 2 (.getfield 40) 3 5 := ⟨by decide +kernel, rfl⟩
theorem d_Ch_changeSigns_5 : DC b_Ch_changeSigns 5 (.lneg) 1 6 := ⟨by decide +kernel, rfl⟩
theorem d_Ch_changeSigns_6 : DC b_Ch_changeSigns 6 (.putfield 40) 3 9 := ⟨by decide +kernel, rfl⟩
theorem d_Ch_changeSigns_9 : DC b_Ch_changeSigns 9 (.aload_n 0) 1 10 := ⟨by decide +kernel, rfl⟩
theorem d_Ch_changeSigns_10 : DC b_Ch_changeSigns 10 (.aload_n 0) 1 11 := ⟨by decide +kernel, rfl⟩
theorem d_Ch_changeSigns_11 : DC b_Ch_changeSigns 11 (.getfield 44) 3 14 := ⟨by decide +kernel, rfl⟩
theorem d_Ch_changeSigns_14 : DC b_Ch_changeSigns 14 (.lneg) 1 15 := ⟨by decide +kernel, rfl⟩
theorem d_Ch_changeSigns_15 : DC b_Ch_changeSigns 15 (.putfield 44) 3 18 := ⟨by decide +kernel, rfl⟩
theorem d_Ch_changeSigns_18 : DC b_Ch_changeSigns 18 (.iconst 0) 1 19 := ⟨by decide +kernel, rfl⟩
theorem d_Ch_changeSigns_19 : DC b_Ch_changeSigns 19 (.istore_n 1) 1 20 := ⟨by decide +kernel, rfl⟩
theorem d_Ch_changeSigns_20 : DC b_Ch_changeSigns 20 (.iload_n 1) 1 21 := ⟨by decide +kernel, rfl⟩
theorem d_Ch_changeSigns_21 : DC b_Ch_changeSigns 21 (.iconst 4) 1 22 := ⟨by decide +kernel, rfl⟩
theorem d_Ch_changeSigns_22 : DB b_Ch_changeSigns 22 (.if_icmp .ge 35) 35 57 25 := ⟨by decide +kernel, by decide, rfl⟩
theorem d_Ch_changeSigns_25 : DC b_Ch_changeSigns 25 (.aload_n 0) 1 26 := ⟨by decide +kernel, rfl⟩
theorem d_Ch_changeSigns_26 : DC b_Ch_changeSigns 26 (.getfield 30) 3 29 := ⟨by decide +kernel, rfl⟩
theorem d_Ch_changeSigns_29 : DC b_Ch_changeSigns 29 (.iload_n 1) 1 30 := ⟨by decide +kernel, rfl⟩
theorem d_Ch_changeSigns_30 : DC b_Ch_changeSigns 30 (.aload_n 0) 1 31 := ⟨by decide +kernel, rfl⟩
theorem d_Ch_changeSigns_31 : DC b_Ch_changeSigns 31 (.getfield 30) 3 34 := ⟨by decide +kernel, rfl⟩
theorem d_Ch_changeSigns_34 : DC b_Ch_changeSigns 34 (.iload_n 1) 1 35 := ⟨by decide +kernel, rfl⟩
theorem d_Ch_changeSigns_35 : DC b_Ch_changeSigns 35 (.laload) 1 36 := ⟨by decide +kernel, rfl⟩
theorem d_Ch_changeSigns_36 : DC b_Ch_changeSigns 36 (.lneg) 1 37 := ⟨by decide +kernel, rfl⟩
theorem d_Ch_changeSigns_37 : DC b_Ch_changeSigns 37 (.lastore) 1 38 := ⟨by decide +kernel, rfl⟩
theorem d_Ch_changeSigns_38 : DC b_Ch_changeSigns 38 (.aload_n 0) 1 39 := ⟨by decide +kernel, rfl⟩
theorem d_Ch_changeSigns_39 : DC b_Ch_changeSigns 39 (.getfield 34) 3 42 := ⟨by decide +kernel, rfl⟩
theorem d_Ch_changeSigns_42 : DC b_Ch_changeSigns 42 (.iload_n 1) 1 43 := ⟨by decide +kernel, rfl⟩
theorem d_Ch_changeSigns_43 : DC b_Ch_changeSigns 43 (.aload_n 0) 1 44 := ⟨by decide +kernel, rfl⟩
theorem d_Ch_changeSigns_44 : DC b_Ch_changeSigns 44 (.getfield 34) 3 47 := ⟨by decide +kernel, rfl⟩
theorem d_Ch_changeSigns_47 : DC b_Ch_changeSigns 47 (.iload_n 1) 1 48 := ⟨by decide +kernel, rfl⟩
theorem d_Ch_changeSigns_48 : DC b_Ch_changeSigns 48 (.laload) 1 49 := ⟨by decide +kernel, rfl⟩
theorem d_Ch_changeSigns_49 : DC b_Ch_changeSigns 49 (.lneg) 1 50 := ⟨by decide +kernel, rfl⟩
theorem d_Ch_changeSigns_50 : DC b_Ch_changeSigns 50 (.lastore) 1 51 := ⟨by decide +kernel, rfl⟩
theorem d_Ch_changeSigns_51 : DC b_Ch_changeSigns 51 (.iinc 1 1) 3 54 := ⟨by decide +kernel, rfl⟩
theorem d_Ch_changeSigns_54 : DB b_Ch_changeSigns 54 (.goto (-34)) (-34) 20 57 := ⟨by decide +kernel, by decide, rfl⟩
theorem d_Ch_changeSigns_57 : decode b_Ch_changeSigns 57 = .ok (.return_, 1) := by decide +kernel
theorem w_Ch_changeSigns_l20 {X : Ctx} {Y : Lay} (hY : IsX Y) (C : Cx X Y b_Ch_changeSigns 2 none "TopYard$Choice" 1) {N : Nat} {r : Mem} : ∀ (n : Nat) (x1 : Int32) (μ : Mem), f_Ch_changeSigns_l20 N n x1 μ = some r → J X Y none r 2 20 [(0, .ref (yad Y 23)), (1, .int x1)] [] μ := by
  intro n
  induction n with
  | zero => intro x1 μ hf; rw [f_Ch_changeSigns_l20] at hf; cases hf
  | succ n ih =>
    intro x1 μ hf
    rw [f_Ch_changeSigns_l20] at hf
    refine j_iload_n C d_Ch_changeSigns_20 1 rfl ?_
    refine j_iconst (v := 4) C d_Ch_changeSigns_21 (by decide) ?_
    refine j_icmp_ge C d_Ch_changeSigns_22 hf (fun hf => ?_) (fun hf => ?_)
    · obtain rfl := Option.some.inj hf
      exact j_vret C d_Ch_changeSigns_57
    · refine j_aload_n C d_Ch_changeSigns_25 0 rfl ?_
      refine j_gS (b := 31) C fl_Ch_30 (kX hY rfl) (nX hY (by decide)) rfl hY.2.2.2.1 rfl (sX hY rfl) d_Ch_changeSigns_26 ?_
      refine j_iload_n C d_Ch_changeSigns_29 1 rfl ?_
      refine j_aload_n C d_Ch_changeSigns_30 0 rfl ?_
      refine j_gS (b := 31) C fl_Ch_30 (kX hY rfl) (nX hY (by decide)) rfl hY.2.2.2.1 rfl (sX hY rfl) d_Ch_changeSigns_31 ?_
      refine j_iload_n C d_Ch_changeSigns_34 1 rfl ?_
      refine ck hf (fun hi1 hf => ?_)
      refine j_lald C (kX hY rfl) (nX hY (by decide)) (lX hY rfl) hi1 d_Ch_changeSigns_35 ?_
      refine j_lneg C d_Ch_changeSigns_36 ?_
      refine ck hf (fun hi2 hf => ?_)
      refine j_last C (kX hY rfl) (nX hY (by decide)) (lX hY rfl) hi2 d_Ch_changeSigns_37 hf (fun μ3 hf => ?_)
      refine j_aload_n C d_Ch_changeSigns_38 0 rfl ?_
      refine j_gS (b := 32) C fl_Ch_34 (kX hY rfl) (nX hY (by decide)) rfl hY.2.2.2.1 rfl (sX hY rfl) d_Ch_changeSigns_39 ?_
      refine j_iload_n C d_Ch_changeSigns_42 1 rfl ?_
      refine j_aload_n C d_Ch_changeSigns_43 0 rfl ?_
      refine j_gS (b := 32) C fl_Ch_34 (kX hY rfl) (nX hY (by decide)) rfl hY.2.2.2.1 rfl (sX hY rfl) d_Ch_changeSigns_44 ?_
      refine j_iload_n C d_Ch_changeSigns_47 1 rfl ?_
      refine ck hf (fun hi4 hf => ?_)
      refine j_lald C (kX hY rfl) (nX hY (by decide)) (lX hY rfl) hi4 d_Ch_changeSigns_48 ?_
      refine j_lneg C d_Ch_changeSigns_49 ?_
      refine ck hf (fun hi5 hf => ?_)
      refine j_last C (kX hY rfl) (nX hY (by decide)) (lX hY rfl) hi5 d_Ch_changeSigns_50 hf (fun μ6 hf => ?_)
      refine j_iinc (lvf := [(0, .ref (yad Y 23))]) (v := 1) C d_Ch_changeSigns_51 1 rfl (by decide) (by decide) rfl hf (fun v7 hf => ?_)
      refine j_goto C d_Ch_changeSigns_54 ?_
      refine j_sub [1, 0] rfl ?_
      exact ih v7 μ6 hf
theorem c_Ch_changeSigns {l : Launch} {Y : Lay} (hY : IsX Y) {N : Nat} {μ : Mem} {r : Mem} (hf : f_Ch_changeSigns N μ = some r) : Ct l Y y_Ch_changeSigns b_Ch_changeSigns 2 none 1 [.ref (yad Y 23)] none μ r := by
  refine ct_of (own := "TopYard$Choice") (lv := [(0, .ref (yad Y 23))]) (by decide +kernel) rfl (Nat.le_of_ble_eq_true rfl) rfl (fun X hl C => ?_)
  subst hl
  unfold f_Ch_changeSigns at hf
  refine j_aload_n C d_Ch_changeSigns_0 0 rfl ?_
  refine j_aload_n C d_Ch_changeSigns_1 0 rfl ?_
  refine j_gL C fl_Ch_40 (kX hY rfl) (nX hY (by decide)) rfl d_Ch_changeSigns_2 ?_
  refine j_lneg C d_Ch_changeSigns_5 ?_
  refine j_pL C fl_Ch_40 (kX hY rfl) (nX hY (by decide)) rfl rfl rfl d_Ch_changeSigns_6 hf (fun μ1 hf => ?_)
  refine j_aload_n C d_Ch_changeSigns_9 0 rfl ?_
  refine j_aload_n C d_Ch_changeSigns_10 0 rfl ?_
  refine j_gL C fl_Ch_44 (kX hY rfl) (nX hY (by decide)) rfl d_Ch_changeSigns_11 ?_
  refine j_lneg C d_Ch_changeSigns_14 ?_
  refine j_pL C fl_Ch_44 (kX hY rfl) (nX hY (by decide)) rfl rfl rfl d_Ch_changeSigns_15 hf (fun μ2 hf => ?_)
  refine j_iconst (v := 0) C d_Ch_changeSigns_18 (by decide) ?_
  refine j_istore_n (lvf := [(0, .ref (yad Y 23))]) C d_Ch_changeSigns_19 (by decide) rfl ?_
  refine j_sub [1, 0] rfl ?_
  exact w_Ch_changeSigns_l20 hY C N 0 μ2 hf
theorem d_Ch_noShareIsNegative_0 : DC b_Ch_noShareIsNegative 0 (.iconst 0) 1 1 := ⟨by decide +kernel, rfl⟩
theorem d_Ch_noShareIsNegative_1 : DC b_Ch_noShareIsNegative 1 (.istore_n 1) 1 2 := ⟨by decide +kernel, rfl⟩
theorem d_Ch_noShareIsNegative_2 : DC b_Ch_noShareIsNegative 2 (.iload_n 1) 1 3 := ⟨by decide +kernel, rfl⟩
theorem d_Ch_noShareIsNegative_3 : DC b_Ch_noShareIsNegative 3 (.iconst 4) 1 4 := ⟨by decide +kernel, rfl⟩
theorem d_Ch_noShareIsNegative_4 : DB b_Ch_noShareIsNegative 4 (.if_icmp .ge 33) 33 37 7 := ⟨by decide +kernel, by decide, rfl⟩
theorem d_Ch_noShareIsNegative_7 : DC b_Ch_noShareIsNegative 7 (.aload_n 0) 1 8 := ⟨by decide +kernel, rfl⟩
theorem d_Ch_noShareIsNegative_8 : DC b_Ch_noShareIsNegative 8 (.getfield 30) 3 11 := ⟨by decide +kernel, rfl⟩
theorem d_Ch_noShareIsNegative_11 : DC b_Ch_noShareIsNegative 11 (.iload_n 1) 1 12 := ⟨by decide +kernel, rfl⟩
theorem d_Ch_noShareIsNegative_12 : DC b_Ch_noShareIsNegative 12 (.laload) 1 13 := ⟨by decide +kernel, rfl⟩
theorem d_Ch_noShareIsNegative_13 : DC b_Ch_noShareIsNegative 13 (.lconst 0) 1 14 := ⟨by decide +kernel, rfl⟩
theorem d_Ch_noShareIsNegative_14 : DC b_Ch_noShareIsNegative 14 (.lcmp) 1 15 := ⟨by decide +kernel, rfl⟩
theorem d_Ch_noShareIsNegative_15 : DB b_Ch_noShareIsNegative 15 (.ifCond .lt 14) 14 29 18 := ⟨by decide +kernel, by decide, rfl⟩
theorem d_Ch_noShareIsNegative_18 : DC b_Ch_noShareIsNegative 18 (.aload_n 0) 1 19 := ⟨by decide +kernel, rfl⟩
theorem d_Ch_noShareIsNegative_19 : DC b_Ch_noShareIsNegative 19 (.getfield 34) 3 22 := ⟨by decide +kernel, rfl⟩
theorem d_Ch_noShareIsNegative_22 : DC b_Ch_noShareIsNegative 22 (.iload_n 1) 1 23 := ⟨by decide +kernel, rfl⟩
theorem d_Ch_noShareIsNegative_23 : DC b_Ch_noShareIsNegative 23 (.laload) 1 24 := ⟨by decide +kernel, rfl⟩
theorem d_Ch_noShareIsNegative_24 : DC b_Ch_noShareIsNegative 24 (.lconst 0) 1 25 := ⟨by decide +kernel, rfl⟩
theorem d_Ch_noShareIsNegative_25 : DC b_Ch_noShareIsNegative 25 (.lcmp) 1 26 := ⟨by decide +kernel, rfl⟩
theorem d_Ch_noShareIsNegative_26 : DB b_Ch_noShareIsNegative 26 (.ifCond .ge 5) 5 31 29 := ⟨by decide +kernel, by decide, rfl⟩
theorem d_Ch_noShareIsNegative_29 : DC b_Ch_noShareIsNegative 29 (.iconst 0) 1 30 := ⟨by decide +kernel, rfl⟩
theorem d_Ch_noShareIsNegative_30 : decode b_Ch_noShareIsNegative 30 = .ok (.ireturn, 1) := by decide +kernel
theorem d_Ch_noShareIsNegative_31 : DC b_Ch_noShareIsNegative 31 (.iinc 1 1) 3 34 := ⟨by decide +kernel, rfl⟩
theorem d_Ch_noShareIsNegative_34 : DB b_Ch_noShareIsNegative 34 (.goto (-32)) (-32) 2 37 := ⟨by decide +kernel, by decide, rfl⟩
theorem d_Ch_noShareIsNegative_37 : DC b_Ch_noShareIsNegative 37 (.iconst 1) 1 38 := ⟨by decide +kernel, rfl⟩
theorem d_Ch_noShareIsNegative_38 : decode b_Ch_noShareIsNegative 38 = .ok (.ireturn, 1) := by decide +kernel
theorem w_Ch_noShareIsNegative_l2 {X : Ctx} {Y : Lay} (hY : IsX Y) (C : Cx X Y b_Ch_noShareIsNegative 2 (some .boolean) "TopYard$Choice" 1) {N : Nat} {μ : Mem} {r : Int32} : ∀ (n : Nat) (x1 : Int32), f_Ch_noShareIsNegative_l2 N μ n x1 = some r → J X Y (some (.int r)) μ 2 2 [(0, .ref (yad Y 23)), (1, .int x1)] [] μ := by
  intro n
  induction n with
  | zero => intro x1 hf; rw [f_Ch_noShareIsNegative_l2] at hf; cases hf
  | succ n ih =>
    intro x1 hf
    rw [f_Ch_noShareIsNegative_l2] at hf
    refine j_iload_n C d_Ch_noShareIsNegative_2 1 rfl ?_
    refine j_iconst (v := 4) C d_Ch_noShareIsNegative_3 (by decide) ?_
    refine j_icmp_ge C d_Ch_noShareIsNegative_4 hf (fun hf => ?_) (fun hf => ?_)
    · refine j_iconst (v := 1) C d_Ch_noShareIsNegative_37 (by decide) ?_
      obtain rfl := Option.some.inj hf
      exact j_zret C (Or.inr rfl) d_Ch_noShareIsNegative_38
    · refine j_aload_n C d_Ch_noShareIsNegative_7 0 rfl ?_
      refine j_gS (b := 31) C fl_Ch_30 (kX hY rfl) (nX hY (by decide)) rfl hY.2.2.2.1 rfl (sX hY rfl) d_Ch_noShareIsNegative_8 ?_
      refine j_iload_n C d_Ch_noShareIsNegative_11 1 rfl ?_
      refine ck hf (fun hi1 hf => ?_)
      refine j_lald C (kX hY rfl) (nX hY (by decide)) (lX hY rfl) hi1 d_Ch_noShareIsNegative_12 ?_
      refine j_lconst (v := 0) C d_Ch_noShareIsNegative_13 (by decide) ?_
      refine j_lcmp_lt C d_Ch_noShareIsNegative_14 d_Ch_noShareIsNegative_15 hf (fun hf => ?_) (fun hf => ?_)
      · refine j_iconst (v := 0) C d_Ch_noShareIsNegative_29 (by decide) ?_
        obtain rfl := Option.some.inj hf
        exact j_zret C (Or.inl rfl) d_Ch_noShareIsNegative_30
      · refine j_aload_n C d_Ch_noShareIsNegative_18 0 rfl ?_
        refine j_gS (b := 32) C fl_Ch_34 (kX hY rfl) (nX hY (by decide)) rfl hY.2.2.2.1 rfl (sX hY rfl) d_Ch_noShareIsNegative_19 ?_
        refine j_iload_n C d_Ch_noShareIsNegative_22 1 rfl ?_
        refine ck hf (fun hi2 hf => ?_)
        refine j_lald C (kX hY rfl) (nX hY (by decide)) (lX hY rfl) hi2 d_Ch_noShareIsNegative_23 ?_
        refine j_lconst (v := 0) C d_Ch_noShareIsNegative_24 (by decide) ?_
        refine j_lcmp_ge C d_Ch_noShareIsNegative_25 d_Ch_noShareIsNegative_26 hf (fun hf => ?_) (fun hf => ?_)
        · refine j_iinc (lvf := [(0, .ref (yad Y 23))]) (v := 1) C d_Ch_noShareIsNegative_31 1 rfl (by decide) (by decide) rfl hf (fun v3 hf => ?_)
          refine j_goto C d_Ch_noShareIsNegative_34 ?_
          refine j_sub [1, 0] rfl ?_
          exact ih v3 hf
        · refine j_iconst (v := 0) C d_Ch_noShareIsNegative_29 (by decide) ?_
          obtain rfl := Option.some.inj hf
          exact j_zret C (Or.inl rfl) d_Ch_noShareIsNegative_30
theorem c_Ch_noShareIsNegative {l : Launch} {Y : Lay} (hY : IsX Y) {N : Nat} {μ : Mem} {r : Int32} (hf : f_Ch_noShareIsNegative N μ = some r) : Ct l Y y_Ch_noShareIsNegative b_Ch_noShareIsNegative 2 (some .boolean) 1 [.ref (yad Y 23)] (some (.int r)) μ μ := by
  refine ct_of (own := "TopYard$Choice") (lv := [(0, .ref (yad Y 23))]) (by decide +kernel) rfl (Nat.le_of_ble_eq_true rfl) rfl (fun X hl C => ?_)
  subst hl
  unfold f_Ch_noShareIsNegative at hf
  refine j_iconst (v := 0) C d_Ch_noShareIsNegative_0 (by decide) ?_
  refine j_istore_n (lvf := [(0, .ref (yad Y 23))]) C d_Ch_noShareIsNegative_1 (by decide) rfl ?_
  refine j_sub [1, 0] rfl ?_
  exact w_Ch_noShareIsNegative_l2 hY C N 0 hf
theorem d_Ch_holdsForRows_0 : DC b_Ch_holdsForRows 0 (.iconst 0) 1 1 := ⟨by decide +kernel, rfl⟩
theorem d_Ch_holdsForRows_1 : DC b_Ch_holdsForRows 1 (.istore_n 1) 1 2 := ⟨by decide +kernel, rfl⟩
theorem d_Ch_holdsForRows_2 : DC b_Ch_holdsForRows 2 (.iload_n 1) 1 3 := ⟨by decide +kernel, rfl⟩
theorem d_Ch_holdsForRows_3 : DC b_Ch_holdsForRows 3 (.aload_n 0) 1 4 := ⟨by decide +kernel, rfl⟩
theorem d_Ch_holdsForRows_4 : DC b_Ch_holdsForRows 4 (.getfield 11) 3 7 := ⟨by decide +kernel, rfl⟩
theorem d_Ch_holdsForRows_7 : DB b_Ch_holdsForRows 7 (.if_icmp .ge 64) 64 71 10 := ⟨by decide +kernel, by decide, rfl⟩
theorem d_Ch_holdsForRows_10 : DC b_Ch_holdsForRows 10 (.lconst 0) 1 11 := ⟨by decide +kernel, rfl⟩
theorem d_Ch_holdsForRows_11 : DC b_Ch_holdsForRows 11 (.lstore_n 2) 1 12 := ⟨by decide +kernel, rfl⟩
theorem d_Ch_holdsForRows_12 : DC b_Ch_holdsForRows 12 (.iconst 0) 1 13 := ⟨by decide +kernel, rfl⟩
theorem d_Ch_holdsForRows_13 : DC b_Ch_holdsForRows 13 (.istore 4) 2 15 := ⟨by decide +kernel, rfl⟩
theorem d_Ch_holdsForRows_15 : DC b_Ch_holdsForRows 15 (.iload 4) 2 17 := ⟨by decide +kernel, rfl⟩
theorem d_Ch_holdsForRows_17 : DC b_Ch_holdsForRows 17 (.aload_n 0) 1 18 := ⟨by decide +kernel, rfl⟩
theorem d_Ch_holdsForRows_18 : DC b_Ch_holdsForRows 18 (.getfield 15) 3 21 := ⟨by decide +kernel, rfl⟩
theorem d_Ch_holdsForRows_21 : DB b_Ch_holdsForRows 21 (.if_icmp .ge 33) 33 54 24 := ⟨by decide +kernel, by decide, rfl⟩
theorem d_Ch_holdsForRows_24 : DC b_Ch_holdsForRows 24 (.lload_n 2) 1 25 := ⟨by decide +kernel, rfl⟩
theorem d_Ch_holdsForRows_25 : DC b_Ch_holdsForRows 25 (.aload_n 0) 1 26 := ⟨by decide +kernel, rfl⟩
theorem d_Ch_holdsForRows_26 : DC b_Ch_holdsForRows 26 (.getfield 27) 3 29 := ⟨by decide +kernel, rfl⟩
theorem d_Ch_holdsForRows_29 : DC b_Ch_holdsForRows 29 (.iload_n 1) 1 30 := ⟨by decide +kernel, rfl⟩
theorem d_Ch_holdsForRows_30 : DC b_Ch_holdsForRows 30 (.aaload) 1 31 := ⟨by decide +kernel, rfl⟩
theorem d_Ch_holdsForRows_31 : DC b_Ch_holdsForRows 31 (.iload 4) 2 33 := ⟨by decide +kernel, rfl⟩
theorem d_Ch_holdsForRows_33 : DC b_Ch_holdsForRows 33 (.iaload) 1 34 := ⟨by decide +kernel, rfl⟩
theorem d_Ch_holdsForRows_34 : DC b_Ch_holdsForRows 34 (.bipush 20) 2 36 := ⟨by decide +kernel, rfl⟩
theorem d_Ch_holdsForRows_36 : DC b_Ch_holdsForRows 36 (.iadd) 1 37 := ⟨by decide +kernel, rfl⟩
theorem d_Ch_holdsForRows_37 : DC b_Ch_holdsForRows 37 (.i2l) 1 38 := ⟨by decide +kernel, rfl⟩
theorem d_Ch_holdsForRows_38 : DC b_Ch_holdsForRows 38 (.aload_n 0) 1 39 := ⟨by decide +kernel, rfl⟩
theorem d_Ch_holdsForRows_39 : DC b_Ch_holdsForRows 39 (.getfield 34) 3 42 := ⟨by decide +kernel, rfl⟩
theorem d_Ch_holdsForRows_42 : DC b_Ch_holdsForRows 42 (.iload 4) 2 44 := ⟨by decide +kernel, rfl⟩
theorem d_Ch_holdsForRows_44 : DC b_Ch_holdsForRows 44 (.laload) 1 45 := ⟨by decide +kernel, rfl⟩
theorem d_Ch_holdsForRows_45 : DC b_Ch_holdsForRows 45 (.lmul) 1 46 := ⟨by decide +kernel, rfl⟩
theorem d_Ch_holdsForRows_46 : DC b_Ch_holdsForRows 46 (.ladd) 1 47 := ⟨by decide +kernel, rfl⟩
theorem d_Ch_holdsForRows_47 : DC b_Ch_holdsForRows 47 (.lstore_n 2) 1 48 := ⟨by decide +kernel, rfl⟩
theorem d_Ch_holdsForRows_48 : DC b_Ch_holdsForRows 48 (.iinc 4 1) 3 51 := ⟨by decide +kernel, rfl⟩
theorem d_Ch_holdsForRows_51 : DB b_Ch_holdsForRows 51 (.goto (-36)) (-36) 15 54 := ⟨by decide +kernel, by decide, rfl⟩
theorem d_Ch_holdsForRows_54 : DC b_Ch_holdsForRows 54 (.lload_n 2) 1 55 := ⟨by decide +kernel, rfl⟩
theorem d_Ch_holdsForRows_55 : DC b_Ch_holdsForRows 55 (.aload_n 0) 1 56 := ⟨by decide +kernel, rfl⟩
theorem d_Ch_holdsForRows_56 : DC b_Ch_holdsForRows 56 (.getfield 44) 3 59 := ⟨by decide +kernel, rfl⟩
theorem d_Ch_holdsForRows_59 : DC b_Ch_holdsForRows 59 (.lcmp) 1 60 := ⟨by decide +kernel, rfl⟩
theorem d_Ch_holdsForRows_60 : DB b_Ch_holdsForRows 60 (.ifCond .le 5) 5 65 63 := ⟨by decide +kernel, by decide, rfl⟩
theorem d_Ch_holdsForRows_63 : DC b_Ch_holdsForRows 63 (.iconst 0) 1 64 := ⟨by decide +kernel, rfl⟩
theorem d_Ch_holdsForRows_64 : decode b_Ch_holdsForRows 64 = .ok (.ireturn, 1) := by decide +kernel
theorem d_Ch_holdsForRows_65 : DC b_Ch_holdsForRows 65 (.iinc 1 1) 3 68 := ⟨by decide +kernel, rfl⟩
theorem d_Ch_holdsForRows_68 : DB b_Ch_holdsForRows 68 (.goto (-66)) (-66) 2 71 := ⟨by decide +kernel, by decide, rfl⟩
theorem d_Ch_holdsForRows_71 : DC b_Ch_holdsForRows 71 (.iconst 1) 1 72 := ⟨by decide +kernel, rfl⟩
theorem d_Ch_holdsForRows_72 : decode b_Ch_holdsForRows 72 = .ok (.ireturn, 1) := by decide +kernel
theorem w_Ch_holdsForRows_l15 {X : Ctx} {Y : Lay} (hY : IsX Y) (C : Cx X Y b_Ch_holdsForRows 5 (some .boolean) "TopYard$Choice" 1) {N : Nat} {μ : Mem} {r : Int32} (k2 : Int32 → Option (Int32)) (hk2 : ∀ (x1 : Int32), k2 x1 = some r → J X Y (some (.int r)) μ 5 2 [(0, .ref (yad Y 23)), (1, .int x1)] [] μ) : ∀ (n : Nat) (x1 : Int32) (x2 : Int64) (x4 : Int32), f_Ch_holdsForRows_l15 N μ k2 n x1 x2 x4 = some r → J X Y (some (.int r)) μ 5 15 [(0, .ref (yad Y 23)), (1, .int x1), (2, .long x2), (4, .int x4)] [] μ := by
  intro n
  induction n with
  | zero => intro x1 x2 x4 hf; rw [f_Ch_holdsForRows_l15] at hf; cases hf
  | succ n ih =>
    intro x1 x2 x4 hf
    rw [f_Ch_holdsForRows_l15] at hf
    refine j_iload C d_Ch_holdsForRows_15 3 rfl ?_
    refine j_aload_n C d_Ch_holdsForRows_17 0 rfl ?_
    refine j_gI C fl_Ch_15 (kX hY rfl) (nX hY (by decide)) rfl d_Ch_holdsForRows_18 ?_
    refine j_icmp_ge C d_Ch_holdsForRows_21 hf (fun hf => ?_) (fun hf => ?_)
    · refine j_lload_n C d_Ch_holdsForRows_54 2 rfl ?_
      refine j_aload_n C d_Ch_holdsForRows_55 0 rfl ?_
      refine j_gL C fl_Ch_44 (kX hY rfl) (nX hY (by decide)) rfl d_Ch_holdsForRows_56 ?_
      refine j_lcmp_le C d_Ch_holdsForRows_59 d_Ch_holdsForRows_60 hf (fun hf => ?_) (fun hf => ?_)
      · refine j_iinc (lvf := [(0, .ref (yad Y 23)), (2, .long x2), (4, .int x4)]) (v := 1) C d_Ch_holdsForRows_65 1 rfl (by decide) (by decide) rfl hf (fun v1 hf => ?_)
        refine j_goto C d_Ch_holdsForRows_68 ?_
        refine j_sub [1, 0] rfl ?_
        exact hk2 v1 hf
      · refine j_iconst (v := 0) C d_Ch_holdsForRows_63 (by decide) ?_
        obtain rfl := Option.some.inj hf
        exact j_zret C (Or.inl rfl) d_Ch_holdsForRows_64
    · refine j_lload_n C d_Ch_holdsForRows_24 2 rfl ?_
      refine j_aload_n C d_Ch_holdsForRows_25 0 rfl ?_
      refine j_gS (b := 26) C fl_Ch_27 (kX hY rfl) (nX hY (by decide)) rfl hY.2.2.2.1 rfl (sX hY rfl) d_Ch_holdsForRows_26 ?_
      refine j_iload_n C d_Ch_holdsForRows_29 1 rfl ?_
      refine ck hf (fun hi2 hf => ?_)
      refine j_aldS C (kX hY rfl) (by decide) rfl rfl (nX hY (by decide)) (lX hY rfl) hi2 hY.2.2.2.1 rfl (sX hY rfl) d_Ch_holdsForRows_30 ?_
      refine j_iload C d_Ch_holdsForRows_31 3 rfl ?_
      refine ck hf (fun hi3 hf => ?_)
      refine j_iald C (teX_16 hY (kX hY rfl) (ibl hi2)).1 (teX_16 hY (kX hY rfl) (ibl hi2)).2.1 (teX_16 hY (kX hY rfl) (ibl hi2)).2.2 hi3 d_Ch_holdsForRows_33 ?_
      refine j_bipush (v := 20) C d_Ch_holdsForRows_34 (by decide) ?_
      refine j_iadd C d_Ch_holdsForRows_36 ?_
      refine j_i2l C d_Ch_holdsForRows_37 ?_
      refine j_aload_n C d_Ch_holdsForRows_38 0 rfl ?_
      refine j_gS (b := 32) C fl_Ch_34 (kX hY rfl) (nX hY (by decide)) rfl hY.2.2.2.1 rfl (sX hY rfl) d_Ch_holdsForRows_39 ?_
      refine j_iload C d_Ch_holdsForRows_42 3 rfl ?_
      refine ck hf (fun hi4 hf => ?_)
      refine j_lald C (kX hY rfl) (nX hY (by decide)) (lX hY rfl) hi4 d_Ch_holdsForRows_44 ?_
      refine j_lmul C d_Ch_holdsForRows_45 ?_
      refine j_ladd C d_Ch_holdsForRows_46 ?_
      refine j_lstore_nN (lvf := [(0, .ref (yad Y 23)), (1, .int x1), (4, .int x4)]) C d_Ch_holdsForRows_47 (by decide) rfl hf (fun v5 hf => ?_)
      refine j_iinc (lvf := [(2, .long v5), (0, .ref (yad Y 23)), (1, .int x1)]) (v := 1) C d_Ch_holdsForRows_48 3 rfl (by decide) (by decide) rfl hf (fun v6 hf => ?_)
      refine j_goto C d_Ch_holdsForRows_51 ?_
      refine j_sub [2, 3, 1, 0] rfl ?_
      exact ih x1 v5 v6 hf
theorem w_Ch_holdsForRows_l2 {X : Ctx} {Y : Lay} (hY : IsX Y) (C : Cx X Y b_Ch_holdsForRows 5 (some .boolean) "TopYard$Choice" 1) {N : Nat} {μ : Mem} {r : Int32} : ∀ (n : Nat) (x1 : Int32), f_Ch_holdsForRows_l2 N μ n x1 = some r → J X Y (some (.int r)) μ 5 2 [(0, .ref (yad Y 23)), (1, .int x1)] [] μ := by
  intro n
  induction n with
  | zero => intro x1 hf; rw [f_Ch_holdsForRows_l2] at hf; cases hf
  | succ n ih =>
    intro x1 hf
    rw [f_Ch_holdsForRows_l2] at hf
    refine j_iload_n C d_Ch_holdsForRows_2 1 rfl ?_
    refine j_aload_n C d_Ch_holdsForRows_3 0 rfl ?_
    refine j_gI C fl_Ch_11 (kX hY rfl) (nX hY (by decide)) rfl d_Ch_holdsForRows_4 ?_
    refine j_icmp_ge C d_Ch_holdsForRows_7 hf (fun hf => ?_) (fun hf => ?_)
    · refine j_iconst (v := 1) C d_Ch_holdsForRows_71 (by decide) ?_
      obtain rfl := Option.some.inj hf
      exact j_zret C (Or.inr rfl) d_Ch_holdsForRows_72
    · refine j_lconst (v := 0) C d_Ch_holdsForRows_10 (by decide) ?_
      refine j_lstore_n (lvf := [(0, .ref (yad Y 23)), (1, .int x1)]) C d_Ch_holdsForRows_11 (by decide) rfl ?_
      refine j_iconst (v := 0) C d_Ch_holdsForRows_12 (by decide) ?_
      refine j_istore (lvf := [(2, .long 0), (0, .ref (yad Y 23)), (1, .int x1)]) C d_Ch_holdsForRows_13 (by decide) rfl ?_
      refine j_sub [2, 3, 1, 0] rfl ?_
      exact w_Ch_holdsForRows_l15 hY C (f_Ch_holdsForRows_l2 N μ n) ih N x1 0 0 hf
theorem c_Ch_holdsForRows {l : Launch} {Y : Lay} (hY : IsX Y) {N : Nat} {μ : Mem} {r : Int32} (hf : f_Ch_holdsForRows N μ = some r) : Ct l Y y_Ch_holdsForRows b_Ch_holdsForRows 5 (some .boolean) 1 [.ref (yad Y 23)] (some (.int r)) μ μ := by
  refine ct_of (own := "TopYard$Choice") (lv := [(0, .ref (yad Y 23))]) (by decide +kernel) rfl (Nat.le_of_ble_eq_true rfl) rfl (fun X hl C => ?_)
  subst hl
  unfold f_Ch_holdsForRows at hf
  refine j_iconst (v := 0) C d_Ch_holdsForRows_0 (by decide) ?_
  refine j_istore_n (lvf := [(0, .ref (yad Y 23))]) C d_Ch_holdsForRows_1 (by decide) rfl ?_
  refine j_sub [1, 0] rfl ?_
  exact w_Ch_holdsForRows_l2 hY C N 0 hf
theorem d_Ch_holdsForColumns_0 : DC b_Ch_holdsForColumns 0 (.iconst 0) 1 1 := ⟨by decide +kernel, rfl⟩
theorem d_Ch_holdsForColumns_1 : DC b_Ch_holdsForColumns 1 (.istore_n 1) 1 2 := ⟨by decide +kernel, rfl⟩
theorem d_Ch_holdsForColumns_2 : DC b_Ch_holdsForColumns 2 (.iload_n 1) 1 3 := ⟨by decide +kernel, rfl⟩
theorem d_Ch_holdsForColumns_3 : DC b_Ch_holdsForColumns 3 (.aload_n 0) 1 4 := ⟨by decide +kernel, rfl⟩
theorem d_Ch_holdsForColumns_4 : DC b_Ch_holdsForColumns 4 (.getfield 15) 3 7 := ⟨by decide +kernel, rfl⟩
theorem d_Ch_holdsForColumns_7 : DB b_Ch_holdsForColumns 7 (.if_icmp .ge 64) 64 71 10 := ⟨by decide +kernel, by decide, rfl⟩
theorem d_Ch_holdsForColumns_10 : DC b_Ch_holdsForColumns 10 (.lconst 0) 1 11 := ⟨by decide +kernel, rfl⟩
theorem d_Ch_holdsForColumns_11 : DC b_Ch_holdsForColumns 11 (.lstore_n 2) 1 12 := ⟨by decide +kernel, rfl⟩
theorem d_Ch_holdsForColumns_12 : DC b_Ch_holdsForColumns 12 (.iconst 0) 1 13 := ⟨by decide +kernel, rfl⟩
theorem d_Ch_holdsForColumns_13 : DC b_Ch_holdsForColumns 13 (.istore 4) 2 15 := ⟨by decide +kernel, rfl⟩
theorem d_Ch_holdsForColumns_15 : DC b_Ch_holdsForColumns 15 (.iload 4) 2 17 := ⟨by decide +kernel, rfl⟩
theorem d_Ch_holdsForColumns_17 : DC b_Ch_holdsForColumns 17 (.aload_n 0) 1 18 := ⟨by decide +kernel, rfl⟩
theorem d_Ch_holdsForColumns_18 : DC b_Ch_holdsForColumns 18 (.getfield 11) 3 21 := ⟨by decide +kernel, rfl⟩
theorem d_Ch_holdsForColumns_21 : DB b_Ch_holdsForColumns 21 (.if_icmp .ge 33) 33 54 24 := ⟨by decide +kernel, by decide, rfl⟩
theorem d_Ch_holdsForColumns_24 : DC b_Ch_holdsForColumns 24 (.lload_n 2) 1 25 := ⟨by decide +kernel, rfl⟩
theorem d_Ch_holdsForColumns_25 : DC b_Ch_holdsForColumns 25 (.aload_n 0) 1 26 := ⟨by decide +kernel, rfl⟩
theorem d_Ch_holdsForColumns_26 : DC b_Ch_holdsForColumns 26 (.getfield 27) 3 29 := ⟨by decide +kernel, rfl⟩
theorem d_Ch_holdsForColumns_29 : DC b_Ch_holdsForColumns 29 (.iload 4) 2 31 := ⟨by decide +kernel, rfl⟩
theorem d_Ch_holdsForColumns_31 : DC b_Ch_holdsForColumns 31 (.aaload) 1 32 := ⟨by decide +kernel, rfl⟩
theorem d_Ch_holdsForColumns_32 : DC b_Ch_holdsForColumns 32 (.iload_n 1) 1 33 := ⟨by decide +kernel, rfl⟩
theorem d_Ch_holdsForColumns_33 : DC b_Ch_holdsForColumns 33 (.iaload) 1 34 := ⟨by decide +kernel, rfl⟩
theorem d_Ch_holdsForColumns_34 : DC b_Ch_holdsForColumns 34 (.bipush 20) 2 36 := ⟨by decide +kernel, rfl⟩
theorem d_Ch_holdsForColumns_36 : DC b_Ch_holdsForColumns 36 (.iadd) 1 37 := ⟨by decide +kernel, rfl⟩
theorem d_Ch_holdsForColumns_37 : DC b_Ch_holdsForColumns 37 (.i2l) 1 38 := ⟨by decide +kernel, rfl⟩
theorem d_Ch_holdsForColumns_38 : DC b_Ch_holdsForColumns 38 (.aload_n 0) 1 39 := ⟨by decide +kernel, rfl⟩
theorem d_Ch_holdsForColumns_39 : DC b_Ch_holdsForColumns 39 (.getfield 30) 3 42 := ⟨by decide +kernel, rfl⟩
theorem d_Ch_holdsForColumns_42 : DC b_Ch_holdsForColumns 42 (.iload 4) 2 44 := ⟨by decide +kernel, rfl⟩
theorem d_Ch_holdsForColumns_44 : DC b_Ch_holdsForColumns 44 (.laload) 1 45 := ⟨by decide +kernel, rfl⟩
theorem d_Ch_holdsForColumns_45 : DC b_Ch_holdsForColumns 45 (.lmul) 1 46 := ⟨by decide +kernel, rfl⟩
theorem d_Ch_holdsForColumns_46 : DC b_Ch_holdsForColumns 46 (.ladd) 1 47 := ⟨by decide +kernel, rfl⟩
theorem d_Ch_holdsForColumns_47 : DC b_Ch_holdsForColumns 47 (.lstore_n 2) 1 48 := ⟨by decide +kernel, rfl⟩
theorem d_Ch_holdsForColumns_48 : DC b_Ch_holdsForColumns 48 (.iinc 4 1) 3 51 := ⟨by decide +kernel, rfl⟩
theorem d_Ch_holdsForColumns_51 : DB b_Ch_holdsForColumns 51 (.goto (-36)) (-36) 15 54 := ⟨by decide +kernel, by decide, rfl⟩
theorem d_Ch_holdsForColumns_54 : DC b_Ch_holdsForColumns 54 (.lload_n 2) 1 55 := ⟨by decide +kernel, rfl⟩
theorem d_Ch_holdsForColumns_55 : DC b_Ch_holdsForColumns 55 (.aload_n 0) 1 56 := ⟨by decide +kernel, rfl⟩
theorem d_Ch_holdsForColumns_56 : DC b_Ch_holdsForColumns 56 (.getfield 44) 3 59 := ⟨by decide +kernel, rfl⟩
theorem d_Ch_holdsForColumns_59 : DC b_Ch_holdsForColumns 59 (.lcmp) 1 60 := ⟨by decide +kernel, rfl⟩
theorem d_Ch_holdsForColumns_60 : DB b_Ch_holdsForColumns 60 (.ifCond .ge 5) 5 65 63 := ⟨by decide +kernel, by decide, rfl⟩
theorem d_Ch_holdsForColumns_63 : DC b_Ch_holdsForColumns 63 (.iconst 0) 1 64 := ⟨by decide +kernel, rfl⟩
theorem d_Ch_holdsForColumns_64 : decode b_Ch_holdsForColumns 64 = .ok (.ireturn, 1) := by decide +kernel
theorem d_Ch_holdsForColumns_65 : DC b_Ch_holdsForColumns 65 (.iinc 1 1) 3 68 := ⟨by decide +kernel, rfl⟩
theorem d_Ch_holdsForColumns_68 : DB b_Ch_holdsForColumns 68 (.goto (-66)) (-66) 2 71 := ⟨by decide +kernel, by decide, rfl⟩
theorem d_Ch_holdsForColumns_71 : DC b_Ch_holdsForColumns 71 (.iconst 1) 1 72 := ⟨by decide +kernel, rfl⟩
theorem d_Ch_holdsForColumns_72 : decode b_Ch_holdsForColumns 72 = .ok (.ireturn, 1) := by decide +kernel
theorem w_Ch_holdsForColumns_l15 {X : Ctx} {Y : Lay} (hY : IsX Y) (C : Cx X Y b_Ch_holdsForColumns 5 (some .boolean) "TopYard$Choice" 1) {N : Nat} {μ : Mem} {r : Int32} (k2 : Int32 → Option (Int32)) (hk2 : ∀ (x1 : Int32), k2 x1 = some r → J X Y (some (.int r)) μ 5 2 [(0, .ref (yad Y 23)), (1, .int x1)] [] μ) : ∀ (n : Nat) (x1 : Int32) (x2 : Int64) (x4 : Int32), f_Ch_holdsForColumns_l15 N μ k2 n x1 x2 x4 = some r → J X Y (some (.int r)) μ 5 15 [(0, .ref (yad Y 23)), (1, .int x1), (2, .long x2), (4, .int x4)] [] μ := by
  intro n
  induction n with
  | zero => intro x1 x2 x4 hf; rw [f_Ch_holdsForColumns_l15] at hf; cases hf
  | succ n ih =>
    intro x1 x2 x4 hf
    rw [f_Ch_holdsForColumns_l15] at hf
    refine j_iload C d_Ch_holdsForColumns_15 3 rfl ?_
    refine j_aload_n C d_Ch_holdsForColumns_17 0 rfl ?_
    refine j_gI C fl_Ch_11 (kX hY rfl) (nX hY (by decide)) rfl d_Ch_holdsForColumns_18 ?_
    refine j_icmp_ge C d_Ch_holdsForColumns_21 hf (fun hf => ?_) (fun hf => ?_)
    · refine j_lload_n C d_Ch_holdsForColumns_54 2 rfl ?_
      refine j_aload_n C d_Ch_holdsForColumns_55 0 rfl ?_
      refine j_gL C fl_Ch_44 (kX hY rfl) (nX hY (by decide)) rfl d_Ch_holdsForColumns_56 ?_
      refine j_lcmp_ge C d_Ch_holdsForColumns_59 d_Ch_holdsForColumns_60 hf (fun hf => ?_) (fun hf => ?_)
      · refine j_iinc (lvf := [(0, .ref (yad Y 23)), (2, .long x2), (4, .int x4)]) (v := 1) C d_Ch_holdsForColumns_65 1 rfl (by decide) (by decide) rfl hf (fun v1 hf => ?_)
        refine j_goto C d_Ch_holdsForColumns_68 ?_
        refine j_sub [1, 0] rfl ?_
        exact hk2 v1 hf
      · refine j_iconst (v := 0) C d_Ch_holdsForColumns_63 (by decide) ?_
        obtain rfl := Option.some.inj hf
        exact j_zret C (Or.inl rfl) d_Ch_holdsForColumns_64
    · refine j_lload_n C d_Ch_holdsForColumns_24 2 rfl ?_
      refine j_aload_n C d_Ch_holdsForColumns_25 0 rfl ?_
      refine j_gS (b := 26) C fl_Ch_27 (kX hY rfl) (nX hY (by decide)) rfl hY.2.2.2.1 rfl (sX hY rfl) d_Ch_holdsForColumns_26 ?_
      refine j_iload C d_Ch_holdsForColumns_29 3 rfl ?_
      refine ck hf (fun hi2 hf => ?_)
      refine j_aldS C (kX hY rfl) (by decide) rfl rfl (nX hY (by decide)) (lX hY rfl) hi2 hY.2.2.2.1 rfl (sX hY rfl) d_Ch_holdsForColumns_31 ?_
      refine j_iload_n C d_Ch_holdsForColumns_32 1 rfl ?_
      refine ck hf (fun hi3 hf => ?_)
      refine j_iald C (teX_16 hY (kX hY rfl) (ibl hi2)).1 (teX_16 hY (kX hY rfl) (ibl hi2)).2.1 (teX_16 hY (kX hY rfl) (ibl hi2)).2.2 hi3 d_Ch_holdsForColumns_33 ?_
      refine j_bipush (v := 20) C d_Ch_holdsForColumns_34 (by decide) ?_
      refine j_iadd C d_Ch_holdsForColumns_36 ?_
      refine j_i2l C d_Ch_holdsForColumns_37 ?_
      refine j_aload_n C d_Ch_holdsForColumns_38 0 rfl ?_
      refine j_gS (b := 31) C fl_Ch_30 (kX hY rfl) (nX hY (by decide)) rfl hY.2.2.2.1 rfl (sX hY rfl) d_Ch_holdsForColumns_39 ?_
      refine j_iload C d_Ch_holdsForColumns_42 3 rfl ?_
      refine ck hf (fun hi4 hf => ?_)
      refine j_lald C (kX hY rfl) (nX hY (by decide)) (lX hY rfl) hi4 d_Ch_holdsForColumns_44 ?_
      refine j_lmul C d_Ch_holdsForColumns_45 ?_
      refine j_ladd C d_Ch_holdsForColumns_46 ?_
      refine j_lstore_nN (lvf := [(0, .ref (yad Y 23)), (1, .int x1), (4, .int x4)]) C d_Ch_holdsForColumns_47 (by decide) rfl hf (fun v5 hf => ?_)
      refine j_iinc (lvf := [(2, .long v5), (0, .ref (yad Y 23)), (1, .int x1)]) (v := 1) C d_Ch_holdsForColumns_48 3 rfl (by decide) (by decide) rfl hf (fun v6 hf => ?_)
      refine j_goto C d_Ch_holdsForColumns_51 ?_
      refine j_sub [2, 3, 1, 0] rfl ?_
      exact ih x1 v5 v6 hf
theorem w_Ch_holdsForColumns_l2 {X : Ctx} {Y : Lay} (hY : IsX Y) (C : Cx X Y b_Ch_holdsForColumns 5 (some .boolean) "TopYard$Choice" 1) {N : Nat} {μ : Mem} {r : Int32} : ∀ (n : Nat) (x1 : Int32), f_Ch_holdsForColumns_l2 N μ n x1 = some r → J X Y (some (.int r)) μ 5 2 [(0, .ref (yad Y 23)), (1, .int x1)] [] μ := by
  intro n
  induction n with
  | zero => intro x1 hf; rw [f_Ch_holdsForColumns_l2] at hf; cases hf
  | succ n ih =>
    intro x1 hf
    rw [f_Ch_holdsForColumns_l2] at hf
    refine j_iload_n C d_Ch_holdsForColumns_2 1 rfl ?_
    refine j_aload_n C d_Ch_holdsForColumns_3 0 rfl ?_
    refine j_gI C fl_Ch_15 (kX hY rfl) (nX hY (by decide)) rfl d_Ch_holdsForColumns_4 ?_
    refine j_icmp_ge C d_Ch_holdsForColumns_7 hf (fun hf => ?_) (fun hf => ?_)
    · refine j_iconst (v := 1) C d_Ch_holdsForColumns_71 (by decide) ?_
      obtain rfl := Option.some.inj hf
      exact j_zret C (Or.inr rfl) d_Ch_holdsForColumns_72
    · refine j_lconst (v := 0) C d_Ch_holdsForColumns_10 (by decide) ?_
      refine j_lstore_n (lvf := [(0, .ref (yad Y 23)), (1, .int x1)]) C d_Ch_holdsForColumns_11 (by decide) rfl ?_
      refine j_iconst (v := 0) C d_Ch_holdsForColumns_12 (by decide) ?_
      refine j_istore (lvf := [(2, .long 0), (0, .ref (yad Y 23)), (1, .int x1)]) C d_Ch_holdsForColumns_13 (by decide) rfl ?_
      refine j_sub [2, 3, 1, 0] rfl ?_
      exact w_Ch_holdsForColumns_l15 hY C (f_Ch_holdsForColumns_l2 N μ n) ih N x1 0 0 hf
theorem c_Ch_holdsForColumns {l : Launch} {Y : Lay} (hY : IsX Y) {N : Nat} {μ : Mem} {r : Int32} (hf : f_Ch_holdsForColumns N μ = some r) : Ct l Y y_Ch_holdsForColumns b_Ch_holdsForColumns 5 (some .boolean) 1 [.ref (yad Y 23)] (some (.int r)) μ μ := by
  refine ct_of (own := "TopYard$Choice") (lv := [(0, .ref (yad Y 23))]) (by decide +kernel) rfl (Nat.le_of_ble_eq_true rfl) rfl (fun X hl C => ?_)
  subst hl
  unfold f_Ch_holdsForColumns at hf
  refine j_iconst (v := 0) C d_Ch_holdsForColumns_0 (by decide) ?_
  refine j_istore_n (lvf := [(0, .ref (yad Y 23))]) C d_Ch_holdsForColumns_1 (by decide) rfl ?_
  refine j_sub [1, 0] rfl ?_
  exact w_Ch_holdsForColumns_l2 hY C N 0 hf
theorem d_Ch_solveByPart_0 : DC b_Ch_solveByPart 0 (.aload_n 0) 1 1 := ⟨by decide +kernel, rfl⟩
theorem d_Ch_solveByPart_1 : DC b_Ch_solveByPart 1 (.lconst 0) 1 2 := ⟨by decide +kernel, rfl⟩
theorem d_Ch_solveByPart_2 : DC b_Ch_solveByPart 2 (.putfield 40) 3 5 := ⟨by decide +kernel, rfl⟩
theorem d_Ch_solveByPart_5 : DC b_Ch_solveByPart 5 (.iconst 0) 1 6 := ⟨by decide +kernel, rfl⟩
theorem d_Ch_solveByPart_6 : DC b_Ch_solveByPart 6 (.istore_n 3) 1 7 := ⟨by decide +kernel, rfl⟩
theorem d_Ch_solveByPart_7 : DC b_Ch_solveByPart 7 (.iload_n 3) 1 8 := ⟨by decide +kernel, rfl⟩
theorem d_Ch_solveByPart_8 : DC b_Ch_solveByPart 8 (.iconst 4) 1 9 := ⟨by decide +kernel, rfl⟩
theorem d_Ch_solveByPart_9 : DB b_Ch_solveByPart 9 (.if_icmp .ge 89) 89 98 12 := ⟨by decide +kernel, by decide, rfl⟩
theorem d_Ch_solveByPart_12 : DC b_Ch_solveByPart 12 (.aload_n 0) 1 13 := ⟨by decide +kernel, rfl⟩
theorem d_Ch_solveByPart_13 : DC b_Ch_solveByPart 13 (.getfield 30) 3 16 := ⟨by decide +kernel, rfl⟩
theorem d_Ch_solveByPart_16 : DC b_Ch_solveByPart 16 (.iload_n 3) 1 17 := ⟨by decide +kernel, rfl⟩
theorem d_Ch_solveByPart_17 : DC b_Ch_solveByPart 17 (.lconst 0) 1 18 := ⟨by decide +kernel, rfl⟩
theorem d_Ch_solveByPart_18 : DC b_Ch_solveByPart 18 (.lastore) 1 19 := ⟨by decide +kernel, rfl⟩
theorem d_Ch_solveByPart_19 : DC b_Ch_solveByPart 19 (.aload_n 0) 1 20 := ⟨by decide +kernel, rfl⟩
theorem d_Ch_solveByPart_20 : DC b_Ch_solveByPart 20 (.getfield 34) 3 23 := ⟨by decide +kernel, rfl⟩
theorem d_Ch_solveByPart_23 : DC b_Ch_solveByPart 23 (.iload_n 3) 1 24 := ⟨by decide +kernel, rfl⟩
theorem d_Ch_solveByPart_24 : DC b_Ch_solveByPart 24 (.lconst 0) 1 25 := ⟨by decide +kernel, rfl⟩
theorem d_Ch_solveByPart_25 : DC b_Ch_solveByPart 25 (.lastore) 1 26 := ⟨by decide +kernel, rfl⟩
theorem d_Ch_solveByPart_26 : DC b_Ch_solveByPart 26 (.iconst 0) 1 27 := ⟨by decide +kernel, rfl⟩
theorem d_Ch_solveByPart_27 : DC b_Ch_solveByPart 27 (.istore 4) 2 29 := ⟨by decide +kernel, rfl⟩
theorem d_Ch_solveByPart_29 : DC b_Ch_solveByPart 29 (.iload 4) 2 31 := ⟨by decide +kernel, rfl⟩
theorem d_Ch_solveByPart_31 : DC b_Ch_solveByPart 31 (.iconst 4) 1 32 := ⟨by decide +kernel, rfl⟩
theorem d_Ch_solveByPart_32 : DB b_Ch_solveByPart 32 (.if_icmp .ge 45) 45 77 35 := ⟨by decide +kernel, by decide, rfl⟩
theorem d_Ch_solveByPart_35 : DC b_Ch_solveByPart 35 (.aload_n 0) 1 36 := ⟨by decide +kernel, rfl⟩
theorem d_Ch_solveByPart_36 : DC b_Ch_solveByPart 36 (.getfield 30) 3 39 := ⟨by decide +kernel, rfl⟩
theorem d_Ch_solveByPart_39 : DC b_Ch_solveByPart 39 (.iload_n 3) 1 40 := ⟨by decide +kernel, rfl⟩
theorem d_Ch_solveByPart_40 : DC b_Ch_solveByPart 40 (.dup2) 1 41 := ⟨by decide +kernel, rfl⟩
theorem d_Ch_solveByPart_41 : DC b_Ch_solveByPart 41 (.laload) 1 42 := ⟨by decide +kernel, rfl⟩
theorem d_Ch_solveByPart_42 : DC b_Ch_solveByPart 42 (.aload_n 0) 1 43 := ⟨by decide +kernel, rfl⟩
theorem d_Ch_solveByPart_43 : DC b_Ch_solveByPart 43 (.iload_n 1) 1 44 := ⟨by decide +kernel, rfl⟩
theorem d_Ch_solveByPart_44 : DC b_Ch_solveByPart 44 (.iload_n 2) 1 45 := ⟨by decide +kernel, rfl⟩
theorem d_Ch_solveByPart_45 : DC b_Ch_solveByPart 45 (.iload_n 3) 1 46 := ⟨by decide +kernel, rfl⟩
theorem d_Ch_solveByPart_46 : DC b_Ch_solveByPart 46 (.iload 4) 2 48 := ⟨by decide +kernel, rfl⟩
theorem d_Ch_solveByPart_48 : DC b_Ch_solveByPart 48 (.invokevirtual 95) 3 51 := ⟨by decide +kernel, rfl⟩
theorem d_Ch_solveByPart_51 : DC b_Ch_solveByPart 51 (.ladd) 1 52 := ⟨by decide +kernel, rfl⟩
theorem d_Ch_solveByPart_52 : DC b_Ch_solveByPart 52 (.lastore) 1 53 := ⟨by decide +kernel, rfl⟩
theorem d_Ch_solveByPart_53 : DC b_Ch_solveByPart 53 (.aload_n 0) 1 54 := ⟨by decide +kernel, rfl⟩
theorem d_Ch_solveByPart_54 : DC b_Ch_solveByPart 54 (.getfield 34) 3 57 := ⟨by decide +kernel, rfl⟩
theorem d_Ch_solveByPart_57 : DC b_Ch_solveByPart 57 (.iload_n 3) 1 58 := ⟨by decide +kernel, rfl⟩
theorem d_Ch_solveByPart_58 : DC b_Ch_solveByPart 58 (.dup2) 1 59 := ⟨by decide +kernel, rfl⟩
theorem d_Ch_solveByPart_59 : DC b_Ch_solveByPart 59 (.laload) 1 60 := ⟨by decide +kernel, rfl⟩
theorem d_Ch_solveByPart_60 : DC b_Ch_solveByPart 60 (.aload_n 0) 1 61 := ⟨by decide +kernel, rfl⟩
theorem d_Ch_solveByPart_61 : DC b_Ch_solveByPart 61 (.iload_n 1) 1 62 := ⟨by decide +kernel, rfl⟩
theorem d_Ch_solveByPart_62 : DC b_Ch_solveByPart 62 (.iload_n 2) 1 63 := ⟨by decide +kernel, rfl⟩
theorem d_Ch_solveByPart_63 : DC b_Ch_solveByPart 63 (.iload 4) 2 65 := ⟨by decide +kernel, rfl⟩
theorem d_Ch_solveByPart_65 : DC b_Ch_solveByPart 65 (.iload_n 3) 1 66 := ⟨by decide +kernel, rfl⟩
theorem d_Ch_solveByPart_66 : DC b_Ch_solveByPart 66 (.invokevirtual 95) 3 69 := ⟨by decide +kernel, rfl⟩
theorem d_Ch_solveByPart_69 : DC b_Ch_solveByPart 69 (.ladd) 1 70 := ⟨by decide +kernel, rfl⟩
theorem d_Ch_solveByPart_70 : DC b_Ch_solveByPart 70 (.lastore) 1 71 := ⟨by decide +kernel, rfl⟩
theorem d_Ch_solveByPart_71 : DC b_Ch_solveByPart 71 (.iinc 4 1) 3 74 := ⟨by decide +kernel, rfl⟩
theorem d_Ch_solveByPart_74 : DB b_Ch_solveByPart 74 (.goto (-45)) (-45) 29 77 := ⟨by decide +kernel, by decide, rfl⟩
theorem d_Ch_solveByPart_77 : DC b_Ch_solveByPart 77 (.aload_n 0) 1 78 := ⟨by decide +kernel, rfl⟩
theorem d_Ch_solveByPart_78 : DC b_Ch_solveByPart 78 (.dup) 1 79 := ⟨by decide +kernel, rfl⟩
theorem d_Ch_solveByPart_79 : DC b_Ch_solveByPart 79 (.getfield 40) 3 82 := ⟨by decide +kernel, rfl⟩
theorem d_Ch_solveByPart_82 : DC b_Ch_solveByPart 82 (.aload_n 0) 1 83 := ⟨by decide +kernel, rfl⟩
theorem d_Ch_solveByPart_83 : DC b_Ch_solveByPart 83 (.getfield 30) 3 86 := ⟨by decide +kernel, rfl⟩
theorem d_Ch_solveByPart_86 : DC b_Ch_solveByPart 86 (.iload_n 3) 1 87 := ⟨by decide +kernel, rfl⟩
theorem d_Ch_solveByPart_87 : DC b_Ch_solveByPart 87 (.laload) 1 88 := ⟨by decide +kernel, rfl⟩
theorem d_Ch_solveByPart_88 : DC b_Ch_solveByPart 88 (.ladd) 1 89 := ⟨by decide +kernel, rfl⟩
theorem d_Ch_solveByPart_89 : DC b_Ch_solveByPart 89 (.putfield 40) 3 92 := ⟨by decide +kernel, rfl⟩
theorem d_Ch_solveByPart_92 : DC b_Ch_solveByPart 92 (.iinc 3 1) 3 95 := ⟨by decide +kernel, rfl⟩
theorem d_Ch_solveByPart_95 : DB b_Ch_solveByPart 95 (.goto (-88)) (-88) 7 98 := ⟨by decide +kernel, by decide, rfl⟩
theorem d_Ch_solveByPart_98 : DC b_Ch_solveByPart 98 (.aload_n 0) 1 99 := ⟨by decide +kernel, rfl⟩
theorem d_Ch_solveByPart_99 : DC b_Ch_solveByPart 99 (.aload_n 0) 1 100 := ⟨by decide +kernel, rfl⟩
theorem d_Ch_solveByPart_100 : DC b_Ch_solveByPart 100 (.getfield 37) 3 103 := ⟨by decide +kernel, rfl⟩
theorem d_Ch_solveByPart_103 : DC b_Ch_solveByPart 103 (.iload_n 1) 1 104 := ⟨by decide +kernel, rfl⟩
theorem d_Ch_solveByPart_104 : DC b_Ch_solveByPart 104 (.bipush 16) 2 106 := ⟨by decide +kernel, rfl⟩
theorem d_Ch_solveByPart_106 : DC b_Ch_solveByPart 106 (.imul) 1 107 := ⟨by decide +kernel, rfl⟩
theorem d_Ch_solveByPart_107 : DC b_Ch_solveByPart 107 (.iload_n 2) 1 108 := ⟨by decide +kernel, rfl⟩
theorem d_Ch_solveByPart_108 : DC b_Ch_solveByPart 108 (.iadd) 1 109 := ⟨by decide +kernel, rfl⟩
theorem d_Ch_solveByPart_109 : DC b_Ch_solveByPart 109 (.laload) 1 110 := ⟨by decide +kernel, rfl⟩
theorem d_Ch_solveByPart_110 : DC b_Ch_solveByPart 110 (.putfield 44) 3 113 := ⟨by decide +kernel, rfl⟩
theorem d_Ch_solveByPart_113 : DC b_Ch_solveByPart 113 (.aload_n 0) 1 114 := ⟨by decide +kernel, rfl⟩
theorem d_Ch_solveByPart_114 : DC b_Ch_solveByPart 114 (.getfield 40) 3 117 := ⟨by decide +kernel, rfl⟩
theorem d_Ch_solveByPart_117 : DC b_Ch_solveByPart 117 (.lconst 0) 1 118 := ⟨by decide +kernel, rfl⟩
theorem d_Ch_solveByPart_118 : DC b_Ch_solveByPart 118 (.lcmp) 1 119 := ⟨by decide +kernel, rfl⟩
theorem d_Ch_solveByPart_119 : DB b_Ch_solveByPart 119 (.ifCond .ge 7) 7 126 122 := ⟨by decide +kernel, by decide, rfl⟩
theorem d_Ch_solveByPart_122 : DC b_Ch_solveByPart 122 (.aload_n 0) 1 123 := ⟨by decide +kernel, rfl⟩
theorem d_Ch_solveByPart_123 : DC b_Ch_solveByPart 123 (.invokevirtual 98) 3 126 := ⟨by decide +kernel, rfl⟩
theorem d_Ch_solveByPart_126 : DC b_Ch_solveByPart 126 (.aload_n 0) 1 127 := ⟨by decide +kernel, rfl⟩
theorem d_Ch_solveByPart_127 : DC b_Ch_solveByPart 127 (.getfield 40) 3 130 := ⟨by decide +kernel, rfl⟩
theorem d_Ch_solveByPart_130 : DC b_Ch_solveByPart 130 (.lconst 0) 1 131 := ⟨by decide +kernel, rfl⟩
theorem d_Ch_solveByPart_131 : DC b_Ch_solveByPart 131 (.lcmp) 1 132 := ⟨by decide +kernel, rfl⟩
theorem d_Ch_solveByPart_132 : DB b_Ch_solveByPart 132 (.ifCond .eq 28) 28 160 135 := ⟨by decide +kernel, by decide, rfl⟩
theorem d_Ch_solveByPart_135 : DC b_Ch_solveByPart 135 (.aload_n 0) 1 136 := ⟨by decide +kernel, rfl⟩
theorem d_Ch_solveByPart_136 : DC b_Ch_solveByPart 136 (.invokevirtual 101) 3 139 := ⟨by decide +kernel, rfl⟩
theorem d_Ch_solveByPart_139 : DB b_Ch_solveByPart 139 (.ifCond .eq 21) 21 160 142 := ⟨by decide +kernel, by decide, rfl⟩
theorem d_Ch_solveByPart_142 : DC b_Ch_solveByPart 142 (.aload_n 0) 1 143 := ⟨by decide +kernel, rfl⟩
theorem d_Ch_solveByPart_143 : DC b_Ch_solveByPart 143 (.invokevirtual 105) 3 146 := ⟨by decide +kernel, rfl⟩
theorem d_Ch_solveByPart_146 : DB b_Ch_solveByPart 146 (.ifCond .eq 14) 14 160 149 := ⟨by decide +kernel, by decide, rfl⟩
theorem d_Ch_solveByPart_149 : DC b_Ch_solveByPart 149 (.aload_n 0) 1 150 := ⟨by decide +kernel, rfl⟩
theorem d_Ch_solveByPart_150 : DC b_Ch_solveByPart 150 (.invokevirtual 108) 3 153 := ⟨by decide +kernel, rfl⟩
theorem d_Ch_solveByPart_153 : DB b_Ch_solveByPart 153 (.ifCond .eq 7) 7 160 156 := ⟨by decide +kernel, by decide, rfl⟩
theorem d_Ch_solveByPart_156 : DC b_Ch_solveByPart 156 (.iconst 1) 1 157 := ⟨by decide +kernel, rfl⟩
theorem d_Ch_solveByPart_157 : DB b_Ch_solveByPart 157 (.goto 4) 4 161 160 := ⟨by decide +kernel, by decide, rfl⟩
theorem d_Ch_solveByPart_160 : DC b_Ch_solveByPart 160 (.iconst 0) 1 161 := ⟨by decide +kernel, rfl⟩
theorem d_Ch_solveByPart_161 : decode b_Ch_solveByPart 161 = .ok (.ireturn, 1) := by decide +kernel
theorem w_Ch_solveByPart_l29 {X : Ctx} {Y : Lay} (hY : IsX Y) (C : Cx X Y b_Ch_solveByPart 5 (some .boolean) "TopYard$Choice" 3) {N : Nat} {r : Int32 × Mem} (k7 : Int32 → Int32 → Int32 → Mem → Option (Int32 × Mem)) (hk7 : ∀ (x1 : Int32) (x2 : Int32) (x3 : Int32) (ν : Mem), k7 x1 x2 x3 ν = some r → J X Y (some (.int r.1)) r.2 5 7 [(0, .ref (yad Y 23)), (1, .int x1), (2, .int x2), (3, .int x3)] [] ν) : ∀ (n : Nat) (x1 : Int32) (x2 : Int32) (x3 : Int32) (x4 : Int32) (μ : Mem), f_Ch_solveByPart_l29 N k7 n x1 x2 x3 x4 μ = some r → J X Y (some (.int r.1)) r.2 5 29 [(0, .ref (yad Y 23)), (1, .int x1), (2, .int x2), (3, .int x3), (4, .int x4)] [] μ := by
  intro n
  induction n with
  | zero => intro x1 x2 x3 x4 μ hf; rw [f_Ch_solveByPart_l29] at hf; cases hf
  | succ n ih =>
    intro x1 x2 x3 x4 μ hf
    rw [f_Ch_solveByPart_l29] at hf
    refine j_iload C d_Ch_solveByPart_29 4 rfl ?_
    refine j_iconst (v := 4) C d_Ch_solveByPart_31 (by decide) ?_
    refine j_icmp_ge C d_Ch_solveByPart_32 hf (fun hf => ?_) (fun hf => ?_)
    · refine j_aload_n C d_Ch_solveByPart_77 0 rfl ?_
      refine j_dup C d_Ch_solveByPart_78 rfl ?_
      refine j_gL C fl_Ch_40 (kX hY rfl) (nX hY (by decide)) rfl d_Ch_solveByPart_79 ?_
      refine j_aload_n C d_Ch_solveByPart_82 0 rfl ?_
      refine j_gS (b := 31) C fl_Ch_30 (kX hY rfl) (nX hY (by decide)) rfl hY.2.2.2.1 rfl (sX hY rfl) d_Ch_solveByPart_83 ?_
      refine j_iload_n C d_Ch_solveByPart_86 3 rfl ?_
      refine ck hf (fun hi1 hf => ?_)
      refine j_lald C (kX hY rfl) (nX hY (by decide)) (lX hY rfl) hi1 d_Ch_solveByPart_87 ?_
      refine j_ladd C d_Ch_solveByPart_88 ?_
      refine j_pL C fl_Ch_40 (kX hY rfl) (nX hY (by decide)) rfl rfl rfl d_Ch_solveByPart_89 hf (fun μ2 hf => ?_)
      refine j_iinc (lvf := [(0, .ref (yad Y 23)), (1, .int x1), (2, .int x2), (4, .int x4)]) (v := 1) C d_Ch_solveByPart_92 3 rfl (by decide) (by decide) rfl hf (fun v3 hf => ?_)
      refine j_goto C d_Ch_solveByPart_95 ?_
      refine j_sub [1, 2, 3, 0] rfl ?_
      exact hk7 x1 x2 v3 μ2 hf
    · refine j_aload_n C d_Ch_solveByPart_35 0 rfl ?_
      refine j_gS (b := 31) C fl_Ch_30 (kX hY rfl) (nX hY (by decide)) rfl hY.2.2.2.1 rfl (sX hY rfl) d_Ch_solveByPart_36 ?_
      refine j_iload_n C d_Ch_solveByPart_39 3 rfl ?_
      refine j_dup2 C d_Ch_solveByPart_40 rfl rfl ?_
      refine ck hf (fun hi4 hf => ?_)
      refine j_lald C (kX hY rfl) (nX hY (by decide)) (lX hY rfl) hi4 d_Ch_solveByPart_41 ?_
      refine j_aload_n C d_Ch_solveByPart_42 0 rfl ?_
      refine j_iload_n C d_Ch_solveByPart_43 1 rfl ?_
      refine j_iload_n C d_Ch_solveByPart_44 2 rfl ?_
      refine j_iload_n C d_Ch_solveByPart_45 3 rfl ?_
      refine j_iload C d_Ch_solveByPart_46 4 rfl ?_
      refine bd hf (fun v5 hc14 hf => ?_)
      refine j_cV (rest := [.long (gL μ 31 (ix x3)), .int x3, .ref (yad Y 31)]) C lk_Ch_95 (c_Ch_cofactor hY hc14) rfl (kX hY rfl) (nX hY (by decide)) (by decide) rfl rfl (by decide) rfl (Nat.le_of_ble_eq_true rfl) d_Ch_solveByPart_48 ?_
      refine j_ladd C d_Ch_solveByPart_51 ?_
      refine ck hf (fun hi6 hf => ?_)
      refine j_last C (kX hY rfl) (nX hY (by decide)) (lX hY rfl) hi6 d_Ch_solveByPart_52 hf (fun μ7 hf => ?_)
      refine j_aload_n C d_Ch_solveByPart_53 0 rfl ?_
      refine j_gS (b := 32) C fl_Ch_34 (kX hY rfl) (nX hY (by decide)) rfl hY.2.2.2.1 rfl (sX hY rfl) d_Ch_solveByPart_54 ?_
      refine j_iload_n C d_Ch_solveByPart_57 3 rfl ?_
      refine j_dup2 C d_Ch_solveByPart_58 rfl rfl ?_
      refine ck hf (fun hi8 hf => ?_)
      refine j_lald C (kX hY rfl) (nX hY (by decide)) (lX hY rfl) hi8 d_Ch_solveByPart_59 ?_
      refine j_aload_n C d_Ch_solveByPart_60 0 rfl ?_
      refine j_iload_n C d_Ch_solveByPart_61 1 rfl ?_
      refine j_iload_n C d_Ch_solveByPart_62 2 rfl ?_
      refine j_iload C d_Ch_solveByPart_63 4 rfl ?_
      refine j_iload_n C d_Ch_solveByPart_65 3 rfl ?_
      refine bd hf (fun v9 hc13 hf => ?_)
      refine j_cV (rest := [.long (gL μ7 32 (ix x3)), .int x3, .ref (yad Y 32)]) C lk_Ch_95 (c_Ch_cofactor hY hc13) rfl (kX hY rfl) (nX hY (by decide)) (by decide) rfl rfl (by decide) rfl (Nat.le_of_ble_eq_true rfl) d_Ch_solveByPart_66 ?_
      refine j_ladd C d_Ch_solveByPart_69 ?_
      refine ck hf (fun hi10 hf => ?_)
      refine j_last C (kX hY rfl) (nX hY (by decide)) (lX hY rfl) hi10 d_Ch_solveByPart_70 hf (fun μ11 hf => ?_)
      refine j_iinc (lvf := [(0, .ref (yad Y 23)), (1, .int x1), (2, .int x2), (3, .int x3)]) (v := 1) C d_Ch_solveByPart_71 4 rfl (by decide) (by decide) rfl hf (fun v12 hf => ?_)
      refine j_goto C d_Ch_solveByPart_74 ?_
      refine j_sub [1, 2, 3, 4, 0] rfl ?_
      exact ih x1 x2 x3 v12 μ11 hf
theorem w_Ch_solveByPart_b126 {X : Ctx} {Y : Lay} (hY : IsX Y) (C : Cx X Y b_Ch_solveByPart 5 (some .boolean) "TopYard$Choice" 3) {N : Nat} {r : Int32 × Mem} (μ : Mem) (hf : f_Ch_solveByPart_b126 N μ = some r) : J X Y (some (.int r.1)) r.2 5 126 [(0, .ref (yad Y 23))] [] μ := by
  unfold f_Ch_solveByPart_b126 at hf
  refine j_aload_n C d_Ch_solveByPart_126 0 rfl ?_
  refine j_gL C fl_Ch_40 (kX hY rfl) (nX hY (by decide)) rfl d_Ch_solveByPart_127 ?_
  refine j_lconst (v := 0) C d_Ch_solveByPart_130 (by decide) ?_
  refine j_lcmp_eq C d_Ch_solveByPart_131 d_Ch_solveByPart_132 hf (fun hf => ?_) (fun hf => ?_)
  · refine j_iconst (v := 0) C d_Ch_solveByPart_160 (by decide) ?_
    obtain rfl := Option.some.inj hf
    exact j_zret C (Or.inl rfl) d_Ch_solveByPart_161
  · refine j_aload_n C d_Ch_solveByPart_135 0 rfl ?_
    refine bd hf (fun v1 hc6 hf => ?_)
    refine j_cV (rest := []) C lk_Ch_101 (c_Ch_noShareIsNegative hY hc6) rfl (kX hY rfl) (nX hY (by decide)) (by decide) rfl rfl (by decide) rfl (Nat.le_of_ble_eq_true rfl) d_Ch_solveByPart_136 ?_
    refine j_if_eq C d_Ch_solveByPart_139 hf (fun hf => ?_) (fun hf => ?_)
    · refine j_iconst (v := 0) C d_Ch_solveByPart_160 (by decide) ?_
      obtain rfl := Option.some.inj hf
      exact j_zret C (Or.inl rfl) d_Ch_solveByPart_161
    · refine j_aload_n C d_Ch_solveByPart_142 0 rfl ?_
      refine bd hf (fun v2 hc5 hf => ?_)
      refine j_cV (rest := []) C lk_Ch_105 (c_Ch_holdsForRows hY hc5) rfl (kX hY rfl) (nX hY (by decide)) (by decide) rfl rfl (by decide) rfl (Nat.le_of_ble_eq_true rfl) d_Ch_solveByPart_143 ?_
      refine j_if_eq C d_Ch_solveByPart_146 hf (fun hf => ?_) (fun hf => ?_)
      · refine j_iconst (v := 0) C d_Ch_solveByPart_160 (by decide) ?_
        obtain rfl := Option.some.inj hf
        exact j_zret C (Or.inl rfl) d_Ch_solveByPart_161
      · refine j_aload_n C d_Ch_solveByPart_149 0 rfl ?_
        refine bd hf (fun v3 hc4 hf => ?_)
        refine j_cV (rest := []) C lk_Ch_108 (c_Ch_holdsForColumns hY hc4) rfl (kX hY rfl) (nX hY (by decide)) (by decide) rfl rfl (by decide) rfl (Nat.le_of_ble_eq_true rfl) d_Ch_solveByPart_150 ?_
        refine j_if_eq C d_Ch_solveByPart_153 hf (fun hf => ?_) (fun hf => ?_)
        · refine j_iconst (v := 0) C d_Ch_solveByPart_160 (by decide) ?_
          obtain rfl := Option.some.inj hf
          exact j_zret C (Or.inl rfl) d_Ch_solveByPart_161
        · refine j_iconst (v := 1) C d_Ch_solveByPart_156 (by decide) ?_
          refine j_goto C d_Ch_solveByPart_157 ?_
          obtain rfl := Option.some.inj hf
          exact j_zret C (Or.inr rfl) d_Ch_solveByPart_161
theorem w_Ch_solveByPart_l7 {X : Ctx} {Y : Lay} (hY : IsX Y) (C : Cx X Y b_Ch_solveByPart 5 (some .boolean) "TopYard$Choice" 3) {N : Nat} {r : Int32 × Mem} : ∀ (n : Nat) (x1 : Int32) (x2 : Int32) (x3 : Int32) (μ : Mem), f_Ch_solveByPart_l7 N n x1 x2 x3 μ = some r → J X Y (some (.int r.1)) r.2 5 7 [(0, .ref (yad Y 23)), (1, .int x1), (2, .int x2), (3, .int x3)] [] μ := by
  intro n
  induction n with
  | zero => intro x1 x2 x3 μ hf; rw [f_Ch_solveByPart_l7] at hf; cases hf
  | succ n ih =>
    intro x1 x2 x3 μ hf
    rw [f_Ch_solveByPart_l7] at hf
    refine j_iload_n C d_Ch_solveByPart_7 3 rfl ?_
    refine j_iconst (v := 4) C d_Ch_solveByPart_8 (by decide) ?_
    refine j_icmp_ge C d_Ch_solveByPart_9 hf (fun hf => ?_) (fun hf => ?_)
    · refine j_aload_n C d_Ch_solveByPart_98 0 rfl ?_
      refine j_aload_n C d_Ch_solveByPart_99 0 rfl ?_
      refine j_gS (b := 33) C fl_Ch_37 (kX hY rfl) (nX hY (by decide)) rfl hY.2.2.2.1 rfl (sX hY rfl) d_Ch_solveByPart_100 ?_
      refine j_iload_n C d_Ch_solveByPart_103 1 rfl ?_
      refine j_bipush (v := 16) C d_Ch_solveByPart_104 (by decide) ?_
      refine j_imul C d_Ch_solveByPart_106 ?_
      refine j_iload_n C d_Ch_solveByPart_107 2 rfl ?_
      refine j_iadd C d_Ch_solveByPart_108 ?_
      refine ck hf (fun hi1 hf => ?_)
      refine j_lald C (kX hY rfl) (nX hY (by decide)) (lX hY rfl) hi1 d_Ch_solveByPart_109 ?_
      refine j_pL C fl_Ch_44 (kX hY rfl) (nX hY (by decide)) rfl rfl rfl d_Ch_solveByPart_110 hf (fun μ2 hf => ?_)
      refine j_aload_n C d_Ch_solveByPart_113 0 rfl ?_
      refine j_gL C fl_Ch_40 (kX hY rfl) (nX hY (by decide)) rfl d_Ch_solveByPart_114 ?_
      refine j_lconst (v := 0) C d_Ch_solveByPart_117 (by decide) ?_
      refine j_lcmp_ge C d_Ch_solveByPart_118 d_Ch_solveByPart_119 hf (fun hf => ?_) (fun hf => ?_)
      · refine j_sub [0] rfl ?_
        exact w_Ch_solveByPart_b126 hY C μ2 hf
      · refine j_aload_n C d_Ch_solveByPart_122 0 rfl ?_
        refine bd hf (fun μ3 hc4 hf => ?_)
        refine j_cV (rest := []) C lk_Ch_98 (c_Ch_changeSigns hY hc4) rfl (kX hY rfl) (nX hY (by decide)) (by decide) rfl rfl (by decide) rfl (Nat.le_of_ble_eq_true rfl) d_Ch_solveByPart_123 ?_
        refine j_sub [0] rfl ?_
        exact w_Ch_solveByPart_b126 hY C μ3 hf
    · refine j_aload_n C d_Ch_solveByPart_12 0 rfl ?_
      refine j_gS (b := 31) C fl_Ch_30 (kX hY rfl) (nX hY (by decide)) rfl hY.2.2.2.1 rfl (sX hY rfl) d_Ch_solveByPart_13 ?_
      refine j_iload_n C d_Ch_solveByPart_16 3 rfl ?_
      refine j_lconst (v := 0) C d_Ch_solveByPart_17 (by decide) ?_
      refine ck hf (fun hi5 hf => ?_)
      refine j_last C (kX hY rfl) (nX hY (by decide)) (lX hY rfl) hi5 d_Ch_solveByPart_18 hf (fun μ6 hf => ?_)
      refine j_aload_n C d_Ch_solveByPart_19 0 rfl ?_
      refine j_gS (b := 32) C fl_Ch_34 (kX hY rfl) (nX hY (by decide)) rfl hY.2.2.2.1 rfl (sX hY rfl) d_Ch_solveByPart_20 ?_
      refine j_iload_n C d_Ch_solveByPart_23 3 rfl ?_
      refine j_lconst (v := 0) C d_Ch_solveByPart_24 (by decide) ?_
      refine ck hf (fun hi7 hf => ?_)
      refine j_last C (kX hY rfl) (nX hY (by decide)) (lX hY rfl) hi7 d_Ch_solveByPart_25 hf (fun μ8 hf => ?_)
      refine j_iconst (v := 0) C d_Ch_solveByPart_26 (by decide) ?_
      refine j_istore (lvf := [(0, .ref (yad Y 23)), (1, .int x1), (2, .int x2), (3, .int x3)]) C d_Ch_solveByPart_27 (by decide) rfl ?_
      refine j_sub [1, 2, 3, 4, 0] rfl ?_
      exact w_Ch_solveByPart_l29 hY C (f_Ch_solveByPart_l7 N n) ih N x1 x2 x3 0 μ8 hf
theorem c_Ch_solveByPart {l : Launch} {Y : Lay} (hY : IsX Y) {N : Nat} {μ : Mem} {x1 : Int32} {x2 : Int32} {r : Int32 × Mem} (hf : f_Ch_solveByPart N μ x1 x2 = some r) : Ct l Y y_Ch_solveByPart b_Ch_solveByPart 5 (some .boolean) 3 [.ref (yad Y 23), .int x1, .int x2] (some (.int r.1)) μ r.2 := by
  refine ct_of (own := "TopYard$Choice") (lv := [(0, .ref (yad Y 23)), (1, .int x1), (2, .int x2)]) (by decide +kernel) rfl (Nat.le_of_ble_eq_true rfl) rfl (fun X hl C => ?_)
  subst hl
  unfold f_Ch_solveByPart at hf
  refine j_aload_n C d_Ch_solveByPart_0 0 rfl ?_
  refine j_lconst (v := 0) C d_Ch_solveByPart_1 (by decide) ?_
  refine j_pL C fl_Ch_40 (kX hY rfl) (nX hY (by decide)) rfl rfl rfl d_Ch_solveByPart_2 hf (fun μ1 hf => ?_)
  refine j_iconst (v := 0) C d_Ch_solveByPart_5 (by decide) ?_
  refine j_istore_n (lvf := [(0, .ref (yad Y 23)), (1, .int x1), (2, .int x2)]) C d_Ch_solveByPart_6 (by decide) rfl ?_
  refine j_sub [1, 2, 3, 0] rfl ?_
  exact w_Ch_solveByPart_l7 hY C N x1 x2 0 μ1 hf
theorem d_Ch_solveBySize_0 : DC b_Ch_solveBySize 0 (.iconst 1) 1 1 := ⟨by decide +kernel, rfl⟩
theorem d_Ch_solveBySize_1 : DC b_Ch_solveBySize 1 (.istore_n 2) 1 2 := ⟨by decide +kernel, rfl⟩
theorem d_Ch_solveBySize_2 : DC b_Ch_solveBySize 2 (.iload_n 2) 1 3 := ⟨by decide +kernel, rfl⟩
theorem d_Ch_solveBySize_3 : DC b_Ch_solveBySize 3 (.iconst 1) 1 4 := ⟨by decide +kernel, rfl⟩
theorem d_Ch_solveBySize_4 : DC b_Ch_solveBySize 4 (.aload_n 0) 1 5 := ⟨by decide +kernel, rfl⟩
theorem d_Ch_solveBySize_5 : DC b_Ch_solveBySize 5 (.getfield 11) 3 8 := ⟨by decide +kernel, rfl⟩
theorem d_Ch_solveBySize_8 : DC b_Ch_solveBySize 8 (.ishl) 1 9 := ⟨by decide +kernel, rfl⟩
theorem d_Ch_solveBySize_9 : DB b_Ch_solveBySize 9 (.if_icmp .ge 66) 66 75 12 := ⟨by decide +kernel, by decide, rfl⟩
theorem d_Ch_solveBySize_12 : DC b_Ch_solveBySize 12 (.iconst 1) 1 13 := ⟨by decide +kernel, rfl⟩
theorem d_Ch_solveBySize_13 : DC b_Ch_solveBySize 13 (.istore_n 3) 1 14 := ⟨by decide +kernel, rfl⟩
theorem d_Ch_solveBySize_14 : DC b_Ch_solveBySize 14 (.iload_n 3) 1 15 := ⟨by decide +kernel, rfl⟩
theorem d_Ch_solveBySize_15 : DC b_Ch_solveBySize 15 (.iconst 1) 1 16 := ⟨by decide +kernel, rfl⟩
theorem d_Ch_solveBySize_16 : DC b_Ch_solveBySize 16 (.aload_n 0) 1 17 := ⟨by decide +kernel, rfl⟩
theorem d_Ch_solveBySize_17 : DC b_Ch_solveBySize 17 (.getfield 15) 3 20 := ⟨by decide +kernel, rfl⟩
theorem d_Ch_solveBySize_20 : DC b_Ch_solveBySize 20 (.ishl) 1 21 := ⟨by decide +kernel, rfl⟩
theorem d_Ch_solveBySize_21 : DB b_Ch_solveBySize 21 (.if_icmp .ge 48) 48 69 24 := ⟨by decide +kernel, by decide, rfl⟩
theorem d_Ch_solveBySize_24 : DC b_Ch_solveBySize 24 (.iload_n 2) 1 25 := ⟨by decide +kernel, rfl⟩
theorem d_Ch_solveBySize_25 : DC b_Ch_solveBySize 25 (.invokestatic 74) 3 28 := ⟨by decide +kernel, rfl⟩
theorem d_Ch_solveBySize_28 : DC b_Ch_solveBySize 28 (.iload_n 1) 1 29 := ⟨by decide +kernel, rfl⟩
theorem d_Ch_solveBySize_29 : DB b_Ch_solveBySize 29 (.if_icmp .ne 15) 15 44 32 := ⟨by decide +kernel, by decide, rfl⟩
theorem d_Ch_solveBySize_32 : DC b_Ch_solveBySize 32 (.iload_n 3) 1 33 := ⟨by decide +kernel, rfl⟩
theorem d_Ch_solveBySize_33 : DC b_Ch_solveBySize 33 (.invokestatic 74) 3 36 := ⟨by decide +kernel, rfl⟩
theorem d_Ch_solveBySize_36 : DC b_Ch_solveBySize 36 (.iload_n 1) 1 37 := ⟨by decide +kernel, rfl⟩
theorem d_Ch_solveBySize_37 : DB b_Ch_solveBySize 37 (.if_icmp .ne 7) 7 44 40 := ⟨by decide +kernel, by decide, rfl⟩
theorem d_Ch_solveBySize_40 : DC b_Ch_solveBySize 40 (.iconst 1) 1 41 := ⟨by decide +kernel, rfl⟩
theorem d_Ch_solveBySize_41 : DB b_Ch_solveBySize 41 (.goto 4) 4 45 44 := ⟨by decide +kernel, by decide, rfl⟩
theorem d_Ch_solveBySize_44 : DC b_Ch_solveBySize 44 (.iconst 0) 1 45 := ⟨by decide +kernel, rfl⟩
theorem d_Ch_solveBySize_45 : DC b_Ch_solveBySize 45 (.istore 4) 2 47 := ⟨by decide +kernel, rfl⟩
theorem d_Ch_solveBySize_47 : DC b_Ch_solveBySize 47 (.iload 4) 2 49 := ⟨by decide +kernel, rfl⟩
theorem d_Ch_solveBySize_49 : DB b_Ch_solveBySize 49 (.ifCond .eq 14) 14 63 52 := ⟨by decide +kernel, by decide, rfl⟩
theorem d_Ch_solveBySize_52 : DC b_Ch_solveBySize 52 (.aload_n 0) 1 53 := ⟨by decide +kernel, rfl⟩
theorem d_Ch_solveBySize_53 : DC b_Ch_solveBySize 53 (.iload_n 2) 1 54 := ⟨by decide +kernel, rfl⟩
theorem d_Ch_solveBySize_54 : DC b_Ch_solveBySize 54 (.iload_n 3) 1 55 := ⟨by decide +kernel, rfl⟩
theorem d_Ch_solveBySize_55 : DC b_Ch_solveBySize 55 (.invokevirtual 91) 3 58 := ⟨by decide +kernel, rfl⟩
theorem d_Ch_solveBySize_58 : DB b_Ch_solveBySize 58 (.ifCond .eq 5) 5 63 61 := ⟨by decide +kernel, by decide, rfl⟩
theorem d_Ch_solveBySize_61 : DC b_Ch_solveBySize 61 (.iconst 1) 1 62 := ⟨by decide +kernel, rfl⟩
theorem d_Ch_solveBySize_62 : decode b_Ch_solveBySize 62 = .ok (.ireturn, 1) := by decide +kernel
theorem d_Ch_solveBySize_63 : DC b_Ch_solveBySize 63 (.iinc 3 1) 3 66 := ⟨by decide +kernel, rfl⟩
theorem d_Ch_solveBySize_66 : DB b_Ch_solveBySize 66 (.goto (-52)) (-52) 14 69 := ⟨by decide +kernel, by decide, rfl⟩
theorem d_Ch_solveBySize_69 : DC b_Ch_solveBySize 69 (.iinc 2 1) 3 72 := ⟨by decide +kernel, rfl⟩
theorem d_Ch_solveBySize_72 : DB b_Ch_solveBySize 72 (.goto (-70)) (-70) 2 75 := ⟨by decide +kernel, by decide, rfl⟩
theorem d_Ch_solveBySize_75 : DC b_Ch_solveBySize 75 (.iconst 0) 1 76 := ⟨by decide +kernel, rfl⟩
theorem d_Ch_solveBySize_76 : decode b_Ch_solveBySize 76 = .ok (.ireturn, 1) := by decide +kernel
theorem w_Ch_solveBySize_b63 {X : Ctx} {Y : Lay} (hY : IsX Y) (C : Cx X Y b_Ch_solveBySize 5 (some .boolean) "TopYard$Choice" 4) {N : Nat} {r : Int32 × Mem} (k2 : Int32 → Int32 → Mem → Option (Int32 × Mem)) (k14 : Int32 → Int32 → Int32 → Mem → Option (Int32 × Mem)) (hk2 : ∀ (x1 : Int32) (x2 : Int32) (ν : Mem), k2 x1 x2 ν = some r → J X Y (some (.int r.1)) r.2 5 2 [(0, .ref (yad Y 23)), (1, .int x1), (2, .int x2)] [] ν) (hk14 : ∀ (x1 : Int32) (x2 : Int32) (x3 : Int32) (ν : Mem), k14 x1 x2 x3 ν = some r → J X Y (some (.int r.1)) r.2 5 14 [(0, .ref (yad Y 23)), (1, .int x1), (2, .int x2), (3, .int x3)] [] ν) (x1 : Int32) (x2 : Int32) (x3 : Int32) (μ : Mem) (hf : f_Ch_solveBySize_b63 N k2 k14 x1 x2 x3 μ = some r) : J X Y (some (.int r.1)) r.2 5 63 [(0, .ref (yad Y 23)), (1, .int x1), (2, .int x2), (3, .int x3)] [] μ := by
  unfold f_Ch_solveBySize_b63 at hf
  refine j_iinc (lvf := [(0, .ref (yad Y 23)), (1, .int x1), (2, .int x2)]) (v := 1) C d_Ch_solveBySize_63 3 rfl (by decide) (by decide) rfl hf (fun v1 hf => ?_)
  refine j_goto C d_Ch_solveBySize_66 ?_
  refine j_sub [1, 2, 3, 0] rfl ?_
  exact hk14 x1 x2 v1 μ hf
theorem w_Ch_solveBySize_b45 {X : Ctx} {Y : Lay} (hY : IsX Y) (C : Cx X Y b_Ch_solveBySize 5 (some .boolean) "TopYard$Choice" 4) {N : Nat} {r : Int32 × Mem} (k2 : Int32 → Int32 → Mem → Option (Int32 × Mem)) (k14 : Int32 → Int32 → Int32 → Mem → Option (Int32 × Mem)) (hk2 : ∀ (x1 : Int32) (x2 : Int32) (ν : Mem), k2 x1 x2 ν = some r → J X Y (some (.int r.1)) r.2 5 2 [(0, .ref (yad Y 23)), (1, .int x1), (2, .int x2)] [] ν) (hk14 : ∀ (x1 : Int32) (x2 : Int32) (x3 : Int32) (ν : Mem), k14 x1 x2 x3 ν = some r → J X Y (some (.int r.1)) r.2 5 14 [(0, .ref (yad Y 23)), (1, .int x1), (2, .int x2), (3, .int x3)] [] ν) (x1 : Int32) (x2 : Int32) (x3 : Int32) (xs0 : Int32) (μ : Mem) (hf : f_Ch_solveBySize_b45 N k2 k14 x1 x2 x3 xs0 μ = some r) : J X Y (some (.int r.1)) r.2 5 45 [(0, .ref (yad Y 23)), (1, .int x1), (2, .int x2), (3, .int x3)] [.int xs0] μ := by
  unfold f_Ch_solveBySize_b45 at hf
  refine j_istore (lvf := [(0, .ref (yad Y 23)), (1, .int x1), (2, .int x2), (3, .int x3)]) C d_Ch_solveBySize_45 (by decide) rfl ?_
  refine j_iload C d_Ch_solveBySize_47 0 rfl ?_
  refine j_if_eq C d_Ch_solveBySize_49 hf (fun hf => ?_) (fun hf => ?_)
  · refine j_sub [1, 2, 3, 4] rfl ?_
    exact w_Ch_solveBySize_b63 hY C k2 k14 hk2 hk14 x1 x2 x3 μ hf
  · refine j_aload_n C d_Ch_solveBySize_52 1 rfl ?_
    refine j_iload_n C d_Ch_solveBySize_53 3 rfl ?_
    refine j_iload_n C d_Ch_solveBySize_54 4 rfl ?_
    refine bd2 hf (fun v1 μ2 hc3 hf => ?_)
    refine j_cV (rest := []) C lk_Ch_91 (c_Ch_solveByPart hY hc3) rfl (kX hY rfl) (nX hY (by decide)) (by decide) rfl rfl (by decide) rfl (Nat.le_of_ble_eq_true rfl) d_Ch_solveBySize_55 ?_
    refine j_if_eq C d_Ch_solveBySize_58 hf (fun hf => ?_) (fun hf => ?_)
    · refine j_sub [1, 2, 3, 4] rfl ?_
      exact w_Ch_solveBySize_b63 hY C k2 k14 hk2 hk14 x1 x2 x3 μ2 hf
    · refine j_iconst (v := 1) C d_Ch_solveBySize_61 (by decide) ?_
      obtain rfl := Option.some.inj hf
      exact j_zret C (Or.inr rfl) d_Ch_solveBySize_62
theorem w_Ch_solveBySize_b44 {X : Ctx} {Y : Lay} (hY : IsX Y) (C : Cx X Y b_Ch_solveBySize 5 (some .boolean) "TopYard$Choice" 4) {N : Nat} {r : Int32 × Mem} (k2 : Int32 → Int32 → Mem → Option (Int32 × Mem)) (k14 : Int32 → Int32 → Int32 → Mem → Option (Int32 × Mem)) (hk2 : ∀ (x1 : Int32) (x2 : Int32) (ν : Mem), k2 x1 x2 ν = some r → J X Y (some (.int r.1)) r.2 5 2 [(0, .ref (yad Y 23)), (1, .int x1), (2, .int x2)] [] ν) (hk14 : ∀ (x1 : Int32) (x2 : Int32) (x3 : Int32) (ν : Mem), k14 x1 x2 x3 ν = some r → J X Y (some (.int r.1)) r.2 5 14 [(0, .ref (yad Y 23)), (1, .int x1), (2, .int x2), (3, .int x3)] [] ν) (x1 : Int32) (x2 : Int32) (x3 : Int32) (μ : Mem) (hf : f_Ch_solveBySize_b44 N k2 k14 x1 x2 x3 μ = some r) : J X Y (some (.int r.1)) r.2 5 44 [(0, .ref (yad Y 23)), (1, .int x1), (2, .int x2), (3, .int x3)] [] μ := by
  unfold f_Ch_solveBySize_b44 at hf
  refine j_iconst (v := 0) C d_Ch_solveBySize_44 (by decide) ?_
  refine j_sub [0, 1, 2, 3] rfl ?_
  exact w_Ch_solveBySize_b45 hY C k2 k14 hk2 hk14 x1 x2 x3 0 μ hf
theorem w_Ch_solveBySize_l14 {X : Ctx} {Y : Lay} (hY : IsX Y) (C : Cx X Y b_Ch_solveBySize 5 (some .boolean) "TopYard$Choice" 4) {N : Nat} {r : Int32 × Mem} (k2 : Int32 → Int32 → Mem → Option (Int32 × Mem)) (hk2 : ∀ (x1 : Int32) (x2 : Int32) (ν : Mem), k2 x1 x2 ν = some r → J X Y (some (.int r.1)) r.2 5 2 [(0, .ref (yad Y 23)), (1, .int x1), (2, .int x2)] [] ν) : ∀ (n : Nat) (x1 : Int32) (x2 : Int32) (x3 : Int32) (μ : Mem), f_Ch_solveBySize_l14 N k2 n x1 x2 x3 μ = some r → J X Y (some (.int r.1)) r.2 5 14 [(0, .ref (yad Y 23)), (1, .int x1), (2, .int x2), (3, .int x3)] [] μ := by
  intro n
  induction n with
  | zero => intro x1 x2 x3 μ hf; rw [f_Ch_solveBySize_l14] at hf; cases hf
  | succ n ih =>
    intro x1 x2 x3 μ hf
    rw [f_Ch_solveBySize_l14] at hf
    refine j_iload_n C d_Ch_solveBySize_14 3 rfl ?_
    refine j_iconst (v := 1) C d_Ch_solveBySize_15 (by decide) ?_
    refine j_aload_n C d_Ch_solveBySize_16 0 rfl ?_
    refine j_gI C fl_Ch_15 (kX hY rfl) (nX hY (by decide)) rfl d_Ch_solveBySize_17 ?_
    refine j_ishl C d_Ch_solveBySize_20 ?_
    refine j_icmp_ge C d_Ch_solveBySize_21 hf (fun hf => ?_) (fun hf => ?_)
    · refine j_iinc (lvf := [(0, .ref (yad Y 23)), (1, .int x1), (3, .int x3)]) (v := 1) C d_Ch_solveBySize_69 2 rfl (by decide) (by decide) rfl hf (fun v1 hf => ?_)
      refine j_goto C d_Ch_solveBySize_72 ?_
      refine j_sub [1, 2, 0] rfl ?_
      exact hk2 x1 v1 μ hf
    · refine j_iload_n C d_Ch_solveBySize_24 2 rfl ?_
      refine bd hf (fun v2 hc5 hf => ?_)
      refine j_cS (rest := []) C lk_Ch_74 (c_JI_bitCount hY hc5) rfl (by decide) rfl (Nat.le_of_ble_eq_true rfl) d_Ch_solveBySize_25 ?_
      refine j_iload_n C d_Ch_solveBySize_28 1 rfl ?_
      refine j_icmp_ne C d_Ch_solveBySize_29 hf (fun hf => ?_) (fun hf => ?_)
      · refine j_sub [0, 1, 2, 3] rfl ?_
        exact w_Ch_solveBySize_b44 hY C k2 (f_Ch_solveBySize_l14 N k2 n) hk2 ih x1 x2 x3 μ hf
      · refine j_iload_n C d_Ch_solveBySize_32 3 rfl ?_
        refine bd hf (fun v3 hc4 hf => ?_)
        refine j_cS (rest := []) C lk_Ch_74 (c_JI_bitCount hY hc4) rfl (by decide) rfl (Nat.le_of_ble_eq_true rfl) d_Ch_solveBySize_33 ?_
        refine j_iload_n C d_Ch_solveBySize_36 1 rfl ?_
        refine j_icmp_ne C d_Ch_solveBySize_37 hf (fun hf => ?_) (fun hf => ?_)
        · refine j_sub [0, 1, 2, 3] rfl ?_
          exact w_Ch_solveBySize_b44 hY C k2 (f_Ch_solveBySize_l14 N k2 n) hk2 ih x1 x2 x3 μ hf
        · refine j_iconst (v := 1) C d_Ch_solveBySize_40 (by decide) ?_
          refine j_goto C d_Ch_solveBySize_41 ?_
          refine j_sub [0, 1, 2, 3] rfl ?_
          exact w_Ch_solveBySize_b45 hY C k2 (f_Ch_solveBySize_l14 N k2 n) hk2 ih x1 x2 x3 1 μ hf
theorem w_Ch_solveBySize_l2 {X : Ctx} {Y : Lay} (hY : IsX Y) (C : Cx X Y b_Ch_solveBySize 5 (some .boolean) "TopYard$Choice" 4) {N : Nat} {r : Int32 × Mem} : ∀ (n : Nat) (x1 : Int32) (x2 : Int32) (μ : Mem), f_Ch_solveBySize_l2 N n x1 x2 μ = some r → J X Y (some (.int r.1)) r.2 5 2 [(0, .ref (yad Y 23)), (1, .int x1), (2, .int x2)] [] μ := by
  intro n
  induction n with
  | zero => intro x1 x2 μ hf; rw [f_Ch_solveBySize_l2] at hf; cases hf
  | succ n ih =>
    intro x1 x2 μ hf
    rw [f_Ch_solveBySize_l2] at hf
    refine j_iload_n C d_Ch_solveBySize_2 2 rfl ?_
    refine j_iconst (v := 1) C d_Ch_solveBySize_3 (by decide) ?_
    refine j_aload_n C d_Ch_solveBySize_4 0 rfl ?_
    refine j_gI C fl_Ch_11 (kX hY rfl) (nX hY (by decide)) rfl d_Ch_solveBySize_5 ?_
    refine j_ishl C d_Ch_solveBySize_8 ?_
    refine j_icmp_ge C d_Ch_solveBySize_9 hf (fun hf => ?_) (fun hf => ?_)
    · refine j_iconst (v := 0) C d_Ch_solveBySize_75 (by decide) ?_
      obtain rfl := Option.some.inj hf
      exact j_zret C (Or.inl rfl) d_Ch_solveBySize_76
    · refine j_iconst (v := 1) C d_Ch_solveBySize_12 (by decide) ?_
      refine j_istore_n (lvf := [(0, .ref (yad Y 23)), (1, .int x1), (2, .int x2)]) C d_Ch_solveBySize_13 (by decide) rfl ?_
      refine j_sub [1, 2, 3, 0] rfl ?_
      exact w_Ch_solveBySize_l14 hY C (f_Ch_solveBySize_l2 N n) ih N x1 x2 1 μ hf
theorem c_Ch_solveBySize {l : Launch} {Y : Lay} (hY : IsX Y) {N : Nat} {μ : Mem} {x1 : Int32} {r : Int32 × Mem} (hf : f_Ch_solveBySize N μ x1 = some r) : Ct l Y y_Ch_solveBySize b_Ch_solveBySize 5 (some .boolean) 4 [.ref (yad Y 23), .int x1] (some (.int r.1)) μ r.2 := by
  refine ct_of (own := "TopYard$Choice") (lv := [(0, .ref (yad Y 23)), (1, .int x1)]) (by decide +kernel) rfl (Nat.le_of_ble_eq_true rfl) rfl (fun X hl C => ?_)
  subst hl
  unfold f_Ch_solveBySize at hf
  refine j_iconst (v := 1) C d_Ch_solveBySize_0 (by decide) ?_
  refine j_istore_n (lvf := [(0, .ref (yad Y 23)), (1, .int x1)]) C d_Ch_solveBySize_1 (by decide) rfl ?_
  refine j_sub [1, 2, 0] rfl ?_
  exact w_Ch_solveBySize_l2 hY C N x1 1 μ hf
theorem d_Ch_solve_0 : DC b_Ch_solve 0 (.aload_n 0) 1 1 := ⟨by decide +kernel, rfl⟩
theorem d_Ch_solve_1 : DC b_Ch_solve 1 (.invokevirtual 67) 3 4 := ⟨by decide +kernel, rfl⟩
theorem d_Ch_solve_4 : DC b_Ch_solve 4 (.iconst 0) 1 5 := ⟨by decide +kernel, rfl⟩
theorem d_Ch_solve_5 : DC b_Ch_solve 5 (.istore_n 1) 1 6 := ⟨by decide +kernel, rfl⟩
theorem d_Ch_solve_6 : DC b_Ch_solve 6 (.iconst 1) 1 7 := ⟨by decide +kernel, rfl⟩
theorem d_Ch_solve_7 : DC b_Ch_solve 7 (.istore_n 2) 1 8 := ⟨by decide +kernel, rfl⟩
theorem d_Ch_solve_8 : DC b_Ch_solve 8 (.iload_n 2) 1 9 := ⟨by decide +kernel, rfl⟩
theorem d_Ch_solve_9 : DC b_Ch_solve 9 (.iconst 4) 1 10 := ⟨by decide +kernel, rfl⟩
theorem d_Ch_solve_10 : DB b_Ch_solve 10 (.if_icmp .gt 19) 19 29 13 := ⟨by decide +kernel, by decide, rfl⟩
theorem d_Ch_solve_13 : DC b_Ch_solve 13 (.iload_n 1) 1 14 := ⟨by decide +kernel, rfl⟩
theorem d_Ch_solve_14 : DB b_Ch_solve 14 (.ifCond .ne 15) 15 29 17 := ⟨by decide +kernel, by decide, rfl⟩
theorem d_Ch_solve_17 : DC b_Ch_solve 17 (.aload_n 0) 1 18 := ⟨by decide +kernel, rfl⟩
theorem d_Ch_solve_18 : DC b_Ch_solve 18 (.iload_n 2) 1 19 := ⟨by decide +kernel, rfl⟩
theorem d_Ch_solve_19 : DC b_Ch_solve 19 (.invokevirtual 70) 3 22 := ⟨by decide +kernel, rfl⟩
theorem d_Ch_solve_22 : DC b_Ch_solve 22 (.istore_n 1) 1 23 := ⟨by decide +kernel, rfl⟩
theorem d_Ch_solve_23 : DC b_Ch_solve 23 (.iinc 2 1) 3 26 := ⟨by decide +kernel, rfl⟩
theorem d_Ch_solve_26 : DB b_Ch_solve 26 (.goto (-18)) (-18) 8 29 := ⟨by decide +kernel, by decide, rfl⟩
theorem d_Ch_solve_29 : decode b_Ch_solve 29 = .ok (.return_, 1) := by decide +kernel
theorem w_Ch_solve_l8 {X : Ctx} {Y : Lay} (hY : IsX Y) (C : Cx X Y b_Ch_solve 3 none "TopYard$Choice" 5) {N : Nat} {r : Mem} : ∀ (n : Nat) (x1 : Int32) (x2 : Int32) (μ : Mem), f_Ch_solve_l8 N n x1 x2 μ = some r → J X Y none r 3 8 [(0, .ref (yad Y 23)), (1, .int x1), (2, .int x2)] [] μ := by
  intro n
  induction n with
  | zero => intro x1 x2 μ hf; rw [f_Ch_solve_l8] at hf; cases hf
  | succ n ih =>
    intro x1 x2 μ hf
    rw [f_Ch_solve_l8] at hf
    refine j_iload_n C d_Ch_solve_8 2 rfl ?_
    refine j_iconst (v := 4) C d_Ch_solve_9 (by decide) ?_
    refine j_icmp_gt C d_Ch_solve_10 hf (fun hf => ?_) (fun hf => ?_)
    · obtain rfl := Option.some.inj hf
      exact j_vret C d_Ch_solve_29
    · refine j_iload_n C d_Ch_solve_13 1 rfl ?_
      refine j_if_ne C d_Ch_solve_14 hf (fun hf => ?_) (fun hf => ?_)
      · obtain rfl := Option.some.inj hf
        exact j_vret C d_Ch_solve_29
      · refine j_aload_n C d_Ch_solve_17 0 rfl ?_
        refine j_iload_n C d_Ch_solve_18 2 rfl ?_
        refine bd2 hf (fun v1 μ2 hc4 hf => ?_)
        refine j_cV (rest := []) C lk_Ch_70 (c_Ch_solveBySize hY hc4) rfl (kX hY rfl) (nX hY (by decide)) (by decide) rfl rfl (by decide) rfl (Nat.le_of_ble_eq_true rfl) d_Ch_solve_19 ?_
        refine j_istore_n (lvf := [(0, .ref (yad Y 23)), (2, .int x2)]) C d_Ch_solve_22 (by decide) rfl ?_
        refine j_iinc (lvf := [(1, .int v1), (0, .ref (yad Y 23))]) (v := 1) C d_Ch_solve_23 2 rfl (by decide) (by decide) rfl hf (fun v3 hf => ?_)
        refine j_goto C d_Ch_solve_26 ?_
        refine j_sub [2, 1, 0] rfl ?_
        exact ih v1 v3 μ2 hf
theorem c_Ch_solve {l : Launch} {Y : Lay} (hY : IsX Y) {N : Nat} {μ : Mem} {r : Mem} (hf : f_Ch_solve N μ = some r) : Ct l Y y_Ch_solve b_Ch_solve 3 none 5 [.ref (yad Y 23)] none μ r := by
  refine ct_of (own := "TopYard$Choice") (lv := [(0, .ref (yad Y 23))]) (by decide +kernel) rfl (Nat.le_of_ble_eq_true rfl) rfl (fun X hl C => ?_)
  subst hl
  unfold f_Ch_solve at hf
  refine j_aload_n C d_Ch_solve_0 0 rfl ?_
  refine bd hf (fun μ1 hc2 hf => ?_)
  refine j_cV (rest := []) C lk_Ch_67 (c_Ch_findDeterminants hY hc2) rfl (kX hY rfl) (nX hY (by decide)) (by decide) rfl rfl (by decide) rfl (Nat.le_of_ble_eq_true rfl) d_Ch_solve_1 ?_
  refine j_iconst (v := 0) C d_Ch_solve_4 (by decide) ?_
  refine j_istore_n (lvf := [(0, .ref (yad Y 23))]) C d_Ch_solve_5 (by decide) rfl ?_
  refine j_iconst (v := 1) C d_Ch_solve_6 (by decide) ?_
  refine j_istore_n (lvf := [(1, .int 0), (0, .ref (yad Y 23))]) C d_Ch_solve_7 (by decide) rfl ?_
  refine j_sub [2, 1, 0] rfl ?_
  exact w_Ch_solve_l8 hY C N 0 1 μ1 hf
theorem d_Ch_inMillionths_0 : DC b_Ch_inMillionths 0 (.aload_n 0) 1 1 := ⟨by decide +kernel, rfl⟩
theorem d_Ch_inMillionths_1 : DC b_Ch_inMillionths 1 (.getfield 40) 3 4 := ⟨by decide +kernel, rfl⟩
theorem d_Ch_inMillionths_4 : DC b_Ch_inMillionths 4 (.lconst 0) 1 5 := ⟨by decide +kernel, rfl⟩
theorem d_Ch_inMillionths_5 : DC b_Ch_inMillionths 5 (.lcmp) 1 6 := ⟨by decide +kernel, rfl⟩
theorem d_Ch_inMillionths_6 : DB b_Ch_inMillionths 6 (.ifCond .ne 7) 7 13 9 := ⟨by decide +kernel, by decide, rfl⟩
theorem d_Ch_inMillionths_9 : DC b_Ch_inMillionths 9 (.iconst 0) 1 10 := ⟨by decide +kernel, rfl⟩
theorem d_Ch_inMillionths_10 : DB b_Ch_inMillionths 10 (.goto 16) 16 26 13 := ⟨by decide +kernel, by decide, rfl⟩
theorem d_Ch_inMillionths_13 : DC b_Ch_inMillionths 13 (.lload_n 1) 1 14 := ⟨by decide +kernel, rfl⟩
theorem d_Ch_inMillionths_14 : DC b_Ch_inMillionths 14 (.ldc2_w 59) 3 17 := ⟨by decide +kernel, rfl⟩
theorem d_Ch_inMillionths_17 : DC b_Ch_inMillionths 17 (.lmul) 1 18 := ⟨by decide +kernel, rfl⟩
theorem d_Ch_inMillionths_18 : DC b_Ch_inMillionths 18 (.aload_n 0) 1 19 := ⟨by decide +kernel, rfl⟩
theorem d_Ch_inMillionths_19 : DC b_Ch_inMillionths 19 (.getfield 40) 3 22 := ⟨by decide +kernel, rfl⟩
theorem d_Ch_inMillionths_22 : DC b_Ch_inMillionths 22 (.invokestatic 61) 3 25 := ⟨by decide +kernel, rfl⟩
theorem d_Ch_inMillionths_25 : DC b_Ch_inMillionths 25 (.l2i) 1 26 := ⟨by decide +kernel, rfl⟩
theorem d_Ch_inMillionths_26 : decode b_Ch_inMillionths 26 = .ok (.ireturn, 1) := by decide +kernel
theorem c_Ch_inMillionths {l : Launch} {Y : Lay} (hY : IsX Y) {μ : Mem} {x1 : Int64} {r : Int32} (hf : f_Ch_inMillionths μ x1 = some r) : Ct l Y y_Ch_inMillionths b_Ch_inMillionths 3 (some .int) 2 [.ref (yad Y 23), .long x1] (some (.int r)) μ μ := by
  refine ct_of (own := "TopYard$Choice") (lv := [(0, .ref (yad Y 23)), (1, .long x1)]) (by decide +kernel) rfl (Nat.le_of_ble_eq_true rfl) rfl (fun X hl C => ?_)
  subst hl
  unfold f_Ch_inMillionths at hf
  refine j_aload_n C d_Ch_inMillionths_0 0 rfl ?_
  refine j_gL C fl_Ch_40 (kX hY rfl) (nX hY (by decide)) rfl d_Ch_inMillionths_1 ?_
  refine j_lconst (v := 0) C d_Ch_inMillionths_4 (by decide) ?_
  refine j_lcmp_ne C d_Ch_inMillionths_5 d_Ch_inMillionths_6 hf (fun hf => ?_) (fun hf => ?_)
  · refine j_lload_n C d_Ch_inMillionths_13 1 rfl ?_
    refine j_ldc2 (v := 1000000) C d_Ch_inMillionths_14 wd_91 ?_
    refine j_lmul C d_Ch_inMillionths_17 ?_
    refine j_aload_n C d_Ch_inMillionths_18 0 rfl ?_
    refine j_gL C fl_Ch_40 (kX hY rfl) (nX hY (by decide)) rfl d_Ch_inMillionths_19 ?_
    refine bd hf (fun v1 hc2 hf => ?_)
    refine j_cS (rest := []) C lk_Ch_61 (c_JM_floorDiv hY hc2) rfl (by decide) rfl (Nat.le_of_ble_eq_true rfl) d_Ch_inMillionths_22 ?_
    refine j_l2i C d_Ch_inMillionths_25 ?_
    obtain rfl := Option.some.inj hf
    exact j_iret C d_Ch_inMillionths_26
  · refine j_iconst (v := 0) C d_Ch_inMillionths_9 (by decide) ?_
    refine j_goto C d_Ch_inMillionths_10 ?_
    obtain rfl := Option.some.inj hf
    exact j_iret C d_Ch_inMillionths_26
theorem d_Ch_valueInMillionths_0 : DC b_Ch_valueInMillionths 0 (.aload_n 0) 1 1 := ⟨by decide +kernel, rfl⟩
theorem d_Ch_valueInMillionths_1 : DC b_Ch_valueInMillionths 1 (.aload_n 0) 1 2 := ⟨by decide +kernel, rfl⟩
theorem d_Ch_valueInMillionths_2 : DC b_Ch_valueInMillionths 2 (.getfield 44) 3 5 := ⟨by decide +kernel, rfl⟩
theorem d_Ch_valueInMillionths_5 : DC b_Ch_valueInMillionths 5 (.ldc2_w 53) 3 8 := ⟨by decide +kernel, rfl⟩
theorem d_Ch_valueInMillionths_8 : DC b_Ch_valueInMillionths 8 (.aload_n 0) 1 9 := ⟨by decide +kernel, rfl⟩
theorem d_Ch_valueInMillionths_9 : DC b_Ch_valueInMillionths 9 (.getfield 40) 3 12 := ⟨by decide +kernel, rfl⟩
theorem d_Ch_valueInMillionths_12 : DC b_Ch_valueInMillionths 12 (.lmul) 1 13 := ⟨by decide +kernel, rfl⟩
theorem d_Ch_valueInMillionths_13 : DC b_Ch_valueInMillionths 13 (.lsub) 1 14 := ⟨by decide +kernel, rfl⟩
theorem d_Ch_valueInMillionths_14 : DC b_Ch_valueInMillionths 14 (.invokevirtual 55) 3 17 := ⟨by decide +kernel, rfl⟩
theorem d_Ch_valueInMillionths_17 : decode b_Ch_valueInMillionths 17 = .ok (.ireturn, 1) := by decide +kernel
theorem c_Ch_valueInMillionths {l : Launch} {Y : Lay} (hY : IsX Y) {μ : Mem} {r : Int32} (hf : f_Ch_valueInMillionths μ = some r) : Ct l Y y_Ch_valueInMillionths b_Ch_valueInMillionths 1 (some .int) 3 [.ref (yad Y 23)] (some (.int r)) μ μ := by
  refine ct_of (own := "TopYard$Choice") (lv := [(0, .ref (yad Y 23))]) (by decide +kernel) rfl (Nat.le_of_ble_eq_true rfl) rfl (fun X hl C => ?_)
  subst hl
  unfold f_Ch_valueInMillionths at hf
  refine j_aload_n C d_Ch_valueInMillionths_0 0 rfl ?_
  refine j_aload_n C d_Ch_valueInMillionths_1 0 rfl ?_
  refine j_gL C fl_Ch_44 (kX hY rfl) (nX hY (by decide)) rfl d_Ch_valueInMillionths_2 ?_
  refine j_ldc2 (v := 20) C d_Ch_valueInMillionths_5 wd_92 ?_
  refine j_aload_n C d_Ch_valueInMillionths_8 0 rfl ?_
  refine j_gL C fl_Ch_40 (kX hY rfl) (nX hY (by decide)) rfl d_Ch_valueInMillionths_9 ?_
  refine j_lmul C d_Ch_valueInMillionths_12 ?_
  refine j_lsub C d_Ch_valueInMillionths_13 ?_
  refine bd hf (fun v1 hc2 hf => ?_)
  refine j_cV (rest := []) C lk_Ch_55 (c_Ch_inMillionths hY hc2) rfl (kX hY rfl) (nX hY (by decide)) (by decide) rfl rfl (by decide) rfl (Nat.le_of_ble_eq_true rfl) d_Ch_valueInMillionths_14 ?_
  obtain rfl := Option.some.inj hf
  exact j_iret C d_Ch_valueInMillionths_17
theorem d_X_value_0 : DC b_X_value 0 (.aload_n 0) 1 1 := ⟨by decide +kernel, rfl⟩
theorem d_X_value_1 : DC b_X_value 1 (.getfield 43) 3 4 := ⟨by decide +kernel, rfl⟩
theorem d_X_value_4 : DC b_X_value 4 (.invokevirtual 229) 3 7 := ⟨by decide +kernel, rfl⟩
theorem d_X_value_7 : DB b_X_value 7 (.ifCond .eq 6) 6 13 10 := ⟨by decide +kernel, by decide, rfl⟩
theorem d_X_value_10 : DC b_X_value 10 (.ldc 151) 2 12 := ⟨by decide +kernel, rfl⟩
theorem d_X_value_12 : decode b_X_value 12 = .ok (.ireturn, 1) := by decide +kernel
theorem d_X_value_13 : DC b_X_value 13 (.aload_n 0) 1 14 := ⟨by decide +kernel, rfl⟩
theorem d_X_value_14 : DC b_X_value 14 (.getfield 43) 3 17 := ⟨by decide +kernel, rfl⟩
theorem d_X_value_17 : DC b_X_value 17 (.invokevirtual 243) 3 20 := ⟨by decide +kernel, rfl⟩
theorem d_X_value_20 : DC b_X_value 20 (.aload_n 0) 1 21 := ⟨by decide +kernel, rfl⟩
theorem d_X_value_21 : DC b_X_value 21 (.getfield 43) 3 24 := ⟨by decide +kernel, rfl⟩
theorem d_X_value_24 : DC b_X_value 24 (.invokevirtual 246) 3 27 := ⟨by decide +kernel, rfl⟩
theorem d_X_value_27 : decode b_X_value 27 = .ok (.ireturn, 1) := by decide +kernel
theorem c_X_value {l : Launch} {Y : Lay} (hY : IsX Y) {N : Nat} {μ : Mem} {r : Int32 × Mem} (hf : f_X_value N μ = some r) : Ct l Y y_X_value b_X_value 1 (some .int) 6 [.ref (yad Y 0)] (some (.int r.1)) μ r.2 := by
  refine ct_of (own := "TopYard") (lv := [(0, .ref (yad Y 0))]) (by decide +kernel) rfl (Nat.le_of_ble_eq_true rfl) rfl (fun X hl C => ?_)
  subst hl
  unfold f_X_value at hf
  refine j_aload_n C d_X_value_0 0 rfl ?_
  refine j_gS (b := 23) C fl_X_43 (kX hY rfl) (nX hY (by decide)) rfl hY.2.2.2.1 rfl (sX hY rfl) d_X_value_1 ?_
  refine bd hf (fun v1 hc6 hf => ?_)
  refine j_cV (rest := []) C lk_X_229 (c_Ch_isOpen hY hc6) rfl (kX hY rfl) (nX hY (by decide)) (by decide) rfl rfl (by decide) rfl (Nat.le_of_ble_eq_true rfl) d_X_value_4 ?_
  refine j_if_eq C d_X_value_7 hf (fun hf => ?_) (fun hf => ?_)
  · refine j_aload_n C d_X_value_13 0 rfl ?_
    refine j_gS (b := 23) C fl_X_43 (kX hY rfl) (nX hY (by decide)) rfl hY.2.2.2.1 rfl (sX hY rfl) d_X_value_14 ?_
    refine bd hf (fun μ2 hc5 hf => ?_)
    refine j_cV (rest := []) C lk_X_243 (c_Ch_solve hY hc5) rfl (kX hY rfl) (nX hY (by decide)) (by decide) rfl rfl (by decide) rfl (Nat.le_of_ble_eq_true rfl) d_X_value_17 ?_
    refine j_aload_n C d_X_value_20 0 rfl ?_
    refine j_gS (b := 23) C fl_X_43 (kX hY rfl) (nX hY (by decide)) rfl hY.2.2.2.1 rfl (sX hY rfl) d_X_value_21 ?_
    refine bd hf (fun v3 hc4 hf => ?_)
    refine j_cV (rest := []) C lk_X_246 (c_Ch_valueInMillionths hY hc4) rfl (kX hY rfl) (nX hY (by decide)) (by decide) rfl rfl (by decide) rfl (Nat.le_of_ble_eq_true rfl) d_X_value_24 ?_
    obtain rfl := Option.some.inj hf
    exact j_iret C d_X_value_27
  · refine j_ldc (v := (-2147483648)) C d_X_value_10 wd_15 ?_
    obtain rfl := Option.some.inj hf
    exact j_iret C d_X_value_12
theorem d_X_mix_0 : DC b_X_mix 0 (.iload_n 1) 1 1 := ⟨by decide +kernel, rfl⟩
theorem d_X_mix_1 : DC b_X_mix 1 (.iconst 0) 1 2 := ⟨by decide +kernel, rfl⟩
theorem d_X_mix_2 : DC b_X_mix 2 (.iconst 1) 1 3 := ⟨by decide +kernel, rfl⟩
theorem d_X_mix_3 : DC b_X_mix 3 (.invokestatic 90) 3 6 := ⟨by decide +kernel, rfl⟩
theorem d_X_mix_6 : DB b_X_mix 6 (.ifCond .ne 6) 6 12 9 := ⟨by decide +kernel, by decide, rfl⟩
theorem d_X_mix_9 : DC b_X_mix 9 (.bipush (-2)) 2 11 := ⟨by decide +kernel, rfl⟩
theorem d_X_mix_11 : decode b_X_mix 11 = .ok (.ireturn, 1) := by decide +kernel
theorem d_X_mix_12 : DC b_X_mix 12 (.iload_n 1) 1 13 := ⟨by decide +kernel, rfl⟩
theorem d_X_mix_13 : DB b_X_mix 13 (.ifCond .ne 13) 13 26 16 := ⟨by decide +kernel, by decide, rfl⟩
theorem d_X_mix_16 : DC b_X_mix 16 (.aload_n 0) 1 17 := ⟨by decide +kernel, rfl⟩
theorem d_X_mix_17 : DC b_X_mix 17 (.getfield 43) 3 20 := ⟨by decide +kernel, rfl⟩
theorem d_X_mix_20 : DC b_X_mix 20 (.getfield 207) 3 23 := ⟨by decide +kernel, rfl⟩
theorem d_X_mix_23 : DB b_X_mix 23 (.goto 10) 10 33 26 := ⟨by decide +kernel, by decide, rfl⟩
theorem d_X_mix_26 : DC b_X_mix 26 (.aload_n 0) 1 27 := ⟨by decide +kernel, rfl⟩
theorem d_X_mix_27 : DC b_X_mix 27 (.getfield 43) 3 30 := ⟨by decide +kernel, rfl⟩
theorem d_X_mix_30 : DC b_X_mix 30 (.getfield 210) 3 33 := ⟨by decide +kernel, rfl⟩
theorem d_X_mix_33 : DC b_X_mix 33 (.istore_n 3) 1 34 := ⟨by decide +kernel, rfl⟩
theorem d_X_mix_34 : DC b_X_mix 34 (.iload_n 2) 1 35 := ⟨by decide +kernel, rfl⟩
theorem d_X_mix_35 : DC b_X_mix 35 (.iconst 0) 1 36 := ⟨by decide +kernel, rfl⟩
theorem d_X_mix_36 : DC b_X_mix 36 (.iload_n 3) 1 37 := ⟨by decide +kernel, rfl⟩
theorem d_X_mix_37 : DC b_X_mix 37 (.iconst 1) 1 38 := ⟨by decide +kernel, rfl⟩
theorem d_X_mix_38 : DC b_X_mix 38 (.isub) 1 39 := ⟨by decide +kernel, rfl⟩
theorem d_X_mix_39 : DC b_X_mix 39 (.invokestatic 90) 3 42 := ⟨by decide +kernel, rfl⟩
theorem d_X_mix_42 : DB b_X_mix 42 (.ifCond .ne 6) 6 48 45 := ⟨by decide +kernel, by decide, rfl⟩
theorem d_X_mix_45 : DC b_X_mix 45 (.bipush (-2)) 2 47 := ⟨by decide +kernel, rfl⟩
theorem d_X_mix_47 : decode b_X_mix 47 = .ok (.ireturn, 1) := by decide +kernel
theorem d_X_mix_48 : DC b_X_mix 48 (.aload_n 0) 1 49 := ⟨by decide +kernel, rfl⟩
theorem d_X_mix_49 : DC b_X_mix 49 (.getfield 43) 3 52 := ⟨by decide +kernel, rfl⟩
theorem d_X_mix_52 : DC b_X_mix 52 (.invokevirtual 229) 3 55 := ⟨by decide +kernel, rfl⟩
theorem d_X_mix_55 : DB b_X_mix 55 (.ifCond .eq 6) 6 61 58 := ⟨by decide +kernel, by decide, rfl⟩
theorem d_X_mix_58 : DC b_X_mix 58 (.bipush (-3)) 2 60 := ⟨by decide +kernel, rfl⟩
theorem d_X_mix_60 : decode b_X_mix 60 = .ok (.ireturn, 1) := by decide +kernel
theorem d_X_mix_61 : DC b_X_mix 61 (.aload_n 0) 1 62 := ⟨by decide +kernel, rfl⟩
theorem d_X_mix_62 : DC b_X_mix 62 (.getfield 43) 3 65 := ⟨by decide +kernel, rfl⟩
theorem d_X_mix_65 : DC b_X_mix 65 (.invokevirtual 243) 3 68 := ⟨by decide +kernel, rfl⟩
theorem d_X_mix_68 : DC b_X_mix 68 (.aload_n 0) 1 69 := ⟨by decide +kernel, rfl⟩
theorem d_X_mix_69 : DC b_X_mix 69 (.getfield 43) 3 72 := ⟨by decide +kernel, rfl⟩
theorem d_X_mix_72 : DC b_X_mix 72 (.iload_n 1) 1 73 := ⟨by decide +kernel, rfl⟩
theorem d_X_mix_73 : DB b_X_mix 73 (.ifCond .ne 15) 15 88 76 := ⟨by decide +kernel, by decide, rfl⟩
theorem d_X_mix_76 : DC b_X_mix 76 (.aload_n 0) 1 77 := ⟨by decide +kernel, rfl⟩
theorem d_X_mix_77 : DC b_X_mix 77 (.getfield 43) 3 80 := ⟨by decide +kernel, rfl⟩
theorem d_X_mix_80 : DC b_X_mix 80 (.getfield 249) 3 83 := ⟨by decide +kernel, rfl⟩
theorem d_X_mix_83 : DC b_X_mix 83 (.iload_n 2) 1 84 := ⟨by decide +kernel, rfl⟩
theorem d_X_mix_84 : DC b_X_mix 84 (.laload) 1 85 := ⟨by decide +kernel, rfl⟩
theorem d_X_mix_85 : DB b_X_mix 85 (.goto 12) 12 97 88 := ⟨by decide +kernel, by decide, rfl⟩
theorem d_X_mix_88 : DC b_X_mix 88 (.aload_n 0) 1 89 := ⟨by decide +kernel, rfl⟩
theorem d_X_mix_89 : DC b_X_mix 89 (.getfield 43) 3 92 := ⟨by decide +kernel, rfl⟩
theorem d_X_mix_92 : DC b_X_mix 92 (.getfield 253) 3 95 := ⟨by decide +kernel, rfl⟩
theorem d_X_mix_95 : DC b_X_mix 95 (.iload_n 2) 1 96 := ⟨by decide +kernel, rfl⟩
theorem d_X_mix_96 : DC b_X_mix 96 (.laload) 1 97 := ⟨by decide +kernel, rfl⟩
theorem d_X_mix_97 : DC b_X_mix 97 (.invokevirtual 256) 3 100 := ⟨by decide +kernel, rfl⟩
theorem d_X_mix_100 : decode b_X_mix 100 = .ok (.ireturn, 1) := by decide +kernel
theorem w_X_mix_b97 {X : Ctx} {Y : Lay} (hY : IsX Y) (C : Cx X Y b_X_mix 4 (some .int) "TopYard" 6) {N : Nat} {r : Int32 × Mem} (xs0 : Int64) (μ : Mem) (hf : f_X_mix_b97 N xs0 μ = some r) : J X Y (some (.int r.1)) r.2 4 97 [] [.long xs0, .ref (yad Y 23)] μ := by
  unfold f_X_mix_b97 at hf
  refine bd hf (fun v1 hc2 hf => ?_)
  refine j_cV (rest := []) C lk_X_256 (c_Ch_inMillionths hY hc2) rfl (kX hY rfl) (nX hY (by decide)) (by decide) rfl rfl (by decide) rfl (Nat.le_of_ble_eq_true rfl) d_X_mix_97 ?_
  obtain rfl := Option.some.inj hf
  exact j_iret C d_X_mix_100
theorem w_X_mix_b33 {X : Ctx} {Y : Lay} (hY : IsX Y) (C : Cx X Y b_X_mix 4 (some .int) "TopYard" 6) {N : Nat} {r : Int32 × Mem} (x1 : Int32) (x2 : Int32) (xs0 : Int32) (μ : Mem) (hf : f_X_mix_b33 N x1 x2 xs0 μ = some r) : J X Y (some (.int r.1)) r.2 4 33 [(0, .ref (yad Y 0)), (1, .int x1), (2, .int x2)] [.int xs0] μ := by
  unfold f_X_mix_b33 at hf
  refine j_istore_n (lvf := [(0, .ref (yad Y 0)), (1, .int x1), (2, .int x2)]) C d_X_mix_33 (by decide) rfl ?_
  refine j_iload_n C d_X_mix_34 3 rfl ?_
  refine j_iconst (v := 0) C d_X_mix_35 (by decide) ?_
  refine j_iload_n C d_X_mix_36 0 rfl ?_
  refine j_iconst (v := 1) C d_X_mix_37 (by decide) ?_
  refine j_isub C d_X_mix_38 ?_
  refine bd hf (fun v1 hc8 hf => ?_)
  refine j_cS (rest := []) C lk_X_90 (c_X_within hY hc8) rfl (by decide) rfl (Nat.le_of_ble_eq_true rfl) d_X_mix_39 ?_
  refine j_if_ne C d_X_mix_42 hf (fun hf => ?_) (fun hf => ?_)
  · refine j_aload_n C d_X_mix_48 1 rfl ?_
    refine j_gS (b := 23) C fl_X_43 (kX hY rfl) (nX hY (by decide)) rfl hY.2.2.2.1 rfl (sX hY rfl) d_X_mix_49 ?_
    refine bd hf (fun v2 hc7 hf => ?_)
    refine j_cV (rest := []) C lk_X_229 (c_Ch_isOpen hY hc7) rfl (kX hY rfl) (nX hY (by decide)) (by decide) rfl rfl (by decide) rfl (Nat.le_of_ble_eq_true rfl) d_X_mix_52 ?_
    refine j_if_eq C d_X_mix_55 hf (fun hf => ?_) (fun hf => ?_)
    · refine j_aload_n C d_X_mix_61 1 rfl ?_
      refine j_gS (b := 23) C fl_X_43 (kX hY rfl) (nX hY (by decide)) rfl hY.2.2.2.1 rfl (sX hY rfl) d_X_mix_62 ?_
      refine bd hf (fun μ3 hc6 hf => ?_)
      refine j_cV (rest := []) C lk_X_243 (c_Ch_solve hY hc6) rfl (kX hY rfl) (nX hY (by decide)) (by decide) rfl rfl (by decide) rfl (Nat.le_of_ble_eq_true rfl) d_X_mix_65 ?_
      refine j_aload_n C d_X_mix_68 1 rfl ?_
      refine j_gS (b := 23) C fl_X_43 (kX hY rfl) (nX hY (by decide)) rfl hY.2.2.2.1 rfl (sX hY rfl) d_X_mix_69 ?_
      refine j_iload_n C d_X_mix_72 2 rfl ?_
      refine j_if_ne C d_X_mix_73 hf (fun hf => ?_) (fun hf => ?_)
      · refine j_aload_n C d_X_mix_88 1 rfl ?_
        refine j_gS (b := 23) C fl_X_43 (kX hY rfl) (nX hY (by decide)) rfl hY.2.2.2.1 rfl (sX hY rfl) d_X_mix_89 ?_
        refine j_gS (b := 32) C fl_X_253 (kX hY rfl) (nX hY (by decide)) rfl hY.2.2.2.1 rfl (sX hY rfl) d_X_mix_92 ?_
        refine j_iload_n C d_X_mix_95 3 rfl ?_
        refine ck hf (fun hi4 hf => ?_)
        refine j_lald C (kX hY rfl) (nX hY (by decide)) (lX hY rfl) hi4 d_X_mix_96 ?_
        refine j_sub [] rfl ?_
        exact w_X_mix_b97 hY C (gL μ3 32 (ix x2)) μ3 hf
      · refine j_aload_n C d_X_mix_76 1 rfl ?_
        refine j_gS (b := 23) C fl_X_43 (kX hY rfl) (nX hY (by decide)) rfl hY.2.2.2.1 rfl (sX hY rfl) d_X_mix_77 ?_
        refine j_gS (b := 31) C fl_X_249 (kX hY rfl) (nX hY (by decide)) rfl hY.2.2.2.1 rfl (sX hY rfl) d_X_mix_80 ?_
        refine j_iload_n C d_X_mix_83 3 rfl ?_
        refine ck hf (fun hi5 hf => ?_)
        refine j_lald C (kX hY rfl) (nX hY (by decide)) (lX hY rfl) hi5 d_X_mix_84 ?_
        refine j_goto C d_X_mix_85 ?_
        refine j_sub [] rfl ?_
        exact w_X_mix_b97 hY C (gL μ3 31 (ix x2)) μ3 hf
    · refine j_bipush (v := (-3)) C d_X_mix_58 (by decide) ?_
      obtain rfl := Option.some.inj hf
      exact j_iret C d_X_mix_60
  · refine j_bipush (v := (-2)) C d_X_mix_45 (by decide) ?_
    obtain rfl := Option.some.inj hf
    exact j_iret C d_X_mix_47
theorem c_X_mix {l : Launch} {Y : Lay} (hY : IsX Y) {N : Nat} {μ : Mem} {x1 : Int32} {x2 : Int32} {r : Int32 × Mem} (hf : f_X_mix N μ x1 x2 = some r) : Ct l Y y_X_mix b_X_mix 4 (some .int) 6 [.ref (yad Y 0), .int x1, .int x2] (some (.int r.1)) μ r.2 := by
  refine ct_of (own := "TopYard") (lv := [(0, .ref (yad Y 0)), (1, .int x1), (2, .int x2)]) (by decide +kernel) rfl (Nat.le_of_ble_eq_true rfl) rfl (fun X hl C => ?_)
  subst hl
  unfold f_X_mix at hf
  refine j_iload_n C d_X_mix_0 1 rfl ?_
  refine j_iconst (v := 0) C d_X_mix_1 (by decide) ?_
  refine j_iconst (v := 1) C d_X_mix_2 (by decide) ?_
  refine bd hf (fun v1 hc2 hf => ?_)
  refine j_cS (rest := []) C lk_X_90 (c_X_within hY hc2) rfl (by decide) rfl (Nat.le_of_ble_eq_true rfl) d_X_mix_3 ?_
  refine j_if_ne C d_X_mix_6 hf (fun hf => ?_) (fun hf => ?_)
  · refine j_iload_n C d_X_mix_12 1 rfl ?_
    refine j_if_ne C d_X_mix_13 hf (fun hf => ?_) (fun hf => ?_)
    · refine j_aload_n C d_X_mix_26 0 rfl ?_
      refine j_gS (b := 23) C fl_X_43 (kX hY rfl) (nX hY (by decide)) rfl hY.2.2.2.1 rfl (sX hY rfl) d_X_mix_27 ?_
      refine j_gI C fl_X_210 (kX hY rfl) (nX hY (by decide)) rfl d_X_mix_30 ?_
      refine j_sub [0, 1, 2] rfl ?_
      exact w_X_mix_b33 hY C x1 x2 (gI μ 23 1) μ hf
    · refine j_aload_n C d_X_mix_16 0 rfl ?_
      refine j_gS (b := 23) C fl_X_43 (kX hY rfl) (nX hY (by decide)) rfl hY.2.2.2.1 rfl (sX hY rfl) d_X_mix_17 ?_
      refine j_gI C fl_X_207 (kX hY rfl) (nX hY (by decide)) rfl d_X_mix_20 ?_
      refine j_goto C d_X_mix_23 ?_
      refine j_sub [0, 1, 2] rfl ?_
      exact w_X_mix_b33 hY C x1 x2 (gI μ 23 0) μ hf
  · refine j_bipush (v := (-2)) C d_X_mix_9 (by decide) ?_
    obtain rfl := Option.some.inj hf
    exact j_iret C d_X_mix_11
theorem d_X_expected_0 : DC b_X_expected 0 (.aload_n 0) 1 1 := ⟨by decide +kernel, rfl⟩
theorem d_X_expected_1 : DC b_X_expected 1 (.iload_n 1) 1 2 := ⟨by decide +kernel, rfl⟩
theorem d_X_expected_2 : DC b_X_expected 2 (.invokevirtual 110) 3 5 := ⟨by decide +kernel, rfl⟩
theorem d_X_expected_5 : DB b_X_expected 5 (.ifnull 11) 11 16 8 := ⟨by decide +kernel, by decide, rfl⟩
theorem d_X_expected_8 : DC b_X_expected 8 (.aload_n 0) 1 9 := ⟨by decide +kernel, rfl⟩
theorem d_X_expected_9 : DC b_X_expected 9 (.iload_n 2) 1 10 := ⟨by decide +kernel, rfl⟩
theorem d_X_expected_10 : DC b_X_expected 10 (.invokevirtual 110) 3 13 := ⟨by decide +kernel, rfl⟩
theorem d_X_expected_13 : DB b_X_expected 13 (.ifnonnull 6) 6 19 16 := ⟨by decide +kernel, by decide, rfl⟩
theorem d_X_expected_16 : DC b_X_expected 16 (.bipush (-100)) 2 18 := ⟨by decide +kernel, rfl⟩
theorem d_X_expected_18 : decode b_X_expected 18 = .ok (.ireturn, 1) := by decide +kernel
theorem d_X_expected_19 : DC b_X_expected 19 (.aload_n 0) 1 20 := ⟨by decide +kernel, rfl⟩
theorem d_X_expected_20 : DC b_X_expected 20 (.iload_n 1) 1 21 := ⟨by decide +kernel, rfl⟩
theorem d_X_expected_21 : DC b_X_expected 21 (.iload_n 2) 1 22 := ⟨by decide +kernel, rfl⟩
theorem d_X_expected_22 : DC b_X_expected 22 (.bipush 30) 2 24 := ⟨by decide +kernel, rfl⟩
theorem d_X_expected_24 : DC b_X_expected 24 (.iconst (-1)) 1 25 := ⟨by decide +kernel, rfl⟩
theorem d_X_expected_25 : DC b_X_expected 25 (.invokevirtual 239) 3 28 := ⟨by decide +kernel, rfl⟩
theorem d_X_expected_28 : decode b_X_expected 28 = .ok (.ireturn, 1) := by decide +kernel
theorem c_X_expected {l : Launch} {Y : Lay} (hY : IsX Y) {N : Nat} {μ : Mem} {x1 : Int32} {x2 : Int32} {r : Int32 × Mem} (hf : f_X_expected N μ x1 x2 = some r) : Ct l Y y_X_expected b_X_expected 3 (some .int) 7 [.ref (yad Y 0), .int x1, .int x2] (some (.int r.1)) μ r.2 := by
  refine ct_of (own := "TopYard") (lv := [(0, .ref (yad Y 0)), (1, .int x1), (2, .int x2)]) (by decide +kernel) rfl (Nat.le_of_ble_eq_true rfl) rfl (fun X hl C => ?_)
  subst hl
  unfold f_X_expected at hf
  refine j_aload_n C d_X_expected_0 0 rfl ?_
  refine j_iload_n C d_X_expected_1 1 rfl ?_
  refine bd hf (fun u1 hc9 hf => ?_)
  refine j_wt (fun hT hSt => ?_)
  have hu1 := rt_X_topAt hY hT hc9
  refine j_cV (rest := []) C lk_X_110 (c_X_topAt hY hc9) rfl (kX hY rfl) (nX hY (by decide)) (by decide) rfl rfl (by decide) rfl (Nat.le_of_ble_eq_true rfl) d_X_expected_2 ?_
  cases u1 with
  | none =>
    refine j_nul_t C d_X_expected_5 ?_
    refine j_bipush (v := (-100)) C d_X_expected_16 (by decide) ?_
    obtain rfl := Option.some.inj hf
    exact j_iret C d_X_expected_18
  | some e2 =>
    refine j_nul_f C d_X_expected_5 ?_
    refine j_aload_n C d_X_expected_8 0 rfl ?_
    refine j_iload_n C d_X_expected_9 2 rfl ?_
    refine bd hf (fun u3 hc8 hf => ?_)
    refine j_wt (fun hT hSt => ?_)
    have hu3 := rt_X_topAt hY hT hc8
    refine j_cV (rest := []) C lk_X_110 (c_X_topAt hY hc8) rfl (kX hY rfl) (nX hY (by decide)) (by decide) rfl rfl (by decide) rfl (Nat.le_of_ble_eq_true rfl) d_X_expected_10 ?_
    cases u3 with
    | none =>
      refine j_nnul_f C d_X_expected_13 ?_
      refine j_bipush (v := (-100)) C d_X_expected_16 (by decide) ?_
      obtain rfl := Option.some.inj hf
      exact j_iret C d_X_expected_18
    | some e4 =>
      refine j_nnul_t C d_X_expected_13 ?_
      refine j_aload_n C d_X_expected_19 0 rfl ?_
      refine j_iload_n C d_X_expected_20 1 rfl ?_
      refine j_iload_n C d_X_expected_21 2 rfl ?_
      refine j_bipush (v := 30) C d_X_expected_22 (by decide) ?_
      refine j_iconst (v := (-1)) C d_X_expected_24 (by decide) ?_
      refine bd2 hf (fun v5 μ6 hc7 hf => ?_)
      refine j_cV (rest := []) C lk_X_239 (c_X_duel hY hc7) rfl (kX hY rfl) (nX hY (by decide)) (by decide) rfl rfl (by decide) rfl (Nat.le_of_ble_eq_true rfl) d_X_expected_25 ?_
      obtain rfl := Option.some.inj hf
      exact j_iret C d_X_expected_28
theorem d_X_mayBeRow_0 : DC b_X_mayBeRow 0 (.aload_n 0) 1 1 := ⟨by decide +kernel, rfl⟩
theorem d_X_mayBeRow_1 : DC b_X_mayBeRow 1 (.iload_n 1) 1 2 := ⟨by decide +kernel, rfl⟩
theorem d_X_mayBeRow_2 : DC b_X_mayBeRow 2 (.invokevirtual 110) 3 5 := ⟨by decide +kernel, rfl⟩
theorem d_X_mayBeRow_5 : DB b_X_mayBeRow 5 (.ifnull 29) 29 34 8 := ⟨by decide +kernel, by decide, rfl⟩
theorem d_X_mayBeRow_8 : DC b_X_mayBeRow 8 (.aload_n 0) 1 9 := ⟨by decide +kernel, rfl⟩
theorem d_X_mayBeRow_9 : DC b_X_mayBeRow 9 (.iload_n 2) 1 10 := ⟨by decide +kernel, rfl⟩
theorem d_X_mayBeRow_10 : DC b_X_mayBeRow 10 (.invokevirtual 110) 3 13 := ⟨by decide +kernel, rfl⟩
theorem d_X_mayBeRow_13 : DB b_X_mayBeRow 13 (.ifnull 21) 21 34 16 := ⟨by decide +kernel, by decide, rfl⟩
theorem d_X_mayBeRow_16 : DC b_X_mayBeRow 16 (.iload_n 1) 1 17 := ⟨by decide +kernel, rfl⟩
theorem d_X_mayBeRow_17 : DC b_X_mayBeRow 17 (.iload_n 2) 1 18 := ⟨by decide +kernel, rfl⟩
theorem d_X_mayBeRow_18 : DB b_X_mayBeRow 18 (.if_icmp .eq 16) 16 34 21 := ⟨by decide +kernel, by decide, rfl⟩
theorem d_X_mayBeRow_21 : DC b_X_mayBeRow 21 (.iload_n 3) 1 22 := ⟨by decide +kernel, rfl⟩
theorem d_X_mayBeRow_22 : DC b_X_mayBeRow 22 (.iconst (-1)) 1 23 := ⟨by decide +kernel, rfl⟩
theorem d_X_mayBeRow_23 : DC b_X_mayBeRow 23 (.iconst 2) 1 24 := ⟨by decide +kernel, rfl⟩
theorem d_X_mayBeRow_24 : DC b_X_mayBeRow 24 (.invokestatic 90) 3 27 := ⟨by decide +kernel, rfl⟩
theorem d_X_mayBeRow_27 : DB b_X_mayBeRow 27 (.ifCond .eq 7) 7 34 30 := ⟨by decide +kernel, by decide, rfl⟩
theorem d_X_mayBeRow_30 : DC b_X_mayBeRow 30 (.iconst 1) 1 31 := ⟨by decide +kernel, rfl⟩
theorem d_X_mayBeRow_31 : DB b_X_mayBeRow 31 (.goto 4) 4 35 34 := ⟨by decide +kernel, by decide, rfl⟩
theorem d_X_mayBeRow_34 : DC b_X_mayBeRow 34 (.iconst 0) 1 35 := ⟨by decide +kernel, rfl⟩
theorem d_X_mayBeRow_35 : decode b_X_mayBeRow 35 = .ok (.ireturn, 1) := by decide +kernel
theorem c_X_mayBeRow {l : Launch} {Y : Lay} (hY : IsX Y) {μ : Mem} {x1 : Int32} {x2 : Int32} {x3 : Int32} {r : Int32} (hf : f_X_mayBeRow μ x1 x2 x3 = some r) : Ct l Y y_X_mayBeRow b_X_mayBeRow 4 (some .boolean) 2 [.ref (yad Y 0), .int x1, .int x2, .int x3] (some (.int r)) μ μ := by
  refine ct_of (own := "TopYard") (lv := [(0, .ref (yad Y 0)), (1, .int x1), (2, .int x2), (3, .int x3)]) (by decide +kernel) rfl (Nat.le_of_ble_eq_true rfl) rfl (fun X hl C => ?_)
  subst hl
  unfold f_X_mayBeRow at hf
  refine j_aload_n C d_X_mayBeRow_0 0 rfl ?_
  refine j_iload_n C d_X_mayBeRow_1 1 rfl ?_
  refine bd hf (fun u1 hc8 hf => ?_)
  refine j_wt (fun hT hSt => ?_)
  have hu1 := rt_X_topAt hY hT hc8
  refine j_cV (rest := []) C lk_X_110 (c_X_topAt hY hc8) rfl (kX hY rfl) (nX hY (by decide)) (by decide) rfl rfl (by decide) rfl (Nat.le_of_ble_eq_true rfl) d_X_mayBeRow_2 ?_
  cases u1 with
  | none =>
    refine j_nul_t C d_X_mayBeRow_5 ?_
    refine j_iconst (v := 0) C d_X_mayBeRow_34 (by decide) ?_
    obtain rfl := Option.some.inj hf
    exact j_zret C (Or.inl rfl) d_X_mayBeRow_35
  | some e2 =>
    refine j_nul_f C d_X_mayBeRow_5 ?_
    refine j_aload_n C d_X_mayBeRow_8 0 rfl ?_
    refine j_iload_n C d_X_mayBeRow_9 2 rfl ?_
    refine bd hf (fun u3 hc7 hf => ?_)
    refine j_wt (fun hT hSt => ?_)
    have hu3 := rt_X_topAt hY hT hc7
    refine j_cV (rest := []) C lk_X_110 (c_X_topAt hY hc7) rfl (kX hY rfl) (nX hY (by decide)) (by decide) rfl rfl (by decide) rfl (Nat.le_of_ble_eq_true rfl) d_X_mayBeRow_10 ?_
    cases u3 with
    | none =>
      refine j_nul_t C d_X_mayBeRow_13 ?_
      refine j_iconst (v := 0) C d_X_mayBeRow_34 (by decide) ?_
      obtain rfl := Option.some.inj hf
      exact j_zret C (Or.inl rfl) d_X_mayBeRow_35
    | some e4 =>
      refine j_nul_f C d_X_mayBeRow_13 ?_
      refine j_iload_n C d_X_mayBeRow_16 1 rfl ?_
      refine j_iload_n C d_X_mayBeRow_17 2 rfl ?_
      refine j_icmp_eq C d_X_mayBeRow_18 hf (fun hf => ?_) (fun hf => ?_)
      · refine j_iconst (v := 0) C d_X_mayBeRow_34 (by decide) ?_
        obtain rfl := Option.some.inj hf
        exact j_zret C (Or.inl rfl) d_X_mayBeRow_35
      · refine j_iload_n C d_X_mayBeRow_21 3 rfl ?_
        refine j_iconst (v := (-1)) C d_X_mayBeRow_22 (by decide) ?_
        refine j_iconst (v := 2) C d_X_mayBeRow_23 (by decide) ?_
        refine bd hf (fun v5 hc6 hf => ?_)
        refine j_cS (rest := []) C lk_X_90 (c_X_within hY hc6) rfl (by decide) rfl (Nat.le_of_ble_eq_true rfl) d_X_mayBeRow_24 ?_
        refine j_if_eq C d_X_mayBeRow_27 hf (fun hf => ?_) (fun hf => ?_)
        · refine j_iconst (v := 0) C d_X_mayBeRow_34 (by decide) ?_
          obtain rfl := Option.some.inj hf
          exact j_zret C (Or.inl rfl) d_X_mayBeRow_35
        · refine j_iconst (v := 1) C d_X_mayBeRow_30 (by decide) ?_
          refine j_goto C d_X_mayBeRow_31 ?_
          obtain rfl := Option.some.inj hf
          exact j_zret C (Or.inr rfl) d_X_mayBeRow_35
theorem d_Pa_add_0 : DC b_Pa_add 0 (.aload_n 0) 1 1 := ⟨by decide +kernel, rfl⟩
theorem d_Pa_add_1 : DC b_Pa_add 1 (.getfield 9) 3 4 := ⟨by decide +kernel, rfl⟩
theorem d_Pa_add_4 : DC b_Pa_add 4 (.bipush 40) 2 6 := ⟨by decide +kernel, rfl⟩
theorem d_Pa_add_6 : DB b_Pa_add 6 (.if_icmp .lt 5) 5 11 9 := ⟨by decide +kernel, by decide, rfl⟩
theorem d_Pa_add_9 : DC b_Pa_add 9 (.iconst 0) 1 10 := ⟨by decide +kernel, rfl⟩
theorem d_Pa_add_10 : decode b_Pa_add 10 = .ok (.ireturn, 1) := by decide +kernel
theorem d_Pa_add_11 : DC b_Pa_add 11 (.aload_n 0) 1 12 := ⟨by decide +kernel, rfl⟩
theorem d_Pa_add_12 : DC b_Pa_add 12 (.getfield 15) 3 15 := ⟨by decide +kernel, rfl⟩
theorem d_Pa_add_15 : DC b_Pa_add 15 (.aload_n 0) 1 16 := ⟨by decide +kernel, rfl⟩
theorem d_Pa_add_16 : DC b_Pa_add 16 (.getfield 9) 3 19 := ⟨by decide +kernel, rfl⟩
theorem d_Pa_add_19 : DC b_Pa_add 19 (.iload_n 1) 1 20 := ⟨by decide +kernel, rfl⟩
theorem d_Pa_add_20 : DC b_Pa_add 20 (.iastore) 1 21 := ⟨by decide +kernel, rfl⟩
theorem d_Pa_add_21 : DC b_Pa_add 21 (.aload_n 0) 1 22 := ⟨by decide +kernel, rfl⟩
theorem d_Pa_add_22 : DC b_Pa_add 22 (.getfield 19) 3 25 := ⟨by decide +kernel, rfl⟩
theorem d_Pa_add_25 : DC b_Pa_add 25 (.aload_n 0) 1 26 := ⟨by decide +kernel, rfl⟩
theorem d_Pa_add_26 : DC b_Pa_add 26 (.getfield 9) 3 29 := ⟨by decide +kernel, rfl⟩
theorem d_Pa_add_29 : DC b_Pa_add 29 (.iload_n 2) 1 30 := ⟨by decide +kernel, rfl⟩
theorem d_Pa_add_30 : DC b_Pa_add 30 (.iastore) 1 31 := ⟨by decide +kernel, rfl⟩
theorem d_Pa_add_31 : DC b_Pa_add 31 (.aload_n 0) 1 32 := ⟨by decide +kernel, rfl⟩
theorem d_Pa_add_32 : DC b_Pa_add 32 (.getfield 22) 3 35 := ⟨by decide +kernel, rfl⟩
theorem d_Pa_add_35 : DC b_Pa_add 35 (.aload_n 0) 1 36 := ⟨by decide +kernel, rfl⟩
theorem d_Pa_add_36 : DC b_Pa_add 36 (.getfield 9) 3 39 := ⟨by decide +kernel, rfl⟩
theorem d_Pa_add_39 : DC b_Pa_add 39 (.iload_n 3) 1 40 := ⟨by decide +kernel, rfl⟩
theorem d_Pa_add_40 : DC b_Pa_add 40 (.iastore) 1 41 := ⟨by decide +kernel, rfl⟩
theorem d_Pa_add_41 : DC b_Pa_add 41 (.aload_n 0) 1 42 := ⟨by decide +kernel, rfl⟩
theorem d_Pa_add_42 : DC b_Pa_add 42 (.dup) 1 43 := ⟨by decide +kernel, rfl⟩
theorem d_Pa_add_43 : DC b_Pa_add 43 (.getfield 9) 3 46 := ⟨by decide +kernel, rfl⟩
theorem d_Pa_add_46 : DC b_Pa_add 46 (.iconst 1) 1 47 := ⟨by decide +kernel, rfl⟩
theorem d_Pa_add_47 : DC b_Pa_add 47 (.iadd) 1 48 := ⟨by decide +kernel, rfl⟩
theorem d_Pa_add_48 : DC b_Pa_add 48 (.putfield 9) 3 51 := ⟨by decide +kernel, rfl⟩
theorem d_Pa_add_51 : DC b_Pa_add 51 (.iconst 1) 1 52 := ⟨by decide +kernel, rfl⟩
theorem d_Pa_add_52 : decode b_Pa_add 52 = .ok (.ireturn, 1) := by decide +kernel
theorem c_Pa_add {l : Launch} {Y : Lay} (hY : IsX Y) {μ : Mem} {x1 : Int32} {x2 : Int32} {x3 : Int32} {r : Int32 × Mem} (hf : f_Pa_add μ x1 x2 x3 = some r) : Ct l Y y_Pa_add b_Pa_add 4 (some .boolean) 1 [.ref (yad Y 34), .int x1, .int x2, .int x3] (some (.int r.1)) μ r.2 := by
  refine ct_of (own := "TopYard$Past") (lv := [(0, .ref (yad Y 34)), (1, .int x1), (2, .int x2), (3, .int x3)]) (by decide +kernel) rfl (Nat.le_of_ble_eq_true rfl) rfl (fun X hl C => ?_)
  subst hl
  unfold f_Pa_add at hf
  refine j_aload_n C d_Pa_add_0 0 rfl ?_
  refine j_gI C fl_Pa_9 (kX hY rfl) (nX hY (by decide)) rfl d_Pa_add_1 ?_
  refine j_bipush (v := 40) C d_Pa_add_4 (by decide) ?_
  refine j_icmp_lt C d_Pa_add_6 hf (fun hf => ?_) (fun hf => ?_)
  · refine j_aload_n C d_Pa_add_11 0 rfl ?_
    refine j_gS (b := 35) C fl_Pa_15 (kX hY rfl) (nX hY (by decide)) rfl hY.2.2.2.1 rfl (sX hY rfl) d_Pa_add_12 ?_
    refine j_aload_n C d_Pa_add_15 0 rfl ?_
    refine j_gI C fl_Pa_9 (kX hY rfl) (nX hY (by decide)) rfl d_Pa_add_16 ?_
    refine j_iload_n C d_Pa_add_19 1 rfl ?_
    refine ck hf (fun hi1 hf => ?_)
    refine j_iast C (kX hY rfl) (nX hY (by decide)) (lX hY rfl) hi1 d_Pa_add_20 hf (fun μ2 hf => ?_)
    refine j_aload_n C d_Pa_add_21 0 rfl ?_
    refine j_gS (b := 36) C fl_Pa_19 (kX hY rfl) (nX hY (by decide)) rfl hY.2.2.2.1 rfl (sX hY rfl) d_Pa_add_22 ?_
    refine j_aload_n C d_Pa_add_25 0 rfl ?_
    refine j_gI C fl_Pa_9 (kX hY rfl) (nX hY (by decide)) rfl d_Pa_add_26 ?_
    refine j_iload_n C d_Pa_add_29 2 rfl ?_
    refine ck hf (fun hi3 hf => ?_)
    refine j_iast C (kX hY rfl) (nX hY (by decide)) (lX hY rfl) hi3 d_Pa_add_30 hf (fun μ4 hf => ?_)
    refine j_aload_n C d_Pa_add_31 0 rfl ?_
    refine j_gS (b := 37) C fl_Pa_22 (kX hY rfl) (nX hY (by decide)) rfl hY.2.2.2.1 rfl (sX hY rfl) d_Pa_add_32 ?_
    refine j_aload_n C d_Pa_add_35 0 rfl ?_
    refine j_gI C fl_Pa_9 (kX hY rfl) (nX hY (by decide)) rfl d_Pa_add_36 ?_
    refine j_iload_n C d_Pa_add_39 3 rfl ?_
    refine ck hf (fun hi5 hf => ?_)
    refine j_iast C (kX hY rfl) (nX hY (by decide)) (lX hY rfl) hi5 d_Pa_add_40 hf (fun μ6 hf => ?_)
    refine j_aload_n C d_Pa_add_41 0 rfl ?_
    refine j_dup C d_Pa_add_42 rfl ?_
    refine j_gI C fl_Pa_9 (kX hY rfl) (nX hY (by decide)) rfl d_Pa_add_43 ?_
    refine j_iconst (v := 1) C d_Pa_add_46 (by decide) ?_
    refine j_iadd C d_Pa_add_47 ?_
    refine j_pI C fl_Pa_9 (kX hY rfl) (nX hY (by decide)) rfl rfl rfl d_Pa_add_48 hf (fun μ7 hf => ?_)
    refine j_iconst (v := 1) C d_Pa_add_51 (by decide) ?_
    obtain rfl := Option.some.inj hf
    exact j_zret C (Or.inr rfl) d_Pa_add_52
  · refine j_iconst (v := 0) C d_Pa_add_9 (by decide) ?_
    obtain rfl := Option.some.inj hf
    exact j_zret C (Or.inl rfl) d_Pa_add_10
theorem d_X_was_0 : DC b_X_was 0 (.aload_n 0) 1 1 := ⟨by decide +kernel, rfl⟩
theorem d_X_was_1 : DC b_X_was 1 (.iload_n 1) 1 2 := ⟨by decide +kernel, rfl⟩
theorem d_X_was_2 : DC b_X_was 2 (.iload_n 2) 1 3 := ⟨by decide +kernel, rfl⟩
theorem d_X_was_3 : DC b_X_was 3 (.iload_n 3) 1 4 := ⟨by decide +kernel, rfl⟩
theorem d_X_was_4 : DC b_X_was 4 (.invokevirtual 260) 3 7 := ⟨by decide +kernel, rfl⟩
theorem d_X_was_7 : DB b_X_was 7 (.ifCond .ne 6) 6 13 10 := ⟨by decide +kernel, by decide, rfl⟩
theorem d_X_was_10 : DC b_X_was 10 (.bipush (-2)) 2 12 := ⟨by decide +kernel, rfl⟩
theorem d_X_was_12 : decode b_X_was 12 = .ok (.ireturn, 1) := by decide +kernel
theorem d_X_was_13 : DC b_X_was 13 (.aload_n 0) 1 14 := ⟨by decide +kernel, rfl⟩
theorem d_X_was_14 : DC b_X_was 14 (.getfield 50) 3 17 := ⟨by decide +kernel, rfl⟩
theorem d_X_was_17 : DC b_X_was 17 (.iload_n 1) 1 18 := ⟨by decide +kernel, rfl⟩
theorem d_X_was_18 : DC b_X_was 18 (.iload_n 2) 1 19 := ⟨by decide +kernel, rfl⟩
theorem d_X_was_19 : DC b_X_was 19 (.iload_n 3) 1 20 := ⟨by decide +kernel, rfl⟩
theorem d_X_was_20 : DC b_X_was 20 (.invokevirtual 263) 3 23 := ⟨by decide +kernel, rfl⟩
theorem d_X_was_23 : DB b_X_was 23 (.ifCond .eq 13) 13 36 26 := ⟨by decide +kernel, by decide, rfl⟩
theorem d_X_was_26 : DC b_X_was 26 (.aload_n 0) 1 27 := ⟨by decide +kernel, rfl⟩
theorem d_X_was_27 : DC b_X_was 27 (.getfield 50) 3 30 := ⟨by decide +kernel, rfl⟩
theorem d_X_was_30 : DC b_X_was 30 (.getfield 266) 3 33 := ⟨by decide +kernel, rfl⟩
theorem d_X_was_33 : DB b_X_was 33 (.goto 5) 5 38 36 := ⟨by decide +kernel, by decide, rfl⟩
theorem d_X_was_36 : DC b_X_was 36 (.bipush (-4)) 2 38 := ⟨by decide +kernel, rfl⟩
theorem d_X_was_38 : decode b_X_was 38 = .ok (.ireturn, 1) := by decide +kernel
theorem c_X_was {l : Launch} {Y : Lay} (hY : IsX Y) {μ : Mem} {x1 : Int32} {x2 : Int32} {x3 : Int32} {r : Int32 × Mem} (hf : f_X_was μ x1 x2 x3 = some r) : Ct l Y y_X_was b_X_was 4 (some .int) 3 [.ref (yad Y 0), .int x1, .int x2, .int x3] (some (.int r.1)) μ r.2 := by
  refine ct_of (own := "TopYard") (lv := [(0, .ref (yad Y 0)), (1, .int x1), (2, .int x2), (3, .int x3)]) (by decide +kernel) rfl (Nat.le_of_ble_eq_true rfl) rfl (fun X hl C => ?_)
  subst hl
  unfold f_X_was at hf
  refine j_aload_n C d_X_was_0 0 rfl ?_
  refine j_iload_n C d_X_was_1 1 rfl ?_
  refine j_iload_n C d_X_was_2 2 rfl ?_
  refine j_iload_n C d_X_was_3 3 rfl ?_
  refine bd hf (fun v1 hc5 hf => ?_)
  refine j_cV (rest := []) C lk_X_260 (c_X_mayBeRow hY hc5) rfl (kX hY rfl) (nX hY (by decide)) (by decide) rfl rfl (by decide) rfl (Nat.le_of_ble_eq_true rfl) d_X_was_4 ?_
  refine j_if_ne C d_X_was_7 hf (fun hf => ?_) (fun hf => ?_)
  · refine j_aload_n C d_X_was_13 0 rfl ?_
    refine j_gS (b := 34) C fl_X_50 (kX hY rfl) (nX hY (by decide)) rfl hY.2.2.2.1 rfl (sX hY rfl) d_X_was_14 ?_
    refine j_iload_n C d_X_was_17 1 rfl ?_
    refine j_iload_n C d_X_was_18 2 rfl ?_
    refine j_iload_n C d_X_was_19 3 rfl ?_
    refine bd2 hf (fun v2 μ3 hc4 hf => ?_)
    refine j_cV (rest := []) C lk_X_263 (c_Pa_add hY hc4) rfl (kX hY rfl) (nX hY (by decide)) (by decide) rfl rfl (by decide) rfl (Nat.le_of_ble_eq_true rfl) d_X_was_20 ?_
    refine j_if_eq C d_X_was_23 hf (fun hf => ?_) (fun hf => ?_)
    · refine j_bipush (v := (-4)) C d_X_was_36 (by decide) ?_
      obtain rfl := Option.some.inj hf
      exact j_iret C d_X_was_38
    · refine j_aload_n C d_X_was_26 0 rfl ?_
      refine j_gS (b := 34) C fl_X_50 (kX hY rfl) (nX hY (by decide)) rfl hY.2.2.2.1 rfl (sX hY rfl) d_X_was_27 ?_
      refine j_gI C fl_X_266 (kX hY rfl) (nX hY (by decide)) rfl d_X_was_30 ?_
      refine j_goto C d_X_was_33 ?_
      obtain rfl := Option.some.inj hf
      exact j_iret C d_X_was_38
  · refine j_bipush (v := (-2)) C d_X_was_10 (by decide) ?_
    obtain rfl := Option.some.inj hf
    exact j_iret C d_X_was_12
theorem d_X_forget_0 : DC b_X_forget 0 (.aload_n 0) 1 1 := ⟨by decide +kernel, rfl⟩
theorem d_X_forget_1 : DC b_X_forget 1 (.getfield 50) 3 4 := ⟨by decide +kernel, rfl⟩
theorem d_X_forget_4 : DC b_X_forget 4 (.getfield 266) 3 7 := ⟨by decide +kernel, rfl⟩
theorem d_X_forget_7 : DC b_X_forget 7 (.istore_n 1) 1 8 := ⟨by decide +kernel, rfl⟩
theorem d_X_forget_8 : DC b_X_forget 8 (.aload_n 0) 1 9 := ⟨by decide +kernel, rfl⟩
theorem d_X_forget_9 : DC b_X_forget 9 (.getfield 50) 3 12 := ⟨by decide +kernel, rfl⟩
theorem d_X_forget_12 : DC b_X_forget 12 (.iconst 0) 1 13 := ⟨by decide +kernel, rfl⟩
theorem d_X_forget_13 : DC b_X_forget 13 (.putfield 266) 3 16 := ⟨by decide +kernel, rfl⟩
theorem d_X_forget_16 : DC b_X_forget 16 (.iload_n 1) 1 17 := ⟨by decide +kernel, rfl⟩
theorem d_X_forget_17 : decode b_X_forget 17 = .ok (.ireturn, 1) := by decide +kernel
theorem c_X_forget {l : Launch} {Y : Lay} (hY : IsX Y) {μ : Mem} {r : Int32 × Mem} (hf : f_X_forget μ = some r) : Ct l Y y_X_forget b_X_forget 2 (some .int) 1 [.ref (yad Y 0)] (some (.int r.1)) μ r.2 := by
  refine ct_of (own := "TopYard") (lv := [(0, .ref (yad Y 0))]) (by decide +kernel) rfl (Nat.le_of_ble_eq_true rfl) rfl (fun X hl C => ?_)
  subst hl
  unfold f_X_forget at hf
  refine j_aload_n C d_X_forget_0 0 rfl ?_
  refine j_gS (b := 34) C fl_X_50 (kX hY rfl) (nX hY (by decide)) rfl hY.2.2.2.1 rfl (sX hY rfl) d_X_forget_1 ?_
  refine j_gI C fl_X_266 (kX hY rfl) (nX hY (by decide)) rfl d_X_forget_4 ?_
  refine j_istore_nN (lvf := [(0, .ref (yad Y 0))]) C d_X_forget_7 (by decide) rfl hf (fun v1 hf => ?_)
  refine j_aload_n C d_X_forget_8 1 rfl ?_
  refine j_gS (b := 34) C fl_X_50 (kX hY rfl) (nX hY (by decide)) rfl hY.2.2.2.1 rfl (sX hY rfl) d_X_forget_9 ?_
  refine j_iconst (v := 0) C d_X_forget_12 (by decide) ?_
  refine j_pI C fl_X_266 (kX hY rfl) (nX hY (by decide)) rfl rfl rfl d_X_forget_13 hf (fun μ2 hf => ?_)
  refine j_iload_n C d_X_forget_16 0 rfl ?_
  obtain rfl := Option.some.inj hf
  exact j_iret C d_X_forget_17
theorem d_X_sheetAt_0 : DC b_X_sheetAt 0 (.iload_n 1) 1 1 := ⟨by decide +kernel, rfl⟩
theorem d_X_sheetAt_1 : DB b_X_sheetAt 1 (.ifCond .lt 17) 17 18 4 := ⟨by decide +kernel, by decide, rfl⟩
theorem d_X_sheetAt_4 : DC b_X_sheetAt 4 (.iload_n 1) 1 5 := ⟨by decide +kernel, rfl⟩
theorem d_X_sheetAt_5 : DC b_X_sheetAt 5 (.iconst 4) 1 6 := ⟨by decide +kernel, rfl⟩
theorem d_X_sheetAt_6 : DB b_X_sheetAt 6 (.if_icmp .ge 12) 12 18 9 := ⟨by decide +kernel, by decide, rfl⟩
theorem d_X_sheetAt_9 : DC b_X_sheetAt 9 (.aload_n 0) 1 10 := ⟨by decide +kernel, rfl⟩
theorem d_X_sheetAt_10 : DC b_X_sheetAt 10 (.getfield 76) 3 13 := ⟨by decide +kernel, rfl⟩
theorem d_X_sheetAt_13 : DC b_X_sheetAt 13 (.iload_n 1) 1 14 := ⟨by decide +kernel, rfl⟩
theorem d_X_sheetAt_14 : DC b_X_sheetAt 14 (.aaload) 1 15 := ⟨by decide +kernel, rfl⟩
theorem d_X_sheetAt_15 : DB b_X_sheetAt 15 (.goto 4) 4 19 18 := ⟨by decide +kernel, by decide, rfl⟩
theorem d_X_sheetAt_18 : DC b_X_sheetAt 18 (.aconst_null) 1 19 := ⟨by decide +kernel, rfl⟩
theorem d_X_sheetAt_19 : decode b_X_sheetAt 19 = .ok (.areturn, 1) := by decide +kernel
theorem c_X_sheetAt {l : Launch} {Y : Lay} (hY : IsX Y) {μ : Mem} {x1 : Int32} {r : Option Nat} (hf : f_X_sheetAt μ x1 = some r) : Ct l Y y_X_sheetAt b_X_sheetAt 2 (some (.object "TopYard$Sheet")) 1 [.ref (yad Y 0), .int x1] (some (va_rf (Option.map (yad Y) r))) μ μ := by
  refine ct_of (own := "TopYard") (lv := [(0, .ref (yad Y 0)), (1, .int x1)]) (by decide +kernel) rfl (Nat.le_of_ble_eq_true rfl) rfl (fun X hl C => ?_)
  subst hl
  unfold f_X_sheetAt at hf
  refine j_iload_n C d_X_sheetAt_0 1 rfl ?_
  refine j_if_lt C d_X_sheetAt_1 hf (fun hf => ?_) (fun hf => ?_)
  · refine j_null C d_X_sheetAt_18 ?_
    obtain rfl := Option.some.inj hf
    exact j_aret C d_X_sheetAt_19
  · refine j_iload_n C d_X_sheetAt_4 1 rfl ?_
    refine j_iconst (v := 4) C d_X_sheetAt_5 (by decide) ?_
    refine j_icmp_ge C d_X_sheetAt_6 hf (fun hf => ?_) (fun hf => ?_)
    · refine j_null C d_X_sheetAt_18 ?_
      obtain rfl := Option.some.inj hf
      exact j_aret C d_X_sheetAt_19
    · refine j_aload_n C d_X_sheetAt_9 0 rfl ?_
      refine j_gS (b := 47) C fl_X_76 (kX hY rfl) (nX hY (by decide)) rfl hY.2.2.2.1 rfl (sX hY rfl) d_X_sheetAt_10 ?_
      refine j_iload_n C d_X_sheetAt_13 1 rfl ?_
      refine ck hf (fun hi1 hf => ?_)
      refine j_aldS C (kX hY rfl) (by decide) rfl rfl (nX hY (by decide)) (lX hY rfl) hi1 hY.2.2.2.1 rfl (sX hY rfl) d_X_sheetAt_14 ?_
      refine j_goto C d_X_sheetAt_15 ?_
      obtain rfl := Option.some.inj hf
      exact j_aret C d_X_sheetAt_19
theorem d_X_find_0 : DC b_X_find 0 (.aload_n 0) 1 1 := ⟨by decide +kernel, rfl⟩
theorem d_X_find_1 : DC b_X_find 1 (.iload_n 1) 1 2 := ⟨by decide +kernel, rfl⟩
theorem d_X_find_2 : DC b_X_find 2 (.putfield 80) 3 5 := ⟨by decide +kernel, rfl⟩
theorem d_X_find_5 : DC b_X_find 5 (.bipush (-10)) 2 7 := ⟨by decide +kernel, rfl⟩
theorem d_X_find_7 : DC b_X_find 7 (.iload_n 1) 1 8 := ⟨by decide +kernel, rfl⟩
theorem d_X_find_8 : DC b_X_find 8 (.isub) 1 9 := ⟨by decide +kernel, rfl⟩
theorem d_X_find_9 : decode b_X_find 9 = .ok (.ireturn, 1) := by decide +kernel
theorem c_X_find {l : Launch} {Y : Lay} (hY : IsX Y) {μ : Mem} {x1 : Int32} {r : Int32 × Mem} (hf : f_X_find μ x1 = some r) : Ct l Y y_X_find b_X_find 2 (some .int) 1 [.ref (yad Y 0), .int x1] (some (.int r.1)) μ r.2 := by
  refine ct_of (own := "TopYard") (lv := [(0, .ref (yad Y 0)), (1, .int x1)]) (by decide +kernel) rfl (Nat.le_of_ble_eq_true rfl) rfl (fun X hl C => ?_)
  subst hl
  unfold f_X_find at hf
  refine j_aload_n C d_X_find_0 0 rfl ?_
  refine j_iload_n C d_X_find_1 1 rfl ?_
  refine j_pI C fl_X_80 (kX hY rfl) (nX hY (by decide)) rfl rfl rfl d_X_find_2 hf (fun μ1 hf => ?_)
  refine j_bipush (v := (-10)) C d_X_find_5 (by decide) ?_
  refine j_iload_n C d_X_find_7 1 rfl ?_
  refine j_isub C d_X_find_8 ?_
  obtain rfl := Option.some.inj hf
  exact j_iret C d_X_find_9
theorem d_Sh_item_0 : DC b_Sh_item 0 (.iload_n 1) 1 1 := ⟨by decide +kernel, rfl⟩
theorem d_Sh_item_1 : DB b_Sh_item 1 (.ifCond .lt 20) 20 21 4 := ⟨by decide +kernel, by decide, rfl⟩
theorem d_Sh_item_4 : DC b_Sh_item 4 (.iload_n 1) 1 5 := ⟨by decide +kernel, rfl⟩
theorem d_Sh_item_5 : DC b_Sh_item 5 (.aload_n 0) 1 6 := ⟨by decide +kernel, rfl⟩
theorem d_Sh_item_6 : DC b_Sh_item 6 (.getfield 19) 3 9 := ⟨by decide +kernel, rfl⟩
theorem d_Sh_item_9 : DB b_Sh_item 9 (.if_icmp .ge 12) 12 21 12 := ⟨by decide +kernel, by decide, rfl⟩
theorem d_Sh_item_12 : DC b_Sh_item 12 (.aload_n 0) 1 13 := ⟨by decide +kernel, rfl⟩
theorem d_Sh_item_13 : DC b_Sh_item 13 (.getfield 22) 3 16 := ⟨by decide +kernel, rfl⟩
theorem d_Sh_item_16 : DC b_Sh_item 16 (.iload_n 1) 1 17 := ⟨by decide +kernel, rfl⟩
theorem d_Sh_item_17 : DC b_Sh_item 17 (.iaload) 1 18 := ⟨by decide +kernel, rfl⟩
theorem d_Sh_item_18 : DB b_Sh_item 18 (.goto 4) 4 22 21 := ⟨by decide +kernel, by decide, rfl⟩
theorem d_Sh_item_21 : DC b_Sh_item 21 (.iconst 0) 1 22 := ⟨by decide +kernel, rfl⟩
theorem d_Sh_item_22 : decode b_Sh_item 22 = .ok (.ireturn, 1) := by decide +kernel
theorem c_Sh_item {l : Launch} {Y : Lay} (hY : IsX Y) {μ : Mem} {a0 : Nat} {x1 : Int32} (g0 : ykd Y a0 = 6 ∧ a0 < yn Y) {r : Int32} (hf : f_Sh_item μ a0 x1 = some r) : Ct l Y y_Sh_item b_Sh_item 2 (some .int) 1 [.ref (yad Y a0), .int x1] (some (.int r)) μ μ := by
  refine ct_of (own := "TopYard$Sheet") (lv := [(0, .ref (yad Y a0)), (1, .int x1)]) (by decide +kernel) rfl (Nat.le_of_ble_eq_true rfl) rfl (fun X hl C => ?_)
  subst hl
  unfold f_Sh_item at hf
  refine j_iload_n C d_Sh_item_0 1 rfl ?_
  refine j_if_lt C d_Sh_item_1 hf (fun hf => ?_) (fun hf => ?_)
  · refine j_iconst (v := 0) C d_Sh_item_21 (by decide) ?_
    obtain rfl := Option.some.inj hf
    exact j_iret C d_Sh_item_22
  · refine j_iload_n C d_Sh_item_4 1 rfl ?_
    refine j_aload_n C d_Sh_item_5 0 rfl ?_
    refine j_gI C fl_Sh_19 g0.1 g0.2 rfl d_Sh_item_6 ?_
    refine j_icmp_ge C d_Sh_item_9 hf (fun hf => ?_) (fun hf => ?_)
    · refine j_iconst (v := 0) C d_Sh_item_21 (by decide) ?_
      obtain rfl := Option.some.inj hf
      exact j_iret C d_Sh_item_22
    · refine j_aload_n C d_Sh_item_12 0 rfl ?_
      refine j_gS (b := (srX a0 3)) C fl_Sh_22 g0.1 g0.2 rfl hY.2.2.2.1 rfl (sX hY rfl) d_Sh_item_13 ?_
      refine j_iload_n C d_Sh_item_16 1 rfl ?_
      refine ck hf (fun hi1 hf => ?_)
      refine j_iald C (tbX_6_3 hY g0.1).1 (tbX_6_3 hY g0.1).2.1 (tbX_6_3 hY g0.1).2.2 hi1 d_Sh_item_17 ?_
      refine j_goto C d_Sh_item_18 ?_
      obtain rfl := Option.some.inj hf
      exact j_iret C d_Sh_item_22
theorem d_X_read_0 : DC b_X_read 0 (.aload_n 0) 1 1 := ⟨by decide +kernel, rfl⟩
theorem d_X_read_1 : DC b_X_read 1 (.iload_n 1) 1 2 := ⟨by decide +kernel, rfl⟩
theorem d_X_read_2 : DC b_X_read 2 (.invokevirtual 267) 3 5 := ⟨by decide +kernel, rfl⟩
theorem d_X_read_5 : DC b_X_read 5 (.astore_n 2) 1 6 := ⟨by decide +kernel, rfl⟩
theorem d_X_read_6 : DC b_X_read 6 (.aload_n 2) 1 7 := ⟨by decide +kernel, rfl⟩
theorem d_X_read_7 : DB b_X_read 7 (.ifnonnull 6) 6 13 10 := ⟨by decide +kernel, by decide, rfl⟩
theorem d_X_read_10 : DC b_X_read 10 (.bipush (-2)) 2 12 := ⟨by decide +kernel, rfl⟩
theorem d_X_read_12 : decode b_X_read 12 = .ok (.ireturn, 1) := by decide +kernel
theorem d_X_read_13 : DC b_X_read 13 (.aload_n 2) 1 14 := ⟨by decide +kernel, rfl⟩
theorem d_X_read_14 : DC b_X_read 14 (.getfield 271) 3 17 := ⟨by decide +kernel, rfl⟩
theorem d_X_read_17 : DB b_X_read 17 (.ifCond .eq 9) 9 26 20 := ⟨by decide +kernel, by decide, rfl⟩
theorem d_X_read_20 : DC b_X_read 20 (.aload_n 0) 1 21 := ⟨by decide +kernel, rfl⟩
theorem d_X_read_21 : DC b_X_read 21 (.iconst 1) 1 22 := ⟨by decide +kernel, rfl⟩
theorem d_X_read_22 : DC b_X_read 22 (.invokevirtual 275) 3 25 := ⟨by decide +kernel, rfl⟩
theorem d_X_read_25 : decode b_X_read 25 = .ok (.ireturn, 1) := by decide +kernel
theorem d_X_read_26 : DC b_X_read 26 (.iconst 0) 1 27 := ⟨by decide +kernel, rfl⟩
theorem d_X_read_27 : DC b_X_read 27 (.istore_n 3) 1 28 := ⟨by decide +kernel, rfl⟩
theorem d_X_read_28 : DC b_X_read 28 (.iconst 0) 1 29 := ⟨by decide +kernel, rfl⟩
theorem d_X_read_29 : DC b_X_read 29 (.istore 4) 2 31 := ⟨by decide +kernel, rfl⟩
theorem d_X_read_31 : DC b_X_read 31 (.iload 4) 2 33 := ⟨by decide +kernel, rfl⟩
theorem d_X_read_33 : DC b_X_read 33 (.iconst 2) 1 34 := ⟨by decide +kernel, rfl⟩
theorem d_X_read_34 : DC b_X_read 34 (.iadd) 1 35 := ⟨by decide +kernel, rfl⟩
theorem d_X_read_35 : DC b_X_read 35 (.aload_n 2) 1 36 := ⟨by decide +kernel, rfl⟩
theorem d_X_read_36 : DC b_X_read 36 (.getfield 278) 3 39 := ⟨by decide +kernel, rfl⟩
theorem d_X_read_39 : DB b_X_read 39 (.if_icmp .ge 72) 72 111 42 := ⟨by decide +kernel, by decide, rfl⟩
theorem d_X_read_42 : DC b_X_read 42 (.aload_n 2) 1 43 := ⟨by decide +kernel, rfl⟩
theorem d_X_read_43 : DC b_X_read 43 (.iload 4) 2 45 := ⟨by decide +kernel, rfl⟩
theorem d_X_read_45 : DC b_X_read 45 (.invokevirtual 281) 3 48 := ⟨by decide +kernel, rfl⟩
theorem d_X_read_48 : DC b_X_read 48 (.istore 5) 2 50 := ⟨by decide +kernel, rfl⟩
theorem d_X_read_50 : DC b_X_read 50 (.aload_n 2) 1 51 := ⟨by decide +kernel, rfl⟩
theorem d_X_read_51 : DC b_X_read 51 (.iload 4) 2 53 := ⟨by decide +kernel, rfl⟩
theorem d_X_read_53 : DC b_X_read 53 (.iconst 1) 1 54 := ⟨by decide +kernel, rfl⟩
theorem d_X_read_54 : DC b_X_read 54 (.iadd) 1 55 := ⟨by decide +kernel, rfl⟩
theorem d_X_read_55 : DC b_X_read 55 (.invokevirtual 281) 3 58 := ⟨by decide +kernel, rfl⟩
theorem d_X_read_58 : DC b_X_read 58 (.istore 6) 2 60 := ⟨by decide +kernel, rfl⟩
theorem d_X_read_60 : DC b_X_read 60 (.aload_n 2) 1 61 := ⟨by decide +kernel, rfl⟩
theorem d_X_read_61 : DC b_X_read 61 (.iload 4) 2 63 := ⟨by decide +kernel, rfl⟩
theorem d_X_read_63 : DC b_X_read 63 (.iconst 2) 1 64 := ⟨by decide +kernel, rfl⟩
theorem d_X_read_64 : DC b_X_read 64 (.iadd) 1 65 := ⟨by decide +kernel, rfl⟩
theorem d_X_read_65 : DC b_X_read 65 (.invokevirtual 281) 3 68 := ⟨by decide +kernel, rfl⟩
theorem d_X_read_68 : DC b_X_read 68 (.istore 7) 2 70 := ⟨by decide +kernel, rfl⟩
theorem d_X_read_70 : DC b_X_read 70 (.aload_n 0) 1 71 := ⟨by decide +kernel, rfl⟩
theorem d_X_read_71 : DC b_X_read 71 (.iload 5) 2 73 := ⟨by decide +kernel, rfl⟩
theorem d_X_read_73 : DC b_X_read 73 (.iload 6) 2 75 := ⟨by decide +kernel, rfl⟩
theorem d_X_read_75 : DC b_X_read 75 (.iload 7) 2 77 := ⟨by decide +kernel, rfl⟩
theorem d_X_read_77 : DC b_X_read 77 (.invokevirtual 260) 3 80 := ⟨by decide +kernel, rfl⟩
theorem d_X_read_80 : DB b_X_read 80 (.ifCond .eq 31) 31 111 83 := ⟨by decide +kernel, by decide, rfl⟩
theorem d_X_read_83 : DC b_X_read 83 (.aload_n 0) 1 84 := ⟨by decide +kernel, rfl⟩
theorem d_X_read_84 : DC b_X_read 84 (.getfield 50) 3 87 := ⟨by decide +kernel, rfl⟩
theorem d_X_read_87 : DC b_X_read 87 (.iload 5) 2 89 := ⟨by decide +kernel, rfl⟩
theorem d_X_read_89 : DC b_X_read 89 (.iload 6) 2 91 := ⟨by decide +kernel, rfl⟩
theorem d_X_read_91 : DC b_X_read 91 (.iload 7) 2 93 := ⟨by decide +kernel, rfl⟩
theorem d_X_read_93 : DC b_X_read 93 (.invokevirtual 263) 3 96 := ⟨by decide +kernel, rfl⟩
theorem d_X_read_96 : DB b_X_read 96 (.ifCond .ne 6) 6 102 99 := ⟨by decide +kernel, by decide, rfl⟩
theorem d_X_read_99 : DB b_X_read 99 (.goto 12) 12 111 102 := ⟨by decide +kernel, by decide, rfl⟩
theorem d_X_read_102 : DC b_X_read 102 (.iinc 3 1) 3 105 := ⟨by decide +kernel, rfl⟩
theorem d_X_read_105 : DC b_X_read 105 (.iinc 4 3) 3 108 := ⟨by decide +kernel, rfl⟩
theorem d_X_read_108 : DB b_X_read 108 (.goto (-77)) (-77) 31 111 := ⟨by decide +kernel, by decide, rfl⟩
theorem d_X_read_111 : DC b_X_read 111 (.iload_n 3) 1 112 := ⟨by decide +kernel, rfl⟩
theorem d_X_read_112 : decode b_X_read 112 = .ok (.ireturn, 1) := by decide +kernel
theorem w_X_read_l31 {X : Ctx} {Y : Lay} (hY : IsX Y) (C : Cx X Y b_X_read 8 (some .int) "TopYard" 3) {N : Nat} {r : Int32 × Mem} : ∀ (n : Nat) (a2 : Nat) (x3 : Int32) (x4 : Int32) (μ : Mem) (g2 : ykd Y a2 = 6 ∧ a2 < yn Y), f_X_read_l31 N n a2 x3 x4 μ = some r → J X Y (some (.int r.1)) r.2 8 31 [(0, .ref (yad Y 0)), (2, .ref (yad Y a2)), (3, .int x3), (4, .int x4)] [] μ := by
  intro n
  induction n with
  | zero => intro a2 x3 x4 μ g2 hf; rw [f_X_read_l31] at hf; cases hf
  | succ n ih =>
    intro a2 x3 x4 μ g2 hf
    rw [f_X_read_l31] at hf
    refine j_iload C d_X_read_31 3 rfl ?_
    refine j_iconst (v := 2) C d_X_read_33 (by decide) ?_
    refine j_iadd C d_X_read_34 ?_
    refine j_aload_n C d_X_read_35 1 rfl ?_
    refine j_gI C fl_X_278 g2.1 g2.2 rfl d_X_read_36 ?_
    refine j_icmp_ge C d_X_read_39 hf (fun hf => ?_) (fun hf => ?_)
    · refine j_iload_n C d_X_read_111 2 rfl ?_
      obtain rfl := Option.some.inj hf
      exact j_iret C d_X_read_112
    · refine j_aload_n C d_X_read_42 1 rfl ?_
      refine j_iload C d_X_read_43 3 rfl ?_
      refine bd hf (fun v1 hc13 hf => ?_)
      refine j_cV (rest := []) C lk_X_281 (c_Sh_item hY ⟨g2.1, g2.2⟩ hc13) rfl g2.1 g2.2 (by decide) rfl rfl (by decide) rfl (Nat.le_of_ble_eq_true rfl) d_X_read_45 ?_
      refine j_istore (lvf := [(0, .ref (yad Y 0)), (2, .ref (yad Y a2)), (3, .int x3), (4, .int x4)]) C d_X_read_48 (by decide) rfl ?_
      refine j_aload_n C d_X_read_50 2 rfl ?_
      refine j_iload C d_X_read_51 4 rfl ?_
      refine j_iconst (v := 1) C d_X_read_53 (by decide) ?_
      refine j_iadd C d_X_read_54 ?_
      refine bd hf (fun v2 hc12 hf => ?_)
      refine j_cV (rest := []) C lk_X_281 (c_Sh_item hY ⟨g2.1, g2.2⟩ hc12) rfl g2.1 g2.2 (by decide) rfl rfl (by decide) rfl (Nat.le_of_ble_eq_true rfl) d_X_read_55 ?_
      refine j_istore (lvf := [(5, .int v1), (0, .ref (yad Y 0)), (2, .ref (yad Y a2)), (3, .int x3), (4, .int x4)]) C d_X_read_58 (by decide) rfl ?_
      refine j_aload_n C d_X_read_60 3 rfl ?_
      refine j_iload C d_X_read_61 5 rfl ?_
      refine j_iconst (v := 2) C d_X_read_63 (by decide) ?_
      refine j_iadd C d_X_read_64 ?_
      refine bd hf (fun v3 hc11 hf => ?_)
      refine j_cV (rest := []) C lk_X_281 (c_Sh_item hY ⟨g2.1, g2.2⟩ hc11) rfl g2.1 g2.2 (by decide) rfl rfl (by decide) rfl (Nat.le_of_ble_eq_true rfl) d_X_read_65 ?_
      refine j_istore (lvf := [(6, .int v2), (5, .int v1), (0, .ref (yad Y 0)), (2, .ref (yad Y a2)), (3, .int x3), (4, .int x4)]) C d_X_read_68 (by decide) rfl ?_
      refine j_aload_n C d_X_read_70 3 rfl ?_
      refine j_iload C d_X_read_71 2 rfl ?_
      refine j_iload C d_X_read_73 1 rfl ?_
      refine j_iload C d_X_read_75 0 rfl ?_
      refine bd hf (fun v4 hc10 hf => ?_)
      refine j_cV (rest := []) C lk_X_260 (c_X_mayBeRow hY hc10) rfl (kX hY rfl) (nX hY (by decide)) (by decide) rfl rfl (by decide) rfl (Nat.le_of_ble_eq_true rfl) d_X_read_77 ?_
      refine j_if_eq C d_X_read_80 hf (fun hf => ?_) (fun hf => ?_)
      · refine j_iload_n C d_X_read_111 5 rfl ?_
        obtain rfl := Option.some.inj hf
        exact j_iret C d_X_read_112
      · refine j_aload_n C d_X_read_83 3 rfl ?_
        refine j_gS (b := 34) C fl_X_50 (kX hY rfl) (nX hY (by decide)) rfl hY.2.2.2.1 rfl (sX hY rfl) d_X_read_84 ?_
        refine j_iload C d_X_read_87 2 rfl ?_
        refine j_iload C d_X_read_89 1 rfl ?_
        refine j_iload C d_X_read_91 0 rfl ?_
        refine bd2 hf (fun v5 μ6 hc9 hf => ?_)
        refine j_cV (rest := []) C lk_X_263 (c_Pa_add hY hc9) rfl (kX hY rfl) (nX hY (by decide)) (by decide) rfl rfl (by decide) rfl (Nat.le_of_ble_eq_true rfl) d_X_read_93 ?_
        refine j_if_ne C d_X_read_96 hf (fun hf => ?_) (fun hf => ?_)
        · refine j_iinc (lvf := [(7, .int v3), (6, .int v2), (5, .int v1), (0, .ref (yad Y 0)), (2, .ref (yad Y a2)), (4, .int x4)]) (v := 1) C d_X_read_102 5 rfl (by decide) (by decide) rfl hf (fun v7 hf => ?_)
          refine j_iinc (lvf := [(3, .int v7), (7, .int v3), (6, .int v2), (5, .int v1), (0, .ref (yad Y 0)), (2, .ref (yad Y a2))]) (v := 3) C d_X_read_105 6 rfl (by decide) (by decide) rfl hf (fun v8 hf => ?_)
          refine j_goto C d_X_read_108 ?_
          refine j_sub [5, 6, 1, 0] rfl ?_
          exact ih a2 v7 v8 μ6 ⟨g2.1, g2.2⟩ hf
        · refine j_goto C d_X_read_99 ?_
          refine j_iload_n C d_X_read_111 5 rfl ?_
          obtain rfl := Option.some.inj hf
          exact j_iret C d_X_read_112
theorem c_X_read {l : Launch} {Y : Lay} (hY : IsX Y) {N : Nat} {μ : Mem} {x1 : Int32} {r : Int32 × Mem} (hf : f_X_read N μ x1 = some r) : Ct l Y y_X_read b_X_read 8 (some .int) 3 [.ref (yad Y 0), .int x1] (some (.int r.1)) μ r.2 := by
  refine ct_of (own := "TopYard") (lv := [(0, .ref (yad Y 0)), (1, .int x1)]) (by decide +kernel) rfl (Nat.le_of_ble_eq_true rfl) rfl (fun X hl C => ?_)
  subst hl
  unfold f_X_read at hf
  refine j_aload_n C d_X_read_0 0 rfl ?_
  refine j_iload_n C d_X_read_1 1 rfl ?_
  refine bd hf (fun u1 hc6 hf => ?_)
  refine j_wt (fun hT hSt => ?_)
  have hu1 := rt_X_sheetAt hY hT hc6
  refine j_cV (rest := []) C lk_X_267 (c_X_sheetAt hY hc6) rfl (kX hY rfl) (nX hY (by decide)) (by decide) rfl rfl (by decide) rfl (Nat.le_of_ble_eq_true rfl) d_X_read_2 ?_
  refine j_astoreo_n (lvf := [(0, .ref (yad Y 0)), (1, .int x1)]) C d_X_read_5 (by decide) rfl ?_
  refine j_aloado_n C d_X_read_6 0 rfl ?_
  cases u1 with
  | none =>
    refine j_nnul_f C d_X_read_7 ?_
    refine j_bipush (v := (-2)) C d_X_read_10 (by decide) ?_
    obtain rfl := Option.some.inj hf
    exact j_iret C d_X_read_12
  | some e2 =>
    refine j_nnul_t C d_X_read_7 ?_
    refine j_aload_n C d_X_read_13 0 rfl ?_
    refine j_gI C fl_X_271 (hu1 e2 rfl).2 (hu1 e2 rfl).1 rfl d_X_read_14 ?_
    refine j_if_eq C d_X_read_17 hf (fun hf => ?_) (fun hf => ?_)
    · refine j_iconst (v := 0) C d_X_read_26 (by decide) ?_
      refine j_istore_n (lvf := [(2, .ref (yad Y e2)), (0, .ref (yad Y 0)), (1, .int x1)]) C d_X_read_27 (by decide) rfl ?_
      refine j_iconst (v := 0) C d_X_read_28 (by decide) ?_
      refine j_istore (lvf := [(3, .int 0), (2, .ref (yad Y e2)), (0, .ref (yad Y 0)), (1, .int x1)]) C d_X_read_29 (by decide) rfl ?_
      refine j_sub [3, 2, 1, 0] rfl ?_
      exact w_X_read_l31 hY C N e2 0 0 μ ⟨(hu1 e2 rfl).2, (hu1 e2 rfl).1⟩ hf
    · refine j_aload_n C d_X_read_20 1 rfl ?_
      refine j_iconst (v := 1) C d_X_read_21 (by decide) ?_
      refine bd2 hf (fun v3 μ4 hc5 hf => ?_)
      refine j_cV (rest := []) C lk_X_275 (c_X_find hY hc5) rfl (kX hY rfl) (nX hY (by decide)) (by decide) rfl rfl (by decide) rfl (Nat.le_of_ble_eq_true rfl) d_X_read_22 ?_
      obtain rfl := Option.some.inj hf
      exact j_iret C d_X_read_25
theorem d_Pa_speaks_0 : DC b_Pa_speaks 0 (.iload_n 1) 1 1 := ⟨by decide +kernel, rfl⟩
theorem d_Pa_speaks_1 : DB b_Pa_speaks 1 (.ifCond .lt 21) 21 22 4 := ⟨by decide +kernel, by decide, rfl⟩
theorem d_Pa_speaks_4 : DC b_Pa_speaks 4 (.iload_n 1) 1 5 := ⟨by decide +kernel, rfl⟩
theorem d_Pa_speaks_5 : DC b_Pa_speaks 5 (.aload_n 0) 1 6 := ⟨by decide +kernel, rfl⟩
theorem d_Pa_speaks_6 : DC b_Pa_speaks 6 (.getfield 9) 3 9 := ⟨by decide +kernel, rfl⟩
theorem d_Pa_speaks_9 : DB b_Pa_speaks 9 (.if_icmp .ge 13) 13 22 12 := ⟨by decide +kernel, by decide, rfl⟩
theorem d_Pa_speaks_12 : DC b_Pa_speaks 12 (.aload_n 0) 1 13 := ⟨by decide +kernel, rfl⟩
theorem d_Pa_speaks_13 : DC b_Pa_speaks 13 (.getfield 22) 3 16 := ⟨by decide +kernel, rfl⟩
theorem d_Pa_speaks_16 : DC b_Pa_speaks 16 (.iload_n 1) 1 17 := ⟨by decide +kernel, rfl⟩
theorem d_Pa_speaks_17 : DC b_Pa_speaks 17 (.iaload) 1 18 := ⟨by decide +kernel, rfl⟩
theorem d_Pa_speaks_18 : DC b_Pa_speaks 18 (.iconst 2) 1 19 := ⟨by decide +kernel, rfl⟩
theorem d_Pa_speaks_19 : DB b_Pa_speaks 19 (.if_icmp .ne 5) 5 24 22 := ⟨by decide +kernel, by decide, rfl⟩
theorem d_Pa_speaks_22 : DC b_Pa_speaks 22 (.iconst 0) 1 23 := ⟨by decide +kernel, rfl⟩
theorem d_Pa_speaks_23 : decode b_Pa_speaks 23 = .ok (.ireturn, 1) := by decide +kernel
theorem d_Pa_speaks_24 : DC b_Pa_speaks 24 (.iload_n 2) 1 25 := ⟨by decide +kernel, rfl⟩
theorem d_Pa_speaks_25 : DC b_Pa_speaks 25 (.iconst (-1)) 1 26 := ⟨by decide +kernel, rfl⟩
theorem d_Pa_speaks_26 : DB b_Pa_speaks 26 (.if_icmp .eq 23) 23 49 29 := ⟨by decide +kernel, by decide, rfl⟩
theorem d_Pa_speaks_29 : DC b_Pa_speaks 29 (.aload_n 0) 1 30 := ⟨by decide +kernel, rfl⟩
theorem d_Pa_speaks_30 : DC b_Pa_speaks 30 (.getfield 15) 3 33 := ⟨by decide +kernel, rfl⟩
theorem d_Pa_speaks_33 : DC b_Pa_speaks 33 (.iload_n 1) 1 34 := ⟨by decide +kernel, rfl⟩
theorem d_Pa_speaks_34 : DC b_Pa_speaks 34 (.iaload) 1 35 := ⟨by decide +kernel, rfl⟩
theorem d_Pa_speaks_35 : DC b_Pa_speaks 35 (.iload_n 2) 1 36 := ⟨by decide +kernel, rfl⟩
theorem d_Pa_speaks_36 : DB b_Pa_speaks 36 (.if_icmp .eq 13) 13 49 39 := ⟨by decide +kernel, by decide, rfl⟩
theorem d_Pa_speaks_39 : DC b_Pa_speaks 39 (.aload_n 0) 1 40 := ⟨by decide +kernel, rfl⟩
theorem d_Pa_speaks_40 : DC b_Pa_speaks 40 (.getfield 19) 3 43 := ⟨by decide +kernel, rfl⟩
theorem d_Pa_speaks_43 : DC b_Pa_speaks 43 (.iload_n 1) 1 44 := ⟨by decide +kernel, rfl⟩
theorem d_Pa_speaks_44 : DC b_Pa_speaks 44 (.iaload) 1 45 := ⟨by decide +kernel, rfl⟩
theorem d_Pa_speaks_45 : DC b_Pa_speaks 45 (.iload_n 2) 1 46 := ⟨by decide +kernel, rfl⟩
theorem d_Pa_speaks_46 : DB b_Pa_speaks 46 (.if_icmp .ne 7) 7 53 49 := ⟨by decide +kernel, by decide, rfl⟩
theorem d_Pa_speaks_49 : DC b_Pa_speaks 49 (.iconst 1) 1 50 := ⟨by decide +kernel, rfl⟩
theorem d_Pa_speaks_50 : DB b_Pa_speaks 50 (.goto 4) 4 54 53 := ⟨by decide +kernel, by decide, rfl⟩
theorem d_Pa_speaks_53 : DC b_Pa_speaks 53 (.iconst 0) 1 54 := ⟨by decide +kernel, rfl⟩
theorem d_Pa_speaks_54 : decode b_Pa_speaks 54 = .ok (.ireturn, 1) := by decide +kernel
theorem w_Pa_speaks_b49 {X : Ctx} {Y : Lay} (hY : IsX Y) (C : Cx X Y b_Pa_speaks 3 (some .boolean) "TopYard$Past" 1) {μ : Mem} {r : Int32} (hf : f_Pa_speaks_b49 μ = some r) : J X Y (some (.int r)) μ 3 49 [] [] μ := by
  unfold f_Pa_speaks_b49 at hf
  refine j_iconst (v := 1) C d_Pa_speaks_49 (by decide) ?_
  refine j_goto C d_Pa_speaks_50 ?_
  obtain rfl := Option.some.inj hf
  exact j_zret C (Or.inr rfl) d_Pa_speaks_54
theorem c_Pa_speaks {l : Launch} {Y : Lay} (hY : IsX Y) {μ : Mem} {x1 : Int32} {x2 : Int32} {r : Int32} (hf : f_Pa_speaks μ x1 x2 = some r) : Ct l Y y_Pa_speaks b_Pa_speaks 3 (some .boolean) 1 [.ref (yad Y 34), .int x1, .int x2] (some (.int r)) μ μ := by
  refine ct_of (own := "TopYard$Past") (lv := [(0, .ref (yad Y 34)), (1, .int x1), (2, .int x2)]) (by decide +kernel) rfl (Nat.le_of_ble_eq_true rfl) rfl (fun X hl C => ?_)
  subst hl
  unfold f_Pa_speaks at hf
  refine j_iload_n C d_Pa_speaks_0 1 rfl ?_
  refine j_if_lt C d_Pa_speaks_1 hf (fun hf => ?_) (fun hf => ?_)
  · refine j_iconst (v := 0) C d_Pa_speaks_22 (by decide) ?_
    obtain rfl := Option.some.inj hf
    exact j_zret C (Or.inl rfl) d_Pa_speaks_23
  · refine j_iload_n C d_Pa_speaks_4 1 rfl ?_
    refine j_aload_n C d_Pa_speaks_5 0 rfl ?_
    refine j_gI C fl_Pa_9 (kX hY rfl) (nX hY (by decide)) rfl d_Pa_speaks_6 ?_
    refine j_icmp_ge C d_Pa_speaks_9 hf (fun hf => ?_) (fun hf => ?_)
    · refine j_iconst (v := 0) C d_Pa_speaks_22 (by decide) ?_
      obtain rfl := Option.some.inj hf
      exact j_zret C (Or.inl rfl) d_Pa_speaks_23
    · refine j_aload_n C d_Pa_speaks_12 0 rfl ?_
      refine j_gS (b := 37) C fl_Pa_22 (kX hY rfl) (nX hY (by decide)) rfl hY.2.2.2.1 rfl (sX hY rfl) d_Pa_speaks_13 ?_
      refine j_iload_n C d_Pa_speaks_16 1 rfl ?_
      refine ck hf (fun hi1 hf => ?_)
      refine j_iald C (kX hY rfl) (nX hY (by decide)) (lX hY rfl) hi1 d_Pa_speaks_17 ?_
      refine j_iconst (v := 2) C d_Pa_speaks_18 (by decide) ?_
      refine j_icmp_ne C d_Pa_speaks_19 hf (fun hf => ?_) (fun hf => ?_)
      · refine j_iload_n C d_Pa_speaks_24 2 rfl ?_
        refine j_iconst (v := (-1)) C d_Pa_speaks_25 (by decide) ?_
        refine j_icmp_eq C d_Pa_speaks_26 hf (fun hf => ?_) (fun hf => ?_)
        · refine j_sub [] rfl ?_
          exact w_Pa_speaks_b49 hY C hf
        · refine j_aload_n C d_Pa_speaks_29 0 rfl ?_
          refine j_gS (b := 35) C fl_Pa_15 (kX hY rfl) (nX hY (by decide)) rfl hY.2.2.2.1 rfl (sX hY rfl) d_Pa_speaks_30 ?_
          refine j_iload_n C d_Pa_speaks_33 1 rfl ?_
          refine ck hf (fun hi2 hf => ?_)
          refine j_iald C (kX hY rfl) (nX hY (by decide)) (lX hY rfl) hi2 d_Pa_speaks_34 ?_
          refine j_iload_n C d_Pa_speaks_35 2 rfl ?_
          refine j_icmp_eq C d_Pa_speaks_36 hf (fun hf => ?_) (fun hf => ?_)
          · refine j_sub [] rfl ?_
            exact w_Pa_speaks_b49 hY C hf
          · refine j_aload_n C d_Pa_speaks_39 0 rfl ?_
            refine j_gS (b := 36) C fl_Pa_19 (kX hY rfl) (nX hY (by decide)) rfl hY.2.2.2.1 rfl (sX hY rfl) d_Pa_speaks_40 ?_
            refine j_iload_n C d_Pa_speaks_43 1 rfl ?_
            refine ck hf (fun hi3 hf => ?_)
            refine j_iald C (kX hY rfl) (nX hY (by decide)) (lX hY rfl) hi3 d_Pa_speaks_44 ?_
            refine j_iload_n C d_Pa_speaks_45 2 rfl ?_
            refine j_icmp_ne C d_Pa_speaks_46 hf (fun hf => ?_) (fun hf => ?_)
            · refine j_iconst (v := 0) C d_Pa_speaks_53 (by decide) ?_
              obtain rfl := Option.some.inj hf
              exact j_zret C (Or.inl rfl) d_Pa_speaks_54
            · refine j_sub [] rfl ?_
              exact w_Pa_speaks_b49 hY C hf
      · refine j_iconst (v := 0) C d_Pa_speaks_22 (by decide) ?_
        obtain rfl := Option.some.inj hf
        exact j_zret C (Or.inl rfl) d_Pa_speaks_23
theorem d_Pa_firstLike_0 : DC b_Pa_firstLike 0 (.iconst 0) 1 1 := ⟨by decide +kernel, rfl⟩
theorem d_Pa_firstLike_1 : DC b_Pa_firstLike 1 (.istore_n 2) 1 2 := ⟨by decide +kernel, rfl⟩
theorem d_Pa_firstLike_2 : DC b_Pa_firstLike 2 (.iload_n 2) 1 3 := ⟨by decide +kernel, rfl⟩
theorem d_Pa_firstLike_3 : DC b_Pa_firstLike 3 (.iload_n 1) 1 4 := ⟨by decide +kernel, rfl⟩
theorem d_Pa_firstLike_4 : DB b_Pa_firstLike 4 (.if_icmp .ge 59) 59 63 7 := ⟨by decide +kernel, by decide, rfl⟩
theorem d_Pa_firstLike_7 : DC b_Pa_firstLike 7 (.iload_n 1) 1 8 := ⟨by decide +kernel, rfl⟩
theorem d_Pa_firstLike_8 : DC b_Pa_firstLike 8 (.aload_n 0) 1 9 := ⟨by decide +kernel, rfl⟩
theorem d_Pa_firstLike_9 : DC b_Pa_firstLike 9 (.getfield 9) 3 12 := ⟨by decide +kernel, rfl⟩
theorem d_Pa_firstLike_12 : DB b_Pa_firstLike 12 (.if_icmp .ge 51) 51 63 15 := ⟨by decide +kernel, by decide, rfl⟩
theorem d_Pa_firstLike_15 : DC b_Pa_firstLike 15 (.aload_n 0) 1 16 := ⟨by decide +kernel, rfl⟩
theorem d_Pa_firstLike_16 : DC b_Pa_firstLike 16 (.getfield 22) 3 19 := ⟨by decide +kernel, rfl⟩
theorem d_Pa_firstLike_19 : DC b_Pa_firstLike 19 (.iload_n 2) 1 20 := ⟨by decide +kernel, rfl⟩
theorem d_Pa_firstLike_20 : DC b_Pa_firstLike 20 (.iaload) 1 21 := ⟨by decide +kernel, rfl⟩
theorem d_Pa_firstLike_21 : DC b_Pa_firstLike 21 (.iconst 2) 1 22 := ⟨by decide +kernel, rfl⟩
theorem d_Pa_firstLike_22 : DB b_Pa_firstLike 22 (.if_icmp .eq 35) 35 57 25 := ⟨by decide +kernel, by decide, rfl⟩
theorem d_Pa_firstLike_25 : DC b_Pa_firstLike 25 (.aload_n 0) 1 26 := ⟨by decide +kernel, rfl⟩
theorem d_Pa_firstLike_26 : DC b_Pa_firstLike 26 (.getfield 15) 3 29 := ⟨by decide +kernel, rfl⟩
theorem d_Pa_firstLike_29 : DC b_Pa_firstLike 29 (.iload_n 2) 1 30 := ⟨by decide +kernel, rfl⟩
theorem d_Pa_firstLike_30 : DC b_Pa_firstLike 30 (.iaload) 1 31 := ⟨by decide +kernel, rfl⟩
theorem d_Pa_firstLike_31 : DC b_Pa_firstLike 31 (.aload_n 0) 1 32 := ⟨by decide +kernel, rfl⟩
theorem d_Pa_firstLike_32 : DC b_Pa_firstLike 32 (.getfield 15) 3 35 := ⟨by decide +kernel, rfl⟩
theorem d_Pa_firstLike_35 : DC b_Pa_firstLike 35 (.iload_n 1) 1 36 := ⟨by decide +kernel, rfl⟩
theorem d_Pa_firstLike_36 : DC b_Pa_firstLike 36 (.iaload) 1 37 := ⟨by decide +kernel, rfl⟩
theorem d_Pa_firstLike_37 : DB b_Pa_firstLike 37 (.if_icmp .ne 20) 20 57 40 := ⟨by decide +kernel, by decide, rfl⟩
theorem d_Pa_firstLike_40 : DC b_Pa_firstLike 40 (.aload_n 0) 1 41 := ⟨by decide +kernel, rfl⟩
theorem d_Pa_firstLike_41 : DC b_Pa_firstLike 41 (.getfield 19) 3 44 := ⟨by decide +kernel, rfl⟩
theorem d_Pa_firstLike_44 : DC b_Pa_firstLike 44 (.iload_n 2) 1 45 := ⟨by decide +kernel, rfl⟩
theorem d_Pa_firstLike_45 : DC b_Pa_firstLike 45 (.iaload) 1 46 := ⟨by decide +kernel, rfl⟩
theorem d_Pa_firstLike_46 : DC b_Pa_firstLike 46 (.aload_n 0) 1 47 := ⟨by decide +kernel, rfl⟩
theorem d_Pa_firstLike_47 : DC b_Pa_firstLike 47 (.getfield 19) 3 50 := ⟨by decide +kernel, rfl⟩
theorem d_Pa_firstLike_50 : DC b_Pa_firstLike 50 (.iload_n 1) 1 51 := ⟨by decide +kernel, rfl⟩
theorem d_Pa_firstLike_51 : DC b_Pa_firstLike 51 (.iaload) 1 52 := ⟨by decide +kernel, rfl⟩
theorem d_Pa_firstLike_52 : DB b_Pa_firstLike 52 (.if_icmp .ne 5) 5 57 55 := ⟨by decide +kernel, by decide, rfl⟩
theorem d_Pa_firstLike_55 : DC b_Pa_firstLike 55 (.iload_n 2) 1 56 := ⟨by decide +kernel, rfl⟩
theorem d_Pa_firstLike_56 : decode b_Pa_firstLike 56 = .ok (.ireturn, 1) := by decide +kernel
theorem d_Pa_firstLike_57 : DC b_Pa_firstLike 57 (.iinc 2 1) 3 60 := ⟨by decide +kernel, rfl⟩
theorem d_Pa_firstLike_60 : DB b_Pa_firstLike 60 (.goto (-58)) (-58) 2 63 := ⟨by decide +kernel, by decide, rfl⟩
theorem d_Pa_firstLike_63 : DC b_Pa_firstLike 63 (.iload_n 1) 1 64 := ⟨by decide +kernel, rfl⟩
theorem d_Pa_firstLike_64 : decode b_Pa_firstLike 64 = .ok (.ireturn, 1) := by decide +kernel
theorem w_Pa_firstLike_b57 {X : Ctx} {Y : Lay} (hY : IsX Y) (C : Cx X Y b_Pa_firstLike 3 (some .int) "TopYard$Past" 1) {N : Nat} {μ : Mem} {r : Int32} (k2 : Int32 → Int32 → Option (Int32)) (hk2 : ∀ (x1 : Int32) (x2 : Int32), k2 x1 x2 = some r → J X Y (some (.int r)) μ 3 2 [(0, .ref (yad Y 34)), (1, .int x1), (2, .int x2)] [] μ) (x1 : Int32) (x2 : Int32) (hf : f_Pa_firstLike_b57 N μ k2 x1 x2 = some r) : J X Y (some (.int r)) μ 3 57 [(0, .ref (yad Y 34)), (1, .int x1), (2, .int x2)] [] μ := by
  unfold f_Pa_firstLike_b57 at hf
  refine j_iinc (lvf := [(0, .ref (yad Y 34)), (1, .int x1)]) (v := 1) C d_Pa_firstLike_57 2 rfl (by decide) (by decide) rfl hf (fun v1 hf => ?_)
  refine j_goto C d_Pa_firstLike_60 ?_
  refine j_sub [1, 2, 0] rfl ?_
  exact hk2 x1 v1 hf
theorem w_Pa_firstLike_l2 {X : Ctx} {Y : Lay} (hY : IsX Y) (C : Cx X Y b_Pa_firstLike 3 (some .int) "TopYard$Past" 1) {N : Nat} {μ : Mem} {r : Int32} : ∀ (n : Nat) (x1 : Int32) (x2 : Int32), f_Pa_firstLike_l2 N μ n x1 x2 = some r → J X Y (some (.int r)) μ 3 2 [(0, .ref (yad Y 34)), (1, .int x1), (2, .int x2)] [] μ := by
  intro n
  induction n with
  | zero => intro x1 x2 hf; rw [f_Pa_firstLike_l2] at hf; cases hf
  | succ n ih =>
    intro x1 x2 hf
    rw [f_Pa_firstLike_l2] at hf
    refine j_iload_n C d_Pa_firstLike_2 2 rfl ?_
    refine j_iload_n C d_Pa_firstLike_3 1 rfl ?_
    refine j_icmp_ge C d_Pa_firstLike_4 hf (fun hf => ?_) (fun hf => ?_)
    · refine j_iload_n C d_Pa_firstLike_63 1 rfl ?_
      obtain rfl := Option.some.inj hf
      exact j_iret C d_Pa_firstLike_64
    · refine j_iload_n C d_Pa_firstLike_7 1 rfl ?_
      refine j_aload_n C d_Pa_firstLike_8 0 rfl ?_
      refine j_gI C fl_Pa_9 (kX hY rfl) (nX hY (by decide)) rfl d_Pa_firstLike_9 ?_
      refine j_icmp_ge C d_Pa_firstLike_12 hf (fun hf => ?_) (fun hf => ?_)
      · refine j_iload_n C d_Pa_firstLike_63 1 rfl ?_
        obtain rfl := Option.some.inj hf
        exact j_iret C d_Pa_firstLike_64
      · refine j_aload_n C d_Pa_firstLike_15 0 rfl ?_
        refine j_gS (b := 37) C fl_Pa_22 (kX hY rfl) (nX hY (by decide)) rfl hY.2.2.2.1 rfl (sX hY rfl) d_Pa_firstLike_16 ?_
        refine j_iload_n C d_Pa_firstLike_19 2 rfl ?_
        refine ck hf (fun hi1 hf => ?_)
        refine j_iald C (kX hY rfl) (nX hY (by decide)) (lX hY rfl) hi1 d_Pa_firstLike_20 ?_
        refine j_iconst (v := 2) C d_Pa_firstLike_21 (by decide) ?_
        refine j_icmp_eq C d_Pa_firstLike_22 hf (fun hf => ?_) (fun hf => ?_)
        · refine j_sub [0, 1, 2] rfl ?_
          exact w_Pa_firstLike_b57 hY C (f_Pa_firstLike_l2 N μ n) ih x1 x2 hf
        · refine j_aload_n C d_Pa_firstLike_25 0 rfl ?_
          refine j_gS (b := 35) C fl_Pa_15 (kX hY rfl) (nX hY (by decide)) rfl hY.2.2.2.1 rfl (sX hY rfl) d_Pa_firstLike_26 ?_
          refine j_iload_n C d_Pa_firstLike_29 2 rfl ?_
          refine ck hf (fun hi2 hf => ?_)
          refine j_iald C (kX hY rfl) (nX hY (by decide)) (lX hY rfl) hi2 d_Pa_firstLike_30 ?_
          refine j_aload_n C d_Pa_firstLike_31 0 rfl ?_
          refine j_gS (b := 35) C fl_Pa_15 (kX hY rfl) (nX hY (by decide)) rfl hY.2.2.2.1 rfl (sX hY rfl) d_Pa_firstLike_32 ?_
          refine j_iload_n C d_Pa_firstLike_35 1 rfl ?_
          refine ck hf (fun hi3 hf => ?_)
          refine j_iald C (kX hY rfl) (nX hY (by decide)) (lX hY rfl) hi3 d_Pa_firstLike_36 ?_
          refine j_icmp_ne C d_Pa_firstLike_37 hf (fun hf => ?_) (fun hf => ?_)
          · refine j_sub [0, 1, 2] rfl ?_
            exact w_Pa_firstLike_b57 hY C (f_Pa_firstLike_l2 N μ n) ih x1 x2 hf
          · refine j_aload_n C d_Pa_firstLike_40 0 rfl ?_
            refine j_gS (b := 36) C fl_Pa_19 (kX hY rfl) (nX hY (by decide)) rfl hY.2.2.2.1 rfl (sX hY rfl) d_Pa_firstLike_41 ?_
            refine j_iload_n C d_Pa_firstLike_44 2 rfl ?_
            refine ck hf (fun hi4 hf => ?_)
            refine j_iald C (kX hY rfl) (nX hY (by decide)) (lX hY rfl) hi4 d_Pa_firstLike_45 ?_
            refine j_aload_n C d_Pa_firstLike_46 0 rfl ?_
            refine j_gS (b := 36) C fl_Pa_19 (kX hY rfl) (nX hY (by decide)) rfl hY.2.2.2.1 rfl (sX hY rfl) d_Pa_firstLike_47 ?_
            refine j_iload_n C d_Pa_firstLike_50 1 rfl ?_
            refine ck hf (fun hi5 hf => ?_)
            refine j_iald C (kX hY rfl) (nX hY (by decide)) (lX hY rfl) hi5 d_Pa_firstLike_51 ?_
            refine j_icmp_ne C d_Pa_firstLike_52 hf (fun hf => ?_) (fun hf => ?_)
            · refine j_sub [0, 1, 2] rfl ?_
              exact w_Pa_firstLike_b57 hY C (f_Pa_firstLike_l2 N μ n) ih x1 x2 hf
            · refine j_iload_n C d_Pa_firstLike_55 2 rfl ?_
              obtain rfl := Option.some.inj hf
              exact j_iret C d_Pa_firstLike_56
theorem c_Pa_firstLike {l : Launch} {Y : Lay} (hY : IsX Y) {N : Nat} {μ : Mem} {x1 : Int32} {r : Int32} (hf : f_Pa_firstLike N μ x1 = some r) : Ct l Y y_Pa_firstLike b_Pa_firstLike 3 (some .int) 1 [.ref (yad Y 34), .int x1] (some (.int r)) μ μ := by
  refine ct_of (own := "TopYard$Past") (lv := [(0, .ref (yad Y 34)), (1, .int x1)]) (by decide +kernel) rfl (Nat.le_of_ble_eq_true rfl) rfl (fun X hl C => ?_)
  subst hl
  unfold f_Pa_firstLike at hf
  refine j_iconst (v := 0) C d_Pa_firstLike_0 (by decide) ?_
  refine j_istore_n (lvf := [(0, .ref (yad Y 34)), (1, .int x1)]) C d_Pa_firstLike_1 (by decide) rfl ?_
  refine j_sub [1, 2, 0] rfl ?_
  exact w_Pa_firstLike_l2 hY C N x1 0 hf
theorem d_X_foretellRows_0 : DC b_X_foretellRows 0 (.iconst 0) 1 1 := ⟨by decide +kernel, rfl⟩
theorem d_X_foretellRows_1 : DC b_X_foretellRows 1 (.istore_n 2) 1 2 := ⟨by decide +kernel, rfl⟩
theorem d_X_foretellRows_2 : DC b_X_foretellRows 2 (.iload_n 2) 1 3 := ⟨by decide +kernel, rfl⟩
theorem d_X_foretellRows_3 : DC b_X_foretellRows 3 (.aload_n 0) 1 4 := ⟨by decide +kernel, rfl⟩
theorem d_X_foretellRows_4 : DC b_X_foretellRows 4 (.getfield 50) 3 7 := ⟨by decide +kernel, rfl⟩
theorem d_X_foretellRows_7 : DC b_X_foretellRows 7 (.getfield 266) 3 10 := ⟨by decide +kernel, rfl⟩
theorem d_X_foretellRows_10 : DB b_X_foretellRows 10 (.if_icmp .ge 84) 84 94 13 := ⟨by decide +kernel, by decide, rfl⟩
theorem d_X_foretellRows_13 : DC b_X_foretellRows 13 (.aload_n 0) 1 14 := ⟨by decide +kernel, rfl⟩
theorem d_X_foretellRows_14 : DC b_X_foretellRows 14 (.getfield 50) 3 17 := ⟨by decide +kernel, rfl⟩
theorem d_X_foretellRows_17 : DC b_X_foretellRows 17 (.iload_n 2) 1 18 := ⟨by decide +kernel, rfl⟩
theorem d_X_foretellRows_18 : DC b_X_foretellRows 18 (.iload_n 1) 1 19 := ⟨by decide +kernel, rfl⟩
theorem d_X_foretellRows_19 : DC b_X_foretellRows 19 (.invokevirtual 400) 3 22 := ⟨by decide +kernel, rfl⟩
theorem d_X_foretellRows_22 : DB b_X_foretellRows 22 (.ifCond .ne 6) 6 28 25 := ⟨by decide +kernel, by decide, rfl⟩
theorem d_X_foretellRows_25 : DB b_X_foretellRows 25 (.goto 63) 63 88 28 := ⟨by decide +kernel, by decide, rfl⟩
theorem d_X_foretellRows_28 : DC b_X_foretellRows 28 (.aload_n 0) 1 29 := ⟨by decide +kernel, rfl⟩
theorem d_X_foretellRows_29 : DC b_X_foretellRows 29 (.getfield 50) 3 32 := ⟨by decide +kernel, rfl⟩
theorem d_X_foretellRows_32 : DC b_X_foretellRows 32 (.iload_n 2) 1 33 := ⟨by decide +kernel, rfl⟩
theorem d_X_foretellRows_33 : DC b_X_foretellRows 33 (.invokevirtual 403) 3 36 := ⟨by decide +kernel, rfl⟩
theorem d_X_foretellRows_36 : DC b_X_foretellRows 36 (.istore_n 3) 1 37 := ⟨by decide +kernel, rfl⟩
theorem d_X_foretellRows_37 : DC b_X_foretellRows 37 (.aload_n 0) 1 38 := ⟨by decide +kernel, rfl⟩
theorem d_X_foretellRows_38 : DC b_X_foretellRows 38 (.getfield 50) 3 41 := ⟨by decide +kernel, rfl⟩
theorem d_X_foretellRows_41 : DC b_X_foretellRows 41 (.getfield 406) 3 44 := ⟨by decide +kernel, rfl⟩
theorem d_X_foretellRows_44 : DC b_X_foretellRows 44 (.iload_n 2) 1 45 := ⟨by decide +kernel, rfl⟩
theorem d_X_foretellRows_45 : DC b_X_foretellRows 45 (.iload_n 3) 1 46 := ⟨by decide +kernel, rfl⟩
theorem d_X_foretellRows_46 : DC b_X_foretellRows 46 (.iload_n 2) 1 47 := ⟨by decide +kernel, rfl⟩
theorem d_X_foretellRows_47 : DB b_X_foretellRows 47 (.if_icmp .ge 15) 15 62 50 := ⟨by decide +kernel, by decide, rfl⟩
theorem d_X_foretellRows_50 : DC b_X_foretellRows 50 (.aload_n 0) 1 51 := ⟨by decide +kernel, rfl⟩
theorem d_X_foretellRows_51 : DC b_X_foretellRows 51 (.getfield 50) 3 54 := ⟨by decide +kernel, rfl⟩
theorem d_X_foretellRows_54 : DC b_X_foretellRows 54 (.getfield 406) 3 57 := ⟨by decide +kernel, rfl⟩
theorem d_X_foretellRows_57 : DC b_X_foretellRows 57 (.iload_n 3) 1 58 := ⟨by decide +kernel, rfl⟩
theorem d_X_foretellRows_58 : DC b_X_foretellRows 58 (.iaload) 1 59 := ⟨by decide +kernel, rfl⟩
theorem d_X_foretellRows_59 : DB b_X_foretellRows 59 (.goto 28) 28 87 62 := ⟨by decide +kernel, by decide, rfl⟩
theorem d_X_foretellRows_62 : DC b_X_foretellRows 62 (.aload_n 0) 1 63 := ⟨by decide +kernel, rfl⟩
theorem d_X_foretellRows_63 : DC b_X_foretellRows 63 (.aload_n 0) 1 64 := ⟨by decide +kernel, rfl⟩
theorem d_X_foretellRows_64 : DC b_X_foretellRows 64 (.getfield 50) 3 67 := ⟨by decide +kernel, rfl⟩
theorem d_X_foretellRows_67 : DC b_X_foretellRows 67 (.getfield 409) 3 70 := ⟨by decide +kernel, rfl⟩
theorem d_X_foretellRows_70 : DC b_X_foretellRows 70 (.iload_n 2) 1 71 := ⟨by decide +kernel, rfl⟩
theorem d_X_foretellRows_71 : DC b_X_foretellRows 71 (.iaload) 1 72 := ⟨by decide +kernel, rfl⟩
theorem d_X_foretellRows_72 : DC b_X_foretellRows 72 (.aload_n 0) 1 73 := ⟨by decide +kernel, rfl⟩
theorem d_X_foretellRows_73 : DC b_X_foretellRows 73 (.getfield 50) 3 76 := ⟨by decide +kernel, rfl⟩
theorem d_X_foretellRows_76 : DC b_X_foretellRows 76 (.getfield 412) 3 79 := ⟨by decide +kernel, rfl⟩
theorem d_X_foretellRows_79 : DC b_X_foretellRows 79 (.iload_n 2) 1 80 := ⟨by decide +kernel, rfl⟩
theorem d_X_foretellRows_80 : DC b_X_foretellRows 80 (.iaload) 1 81 := ⟨by decide +kernel, rfl⟩
theorem d_X_foretellRows_81 : DC b_X_foretellRows 81 (.bipush 30) 2 83 := ⟨by decide +kernel, rfl⟩
theorem d_X_foretellRows_83 : DC b_X_foretellRows 83 (.iconst (-1)) 1 84 := ⟨by decide +kernel, rfl⟩
theorem d_X_foretellRows_84 : DC b_X_foretellRows 84 (.invokevirtual 239) 3 87 := ⟨by decide +kernel, rfl⟩
theorem d_X_foretellRows_87 : DC b_X_foretellRows 87 (.iastore) 1 88 := ⟨by decide +kernel, rfl⟩
theorem d_X_foretellRows_88 : DC b_X_foretellRows 88 (.iinc 2 1) 3 91 := ⟨by decide +kernel, rfl⟩
theorem d_X_foretellRows_91 : DB b_X_foretellRows 91 (.goto (-89)) (-89) 2 94 := ⟨by decide +kernel, by decide, rfl⟩
theorem d_X_foretellRows_94 : decode b_X_foretellRows 94 = .ok (.return_, 1) := by decide +kernel
theorem w_X_foretellRows_b88 {X : Ctx} {Y : Lay} (hY : IsX Y) (C : Cx X Y b_X_foretellRows 4 none "TopYard" 7) {N : Nat} {r : Mem} (k2 : Int32 → Int32 → Mem → Option (Mem)) (hk2 : ∀ (x1 : Int32) (x2 : Int32) (ν : Mem), k2 x1 x2 ν = some r → J X Y none r 4 2 [(0, .ref (yad Y 0)), (1, .int x1), (2, .int x2)] [] ν) (x1 : Int32) (x2 : Int32) (μ : Mem) (hf : f_X_foretellRows_b88 N k2 x1 x2 μ = some r) : J X Y none r 4 88 [(0, .ref (yad Y 0)), (1, .int x1), (2, .int x2)] [] μ := by
  unfold f_X_foretellRows_b88 at hf
  refine j_iinc (lvf := [(0, .ref (yad Y 0)), (1, .int x1)]) (v := 1) C d_X_foretellRows_88 2 rfl (by decide) (by decide) rfl hf (fun v1 hf => ?_)
  refine j_goto C d_X_foretellRows_91 ?_
  refine j_sub [1, 2, 0] rfl ?_
  exact hk2 x1 v1 μ hf
theorem w_X_foretellRows_b87 {X : Ctx} {Y : Lay} (hY : IsX Y) (C : Cx X Y b_X_foretellRows 4 none "TopYard" 7) {N : Nat} {r : Mem} (k2 : Int32 → Int32 → Mem → Option (Mem)) (hk2 : ∀ (x1 : Int32) (x2 : Int32) (ν : Mem), k2 x1 x2 ν = some r → J X Y none r 4 2 [(0, .ref (yad Y 0)), (1, .int x1), (2, .int x2)] [] ν) (x1 : Int32) (x2 : Int32) (xs0 : Int32) (xs1 : Int32) (μ : Mem) (hf : f_X_foretellRows_b87 N k2 x1 x2 xs0 xs1 μ = some r) : J X Y none r 4 87 [(0, .ref (yad Y 0)), (1, .int x1), (2, .int x2)] [.int xs0, .int xs1, .ref (yad Y 38)] μ := by
  unfold f_X_foretellRows_b87 at hf
  refine ck hf (fun hi1 hf => ?_)
  refine j_iast C (kX hY rfl) (nX hY (by decide)) (lX hY rfl) hi1 d_X_foretellRows_87 hf (fun μ2 hf => ?_)
  refine j_sub [0, 1, 2] rfl ?_
  exact w_X_foretellRows_b88 hY C k2 hk2 x1 x2 μ2 hf
theorem w_X_foretellRows_l2 {X : Ctx} {Y : Lay} (hY : IsX Y) (C : Cx X Y b_X_foretellRows 4 none "TopYard" 7) {N : Nat} {r : Mem} : ∀ (n : Nat) (x1 : Int32) (x2 : Int32) (μ : Mem), f_X_foretellRows_l2 N n x1 x2 μ = some r → J X Y none r 4 2 [(0, .ref (yad Y 0)), (1, .int x1), (2, .int x2)] [] μ := by
  intro n
  induction n with
  | zero => intro x1 x2 μ hf; rw [f_X_foretellRows_l2] at hf; cases hf
  | succ n ih =>
    intro x1 x2 μ hf
    rw [f_X_foretellRows_l2] at hf
    refine j_iload_n C d_X_foretellRows_2 2 rfl ?_
    refine j_aload_n C d_X_foretellRows_3 0 rfl ?_
    refine j_gS (b := 34) C fl_X_50 (kX hY rfl) (nX hY (by decide)) rfl hY.2.2.2.1 rfl (sX hY rfl) d_X_foretellRows_4 ?_
    refine j_gI C fl_X_266 (kX hY rfl) (nX hY (by decide)) rfl d_X_foretellRows_7 ?_
    refine j_icmp_ge C d_X_foretellRows_10 hf (fun hf => ?_) (fun hf => ?_)
    · obtain rfl := Option.some.inj hf
      exact j_vret C d_X_foretellRows_94
    · refine j_aload_n C d_X_foretellRows_13 0 rfl ?_
      refine j_gS (b := 34) C fl_X_50 (kX hY rfl) (nX hY (by decide)) rfl hY.2.2.2.1 rfl (sX hY rfl) d_X_foretellRows_14 ?_
      refine j_iload_n C d_X_foretellRows_17 2 rfl ?_
      refine j_iload_n C d_X_foretellRows_18 1 rfl ?_
      refine bd hf (fun v1 hc10 hf => ?_)
      refine j_cV (rest := []) C lk_X_400 (c_Pa_speaks hY hc10) rfl (kX hY rfl) (nX hY (by decide)) (by decide) rfl rfl (by decide) rfl (Nat.le_of_ble_eq_true rfl) d_X_foretellRows_19 ?_
      refine j_if_ne C d_X_foretellRows_22 hf (fun hf => ?_) (fun hf => ?_)
      · refine j_aload_n C d_X_foretellRows_28 0 rfl ?_
        refine j_gS (b := 34) C fl_X_50 (kX hY rfl) (nX hY (by decide)) rfl hY.2.2.2.1 rfl (sX hY rfl) d_X_foretellRows_29 ?_
        refine j_iload_n C d_X_foretellRows_32 2 rfl ?_
        refine bd hf (fun v2 hc9 hf => ?_)
        refine j_cV (rest := []) C lk_X_403 (c_Pa_firstLike hY hc9) rfl (kX hY rfl) (nX hY (by decide)) (by decide) rfl rfl (by decide) rfl (Nat.le_of_ble_eq_true rfl) d_X_foretellRows_33 ?_
        refine j_istore_n (lvf := [(0, .ref (yad Y 0)), (1, .int x1), (2, .int x2)]) C d_X_foretellRows_36 (by decide) rfl ?_
        refine j_aload_n C d_X_foretellRows_37 1 rfl ?_
        refine j_gS (b := 34) C fl_X_50 (kX hY rfl) (nX hY (by decide)) rfl hY.2.2.2.1 rfl (sX hY rfl) d_X_foretellRows_38 ?_
        refine j_gS (b := 38) C fl_X_406 (kX hY rfl) (nX hY (by decide)) rfl hY.2.2.2.1 rfl (sX hY rfl) d_X_foretellRows_41 ?_
        refine j_iload_n C d_X_foretellRows_44 3 rfl ?_
        refine j_iload_n C d_X_foretellRows_45 0 rfl ?_
        refine j_iload_n C d_X_foretellRows_46 3 rfl ?_
        refine j_icmp_ge C d_X_foretellRows_47 hf (fun hf => ?_) (fun hf => ?_)
        · refine j_aload_n C d_X_foretellRows_62 1 rfl ?_
          refine j_aload_n C d_X_foretellRows_63 1 rfl ?_
          refine j_gS (b := 34) C fl_X_50 (kX hY rfl) (nX hY (by decide)) rfl hY.2.2.2.1 rfl (sX hY rfl) d_X_foretellRows_64 ?_
          refine j_gS (b := 35) C fl_X_409 (kX hY rfl) (nX hY (by decide)) rfl hY.2.2.2.1 rfl (sX hY rfl) d_X_foretellRows_67 ?_
          refine j_iload_n C d_X_foretellRows_70 3 rfl ?_
          refine ck hf (fun hi3 hf => ?_)
          refine j_iald C (kX hY rfl) (nX hY (by decide)) (lX hY rfl) hi3 d_X_foretellRows_71 ?_
          refine j_aload_n C d_X_foretellRows_72 1 rfl ?_
          refine j_gS (b := 34) C fl_X_50 (kX hY rfl) (nX hY (by decide)) rfl hY.2.2.2.1 rfl (sX hY rfl) d_X_foretellRows_73 ?_
          refine j_gS (b := 36) C fl_X_412 (kX hY rfl) (nX hY (by decide)) rfl hY.2.2.2.1 rfl (sX hY rfl) d_X_foretellRows_76 ?_
          refine j_iload_n C d_X_foretellRows_79 3 rfl ?_
          refine ck hf (fun hi4 hf => ?_)
          refine j_iald C (kX hY rfl) (nX hY (by decide)) (lX hY rfl) hi4 d_X_foretellRows_80 ?_
          refine j_bipush (v := 30) C d_X_foretellRows_81 (by decide) ?_
          refine j_iconst (v := (-1)) C d_X_foretellRows_83 (by decide) ?_
          refine bd2 hf (fun v5 μ6 hc7 hf => ?_)
          refine j_cV (rest := [.int x2, .ref (yad Y 38)]) C lk_X_239 (c_X_duel hY hc7) rfl (kX hY rfl) (nX hY (by decide)) (by decide) rfl rfl (by decide) rfl (Nat.le_of_ble_eq_true rfl) d_X_foretellRows_84 ?_
          refine j_sub [1, 2, 3] rfl ?_
          exact w_X_foretellRows_b87 hY C (f_X_foretellRows_l2 N n) ih x1 x2 v5 x2 μ6 hf
        · refine j_aload_n C d_X_foretellRows_50 1 rfl ?_
          refine j_gS (b := 34) C fl_X_50 (kX hY rfl) (nX hY (by decide)) rfl hY.2.2.2.1 rfl (sX hY rfl) d_X_foretellRows_51 ?_
          refine j_gS (b := 38) C fl_X_406 (kX hY rfl) (nX hY (by decide)) rfl hY.2.2.2.1 rfl (sX hY rfl) d_X_foretellRows_54 ?_
          refine j_iload_n C d_X_foretellRows_57 0 rfl ?_
          refine ck hf (fun hi8 hf => ?_)
          refine j_iald C (kX hY rfl) (nX hY (by decide)) (lX hY rfl) hi8 d_X_foretellRows_58 ?_
          refine j_goto C d_X_foretellRows_59 ?_
          refine j_sub [1, 2, 3] rfl ?_
          exact w_X_foretellRows_b87 hY C (f_X_foretellRows_l2 N n) ih x1 x2 (gI μ 38 (ix v2)) x2 μ hf
      · refine j_goto C d_X_foretellRows_25 ?_
        refine j_sub [0, 1, 2] rfl ?_
        exact w_X_foretellRows_b88 hY C (f_X_foretellRows_l2 N n) ih x1 x2 μ hf
theorem c_X_foretellRows {l : Launch} {Y : Lay} (hY : IsX Y) {N : Nat} {μ : Mem} {x1 : Int32} {r : Mem} (hf : f_X_foretellRows N μ x1 = some r) : Ct l Y y_X_foretellRows b_X_foretellRows 4 none 7 [.ref (yad Y 0), .int x1] none μ r := by
  refine ct_of (own := "TopYard") (lv := [(0, .ref (yad Y 0)), (1, .int x1)]) (by decide +kernel) rfl (Nat.le_of_ble_eq_true rfl) rfl (fun X hl C => ?_)
  subst hl
  unfold f_X_foretellRows at hf
  refine j_iconst (v := 0) C d_X_foretellRows_0 (by decide) ?_
  refine j_istore_n (lvf := [(0, .ref (yad Y 0)), (1, .int x1)]) C d_X_foretellRows_1 (by decide) rfl ?_
  refine j_sub [1, 2, 0] rfl ?_
  exact w_X_foretellRows_l2 hY C N x1 0 μ hf
theorem d_Pa_sided_0 : DC b_Pa_sided 0 (.aload_n 0) 1 1 := ⟨by decide +kernel, rfl⟩
theorem d_Pa_sided_1 : DC b_Pa_sided 1 (.getfield 15) 3 4 := ⟨by decide +kernel, rfl⟩
theorem d_Pa_sided_4 : DC b_Pa_sided 4 (.iload_n 2) 1 5 := ⟨by decide +kernel, rfl⟩
theorem d_Pa_sided_5 : DC b_Pa_sided 5 (.iaload) 1 6 := ⟨by decide +kernel, rfl⟩
theorem d_Pa_sided_6 : DC b_Pa_sided 6 (.iload_n 3) 1 7 := ⟨by decide +kernel, rfl⟩
theorem d_Pa_sided_7 : DB b_Pa_sided 7 (.if_icmp .ne 7) 7 14 10 := ⟨by decide +kernel, by decide, rfl⟩
theorem d_Pa_sided_10 : DC b_Pa_sided 10 (.iload_n 1) 1 11 := ⟨by decide +kernel, rfl⟩
theorem d_Pa_sided_11 : DB b_Pa_sided 11 (.goto 5) 5 16 14 := ⟨by decide +kernel, by decide, rfl⟩
theorem d_Pa_sided_14 : DC b_Pa_sided 14 (.iload_n 1) 1 15 := ⟨by decide +kernel, rfl⟩
theorem d_Pa_sided_15 : DC b_Pa_sided 15 (.ineg) 1 16 := ⟨by decide +kernel, rfl⟩
theorem d_Pa_sided_16 : decode b_Pa_sided 16 = .ok (.ireturn, 1) := by decide +kernel
theorem c_Pa_sided {l : Launch} {Y : Lay} (hY : IsX Y) {μ : Mem} {x1 : Int32} {x2 : Int32} {x3 : Int32} {r : Int32} (hf : f_Pa_sided μ x1 x2 x3 = some r) : Ct l Y y_Pa_sided b_Pa_sided 4 (some .int) 1 [.ref (yad Y 34), .int x1, .int x2, .int x3] (some (.int r)) μ μ := by
  refine ct_of (own := "TopYard$Past") (lv := [(0, .ref (yad Y 34)), (1, .int x1), (2, .int x2), (3, .int x3)]) (by decide +kernel) rfl (Nat.le_of_ble_eq_true rfl) rfl (fun X hl C => ?_)
  subst hl
  unfold f_Pa_sided at hf
  refine j_aload_n C d_Pa_sided_0 0 rfl ?_
  refine j_gS (b := 35) C fl_Pa_15 (kX hY rfl) (nX hY (by decide)) rfl hY.2.2.2.1 rfl (sX hY rfl) d_Pa_sided_1 ?_
  refine j_iload_n C d_Pa_sided_4 2 rfl ?_
  refine ck hf (fun hi1 hf => ?_)
  refine j_iald C (kX hY rfl) (nX hY (by decide)) (lX hY rfl) hi1 d_Pa_sided_5 ?_
  refine j_iload_n C d_Pa_sided_6 3 rfl ?_
  refine j_icmp_ne C d_Pa_sided_7 hf (fun hf => ?_) (fun hf => ?_)
  · refine j_iload_n C d_Pa_sided_14 1 rfl ?_
    refine j_ineg C d_Pa_sided_15 ?_
    obtain rfl := Option.some.inj hf
    exact j_iret C d_Pa_sided_16
  · refine j_iload_n C d_Pa_sided_10 1 rfl ?_
    refine j_goto C d_Pa_sided_11 ?_
    obtain rfl := Option.some.inj hf
    exact j_iret C d_Pa_sided_16
theorem d_Pa_surprises_0 : DC b_Pa_surprises 0 (.iconst 0) 1 1 := ⟨by decide +kernel, rfl⟩
theorem d_Pa_surprises_1 : DC b_Pa_surprises 1 (.istore_n 2) 1 2 := ⟨by decide +kernel, rfl⟩
theorem d_Pa_surprises_2 : DC b_Pa_surprises 2 (.iconst 0) 1 3 := ⟨by decide +kernel, rfl⟩
theorem d_Pa_surprises_3 : DC b_Pa_surprises 3 (.istore_n 3) 1 4 := ⟨by decide +kernel, rfl⟩
theorem d_Pa_surprises_4 : DC b_Pa_surprises 4 (.iload_n 3) 1 5 := ⟨by decide +kernel, rfl⟩
theorem d_Pa_surprises_5 : DC b_Pa_surprises 5 (.aload_n 0) 1 6 := ⟨by decide +kernel, rfl⟩
theorem d_Pa_surprises_6 : DC b_Pa_surprises 6 (.getfield 9) 3 9 := ⟨by decide +kernel, rfl⟩
theorem d_Pa_surprises_9 : DB b_Pa_surprises 9 (.if_icmp .ge 48) 48 57 12 := ⟨by decide +kernel, by decide, rfl⟩
theorem d_Pa_surprises_12 : DC b_Pa_surprises 12 (.aload_n 0) 1 13 := ⟨by decide +kernel, rfl⟩
theorem d_Pa_surprises_13 : DC b_Pa_surprises 13 (.iload_n 3) 1 14 := ⟨by decide +kernel, rfl⟩
theorem d_Pa_surprises_14 : DC b_Pa_surprises 14 (.iload_n 1) 1 15 := ⟨by decide +kernel, rfl⟩
theorem d_Pa_surprises_15 : DC b_Pa_surprises 15 (.invokevirtual 28) 3 18 := ⟨by decide +kernel, rfl⟩
theorem d_Pa_surprises_18 : DB b_Pa_surprises 18 (.ifCond .eq 33) 33 51 21 := ⟨by decide +kernel, by decide, rfl⟩
theorem d_Pa_surprises_21 : DC b_Pa_surprises 21 (.aload_n 0) 1 22 := ⟨by decide +kernel, rfl⟩
theorem d_Pa_surprises_22 : DC b_Pa_surprises 22 (.aload_n 0) 1 23 := ⟨by decide +kernel, rfl⟩
theorem d_Pa_surprises_23 : DC b_Pa_surprises 23 (.getfield 22) 3 26 := ⟨by decide +kernel, rfl⟩
theorem d_Pa_surprises_26 : DC b_Pa_surprises 26 (.iload_n 3) 1 27 := ⟨by decide +kernel, rfl⟩
theorem d_Pa_surprises_27 : DC b_Pa_surprises 27 (.iaload) 1 28 := ⟨by decide +kernel, rfl⟩
theorem d_Pa_surprises_28 : DC b_Pa_surprises 28 (.iload_n 3) 1 29 := ⟨by decide +kernel, rfl⟩
theorem d_Pa_surprises_29 : DC b_Pa_surprises 29 (.iload_n 1) 1 30 := ⟨by decide +kernel, rfl⟩
theorem d_Pa_surprises_30 : DC b_Pa_surprises 30 (.invokevirtual 32) 3 33 := ⟨by decide +kernel, rfl⟩
theorem d_Pa_surprises_33 : DC b_Pa_surprises 33 (.aload_n 0) 1 34 := ⟨by decide +kernel, rfl⟩
theorem d_Pa_surprises_34 : DC b_Pa_surprises 34 (.aload_n 0) 1 35 := ⟨by decide +kernel, rfl⟩
theorem d_Pa_surprises_35 : DC b_Pa_surprises 35 (.getfield 25) 3 38 := ⟨by decide +kernel, rfl⟩
theorem d_Pa_surprises_38 : DC b_Pa_surprises 38 (.iload_n 3) 1 39 := ⟨by decide +kernel, rfl⟩
theorem d_Pa_surprises_39 : DC b_Pa_surprises 39 (.iaload) 1 40 := ⟨by decide +kernel, rfl⟩
theorem d_Pa_surprises_40 : DC b_Pa_surprises 40 (.iload_n 3) 1 41 := ⟨by decide +kernel, rfl⟩
theorem d_Pa_surprises_41 : DC b_Pa_surprises 41 (.iload_n 1) 1 42 := ⟨by decide +kernel, rfl⟩
theorem d_Pa_surprises_42 : DC b_Pa_surprises 42 (.invokevirtual 32) 3 45 := ⟨by decide +kernel, rfl⟩
theorem d_Pa_surprises_45 : DB b_Pa_surprises 45 (.if_icmp .ge 6) 6 51 48 := ⟨by decide +kernel, by decide, rfl⟩
theorem d_Pa_surprises_48 : DC b_Pa_surprises 48 (.iinc 2 1) 3 51 := ⟨by decide +kernel, rfl⟩
theorem d_Pa_surprises_51 : DC b_Pa_surprises 51 (.iinc 3 1) 3 54 := ⟨by decide +kernel, rfl⟩
theorem d_Pa_surprises_54 : DB b_Pa_surprises 54 (.goto (-50)) (-50) 4 57 := ⟨by decide +kernel, by decide, rfl⟩
theorem d_Pa_surprises_57 : DC b_Pa_surprises 57 (.iload_n 2) 1 58 := ⟨by decide +kernel, rfl⟩
theorem d_Pa_surprises_58 : decode b_Pa_surprises 58 = .ok (.ireturn, 1) := by decide +kernel
theorem w_Pa_surprises_b51 {X : Ctx} {Y : Lay} (hY : IsX Y) (C : Cx X Y b_Pa_surprises 4 (some .int) "TopYard$Past" 2) {N : Nat} {μ : Mem} {r : Int32} (k4 : Int32 → Int32 → Int32 → Option (Int32)) (hk4 : ∀ (x1 : Int32) (x2 : Int32) (x3 : Int32), k4 x1 x2 x3 = some r → J X Y (some (.int r)) μ 4 4 [(0, .ref (yad Y 34)), (1, .int x1), (2, .int x2), (3, .int x3)] [] μ) (x1 : Int32) (x2 : Int32) (x3 : Int32) (hf : f_Pa_surprises_b51 N μ k4 x1 x2 x3 = some r) : J X Y (some (.int r)) μ 4 51 [(0, .ref (yad Y 34)), (1, .int x1), (2, .int x2), (3, .int x3)] [] μ := by
  unfold f_Pa_surprises_b51 at hf
  refine j_iinc (lvf := [(0, .ref (yad Y 34)), (1, .int x1), (2, .int x2)]) (v := 1) C d_Pa_surprises_51 3 rfl (by decide) (by decide) rfl hf (fun v1 hf => ?_)
  refine j_goto C d_Pa_surprises_54 ?_
  refine j_sub [1, 2, 3, 0] rfl ?_
  exact hk4 x1 x2 v1 hf
theorem w_Pa_surprises_l4 {X : Ctx} {Y : Lay} (hY : IsX Y) (C : Cx X Y b_Pa_surprises 4 (some .int) "TopYard$Past" 2) {N : Nat} {μ : Mem} {r : Int32} : ∀ (n : Nat) (x1 : Int32) (x2 : Int32) (x3 : Int32), f_Pa_surprises_l4 N μ n x1 x2 x3 = some r → J X Y (some (.int r)) μ 4 4 [(0, .ref (yad Y 34)), (1, .int x1), (2, .int x2), (3, .int x3)] [] μ := by
  intro n
  induction n with
  | zero => intro x1 x2 x3 hf; rw [f_Pa_surprises_l4] at hf; cases hf
  | succ n ih =>
    intro x1 x2 x3 hf
    rw [f_Pa_surprises_l4] at hf
    refine j_iload_n C d_Pa_surprises_4 3 rfl ?_
    refine j_aload_n C d_Pa_surprises_5 0 rfl ?_
    refine j_gI C fl_Pa_9 (kX hY rfl) (nX hY (by decide)) rfl d_Pa_surprises_6 ?_
    refine j_icmp_ge C d_Pa_surprises_9 hf (fun hf => ?_) (fun hf => ?_)
    · refine j_iload_n C d_Pa_surprises_57 2 rfl ?_
      obtain rfl := Option.some.inj hf
      exact j_iret C d_Pa_surprises_58
    · refine j_aload_n C d_Pa_surprises_12 0 rfl ?_
      refine j_iload_n C d_Pa_surprises_13 3 rfl ?_
      refine j_iload_n C d_Pa_surprises_14 1 rfl ?_
      refine bd hf (fun v1 hc9 hf => ?_)
      refine j_cV (rest := []) C lk_Pa_28 (c_Pa_speaks hY hc9) rfl (kX hY rfl) (nX hY (by decide)) (by decide) rfl rfl (by decide) rfl (Nat.le_of_ble_eq_true rfl) d_Pa_surprises_15 ?_
      refine j_if_eq C d_Pa_surprises_18 hf (fun hf => ?_) (fun hf => ?_)
      · refine j_sub [0, 1, 2, 3] rfl ?_
        exact w_Pa_surprises_b51 hY C (f_Pa_surprises_l4 N μ n) ih x1 x2 x3 hf
      · refine j_aload_n C d_Pa_surprises_21 0 rfl ?_
        refine j_aload_n C d_Pa_surprises_22 0 rfl ?_
        refine j_gS (b := 37) C fl_Pa_22 (kX hY rfl) (nX hY (by decide)) rfl hY.2.2.2.1 rfl (sX hY rfl) d_Pa_surprises_23 ?_
        refine j_iload_n C d_Pa_surprises_26 3 rfl ?_
        refine ck hf (fun hi2 hf => ?_)
        refine j_iald C (kX hY rfl) (nX hY (by decide)) (lX hY rfl) hi2 d_Pa_surprises_27 ?_
        refine j_iload_n C d_Pa_surprises_28 3 rfl ?_
        refine j_iload_n C d_Pa_surprises_29 1 rfl ?_
        refine bd hf (fun v3 hc8 hf => ?_)
        refine j_cV (rest := []) C lk_Pa_32 (c_Pa_sided hY hc8) rfl (kX hY rfl) (nX hY (by decide)) (by decide) rfl rfl (by decide) rfl (Nat.le_of_ble_eq_true rfl) d_Pa_surprises_30 ?_
        refine j_aload_n C d_Pa_surprises_33 0 rfl ?_
        refine j_aload_n C d_Pa_surprises_34 0 rfl ?_
        refine j_gS (b := 38) C fl_Pa_25 (kX hY rfl) (nX hY (by decide)) rfl hY.2.2.2.1 rfl (sX hY rfl) d_Pa_surprises_35 ?_
        refine j_iload_n C d_Pa_surprises_38 3 rfl ?_
        refine ck hf (fun hi4 hf => ?_)
        refine j_iald C (kX hY rfl) (nX hY (by decide)) (lX hY rfl) hi4 d_Pa_surprises_39 ?_
        refine j_iload_n C d_Pa_surprises_40 3 rfl ?_
        refine j_iload_n C d_Pa_surprises_41 1 rfl ?_
        refine bd hf (fun v5 hc7 hf => ?_)
        refine j_cV (rest := [.int v3]) C lk_Pa_32 (c_Pa_sided hY hc7) rfl (kX hY rfl) (nX hY (by decide)) (by decide) rfl rfl (by decide) rfl (Nat.le_of_ble_eq_true rfl) d_Pa_surprises_42 ?_
        refine j_icmp_ge C d_Pa_surprises_45 hf (fun hf => ?_) (fun hf => ?_)
        · refine j_sub [0, 1, 2, 3] rfl ?_
          exact w_Pa_surprises_b51 hY C (f_Pa_surprises_l4 N μ n) ih x1 x2 x3 hf
        · refine j_iinc (lvf := [(0, .ref (yad Y 34)), (1, .int x1), (3, .int x3)]) (v := 1) C d_Pa_surprises_48 2 rfl (by decide) (by decide) rfl hf (fun v6 hf => ?_)
          refine j_sub [1, 2, 0, 3] rfl ?_
          exact w_Pa_surprises_b51 hY C (f_Pa_surprises_l4 N μ n) ih x1 v6 x3 hf
theorem c_Pa_surprises {l : Launch} {Y : Lay} (hY : IsX Y) {N : Nat} {μ : Mem} {x1 : Int32} {r : Int32} (hf : f_Pa_surprises N μ x1 = some r) : Ct l Y y_Pa_surprises b_Pa_surprises 4 (some .int) 2 [.ref (yad Y 34), .int x1] (some (.int r)) μ μ := by
  refine ct_of (own := "TopYard$Past") (lv := [(0, .ref (yad Y 34)), (1, .int x1)]) (by decide +kernel) rfl (Nat.le_of_ble_eq_true rfl) rfl (fun X hl C => ?_)
  subst hl
  unfold f_Pa_surprises at hf
  refine j_iconst (v := 0) C d_Pa_surprises_0 (by decide) ?_
  refine j_istore_n (lvf := [(0, .ref (yad Y 34)), (1, .int x1)]) C d_Pa_surprises_1 (by decide) rfl ?_
  refine j_iconst (v := 0) C d_Pa_surprises_2 (by decide) ?_
  refine j_istore_n (lvf := [(2, .int 0), (0, .ref (yad Y 34)), (1, .int x1)]) C d_Pa_surprises_3 (by decide) rfl ?_
  refine j_sub [2, 3, 1, 0] rfl ?_
  exact w_Pa_surprises_l4 hY C N x1 0 0 hf
theorem d_Pa_chances_0 : DC b_Pa_chances 0 (.iconst 0) 1 1 := ⟨by decide +kernel, rfl⟩
theorem d_Pa_chances_1 : DC b_Pa_chances 1 (.istore_n 2) 1 2 := ⟨by decide +kernel, rfl⟩
theorem d_Pa_chances_2 : DC b_Pa_chances 2 (.iconst 0) 1 3 := ⟨by decide +kernel, rfl⟩
theorem d_Pa_chances_3 : DC b_Pa_chances 3 (.istore_n 3) 1 4 := ⟨by decide +kernel, rfl⟩
theorem d_Pa_chances_4 : DC b_Pa_chances 4 (.iload_n 3) 1 5 := ⟨by decide +kernel, rfl⟩
theorem d_Pa_chances_5 : DC b_Pa_chances 5 (.aload_n 0) 1 6 := ⟨by decide +kernel, rfl⟩
theorem d_Pa_chances_6 : DC b_Pa_chances 6 (.getfield 9) 3 9 := ⟨by decide +kernel, rfl⟩
theorem d_Pa_chances_9 : DB b_Pa_chances 9 (.if_icmp .ge 37) 37 46 12 := ⟨by decide +kernel, by decide, rfl⟩
theorem d_Pa_chances_12 : DC b_Pa_chances 12 (.aload_n 0) 1 13 := ⟨by decide +kernel, rfl⟩
theorem d_Pa_chances_13 : DC b_Pa_chances 13 (.iload_n 3) 1 14 := ⟨by decide +kernel, rfl⟩
theorem d_Pa_chances_14 : DC b_Pa_chances 14 (.iload_n 1) 1 15 := ⟨by decide +kernel, rfl⟩
theorem d_Pa_chances_15 : DC b_Pa_chances 15 (.invokevirtual 28) 3 18 := ⟨by decide +kernel, rfl⟩
theorem d_Pa_chances_18 : DB b_Pa_chances 18 (.ifCond .eq 22) 22 40 21 := ⟨by decide +kernel, by decide, rfl⟩
theorem d_Pa_chances_21 : DC b_Pa_chances 21 (.aload_n 0) 1 22 := ⟨by decide +kernel, rfl⟩
theorem d_Pa_chances_22 : DC b_Pa_chances 22 (.aload_n 0) 1 23 := ⟨by decide +kernel, rfl⟩
theorem d_Pa_chances_23 : DC b_Pa_chances 23 (.getfield 25) 3 26 := ⟨by decide +kernel, rfl⟩
theorem d_Pa_chances_26 : DC b_Pa_chances 26 (.iload_n 3) 1 27 := ⟨by decide +kernel, rfl⟩
theorem d_Pa_chances_27 : DC b_Pa_chances 27 (.iaload) 1 28 := ⟨by decide +kernel, rfl⟩
theorem d_Pa_chances_28 : DC b_Pa_chances 28 (.iload_n 3) 1 29 := ⟨by decide +kernel, rfl⟩
theorem d_Pa_chances_29 : DC b_Pa_chances 29 (.iload_n 1) 1 30 := ⟨by decide +kernel, rfl⟩
theorem d_Pa_chances_30 : DC b_Pa_chances 30 (.invokevirtual 32) 3 33 := ⟨by decide +kernel, rfl⟩
theorem d_Pa_chances_33 : DC b_Pa_chances 33 (.iconst (-1)) 1 34 := ⟨by decide +kernel, rfl⟩
theorem d_Pa_chances_34 : DB b_Pa_chances 34 (.if_icmp .le 6) 6 40 37 := ⟨by decide +kernel, by decide, rfl⟩
theorem d_Pa_chances_37 : DC b_Pa_chances 37 (.iinc 2 1) 3 40 := ⟨by decide +kernel, rfl⟩
theorem d_Pa_chances_40 : DC b_Pa_chances 40 (.iinc 3 1) 3 43 := ⟨by decide +kernel, rfl⟩
theorem d_Pa_chances_43 : DB b_Pa_chances 43 (.goto (-39)) (-39) 4 46 := ⟨by decide +kernel, by decide, rfl⟩
theorem d_Pa_chances_46 : DC b_Pa_chances 46 (.iload_n 2) 1 47 := ⟨by decide +kernel, rfl⟩
theorem d_Pa_chances_47 : decode b_Pa_chances 47 = .ok (.ireturn, 1) := by decide +kernel
theorem w_Pa_chances_b40 {X : Ctx} {Y : Lay} (hY : IsX Y) (C : Cx X Y b_Pa_chances 4 (some .int) "TopYard$Past" 2) {N : Nat} {μ : Mem} {r : Int32} (k4 : Int32 → Int32 → Int32 → Option (Int32)) (hk4 : ∀ (x1 : Int32) (x2 : Int32) (x3 : Int32), k4 x1 x2 x3 = some r → J X Y (some (.int r)) μ 4 4 [(0, .ref (yad Y 34)), (1, .int x1), (2, .int x2), (3, .int x3)] [] μ) (x1 : Int32) (x2 : Int32) (x3 : Int32) (hf : f_Pa_chances_b40 N μ k4 x1 x2 x3 = some r) : J X Y (some (.int r)) μ 4 40 [(0, .ref (yad Y 34)), (1, .int x1), (2, .int x2), (3, .int x3)] [] μ := by
  unfold f_Pa_chances_b40 at hf
  refine j_iinc (lvf := [(0, .ref (yad Y 34)), (1, .int x1), (2, .int x2)]) (v := 1) C d_Pa_chances_40 3 rfl (by decide) (by decide) rfl hf (fun v1 hf => ?_)
  refine j_goto C d_Pa_chances_43 ?_
  refine j_sub [1, 2, 3, 0] rfl ?_
  exact hk4 x1 x2 v1 hf
theorem w_Pa_chances_l4 {X : Ctx} {Y : Lay} (hY : IsX Y) (C : Cx X Y b_Pa_chances 4 (some .int) "TopYard$Past" 2) {N : Nat} {μ : Mem} {r : Int32} : ∀ (n : Nat) (x1 : Int32) (x2 : Int32) (x3 : Int32), f_Pa_chances_l4 N μ n x1 x2 x3 = some r → J X Y (some (.int r)) μ 4 4 [(0, .ref (yad Y 34)), (1, .int x1), (2, .int x2), (3, .int x3)] [] μ := by
  intro n
  induction n with
  | zero => intro x1 x2 x3 hf; rw [f_Pa_chances_l4] at hf; cases hf
  | succ n ih =>
    intro x1 x2 x3 hf
    rw [f_Pa_chances_l4] at hf
    refine j_iload_n C d_Pa_chances_4 3 rfl ?_
    refine j_aload_n C d_Pa_chances_5 0 rfl ?_
    refine j_gI C fl_Pa_9 (kX hY rfl) (nX hY (by decide)) rfl d_Pa_chances_6 ?_
    refine j_icmp_ge C d_Pa_chances_9 hf (fun hf => ?_) (fun hf => ?_)
    · refine j_iload_n C d_Pa_chances_46 2 rfl ?_
      obtain rfl := Option.some.inj hf
      exact j_iret C d_Pa_chances_47
    · refine j_aload_n C d_Pa_chances_12 0 rfl ?_
      refine j_iload_n C d_Pa_chances_13 3 rfl ?_
      refine j_iload_n C d_Pa_chances_14 1 rfl ?_
      refine bd hf (fun v1 hc6 hf => ?_)
      refine j_cV (rest := []) C lk_Pa_28 (c_Pa_speaks hY hc6) rfl (kX hY rfl) (nX hY (by decide)) (by decide) rfl rfl (by decide) rfl (Nat.le_of_ble_eq_true rfl) d_Pa_chances_15 ?_
      refine j_if_eq C d_Pa_chances_18 hf (fun hf => ?_) (fun hf => ?_)
      · refine j_sub [0, 1, 2, 3] rfl ?_
        exact w_Pa_chances_b40 hY C (f_Pa_chances_l4 N μ n) ih x1 x2 x3 hf
      · refine j_aload_n C d_Pa_chances_21 0 rfl ?_
        refine j_aload_n C d_Pa_chances_22 0 rfl ?_
        refine j_gS (b := 38) C fl_Pa_25 (kX hY rfl) (nX hY (by decide)) rfl hY.2.2.2.1 rfl (sX hY rfl) d_Pa_chances_23 ?_
        refine j_iload_n C d_Pa_chances_26 3 rfl ?_
        refine ck hf (fun hi2 hf => ?_)
        refine j_iald C (kX hY rfl) (nX hY (by decide)) (lX hY rfl) hi2 d_Pa_chances_27 ?_
        refine j_iload_n C d_Pa_chances_28 3 rfl ?_
        refine j_iload_n C d_Pa_chances_29 1 rfl ?_
        refine bd hf (fun v3 hc5 hf => ?_)
        refine j_cV (rest := []) C lk_Pa_32 (c_Pa_sided hY hc5) rfl (kX hY rfl) (nX hY (by decide)) (by decide) rfl rfl (by decide) rfl (Nat.le_of_ble_eq_true rfl) d_Pa_chances_30 ?_
        refine j_iconst (v := (-1)) C d_Pa_chances_33 (by decide) ?_
        refine j_icmp_le C d_Pa_chances_34 hf (fun hf => ?_) (fun hf => ?_)
        · refine j_sub [0, 1, 2, 3] rfl ?_
          exact w_Pa_chances_b40 hY C (f_Pa_chances_l4 N μ n) ih x1 x2 x3 hf
        · refine j_iinc (lvf := [(0, .ref (yad Y 34)), (1, .int x1), (3, .int x3)]) (v := 1) C d_Pa_chances_37 2 rfl (by decide) (by decide) rfl hf (fun v4 hf => ?_)
          refine j_sub [1, 2, 0, 3] rfl ?_
          exact w_Pa_chances_b40 hY C (f_Pa_chances_l4 N μ n) ih x1 v4 x3 hf
theorem c_Pa_chances {l : Launch} {Y : Lay} (hY : IsX Y) {N : Nat} {μ : Mem} {x1 : Int32} {r : Int32} (hf : f_Pa_chances N μ x1 = some r) : Ct l Y y_Pa_chances b_Pa_chances 4 (some .int) 2 [.ref (yad Y 34), .int x1] (some (.int r)) μ μ := by
  refine ct_of (own := "TopYard$Past") (lv := [(0, .ref (yad Y 34)), (1, .int x1)]) (by decide +kernel) rfl (Nat.le_of_ble_eq_true rfl) rfl (fun X hl C => ?_)
  subst hl
  unfold f_Pa_chances at hf
  refine j_iconst (v := 0) C d_Pa_chances_0 (by decide) ?_
  refine j_istore_n (lvf := [(0, .ref (yad Y 34)), (1, .int x1)]) C d_Pa_chances_1 (by decide) rfl ?_
  refine j_iconst (v := 0) C d_Pa_chances_2 (by decide) ?_
  refine j_istore_n (lvf := [(2, .int 0), (0, .ref (yad Y 34)), (1, .int x1)]) C d_Pa_chances_3 (by decide) rfl ?_
  refine j_sub [2, 3, 1, 0] rfl ?_
  exact w_Pa_chances_l4 hY C N x1 0 0 hf
theorem d_Pa_doubt_0 : DC b_Pa_doubt 0 (.aload_n 0) 1 1 := ⟨by decide +kernel, rfl⟩
theorem d_Pa_doubt_1 : DC b_Pa_doubt 1 (.iload_n 1) 1 2 := ⟨by decide +kernel, rfl⟩
theorem d_Pa_doubt_2 : DC b_Pa_doubt 2 (.invokevirtual 36) 3 5 := ⟨by decide +kernel, rfl⟩
theorem d_Pa_doubt_5 : DC b_Pa_doubt 5 (.istore_n 2) 1 6 := ⟨by decide +kernel, rfl⟩
theorem d_Pa_doubt_6 : DC b_Pa_doubt 6 (.aload_n 0) 1 7 := ⟨by decide +kernel, rfl⟩
theorem d_Pa_doubt_7 : DC b_Pa_doubt 7 (.iload_n 1) 1 8 := ⟨by decide +kernel, rfl⟩
theorem d_Pa_doubt_8 : DC b_Pa_doubt 8 (.invokevirtual 40) 3 11 := ⟨by decide +kernel, rfl⟩
theorem d_Pa_doubt_11 : DC b_Pa_doubt 11 (.istore_n 3) 1 12 := ⟨by decide +kernel, rfl⟩
theorem d_Pa_doubt_12 : DC b_Pa_doubt 12 (.lconst 0) 1 13 := ⟨by decide +kernel, rfl⟩
theorem d_Pa_doubt_13 : DC b_Pa_doubt 13 (.lstore 4) 2 15 := ⟨by decide +kernel, rfl⟩
theorem d_Pa_doubt_15 : DC b_Pa_doubt 15 (.lconst 1) 1 16 := ⟨by decide +kernel, rfl⟩
theorem d_Pa_doubt_16 : DC b_Pa_doubt 16 (.lstore 6) 2 18 := ⟨by decide +kernel, rfl⟩
theorem d_Pa_doubt_18 : DC b_Pa_doubt 18 (.iconst 0) 1 19 := ⟨by decide +kernel, rfl⟩
theorem d_Pa_doubt_19 : DC b_Pa_doubt 19 (.istore 8) 2 21 := ⟨by decide +kernel, rfl⟩
theorem d_Pa_doubt_21 : DC b_Pa_doubt 21 (.iload 8) 2 23 := ⟨by decide +kernel, rfl⟩
theorem d_Pa_doubt_23 : DC b_Pa_doubt 23 (.iload_n 2) 1 24 := ⟨by decide +kernel, rfl⟩
theorem d_Pa_doubt_24 : DB b_Pa_doubt 24 (.if_icmp .gt 42) 42 66 27 := ⟨by decide +kernel, by decide, rfl⟩
theorem d_Pa_doubt_27 : DC b_Pa_doubt 27 (.lload 4) 2 29 := ⟨by decide +kernel, rfl⟩
theorem d_Pa_doubt_29 : DC b_Pa_doubt 29 (.iload 8) 2 31 := ⟨by decide +kernel, rfl⟩
theorem d_Pa_doubt_31 : DC b_Pa_doubt 31 (.iload_n 3) 1 32 := ⟨by decide +kernel, rfl⟩
theorem d_Pa_doubt_32 : DB b_Pa_doubt 32 (.if_icmp .lt 8) 8 40 35 := ⟨by decide +kernel, by decide, rfl⟩
theorem d_Pa_doubt_35 : DC b_Pa_doubt 35 (.lload 6) 2 37 := ⟨by decide +kernel, rfl⟩
theorem d_Pa_doubt_37 : DB b_Pa_doubt 37 (.goto 4) 4 41 40 := ⟨by decide +kernel, by decide, rfl⟩
theorem d_Pa_doubt_40 : DC b_Pa_doubt 40 (.lconst 0) 1 41 := ⟨by decide +kernel, rfl⟩
theorem d_Pa_doubt_41 : DC b_Pa_doubt 41 (.ladd) 1 42 := ⟨by decide +kernel, rfl⟩
theorem d_Pa_doubt_42 : DC b_Pa_doubt 42 (.lstore 4) 2 44 := ⟨by decide +kernel, rfl⟩
theorem d_Pa_doubt_44 : DC b_Pa_doubt 44 (.lload 6) 2 46 := ⟨by decide +kernel, rfl⟩
theorem d_Pa_doubt_46 : DC b_Pa_doubt 46 (.iload_n 2) 1 47 := ⟨by decide +kernel, rfl⟩
theorem d_Pa_doubt_47 : DC b_Pa_doubt 47 (.iload 8) 2 49 := ⟨by decide +kernel, rfl⟩
theorem d_Pa_doubt_49 : DC b_Pa_doubt 49 (.isub) 1 50 := ⟨by decide +kernel, rfl⟩
theorem d_Pa_doubt_50 : DC b_Pa_doubt 50 (.i2l) 1 51 := ⟨by decide +kernel, rfl⟩
theorem d_Pa_doubt_51 : DC b_Pa_doubt 51 (.lmul) 1 52 := ⟨by decide +kernel, rfl⟩
theorem d_Pa_doubt_52 : DC b_Pa_doubt 52 (.iload 8) 2 54 := ⟨by decide +kernel, rfl⟩
theorem d_Pa_doubt_54 : DC b_Pa_doubt 54 (.iconst 1) 1 55 := ⟨by decide +kernel, rfl⟩
theorem d_Pa_doubt_55 : DC b_Pa_doubt 55 (.iadd) 1 56 := ⟨by decide +kernel, rfl⟩
theorem d_Pa_doubt_56 : DC b_Pa_doubt 56 (.i2l) 1 57 := ⟨by decide +kernel, rfl⟩
theorem d_Pa_doubt_57 : DC b_Pa_doubt 57 (.ldiv) 1 58 := ⟨by decide +kernel, rfl⟩
theorem d_Pa_doubt_58 : DC b_Pa_doubt 58 (.lstore 6) 2 60 := ⟨by decide +kernel, rfl⟩
theorem d_Pa_doubt_60 : DC b_Pa_doubt 60 (.iinc 8 1) 3 63 := ⟨by decide +kernel, rfl⟩
theorem d_Pa_doubt_63 : DB b_Pa_doubt 63 (.goto (-42)) (-42) 21 66 := ⟨by decide +kernel, by decide, rfl⟩
theorem d_Pa_doubt_66 : DC b_Pa_doubt 66 (.lload 4) 2 68 := ⟨by decide +kernel, rfl⟩
theorem d_Pa_doubt_68 : DC b_Pa_doubt 68 (.ldc2_w 43) 3 71 := ⟨by decide +kernel, rfl⟩
theorem d_Pa_doubt_71 : DC b_Pa_doubt 71 (.lmul) 1 72 := ⟨by decide +kernel, rfl⟩
theorem d_Pa_doubt_72 : DC b_Pa_doubt 72 (.iload_n 2) 1 73 := ⟨by decide +kernel, rfl⟩
theorem d_Pa_doubt_73 : DC b_Pa_doubt 73 (.lshr) 1 74 := ⟨by decide +kernel, rfl⟩
theorem d_Pa_doubt_74 : DC b_Pa_doubt 74 (.l2i) 1 75 := ⟨by decide +kernel, rfl⟩
theorem d_Pa_doubt_75 : decode b_Pa_doubt 75 = .ok (.ireturn, 1) := by decide +kernel
theorem w_Pa_doubt_b41 {X : Ctx} {Y : Lay} (hY : IsX Y) (C : Cx X Y b_Pa_doubt 9 (some .int) "TopYard$Past" 3) {N : Nat} {μ : Mem} {r : Int32} (k21 : Int32 → Int32 → Int64 → Int64 → Int32 → Option (Int32)) (hk21 : ∀ (x2 : Int32) (x3 : Int32) (x4 : Int64) (x6 : Int64) (x8 : Int32), k21 x2 x3 x4 x6 x8 = some r → J X Y (some (.int r)) μ 9 21 [(2, .int x2), (3, .int x3), (4, .long x4), (6, .long x6), (8, .int x8)] [] μ) (x2 : Int32) (x3 : Int32) (x6 : Int64) (x8 : Int32) (xs0 : Int64) (xs1 : Int64) (hf : f_Pa_doubt_b41 N μ k21 x2 x3 x6 x8 xs0 xs1 = some r) : J X Y (some (.int r)) μ 9 41 [(2, .int x2), (3, .int x3), (6, .long x6), (8, .int x8)] [.long xs0, .long xs1] μ := by
  unfold f_Pa_doubt_b41 at hf
  refine j_ladd C d_Pa_doubt_41 ?_
  refine j_lstoreN (lvf := [(2, .int x2), (3, .int x3), (6, .long x6), (8, .int x8)]) C d_Pa_doubt_42 (by decide) rfl hf (fun v1 hf => ?_)
  refine j_lload C d_Pa_doubt_44 3 rfl ?_
  refine j_iload_n C d_Pa_doubt_46 1 rfl ?_
  refine j_iload C d_Pa_doubt_47 4 rfl ?_
  refine j_isub C d_Pa_doubt_49 ?_
  refine j_i2l C d_Pa_doubt_50 ?_
  refine j_lmul C d_Pa_doubt_51 ?_
  refine j_iload C d_Pa_doubt_52 4 rfl ?_
  refine j_iconst (v := 1) C d_Pa_doubt_54 (by decide) ?_
  refine j_iadd C d_Pa_doubt_55 ?_
  refine j_i2l C d_Pa_doubt_56 ?_
  refine ckn hf (fun hz4 hf => ?_)
  refine j_ldiv C d_Pa_doubt_57 hz4 ?_
  refine j_lstoreN (lvf := [(4, .long v1), (2, .int x2), (3, .int x3), (8, .int x8)]) C d_Pa_doubt_58 (by decide) rfl hf (fun v2 hf => ?_)
  refine j_iinc (lvf := [(6, .long v2), (4, .long v1), (2, .int x2), (3, .int x3)]) (v := 1) C d_Pa_doubt_60 4 rfl (by decide) (by decide) rfl hf (fun v3 hf => ?_)
  refine j_goto C d_Pa_doubt_63 ?_
  refine j_sub [3, 4, 2, 1, 0] rfl ?_
  exact hk21 x2 x3 v1 v2 v3 hf
theorem w_Pa_doubt_l21 {X : Ctx} {Y : Lay} (hY : IsX Y) (C : Cx X Y b_Pa_doubt 9 (some .int) "TopYard$Past" 3) {N : Nat} {μ : Mem} {r : Int32} : ∀ (n : Nat) (x2 : Int32) (x3 : Int32) (x4 : Int64) (x6 : Int64) (x8 : Int32), f_Pa_doubt_l21 N μ n x2 x3 x4 x6 x8 = some r → J X Y (some (.int r)) μ 9 21 [(2, .int x2), (3, .int x3), (4, .long x4), (6, .long x6), (8, .int x8)] [] μ := by
  intro n
  induction n with
  | zero => intro x2 x3 x4 x6 x8 hf; rw [f_Pa_doubt_l21] at hf; cases hf
  | succ n ih =>
    intro x2 x3 x4 x6 x8 hf
    rw [f_Pa_doubt_l21] at hf
    refine j_iload C d_Pa_doubt_21 4 rfl ?_
    refine j_iload_n C d_Pa_doubt_23 0 rfl ?_
    refine j_icmp_gt C d_Pa_doubt_24 hf (fun hf => ?_) (fun hf => ?_)
    · refine j_lload C d_Pa_doubt_66 2 rfl ?_
      refine j_ldc2 (v := 1000000) C d_Pa_doubt_68 wd_111 ?_
      refine j_lmul C d_Pa_doubt_71 ?_
      refine j_iload_n C d_Pa_doubt_72 0 rfl ?_
      refine j_lshr C d_Pa_doubt_73 ?_
      refine j_l2i C d_Pa_doubt_74 ?_
      obtain rfl := Option.some.inj hf
      exact j_iret C d_Pa_doubt_75
    · refine j_lload C d_Pa_doubt_27 2 rfl ?_
      refine j_iload C d_Pa_doubt_29 4 rfl ?_
      refine j_iload_n C d_Pa_doubt_31 1 rfl ?_
      refine j_icmp_lt C d_Pa_doubt_32 hf (fun hf => ?_) (fun hf => ?_)
      · refine j_lconst (v := 0) C d_Pa_doubt_40 (by decide) ?_
        refine j_sub [0, 1, 3, 4] rfl ?_
        exact w_Pa_doubt_b41 hY C (f_Pa_doubt_l21 N μ n) ih x2 x3 x6 x8 0 x4 hf
      · refine j_lload C d_Pa_doubt_35 3 rfl ?_
        refine j_goto C d_Pa_doubt_37 ?_
        refine j_sub [0, 1, 3, 4] rfl ?_
        exact w_Pa_doubt_b41 hY C (f_Pa_doubt_l21 N μ n) ih x2 x3 x6 x8 x6 x4 hf
theorem c_Pa_doubt {l : Launch} {Y : Lay} (hY : IsX Y) {N : Nat} {μ : Mem} {x1 : Int32} {r : Int32} (hf : f_Pa_doubt N μ x1 = some r) : Ct l Y y_Pa_doubt b_Pa_doubt 9 (some .int) 3 [.ref (yad Y 34), .int x1] (some (.int r)) μ μ := by
  refine ct_of (own := "TopYard$Past") (lv := [(0, .ref (yad Y 34)), (1, .int x1)]) (by decide +kernel) rfl (Nat.le_of_ble_eq_true rfl) rfl (fun X hl C => ?_)
  subst hl
  unfold f_Pa_doubt at hf
  refine j_aload_n C d_Pa_doubt_0 0 rfl ?_
  refine j_iload_n C d_Pa_doubt_1 1 rfl ?_
  refine bd hf (fun v1 hc4 hf => ?_)
  refine j_cV (rest := []) C lk_Pa_36 (c_Pa_chances hY hc4) rfl (kX hY rfl) (nX hY (by decide)) (by decide) rfl rfl (by decide) rfl (Nat.le_of_ble_eq_true rfl) d_Pa_doubt_2 ?_
  refine j_istore_n (lvf := [(0, .ref (yad Y 34)), (1, .int x1)]) C d_Pa_doubt_5 (by decide) rfl ?_
  refine j_aload_n C d_Pa_doubt_6 1 rfl ?_
  refine j_iload_n C d_Pa_doubt_7 2 rfl ?_
  refine bd hf (fun v2 hc3 hf => ?_)
  refine j_cV (rest := []) C lk_Pa_40 (c_Pa_surprises hY hc3) rfl (kX hY rfl) (nX hY (by decide)) (by decide) rfl rfl (by decide) rfl (Nat.le_of_ble_eq_true rfl) d_Pa_doubt_8 ?_
  refine j_istore_n (lvf := [(2, .int v1), (0, .ref (yad Y 34)), (1, .int x1)]) C d_Pa_doubt_11 (by decide) rfl ?_
  refine j_lconst (v := 0) C d_Pa_doubt_12 (by decide) ?_
  refine j_lstore (lvf := [(3, .int v2), (2, .int v1), (0, .ref (yad Y 34)), (1, .int x1)]) C d_Pa_doubt_13 (by decide) rfl ?_
  refine j_lconst (v := 1) C d_Pa_doubt_15 (by decide) ?_
  refine j_lstore (lvf := [(4, .long 0), (3, .int v2), (2, .int v1), (0, .ref (yad Y 34)), (1, .int x1)]) C d_Pa_doubt_16 (by decide) rfl ?_
  refine j_iconst (v := 0) C d_Pa_doubt_18 (by decide) ?_
  refine j_istore (lvf := [(6, .long 1), (4, .long 0), (3, .int v2), (2, .int v1), (0, .ref (yad Y 34)), (1, .int x1)]) C d_Pa_doubt_19 (by decide) rfl ?_
  refine j_sub [4, 3, 2, 1, 0] rfl ?_
  exact w_Pa_doubt_l21 hY C N v1 v2 0 1 0 hf
theorem d_X_worn_0 : DC b_X_worn 0 (.aload_n 0) 1 1 := ⟨by decide +kernel, rfl⟩
theorem d_X_worn_1 : DC b_X_worn 1 (.iload_n 1) 1 2 := ⟨by decide +kernel, rfl⟩
theorem d_X_worn_2 : DC b_X_worn 2 (.invokevirtual 110) 3 5 := ⟨by decide +kernel, rfl⟩
theorem d_X_worn_5 : DB b_X_worn 5 (.ifnull 12) 12 17 8 := ⟨by decide +kernel, by decide, rfl⟩
theorem d_X_worn_8 : DC b_X_worn 8 (.iload_n 2) 1 9 := ⟨by decide +kernel, rfl⟩
theorem d_X_worn_9 : DC b_X_worn 9 (.iconst 0) 1 10 := ⟨by decide +kernel, rfl⟩
theorem d_X_worn_10 : DC b_X_worn 10 (.iconst 2) 1 11 := ⟨by decide +kernel, rfl⟩
theorem d_X_worn_11 : DC b_X_worn 11 (.invokestatic 90) 3 14 := ⟨by decide +kernel, rfl⟩
theorem d_X_worn_14 : DB b_X_worn 14 (.ifCond .ne 6) 6 20 17 := ⟨by decide +kernel, by decide, rfl⟩
theorem d_X_worn_17 : DC b_X_worn 17 (.bipush (-2)) 2 19 := ⟨by decide +kernel, rfl⟩
theorem d_X_worn_19 : decode b_X_worn 19 = .ok (.ireturn, 1) := by decide +kernel
theorem d_X_worn_20 : DC b_X_worn 20 (.aload_n 0) 1 21 := ⟨by decide +kernel, rfl⟩
theorem d_X_worn_21 : DC b_X_worn 21 (.iload_n 1) 1 22 := ⟨by decide +kernel, rfl⟩
theorem d_X_worn_22 : DC b_X_worn 22 (.invokevirtual 284) 3 25 := ⟨by decide +kernel, rfl⟩
theorem d_X_worn_25 : DC b_X_worn 25 (.iload_n 2) 1 26 := ⟨by decide +kernel, rfl⟩
theorem d_X_worn_26 : decode b_X_worn 26 = .ok (.lookupswitch 44 #[(0, 26), (1, 35)], 26) := by decide +kernel
theorem d_X_worn_52 : DC b_X_worn 52 (.aload_n 0) 1 53 := ⟨by decide +kernel, rfl⟩
theorem d_X_worn_53 : DC b_X_worn 53 (.getfield 50) 3 56 := ⟨by decide +kernel, rfl⟩
theorem d_X_worn_56 : DC b_X_worn 56 (.iload_n 1) 1 57 := ⟨by decide +kernel, rfl⟩
theorem d_X_worn_57 : DC b_X_worn 57 (.invokevirtual 288) 3 60 := ⟨by decide +kernel, rfl⟩
theorem d_X_worn_60 : decode b_X_worn 60 = .ok (.ireturn, 1) := by decide +kernel
theorem d_X_worn_61 : DC b_X_worn 61 (.aload_n 0) 1 62 := ⟨by decide +kernel, rfl⟩
theorem d_X_worn_62 : DC b_X_worn 62 (.getfield 50) 3 65 := ⟨by decide +kernel, rfl⟩
theorem d_X_worn_65 : DC b_X_worn 65 (.iload_n 1) 1 66 := ⟨by decide +kernel, rfl⟩
theorem d_X_worn_66 : DC b_X_worn 66 (.invokevirtual 291) 3 69 := ⟨by decide +kernel, rfl⟩
theorem d_X_worn_69 : decode b_X_worn 69 = .ok (.ireturn, 1) := by decide +kernel
theorem d_X_worn_70 : DC b_X_worn 70 (.aload_n 0) 1 71 := ⟨by decide +kernel, rfl⟩
theorem d_X_worn_71 : DC b_X_worn 71 (.getfield 50) 3 74 := ⟨by decide +kernel, rfl⟩
theorem d_X_worn_74 : DC b_X_worn 74 (.iload_n 1) 1 75 := ⟨by decide +kernel, rfl⟩
theorem d_X_worn_75 : DC b_X_worn 75 (.invokevirtual 294) 3 78 := ⟨by decide +kernel, rfl⟩
theorem d_X_worn_78 : decode b_X_worn 78 = .ok (.ireturn, 1) := by decide +kernel
theorem c_X_worn {l : Launch} {Y : Lay} (hY : IsX Y) {N : Nat} {μ : Mem} {x1 : Int32} {x2 : Int32} {r : Int32 × Mem} (hf : f_X_worn N μ x1 x2 = some r) : Ct l Y y_X_worn b_X_worn 3 (some .int) 8 [.ref (yad Y 0), .int x1, .int x2] (some (.int r.1)) μ r.2 := by
  refine ct_of (own := "TopYard") (lv := [(0, .ref (yad Y 0)), (1, .int x1), (2, .int x2)]) (by decide +kernel) rfl (Nat.le_of_ble_eq_true rfl) rfl (fun X hl C => ?_)
  subst hl
  unfold f_X_worn at hf
  refine j_aload_n C d_X_worn_0 0 rfl ?_
  refine j_iload_n C d_X_worn_1 1 rfl ?_
  refine bd hf (fun u1 hc15 hf => ?_)
  refine j_wt (fun hT hSt => ?_)
  have hu1 := rt_X_topAt hY hT hc15
  refine j_cV (rest := []) C lk_X_110 (c_X_topAt hY hc15) rfl (kX hY rfl) (nX hY (by decide)) (by decide) rfl rfl (by decide) rfl (Nat.le_of_ble_eq_true rfl) d_X_worn_2 ?_
  cases u1 with
  | none =>
    refine j_nul_t C d_X_worn_5 ?_
    refine j_bipush (v := (-2)) C d_X_worn_17 (by decide) ?_
    obtain rfl := Option.some.inj hf
    exact j_iret C d_X_worn_19
  | some e2 =>
    refine j_nul_f C d_X_worn_5 ?_
    refine j_iload_n C d_X_worn_8 2 rfl ?_
    refine j_iconst (v := 0) C d_X_worn_9 (by decide) ?_
    refine j_iconst (v := 2) C d_X_worn_10 (by decide) ?_
    refine bd hf (fun v3 hc14 hf => ?_)
    refine j_cS (rest := []) C lk_X_90 (c_X_within hY hc14) rfl (by decide) rfl (Nat.le_of_ble_eq_true rfl) d_X_worn_11 ?_
    refine j_if_ne C d_X_worn_14 hf (fun hf => ?_) (fun hf => ?_)
    · refine j_aload_n C d_X_worn_20 0 rfl ?_
      refine j_iload_n C d_X_worn_21 1 rfl ?_
      refine bd hf (fun μ4 hc13 hf => ?_)
      refine j_cV (rest := []) C lk_X_284 (c_X_foretellRows hY hc13) rfl (kX hY rfl) (nX hY (by decide)) (by decide) rfl rfl (by decide) rfl (Nat.le_of_ble_eq_true rfl) d_X_worn_22 ?_
      refine j_iload_n C d_X_worn_25 2 rfl ?_
      refine j_key hf (fun hx7 hf => ?_) (fun hx7 hf => ?_)
      · refine j_look (tgt' := 52) (off := 26) C d_X_worn_26 (by decide) (by rw [hx7]; decide) (by decide) ?_
        refine j_aload_n C d_X_worn_52 0 rfl ?_
        refine j_gS (b := 34) C fl_X_50 (kX hY rfl) (nX hY (by decide)) rfl hY.2.2.2.1 rfl (sX hY rfl) d_X_worn_53 ?_
        refine j_iload_n C d_X_worn_56 1 rfl ?_
        refine bd hf (fun v5 hc6 hf => ?_)
        refine j_cV (rest := []) C lk_X_288 (c_Pa_surprises hY hc6) rfl (kX hY rfl) (nX hY (by decide)) (by decide) rfl rfl (by decide) rfl (Nat.le_of_ble_eq_true rfl) d_X_worn_57 ?_
        obtain rfl := Option.some.inj hf
        exact j_iret C d_X_worn_60
      · refine j_key hf (fun hx10 hf => ?_) (fun hx10 hf => ?_)
        · refine j_look (tgt' := 61) (off := 35) C d_X_worn_26 (by decide) (by rw [hx10]; decide) (by decide) ?_
          refine j_aload_n C d_X_worn_61 0 rfl ?_
          refine j_gS (b := 34) C fl_X_50 (kX hY rfl) (nX hY (by decide)) rfl hY.2.2.2.1 rfl (sX hY rfl) d_X_worn_62 ?_
          refine j_iload_n C d_X_worn_65 1 rfl ?_
          refine bd hf (fun v8 hc9 hf => ?_)
          refine j_cV (rest := []) C lk_X_291 (c_Pa_chances hY hc9) rfl (kX hY rfl) (nX hY (by decide)) (by decide) rfl rfl (by decide) rfl (Nat.le_of_ble_eq_true rfl) d_X_worn_66 ?_
          obtain rfl := Option.some.inj hf
          exact j_iret C d_X_worn_69
        · refine j_look (tgt' := 70) (off := 44) C d_X_worn_26 (by decide) (by have qhx7 := sw_ne (z := 0) hx7 (by decide); have qhx10 := sw_ne (z := 1) hx10 (by decide); exact look_dflt _ (by simp; omega)) (by decide) ?_
          refine j_aload_n C d_X_worn_70 0 rfl ?_
          refine j_gS (b := 34) C fl_X_50 (kX hY rfl) (nX hY (by decide)) rfl hY.2.2.2.1 rfl (sX hY rfl) d_X_worn_71 ?_
          refine j_iload_n C d_X_worn_74 1 rfl ?_
          refine bd hf (fun v11 hc12 hf => ?_)
          refine j_cV (rest := []) C lk_X_294 (c_Pa_doubt hY hc12) rfl (kX hY rfl) (nX hY (by decide)) (by decide) rfl rfl (by decide) rfl (Nat.le_of_ble_eq_true rfl) d_X_worn_75 ?_
          obtain rfl := Option.some.inj hf
          exact j_iret C d_X_worn_78
    · refine j_bipush (v := (-2)) C d_X_worn_17 (by decide) ?_
      obtain rfl := Option.some.inj hf
      exact j_iret C d_X_worn_19
theorem d_X_most_0 : DC b_X_most 0 (.aload_n 0) 1 1 := ⟨by decide +kernel, rfl⟩
theorem d_X_most_1 : DC b_X_most 1 (.iconst (-1)) 1 2 := ⟨by decide +kernel, rfl⟩
theorem d_X_most_2 : DC b_X_most 2 (.invokevirtual 284) 3 5 := ⟨by decide +kernel, rfl⟩
theorem d_X_most_5 : DC b_X_most 5 (.iconst (-1)) 1 6 := ⟨by decide +kernel, rfl⟩
theorem d_X_most_6 : DC b_X_most 6 (.istore_n 1) 1 7 := ⟨by decide +kernel, rfl⟩
theorem d_X_most_7 : DC b_X_most 7 (.ldc_w 297) 3 10 := ⟨by decide +kernel, rfl⟩
theorem d_X_most_10 : DC b_X_most 10 (.istore_n 2) 1 11 := ⟨by decide +kernel, rfl⟩
theorem d_X_most_11 : DC b_X_most 11 (.iconst 0) 1 12 := ⟨by decide +kernel, rfl⟩
theorem d_X_most_12 : DC b_X_most 12 (.istore_n 3) 1 13 := ⟨by decide +kernel, rfl⟩
theorem d_X_most_13 : DC b_X_most 13 (.iload_n 3) 1 14 := ⟨by decide +kernel, rfl⟩
theorem d_X_most_14 : DC b_X_most 14 (.aload_n 0) 1 15 := ⟨by decide +kernel, rfl⟩
theorem d_X_most_15 : DC b_X_most 15 (.getfield 15) 3 18 := ⟨by decide +kernel, rfl⟩
theorem d_X_most_18 : DB b_X_most 18 (.if_icmp .ge 43) 43 61 21 := ⟨by decide +kernel, by decide, rfl⟩
theorem d_X_most_21 : DC b_X_most 21 (.aload_n 0) 1 22 := ⟨by decide +kernel, rfl⟩
theorem d_X_most_22 : DC b_X_most 22 (.getfield 50) 3 25 := ⟨by decide +kernel, rfl⟩
theorem d_X_most_25 : DC b_X_most 25 (.iload_n 3) 1 26 := ⟨by decide +kernel, rfl⟩
theorem d_X_most_26 : DC b_X_most 26 (.invokevirtual 291) 3 29 := ⟨by decide +kernel, rfl⟩
theorem d_X_most_29 : DB b_X_most 29 (.ifCond .le 26) 26 55 32 := ⟨by decide +kernel, by decide, rfl⟩
theorem d_X_most_32 : DC b_X_most 32 (.aload_n 0) 1 33 := ⟨by decide +kernel, rfl⟩
theorem d_X_most_33 : DC b_X_most 33 (.getfield 50) 3 36 := ⟨by decide +kernel, rfl⟩
theorem d_X_most_36 : DC b_X_most 36 (.iload_n 3) 1 37 := ⟨by decide +kernel, rfl⟩
theorem d_X_most_37 : DC b_X_most 37 (.invokevirtual 294) 3 40 := ⟨by decide +kernel, rfl⟩
theorem d_X_most_40 : DC b_X_most 40 (.iload_n 2) 1 41 := ⟨by decide +kernel, rfl⟩
theorem d_X_most_41 : DB b_X_most 41 (.if_icmp .ge 14) 14 55 44 := ⟨by decide +kernel, by decide, rfl⟩
theorem d_X_most_44 : DC b_X_most 44 (.aload_n 0) 1 45 := ⟨by decide +kernel, rfl⟩
theorem d_X_most_45 : DC b_X_most 45 (.getfield 50) 3 48 := ⟨by decide +kernel, rfl⟩
theorem d_X_most_48 : DC b_X_most 48 (.iload_n 3) 1 49 := ⟨by decide +kernel, rfl⟩
theorem d_X_most_49 : DC b_X_most 49 (.invokevirtual 294) 3 52 := ⟨by decide +kernel, rfl⟩
theorem d_X_most_52 : DC b_X_most 52 (.istore_n 2) 1 53 := ⟨by decide +kernel, rfl⟩
theorem d_X_most_53 : DC b_X_most 53 (.iload_n 3) 1 54 := ⟨by decide +kernel, rfl⟩
theorem d_X_most_54 : DC b_X_most 54 (.istore_n 1) 1 55 := ⟨by decide +kernel, rfl⟩
theorem d_X_most_55 : DC b_X_most 55 (.iinc 3 1) 3 58 := ⟨by decide +kernel, rfl⟩
theorem d_X_most_58 : DB b_X_most 58 (.goto (-45)) (-45) 13 61 := ⟨by decide +kernel, by decide, rfl⟩
theorem d_X_most_61 : DC b_X_most 61 (.iload_n 1) 1 62 := ⟨by decide +kernel, rfl⟩
theorem d_X_most_62 : decode b_X_most 62 = .ok (.ireturn, 1) := by decide +kernel
theorem w_X_most_b55 {X : Ctx} {Y : Lay} (hY : IsX Y) (C : Cx X Y b_X_most 4 (some .int) "TopYard" 8) {N : Nat} {r : Int32 × Mem} (k13 : Int32 → Int32 → Int32 → Mem → Option (Int32 × Mem)) (hk13 : ∀ (x1 : Int32) (x2 : Int32) (x3 : Int32) (ν : Mem), k13 x1 x2 x3 ν = some r → J X Y (some (.int r.1)) r.2 4 13 [(0, .ref (yad Y 0)), (1, .int x1), (2, .int x2), (3, .int x3)] [] ν) (x1 : Int32) (x2 : Int32) (x3 : Int32) (μ : Mem) (hf : f_X_most_b55 N k13 x1 x2 x3 μ = some r) : J X Y (some (.int r.1)) r.2 4 55 [(0, .ref (yad Y 0)), (1, .int x1), (2, .int x2), (3, .int x3)] [] μ := by
  unfold f_X_most_b55 at hf
  refine j_iinc (lvf := [(0, .ref (yad Y 0)), (1, .int x1), (2, .int x2)]) (v := 1) C d_X_most_55 3 rfl (by decide) (by decide) rfl hf (fun v1 hf => ?_)
  refine j_goto C d_X_most_58 ?_
  refine j_sub [1, 2, 3, 0] rfl ?_
  exact hk13 x1 x2 v1 μ hf
theorem w_X_most_l13 {X : Ctx} {Y : Lay} (hY : IsX Y) (C : Cx X Y b_X_most 4 (some .int) "TopYard" 8) {N : Nat} {r : Int32 × Mem} : ∀ (n : Nat) (x1 : Int32) (x2 : Int32) (x3 : Int32) (μ : Mem), f_X_most_l13 N n x1 x2 x3 μ = some r → J X Y (some (.int r.1)) r.2 4 13 [(0, .ref (yad Y 0)), (1, .int x1), (2, .int x2), (3, .int x3)] [] μ := by
  intro n
  induction n with
  | zero => intro x1 x2 x3 μ hf; rw [f_X_most_l13] at hf; cases hf
  | succ n ih =>
    intro x1 x2 x3 μ hf
    rw [f_X_most_l13] at hf
    refine j_iload_n C d_X_most_13 3 rfl ?_
    refine j_aload_n C d_X_most_14 0 rfl ?_
    refine j_gI C fl_X_15 (kX hY rfl) (nX hY (by decide)) rfl d_X_most_15 ?_
    refine j_icmp_ge C d_X_most_18 hf (fun hf => ?_) (fun hf => ?_)
    · refine j_iload_n C d_X_most_61 1 rfl ?_
      obtain rfl := Option.some.inj hf
      exact j_iret C d_X_most_62
    · refine j_aload_n C d_X_most_21 0 rfl ?_
      refine j_gS (b := 34) C fl_X_50 (kX hY rfl) (nX hY (by decide)) rfl hY.2.2.2.1 rfl (sX hY rfl) d_X_most_22 ?_
      refine j_iload_n C d_X_most_25 3 rfl ?_
      refine bd hf (fun v1 hc6 hf => ?_)
      refine j_cV (rest := []) C lk_X_291 (c_Pa_chances hY hc6) rfl (kX hY rfl) (nX hY (by decide)) (by decide) rfl rfl (by decide) rfl (Nat.le_of_ble_eq_true rfl) d_X_most_26 ?_
      refine j_if_le C d_X_most_29 hf (fun hf => ?_) (fun hf => ?_)
      · refine j_sub [0, 1, 2, 3] rfl ?_
        exact w_X_most_b55 hY C (f_X_most_l13 N n) ih x1 x2 x3 μ hf
      · refine j_aload_n C d_X_most_32 0 rfl ?_
        refine j_gS (b := 34) C fl_X_50 (kX hY rfl) (nX hY (by decide)) rfl hY.2.2.2.1 rfl (sX hY rfl) d_X_most_33 ?_
        refine j_iload_n C d_X_most_36 3 rfl ?_
        refine bd hf (fun v2 hc5 hf => ?_)
        refine j_cV (rest := []) C lk_X_294 (c_Pa_doubt hY hc5) rfl (kX hY rfl) (nX hY (by decide)) (by decide) rfl rfl (by decide) rfl (Nat.le_of_ble_eq_true rfl) d_X_most_37 ?_
        refine j_iload_n C d_X_most_40 2 rfl ?_
        refine j_icmp_ge C d_X_most_41 hf (fun hf => ?_) (fun hf => ?_)
        · refine j_sub [0, 1, 2, 3] rfl ?_
          exact w_X_most_b55 hY C (f_X_most_l13 N n) ih x1 x2 x3 μ hf
        · refine j_aload_n C d_X_most_44 0 rfl ?_
          refine j_gS (b := 34) C fl_X_50 (kX hY rfl) (nX hY (by decide)) rfl hY.2.2.2.1 rfl (sX hY rfl) d_X_most_45 ?_
          refine j_iload_n C d_X_most_48 3 rfl ?_
          refine bd hf (fun v3 hc4 hf => ?_)
          refine j_cV (rest := []) C lk_X_294 (c_Pa_doubt hY hc4) rfl (kX hY rfl) (nX hY (by decide)) (by decide) rfl rfl (by decide) rfl (Nat.le_of_ble_eq_true rfl) d_X_most_49 ?_
          refine j_istore_n (lvf := [(0, .ref (yad Y 0)), (1, .int x1), (3, .int x3)]) C d_X_most_52 (by decide) rfl ?_
          refine j_iload_n C d_X_most_53 3 rfl ?_
          refine j_istore_n (lvf := [(2, .int v3), (0, .ref (yad Y 0)), (3, .int x3)]) C d_X_most_54 (by decide) rfl ?_
          refine j_sub [2, 0, 1, 3] rfl ?_
          exact w_X_most_b55 hY C (f_X_most_l13 N n) ih x3 v3 x3 μ hf
theorem c_X_most {l : Launch} {Y : Lay} (hY : IsX Y) {N : Nat} {μ : Mem} {r : Int32 × Mem} (hf : f_X_most N μ = some r) : Ct l Y y_X_most b_X_most 4 (some .int) 8 [.ref (yad Y 0)] (some (.int r.1)) μ r.2 := by
  refine ct_of (own := "TopYard") (lv := [(0, .ref (yad Y 0))]) (by decide +kernel) rfl (Nat.le_of_ble_eq_true rfl) rfl (fun X hl C => ?_)
  subst hl
  unfold f_X_most at hf
  refine j_aload_n C d_X_most_0 0 rfl ?_
  refine j_iconst (v := (-1)) C d_X_most_1 (by decide) ?_
  refine bd hf (fun μ1 hc2 hf => ?_)
  refine j_cV (rest := []) C lk_X_284 (c_X_foretellRows hY hc2) rfl (kX hY rfl) (nX hY (by decide)) (by decide) rfl rfl (by decide) rfl (Nat.le_of_ble_eq_true rfl) d_X_most_2 ?_
  refine j_iconst (v := (-1)) C d_X_most_5 (by decide) ?_
  refine j_istore_n (lvf := [(0, .ref (yad Y 0))]) C d_X_most_6 (by decide) rfl ?_
  refine j_ldcw (v := 1000001) C d_X_most_7 wd_112 ?_
  refine j_istore_n (lvf := [(1, .int (-1)), (0, .ref (yad Y 0))]) C d_X_most_10 (by decide) rfl ?_
  refine j_iconst (v := 0) C d_X_most_11 (by decide) ?_
  refine j_istore_n (lvf := [(2, .int 1000001), (1, .int (-1)), (0, .ref (yad Y 0))]) C d_X_most_12 (by decide) rfl ?_
  refine j_sub [3, 2, 1, 0] rfl ?_
  exact w_X_most_l13 hY C N (-1) 1000001 0 μ1 hf
theorem d_Pa_rowsAsTold_0 : DC b_Pa_rowsAsTold 0 (.iconst 0) 1 1 := ⟨by decide +kernel, rfl⟩
theorem d_Pa_rowsAsTold_1 : DC b_Pa_rowsAsTold 1 (.istore_n 2) 1 2 := ⟨by decide +kernel, rfl⟩
theorem d_Pa_rowsAsTold_2 : DC b_Pa_rowsAsTold 2 (.iconst 0) 1 3 := ⟨by decide +kernel, rfl⟩
theorem d_Pa_rowsAsTold_3 : DC b_Pa_rowsAsTold 3 (.istore_n 3) 1 4 := ⟨by decide +kernel, rfl⟩
theorem d_Pa_rowsAsTold_4 : DC b_Pa_rowsAsTold 4 (.iload_n 3) 1 5 := ⟨by decide +kernel, rfl⟩
theorem d_Pa_rowsAsTold_5 : DC b_Pa_rowsAsTold 5 (.aload_n 0) 1 6 := ⟨by decide +kernel, rfl⟩
theorem d_Pa_rowsAsTold_6 : DC b_Pa_rowsAsTold 6 (.getfield 9) 3 9 := ⟨by decide +kernel, rfl⟩
theorem d_Pa_rowsAsTold_9 : DB b_Pa_rowsAsTold 9 (.if_icmp .ge 36) 36 45 12 := ⟨by decide +kernel, by decide, rfl⟩
theorem d_Pa_rowsAsTold_12 : DC b_Pa_rowsAsTold 12 (.aload_n 0) 1 13 := ⟨by decide +kernel, rfl⟩
theorem d_Pa_rowsAsTold_13 : DC b_Pa_rowsAsTold 13 (.iload_n 3) 1 14 := ⟨by decide +kernel, rfl⟩
theorem d_Pa_rowsAsTold_14 : DC b_Pa_rowsAsTold 14 (.iload_n 1) 1 15 := ⟨by decide +kernel, rfl⟩
theorem d_Pa_rowsAsTold_15 : DC b_Pa_rowsAsTold 15 (.invokevirtual 28) 3 18 := ⟨by decide +kernel, rfl⟩
theorem d_Pa_rowsAsTold_18 : DB b_Pa_rowsAsTold 18 (.ifCond .eq 21) 21 39 21 := ⟨by decide +kernel, by decide, rfl⟩
theorem d_Pa_rowsAsTold_21 : DC b_Pa_rowsAsTold 21 (.aload_n 0) 1 22 := ⟨by decide +kernel, rfl⟩
theorem d_Pa_rowsAsTold_22 : DC b_Pa_rowsAsTold 22 (.getfield 22) 3 25 := ⟨by decide +kernel, rfl⟩
theorem d_Pa_rowsAsTold_25 : DC b_Pa_rowsAsTold 25 (.iload_n 3) 1 26 := ⟨by decide +kernel, rfl⟩
theorem d_Pa_rowsAsTold_26 : DC b_Pa_rowsAsTold 26 (.iaload) 1 27 := ⟨by decide +kernel, rfl⟩
theorem d_Pa_rowsAsTold_27 : DC b_Pa_rowsAsTold 27 (.aload_n 0) 1 28 := ⟨by decide +kernel, rfl⟩
theorem d_Pa_rowsAsTold_28 : DC b_Pa_rowsAsTold 28 (.getfield 25) 3 31 := ⟨by decide +kernel, rfl⟩
theorem d_Pa_rowsAsTold_31 : DC b_Pa_rowsAsTold 31 (.iload_n 3) 1 32 := ⟨by decide +kernel, rfl⟩
theorem d_Pa_rowsAsTold_32 : DC b_Pa_rowsAsTold 32 (.iaload) 1 33 := ⟨by decide +kernel, rfl⟩
theorem d_Pa_rowsAsTold_33 : DB b_Pa_rowsAsTold 33 (.if_icmp .ne 6) 6 39 36 := ⟨by decide +kernel, by decide, rfl⟩
theorem d_Pa_rowsAsTold_36 : DC b_Pa_rowsAsTold 36 (.iinc 2 1) 3 39 := ⟨by decide +kernel, rfl⟩
theorem d_Pa_rowsAsTold_39 : DC b_Pa_rowsAsTold 39 (.iinc 3 1) 3 42 := ⟨by decide +kernel, rfl⟩
theorem d_Pa_rowsAsTold_42 : DB b_Pa_rowsAsTold 42 (.goto (-38)) (-38) 4 45 := ⟨by decide +kernel, by decide, rfl⟩
theorem d_Pa_rowsAsTold_45 : DC b_Pa_rowsAsTold 45 (.iload_n 2) 1 46 := ⟨by decide +kernel, rfl⟩
theorem d_Pa_rowsAsTold_46 : decode b_Pa_rowsAsTold 46 = .ok (.ireturn, 1) := by decide +kernel
theorem w_Pa_rowsAsTold_b39 {X : Ctx} {Y : Lay} (hY : IsX Y) (C : Cx X Y b_Pa_rowsAsTold 4 (some .int) "TopYard$Past" 2) {N : Nat} {μ : Mem} {r : Int32} (k4 : Int32 → Int32 → Int32 → Option (Int32)) (hk4 : ∀ (x1 : Int32) (x2 : Int32) (x3 : Int32), k4 x1 x2 x3 = some r → J X Y (some (.int r)) μ 4 4 [(0, .ref (yad Y 34)), (1, .int x1), (2, .int x2), (3, .int x3)] [] μ) (x1 : Int32) (x2 : Int32) (x3 : Int32) (hf : f_Pa_rowsAsTold_b39 N μ k4 x1 x2 x3 = some r) : J X Y (some (.int r)) μ 4 39 [(0, .ref (yad Y 34)), (1, .int x1), (2, .int x2), (3, .int x3)] [] μ := by
  unfold f_Pa_rowsAsTold_b39 at hf
  refine j_iinc (lvf := [(0, .ref (yad Y 34)), (1, .int x1), (2, .int x2)]) (v := 1) C d_Pa_rowsAsTold_39 3 rfl (by decide) (by decide) rfl hf (fun v1 hf => ?_)
  refine j_goto C d_Pa_rowsAsTold_42 ?_
  refine j_sub [1, 2, 3, 0] rfl ?_
  exact hk4 x1 x2 v1 hf
theorem w_Pa_rowsAsTold_l4 {X : Ctx} {Y : Lay} (hY : IsX Y) (C : Cx X Y b_Pa_rowsAsTold 4 (some .int) "TopYard$Past" 2) {N : Nat} {μ : Mem} {r : Int32} : ∀ (n : Nat) (x1 : Int32) (x2 : Int32) (x3 : Int32), f_Pa_rowsAsTold_l4 N μ n x1 x2 x3 = some r → J X Y (some (.int r)) μ 4 4 [(0, .ref (yad Y 34)), (1, .int x1), (2, .int x2), (3, .int x3)] [] μ := by
  intro n
  induction n with
  | zero => intro x1 x2 x3 hf; rw [f_Pa_rowsAsTold_l4] at hf; cases hf
  | succ n ih =>
    intro x1 x2 x3 hf
    rw [f_Pa_rowsAsTold_l4] at hf
    refine j_iload_n C d_Pa_rowsAsTold_4 3 rfl ?_
    refine j_aload_n C d_Pa_rowsAsTold_5 0 rfl ?_
    refine j_gI C fl_Pa_9 (kX hY rfl) (nX hY (by decide)) rfl d_Pa_rowsAsTold_6 ?_
    refine j_icmp_ge C d_Pa_rowsAsTold_9 hf (fun hf => ?_) (fun hf => ?_)
    · refine j_iload_n C d_Pa_rowsAsTold_45 2 rfl ?_
      obtain rfl := Option.some.inj hf
      exact j_iret C d_Pa_rowsAsTold_46
    · refine j_aload_n C d_Pa_rowsAsTold_12 0 rfl ?_
      refine j_iload_n C d_Pa_rowsAsTold_13 3 rfl ?_
      refine j_iload_n C d_Pa_rowsAsTold_14 1 rfl ?_
      refine bd hf (fun v1 hc5 hf => ?_)
      refine j_cV (rest := []) C lk_Pa_28 (c_Pa_speaks hY hc5) rfl (kX hY rfl) (nX hY (by decide)) (by decide) rfl rfl (by decide) rfl (Nat.le_of_ble_eq_true rfl) d_Pa_rowsAsTold_15 ?_
      refine j_if_eq C d_Pa_rowsAsTold_18 hf (fun hf => ?_) (fun hf => ?_)
      · refine j_sub [0, 1, 2, 3] rfl ?_
        exact w_Pa_rowsAsTold_b39 hY C (f_Pa_rowsAsTold_l4 N μ n) ih x1 x2 x3 hf
      · refine j_aload_n C d_Pa_rowsAsTold_21 0 rfl ?_
        refine j_gS (b := 37) C fl_Pa_22 (kX hY rfl) (nX hY (by decide)) rfl hY.2.2.2.1 rfl (sX hY rfl) d_Pa_rowsAsTold_22 ?_
        refine j_iload_n C d_Pa_rowsAsTold_25 3 rfl ?_
        refine ck hf (fun hi2 hf => ?_)
        refine j_iald C (kX hY rfl) (nX hY (by decide)) (lX hY rfl) hi2 d_Pa_rowsAsTold_26 ?_
        refine j_aload_n C d_Pa_rowsAsTold_27 0 rfl ?_
        refine j_gS (b := 38) C fl_Pa_25 (kX hY rfl) (nX hY (by decide)) rfl hY.2.2.2.1 rfl (sX hY rfl) d_Pa_rowsAsTold_28 ?_
        refine j_iload_n C d_Pa_rowsAsTold_31 3 rfl ?_
        refine ck hf (fun hi3 hf => ?_)
        refine j_iald C (kX hY rfl) (nX hY (by decide)) (lX hY rfl) hi3 d_Pa_rowsAsTold_32 ?_
        refine j_icmp_ne C d_Pa_rowsAsTold_33 hf (fun hf => ?_) (fun hf => ?_)
        · refine j_sub [0, 1, 2, 3] rfl ?_
          exact w_Pa_rowsAsTold_b39 hY C (f_Pa_rowsAsTold_l4 N μ n) ih x1 x2 x3 hf
        · refine j_iinc (lvf := [(0, .ref (yad Y 34)), (1, .int x1), (3, .int x3)]) (v := 1) C d_Pa_rowsAsTold_36 2 rfl (by decide) (by decide) rfl hf (fun v4 hf => ?_)
          refine j_sub [1, 2, 0, 3] rfl ?_
          exact w_Pa_rowsAsTold_b39 hY C (f_Pa_rowsAsTold_l4 N μ n) ih x1 v4 x3 hf
theorem c_Pa_rowsAsTold {l : Launch} {Y : Lay} (hY : IsX Y) {N : Nat} {μ : Mem} {x1 : Int32} {r : Int32} (hf : f_Pa_rowsAsTold N μ x1 = some r) : Ct l Y y_Pa_rowsAsTold b_Pa_rowsAsTold 4 (some .int) 2 [.ref (yad Y 34), .int x1] (some (.int r)) μ μ := by
  refine ct_of (own := "TopYard$Past") (lv := [(0, .ref (yad Y 34)), (1, .int x1)]) (by decide +kernel) rfl (Nat.le_of_ble_eq_true rfl) rfl (fun X hl C => ?_)
  subst hl
  unfold f_Pa_rowsAsTold at hf
  refine j_iconst (v := 0) C d_Pa_rowsAsTold_0 (by decide) ?_
  refine j_istore_n (lvf := [(0, .ref (yad Y 34)), (1, .int x1)]) C d_Pa_rowsAsTold_1 (by decide) rfl ?_
  refine j_iconst (v := 0) C d_Pa_rowsAsTold_2 (by decide) ?_
  refine j_istore_n (lvf := [(2, .int 0), (0, .ref (yad Y 34)), (1, .int x1)]) C d_Pa_rowsAsTold_3 (by decide) rfl ?_
  refine j_sub [2, 3, 1, 0] rfl ?_
  exact w_Pa_rowsAsTold_l4 hY C N x1 0 0 hf
theorem d_X_explained_0 : DC b_X_explained 0 (.aload_n 0) 1 1 := ⟨by decide +kernel, rfl⟩
theorem d_X_explained_1 : DC b_X_explained 1 (.iload_n 1) 1 2 := ⟨by decide +kernel, rfl⟩
theorem d_X_explained_2 : DC b_X_explained 2 (.invokevirtual 110) 3 5 := ⟨by decide +kernel, rfl⟩
theorem d_X_explained_5 : DC b_X_explained 5 (.astore_n 3) 1 6 := ⟨by decide +kernel, rfl⟩
theorem d_X_explained_6 : DC b_X_explained 6 (.aload_n 3) 1 7 := ⟨by decide +kernel, rfl⟩
theorem d_X_explained_7 : DB b_X_explained 7 (.ifnull 12) 12 19 10 := ⟨by decide +kernel, by decide, rfl⟩
theorem d_X_explained_10 : DC b_X_explained 10 (.iload_n 2) 1 11 := ⟨by decide +kernel, rfl⟩
theorem d_X_explained_11 : DC b_X_explained 11 (.iconst 0) 1 12 := ⟨by decide +kernel, rfl⟩
theorem d_X_explained_12 : DC b_X_explained 12 (.iconst 1) 1 13 := ⟨by decide +kernel, rfl⟩
theorem d_X_explained_13 : DC b_X_explained 13 (.invokestatic 90) 3 16 := ⟨by decide +kernel, rfl⟩
theorem d_X_explained_16 : DB b_X_explained 16 (.ifCond .ne 6) 6 22 19 := ⟨by decide +kernel, by decide, rfl⟩
theorem d_X_explained_19 : DC b_X_explained 19 (.bipush (-2)) 2 21 := ⟨by decide +kernel, rfl⟩
theorem d_X_explained_21 : decode b_X_explained 21 = .ok (.ireturn, 1) := by decide +kernel
theorem d_X_explained_22 : DC b_X_explained 22 (.aload_n 3) 1 23 := ⟨by decide +kernel, rfl⟩
theorem d_X_explained_23 : DC b_X_explained 23 (.getfield 129) 3 26 := ⟨by decide +kernel, rfl⟩
theorem d_X_explained_26 : DC b_X_explained 26 (.istore 4) 2 28 := ⟨by decide +kernel, rfl⟩
theorem d_X_explained_28 : DC b_X_explained 28 (.iconst 0) 1 29 := ⟨by decide +kernel, rfl⟩
theorem d_X_explained_29 : DC b_X_explained 29 (.istore 5) 2 31 := ⟨by decide +kernel, rfl⟩
theorem d_X_explained_31 : DC b_X_explained 31 (.iconst (-1)) 1 32 := ⟨by decide +kernel, rfl⟩
theorem d_X_explained_32 : DC b_X_explained 32 (.istore 6) 2 34 := ⟨by decide +kernel, rfl⟩
theorem d_X_explained_34 : DC b_X_explained 34 (.iconst 0) 1 35 := ⟨by decide +kernel, rfl⟩
theorem d_X_explained_35 : DC b_X_explained 35 (.istore 7) 2 37 := ⟨by decide +kernel, rfl⟩
theorem d_X_explained_37 : DC b_X_explained 37 (.iload 7) 2 39 := ⟨by decide +kernel, rfl⟩
theorem d_X_explained_39 : DC b_X_explained 39 (.bipush 9) 2 41 := ⟨by decide +kernel, rfl⟩
theorem d_X_explained_41 : DB b_X_explained 41 (.if_icmp .gt 45) 45 86 44 := ⟨by decide +kernel, by decide, rfl⟩
theorem d_X_explained_44 : DC b_X_explained 44 (.aload_n 3) 1 45 := ⟨by decide +kernel, rfl⟩
theorem d_X_explained_45 : DC b_X_explained 45 (.iload 7) 2 47 := ⟨by decide +kernel, rfl⟩
theorem d_X_explained_47 : DC b_X_explained 47 (.putfield 129) 3 50 := ⟨by decide +kernel, rfl⟩
theorem d_X_explained_50 : DC b_X_explained 50 (.aload_n 0) 1 51 := ⟨by decide +kernel, rfl⟩
theorem d_X_explained_51 : DC b_X_explained 51 (.iload_n 1) 1 52 := ⟨by decide +kernel, rfl⟩
theorem d_X_explained_52 : DC b_X_explained 52 (.invokevirtual 284) 3 55 := ⟨by decide +kernel, rfl⟩
theorem d_X_explained_55 : DC b_X_explained 55 (.aload_n 0) 1 56 := ⟨by decide +kernel, rfl⟩
theorem d_X_explained_56 : DC b_X_explained 56 (.getfield 50) 3 59 := ⟨by decide +kernel, rfl⟩
theorem d_X_explained_59 : DC b_X_explained 59 (.iload_n 1) 1 60 := ⟨by decide +kernel, rfl⟩
theorem d_X_explained_60 : DC b_X_explained 60 (.invokevirtual 298) 3 63 := ⟨by decide +kernel, rfl⟩
theorem d_X_explained_63 : DC b_X_explained 63 (.istore 8) 2 65 := ⟨by decide +kernel, rfl⟩
theorem d_X_explained_65 : DC b_X_explained 65 (.iload 8) 2 67 := ⟨by decide +kernel, rfl⟩
theorem d_X_explained_67 : DC b_X_explained 67 (.iload 6) 2 69 := ⟨by decide +kernel, rfl⟩
theorem d_X_explained_69 : DB b_X_explained 69 (.if_icmp .le 11) 11 80 72 := ⟨by decide +kernel, by decide, rfl⟩
theorem d_X_explained_72 : DC b_X_explained 72 (.iload 8) 2 74 := ⟨by decide +kernel, rfl⟩
theorem d_X_explained_74 : DC b_X_explained 74 (.istore 6) 2 76 := ⟨by decide +kernel, rfl⟩
theorem d_X_explained_76 : DC b_X_explained 76 (.iload 7) 2 78 := ⟨by decide +kernel, rfl⟩
theorem d_X_explained_78 : DC b_X_explained 78 (.istore 5) 2 80 := ⟨by decide +kernel, rfl⟩
theorem d_X_explained_80 : DC b_X_explained 80 (.iinc 7 1) 3 83 := ⟨by decide +kernel, rfl⟩
theorem d_X_explained_83 : DB b_X_explained 83 (.goto (-46)) (-46) 37 86 := ⟨by decide +kernel, by decide, rfl⟩
theorem d_X_explained_86 : DC b_X_explained 86 (.aload_n 3) 1 87 := ⟨by decide +kernel, rfl⟩
theorem d_X_explained_87 : DC b_X_explained 87 (.iload 4) 2 89 := ⟨by decide +kernel, rfl⟩
theorem d_X_explained_89 : DC b_X_explained 89 (.putfield 129) 3 92 := ⟨by decide +kernel, rfl⟩
theorem d_X_explained_92 : DC b_X_explained 92 (.iload_n 2) 1 93 := ⟨by decide +kernel, rfl⟩
theorem d_X_explained_93 : DB b_X_explained 93 (.ifCond .ne 8) 8 101 96 := ⟨by decide +kernel, by decide, rfl⟩
theorem d_X_explained_96 : DC b_X_explained 96 (.iload 5) 2 98 := ⟨by decide +kernel, rfl⟩
theorem d_X_explained_98 : DB b_X_explained 98 (.goto 5) 5 103 101 := ⟨by decide +kernel, by decide, rfl⟩
theorem d_X_explained_101 : DC b_X_explained 101 (.iload 6) 2 103 := ⟨by decide +kernel, rfl⟩
theorem d_X_explained_103 : decode b_X_explained 103 = .ok (.ireturn, 1) := by decide +kernel
theorem w_X_explained_b80 {X : Ctx} {Y : Lay} (hY : IsX Y) (C : Cx X Y b_X_explained 9 (some .int) "TopYard" 8) {N : Nat} {r : Int32 × Mem} (k37 : Int32 → Int32 → Nat → Int32 → Int32 → Int32 → Int32 → Mem → Option (Int32 × Mem)) (hk37 : ∀ (x1 : Int32) (x2 : Int32) (a3 : Nat) (x4 : Int32) (x5 : Int32) (x6 : Int32) (x7 : Int32) (ν : Mem) (g3 : ykd Y a3 = 8 ∧ a3 < yn Y), k37 x1 x2 a3 x4 x5 x6 x7 ν = some r → J X Y (some (.int r.1)) r.2 9 37 [(0, .ref (yad Y 0)), (1, .int x1), (2, .int x2), (3, .ref (yad Y a3)), (4, .int x4), (5, .int x5), (6, .int x6), (7, .int x7)] [] ν) (x1 : Int32) (x2 : Int32) (a3 : Nat) (x4 : Int32) (x5 : Int32) (x6 : Int32) (x7 : Int32) (μ : Mem) (g3 : ykd Y a3 = 8 ∧ a3 < yn Y) (hf : f_X_explained_b80 N k37 x1 x2 a3 x4 x5 x6 x7 μ = some r) : J X Y (some (.int r.1)) r.2 9 80 [(0, .ref (yad Y 0)), (1, .int x1), (2, .int x2), (3, .ref (yad Y a3)), (4, .int x4), (5, .int x5), (6, .int x6), (7, .int x7)] [] μ := by
  unfold f_X_explained_b80 at hf
  refine j_iinc (lvf := [(0, .ref (yad Y 0)), (1, .int x1), (2, .int x2), (3, .ref (yad Y a3)), (4, .int x4), (5, .int x5), (6, .int x6)]) (v := 1) C d_X_explained_80 7 rfl (by decide) (by decide) rfl hf (fun v1 hf => ?_)
  refine j_goto C d_X_explained_83 ?_
  refine j_sub [1, 2, 3, 4, 5, 6, 7, 0] rfl ?_
  exact hk37 x1 x2 a3 x4 x5 x6 v1 μ ⟨g3.1, g3.2⟩ hf
theorem w_X_explained_l37 {X : Ctx} {Y : Lay} (hY : IsX Y) (C : Cx X Y b_X_explained 9 (some .int) "TopYard" 8) {N : Nat} {r : Int32 × Mem} : ∀ (n : Nat) (x1 : Int32) (x2 : Int32) (a3 : Nat) (x4 : Int32) (x5 : Int32) (x6 : Int32) (x7 : Int32) (μ : Mem) (g3 : ykd Y a3 = 8 ∧ a3 < yn Y), f_X_explained_l37 N n x1 x2 a3 x4 x5 x6 x7 μ = some r → J X Y (some (.int r.1)) r.2 9 37 [(0, .ref (yad Y 0)), (1, .int x1), (2, .int x2), (3, .ref (yad Y a3)), (4, .int x4), (5, .int x5), (6, .int x6), (7, .int x7)] [] μ := by
  intro n
  induction n with
  | zero => intro x1 x2 a3 x4 x5 x6 x7 μ g3 hf; rw [f_X_explained_l37] at hf; cases hf
  | succ n ih =>
    intro x1 x2 a3 x4 x5 x6 x7 μ g3 hf
    rw [f_X_explained_l37] at hf
    refine j_iload C d_X_explained_37 7 rfl ?_
    refine j_bipush (v := 9) C d_X_explained_39 (by decide) ?_
    refine j_icmp_gt C d_X_explained_41 hf (fun hf => ?_) (fun hf => ?_)
    · refine j_aload_n C d_X_explained_86 3 rfl ?_
      refine j_iload C d_X_explained_87 4 rfl ?_
      refine j_pI C fl_X_129 g3.1 g3.2 rfl rfl rfl d_X_explained_89 hf (fun μ1 hf => ?_)
      refine j_iload_n C d_X_explained_92 2 rfl ?_
      refine j_if_ne C d_X_explained_93 hf (fun hf => ?_) (fun hf => ?_)
      · refine j_iload C d_X_explained_101 6 rfl ?_
        obtain rfl := Option.some.inj hf
        exact j_iret C d_X_explained_103
      · refine j_iload C d_X_explained_96 5 rfl ?_
        refine j_goto C d_X_explained_98 ?_
        obtain rfl := Option.some.inj hf
        exact j_iret C d_X_explained_103
    · refine j_aload_n C d_X_explained_44 3 rfl ?_
      refine j_iload C d_X_explained_45 7 rfl ?_
      refine j_pI C fl_X_129 g3.1 g3.2 rfl rfl rfl d_X_explained_47 hf (fun μ2 hf => ?_)
      refine j_aload_n C d_X_explained_50 0 rfl ?_
      refine j_iload_n C d_X_explained_51 1 rfl ?_
      refine bd hf (fun μ3 hc6 hf => ?_)
      refine j_cV (rest := []) C lk_X_284 (c_X_foretellRows hY hc6) rfl (kX hY rfl) (nX hY (by decide)) (by decide) rfl rfl (by decide) rfl (Nat.le_of_ble_eq_true rfl) d_X_explained_52 ?_
      refine j_aload_n C d_X_explained_55 0 rfl ?_
      refine j_gS (b := 34) C fl_X_50 (kX hY rfl) (nX hY (by decide)) rfl hY.2.2.2.1 rfl (sX hY rfl) d_X_explained_56 ?_
      refine j_iload_n C d_X_explained_59 1 rfl ?_
      refine bd hf (fun v4 hc5 hf => ?_)
      refine j_cV (rest := []) C lk_X_298 (c_Pa_rowsAsTold hY hc5) rfl (kX hY rfl) (nX hY (by decide)) (by decide) rfl rfl (by decide) rfl (Nat.le_of_ble_eq_true rfl) d_X_explained_60 ?_
      refine j_istore (lvf := [(0, .ref (yad Y 0)), (1, .int x1), (2, .int x2), (3, .ref (yad Y a3)), (4, .int x4), (5, .int x5), (6, .int x6), (7, .int x7)]) C d_X_explained_63 (by decide) rfl ?_
      refine j_iload C d_X_explained_65 0 rfl ?_
      refine j_iload C d_X_explained_67 7 rfl ?_
      refine j_icmp_le C d_X_explained_69 hf (fun hf => ?_) (fun hf => ?_)
      · refine j_sub [1, 2, 3, 4, 5, 6, 7, 8] rfl ?_
        exact w_X_explained_b80 hY C (f_X_explained_l37 N n) ih x1 x2 a3 x4 x5 x6 x7 μ3 ⟨g3.1, g3.2⟩ hf
      · refine j_iload C d_X_explained_72 0 rfl ?_
        refine j_istore (lvf := [(8, .int v4), (0, .ref (yad Y 0)), (1, .int x1), (2, .int x2), (3, .ref (yad Y a3)), (4, .int x4), (5, .int x5), (7, .int x7)]) C d_X_explained_74 (by decide) rfl ?_
        refine j_iload C d_X_explained_76 8 rfl ?_
        refine j_istore (lvf := [(6, .int v4), (8, .int v4), (0, .ref (yad Y 0)), (1, .int x1), (2, .int x2), (3, .ref (yad Y a3)), (4, .int x4), (7, .int x7)]) C d_X_explained_78 (by decide) rfl ?_
        refine j_sub [3, 4, 5, 6, 7, 0, 1, 8] rfl ?_
        exact w_X_explained_b80 hY C (f_X_explained_l37 N n) ih x1 x2 a3 x4 x7 v4 x7 μ3 ⟨g3.1, g3.2⟩ hf
theorem c_X_explained {l : Launch} {Y : Lay} (hY : IsX Y) {N : Nat} {μ : Mem} {x1 : Int32} {x2 : Int32} {r : Int32 × Mem} (hf : f_X_explained N μ x1 x2 = some r) : Ct l Y y_X_explained b_X_explained 9 (some .int) 8 [.ref (yad Y 0), .int x1, .int x2] (some (.int r.1)) μ r.2 := by
  refine ct_of (own := "TopYard") (lv := [(0, .ref (yad Y 0)), (1, .int x1), (2, .int x2)]) (by decide +kernel) rfl (Nat.le_of_ble_eq_true rfl) rfl (fun X hl C => ?_)
  subst hl
  unfold f_X_explained at hf
  refine j_aload_n C d_X_explained_0 0 rfl ?_
  refine j_iload_n C d_X_explained_1 1 rfl ?_
  refine bd hf (fun u1 hc6 hf => ?_)
  refine j_wt (fun hT hSt => ?_)
  have hu1 := rt_X_topAt hY hT hc6
  refine j_cV (rest := []) C lk_X_110 (c_X_topAt hY hc6) rfl (kX hY rfl) (nX hY (by decide)) (by decide) rfl rfl (by decide) rfl (Nat.le_of_ble_eq_true rfl) d_X_explained_2 ?_
  refine j_astoreo_n (lvf := [(0, .ref (yad Y 0)), (1, .int x1), (2, .int x2)]) C d_X_explained_5 (by decide) rfl ?_
  refine j_aloado_n C d_X_explained_6 0 rfl ?_
  cases u1 with
  | none =>
    refine j_nul_t C d_X_explained_7 ?_
    refine j_bipush (v := (-2)) C d_X_explained_19 (by decide) ?_
    obtain rfl := Option.some.inj hf
    exact j_iret C d_X_explained_21
  | some e2 =>
    refine j_nul_f C d_X_explained_7 ?_
    refine j_iload_n C d_X_explained_10 3 rfl ?_
    refine j_iconst (v := 0) C d_X_explained_11 (by decide) ?_
    refine j_iconst (v := 1) C d_X_explained_12 (by decide) ?_
    refine bd hf (fun v3 hc5 hf => ?_)
    refine j_cS (rest := []) C lk_X_90 (c_X_within hY hc5) rfl (by decide) rfl (Nat.le_of_ble_eq_true rfl) d_X_explained_13 ?_
    refine j_if_ne C d_X_explained_16 hf (fun hf => ?_) (fun hf => ?_)
    · refine j_aload_n C d_X_explained_22 0 rfl ?_
      refine j_gI C fl_X_129 (hu1 e2 rfl).2 (hu1 e2 rfl).1 rfl d_X_explained_23 ?_
      refine j_istoreN (lvf := [(3, .ref (yad Y e2)), (0, .ref (yad Y 0)), (1, .int x1), (2, .int x2)]) C d_X_explained_26 (by decide) rfl hf (fun v4 hf => ?_)
      refine j_iconst (v := 0) C d_X_explained_28 (by decide) ?_
      refine j_istore (lvf := [(4, .int v4), (3, .ref (yad Y e2)), (0, .ref (yad Y 0)), (1, .int x1), (2, .int x2)]) C d_X_explained_29 (by decide) rfl ?_
      refine j_iconst (v := (-1)) C d_X_explained_31 (by decide) ?_
      refine j_istore (lvf := [(5, .int 0), (4, .int v4), (3, .ref (yad Y e2)), (0, .ref (yad Y 0)), (1, .int x1), (2, .int x2)]) C d_X_explained_32 (by decide) rfl ?_
      refine j_iconst (v := 0) C d_X_explained_34 (by decide) ?_
      refine j_istore (lvf := [(6, .int (-1)), (5, .int 0), (4, .int v4), (3, .ref (yad Y e2)), (0, .ref (yad Y 0)), (1, .int x1), (2, .int x2)]) C d_X_explained_35 (by decide) rfl ?_
      refine j_sub [5, 6, 7, 4, 3, 2, 1, 0] rfl ?_
      exact w_X_explained_l37 hY C N x1 x2 e2 v4 0 (-1) 0 μ ⟨(hu1 e2 rfl).2, (hu1 e2 rfl).1⟩ hf
    · refine j_bipush (v := (-2)) C d_X_explained_19 (by decide) ?_
      obtain rfl := Option.some.inj hf
      exact j_iret C d_X_explained_21

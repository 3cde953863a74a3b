theorem d_X_within_0 : DC b_X_within 0 (.iload_n 0) 1 1 := ⟨by decide +kernel, rfl⟩
theorem d_X_within_1 : DC b_X_within 1 (.iload_n 1) 1 2 := ⟨by decide +kernel, rfl⟩
theorem d_X_within_2 : DB b_X_within 2 (.if_icmp .lt 12) 12 14 5 := ⟨by decide +kernel, by decide, rfl⟩
theorem d_X_within_5 : DC b_X_within 5 (.iload_n 0) 1 6 := ⟨by decide +kernel, rfl⟩
theorem d_X_within_6 : DC b_X_within 6 (.iload_n 2) 1 7 := ⟨by decide +kernel, rfl⟩
theorem d_X_within_7 : DB b_X_within 7 (.if_icmp .gt 7) 7 14 10 := ⟨by decide +kernel, by decide, rfl⟩
theorem d_X_within_10 : DC b_X_within 10 (.iconst 1) 1 11 := ⟨by decide +kernel, rfl⟩
theorem d_X_within_11 : DB b_X_within 11 (.goto 4) 4 15 14 := ⟨by decide +kernel, by decide, rfl⟩
theorem d_X_within_14 : DC b_X_within 14 (.iconst 0) 1 15 := ⟨by decide +kernel, rfl⟩
theorem d_X_within_15 : decode b_X_within 15 = .ok (.ireturn, 1) := by decide +kernel
theorem c_X_within {l : Launch} {Y : Lay} (hY : IsX Y) {μ : Mem} {x0 : Int32} {x1 : Int32} {x2 : Int32} {r : Int32} (hf : f_X_within x0 x1 x2 = some r) : Ct l Y y_X_within b_X_within 3 (some .boolean) 1 [.int x0, .int x1, .int x2] (some (.int r)) μ μ := by
  refine ct_of (own := "TopYard") (lv := [(0, .int x0), (1, .int x1), (2, .int x2)]) (by decide +kernel) rfl (Nat.le_of_ble_eq_true rfl) rfl (fun X hl C => ?_)
  subst hl
  unfold f_X_within at hf
  refine j_iload_n C d_X_within_0 0 rfl ?_
  refine j_iload_n C d_X_within_1 1 rfl ?_
  refine j_icmp_lt C d_X_within_2 hf (fun hf => ?_) (fun hf => ?_)
  · refine j_iconst (v := 0) C d_X_within_14 (by decide) ?_
    obtain rfl := Option.some.inj hf
    exact j_zret C (Or.inl rfl) d_X_within_15
  · refine j_iload_n C d_X_within_5 0 rfl ?_
    refine j_iload_n C d_X_within_6 2 rfl ?_
    refine j_icmp_gt C d_X_within_7 hf (fun hf => ?_) (fun hf => ?_)
    · refine j_iconst (v := 0) C d_X_within_14 (by decide) ?_
      obtain rfl := Option.some.inj hf
      exact j_zret C (Or.inl rfl) d_X_within_15
    · refine j_iconst (v := 1) C d_X_within_10 (by decide) ?_
      refine j_goto C d_X_within_11 ?_
      obtain rfl := Option.some.inj hf
      exact j_zret C (Or.inr rfl) d_X_within_15
theorem d_Hd_alongX_0 : DC b_Hd_alongX 0 (.iload_n 0) 1 1 := ⟨by decide +kernel, rfl⟩
theorem d_Hd_alongX_1 : DC b_Hd_alongX 1 (.bipush 18) 2 3 := ⟨by decide +kernel, rfl⟩
theorem d_Hd_alongX_3 : DB b_Hd_alongX 3 (.if_icmp .le 10) 10 13 6 := ⟨by decide +kernel, by decide, rfl⟩
theorem d_Hd_alongX_6 : DC b_Hd_alongX 6 (.bipush 36) 2 8 := ⟨by decide +kernel, rfl⟩
theorem d_Hd_alongX_8 : DC b_Hd_alongX 8 (.iload_n 0) 1 9 := ⟨by decide +kernel, rfl⟩
theorem d_Hd_alongX_9 : DC b_Hd_alongX 9 (.isub) 1 10 := ⟨by decide +kernel, rfl⟩
theorem d_Hd_alongX_10 : DB b_Hd_alongX 10 (.goto 4) 4 14 13 := ⟨by decide +kernel, by decide, rfl⟩
theorem d_Hd_alongX_13 : DC b_Hd_alongX 13 (.iload_n 0) 1 14 := ⟨by decide +kernel, rfl⟩
theorem d_Hd_alongX_14 : DC b_Hd_alongX 14 (.istore_n 1) 1 15 := ⟨by decide +kernel, rfl⟩
theorem d_Hd_alongX_15 : DC b_Hd_alongX 15 (.iload_n 1) 1 16 := ⟨by decide +kernel, rfl⟩
theorem d_Hd_alongX_16 : DB b_Hd_alongX 16 (.ifCond .lt 9) 9 25 19 := ⟨by decide +kernel, by decide, rfl⟩
theorem d_Hd_alongX_19 : DC b_Hd_alongX 19 (.iload_n 1) 1 20 := ⟨by decide +kernel, rfl⟩
theorem d_Hd_alongX_20 : DC b_Hd_alongX 20 (.bipush 18) 2 22 := ⟨by decide +kernel, rfl⟩
theorem d_Hd_alongX_22 : DB b_Hd_alongX 22 (.if_icmp .le 5) 5 27 25 := ⟨by decide +kernel, by decide, rfl⟩
theorem d_Hd_alongX_25 : DC b_Hd_alongX 25 (.iconst 0) 1 26 := ⟨by decide +kernel, rfl⟩
theorem d_Hd_alongX_26 : decode b_Hd_alongX 26 = .ok (.ireturn, 1) := by decide +kernel
theorem d_Hd_alongX_27 : DC b_Hd_alongX 27 (.iload_n 1) 1 28 := ⟨by decide +kernel, rfl⟩
theorem d_Hd_alongX_28 : DC b_Hd_alongX 28 (.bipush 9) 2 30 := ⟨by decide +kernel, rfl⟩
theorem d_Hd_alongX_30 : DB b_Hd_alongX 30 (.if_icmp .le 15) 15 45 33 := ⟨by decide +kernel, by decide, rfl⟩
theorem d_Hd_alongX_33 : DC b_Hd_alongX 33 (.getstatic 9) 3 36 := ⟨by decide +kernel, rfl⟩
theorem d_Hd_alongX_36 : DC b_Hd_alongX 36 (.bipush 18) 2 38 := ⟨by decide +kernel, rfl⟩
theorem d_Hd_alongX_38 : DC b_Hd_alongX 38 (.iload_n 1) 1 39 := ⟨by decide +kernel, rfl⟩
theorem d_Hd_alongX_39 : DC b_Hd_alongX 39 (.isub) 1 40 := ⟨by decide +kernel, rfl⟩
theorem d_Hd_alongX_40 : DC b_Hd_alongX 40 (.iaload) 1 41 := ⟨by decide +kernel, rfl⟩
theorem d_Hd_alongX_41 : DC b_Hd_alongX 41 (.ineg) 1 42 := ⟨by decide +kernel, rfl⟩
theorem d_Hd_alongX_42 : DB b_Hd_alongX 42 (.goto 8) 8 50 45 := ⟨by decide +kernel, by decide, rfl⟩
theorem d_Hd_alongX_45 : DC b_Hd_alongX 45 (.getstatic 9) 3 48 := ⟨by decide +kernel, rfl⟩
theorem d_Hd_alongX_48 : DC b_Hd_alongX 48 (.iload_n 1) 1 49 := ⟨by decide +kernel, rfl⟩
theorem d_Hd_alongX_49 : DC b_Hd_alongX 49 (.iaload) 1 50 := ⟨by decide +kernel, rfl⟩
theorem d_Hd_alongX_50 : decode b_Hd_alongX 50 = .ok (.ireturn, 1) := by decide +kernel
theorem w_Hd_alongX_b14 {X : Ctx} {Y : Lay} (hY : IsX Y) (C : Cx X Y b_Hd_alongX 2 (some .int) "TopYard$Headings" 1) {μ : Mem} {r : Int32} (xs0 : Int32) (hf : f_Hd_alongX_b14 μ xs0 = some r) : J X Y (some (.int r)) μ 2 14 [] [.int xs0] μ := by
  unfold f_Hd_alongX_b14 at hf
  refine j_istore_n (lvf := []) C d_Hd_alongX_14 (by decide) rfl ?_
  refine j_iload_n C d_Hd_alongX_15 0 rfl ?_
  refine j_if_lt C d_Hd_alongX_16 hf (fun hf => ?_) (fun hf => ?_)
  · refine j_iconst (v := 0) C d_Hd_alongX_25 (by decide) ?_
    obtain rfl := Option.some.inj hf
    exact j_iret C d_Hd_alongX_26
  · refine j_iload_n C d_Hd_alongX_19 0 rfl ?_
    refine j_bipush (v := 18) C d_Hd_alongX_20 (by decide) ?_
    refine j_icmp_le C d_Hd_alongX_22 hf (fun hf => ?_) (fun hf => ?_)
    · refine j_iload_n C d_Hd_alongX_27 0 rfl ?_
      refine j_bipush (v := 9) C d_Hd_alongX_28 (by decide) ?_
      refine j_icmp_le C d_Hd_alongX_30 hf (fun hf => ?_) (fun hf => ?_)
      · refine j_gets (i := 0) C rfl wd_0 d_Hd_alongX_45 ?_
        refine j_iload_n C d_Hd_alongX_48 0 rfl ?_
        refine ck hf (fun hi1 hf => ?_)
        refine j_tI (t := 0) C rfl rfl hi1 d_Hd_alongX_49 ?_
        obtain rfl := Option.some.inj hf
        exact j_iret C d_Hd_alongX_50
      · refine j_gets (i := 0) C rfl wd_0 d_Hd_alongX_33 ?_
        refine j_bipush (v := 18) C d_Hd_alongX_36 (by decide) ?_
        refine j_iload_n C d_Hd_alongX_38 0 rfl ?_
        refine j_isub C d_Hd_alongX_39 ?_
        refine ck hf (fun hi2 hf => ?_)
        refine j_tI (t := 0) C rfl rfl hi2 d_Hd_alongX_40 ?_
        refine j_ineg C d_Hd_alongX_41 ?_
        refine j_goto C d_Hd_alongX_42 ?_
        obtain rfl := Option.some.inj hf
        exact j_iret C d_Hd_alongX_50
    · refine j_iconst (v := 0) C d_Hd_alongX_25 (by decide) ?_
      obtain rfl := Option.some.inj hf
      exact j_iret C d_Hd_alongX_26
theorem c_Hd_alongX {l : Launch} {Y : Lay} (hY : IsX Y) {μ : Mem} {x0 : Int32} {r : Int32} (hf : f_Hd_alongX μ x0 = some r) : Ct l Y y_Hd_alongX b_Hd_alongX 2 (some .int) 1 [.int x0] (some (.int r)) μ μ := by
  refine ct_of (own := "TopYard$Headings") (lv := [(0, .int x0)]) (by decide +kernel) rfl (Nat.le_of_ble_eq_true rfl) rfl (fun X hl C => ?_)
  subst hl
  unfold f_Hd_alongX at hf
  refine j_iload_n C d_Hd_alongX_0 0 rfl ?_
  refine j_bipush (v := 18) C d_Hd_alongX_1 (by decide) ?_
  refine j_icmp_le C d_Hd_alongX_3 hf (fun hf => ?_) (fun hf => ?_)
  · refine j_iload_n C d_Hd_alongX_13 0 rfl ?_
    refine j_sub [] rfl ?_
    exact w_Hd_alongX_b14 hY C x0 hf
  · refine j_bipush (v := 36) C d_Hd_alongX_6 (by decide) ?_
    refine j_iload_n C d_Hd_alongX_8 0 rfl ?_
    refine j_isub C d_Hd_alongX_9 ?_
    refine j_goto C d_Hd_alongX_10 ?_
    refine j_sub [] rfl ?_
    exact w_Hd_alongX_b14 hY C ((36 : Int32) - x0) hf
theorem d_Hd_alongY_0 : DC b_Hd_alongY 0 (.iload_n 0) 1 1 := ⟨by decide +kernel, rfl⟩
theorem d_Hd_alongY_1 : DC b_Hd_alongY 1 (.bipush 9) 2 3 := ⟨by decide +kernel, rfl⟩
theorem d_Hd_alongY_3 : DB b_Hd_alongY 3 (.if_icmp .ge 13) 13 16 6 := ⟨by decide +kernel, by decide, rfl⟩
theorem d_Hd_alongY_6 : DC b_Hd_alongY 6 (.iload_n 0) 1 7 := ⟨by decide +kernel, rfl⟩
theorem d_Hd_alongY_7 : DC b_Hd_alongY 7 (.bipush 36) 2 9 := ⟨by decide +kernel, rfl⟩
theorem d_Hd_alongY_9 : DC b_Hd_alongY 9 (.iadd) 1 10 := ⟨by decide +kernel, rfl⟩
theorem d_Hd_alongY_10 : DC b_Hd_alongY 10 (.bipush 9) 2 12 := ⟨by decide +kernel, rfl⟩
theorem d_Hd_alongY_12 : DC b_Hd_alongY 12 (.isub) 1 13 := ⟨by decide +kernel, rfl⟩
theorem d_Hd_alongY_13 : DB b_Hd_alongY 13 (.goto 7) 7 20 16 := ⟨by decide +kernel, by decide, rfl⟩
theorem d_Hd_alongY_16 : DC b_Hd_alongY 16 (.iload_n 0) 1 17 := ⟨by decide +kernel, rfl⟩
theorem d_Hd_alongY_17 : DC b_Hd_alongY 17 (.bipush 9) 2 19 := ⟨by decide +kernel, rfl⟩
theorem d_Hd_alongY_19 : DC b_Hd_alongY 19 (.isub) 1 20 := ⟨by decide +kernel, rfl⟩
theorem d_Hd_alongY_20 : DC b_Hd_alongY 20 (.invokestatic 13) 3 23 := ⟨by decide +kernel, rfl⟩
theorem d_Hd_alongY_23 : decode b_Hd_alongY 23 = .ok (.ireturn, 1) := by decide +kernel
theorem w_Hd_alongY_b20 {X : Ctx} {Y : Lay} (hY : IsX Y) (C : Cx X Y b_Hd_alongY 1 (some .int) "TopYard$Headings" 2) {μ : Mem} {r : Int32} (xs0 : Int32) (hf : f_Hd_alongY_b20 μ xs0 = some r) : J X Y (some (.int r)) μ 1 20 [] [.int xs0] μ := by
  unfold f_Hd_alongY_b20 at hf
  refine bd hf (fun v1 hc2 hf => ?_)
  refine j_cS (rest := []) C lk_Hd_13 (c_Hd_alongX hY hc2) rfl (by decide) rfl (Nat.le_of_ble_eq_true rfl) d_Hd_alongY_20 ?_
  obtain rfl := Option.some.inj hf
  exact j_iret C d_Hd_alongY_23
theorem c_Hd_alongY {l : Launch} {Y : Lay} (hY : IsX Y) {μ : Mem} {x0 : Int32} {r : Int32} (hf : f_Hd_alongY μ x0 = some r) : Ct l Y y_Hd_alongY b_Hd_alongY 1 (some .int) 2 [.int x0] (some (.int r)) μ μ := by
  refine ct_of (own := "TopYard$Headings") (lv := [(0, .int x0)]) (by decide +kernel) rfl (Nat.le_of_ble_eq_true rfl) rfl (fun X hl C => ?_)
  subst hl
  unfold f_Hd_alongY at hf
  refine j_iload_n C d_Hd_alongY_0 0 rfl ?_
  refine j_bipush (v := 9) C d_Hd_alongY_1 (by decide) ?_
  refine j_icmp_ge C d_Hd_alongY_3 hf (fun hf => ?_) (fun hf => ?_)
  · refine j_iload_n C d_Hd_alongY_16 0 rfl ?_
    refine j_bipush (v := 9) C d_Hd_alongY_17 (by decide) ?_
    refine j_isub C d_Hd_alongY_19 ?_
    refine j_sub [] rfl ?_
    exact w_Hd_alongY_b20 hY C (x0 - 9) hf
  · refine j_iload_n C d_Hd_alongY_6 0 rfl ?_
    refine j_bipush (v := 36) C d_Hd_alongY_7 (by decide) ?_
    refine j_iadd C d_Hd_alongY_9 ?_
    refine j_bipush (v := 9) C d_Hd_alongY_10 (by decide) ?_
    refine j_isub C d_Hd_alongY_12 ?_
    refine j_goto C d_Hd_alongY_13 ?_
    refine j_sub [] rfl ?_
    exact w_Hd_alongY_b20 hY C ((x0 + 36) - 9) hf
theorem d_X_turn_0 : DC b_X_turn 0 (.iload_n 1) 1 1 := ⟨by decide +kernel, rfl⟩
theorem d_X_turn_1 : DC b_X_turn 1 (.iconst 0) 1 2 := ⟨by decide +kernel, rfl⟩
theorem d_X_turn_2 : DC b_X_turn 2 (.bipush 35) 2 4 := ⟨by decide +kernel, rfl⟩
theorem d_X_turn_4 : DC b_X_turn 4 (.invokestatic 90) 3 7 := ⟨by decide +kernel, rfl⟩
theorem d_X_turn_7 : DB b_X_turn 7 (.ifCond .eq 12) 12 19 10 := ⟨by decide +kernel, by decide, rfl⟩
theorem d_X_turn_10 : DC b_X_turn 10 (.iload_n 2) 1 11 := ⟨by decide +kernel, rfl⟩
theorem d_X_turn_11 : DC b_X_turn 11 (.iconst 0) 1 12 := ⟨by decide +kernel, rfl⟩
theorem d_X_turn_12 : DC b_X_turn 12 (.iconst 1) 1 13 := ⟨by decide +kernel, rfl⟩
theorem d_X_turn_13 : DC b_X_turn 13 (.invokestatic 90) 3 16 := ⟨by decide +kernel, rfl⟩
theorem d_X_turn_16 : DB b_X_turn 16 (.ifCond .ne 7) 7 23 19 := ⟨by decide +kernel, by decide, rfl⟩
theorem d_X_turn_19 : DC b_X_turn 19 (.sipush (-1000)) 3 22 := ⟨by decide +kernel, rfl⟩
theorem d_X_turn_22 : decode b_X_turn 22 = .ok (.ireturn, 1) := by decide +kernel
theorem d_X_turn_23 : DC b_X_turn 23 (.iload_n 2) 1 24 := ⟨by decide +kernel, rfl⟩
theorem d_X_turn_24 : DB b_X_turn 24 (.ifCond .ne 10) 10 34 27 := ⟨by decide +kernel, by decide, rfl⟩
theorem d_X_turn_27 : DC b_X_turn 27 (.iload_n 1) 1 28 := ⟨by decide +kernel, rfl⟩
theorem d_X_turn_28 : DC b_X_turn 28 (.invokestatic 94) 3 31 := ⟨by decide +kernel, rfl⟩
theorem d_X_turn_31 : DB b_X_turn 31 (.goto 7) 7 38 34 := ⟨by decide +kernel, by decide, rfl⟩
theorem d_X_turn_34 : DC b_X_turn 34 (.iload_n 1) 1 35 := ⟨by decide +kernel, rfl⟩
theorem d_X_turn_35 : DC b_X_turn 35 (.invokestatic 100) 3 38 := ⟨by decide +kernel, rfl⟩
theorem d_X_turn_38 : decode b_X_turn 38 = .ok (.ireturn, 1) := by decide +kernel
theorem c_X_turn {l : Launch} {Y : Lay} (hY : IsX Y) {μ : Mem} {x1 : Int32} {x2 : Int32} {r : Int32} (hf : f_X_turn μ x1 x2 = some r) : Ct l Y y_X_turn b_X_turn 3 (some .int) 3 [.ref (yad Y 0), .int x1, .int x2] (some (.int r)) μ μ := by
  refine ct_of (own := "TopYard") (lv := [(0, .ref (yad Y 0)), (1, .int x1), (2, .int x2)]) (by decide +kernel) rfl (Nat.le_of_ble_eq_true rfl) rfl (fun X hl C => ?_)
  subst hl
  unfold f_X_turn at hf
  refine j_iload_n C d_X_turn_0 1 rfl ?_
  refine j_iconst (v := 0) C d_X_turn_1 (by decide) ?_
  refine j_bipush (v := 35) C d_X_turn_2 (by decide) ?_
  refine bd hf (fun v1 hc8 hf => ?_)
  refine j_cS (rest := []) C lk_X_90 (c_X_within hY hc8) rfl (by decide) rfl (Nat.le_of_ble_eq_true rfl) d_X_turn_4 ?_
  refine j_if_eq C d_X_turn_7 hf (fun hf => ?_) (fun hf => ?_)
  · refine j_sipush (v := (-1000)) C d_X_turn_19 (by decide) ?_
    obtain rfl := Option.some.inj hf
    exact j_iret C d_X_turn_22
  · refine j_iload_n C d_X_turn_10 2 rfl ?_
    refine j_iconst (v := 0) C d_X_turn_11 (by decide) ?_
    refine j_iconst (v := 1) C d_X_turn_12 (by decide) ?_
    refine bd hf (fun v2 hc7 hf => ?_)
    refine j_cS (rest := []) C lk_X_90 (c_X_within hY hc7) rfl (by decide) rfl (Nat.le_of_ble_eq_true rfl) d_X_turn_13 ?_
    refine j_if_ne C d_X_turn_16 hf (fun hf => ?_) (fun hf => ?_)
    · refine j_iload_n C d_X_turn_23 2 rfl ?_
      refine j_if_ne C d_X_turn_24 hf (fun hf => ?_) (fun hf => ?_)
      · refine j_iload_n C d_X_turn_34 1 rfl ?_
        refine bd hf (fun v3 hc4 hf => ?_)
        refine j_cS (rest := []) C lk_X_100 (c_Hd_alongY hY hc4) rfl (by decide) rfl (Nat.le_of_ble_eq_true rfl) d_X_turn_35 ?_
        obtain rfl := Option.some.inj hf
        exact j_iret C d_X_turn_38
      · refine j_iload_n C d_X_turn_27 1 rfl ?_
        refine bd hf (fun v5 hc6 hf => ?_)
        refine j_cS (rest := []) C lk_X_94 (c_Hd_alongX hY hc6) rfl (by decide) rfl (Nat.le_of_ble_eq_true rfl) d_X_turn_28 ?_
        refine j_goto C d_X_turn_31 ?_
        obtain rfl := Option.some.inj hf
        exact j_iret C d_X_turn_38
    · refine j_sipush (v := (-1000)) C d_X_turn_19 (by decide) ?_
      obtain rfl := Option.some.inj hf
      exact j_iret C d_X_turn_22
theorem d_X_isOwner_0 : DC b_X_isOwner 0 (.iload_n 0) 1 1 := ⟨by decide +kernel, rfl⟩
theorem d_X_isOwner_1 : DB b_X_isOwner 1 (.ifCond .lt 13) 13 14 4 := ⟨by decide +kernel, by decide, rfl⟩
theorem d_X_isOwner_4 : DC b_X_isOwner 4 (.iload_n 0) 1 5 := ⟨by decide +kernel, rfl⟩
theorem d_X_isOwner_5 : DC b_X_isOwner 5 (.bipush 8) 2 7 := ⟨by decide +kernel, rfl⟩
theorem d_X_isOwner_7 : DB b_X_isOwner 7 (.if_icmp .ge 7) 7 14 10 := ⟨by decide +kernel, by decide, rfl⟩
theorem d_X_isOwner_10 : DC b_X_isOwner 10 (.iconst 1) 1 11 := ⟨by decide +kernel, rfl⟩
theorem d_X_isOwner_11 : DB b_X_isOwner 11 (.goto 4) 4 15 14 := ⟨by decide +kernel, by decide, rfl⟩
theorem d_X_isOwner_14 : DC b_X_isOwner 14 (.iconst 0) 1 15 := ⟨by decide +kernel, rfl⟩
theorem d_X_isOwner_15 : decode b_X_isOwner 15 = .ok (.ireturn, 1) := by decide +kernel
theorem c_X_isOwner {l : Launch} {Y : Lay} (hY : IsX Y) {μ : Mem} {x0 : Int32} {r : Int32} (hf : f_X_isOwner x0 = some r) : Ct l Y y_X_isOwner b_X_isOwner 1 (some .boolean) 1 [.int x0] (some (.int r)) μ μ := by
  refine ct_of (own := "TopYard") (lv := [(0, .int x0)]) (by decide +kernel) rfl (Nat.le_of_ble_eq_true rfl) rfl (fun X hl C => ?_)
  subst hl
  unfold f_X_isOwner at hf
  refine j_iload_n C d_X_isOwner_0 0 rfl ?_
  refine j_if_lt C d_X_isOwner_1 hf (fun hf => ?_) (fun hf => ?_)
  · refine j_iconst (v := 0) C d_X_isOwner_14 (by decide) ?_
    obtain rfl := Option.some.inj hf
    exact j_zret C (Or.inl rfl) d_X_isOwner_15
  · refine j_iload_n C d_X_isOwner_4 0 rfl ?_
    refine j_bipush (v := 8) C d_X_isOwner_5 (by decide) ?_
    refine j_icmp_ge C d_X_isOwner_7 hf (fun hf => ?_) (fun hf => ?_)
    · refine j_iconst (v := 0) C d_X_isOwner_14 (by decide) ?_
      obtain rfl := Option.some.inj hf
      exact j_zret C (Or.inl rfl) d_X_isOwner_15
    · refine j_iconst (v := 1) C d_X_isOwner_10 (by decide) ?_
      refine j_goto C d_X_isOwner_11 ?_
      obtain rfl := Option.some.inj hf
      exact j_zret C (Or.inr rfl) d_X_isOwner_15
theorem d_X_topAt_0 : DC b_X_topAt 0 (.iload_n 1) 1 1 := ⟨by decide +kernel, rfl⟩
theorem d_X_topAt_1 : DB b_X_topAt 1 (.ifCond .lt 26) 26 27 4 := ⟨by decide +kernel, by decide, rfl⟩
theorem d_X_topAt_4 : DC b_X_topAt 4 (.iload_n 1) 1 5 := ⟨by decide +kernel, rfl⟩
theorem d_X_topAt_5 : DC b_X_topAt 5 (.aload_n 0) 1 6 := ⟨by decide +kernel, rfl⟩
theorem d_X_topAt_6 : DC b_X_topAt 6 (.getfield 15) 3 9 := ⟨by decide +kernel, rfl⟩
theorem d_X_topAt_9 : DB b_X_topAt 9 (.if_icmp .ge 18) 18 27 12 := ⟨by decide +kernel, by decide, rfl⟩
theorem d_X_topAt_12 : DC b_X_topAt 12 (.iload_n 1) 1 13 := ⟨by decide +kernel, rfl⟩
theorem d_X_topAt_13 : DC b_X_topAt 13 (.bipush 40) 2 15 := ⟨by decide +kernel, rfl⟩
theorem d_X_topAt_15 : DB b_X_topAt 15 (.if_icmp .ge 12) 12 27 18 := ⟨by decide +kernel, by decide, rfl⟩
theorem d_X_topAt_18 : DC b_X_topAt 18 (.aload_n 0) 1 19 := ⟨by decide +kernel, rfl⟩
theorem d_X_topAt_19 : DC b_X_topAt 19 (.getfield 11) 3 22 := ⟨by decide +kernel, rfl⟩
theorem d_X_topAt_22 : DC b_X_topAt 22 (.iload_n 1) 1 23 := ⟨by decide +kernel, rfl⟩
theorem d_X_topAt_23 : DC b_X_topAt 23 (.aaload) 1 24 := ⟨by decide +kernel, rfl⟩
theorem d_X_topAt_24 : DB b_X_topAt 24 (.goto 4) 4 28 27 := ⟨by decide +kernel, by decide, rfl⟩
theorem d_X_topAt_27 : DC b_X_topAt 27 (.aconst_null) 1 28 := ⟨by decide +kernel, rfl⟩
theorem d_X_topAt_28 : decode b_X_topAt 28 = .ok (.areturn, 1) := by decide +kernel
theorem c_X_topAt {l : Launch} {Y : Lay} (hY : IsX Y) {μ : Mem} {x1 : Int32} {r : Option Nat} (hf : f_X_topAt μ x1 = some r) : Ct l Y y_X_topAt b_X_topAt 2 (some (.object "TopYard$Top")) 1 [.ref (yad Y 0), .int x1] (some (va_rf (Option.map (yad Y) r))) μ μ := by
  refine ct_of (own := "TopYard") (lv := [(0, .ref (yad Y 0)), (1, .int x1)]) (by decide +kernel) rfl (Nat.le_of_ble_eq_true rfl) rfl (fun X hl C => ?_)
  subst hl
  unfold f_X_topAt at hf
  refine j_iload_n C d_X_topAt_0 1 rfl ?_
  refine j_if_lt C d_X_topAt_1 hf (fun hf => ?_) (fun hf => ?_)
  · refine j_null C d_X_topAt_27 ?_
    obtain rfl := Option.some.inj hf
    exact j_aret C d_X_topAt_28
  · refine j_iload_n C d_X_topAt_4 1 rfl ?_
    refine j_aload_n C d_X_topAt_5 0 rfl ?_
    refine j_gI C fl_X_15 (kX hY rfl) (nX hY (by decide)) rfl d_X_topAt_6 ?_
    refine j_icmp_ge C d_X_topAt_9 hf (fun hf => ?_) (fun hf => ?_)
    · refine j_null C d_X_topAt_27 ?_
      obtain rfl := Option.some.inj hf
      exact j_aret C d_X_topAt_28
    · refine j_iload_n C d_X_topAt_12 1 rfl ?_
      refine j_bipush (v := 40) C d_X_topAt_13 (by decide) ?_
      refine j_icmp_ge C d_X_topAt_15 hf (fun hf => ?_) (fun hf => ?_)
      · refine j_null C d_X_topAt_27 ?_
        obtain rfl := Option.some.inj hf
        exact j_aret C d_X_topAt_28
      · refine j_aload_n C d_X_topAt_18 0 rfl ?_
        refine j_gS (b := 1) C fl_X_11 (kX hY rfl) (nX hY (by decide)) rfl hY.2.2.2.1 rfl (sX hY rfl) d_X_topAt_19 ?_
        refine j_iload_n C d_X_topAt_22 1 rfl ?_
        refine ck hf (fun hi1 hf => ?_)
        refine j_aldD C (kX hY rfl) (by decide) rfl rfl (nX hY (by decide)) (lX hY rfl) hi1 d_X_topAt_23 hf (fun u2 hu2 hf => ?_)
        refine j_goto C d_X_topAt_24 ?_
        obtain rfl := Option.some.inj hf
        exact j_aret C d_X_topAt_28
theorem d_X_about_0 : DC b_X_about 0 (.aload_n 0) 1 1 := ⟨by decide +kernel, rfl⟩
theorem d_X_about_1 : DC b_X_about 1 (.iload_n 1) 1 2 := ⟨by decide +kernel, rfl⟩
theorem d_X_about_2 : DC b_X_about 2 (.invokevirtual 110) 3 5 := ⟨by decide +kernel, rfl⟩
theorem d_X_about_5 : DC b_X_about 5 (.astore_n 3) 1 6 := ⟨by decide +kernel, rfl⟩
theorem d_X_about_6 : DC b_X_about 6 (.aload_n 3) 1 7 := ⟨by decide +kernel, rfl⟩
theorem d_X_about_7 : DB b_X_about 7 (.ifnonnull 7) 7 14 10 := ⟨by decide +kernel, by decide, rfl⟩
theorem d_X_about_10 : DC b_X_about 10 (.sipush (-1000)) 3 13 := ⟨by decide +kernel, rfl⟩
theorem d_X_about_13 : decode b_X_about 13 = .ok (.ireturn, 1) := by decide +kernel
theorem d_X_about_14 : DC b_X_about 14 (.iload_n 2) 1 15 := ⟨by decide +kernel, rfl⟩
theorem d_X_about_15 : decode b_X_about 15 = .ok (.tableswitch 67 0 5 #[37, 42, 47, 52, 57, 62], 37) := by decide +kernel
theorem d_X_about_52 : DC b_X_about 52 (.aload_n 3) 1 53 := ⟨by decide +kernel, rfl⟩
theorem d_X_about_53 : DC b_X_about 53 (.getfield 114) 3 56 := ⟨by decide +kernel, rfl⟩
theorem d_X_about_56 : decode b_X_about 56 = .ok (.ireturn, 1) := by decide +kernel
theorem d_X_about_57 : DC b_X_about 57 (.aload_n 3) 1 58 := ⟨by decide +kernel, rfl⟩
theorem d_X_about_58 : DC b_X_about 58 (.getfield 117) 3 61 := ⟨by decide +kernel, rfl⟩
theorem d_X_about_61 : decode b_X_about 61 = .ok (.ireturn, 1) := by decide +kernel
theorem d_X_about_62 : DC b_X_about 62 (.aload_n 3) 1 63 := ⟨by decide +kernel, rfl⟩
theorem d_X_about_63 : DC b_X_about 63 (.getfield 120) 3 66 := ⟨by decide +kernel, rfl⟩
theorem d_X_about_66 : decode b_X_about 66 = .ok (.ireturn, 1) := by decide +kernel
theorem d_X_about_67 : DC b_X_about 67 (.aload_n 3) 1 68 := ⟨by decide +kernel, rfl⟩
theorem d_X_about_68 : DC b_X_about 68 (.getfield 123) 3 71 := ⟨by decide +kernel, rfl⟩
theorem d_X_about_71 : decode b_X_about 71 = .ok (.ireturn, 1) := by decide +kernel
theorem d_X_about_72 : DC b_X_about 72 (.aload_n 3) 1 73 := ⟨by decide +kernel, rfl⟩
theorem d_X_about_73 : DC b_X_about 73 (.getfield 126) 3 76 := ⟨by decide +kernel, rfl⟩
theorem d_X_about_76 : decode b_X_about 76 = .ok (.ireturn, 1) := by decide +kernel
theorem d_X_about_77 : DC b_X_about 77 (.aload_n 3) 1 78 := ⟨by decide +kernel, rfl⟩
theorem d_X_about_78 : DC b_X_about 78 (.getfield 129) 3 81 := ⟨by decide +kernel, rfl⟩
theorem d_X_about_81 : decode b_X_about 81 = .ok (.ireturn, 1) := by decide +kernel
theorem d_X_about_82 : DC b_X_about 82 (.sipush (-1000)) 3 85 := ⟨by decide +kernel, rfl⟩
theorem d_X_about_85 : decode b_X_about 85 = .ok (.ireturn, 1) := by decide +kernel
theorem c_X_about {l : Launch} {Y : Lay} (hY : IsX Y) {μ : Mem} {x1 : Int32} {x2 : Int32} {r : Int32} (hf : f_X_about μ x1 x2 = some r) : Ct l Y y_X_about b_X_about 4 (some .int) 2 [.ref (yad Y 0), .int x1, .int x2] (some (.int r)) μ μ := by
  refine ct_of (own := "TopYard") (lv := [(0, .ref (yad Y 0)), (1, .int x1), (2, .int x2)]) (by decide +kernel) rfl (Nat.le_of_ble_eq_true rfl) rfl (fun X hl C => ?_)
  subst hl
  unfold f_X_about at hf
  refine j_aload_n C d_X_about_0 0 rfl ?_
  refine j_iload_n C d_X_about_1 1 rfl ?_
  refine bd hf (fun u1 hc9 hf => ?_)
  refine j_wt (fun hT hSt => ?_)
  have hu1 := rt_X_topAt hY hT hc9
  refine j_cV (rest := []) C lk_X_110 (c_X_topAt hY hc9) rfl (kX hY rfl) (nX hY (by decide)) (by decide) rfl rfl (by decide) rfl (Nat.le_of_ble_eq_true rfl) d_X_about_2 ?_
  refine j_astoreo_n (lvf := [(0, .ref (yad Y 0)), (1, .int x1), (2, .int x2)]) C d_X_about_5 (by decide) rfl ?_
  refine j_aloado_n C d_X_about_6 0 rfl ?_
  cases u1 with
  | none =>
    refine j_nnul_f C d_X_about_7 ?_
    refine j_sipush (v := (-1000)) C d_X_about_10 (by decide) ?_
    obtain rfl := Option.some.inj hf
    exact j_iret C d_X_about_13
  | some e2 =>
    refine j_nnul_t C d_X_about_7 ?_
    refine j_iload_n C d_X_about_14 3 rfl ?_
    refine j_key hf (fun hx3 hf => ?_) (fun hx3 hf => ?_)
    · refine j_tin (tgt' := 52) (off := 37) (v := 0) C d_X_about_15 hx3 (by decide) (by decide) (by decide) (by decide) ?_
      refine j_aload_n C d_X_about_52 0 rfl ?_
      refine j_gI C fl_X_114 (hu1 e2 rfl).2 (hu1 e2 rfl).1 rfl d_X_about_53 ?_
      obtain rfl := Option.some.inj hf
      exact j_iret C d_X_about_56
    · refine j_key hf (fun hx4 hf => ?_) (fun hx4 hf => ?_)
      · refine j_tin (tgt' := 57) (off := 42) (v := 1) C d_X_about_15 hx4 (by decide) (by decide) (by decide) (by decide) ?_
        refine j_aload_n C d_X_about_57 0 rfl ?_
        refine j_gI C fl_X_117 (hu1 e2 rfl).2 (hu1 e2 rfl).1 rfl d_X_about_58 ?_
        obtain rfl := Option.some.inj hf
        exact j_iret C d_X_about_61
      · refine j_key hf (fun hx5 hf => ?_) (fun hx5 hf => ?_)
        · refine j_tin (tgt' := 62) (off := 47) (v := 2) C d_X_about_15 hx5 (by decide) (by decide) (by decide) (by decide) ?_
          refine j_aload_n C d_X_about_62 0 rfl ?_
          refine j_gI C fl_X_120 (hu1 e2 rfl).2 (hu1 e2 rfl).1 rfl d_X_about_63 ?_
          obtain rfl := Option.some.inj hf
          exact j_iret C d_X_about_66
        · refine j_key hf (fun hx6 hf => ?_) (fun hx6 hf => ?_)
          · refine j_tin (tgt' := 67) (off := 52) (v := 3) C d_X_about_15 hx6 (by decide) (by decide) (by decide) (by decide) ?_
            refine j_aload_n C d_X_about_67 0 rfl ?_
            refine j_gI C fl_X_123 (hu1 e2 rfl).2 (hu1 e2 rfl).1 rfl d_X_about_68 ?_
            obtain rfl := Option.some.inj hf
            exact j_iret C d_X_about_71
          · refine j_key hf (fun hx7 hf => ?_) (fun hx7 hf => ?_)
            · refine j_tin (tgt' := 72) (off := 57) (v := 4) C d_X_about_15 hx7 (by decide) (by decide) (by decide) (by decide) ?_
              refine j_aload_n C d_X_about_72 0 rfl ?_
              refine j_gI C fl_X_126 (hu1 e2 rfl).2 (hu1 e2 rfl).1 rfl d_X_about_73 ?_
              obtain rfl := Option.some.inj hf
              exact j_iret C d_X_about_76
            · refine j_key hf (fun hx8 hf => ?_) (fun hx8 hf => ?_)
              · refine j_tin (tgt' := 77) (off := 62) (v := 5) C d_X_about_15 hx8 (by decide) (by decide) (by decide) (by decide) ?_
                refine j_aload_n C d_X_about_77 0 rfl ?_
                refine j_gI C fl_X_129 (hu1 e2 rfl).2 (hu1 e2 rfl).1 rfl d_X_about_78 ?_
                obtain rfl := Option.some.inj hf
                exact j_iret C d_X_about_81
              · refine j_tout (tgt' := 82) C d_X_about_15 (by have qhx3 := sw_ne (z := 0) hx3 (by decide); have qhx4 := sw_ne (z := 1) hx4 (by decide); have qhx5 := sw_ne (z := 2) hx5 (by decide); have qhx6 := sw_ne (z := 3) hx6 (by decide); have qhx7 := sw_ne (z := 4) hx7 (by decide); have qhx8 := sw_ne (z := 5) hx8 (by decide); omega) (by decide) ?_
                refine j_sipush (v := (-1000)) C d_X_about_82 (by decide) ?_
                obtain rfl := Option.some.inj hf
                exact j_iret C d_X_about_85
theorem d_X_wear_0 : DC b_X_wear 0 (.aload_n 0) 1 1 := ⟨by decide +kernel, rfl⟩
theorem d_X_wear_1 : DC b_X_wear 1 (.iload_n 1) 1 2 := ⟨by decide +kernel, rfl⟩
theorem d_X_wear_2 : DC b_X_wear 2 (.invokevirtual 110) 3 5 := ⟨by decide +kernel, rfl⟩
theorem d_X_wear_5 : DC b_X_wear 5 (.astore_n 3) 1 6 := ⟨by decide +kernel, rfl⟩
theorem d_X_wear_6 : DC b_X_wear 6 (.aload_n 3) 1 7 := ⟨by decide +kernel, rfl⟩
theorem d_X_wear_7 : DB b_X_wear 7 (.ifnull 13) 13 20 10 := ⟨by decide +kernel, by decide, rfl⟩
theorem d_X_wear_10 : DC b_X_wear 10 (.iload_n 2) 1 11 := ⟨by decide +kernel, rfl⟩
theorem d_X_wear_11 : DC b_X_wear 11 (.iconst 0) 1 12 := ⟨by decide +kernel, rfl⟩
theorem d_X_wear_12 : DC b_X_wear 12 (.bipush 9) 2 14 := ⟨by decide +kernel, rfl⟩
theorem d_X_wear_14 : DC b_X_wear 14 (.invokestatic 90) 3 17 := ⟨by decide +kernel, rfl⟩
theorem d_X_wear_17 : DB b_X_wear 17 (.ifCond .ne 6) 6 23 20 := ⟨by decide +kernel, by decide, rfl⟩
theorem d_X_wear_20 : DC b_X_wear 20 (.bipush (-2)) 2 22 := ⟨by decide +kernel, rfl⟩
theorem d_X_wear_22 : decode b_X_wear 22 = .ok (.ireturn, 1) := by decide +kernel
theorem d_X_wear_23 : DC b_X_wear 23 (.aload_n 3) 1 24 := ⟨by decide +kernel, rfl⟩
theorem d_X_wear_24 : DC b_X_wear 24 (.getfield 129) 3 27 := ⟨by decide +kernel, rfl⟩
theorem d_X_wear_27 : DC b_X_wear 27 (.istore 4) 2 29 := ⟨by decide +kernel, rfl⟩
theorem d_X_wear_29 : DC b_X_wear 29 (.aload_n 3) 1 30 := ⟨by decide +kernel, rfl⟩
theorem d_X_wear_30 : DC b_X_wear 30 (.iload_n 2) 1 31 := ⟨by decide +kernel, rfl⟩
theorem d_X_wear_31 : DC b_X_wear 31 (.putfield 129) 3 34 := ⟨by decide +kernel, rfl⟩
theorem d_X_wear_34 : DC b_X_wear 34 (.iload 4) 2 36 := ⟨by decide +kernel, rfl⟩
theorem d_X_wear_36 : decode b_X_wear 36 = .ok (.ireturn, 1) := by decide +kernel
theorem c_X_wear {l : Launch} {Y : Lay} (hY : IsX Y) {μ : Mem} {x1 : Int32} {x2 : Int32} {r : Int32 × Mem} (hf : f_X_wear μ x1 x2 = some r) : Ct l Y y_X_wear b_X_wear 5 (some .int) 2 [.ref (yad Y 0), .int x1, .int x2] (some (.int r.1)) μ r.2 := by
  refine ct_of (own := "TopYard") (lv := [(0, .ref (yad Y 0)), (1, .int x1), (2, .int x2)]) (by decide +kernel) rfl (Nat.le_of_ble_eq_true rfl) rfl (fun X hl C => ?_)
  subst hl
  unfold f_X_wear at hf
  refine j_aload_n C d_X_wear_0 0 rfl ?_
  refine j_iload_n C d_X_wear_1 1 rfl ?_
  refine bd hf (fun u1 hc7 hf => ?_)
  refine j_wt (fun hT hSt => ?_)
  have hu1 := rt_X_topAt hY hT hc7
  refine j_cV (rest := []) C lk_X_110 (c_X_topAt hY hc7) rfl (kX hY rfl) (nX hY (by decide)) (by decide) rfl rfl (by decide) rfl (Nat.le_of_ble_eq_true rfl) d_X_wear_2 ?_
  refine j_astoreo_n (lvf := [(0, .ref (yad Y 0)), (1, .int x1), (2, .int x2)]) C d_X_wear_5 (by decide) rfl ?_
  refine j_aloado_n C d_X_wear_6 0 rfl ?_
  cases u1 with
  | none =>
    refine j_nul_t C d_X_wear_7 ?_
    refine j_bipush (v := (-2)) C d_X_wear_20 (by decide) ?_
    obtain rfl := Option.some.inj hf
    exact j_iret C d_X_wear_22
  | some e2 =>
    refine j_nul_f C d_X_wear_7 ?_
    refine j_iload_n C d_X_wear_10 3 rfl ?_
    refine j_iconst (v := 0) C d_X_wear_11 (by decide) ?_
    refine j_bipush (v := 9) C d_X_wear_12 (by decide) ?_
    refine bd hf (fun v3 hc6 hf => ?_)
    refine j_cS (rest := []) C lk_X_90 (c_X_within hY hc6) rfl (by decide) rfl (Nat.le_of_ble_eq_true rfl) d_X_wear_14 ?_
    refine j_if_ne C d_X_wear_17 hf (fun hf => ?_) (fun hf => ?_)
    · refine j_aload_n C d_X_wear_23 0 rfl ?_
      refine j_gI C fl_X_129 (hu1 e2 rfl).2 (hu1 e2 rfl).1 rfl d_X_wear_24 ?_
      refine j_istoreN (lvf := [(3, .ref (yad Y e2)), (0, .ref (yad Y 0)), (1, .int x1), (2, .int x2)]) C d_X_wear_27 (by decide) rfl hf (fun v4 hf => ?_)
      refine j_aload_n C d_X_wear_29 1 rfl ?_
      refine j_iload_n C d_X_wear_30 4 rfl ?_
      refine j_pI C fl_X_129 (hu1 e2 rfl).2 (hu1 e2 rfl).1 rfl rfl rfl d_X_wear_31 hf (fun μ5 hf => ?_)
      refine j_iload C d_X_wear_34 0 rfl ?_
      obtain rfl := Option.some.inj hf
      exact j_iret C d_X_wear_36
    · refine j_bipush (v := (-2)) C d_X_wear_20 (by decide) ?_
      obtain rfl := Option.some.inj hf
      exact j_iret C d_X_wear_22
theorem d_X_give_0 : DC b_X_give 0 (.aload_n 0) 1 1 := ⟨by decide +kernel, rfl⟩
theorem d_X_give_1 : DC b_X_give 1 (.iload_n 1) 1 2 := ⟨by decide +kernel, rfl⟩
theorem d_X_give_2 : DC b_X_give 2 (.invokevirtual 110) 3 5 := ⟨by decide +kernel, rfl⟩
theorem d_X_give_5 : DC b_X_give 5 (.astore_n 3) 1 6 := ⟨by decide +kernel, rfl⟩
theorem d_X_give_6 : DC b_X_give 6 (.aload_n 3) 1 7 := ⟨by decide +kernel, rfl⟩
theorem d_X_give_7 : DB b_X_give 7 (.ifnull 10) 10 17 10 := ⟨by decide +kernel, by decide, rfl⟩
theorem d_X_give_10 : DC b_X_give 10 (.iload_n 2) 1 11 := ⟨by decide +kernel, rfl⟩
theorem d_X_give_11 : DC b_X_give 11 (.invokestatic 103) 3 14 := ⟨by decide +kernel, rfl⟩
theorem d_X_give_14 : DB b_X_give 14 (.ifCond .ne 6) 6 20 17 := ⟨by decide +kernel, by decide, rfl⟩
theorem d_X_give_17 : DC b_X_give 17 (.bipush (-2)) 2 19 := ⟨by decide +kernel, rfl⟩
theorem d_X_give_19 : decode b_X_give 19 = .ok (.ireturn, 1) := by decide +kernel
theorem d_X_give_20 : DC b_X_give 20 (.aload_n 3) 1 21 := ⟨by decide +kernel, rfl⟩
theorem d_X_give_21 : DC b_X_give 21 (.getfield 126) 3 24 := ⟨by decide +kernel, rfl⟩
theorem d_X_give_24 : DC b_X_give 24 (.istore 4) 2 26 := ⟨by decide +kernel, rfl⟩
theorem d_X_give_26 : DC b_X_give 26 (.aload_n 3) 1 27 := ⟨by decide +kernel, rfl⟩
theorem d_X_give_27 : DC b_X_give 27 (.iload_n 2) 1 28 := ⟨by decide +kernel, rfl⟩
theorem d_X_give_28 : DC b_X_give 28 (.putfield 126) 3 31 := ⟨by decide +kernel, rfl⟩
theorem d_X_give_31 : DC b_X_give 31 (.iload 4) 2 33 := ⟨by decide +kernel, rfl⟩
theorem d_X_give_33 : decode b_X_give 33 = .ok (.ireturn, 1) := by decide +kernel
theorem c_X_give {l : Launch} {Y : Lay} (hY : IsX Y) {μ : Mem} {x1 : Int32} {x2 : Int32} {r : Int32 × Mem} (hf : f_X_give μ x1 x2 = some r) : Ct l Y y_X_give b_X_give 5 (some .int) 2 [.ref (yad Y 0), .int x1, .int x2] (some (.int r.1)) μ r.2 := by
  refine ct_of (own := "TopYard") (lv := [(0, .ref (yad Y 0)), (1, .int x1), (2, .int x2)]) (by decide +kernel) rfl (Nat.le_of_ble_eq_true rfl) rfl (fun X hl C => ?_)
  subst hl
  unfold f_X_give at hf
  refine j_aload_n C d_X_give_0 0 rfl ?_
  refine j_iload_n C d_X_give_1 1 rfl ?_
  refine bd hf (fun u1 hc7 hf => ?_)
  refine j_wt (fun hT hSt => ?_)
  have hu1 := rt_X_topAt hY hT hc7
  refine j_cV (rest := []) C lk_X_110 (c_X_topAt hY hc7) rfl (kX hY rfl) (nX hY (by decide)) (by decide) rfl rfl (by decide) rfl (Nat.le_of_ble_eq_true rfl) d_X_give_2 ?_
  refine j_astoreo_n (lvf := [(0, .ref (yad Y 0)), (1, .int x1), (2, .int x2)]) C d_X_give_5 (by decide) rfl ?_
  refine j_aloado_n C d_X_give_6 0 rfl ?_
  cases u1 with
  | none =>
    refine j_nul_t C d_X_give_7 ?_
    refine j_bipush (v := (-2)) C d_X_give_17 (by decide) ?_
    obtain rfl := Option.some.inj hf
    exact j_iret C d_X_give_19
  | some e2 =>
    refine j_nul_f C d_X_give_7 ?_
    refine j_iload_n C d_X_give_10 3 rfl ?_
    refine bd hf (fun v3 hc6 hf => ?_)
    refine j_cS (rest := []) C lk_X_103 (c_X_isOwner hY hc6) rfl (by decide) rfl (Nat.le_of_ble_eq_true rfl) d_X_give_11 ?_
    refine j_if_ne C d_X_give_14 hf (fun hf => ?_) (fun hf => ?_)
    · refine j_aload_n C d_X_give_20 0 rfl ?_
      refine j_gI C fl_X_126 (hu1 e2 rfl).2 (hu1 e2 rfl).1 rfl d_X_give_21 ?_
      refine j_istoreN (lvf := [(3, .ref (yad Y e2)), (0, .ref (yad Y 0)), (1, .int x1), (2, .int x2)]) C d_X_give_24 (by decide) rfl hf (fun v4 hf => ?_)
      refine j_aload_n C d_X_give_26 1 rfl ?_
      refine j_iload_n C d_X_give_27 4 rfl ?_
      refine j_pI C fl_X_126 (hu1 e2 rfl).2 (hu1 e2 rfl).1 rfl rfl rfl d_X_give_28 hf (fun μ5 hf => ?_)
      refine j_iload C d_X_give_31 0 rfl ?_
      obtain rfl := Option.some.inj hf
      exact j_iret C d_X_give_33
    · refine j_bipush (v := (-2)) C d_X_give_17 (by decide) ?_
      obtain rfl := Option.some.inj hf
      exact j_iret C d_X_give_19
theorem d_X_bowl_0 : DC b_X_bowl 0 (.iload_n 1) 1 1 := ⟨by decide +kernel, rfl⟩
theorem d_X_bowl_1 : DB b_X_bowl 1 (.ifCond .ne 31) 31 32 4 := ⟨by decide +kernel, by decide, rfl⟩
theorem d_X_bowl_4 : DC b_X_bowl 4 (.iload_n 2) 1 5 := ⟨by decide +kernel, rfl⟩
theorem d_X_bowl_5 : DC b_X_bowl 5 (.iconst 5) 1 6 := ⟨by decide +kernel, rfl⟩
theorem d_X_bowl_6 : DC b_X_bowl 6 (.bipush 30) 2 8 := ⟨by decide +kernel, rfl⟩
theorem d_X_bowl_8 : DC b_X_bowl 8 (.invokestatic 90) 3 11 := ⟨by decide +kernel, rfl⟩
theorem d_X_bowl_11 : DB b_X_bowl 11 (.ifCond .eq 21) 21 32 14 := ⟨by decide +kernel, by decide, rfl⟩
theorem d_X_bowl_14 : DC b_X_bowl 14 (.aload_n 0) 1 15 := ⟨by decide +kernel, rfl⟩
theorem d_X_bowl_15 : DC b_X_bowl 15 (.getfield 22) 3 18 := ⟨by decide +kernel, rfl⟩
theorem d_X_bowl_18 : DC b_X_bowl 18 (.getfield 132) 3 21 := ⟨by decide +kernel, rfl⟩
theorem d_X_bowl_21 : DC b_X_bowl 21 (.istore_n 3) 1 22 := ⟨by decide +kernel, rfl⟩
theorem d_X_bowl_22 : DC b_X_bowl 22 (.aload_n 0) 1 23 := ⟨by decide +kernel, rfl⟩
theorem d_X_bowl_23 : DC b_X_bowl 23 (.getfield 22) 3 26 := ⟨by decide +kernel, rfl⟩
theorem d_X_bowl_26 : DC b_X_bowl 26 (.iload_n 2) 1 27 := ⟨by decide +kernel, rfl⟩
theorem d_X_bowl_27 : DC b_X_bowl 27 (.putfield 132) 3 30 := ⟨by decide +kernel, rfl⟩
theorem d_X_bowl_30 : DC b_X_bowl 30 (.iload_n 3) 1 31 := ⟨by decide +kernel, rfl⟩
theorem d_X_bowl_31 : decode b_X_bowl 31 = .ok (.ireturn, 1) := by decide +kernel
theorem d_X_bowl_32 : DC b_X_bowl 32 (.iload_n 1) 1 33 := ⟨by decide +kernel, rfl⟩
theorem d_X_bowl_33 : DC b_X_bowl 33 (.iconst 1) 1 34 := ⟨by decide +kernel, rfl⟩
theorem d_X_bowl_34 : DB b_X_bowl 34 (.if_icmp .ne 31) 31 65 37 := ⟨by decide +kernel, by decide, rfl⟩
theorem d_X_bowl_37 : DC b_X_bowl 37 (.iload_n 2) 1 38 := ⟨by decide +kernel, rfl⟩
theorem d_X_bowl_38 : DC b_X_bowl 38 (.iconst 0) 1 39 := ⟨by decide +kernel, rfl⟩
theorem d_X_bowl_39 : DC b_X_bowl 39 (.bipush 30) 2 41 := ⟨by decide +kernel, rfl⟩
theorem d_X_bowl_41 : DC b_X_bowl 41 (.invokestatic 90) 3 44 := ⟨by decide +kernel, rfl⟩
theorem d_X_bowl_44 : DB b_X_bowl 44 (.ifCond .eq 21) 21 65 47 := ⟨by decide +kernel, by decide, rfl⟩
theorem d_X_bowl_47 : DC b_X_bowl 47 (.aload_n 0) 1 48 := ⟨by decide +kernel, rfl⟩
theorem d_X_bowl_48 : DC b_X_bowl 48 (.getfield 22) 3 51 := ⟨by decide +kernel, rfl⟩
theorem d_X_bowl_51 : DC b_X_bowl 51 (.getfield 135) 3 54 := ⟨by decide +kernel, rfl⟩
theorem d_X_bowl_54 : DC b_X_bowl 54 (.istore_n 3) 1 55 := ⟨by decide +kernel, rfl⟩
theorem d_X_bowl_55 : DC b_X_bowl 55 (.aload_n 0) 1 56 := ⟨by decide +kernel, rfl⟩
theorem d_X_bowl_56 : DC b_X_bowl 56 (.getfield 22) 3 59 := ⟨by decide +kernel, rfl⟩
theorem d_X_bowl_59 : DC b_X_bowl 59 (.iload_n 2) 1 60 := ⟨by decide +kernel, rfl⟩
theorem d_X_bowl_60 : DC b_X_bowl 60 (.putfield 135) 3 63 := ⟨by decide +kernel, rfl⟩
theorem d_X_bowl_63 : DC b_X_bowl 63 (.iload_n 3) 1 64 := ⟨by decide +kernel, rfl⟩
theorem d_X_bowl_64 : decode b_X_bowl 64 = .ok (.ireturn, 1) := by decide +kernel
theorem d_X_bowl_65 : DC b_X_bowl 65 (.bipush (-2)) 2 67 := ⟨by decide +kernel, rfl⟩
theorem d_X_bowl_67 : decode b_X_bowl 67 = .ok (.ireturn, 1) := by decide +kernel
theorem w_X_bowl_b32 {X : Ctx} {Y : Lay} (hY : IsX Y) (C : Cx X Y b_X_bowl 4 (some .int) "TopYard" 2) {r : Int32 × Mem} (x1 : Int32) (x2 : Int32) (μ : Mem) (hf : f_X_bowl_b32 x1 x2 μ = some r) : J X Y (some (.int r.1)) r.2 4 32 [(0, .ref (yad Y 0)), (1, .int x1), (2, .int x2)] [] μ := by
  unfold f_X_bowl_b32 at hf
  refine j_iload_n C d_X_bowl_32 1 rfl ?_
  refine j_iconst (v := 1) C d_X_bowl_33 (by decide) ?_
  refine j_icmp_ne C d_X_bowl_34 hf (fun hf => ?_) (fun hf => ?_)
  · refine j_bipush (v := (-2)) C d_X_bowl_65 (by decide) ?_
    obtain rfl := Option.some.inj hf
    exact j_iret C d_X_bowl_67
  · refine j_iload_n C d_X_bowl_37 2 rfl ?_
    refine j_iconst (v := 0) C d_X_bowl_38 (by decide) ?_
    refine j_bipush (v := 30) C d_X_bowl_39 (by decide) ?_
    refine bd hf (fun v1 hc4 hf => ?_)
    refine j_cS (rest := []) C lk_X_90 (c_X_within hY hc4) rfl (by decide) rfl (Nat.le_of_ble_eq_true rfl) d_X_bowl_41 ?_
    refine j_if_eq C d_X_bowl_44 hf (fun hf => ?_) (fun hf => ?_)
    · refine j_bipush (v := (-2)) C d_X_bowl_65 (by decide) ?_
      obtain rfl := Option.some.inj hf
      exact j_iret C d_X_bowl_67
    · refine j_aload_n C d_X_bowl_47 0 rfl ?_
      refine j_gS (b := 2) C fl_X_22 (kX hY rfl) (nX hY (by decide)) rfl hY.2.2.2.1 rfl (sX hY rfl) d_X_bowl_48 ?_
      refine j_gI C fl_X_135 (kX hY rfl) (nX hY (by decide)) rfl d_X_bowl_51 ?_
      refine j_istore_nN (lvf := [(0, .ref (yad Y 0)), (1, .int x1), (2, .int x2)]) C d_X_bowl_54 (by decide) rfl hf (fun v2 hf => ?_)
      refine j_aload_n C d_X_bowl_55 1 rfl ?_
      refine j_gS (b := 2) C fl_X_22 (kX hY rfl) (nX hY (by decide)) rfl hY.2.2.2.1 rfl (sX hY rfl) d_X_bowl_56 ?_
      refine j_iload_n C d_X_bowl_59 3 rfl ?_
      refine j_pI C fl_X_135 (kX hY rfl) (nX hY (by decide)) rfl rfl rfl d_X_bowl_60 hf (fun μ3 hf => ?_)
      refine j_iload_n C d_X_bowl_63 0 rfl ?_
      obtain rfl := Option.some.inj hf
      exact j_iret C d_X_bowl_64
theorem c_X_bowl {l : Launch} {Y : Lay} (hY : IsX Y) {μ : Mem} {x1 : Int32} {x2 : Int32} {r : Int32 × Mem} (hf : f_X_bowl μ x1 x2 = some r) : Ct l Y y_X_bowl b_X_bowl 4 (some .int) 2 [.ref (yad Y 0), .int x1, .int x2] (some (.int r.1)) μ r.2 := by
  refine ct_of (own := "TopYard") (lv := [(0, .ref (yad Y 0)), (1, .int x1), (2, .int x2)]) (by decide +kernel) rfl (Nat.le_of_ble_eq_true rfl) rfl (fun X hl C => ?_)
  subst hl
  unfold f_X_bowl at hf
  refine j_iload_n C d_X_bowl_0 1 rfl ?_
  refine j_if_ne C d_X_bowl_1 hf (fun hf => ?_) (fun hf => ?_)
  · refine j_sub [0, 1, 2] rfl ?_
    exact w_X_bowl_b32 hY C x1 x2 μ hf
  · refine j_iload_n C d_X_bowl_4 2 rfl ?_
    refine j_iconst (v := 5) C d_X_bowl_5 (by decide) ?_
    refine j_bipush (v := 30) C d_X_bowl_6 (by decide) ?_
    refine bd hf (fun v1 hc4 hf => ?_)
    refine j_cS (rest := []) C lk_X_90 (c_X_within hY hc4) rfl (by decide) rfl (Nat.le_of_ble_eq_true rfl) d_X_bowl_8 ?_
    refine j_if_eq C d_X_bowl_11 hf (fun hf => ?_) (fun hf => ?_)
    · refine j_sub [0, 1, 2] rfl ?_
      exact w_X_bowl_b32 hY C x1 x2 μ hf
    · refine j_aload_n C d_X_bowl_14 0 rfl ?_
      refine j_gS (b := 2) C fl_X_22 (kX hY rfl) (nX hY (by decide)) rfl hY.2.2.2.1 rfl (sX hY rfl) d_X_bowl_15 ?_
      refine j_gI C fl_X_132 (kX hY rfl) (nX hY (by decide)) rfl d_X_bowl_18 ?_
      refine j_istore_nN (lvf := [(0, .ref (yad Y 0)), (1, .int x1), (2, .int x2)]) C d_X_bowl_21 (by decide) rfl hf (fun v2 hf => ?_)
      refine j_aload_n C d_X_bowl_22 1 rfl ?_
      refine j_gS (b := 2) C fl_X_22 (kX hY rfl) (nX hY (by decide)) rfl hY.2.2.2.1 rfl (sX hY rfl) d_X_bowl_23 ?_
      refine j_iload_n C d_X_bowl_26 3 rfl ?_
      refine j_pI C fl_X_132 (kX hY rfl) (nX hY (by decide)) rfl rfl rfl d_X_bowl_27 hf (fun μ3 hf => ?_)
      refine j_iload_n C d_X_bowl_30 0 rfl ?_
      obtain rfl := Option.some.inj hf
      exact j_iret C d_X_bowl_31
theorem d_Bw_mayDent_0 : DC b_Bw_mayDent 0 (.iload_n 0) 1 1 := ⟨by decide +kernel, rfl⟩
theorem d_Bw_mayDent_1 : DC b_Bw_mayDent 1 (.bipush (-31)) 2 3 := ⟨by decide +kernel, rfl⟩
theorem d_Bw_mayDent_3 : DB b_Bw_mayDent 3 (.if_icmp .lt 25) 25 28 6 := ⟨by decide +kernel, by decide, rfl⟩
theorem d_Bw_mayDent_6 : DC b_Bw_mayDent 6 (.iload_n 0) 1 7 := ⟨by decide +kernel, rfl⟩
theorem d_Bw_mayDent_7 : DC b_Bw_mayDent 7 (.bipush 31) 2 9 := ⟨by decide +kernel, rfl⟩
theorem d_Bw_mayDent_9 : DB b_Bw_mayDent 9 (.if_icmp .gt 19) 19 28 12 := ⟨by decide +kernel, by decide, rfl⟩
theorem d_Bw_mayDent_12 : DC b_Bw_mayDent 12 (.iload_n 1) 1 13 := ⟨by decide +kernel, rfl⟩
theorem d_Bw_mayDent_13 : DC b_Bw_mayDent 13 (.bipush (-31)) 2 15 := ⟨by decide +kernel, rfl⟩
theorem d_Bw_mayDent_15 : DB b_Bw_mayDent 15 (.if_icmp .lt 13) 13 28 18 := ⟨by decide +kernel, by decide, rfl⟩
theorem d_Bw_mayDent_18 : DC b_Bw_mayDent 18 (.iload_n 1) 1 19 := ⟨by decide +kernel, rfl⟩
theorem d_Bw_mayDent_19 : DC b_Bw_mayDent 19 (.bipush 31) 2 21 := ⟨by decide +kernel, rfl⟩
theorem d_Bw_mayDent_21 : DB b_Bw_mayDent 21 (.if_icmp .gt 7) 7 28 24 := ⟨by decide +kernel, by decide, rfl⟩
theorem d_Bw_mayDent_24 : DC b_Bw_mayDent 24 (.iconst 1) 1 25 := ⟨by decide +kernel, rfl⟩
theorem d_Bw_mayDent_25 : DB b_Bw_mayDent 25 (.goto 4) 4 29 28 := ⟨by decide +kernel, by decide, rfl⟩
theorem d_Bw_mayDent_28 : DC b_Bw_mayDent 28 (.iconst 0) 1 29 := ⟨by decide +kernel, rfl⟩
theorem d_Bw_mayDent_29 : decode b_Bw_mayDent 29 = .ok (.ireturn, 1) := by decide +kernel
theorem c_Bw_mayDent {l : Launch} {Y : Lay} (hY : IsX Y) {μ : Mem} {x0 : Int32} {x1 : Int32} {r : Int32} (hf : f_Bw_mayDent x0 x1 = some r) : Ct l Y y_Bw_mayDent b_Bw_mayDent 2 (some .boolean) 1 [.int x0, .int x1] (some (.int r)) μ μ := by
  refine ct_of (own := "TopYard$Bowl") (lv := [(0, .int x0), (1, .int x1)]) (by decide +kernel) rfl (Nat.le_of_ble_eq_true rfl) rfl (fun X hl C => ?_)
  subst hl
  unfold f_Bw_mayDent at hf
  refine j_iload_n C d_Bw_mayDent_0 0 rfl ?_
  refine j_bipush (v := (-31)) C d_Bw_mayDent_1 (by decide) ?_
  refine j_icmp_lt C d_Bw_mayDent_3 hf (fun hf => ?_) (fun hf => ?_)
  · refine j_iconst (v := 0) C d_Bw_mayDent_28 (by decide) ?_
    obtain rfl := Option.some.inj hf
    exact j_zret C (Or.inl rfl) d_Bw_mayDent_29
  · refine j_iload_n C d_Bw_mayDent_6 0 rfl ?_
    refine j_bipush (v := 31) C d_Bw_mayDent_7 (by decide) ?_
    refine j_icmp_gt C d_Bw_mayDent_9 hf (fun hf => ?_) (fun hf => ?_)
    · refine j_iconst (v := 0) C d_Bw_mayDent_28 (by decide) ?_
      obtain rfl := Option.some.inj hf
      exact j_zret C (Or.inl rfl) d_Bw_mayDent_29
    · refine j_iload_n C d_Bw_mayDent_12 1 rfl ?_
      refine j_bipush (v := (-31)) C d_Bw_mayDent_13 (by decide) ?_
      refine j_icmp_lt C d_Bw_mayDent_15 hf (fun hf => ?_) (fun hf => ?_)
      · refine j_iconst (v := 0) C d_Bw_mayDent_28 (by decide) ?_
        obtain rfl := Option.some.inj hf
        exact j_zret C (Or.inl rfl) d_Bw_mayDent_29
      · refine j_iload_n C d_Bw_mayDent_18 1 rfl ?_
        refine j_bipush (v := 31) C d_Bw_mayDent_19 (by decide) ?_
        refine j_icmp_gt C d_Bw_mayDent_21 hf (fun hf => ?_) (fun hf => ?_)
        · refine j_iconst (v := 0) C d_Bw_mayDent_28 (by decide) ?_
          obtain rfl := Option.some.inj hf
          exact j_zret C (Or.inl rfl) d_Bw_mayDent_29
        · refine j_iconst (v := 1) C d_Bw_mayDent_24 (by decide) ?_
          refine j_goto C d_Bw_mayDent_25 ?_
          obtain rfl := Option.some.inj hf
          exact j_zret C (Or.inr rfl) d_Bw_mayDent_29
theorem d_Bw_raise_0 : DC b_Bw_raise 0 (.aload_n 0) 1 1 := ⟨by decide +kernel, rfl⟩
theorem d_Bw_raise_1 : DC b_Bw_raise 1 (.getfield 16) 3 4 := ⟨by decide +kernel, rfl⟩
theorem d_Bw_raise_4 : DC b_Bw_raise 4 (.bipush 24) 2 6 := ⟨by decide +kernel, rfl⟩
theorem d_Bw_raise_6 : DB b_Bw_raise 6 (.if_icmp .ge 11) 11 17 9 := ⟨by decide +kernel, by decide, rfl⟩
theorem d_Bw_raise_9 : DC b_Bw_raise 9 (.iload_n 1) 1 10 := ⟨by decide +kernel, rfl⟩
theorem d_Bw_raise_10 : DC b_Bw_raise 10 (.iload_n 2) 1 11 := ⟨by decide +kernel, rfl⟩
theorem d_Bw_raise_11 : DC b_Bw_raise 11 (.invokestatic 23) 3 14 := ⟨by decide +kernel, rfl⟩
theorem d_Bw_raise_14 : DB b_Bw_raise 14 (.ifCond .ne 5) 5 19 17 := ⟨by decide +kernel, by decide, rfl⟩
theorem d_Bw_raise_17 : DC b_Bw_raise 17 (.iconst 0) 1 18 := ⟨by decide +kernel, rfl⟩
theorem d_Bw_raise_18 : decode b_Bw_raise 18 = .ok (.ireturn, 1) := by decide +kernel
theorem d_Bw_raise_19 : DC b_Bw_raise 19 (.aload_n 0) 1 20 := ⟨by decide +kernel, rfl⟩
theorem d_Bw_raise_20 : DC b_Bw_raise 20 (.getfield 19) 3 23 := ⟨by decide +kernel, rfl⟩
theorem d_Bw_raise_23 : DC b_Bw_raise 23 (.iload_n 1) 1 24 := ⟨by decide +kernel, rfl⟩
theorem d_Bw_raise_24 : DC b_Bw_raise 24 (.bipush 31) 2 26 := ⟨by decide +kernel, rfl⟩
theorem d_Bw_raise_26 : DC b_Bw_raise 26 (.iadd) 1 27 := ⟨by decide +kernel, rfl⟩
theorem d_Bw_raise_27 : DC b_Bw_raise 27 (.bipush 63) 2 29 := ⟨by decide +kernel, rfl⟩
theorem d_Bw_raise_29 : DC b_Bw_raise 29 (.imul) 1 30 := ⟨by decide +kernel, rfl⟩
theorem d_Bw_raise_30 : DC b_Bw_raise 30 (.iload_n 2) 1 31 := ⟨by decide +kernel, rfl⟩
theorem d_Bw_raise_31 : DC b_Bw_raise 31 (.iadd) 1 32 := ⟨by decide +kernel, rfl⟩
theorem d_Bw_raise_32 : DC b_Bw_raise 32 (.bipush 31) 2 34 := ⟨by decide +kernel, rfl⟩
theorem d_Bw_raise_34 : DC b_Bw_raise 34 (.iadd) 1 35 := ⟨by decide +kernel, rfl⟩
theorem d_Bw_raise_35 : DC b_Bw_raise 35 (.dup2) 1 36 := ⟨by decide +kernel, rfl⟩
theorem d_Bw_raise_36 : DC b_Bw_raise 36 (.iaload) 1 37 := ⟨by decide +kernel, rfl⟩
theorem d_Bw_raise_37 : DC b_Bw_raise 37 (.iload_n 3) 1 38 := ⟨by decide +kernel, rfl⟩
theorem d_Bw_raise_38 : DC b_Bw_raise 38 (.iadd) 1 39 := ⟨by decide +kernel, rfl⟩
theorem d_Bw_raise_39 : DC b_Bw_raise 39 (.iastore) 1 40 := ⟨by decide +kernel, rfl⟩
theorem d_Bw_raise_40 : DC b_Bw_raise 40 (.aload_n 0) 1 41 := ⟨by decide +kernel, rfl⟩
theorem d_Bw_raise_41 : DC b_Bw_raise 41 (.dup) 1 42 := ⟨by decide +kernel, rfl⟩
theorem d_Bw_raise_42 : DC b_Bw_raise 42 (.getfield 16) 3 45 := ⟨by decide +kernel, rfl⟩
theorem d_Bw_raise_45 : DC b_Bw_raise 45 (.iconst 1) 1 46 := ⟨by decide +kernel, rfl⟩
theorem d_Bw_raise_46 : DC b_Bw_raise 46 (.iadd) 1 47 := ⟨by decide +kernel, rfl⟩
theorem d_Bw_raise_47 : DC b_Bw_raise 47 (.putfield 16) 3 50 := ⟨by decide +kernel, rfl⟩
theorem d_Bw_raise_50 : DC b_Bw_raise 50 (.iconst 1) 1 51 := ⟨by decide +kernel, rfl⟩
theorem d_Bw_raise_51 : decode b_Bw_raise 51 = .ok (.ireturn, 1) := by decide +kernel
theorem c_Bw_raise {l : Launch} {Y : Lay} (hY : IsX Y) {μ : Mem} {x1 : Int32} {x2 : Int32} {x3 : Int32} {r : Int32 × Mem} (hf : f_Bw_raise μ x1 x2 x3 = some r) : Ct l Y y_Bw_raise b_Bw_raise 4 (some .boolean) 2 [.ref (yad Y 2), .int x1, .int x2, .int x3] (some (.int r.1)) μ r.2 := by
  refine ct_of (own := "TopYard$Bowl") (lv := [(0, .ref (yad Y 2)), (1, .int x1), (2, .int x2), (3, .int x3)]) (by decide +kernel) rfl (Nat.le_of_ble_eq_true rfl) rfl (fun X hl C => ?_)
  subst hl
  unfold f_Bw_raise at hf
  refine j_aload_n C d_Bw_raise_0 0 rfl ?_
  refine j_gI C fl_Bw_16 (kX hY rfl) (nX hY (by decide)) rfl d_Bw_raise_1 ?_
  refine j_bipush (v := 24) C d_Bw_raise_4 (by decide) ?_
  refine j_icmp_ge C d_Bw_raise_6 hf (fun hf => ?_) (fun hf => ?_)
  · refine j_iconst (v := 0) C d_Bw_raise_17 (by decide) ?_
    obtain rfl := Option.some.inj hf
    exact j_zret C (Or.inl rfl) d_Bw_raise_18
  · refine j_iload_n C d_Bw_raise_9 1 rfl ?_
    refine j_iload_n C d_Bw_raise_10 2 rfl ?_
    refine bd hf (fun v1 hc6 hf => ?_)
    refine j_cS (rest := []) C lk_Bw_23 (c_Bw_mayDent hY hc6) rfl (by decide) rfl (Nat.le_of_ble_eq_true rfl) d_Bw_raise_11 ?_
    refine j_if_ne C d_Bw_raise_14 hf (fun hf => ?_) (fun hf => ?_)
    · refine j_aload_n C d_Bw_raise_19 0 rfl ?_
      refine j_gS (b := 3) C fl_Bw_19 (kX hY rfl) (nX hY (by decide)) rfl hY.2.2.2.1 rfl (sX hY rfl) d_Bw_raise_20 ?_
      refine j_iload_n C d_Bw_raise_23 1 rfl ?_
      refine j_bipush (v := 31) C d_Bw_raise_24 (by decide) ?_
      refine j_iadd C d_Bw_raise_26 ?_
      refine j_bipush (v := 63) C d_Bw_raise_27 (by decide) ?_
      refine j_imul C d_Bw_raise_29 ?_
      refine j_iload_n C d_Bw_raise_30 2 rfl ?_
      refine j_iadd C d_Bw_raise_31 ?_
      refine j_bipush (v := 31) C d_Bw_raise_32 (by decide) ?_
      refine j_iadd C d_Bw_raise_34 ?_
      refine j_dup2 C d_Bw_raise_35 rfl rfl ?_
      refine ck hf (fun hi2 hf => ?_)
      refine j_iald C (kX hY rfl) (nX hY (by decide)) (lX hY rfl) hi2 d_Bw_raise_36 ?_
      refine j_iload_n C d_Bw_raise_37 3 rfl ?_
      refine j_iadd C d_Bw_raise_38 ?_
      refine ck hf (fun hi3 hf => ?_)
      refine j_iast C (kX hY rfl) (nX hY (by decide)) (lX hY rfl) hi3 d_Bw_raise_39 hf (fun μ4 hf => ?_)
      refine j_aload_n C d_Bw_raise_40 0 rfl ?_
      refine j_dup C d_Bw_raise_41 rfl ?_
      refine j_gI C fl_Bw_16 (kX hY rfl) (nX hY (by decide)) rfl d_Bw_raise_42 ?_
      refine j_iconst (v := 1) C d_Bw_raise_45 (by decide) ?_
      refine j_iadd C d_Bw_raise_46 ?_
      refine j_pI C fl_Bw_16 (kX hY rfl) (nX hY (by decide)) rfl rfl rfl d_Bw_raise_47 hf (fun μ5 hf => ?_)
      refine j_iconst (v := 1) C d_Bw_raise_50 (by decide) ?_
      obtain rfl := Option.some.inj hf
      exact j_zret C (Or.inr rfl) d_Bw_raise_51
    · refine j_iconst (v := 0) C d_Bw_raise_17 (by decide) ?_
      obtain rfl := Option.some.inj hf
      exact j_zret C (Or.inl rfl) d_Bw_raise_18
theorem d_X_dent_0 : DC b_X_dent 0 (.iload_n 1) 1 1 := ⟨by decide +kernel, rfl⟩
theorem d_X_dent_1 : DC b_X_dent 1 (.iload_n 2) 1 2 := ⟨by decide +kernel, rfl⟩
theorem d_X_dent_2 : DC b_X_dent 2 (.invokestatic 138) 3 5 := ⟨by decide +kernel, rfl⟩
theorem d_X_dent_5 : DB b_X_dent 5 (.ifCond .eq 14) 14 19 8 := ⟨by decide +kernel, by decide, rfl⟩
theorem d_X_dent_8 : DC b_X_dent 8 (.iload_n 3) 1 9 := ⟨by decide +kernel, rfl⟩
theorem d_X_dent_9 : DC b_X_dent 9 (.bipush (-20)) 2 11 := ⟨by decide +kernel, rfl⟩
theorem d_X_dent_11 : DC b_X_dent 11 (.bipush 20) 2 13 := ⟨by decide +kernel, rfl⟩
theorem d_X_dent_13 : DC b_X_dent 13 (.invokestatic 90) 3 16 := ⟨by decide +kernel, rfl⟩
theorem d_X_dent_16 : DB b_X_dent 16 (.ifCond .ne 6) 6 22 19 := ⟨by decide +kernel, by decide, rfl⟩
theorem d_X_dent_19 : DC b_X_dent 19 (.bipush (-2)) 2 21 := ⟨by decide +kernel, rfl⟩
theorem d_X_dent_21 : decode b_X_dent 21 = .ok (.ireturn, 1) := by decide +kernel
theorem d_X_dent_22 : DC b_X_dent 22 (.aload_n 0) 1 23 := ⟨by decide +kernel, rfl⟩
theorem d_X_dent_23 : DC b_X_dent 23 (.getfield 22) 3 26 := ⟨by decide +kernel, rfl⟩
theorem d_X_dent_26 : DC b_X_dent 26 (.iload_n 1) 1 27 := ⟨by decide +kernel, rfl⟩
theorem d_X_dent_27 : DC b_X_dent 27 (.iload_n 2) 1 28 := ⟨by decide +kernel, rfl⟩
theorem d_X_dent_28 : DC b_X_dent 28 (.iload_n 3) 1 29 := ⟨by decide +kernel, rfl⟩
theorem d_X_dent_29 : DC b_X_dent 29 (.invokevirtual 142) 3 32 := ⟨by decide +kernel, rfl⟩
theorem d_X_dent_32 : DB b_X_dent 32 (.ifCond .eq 13) 13 45 35 := ⟨by decide +kernel, by decide, rfl⟩
theorem d_X_dent_35 : DC b_X_dent 35 (.aload_n 0) 1 36 := ⟨by decide +kernel, rfl⟩
theorem d_X_dent_36 : DC b_X_dent 36 (.getfield 22) 3 39 := ⟨by decide +kernel, rfl⟩
theorem d_X_dent_39 : DC b_X_dent 39 (.getfield 145) 3 42 := ⟨by decide +kernel, rfl⟩
theorem d_X_dent_42 : DB b_X_dent 42 (.goto 5) 5 47 45 := ⟨by decide +kernel, by decide, rfl⟩
theorem d_X_dent_45 : DC b_X_dent 45 (.bipush (-4)) 2 47 := ⟨by decide +kernel, rfl⟩
theorem d_X_dent_47 : decode b_X_dent 47 = .ok (.ireturn, 1) := by decide +kernel
theorem c_X_dent {l : Launch} {Y : Lay} (hY : IsX Y) {μ : Mem} {x1 : Int32} {x2 : Int32} {x3 : Int32} {r : Int32 × Mem} (hf : f_X_dent μ x1 x2 x3 = some r) : Ct l Y y_X_dent b_X_dent 4 (some .int) 3 [.ref (yad Y 0), .int x1, .int x2, .int x3] (some (.int r.1)) μ r.2 := by
  refine ct_of (own := "TopYard") (lv := [(0, .ref (yad Y 0)), (1, .int x1), (2, .int x2), (3, .int x3)]) (by decide +kernel) rfl (Nat.le_of_ble_eq_true rfl) rfl (fun X hl C => ?_)
  subst hl
  unfold f_X_dent at hf
  refine j_iload_n C d_X_dent_0 1 rfl ?_
  refine j_iload_n C d_X_dent_1 2 rfl ?_
  refine bd hf (fun v1 hc7 hf => ?_)
  refine j_cS (rest := []) C lk_X_138 (c_Bw_mayDent hY hc7) rfl (by decide) rfl (Nat.le_of_ble_eq_true rfl) d_X_dent_2 ?_
  refine j_if_eq C d_X_dent_5 hf (fun hf => ?_) (fun hf => ?_)
  · refine j_bipush (v := (-2)) C d_X_dent_19 (by decide) ?_
    obtain rfl := Option.some.inj hf
    exact j_iret C d_X_dent_21
  · refine j_iload_n C d_X_dent_8 3 rfl ?_
    refine j_bipush (v := (-20)) C d_X_dent_9 (by decide) ?_
    refine j_bipush (v := 20) C d_X_dent_11 (by decide) ?_
    refine bd hf (fun v2 hc6 hf => ?_)
    refine j_cS (rest := []) C lk_X_90 (c_X_within hY hc6) rfl (by decide) rfl (Nat.le_of_ble_eq_true rfl) d_X_dent_13 ?_
    refine j_if_ne C d_X_dent_16 hf (fun hf => ?_) (fun hf => ?_)
    · refine j_aload_n C d_X_dent_22 0 rfl ?_
      refine j_gS (b := 2) C fl_X_22 (kX hY rfl) (nX hY (by decide)) rfl hY.2.2.2.1 rfl (sX hY rfl) d_X_dent_23 ?_
      refine j_iload_n C d_X_dent_26 1 rfl ?_
      refine j_iload_n C d_X_dent_27 2 rfl ?_
      refine j_iload_n C d_X_dent_28 3 rfl ?_
      refine bd2 hf (fun v3 μ4 hc5 hf => ?_)
      refine j_cV (rest := []) C lk_X_142 (c_Bw_raise hY hc5) rfl (kX hY rfl) (nX hY (by decide)) (by decide) rfl rfl (by decide) rfl (Nat.le_of_ble_eq_true rfl) d_X_dent_29 ?_
      refine j_if_eq C d_X_dent_32 hf (fun hf => ?_) (fun hf => ?_)
      · refine j_bipush (v := (-4)) C d_X_dent_45 (by decide) ?_
        obtain rfl := Option.some.inj hf
        exact j_iret C d_X_dent_47
      · refine j_aload_n C d_X_dent_35 0 rfl ?_
        refine j_gS (b := 2) C fl_X_22 (kX hY rfl) (nX hY (by decide)) rfl hY.2.2.2.1 rfl (sX hY rfl) d_X_dent_36 ?_
        refine j_gI C fl_X_145 (kX hY rfl) (nX hY (by decide)) rfl d_X_dent_39 ?_
        refine j_goto C d_X_dent_42 ?_
        obtain rfl := Option.some.inj hf
        exact j_iret C d_X_dent_47
    · refine j_bipush (v := (-2)) C d_X_dent_19 (by decide) ?_
      obtain rfl := Option.some.inj hf
      exact j_iret C d_X_dent_21
theorem d_JA_fill_0 : DC b_JA_fill 0 (.iconst 0) 1 1 := ⟨by decide +kernel, rfl⟩
theorem d_JA_fill_1 : DC b_JA_fill 1 (.istore_n 2) 1 2 := ⟨by decide +kernel, rfl⟩
theorem d_JA_fill_2 : DC b_JA_fill 2 (.aload_n 0) 1 3 := ⟨by decide +kernel, rfl⟩
theorem d_JA_fill_3 : DC b_JA_fill 3 (.arraylength) 1 4 := ⟨by decide +kernel, rfl⟩
theorem d_JA_fill_4 : DC b_JA_fill 4 (.istore_n 3) 1 5 := ⟨by decide +kernel, rfl⟩
theorem d_JA_fill_5 : DC b_JA_fill 5 (.iload_n 2) 1 6 := ⟨by decide +kernel, rfl⟩
theorem d_JA_fill_6 : DC b_JA_fill 6 (.iload_n 3) 1 7 := ⟨by decide +kernel, rfl⟩
theorem d_JA_fill_7 : DB b_JA_fill 7 (.if_icmp .ge 13) 13 20 10 := ⟨by decide +kernel, by decide, rfl⟩
theorem d_JA_fill_10 : DC b_JA_fill 10 (.aload_n 0) 1 11 := ⟨by decide +kernel, rfl⟩
theorem d_JA_fill_11 : DC b_JA_fill 11 (.iload_n 2) 1 12 := ⟨by decide +kernel, rfl⟩
theorem d_JA_fill_12 : DC b_JA_fill 12 (.iload_n 1) 1 13 := ⟨by decide +kernel, rfl⟩
theorem d_JA_fill_13 : DC b_JA_fill 13 (.iastore) 1 14 := ⟨by decide +kernel, rfl⟩
theorem d_JA_fill_14 : DC b_JA_fill 14 (.iinc 2 1) 3 17 := ⟨by decide +kernel, rfl⟩
theorem d_JA_fill_17 : DB b_JA_fill 17 (.goto (-12)) (-12) 5 20 := ⟨by decide +kernel, by decide, rfl⟩
theorem d_JA_fill_20 : decode b_JA_fill 20 = .ok (.return_, 1) := by decide +kernel
theorem w_JA_fill_l5 {X : Ctx} {Y : Lay} (hY : IsX Y) (C : Cx X Y b_JA_fill 4 none "java/util/Arrays" 1) {N : Nat} {r : Mem} : ∀ (n : Nat) (a0 : Nat) (x1 : Int32) (x2 : Int32) (x3 : Int32) (μ : Mem) (g0 : ykd Y a0 = 11 ∧ a0 < yn Y), f_JA_fill_l5 N n a0 x1 x2 x3 μ = some r → J X Y none r 4 5 [(0, .ref (yad Y a0)), (1, .int x1), (2, .int x2), (3, .int x3)] [] μ := by
  intro n
  induction n with
  | zero => intro a0 x1 x2 x3 μ g0 hf; rw [f_JA_fill_l5] at hf; cases hf
  | succ n ih =>
    intro a0 x1 x2 x3 μ g0 hf
    rw [f_JA_fill_l5] at hf
    refine j_iload_n C d_JA_fill_5 2 rfl ?_
    refine j_iload_n C d_JA_fill_6 3 rfl ?_
    refine j_icmp_ge C d_JA_fill_7 hf (fun hf => ?_) (fun hf => ?_)
    · obtain rfl := Option.some.inj hf
      exact j_vret C d_JA_fill_20
    · refine j_aload_n C d_JA_fill_10 0 rfl ?_
      refine j_iload_n C d_JA_fill_11 2 rfl ?_
      refine j_iload_n C d_JA_fill_12 1 rfl ?_
      refine ck hf (fun hi1 hf => ?_)
      refine j_iast C g0.1 g0.2 (lX hY rfl) hi1 d_JA_fill_13 hf (fun μ2 hf => ?_)
      refine j_iinc (lvf := [(0, .ref (yad Y a0)), (1, .int x1), (3, .int x3)]) (v := 1) C d_JA_fill_14 2 rfl (by decide) (by decide) rfl hf (fun v3 hf => ?_)
      refine j_goto C d_JA_fill_17 ?_
      refine j_sub [1, 2, 0, 3] rfl ?_
      exact ih a0 x1 v3 x3 μ2 ⟨g0.1, g0.2⟩ hf
theorem c_JA_fill {l : Launch} {Y : Lay} (hY : IsX Y) {N : Nat} {μ : Mem} {a0 : Nat} {x1 : Int32} (g0 : ykd Y a0 = 11 ∧ a0 < yn Y) {r : Mem} (hf : f_JA_fill N μ a0 x1 = some r) : Ct l Y y_JA_fill b_JA_fill 4 none 1 [.ref (yad Y a0), .int x1] none μ r := by
  refine ct_of (own := "java/util/Arrays") (lv := [(0, .ref (yad Y a0)), (1, .int x1)]) (by decide +kernel) rfl (Nat.le_of_ble_eq_true rfl) rfl (fun X hl C => ?_)
  subst hl
  unfold f_JA_fill at hf
  refine j_iconst (v := 0) C d_JA_fill_0 (by decide) ?_
  refine j_istore_n (lvf := [(0, .ref (yad Y a0)), (1, .int x1)]) C d_JA_fill_1 (by decide) rfl ?_
  refine j_aload_n C d_JA_fill_2 1 rfl ?_
  refine j_alen C g0.1 g0.2 (lX hY rfl) d_JA_fill_3 ?_
  refine j_istore_nN (lvf := [(2, .int 0), (0, .ref (yad Y a0)), (1, .int x1)]) C d_JA_fill_4 (by decide) rfl hf (fun v1 hf => ?_)
  refine j_sub [2, 3, 1, 0] rfl ?_
  exact w_JA_fill_l5 hY C N a0 x1 0 v1 μ ⟨g0.1, g0.2⟩ hf
theorem d_Bw_flatten_0 : DC b_Bw_flatten 0 (.aload_n 0) 1 1 := ⟨by decide +kernel, rfl⟩
theorem d_Bw_flatten_1 : DC b_Bw_flatten 1 (.getfield 19) 3 4 := ⟨by decide +kernel, rfl⟩
theorem d_Bw_flatten_4 : DC b_Bw_flatten 4 (.iconst 0) 1 5 := ⟨by decide +kernel, rfl⟩
theorem d_Bw_flatten_5 : DC b_Bw_flatten 5 (.invokestatic 27) 3 8 := ⟨by decide +kernel, rfl⟩
theorem d_Bw_flatten_8 : DC b_Bw_flatten 8 (.aload_n 0) 1 9 := ⟨by decide +kernel, rfl⟩
theorem d_Bw_flatten_9 : DC b_Bw_flatten 9 (.iconst 0) 1 10 := ⟨by decide +kernel, rfl⟩
theorem d_Bw_flatten_10 : DC b_Bw_flatten 10 (.putfield 16) 3 13 := ⟨by decide +kernel, rfl⟩
theorem d_Bw_flatten_13 : decode b_Bw_flatten 13 = .ok (.return_, 1) := by decide +kernel
theorem c_Bw_flatten {l : Launch} {Y : Lay} (hY : IsX Y) {N : Nat} {μ : Mem} {r : Mem} (hf : f_Bw_flatten N μ = some r) : Ct l Y y_Bw_flatten b_Bw_flatten 1 none 2 [.ref (yad Y 2)] none μ r := by
  refine ct_of (own := "TopYard$Bowl") (lv := [(0, .ref (yad Y 2))]) (by decide +kernel) rfl (Nat.le_of_ble_eq_true rfl) rfl (fun X hl C => ?_)
  subst hl
  unfold f_Bw_flatten at hf
  refine j_aload_n C d_Bw_flatten_0 0 rfl ?_
  refine j_gS (b := 3) C fl_Bw_19 (kX hY rfl) (nX hY (by decide)) rfl hY.2.2.2.1 rfl (sX hY rfl) d_Bw_flatten_1 ?_
  refine j_iconst (v := 0) C d_Bw_flatten_4 (by decide) ?_
  refine bd hf (fun μ1 hc3 hf => ?_)
  refine j_cS (rest := []) C lk_Bw_27 (c_JA_fill hY ⟨(kX hY rfl), (nX hY (by decide))⟩ hc3) rfl (by decide) rfl (Nat.le_of_ble_eq_true rfl) d_Bw_flatten_5 ?_
  refine j_aload_n C d_Bw_flatten_8 0 rfl ?_
  refine j_iconst (v := 0) C d_Bw_flatten_9 (by decide) ?_
  refine j_pI C fl_Bw_16 (kX hY rfl) (nX hY (by decide)) rfl rfl rfl d_Bw_flatten_10 hf (fun μ2 hf => ?_)
  obtain rfl := Option.some.inj hf
  exact j_vret C d_Bw_flatten_13
theorem d_X_smooth_0 : DC b_X_smooth 0 (.aload_n 0) 1 1 := ⟨by decide +kernel, rfl⟩
theorem d_X_smooth_1 : DC b_X_smooth 1 (.getfield 22) 3 4 := ⟨by decide +kernel, rfl⟩
theorem d_X_smooth_4 : DC b_X_smooth 4 (.getfield 145) 3 7 := ⟨by decide +kernel, rfl⟩
theorem d_X_smooth_7 : DC b_X_smooth 7 (.istore_n 1) 1 8 := ⟨by decide +kernel, rfl⟩
theorem d_X_smooth_8 : DC b_X_smooth 8 (.aload_n 0) 1 9 := ⟨by decide +kernel, rfl⟩
theorem d_X_smooth_9 : DC b_X_smooth 9 (.getfield 22) 3 12 := ⟨by decide +kernel, rfl⟩
theorem d_X_smooth_12 : DC b_X_smooth 12 (.invokevirtual 148) 3 15 := ⟨by decide +kernel, rfl⟩
theorem d_X_smooth_15 : DC b_X_smooth 15 (.iload_n 1) 1 16 := ⟨by decide +kernel, rfl⟩
theorem d_X_smooth_16 : decode b_X_smooth 16 = .ok (.ireturn, 1) := by decide +kernel
theorem c_X_smooth {l : Launch} {Y : Lay} (hY : IsX Y) {N : Nat} {μ : Mem} {r : Int32 × Mem} (hf : f_X_smooth N μ = some r) : Ct l Y y_X_smooth b_X_smooth 2 (some .int) 3 [.ref (yad Y 0)] (some (.int r.1)) μ r.2 := by
  refine ct_of (own := "TopYard") (lv := [(0, .ref (yad Y 0))]) (by decide +kernel) rfl (Nat.le_of_ble_eq_true rfl) rfl (fun X hl C => ?_)
  subst hl
  unfold f_X_smooth at hf
  refine j_aload_n C d_X_smooth_0 0 rfl ?_
  refine j_gS (b := 2) C fl_X_22 (kX hY rfl) (nX hY (by decide)) rfl hY.2.2.2.1 rfl (sX hY rfl) d_X_smooth_1 ?_
  refine j_gI C fl_X_145 (kX hY rfl) (nX hY (by decide)) rfl d_X_smooth_4 ?_
  refine j_istore_nN (lvf := [(0, .ref (yad Y 0))]) C d_X_smooth_7 (by decide) rfl hf (fun v1 hf => ?_)
  refine j_aload_n C d_X_smooth_8 1 rfl ?_
  refine j_gS (b := 2) C fl_X_22 (kX hY rfl) (nX hY (by decide)) rfl hY.2.2.2.1 rfl (sX hY rfl) d_X_smooth_9 ?_
  refine bd hf (fun μ2 hc3 hf => ?_)
  refine j_cV (rest := []) C lk_X_148 (c_Bw_flatten hY hc3) rfl (kX hY rfl) (nX hY (by decide)) (by decide) rfl rfl (by decide) rfl (Nat.le_of_ble_eq_true rfl) d_X_smooth_12 ?_
  refine j_iload_n C d_X_smooth_15 0 rfl ?_
  obtain rfl := Option.some.inj hf
  exact j_iret C d_X_smooth_16
theorem d_Bw_heightAt_0 : DC b_Bw_heightAt 0 (.iload_n 1) 1 1 := ⟨by decide +kernel, rfl⟩
theorem d_Bw_heightAt_1 : DC b_Bw_heightAt 1 (.iload_n 1) 1 2 := ⟨by decide +kernel, rfl⟩
theorem d_Bw_heightAt_2 : DC b_Bw_heightAt 2 (.imul) 1 3 := ⟨by decide +kernel, rfl⟩
theorem d_Bw_heightAt_3 : DC b_Bw_heightAt 3 (.iload_n 2) 1 4 := ⟨by decide +kernel, rfl⟩
theorem d_Bw_heightAt_4 : DC b_Bw_heightAt 4 (.iload_n 2) 1 5 := ⟨by decide +kernel, rfl⟩
theorem d_Bw_heightAt_5 : DC b_Bw_heightAt 5 (.imul) 1 6 := ⟨by decide +kernel, rfl⟩
theorem d_Bw_heightAt_6 : DC b_Bw_heightAt 6 (.iadd) 1 7 := ⟨by decide +kernel, rfl⟩
theorem d_Bw_heightAt_7 : DC b_Bw_heightAt 7 (.iconst 2) 1 8 := ⟨by decide +kernel, rfl⟩
theorem d_Bw_heightAt_8 : DC b_Bw_heightAt 8 (.idiv) 1 9 := ⟨by decide +kernel, rfl⟩
theorem d_Bw_heightAt_9 : DC b_Bw_heightAt 9 (.istore_n 3) 1 10 := ⟨by decide +kernel, rfl⟩
theorem d_Bw_heightAt_10 : DC b_Bw_heightAt 10 (.iload_n 1) 1 11 := ⟨by decide +kernel, rfl⟩
theorem d_Bw_heightAt_11 : DC b_Bw_heightAt 11 (.bipush (-31)) 2 13 := ⟨by decide +kernel, rfl⟩
theorem d_Bw_heightAt_13 : DB b_Bw_heightAt 13 (.if_icmp .lt 21) 21 34 16 := ⟨by decide +kernel, by decide, rfl⟩
theorem d_Bw_heightAt_16 : DC b_Bw_heightAt 16 (.iload_n 1) 1 17 := ⟨by decide +kernel, rfl⟩
theorem d_Bw_heightAt_17 : DC b_Bw_heightAt 17 (.bipush 31) 2 19 := ⟨by decide +kernel, rfl⟩
theorem d_Bw_heightAt_19 : DB b_Bw_heightAt 19 (.if_icmp .gt 15) 15 34 22 := ⟨by decide +kernel, by decide, rfl⟩
theorem d_Bw_heightAt_22 : DC b_Bw_heightAt 22 (.iload_n 2) 1 23 := ⟨by decide +kernel, rfl⟩
theorem d_Bw_heightAt_23 : DC b_Bw_heightAt 23 (.bipush (-31)) 2 25 := ⟨by decide +kernel, rfl⟩
theorem d_Bw_heightAt_25 : DB b_Bw_heightAt 25 (.if_icmp .lt 9) 9 34 28 := ⟨by decide +kernel, by decide, rfl⟩
theorem d_Bw_heightAt_28 : DC b_Bw_heightAt 28 (.iload_n 2) 1 29 := ⟨by decide +kernel, rfl⟩
theorem d_Bw_heightAt_29 : DC b_Bw_heightAt 29 (.bipush 31) 2 31 := ⟨by decide +kernel, rfl⟩
theorem d_Bw_heightAt_31 : DB b_Bw_heightAt 31 (.if_icmp .le 5) 5 36 34 := ⟨by decide +kernel, by decide, rfl⟩
theorem d_Bw_heightAt_34 : DC b_Bw_heightAt 34 (.iload_n 3) 1 35 := ⟨by decide +kernel, rfl⟩
theorem d_Bw_heightAt_35 : decode b_Bw_heightAt 35 = .ok (.ireturn, 1) := by decide +kernel
theorem d_Bw_heightAt_36 : DC b_Bw_heightAt 36 (.iload_n 3) 1 37 := ⟨by decide +kernel, rfl⟩
theorem d_Bw_heightAt_37 : DC b_Bw_heightAt 37 (.aload_n 0) 1 38 := ⟨by decide +kernel, rfl⟩
theorem d_Bw_heightAt_38 : DC b_Bw_heightAt 38 (.getfield 19) 3 41 := ⟨by decide +kernel, rfl⟩
theorem d_Bw_heightAt_41 : DC b_Bw_heightAt 41 (.iload_n 1) 1 42 := ⟨by decide +kernel, rfl⟩
theorem d_Bw_heightAt_42 : DC b_Bw_heightAt 42 (.bipush 31) 2 44 := ⟨by decide +kernel, rfl⟩
theorem d_Bw_heightAt_44 : DC b_Bw_heightAt 44 (.iadd) 1 45 := ⟨by decide +kernel, rfl⟩
theorem d_Bw_heightAt_45 : DC b_Bw_heightAt 45 (.bipush 63) 2 47 := ⟨by decide +kernel, rfl⟩
theorem d_Bw_heightAt_47 : DC b_Bw_heightAt 47 (.imul) 1 48 := ⟨by decide +kernel, rfl⟩
theorem d_Bw_heightAt_48 : DC b_Bw_heightAt 48 (.iload_n 2) 1 49 := ⟨by decide +kernel, rfl⟩
theorem d_Bw_heightAt_49 : DC b_Bw_heightAt 49 (.iadd) 1 50 := ⟨by decide +kernel, rfl⟩
theorem d_Bw_heightAt_50 : DC b_Bw_heightAt 50 (.bipush 31) 2 52 := ⟨by decide +kernel, rfl⟩
theorem d_Bw_heightAt_52 : DC b_Bw_heightAt 52 (.iadd) 1 53 := ⟨by decide +kernel, rfl⟩
theorem d_Bw_heightAt_53 : DC b_Bw_heightAt 53 (.iaload) 1 54 := ⟨by decide +kernel, rfl⟩
theorem d_Bw_heightAt_54 : DC b_Bw_heightAt 54 (.iadd) 1 55 := ⟨by decide +kernel, rfl⟩
theorem d_Bw_heightAt_55 : decode b_Bw_heightAt 55 = .ok (.ireturn, 1) := by decide +kernel
theorem c_Bw_heightAt {l : Launch} {Y : Lay} (hY : IsX Y) {μ : Mem} {x1 : Int32} {x2 : Int32} {r : Int32} (hf : f_Bw_heightAt μ x1 x2 = some r) : Ct l Y y_Bw_heightAt b_Bw_heightAt 4 (some .int) 1 [.ref (yad Y 2), .int x1, .int x2] (some (.int r)) μ μ := by
  refine ct_of (own := "TopYard$Bowl") (lv := [(0, .ref (yad Y 2)), (1, .int x1), (2, .int x2)]) (by decide +kernel) rfl (Nat.le_of_ble_eq_true rfl) rfl (fun X hl C => ?_)
  subst hl
  unfold f_Bw_heightAt at hf
  refine j_iload_n C d_Bw_heightAt_0 1 rfl ?_
  refine j_iload_n C d_Bw_heightAt_1 1 rfl ?_
  refine j_imul C d_Bw_heightAt_2 ?_
  refine j_iload_n C d_Bw_heightAt_3 2 rfl ?_
  refine j_iload_n C d_Bw_heightAt_4 2 rfl ?_
  refine j_imul C d_Bw_heightAt_5 ?_
  refine j_iadd C d_Bw_heightAt_6 ?_
  refine j_iconst (v := 2) C d_Bw_heightAt_7 (by decide) ?_
  refine j_idiv C d_Bw_heightAt_8 (by decide) ?_
  refine j_istore_nN (lvf := [(0, .ref (yad Y 2)), (1, .int x1), (2, .int x2)]) C d_Bw_heightAt_9 (by decide) rfl hf (fun v1 hf => ?_)
  refine j_iload_n C d_Bw_heightAt_10 2 rfl ?_
  refine j_bipush (v := (-31)) C d_Bw_heightAt_11 (by decide) ?_
  refine j_icmp_lt C d_Bw_heightAt_13 hf (fun hf => ?_) (fun hf => ?_)
  · refine j_iload_n C d_Bw_heightAt_34 0 rfl ?_
    obtain rfl := Option.some.inj hf
    exact j_iret C d_Bw_heightAt_35
  · refine j_iload_n C d_Bw_heightAt_16 2 rfl ?_
    refine j_bipush (v := 31) C d_Bw_heightAt_17 (by decide) ?_
    refine j_icmp_gt C d_Bw_heightAt_19 hf (fun hf => ?_) (fun hf => ?_)
    · refine j_iload_n C d_Bw_heightAt_34 0 rfl ?_
      obtain rfl := Option.some.inj hf
      exact j_iret C d_Bw_heightAt_35
    · refine j_iload_n C d_Bw_heightAt_22 3 rfl ?_
      refine j_bipush (v := (-31)) C d_Bw_heightAt_23 (by decide) ?_
      refine j_icmp_lt C d_Bw_heightAt_25 hf (fun hf => ?_) (fun hf => ?_)
      · refine j_iload_n C d_Bw_heightAt_34 0 rfl ?_
        obtain rfl := Option.some.inj hf
        exact j_iret C d_Bw_heightAt_35
      · refine j_iload_n C d_Bw_heightAt_28 3 rfl ?_
        refine j_bipush (v := 31) C d_Bw_heightAt_29 (by decide) ?_
        refine j_icmp_le C d_Bw_heightAt_31 hf (fun hf => ?_) (fun hf => ?_)
        · refine j_iload_n C d_Bw_heightAt_36 0 rfl ?_
          refine j_aload_n C d_Bw_heightAt_37 1 rfl ?_
          refine j_gS (b := 3) C fl_Bw_19 (kX hY rfl) (nX hY (by decide)) rfl hY.2.2.2.1 rfl (sX hY rfl) d_Bw_heightAt_38 ?_
          refine j_iload_n C d_Bw_heightAt_41 2 rfl ?_
          refine j_bipush (v := 31) C d_Bw_heightAt_42 (by decide) ?_
          refine j_iadd C d_Bw_heightAt_44 ?_
          refine j_bipush (v := 63) C d_Bw_heightAt_45 (by decide) ?_
          refine j_imul C d_Bw_heightAt_47 ?_
          refine j_iload_n C d_Bw_heightAt_48 3 rfl ?_
          refine j_iadd C d_Bw_heightAt_49 ?_
          refine j_bipush (v := 31) C d_Bw_heightAt_50 (by decide) ?_
          refine j_iadd C d_Bw_heightAt_52 ?_
          refine ck hf (fun hi2 hf => ?_)
          refine j_iald C (kX hY rfl) (nX hY (by decide)) (lX hY rfl) hi2 d_Bw_heightAt_53 ?_
          refine j_iadd C d_Bw_heightAt_54 ?_
          obtain rfl := Option.some.inj hf
          exact j_iret C d_Bw_heightAt_55
        · refine j_iload_n C d_Bw_heightAt_34 0 rfl ?_
          obtain rfl := Option.some.inj hf
          exact j_iret C d_Bw_heightAt_35
theorem d_Bw_slopeAlongX_0 : DC b_Bw_slopeAlongX 0 (.aload_n 0) 1 1 := ⟨by decide +kernel, rfl⟩
theorem d_Bw_slopeAlongX_1 : DC b_Bw_slopeAlongX 1 (.iload_n 1) 1 2 := ⟨by decide +kernel, rfl⟩
theorem d_Bw_slopeAlongX_2 : DC b_Bw_slopeAlongX 2 (.iconst 1) 1 3 := ⟨by decide +kernel, rfl⟩
theorem d_Bw_slopeAlongX_3 : DC b_Bw_slopeAlongX 3 (.iadd) 1 4 := ⟨by decide +kernel, rfl⟩
theorem d_Bw_slopeAlongX_4 : DC b_Bw_slopeAlongX 4 (.iload_n 2) 1 5 := ⟨by decide +kernel, rfl⟩
theorem d_Bw_slopeAlongX_5 : DC b_Bw_slopeAlongX 5 (.invokevirtual 33) 3 8 := ⟨by decide +kernel, rfl⟩
theorem d_Bw_slopeAlongX_8 : DC b_Bw_slopeAlongX 8 (.aload_n 0) 1 9 := ⟨by decide +kernel, rfl⟩
theorem d_Bw_slopeAlongX_9 : DC b_Bw_slopeAlongX 9 (.iload_n 1) 1 10 := ⟨by decide +kernel, rfl⟩
theorem d_Bw_slopeAlongX_10 : DC b_Bw_slopeAlongX 10 (.iconst 1) 1 11 := ⟨by decide +kernel, rfl⟩
theorem d_Bw_slopeAlongX_11 : DC b_Bw_slopeAlongX 11 (.isub) 1 12 := ⟨by decide +kernel, rfl⟩
theorem d_Bw_slopeAlongX_12 : DC b_Bw_slopeAlongX 12 (.iload_n 2) 1 13 := ⟨by decide +kernel, rfl⟩
theorem d_Bw_slopeAlongX_13 : DC b_Bw_slopeAlongX 13 (.invokevirtual 33) 3 16 := ⟨by decide +kernel, rfl⟩
theorem d_Bw_slopeAlongX_16 : DC b_Bw_slopeAlongX 16 (.isub) 1 17 := ⟨by decide +kernel, rfl⟩
theorem d_Bw_slopeAlongX_17 : decode b_Bw_slopeAlongX 17 = .ok (.ireturn, 1) := by decide +kernel
theorem c_Bw_slopeAlongX {l : Launch} {Y : Lay} (hY : IsX Y) {μ : Mem} {x1 : Int32} {x2 : Int32} {r : Int32} (hf : f_Bw_slopeAlongX μ x1 x2 = some r) : Ct l Y y_Bw_slopeAlongX b_Bw_slopeAlongX 3 (some .int) 2 [.ref (yad Y 2), .int x1, .int x2] (some (.int r)) μ μ := by
  refine ct_of (own := "TopYard$Bowl") (lv := [(0, .ref (yad Y 2)), (1, .int x1), (2, .int x2)]) (by decide +kernel) rfl (Nat.le_of_ble_eq_true rfl) rfl (fun X hl C => ?_)
  subst hl
  unfold f_Bw_slopeAlongX at hf
  refine j_aload_n C d_Bw_slopeAlongX_0 0 rfl ?_
  refine j_iload_n C d_Bw_slopeAlongX_1 1 rfl ?_
  refine j_iconst (v := 1) C d_Bw_slopeAlongX_2 (by decide) ?_
  refine j_iadd C d_Bw_slopeAlongX_3 ?_
  refine j_iload_n C d_Bw_slopeAlongX_4 2 rfl ?_
  refine bd hf (fun v1 hc4 hf => ?_)
  refine j_cV (rest := []) C lk_Bw_33 (c_Bw_heightAt hY hc4) rfl (kX hY rfl) (nX hY (by decide)) (by decide) rfl rfl (by decide) rfl (Nat.le_of_ble_eq_true rfl) d_Bw_slopeAlongX_5 ?_
  refine j_aload_n C d_Bw_slopeAlongX_8 0 rfl ?_
  refine j_iload_n C d_Bw_slopeAlongX_9 1 rfl ?_
  refine j_iconst (v := 1) C d_Bw_slopeAlongX_10 (by decide) ?_
  refine j_isub C d_Bw_slopeAlongX_11 ?_
  refine j_iload_n C d_Bw_slopeAlongX_12 2 rfl ?_
  refine bd hf (fun v2 hc3 hf => ?_)
  refine j_cV (rest := [.int v1]) C lk_Bw_33 (c_Bw_heightAt hY hc3) rfl (kX hY rfl) (nX hY (by decide)) (by decide) rfl rfl (by decide) rfl (Nat.le_of_ble_eq_true rfl) d_Bw_slopeAlongX_13 ?_
  refine j_isub C d_Bw_slopeAlongX_16 ?_
  obtain rfl := Option.some.inj hf
  exact j_iret C d_Bw_slopeAlongX_17
theorem d_Bw_slopeAlongY_0 : DC b_Bw_slopeAlongY 0 (.aload_n 0) 1 1 := ⟨by decide +kernel, rfl⟩
theorem d_Bw_slopeAlongY_1 : DC b_Bw_slopeAlongY 1 (.iload_n 1) 1 2 := ⟨by decide +kernel, rfl⟩
theorem d_Bw_slopeAlongY_2 : DC b_Bw_slopeAlongY 2 (.iload_n 2) 1 3 := ⟨by decide +kernel, rfl⟩
theorem d_Bw_slopeAlongY_3 : DC b_Bw_slopeAlongY 3 (.iconst 1) 1 4 := ⟨by decide +kernel, rfl⟩
theorem d_Bw_slopeAlongY_4 : DC b_Bw_slopeAlongY 4 (.iadd) 1 5 := ⟨by decide +kernel, rfl⟩
theorem d_Bw_slopeAlongY_5 : DC b_Bw_slopeAlongY 5 (.invokevirtual 33) 3 8 := ⟨by decide +kernel, rfl⟩
theorem d_Bw_slopeAlongY_8 : DC b_Bw_slopeAlongY 8 (.aload_n 0) 1 9 := ⟨by decide +kernel, rfl⟩
theorem d_Bw_slopeAlongY_9 : DC b_Bw_slopeAlongY 9 (.iload_n 1) 1 10 := ⟨by decide +kernel, rfl⟩
theorem d_Bw_slopeAlongY_10 : DC b_Bw_slopeAlongY 10 (.iload_n 2) 1 11 := ⟨by decide +kernel, rfl⟩
theorem d_Bw_slopeAlongY_11 : DC b_Bw_slopeAlongY 11 (.iconst 1) 1 12 := ⟨by decide +kernel, rfl⟩
theorem d_Bw_slopeAlongY_12 : DC b_Bw_slopeAlongY 12 (.isub) 1 13 := ⟨by decide +kernel, rfl⟩
theorem d_Bw_slopeAlongY_13 : DC b_Bw_slopeAlongY 13 (.invokevirtual 33) 3 16 := ⟨by decide +kernel, rfl⟩
theorem d_Bw_slopeAlongY_16 : DC b_Bw_slopeAlongY 16 (.isub) 1 17 := ⟨by decide +kernel, rfl⟩
theorem d_Bw_slopeAlongY_17 : decode b_Bw_slopeAlongY 17 = .ok (.ireturn, 1) := by decide +kernel
theorem c_Bw_slopeAlongY {l : Launch} {Y : Lay} (hY : IsX Y) {μ : Mem} {x1 : Int32} {x2 : Int32} {r : Int32} (hf : f_Bw_slopeAlongY μ x1 x2 = some r) : Ct l Y y_Bw_slopeAlongY b_Bw_slopeAlongY 3 (some .int) 2 [.ref (yad Y 2), .int x1, .int x2] (some (.int r)) μ μ := by
  refine ct_of (own := "TopYard$Bowl") (lv := [(0, .ref (yad Y 2)), (1, .int x1), (2, .int x2)]) (by decide +kernel) rfl (Nat.le_of_ble_eq_true rfl) rfl (fun X hl C => ?_)
  subst hl
  unfold f_Bw_slopeAlongY at hf
  refine j_aload_n C d_Bw_slopeAlongY_0 0 rfl ?_
  refine j_iload_n C d_Bw_slopeAlongY_1 1 rfl ?_
  refine j_iload_n C d_Bw_slopeAlongY_2 2 rfl ?_
  refine j_iconst (v := 1) C d_Bw_slopeAlongY_3 (by decide) ?_
  refine j_iadd C d_Bw_slopeAlongY_4 ?_
  refine bd hf (fun v1 hc4 hf => ?_)
  refine j_cV (rest := []) C lk_Bw_33 (c_Bw_heightAt hY hc4) rfl (kX hY rfl) (nX hY (by decide)) (by decide) rfl rfl (by decide) rfl (Nat.le_of_ble_eq_true rfl) d_Bw_slopeAlongY_5 ?_
  refine j_aload_n C d_Bw_slopeAlongY_8 0 rfl ?_
  refine j_iload_n C d_Bw_slopeAlongY_9 1 rfl ?_
  refine j_iload_n C d_Bw_slopeAlongY_10 2 rfl ?_
  refine j_iconst (v := 1) C d_Bw_slopeAlongY_11 (by decide) ?_
  refine j_isub C d_Bw_slopeAlongY_12 ?_
  refine bd hf (fun v2 hc3 hf => ?_)
  refine j_cV (rest := [.int v1]) C lk_Bw_33 (c_Bw_heightAt hY hc3) rfl (kX hY rfl) (nX hY (by decide)) (by decide) rfl rfl (by decide) rfl (Nat.le_of_ble_eq_true rfl) d_Bw_slopeAlongY_13 ?_
  refine j_isub C d_Bw_slopeAlongY_16 ?_
  obtain rfl := Option.some.inj hf
  exact j_iret C d_Bw_slopeAlongY_17
theorem d_X_height_0 : DC b_X_height 0 (.iload_n 1) 1 1 := ⟨by decide +kernel, rfl⟩
theorem d_X_height_1 : DC b_X_height 1 (.bipush (-32)) 2 3 := ⟨by decide +kernel, rfl⟩
theorem d_X_height_3 : DC b_X_height 3 (.bipush 32) 2 5 := ⟨by decide +kernel, rfl⟩
theorem d_X_height_5 : DC b_X_height 5 (.invokestatic 90) 3 8 := ⟨by decide +kernel, rfl⟩
theorem d_X_height_8 : DB b_X_height 8 (.ifCond .eq 14) 14 22 11 := ⟨by decide +kernel, by decide, rfl⟩
theorem d_X_height_11 : DC b_X_height 11 (.iload_n 2) 1 12 := ⟨by decide +kernel, rfl⟩
theorem d_X_height_12 : DC b_X_height 12 (.bipush (-32)) 2 14 := ⟨by decide +kernel, rfl⟩
theorem d_X_height_14 : DC b_X_height 14 (.bipush 32) 2 16 := ⟨by decide +kernel, rfl⟩
theorem d_X_height_16 : DC b_X_height 16 (.invokestatic 90) 3 19 := ⟨by decide +kernel, rfl⟩
theorem d_X_height_19 : DB b_X_height 19 (.ifCond .ne 6) 6 25 22 := ⟨by decide +kernel, by decide, rfl⟩
theorem d_X_height_22 : DC b_X_height 22 (.ldc 151) 2 24 := ⟨by decide +kernel, rfl⟩
theorem d_X_height_24 : decode b_X_height 24 = .ok (.ireturn, 1) := by decide +kernel
theorem d_X_height_25 : DC b_X_height 25 (.iload_n 3) 1 26 := ⟨by decide +kernel, rfl⟩
theorem d_X_height_26 : decode b_X_height 26 = .ok (.tableswitch 56 0 2 #[26, 36, 46], 26) := by decide +kernel
theorem d_X_height_52 : DC b_X_height 52 (.aload_n 0) 1 53 := ⟨by decide +kernel, rfl⟩
theorem d_X_height_53 : DC b_X_height 53 (.getfield 22) 3 56 := ⟨by decide +kernel, rfl⟩
theorem d_X_height_56 : DC b_X_height 56 (.iload_n 1) 1 57 := ⟨by decide +kernel, rfl⟩
theorem d_X_height_57 : DC b_X_height 57 (.iload_n 2) 1 58 := ⟨by decide +kernel, rfl⟩
theorem d_X_height_58 : DC b_X_height 58 (.invokevirtual 152) 3 61 := ⟨by decide +kernel, rfl⟩
theorem d_X_height_61 : decode b_X_height 61 = .ok (.ireturn, 1) := by decide +kernel
theorem d_X_height_62 : DC b_X_height 62 (.aload_n 0) 1 63 := ⟨by decide +kernel, rfl⟩
theorem d_X_height_63 : DC b_X_height 63 (.getfield 22) 3 66 := ⟨by decide +kernel, rfl⟩
theorem d_X_height_66 : DC b_X_height 66 (.iload_n 1) 1 67 := ⟨by decide +kernel, rfl⟩
theorem d_X_height_67 : DC b_X_height 67 (.iload_n 2) 1 68 := ⟨by decide +kernel, rfl⟩
theorem d_X_height_68 : DC b_X_height 68 (.invokevirtual 156) 3 71 := ⟨by decide +kernel, rfl⟩
theorem d_X_height_71 : decode b_X_height 71 = .ok (.ireturn, 1) := by decide +kernel
theorem d_X_height_72 : DC b_X_height 72 (.aload_n 0) 1 73 := ⟨by decide +kernel, rfl⟩
theorem d_X_height_73 : DC b_X_height 73 (.getfield 22) 3 76 := ⟨by decide +kernel, rfl⟩
theorem d_X_height_76 : DC b_X_height 76 (.iload_n 1) 1 77 := ⟨by decide +kernel, rfl⟩
theorem d_X_height_77 : DC b_X_height 77 (.iload_n 2) 1 78 := ⟨by decide +kernel, rfl⟩
theorem d_X_height_78 : DC b_X_height 78 (.invokevirtual 159) 3 81 := ⟨by decide +kernel, rfl⟩
theorem d_X_height_81 : decode b_X_height 81 = .ok (.ireturn, 1) := by decide +kernel
theorem d_X_height_82 : DC b_X_height 82 (.ldc 151) 2 84 := ⟨by decide +kernel, rfl⟩
theorem d_X_height_84 : decode b_X_height 84 = .ok (.ireturn, 1) := by decide +kernel
theorem c_X_height {l : Launch} {Y : Lay} (hY : IsX Y) {μ : Mem} {x1 : Int32} {x2 : Int32} {x3 : Int32} {r : Int32} (hf : f_X_height μ x1 x2 x3 = some r) : Ct l Y y_X_height b_X_height 4 (some .int) 3 [.ref (yad Y 0), .int x1, .int x2, .int x3] (some (.int r)) μ μ := by
  refine ct_of (own := "TopYard") (lv := [(0, .ref (yad Y 0)), (1, .int x1), (2, .int x2), (3, .int x3)]) (by decide +kernel) rfl (Nat.le_of_ble_eq_true rfl) rfl (fun X hl C => ?_)
  subst hl
  unfold f_X_height at hf
  refine j_iload_n C d_X_height_0 1 rfl ?_
  refine j_bipush (v := (-32)) C d_X_height_1 (by decide) ?_
  refine j_bipush (v := 32) C d_X_height_3 (by decide) ?_
  refine bd hf (fun v1 hc13 hf => ?_)
  refine j_cS (rest := []) C lk_X_90 (c_X_within hY hc13) rfl (by decide) rfl (Nat.le_of_ble_eq_true rfl) d_X_height_5 ?_
  refine j_if_eq C d_X_height_8 hf (fun hf => ?_) (fun hf => ?_)
  · refine j_ldc (v := (-2147483648)) C d_X_height_22 wd_15 ?_
    obtain rfl := Option.some.inj hf
    exact j_iret C d_X_height_24
  · refine j_iload_n C d_X_height_11 2 rfl ?_
    refine j_bipush (v := (-32)) C d_X_height_12 (by decide) ?_
    refine j_bipush (v := 32) C d_X_height_14 (by decide) ?_
    refine bd hf (fun v2 hc12 hf => ?_)
    refine j_cS (rest := []) C lk_X_90 (c_X_within hY hc12) rfl (by decide) rfl (Nat.le_of_ble_eq_true rfl) d_X_height_16 ?_
    refine j_if_ne C d_X_height_19 hf (fun hf => ?_) (fun hf => ?_)
    · refine j_iload_n C d_X_height_25 3 rfl ?_
      refine j_key hf (fun hx5 hf => ?_) (fun hx5 hf => ?_)
      · refine j_tin (tgt' := 52) (off := 26) (v := 0) C d_X_height_26 hx5 (by decide) (by decide) (by decide) (by decide) ?_
        refine j_aload_n C d_X_height_52 0 rfl ?_
        refine j_gS (b := 2) C fl_X_22 (kX hY rfl) (nX hY (by decide)) rfl hY.2.2.2.1 rfl (sX hY rfl) d_X_height_53 ?_
        refine j_iload_n C d_X_height_56 1 rfl ?_
        refine j_iload_n C d_X_height_57 2 rfl ?_
        refine bd hf (fun v3 hc4 hf => ?_)
        refine j_cV (rest := []) C lk_X_152 (c_Bw_heightAt hY hc4) rfl (kX hY rfl) (nX hY (by decide)) (by decide) rfl rfl (by decide) rfl (Nat.le_of_ble_eq_true rfl) d_X_height_58 ?_
        obtain rfl := Option.some.inj hf
        exact j_iret C d_X_height_61
      · refine j_key hf (fun hx8 hf => ?_) (fun hx8 hf => ?_)
        · refine j_tin (tgt' := 62) (off := 36) (v := 1) C d_X_height_26 hx8 (by decide) (by decide) (by decide) (by decide) ?_
          refine j_aload_n C d_X_height_62 0 rfl ?_
          refine j_gS (b := 2) C fl_X_22 (kX hY rfl) (nX hY (by decide)) rfl hY.2.2.2.1 rfl (sX hY rfl) d_X_height_63 ?_
          refine j_iload_n C d_X_height_66 1 rfl ?_
          refine j_iload_n C d_X_height_67 2 rfl ?_
          refine bd hf (fun v6 hc7 hf => ?_)
          refine j_cV (rest := []) C lk_X_156 (c_Bw_slopeAlongX hY hc7) rfl (kX hY rfl) (nX hY (by decide)) (by decide) rfl rfl (by decide) rfl (Nat.le_of_ble_eq_true rfl) d_X_height_68 ?_
          obtain rfl := Option.some.inj hf
          exact j_iret C d_X_height_71
        · refine j_key hf (fun hx11 hf => ?_) (fun hx11 hf => ?_)
          · refine j_tin (tgt' := 72) (off := 46) (v := 2) C d_X_height_26 hx11 (by decide) (by decide) (by decide) (by decide) ?_
            refine j_aload_n C d_X_height_72 0 rfl ?_
            refine j_gS (b := 2) C fl_X_22 (kX hY rfl) (nX hY (by decide)) rfl hY.2.2.2.1 rfl (sX hY rfl) d_X_height_73 ?_
            refine j_iload_n C d_X_height_76 1 rfl ?_
            refine j_iload_n C d_X_height_77 2 rfl ?_
            refine bd hf (fun v9 hc10 hf => ?_)
            refine j_cV (rest := []) C lk_X_159 (c_Bw_slopeAlongY hY hc10) rfl (kX hY rfl) (nX hY (by decide)) (by decide) rfl rfl (by decide) rfl (Nat.le_of_ble_eq_true rfl) d_X_height_78 ?_
            obtain rfl := Option.some.inj hf
            exact j_iret C d_X_height_81
          · refine j_tout (tgt' := 82) C d_X_height_26 (by have qhx5 := sw_ne (z := 0) hx5 (by decide); have qhx8 := sw_ne (z := 1) hx8 (by decide); have qhx11 := sw_ne (z := 2) hx11 (by decide); omega) (by decide) ?_
            refine j_ldc (v := (-2147483648)) C d_X_height_82 wd_15 ?_
            obtain rfl := Option.some.inj hf
            exact j_iret C d_X_height_84
    · refine j_ldc (v := (-2147483648)) C d_X_height_22 wd_15 ?_
      obtain rfl := Option.some.inj hf
      exact j_iret C d_X_height_24
theorem d_X_string_0 : DC b_X_string 0 (.iload_n 1) 1 1 := ⟨by decide +kernel, rfl⟩
theorem d_X_string_1 : DC b_X_string 1 (.invokestatic 103) 3 4 := ⟨by decide +kernel, rfl⟩
theorem d_X_string_4 : DB b_X_string 4 (.ifCond .eq 14) 14 18 7 := ⟨by decide +kernel, by decide, rfl⟩
theorem d_X_string_7 : DC b_X_string 7 (.iload_n 2) 1 8 := ⟨by decide +kernel, rfl⟩
theorem d_X_string_8 : DC b_X_string 8 (.iconst 0) 1 9 := ⟨by decide +kernel, rfl⟩
theorem d_X_string_9 : DC b_X_string 9 (.sipush 200) 3 12 := ⟨by decide +kernel, rfl⟩
theorem d_X_string_12 : DC b_X_string 12 (.invokestatic 90) 3 15 := ⟨by decide +kernel, rfl⟩
theorem d_X_string_15 : DB b_X_string 15 (.ifCond .ne 6) 6 21 18 := ⟨by decide +kernel, by decide, rfl⟩
theorem d_X_string_18 : DC b_X_string 18 (.bipush (-2)) 2 20 := ⟨by decide +kernel, rfl⟩
theorem d_X_string_20 : decode b_X_string 20 = .ok (.ireturn, 1) := by decide +kernel
theorem d_X_string_21 : DC b_X_string 21 (.aload_n 0) 1 22 := ⟨by decide +kernel, rfl⟩
theorem d_X_string_22 : DC b_X_string 22 (.getfield 26) 3 25 := ⟨by decide +kernel, rfl⟩
theorem d_X_string_25 : DC b_X_string 25 (.iload_n 1) 1 26 := ⟨by decide +kernel, rfl⟩
theorem d_X_string_26 : DC b_X_string 26 (.iaload) 1 27 := ⟨by decide +kernel, rfl⟩
theorem d_X_string_27 : DC b_X_string 27 (.istore_n 3) 1 28 := ⟨by decide +kernel, rfl⟩
theorem d_X_string_28 : DC b_X_string 28 (.aload_n 0) 1 29 := ⟨by decide +kernel, rfl⟩
theorem d_X_string_29 : DC b_X_string 29 (.getfield 26) 3 32 := ⟨by decide +kernel, rfl⟩
theorem d_X_string_32 : DC b_X_string 32 (.iload_n 1) 1 33 := ⟨by decide +kernel, rfl⟩
theorem d_X_string_33 : DC b_X_string 33 (.iload_n 2) 1 34 := ⟨by decide +kernel, rfl⟩
theorem d_X_string_34 : DC b_X_string 34 (.iastore) 1 35 := ⟨by decide +kernel, rfl⟩
theorem d_X_string_35 : DC b_X_string 35 (.iload_n 3) 1 36 := ⟨by decide +kernel, rfl⟩
theorem d_X_string_36 : decode b_X_string 36 = .ok (.ireturn, 1) := by decide +kernel
theorem c_X_string {l : Launch} {Y : Lay} (hY : IsX Y) {μ : Mem} {x1 : Int32} {x2 : Int32} {r : Int32 × Mem} (hf : f_X_string μ x1 x2 = some r) : Ct l Y y_X_string b_X_string 4 (some .int) 2 [.ref (yad Y 0), .int x1, .int x2] (some (.int r.1)) μ r.2 := by
  refine ct_of (own := "TopYard") (lv := [(0, .ref (yad Y 0)), (1, .int x1), (2, .int x2)]) (by decide +kernel) rfl (Nat.le_of_ble_eq_true rfl) rfl (fun X hl C => ?_)
  subst hl
  unfold f_X_string at hf
  refine j_iload_n C d_X_string_0 1 rfl ?_
  refine bd hf (fun v1 hc8 hf => ?_)
  refine j_cS (rest := []) C lk_X_103 (c_X_isOwner hY hc8) rfl (by decide) rfl (Nat.le_of_ble_eq_true rfl) d_X_string_1 ?_
  refine j_if_eq C d_X_string_4 hf (fun hf => ?_) (fun hf => ?_)
  · refine j_bipush (v := (-2)) C d_X_string_18 (by decide) ?_
    obtain rfl := Option.some.inj hf
    exact j_iret C d_X_string_20
  · refine j_iload_n C d_X_string_7 2 rfl ?_
    refine j_iconst (v := 0) C d_X_string_8 (by decide) ?_
    refine j_sipush (v := 200) C d_X_string_9 (by decide) ?_
    refine bd hf (fun v2 hc7 hf => ?_)
    refine j_cS (rest := []) C lk_X_90 (c_X_within hY hc7) rfl (by decide) rfl (Nat.le_of_ble_eq_true rfl) d_X_string_12 ?_
    refine j_if_ne C d_X_string_15 hf (fun hf => ?_) (fun hf => ?_)
    · refine j_aload_n C d_X_string_21 0 rfl ?_
      refine j_gS (b := 4) C fl_X_26 (kX hY rfl) (nX hY (by decide)) rfl hY.2.2.2.1 rfl (sX hY rfl) d_X_string_22 ?_
      refine j_iload_n C d_X_string_25 1 rfl ?_
      refine ck hf (fun hi3 hf => ?_)
      refine j_iald C (kX hY rfl) (nX hY (by decide)) (lX hY rfl) hi3 d_X_string_26 ?_
      refine j_istore_nN (lvf := [(0, .ref (yad Y 0)), (1, .int x1), (2, .int x2)]) C d_X_string_27 (by decide) rfl hf (fun v4 hf => ?_)
      refine j_aload_n C d_X_string_28 1 rfl ?_
      refine j_gS (b := 4) C fl_X_26 (kX hY rfl) (nX hY (by decide)) rfl hY.2.2.2.1 rfl (sX hY rfl) d_X_string_29 ?_
      refine j_iload_n C d_X_string_32 2 rfl ?_
      refine j_iload_n C d_X_string_33 3 rfl ?_
      refine ck hf (fun hi5 hf => ?_)
      refine j_iast C (kX hY rfl) (nX hY (by decide)) (lX hY rfl) hi5 d_X_string_34 hf (fun μ6 hf => ?_)
      refine j_iload_n C d_X_string_35 0 rfl ?_
      obtain rfl := Option.some.inj hf
      exact j_iret C d_X_string_36
    · refine j_bipush (v := (-2)) C d_X_string_18 (by decide) ?_
      obtain rfl := Option.some.inj hf
      exact j_iret C d_X_string_20
theorem d_Bt_at_0 : DC b_Bt_at 0 (.iload_n 1) 1 1 := ⟨by decide +kernel, rfl⟩
theorem d_Bt_at_1 : DB b_Bt_at 1 (.ifCond .lt 25) 25 26 4 := ⟨by decide +kernel, by decide, rfl⟩
theorem d_Bt_at_4 : DC b_Bt_at 4 (.iload_n 1) 1 5 := ⟨by decide +kernel, rfl⟩
theorem d_Bt_at_5 : DC b_Bt_at 5 (.aload_n 0) 1 6 := ⟨by decide +kernel, rfl⟩
theorem d_Bt_at_6 : DC b_Bt_at 6 (.getfield 17) 3 9 := ⟨by decide +kernel, rfl⟩
theorem d_Bt_at_9 : DB b_Bt_at 9 (.if_icmp .ge 17) 17 26 12 := ⟨by decide +kernel, by decide, rfl⟩
theorem d_Bt_at_12 : DC b_Bt_at 12 (.iload_n 1) 1 13 := ⟨by decide +kernel, rfl⟩
theorem d_Bt_at_13 : DC b_Bt_at 13 (.iconst 4) 1 14 := ⟨by decide +kernel, rfl⟩
theorem d_Bt_at_14 : DB b_Bt_at 14 (.if_icmp .ge 12) 12 26 17 := ⟨by decide +kernel, by decide, rfl⟩
theorem d_Bt_at_17 : DC b_Bt_at 17 (.aload_n 0) 1 18 := ⟨by decide +kernel, rfl⟩
theorem d_Bt_at_18 : DC b_Bt_at 18 (.getfield 13) 3 21 := ⟨by decide +kernel, rfl⟩
theorem d_Bt_at_21 : DC b_Bt_at 21 (.iload_n 1) 1 22 := ⟨by decide +kernel, rfl⟩
theorem d_Bt_at_22 : DC b_Bt_at 22 (.aaload) 1 23 := ⟨by decide +kernel, rfl⟩
theorem d_Bt_at_23 : DB b_Bt_at 23 (.goto 4) 4 27 26 := ⟨by decide +kernel, by decide, rfl⟩
theorem d_Bt_at_26 : DC b_Bt_at 26 (.aconst_null) 1 27 := ⟨by decide +kernel, rfl⟩
theorem d_Bt_at_27 : decode b_Bt_at 27 = .ok (.areturn, 1) := by decide +kernel
theorem c_Bt_at {l : Launch} {Y : Lay} (hY : IsX Y) {μ : Mem} {a0 : Nat} {x1 : Int32} (g0 : ykd Y a0 = 0 ∧ a0 < yn Y) {r : Option Nat} (hf : f_Bt_at μ a0 x1 = some r) : Ct l Y y_Bt_at b_Bt_at 2 (some (.object "TopYard$Spinner")) 1 [.ref (yad Y a0), .int x1] (some (va_rf (Option.map (yad Y) r))) μ μ := by
  refine ct_of (own := "TopYard$Bout") (lv := [(0, .ref (yad Y a0)), (1, .int x1)]) (by decide +kernel) rfl (Nat.le_of_ble_eq_true rfl) rfl (fun X hl C => ?_)
  subst hl
  unfold f_Bt_at at hf
  refine j_iload_n C d_Bt_at_0 1 rfl ?_
  refine j_if_lt C d_Bt_at_1 hf (fun hf => ?_) (fun hf => ?_)
  · refine j_null C d_Bt_at_26 ?_
    obtain rfl := Option.some.inj hf
    exact j_aret C d_Bt_at_27
  · refine j_iload_n C d_Bt_at_4 1 rfl ?_
    refine j_aload_n C d_Bt_at_5 0 rfl ?_
    refine j_gI C fl_Bt_17 g0.1 g0.2 rfl d_Bt_at_6 ?_
    refine j_icmp_ge C d_Bt_at_9 hf (fun hf => ?_) (fun hf => ?_)
    · refine j_null C d_Bt_at_26 ?_
      obtain rfl := Option.some.inj hf
      exact j_aret C d_Bt_at_27
    · refine j_iload_n C d_Bt_at_12 1 rfl ?_
      refine j_iconst (v := 4) C d_Bt_at_13 (by decide) ?_
      refine j_icmp_ge C d_Bt_at_14 hf (fun hf => ?_) (fun hf => ?_)
      · refine j_null C d_Bt_at_26 ?_
        obtain rfl := Option.some.inj hf
        exact j_aret C d_Bt_at_27
      · refine j_aload_n C d_Bt_at_17 0 rfl ?_
        refine j_gS (b := (srX a0 0)) C fl_Bt_13 g0.1 g0.2 rfl hY.2.2.2.1 rfl (sX hY rfl) d_Bt_at_18 ?_
        refine j_iload_n C d_Bt_at_21 1 rfl ?_
        refine ck hf (fun hi1 hf => ?_)
        refine j_aldS C (tbX_0_0 hY g0.1).1 (by decide) rfl rfl (tbX_0_0 hY g0.1).2.1 (tbX_0_0 hY g0.1).2.2 hi1 hY.2.2.2.1 rfl (sX hY rfl) d_Bt_at_22 ?_
        refine j_goto C d_Bt_at_23 ?_
        obtain rfl := Option.some.inj hf
        exact j_aret C d_Bt_at_27
theorem d_Bt_holds_0 : DC b_Bt_holds 0 (.iconst 0) 1 1 := ⟨by decide +kernel, rfl⟩
theorem d_Bt_holds_1 : DC b_Bt_holds 1 (.istore_n 2) 1 2 := ⟨by decide +kernel, rfl⟩
theorem d_Bt_holds_2 : DC b_Bt_holds 2 (.iload_n 2) 1 3 := ⟨by decide +kernel, rfl⟩
theorem d_Bt_holds_3 : DC b_Bt_holds 3 (.aload_n 0) 1 4 := ⟨by decide +kernel, rfl⟩
theorem d_Bt_holds_4 : DC b_Bt_holds 4 (.getfield 17) 3 7 := ⟨by decide +kernel, rfl⟩
theorem d_Bt_holds_7 : DB b_Bt_holds 7 (.if_icmp .ge 29) 29 36 10 := ⟨by decide +kernel, by decide, rfl⟩
theorem d_Bt_holds_10 : DC b_Bt_holds 10 (.aload_n 0) 1 11 := ⟨by decide +kernel, rfl⟩
theorem d_Bt_holds_11 : DC b_Bt_holds 11 (.iload_n 2) 1 12 := ⟨by decide +kernel, rfl⟩
theorem d_Bt_holds_12 : DC b_Bt_holds 12 (.invokevirtual 41) 3 15 := ⟨by decide +kernel, rfl⟩
theorem d_Bt_holds_15 : DC b_Bt_holds 15 (.astore_n 3) 1 16 := ⟨by decide +kernel, rfl⟩
theorem d_Bt_holds_16 : DC b_Bt_holds 16 (.aload_n 3) 1 17 := ⟨by decide +kernel, rfl⟩
theorem d_Bt_holds_17 : DB b_Bt_holds 17 (.ifnull 13) 13 30 20 := ⟨by decide +kernel, by decide, rfl⟩
theorem d_Bt_holds_20 : DC b_Bt_holds 20 (.aload_n 3) 1 21 := ⟨by decide +kernel, rfl⟩
theorem d_Bt_holds_21 : DC b_Bt_holds 21 (.getfield 45) 3 24 := ⟨by decide +kernel, rfl⟩
theorem d_Bt_holds_24 : DC b_Bt_holds 24 (.iload_n 1) 1 25 := ⟨by decide +kernel, rfl⟩
theorem d_Bt_holds_25 : DB b_Bt_holds 25 (.if_icmp .ne 5) 5 30 28 := ⟨by decide +kernel, by decide, rfl⟩
theorem d_Bt_holds_28 : DC b_Bt_holds 28 (.iconst 1) 1 29 := ⟨by decide +kernel, rfl⟩
theorem d_Bt_holds_29 : decode b_Bt_holds 29 = .ok (.ireturn, 1) := by decide +kernel
theorem d_Bt_holds_30 : DC b_Bt_holds 30 (.iinc 2 1) 3 33 := ⟨by decide +kernel, rfl⟩
theorem d_Bt_holds_33 : DB b_Bt_holds 33 (.goto (-31)) (-31) 2 36 := ⟨by decide +kernel, by decide, rfl⟩
theorem d_Bt_holds_36 : DC b_Bt_holds 36 (.iconst 0) 1 37 := ⟨by decide +kernel, rfl⟩
theorem d_Bt_holds_37 : decode b_Bt_holds 37 = .ok (.ireturn, 1) := by decide +kernel
theorem w_Bt_holds_b30 {X : Ctx} {Y : Lay} (hY : IsX Y) (C : Cx X Y b_Bt_holds 4 (some .boolean) "TopYard$Bout" 2) {N : Nat} {μ : Mem} {r : Int32} (k2 : Int32 → Int32 → Option (Int32)) (hk2 : ∀ (x1 : Int32) (x2 : Int32), k2 x1 x2 = some r → J X Y (some (.int r)) μ 4 2 [(0, .ref (yad Y 5)), (1, .int x1), (2, .int x2)] [] μ) (x1 : Int32) (x2 : Int32) (hf : f_Bt_holds_b30 N μ k2 x1 x2 = some r) : J X Y (some (.int r)) μ 4 30 [(0, .ref (yad Y 5)), (1, .int x1), (2, .int x2)] [] μ := by
  unfold f_Bt_holds_b30 at hf
  refine j_iinc (lvf := [(0, .ref (yad Y 5)), (1, .int x1)]) (v := 1) C d_Bt_holds_30 2 rfl (by decide) (by decide) rfl hf (fun v1 hf => ?_)
  refine j_goto C d_Bt_holds_33 ?_
  refine j_sub [1, 2, 0] rfl ?_
  exact hk2 x1 v1 hf
theorem w_Bt_holds_l2 {X : Ctx} {Y : Lay} (hY : IsX Y) (C : Cx X Y b_Bt_holds 4 (some .boolean) "TopYard$Bout" 2) {N : Nat} {μ : Mem} {r : Int32} : ∀ (n : Nat) (x1 : Int32) (x2 : Int32), f_Bt_holds_l2 N μ n x1 x2 = some r → J X Y (some (.int r)) μ 4 2 [(0, .ref (yad Y 5)), (1, .int x1), (2, .int x2)] [] μ := by
  intro n
  induction n with
  | zero => intro x1 x2 hf; rw [f_Bt_holds_l2] at hf; cases hf
  | succ n ih =>
    intro x1 x2 hf
    rw [f_Bt_holds_l2] at hf
    refine j_iload_n C d_Bt_holds_2 2 rfl ?_
    refine j_aload_n C d_Bt_holds_3 0 rfl ?_
    refine j_gI C fl_Bt_17 (kX hY rfl) (nX hY (by decide)) rfl d_Bt_holds_4 ?_
    refine j_icmp_ge C d_Bt_holds_7 hf (fun hf => ?_) (fun hf => ?_)
    · refine j_iconst (v := 0) C d_Bt_holds_36 (by decide) ?_
      obtain rfl := Option.some.inj hf
      exact j_zret C (Or.inl rfl) d_Bt_holds_37
    · refine j_aload_n C d_Bt_holds_10 0 rfl ?_
      refine j_iload_n C d_Bt_holds_11 2 rfl ?_
      refine bd hf (fun u1 hc3 hf => ?_)
      refine j_wt (fun hT hSt => ?_)
      have hu1 := rt_Bt_at hY hT hc3 ⟨(kX hY rfl), (nX hY (by decide))⟩
      refine j_cV (rest := []) C lk_Bt_41 (c_Bt_at hY ⟨(kX hY rfl), (nX hY (by decide))⟩ hc3) rfl (kX hY rfl) (nX hY (by decide)) (by decide) rfl rfl (by decide) rfl (Nat.le_of_ble_eq_true rfl) d_Bt_holds_12 ?_
      refine j_astoreo_n (lvf := [(0, .ref (yad Y 5)), (1, .int x1), (2, .int x2)]) C d_Bt_holds_15 (by decide) rfl ?_
      refine j_aloado_n C d_Bt_holds_16 0 rfl ?_
      cases u1 with
      | none =>
        refine j_nul_t C d_Bt_holds_17 ?_
        refine j_sub [1, 2, 3] rfl ?_
        exact w_Bt_holds_b30 hY C (f_Bt_holds_l2 N μ n) ih x1 x2 hf
      | some e2 =>
        refine j_nul_f C d_Bt_holds_17 ?_
        refine j_aload_n C d_Bt_holds_20 0 rfl ?_
        refine j_gI C fl_Bt_45 (hu1 e2 rfl).2 (hu1 e2 rfl).1 rfl d_Bt_holds_21 ?_
        refine j_iload_n C d_Bt_holds_24 2 rfl ?_
        refine j_icmp_ne C d_Bt_holds_25 hf (fun hf => ?_) (fun hf => ?_)
        · refine j_sub [1, 2, 3] rfl ?_
          exact w_Bt_holds_b30 hY C (f_Bt_holds_l2 N μ n) ih x1 x2 hf
        · refine j_iconst (v := 1) C d_Bt_holds_28 (by decide) ?_
          obtain rfl := Option.some.inj hf
          exact j_zret C (Or.inr rfl) d_Bt_holds_29
theorem c_Bt_holds {l : Launch} {Y : Lay} (hY : IsX Y) {N : Nat} {μ : Mem} {x1 : Int32} {r : Int32} (hf : f_Bt_holds N μ x1 = some r) : Ct l Y y_Bt_holds b_Bt_holds 4 (some .boolean) 2 [.ref (yad Y 5), .int x1] (some (.int r)) μ μ := by
  refine ct_of (own := "TopYard$Bout") (lv := [(0, .ref (yad Y 5)), (1, .int x1)]) (by decide +kernel) rfl (Nat.le_of_ble_eq_true rfl) rfl (fun X hl C => ?_)
  subst hl
  unfold f_Bt_holds at hf
  refine j_iconst (v := 0) C d_Bt_holds_0 (by decide) ?_
  refine j_istore_n (lvf := [(0, .ref (yad Y 5)), (1, .int x1)]) C d_Bt_holds_1 (by decide) rfl ?_
  refine j_sub [1, 2, 0] rfl ?_
  exact w_Bt_holds_l2 hY C N x1 0 hf
theorem d_Bt_addSpinner_0 : DC b_Bt_addSpinner 0 (.aload_n 0) 1 1 := ⟨by decide +kernel, rfl⟩
theorem d_Bt_addSpinner_1 : DC b_Bt_addSpinner 1 (.getfield 17) 3 4 := ⟨by decide +kernel, rfl⟩
theorem d_Bt_addSpinner_4 : DC b_Bt_addSpinner 4 (.iconst 4) 1 5 := ⟨by decide +kernel, rfl⟩
theorem d_Bt_addSpinner_5 : DB b_Bt_addSpinner 5 (.if_icmp .lt 5) 5 10 8 := ⟨by decide +kernel, by decide, rfl⟩
theorem d_Bt_addSpinner_8 : DC b_Bt_addSpinner 8 (.aconst_null) 1 9 := ⟨by decide +kernel, rfl⟩
theorem d_Bt_addSpinner_9 : decode b_Bt_addSpinner 9 = .ok (.areturn, 1) := by decide +kernel
theorem d_Bt_addSpinner_10 : DC b_Bt_addSpinner 10 (.aload_n 0) 1 11 := ⟨by decide +kernel, rfl⟩
theorem d_Bt_addSpinner_11 : DC b_Bt_addSpinner 11 (.dup) 1 12 := ⟨by decide +kernel, rfl⟩
theorem d_Bt_addSpinner_12 : DC b_Bt_addSpinner 12 (.getfield 17) 3 15 := ⟨by decide +kernel, rfl⟩
theorem d_Bt_addSpinner_15 : DC b_Bt_addSpinner 15 (.iconst 1) 1 16 := ⟨by decide +kernel, rfl⟩
theorem d_Bt_addSpinner_16 : DC b_Bt_addSpinner 16 (.iadd) 1 17 := ⟨by decide +kernel, rfl⟩
theorem d_Bt_addSpinner_17 : DC b_Bt_addSpinner 17 (.putfield 17) 3 20 := ⟨by decide +kernel, rfl⟩
theorem d_Bt_addSpinner_20 : DC b_Bt_addSpinner 20 (.aload_n 0) 1 21 := ⟨by decide +kernel, rfl⟩
theorem d_Bt_addSpinner_21 : DC b_Bt_addSpinner 21 (.aload_n 0) 1 22 := ⟨by decide +kernel, rfl⟩
theorem d_Bt_addSpinner_22 : DC b_Bt_addSpinner 22 (.getfield 17) 3 25 := ⟨by decide +kernel, rfl⟩
theorem d_Bt_addSpinner_25 : DC b_Bt_addSpinner 25 (.iconst 1) 1 26 := ⟨by decide +kernel, rfl⟩
theorem d_Bt_addSpinner_26 : DC b_Bt_addSpinner 26 (.isub) 1 27 := ⟨by decide +kernel, rfl⟩
theorem d_Bt_addSpinner_27 : DC b_Bt_addSpinner 27 (.invokevirtual 41) 3 30 := ⟨by decide +kernel, rfl⟩
theorem d_Bt_addSpinner_30 : DC b_Bt_addSpinner 30 (.astore_n 3) 1 31 := ⟨by decide +kernel, rfl⟩
theorem d_Bt_addSpinner_31 : DC b_Bt_addSpinner 31 (.aload_n 3) 1 32 := ⟨by decide +kernel, rfl⟩
theorem d_Bt_addSpinner_32 : DB b_Bt_addSpinner 32 (.ifnull 13) 13 45 35 := ⟨by decide +kernel, by decide, rfl⟩
theorem d_Bt_addSpinner_35 : DC b_Bt_addSpinner 35 (.aload_n 3) 1 36 := ⟨by decide +kernel, rfl⟩
theorem d_Bt_addSpinner_36 : DC b_Bt_addSpinner 36 (.aload_n 1) 1 37 := ⟨by decide +kernel, rfl⟩
theorem d_Bt_addSpinner_37 : DC b_Bt_addSpinner 37 (.putfield 48) 3 40 := ⟨by decide +kernel, rfl⟩
theorem d_Bt_addSpinner_40 : DC b_Bt_addSpinner 40 (.aload_n 3) 1 41 := ⟨by decide +kernel, rfl⟩
theorem d_Bt_addSpinner_41 : DC b_Bt_addSpinner 41 (.iload_n 2) 1 42 := ⟨by decide +kernel, rfl⟩
theorem d_Bt_addSpinner_42 : DC b_Bt_addSpinner 42 (.putfield 45) 3 45 := ⟨by decide +kernel, rfl⟩
theorem d_Bt_addSpinner_45 : DC b_Bt_addSpinner 45 (.aload_n 3) 1 46 := ⟨by decide +kernel, rfl⟩
theorem d_Bt_addSpinner_46 : decode b_Bt_addSpinner 46 = .ok (.areturn, 1) := by decide +kernel
theorem c_Bt_addSpinner {l : Launch} {Y : Lay} (hY : IsX Y) {μ : Mem} {a0 : Nat} {a1 : Nat} {x2 : Int32} (g0 : ykd Y a0 = 0 ∧ a0 < yn Y) (g1 : ykd Y a1 = 8 ∧ a1 < yn Y) {r : Option Nat × Mem} (hf : f_Bt_addSpinner μ a0 a1 x2 = some r) : Ct l Y y_Bt_addSpinner b_Bt_addSpinner 4 (some (.object "TopYard$Spinner")) 2 [.ref (yad Y a0), .ref (yad Y a1), .int x2] (some (va_rf (Option.map (yad Y) r.1))) μ r.2 := by
  refine ct_of (own := "TopYard$Bout") (lv := [(0, .ref (yad Y a0)), (1, .ref (yad Y a1)), (2, .int x2)]) (by decide +kernel) rfl (Nat.le_of_ble_eq_true rfl) rfl (fun X hl C => ?_)
  subst hl
  unfold f_Bt_addSpinner at hf
  refine j_aload_n C d_Bt_addSpinner_0 0 rfl ?_
  refine j_gI C fl_Bt_17 g0.1 g0.2 rfl d_Bt_addSpinner_1 ?_
  refine j_iconst (v := 4) C d_Bt_addSpinner_4 (by decide) ?_
  refine j_icmp_lt C d_Bt_addSpinner_5 hf (fun hf => ?_) (fun hf => ?_)
  · refine j_aload_n C d_Bt_addSpinner_10 0 rfl ?_
    refine j_dup C d_Bt_addSpinner_11 rfl ?_
    refine j_gI C fl_Bt_17 g0.1 g0.2 rfl d_Bt_addSpinner_12 ?_
    refine j_iconst (v := 1) C d_Bt_addSpinner_15 (by decide) ?_
    refine j_iadd C d_Bt_addSpinner_16 ?_
    refine j_pI C fl_Bt_17 g0.1 g0.2 rfl rfl rfl d_Bt_addSpinner_17 hf (fun μ1 hf => ?_)
    refine j_aload_n C d_Bt_addSpinner_20 0 rfl ?_
    refine j_aload_n C d_Bt_addSpinner_21 0 rfl ?_
    refine j_gI C fl_Bt_17 g0.1 g0.2 rfl d_Bt_addSpinner_22 ?_
    refine j_iconst (v := 1) C d_Bt_addSpinner_25 (by decide) ?_
    refine j_isub C d_Bt_addSpinner_26 ?_
    refine bd hf (fun u2 hc6 hf => ?_)
    refine j_wt (fun hT hSt => ?_)
    have hu2 := rt_Bt_at hY hT hc6 ⟨g0.1, g0.2⟩
    refine j_cV (rest := []) C lk_Bt_41 (c_Bt_at hY ⟨g0.1, g0.2⟩ hc6) rfl g0.1 g0.2 (by decide) rfl rfl (by decide) rfl (Nat.le_of_ble_eq_true rfl) d_Bt_addSpinner_27 ?_
    refine j_astoreo_n (lvf := [(0, .ref (yad Y a0)), (1, .ref (yad Y a1)), (2, .int x2)]) C d_Bt_addSpinner_30 (by decide) rfl ?_
    refine j_aloado_n C d_Bt_addSpinner_31 0 rfl ?_
    cases u2 with
    | none =>
      refine j_nul_t C d_Bt_addSpinner_32 ?_
      refine j_aloado_n C d_Bt_addSpinner_45 0 rfl ?_
      obtain rfl := Option.some.inj hf
      exact j_aret C d_Bt_addSpinner_46
    | some e3 =>
      refine j_nul_f C d_Bt_addSpinner_32 ?_
      refine j_aload_n C d_Bt_addSpinner_35 0 rfl ?_
      refine j_aload_n C d_Bt_addSpinner_36 2 rfl ?_
      refine j_pR (b := (some a1)) C fl_Bt_48 (hu2 e3 rfl).2 (hu2 e3 rfl).1 rfl rfl (fun b hb => by cases hb; exact ⟨g1.2, g1.1⟩) (fun o => by cases o <;> rfl) (fun o => by cases o <;> rfl) d_Bt_addSpinner_37 hf (fun μ4 hf => ?_)
      refine j_aload_n C d_Bt_addSpinner_40 0 rfl ?_
      refine j_iload_n C d_Bt_addSpinner_41 3 rfl ?_
      refine j_pI C fl_Bt_45 (hu2 e3 rfl).2 (hu2 e3 rfl).1 rfl rfl rfl d_Bt_addSpinner_42 hf (fun μ5 hf => ?_)
      refine j_aload_n C d_Bt_addSpinner_45 0 rfl ?_
      obtain rfl := Option.some.inj hf
      exact j_aret C d_Bt_addSpinner_46
  · refine j_null C d_Bt_addSpinner_8 ?_
    obtain rfl := Option.some.inj hf
    exact j_aret C d_Bt_addSpinner_9
theorem d_Sp_set_0 : DC b_Sp_set 0 (.aload_n 0) 1 1 := ⟨by decide +kernel, rfl⟩
theorem d_Sp_set_1 : DC b_Sp_set 1 (.iload_n 1) 1 2 := ⟨by decide +kernel, rfl⟩
theorem d_Sp_set_2 : DC b_Sp_set 2 (.putfield 22) 3 5 := ⟨by decide +kernel, rfl⟩
theorem d_Sp_set_5 : DC b_Sp_set 5 (.aload_n 0) 1 6 := ⟨by decide +kernel, rfl⟩
theorem d_Sp_set_6 : DC b_Sp_set 6 (.iload_n 2) 1 7 := ⟨by decide +kernel, rfl⟩
theorem d_Sp_set_7 : DC b_Sp_set 7 (.putfield 25) 3 10 := ⟨by decide +kernel, rfl⟩
theorem d_Sp_set_10 : DC b_Sp_set 10 (.aload_n 0) 1 11 := ⟨by decide +kernel, rfl⟩
theorem d_Sp_set_11 : DC b_Sp_set 11 (.iload_n 3) 1 12 := ⟨by decide +kernel, rfl⟩
theorem d_Sp_set_12 : DC b_Sp_set 12 (.putfield 28) 3 15 := ⟨by decide +kernel, rfl⟩
theorem d_Sp_set_15 : DC b_Sp_set 15 (.aload_n 0) 1 16 := ⟨by decide +kernel, rfl⟩
theorem d_Sp_set_16 : DC b_Sp_set 16 (.iload 4) 2 18 := ⟨by decide +kernel, rfl⟩
theorem d_Sp_set_18 : DC b_Sp_set 18 (.putfield 31) 3 21 := ⟨by decide +kernel, rfl⟩
theorem d_Sp_set_21 : decode b_Sp_set 21 = .ok (.return_, 1) := by decide +kernel
theorem c_Sp_set {l : Launch} {Y : Lay} (hY : IsX Y) {μ : Mem} {a0 : Nat} {x1 : Int32} {x2 : Int32} {x3 : Int32} {x4 : Int32} (g0 : ykd Y a0 = 7 ∧ a0 < yn Y) {r : Mem} (hf : f_Sp_set μ a0 x1 x2 x3 x4 = some r) : Ct l Y y_Sp_set b_Sp_set 5 none 1 [.ref (yad Y a0), .int x1, .int x2, .int x3, .int x4] none μ r := by
  refine ct_of (own := "TopYard$Spinner") (lv := [(0, .ref (yad Y a0)), (1, .int x1), (2, .int x2), (3, .int x3), (4, .int x4)]) (by decide +kernel) rfl (Nat.le_of_ble_eq_true rfl) rfl (fun X hl C => ?_)
  subst hl
  unfold f_Sp_set at hf
  refine j_aload_n C d_Sp_set_0 0 rfl ?_
  refine j_iload_n C d_Sp_set_1 1 rfl ?_
  refine j_pI C fl_Sp_22 g0.1 g0.2 rfl rfl rfl d_Sp_set_2 hf (fun μ1 hf => ?_)
  refine j_aload_n C d_Sp_set_5 0 rfl ?_
  refine j_iload_n C d_Sp_set_6 2 rfl ?_
  refine j_pI C fl_Sp_25 g0.1 g0.2 rfl rfl rfl d_Sp_set_7 hf (fun μ2 hf => ?_)
  refine j_aload_n C d_Sp_set_10 0 rfl ?_
  refine j_iload_n C d_Sp_set_11 3 rfl ?_
  refine j_pI C fl_Sp_28 g0.1 g0.2 rfl rfl rfl d_Sp_set_12 hf (fun μ3 hf => ?_)
  refine j_aload_n C d_Sp_set_15 0 rfl ?_
  refine j_iload C d_Sp_set_16 4 rfl ?_
  refine j_pI C fl_Sp_31 g0.1 g0.2 rfl rfl rfl d_Sp_set_18 hf (fun μ4 hf => ?_)
  obtain rfl := Option.some.inj hf
  exact j_vret C d_Sp_set_21
theorem d_X_enter_0 : DC b_X_enter 0 (.aload_n 0) 1 1 := ⟨by decide +kernel, rfl⟩
theorem d_X_enter_1 : DC b_X_enter 1 (.iload_n 1) 1 2 := ⟨by decide +kernel, rfl⟩
theorem d_X_enter_2 : DC b_X_enter 2 (.invokevirtual 110) 3 5 := ⟨by decide +kernel, rfl⟩
theorem d_X_enter_5 : DC b_X_enter 5 (.astore 6) 2 7 := ⟨by decide +kernel, rfl⟩
theorem d_X_enter_7 : DC b_X_enter 7 (.iload_n 2) 1 8 := ⟨by decide +kernel, rfl⟩
theorem d_X_enter_8 : DC b_X_enter 8 (.bipush (-30)) 2 10 := ⟨by decide +kernel, rfl⟩
theorem d_X_enter_10 : DC b_X_enter 10 (.bipush 30) 2 12 := ⟨by decide +kernel, rfl⟩
theorem d_X_enter_12 : DC b_X_enter 12 (.invokestatic 90) 3 15 := ⟨by decide +kernel, rfl⟩
theorem d_X_enter_15 : DB b_X_enter 15 (.ifCond .eq 18) 18 33 18 := ⟨by decide +kernel, by decide, rfl⟩
theorem d_X_enter_18 : DC b_X_enter 18 (.iload_n 3) 1 19 := ⟨by decide +kernel, rfl⟩
theorem d_X_enter_19 : DC b_X_enter 19 (.bipush (-30)) 2 21 := ⟨by decide +kernel, rfl⟩
theorem d_X_enter_21 : DC b_X_enter 21 (.bipush 30) 2 23 := ⟨by decide +kernel, rfl⟩
theorem d_X_enter_23 : DC b_X_enter 23 (.invokestatic 90) 3 26 := ⟨by decide +kernel, rfl⟩
theorem d_X_enter_26 : DB b_X_enter 26 (.ifCond .eq 7) 7 33 29 := ⟨by decide +kernel, by decide, rfl⟩
theorem d_X_enter_29 : DC b_X_enter 29 (.iconst 1) 1 30 := ⟨by decide +kernel, rfl⟩
theorem d_X_enter_30 : DB b_X_enter 30 (.goto 4) 4 34 33 := ⟨by decide +kernel, by decide, rfl⟩
theorem d_X_enter_33 : DC b_X_enter 33 (.iconst 0) 1 34 := ⟨by decide +kernel, rfl⟩
theorem d_X_enter_34 : DC b_X_enter 34 (.istore 7) 2 36 := ⟨by decide +kernel, rfl⟩
theorem d_X_enter_36 : DC b_X_enter 36 (.aload 6) 2 38 := ⟨by decide +kernel, rfl⟩
theorem d_X_enter_38 : DB b_X_enter 38 (.ifnull 30) 30 68 41 := ⟨by decide +kernel, by decide, rfl⟩
theorem d_X_enter_41 : DC b_X_enter 41 (.iload 7) 2 43 := ⟨by decide +kernel, rfl⟩
theorem d_X_enter_43 : DB b_X_enter 43 (.ifCond .eq 25) 25 68 46 := ⟨by decide +kernel, by decide, rfl⟩
theorem d_X_enter_46 : DC b_X_enter 46 (.iload 4) 2 48 := ⟨by decide +kernel, rfl⟩
theorem d_X_enter_48 : DC b_X_enter 48 (.iconst 0) 1 49 := ⟨by decide +kernel, rfl⟩
theorem d_X_enter_49 : DC b_X_enter 49 (.bipush 35) 2 51 := ⟨by decide +kernel, rfl⟩
theorem d_X_enter_51 : DC b_X_enter 51 (.invokestatic 90) 3 54 := ⟨by decide +kernel, rfl⟩
theorem d_X_enter_54 : DB b_X_enter 54 (.ifCond .eq 14) 14 68 57 := ⟨by decide +kernel, by decide, rfl⟩
theorem d_X_enter_57 : DC b_X_enter 57 (.iload 5) 2 59 := ⟨by decide +kernel, rfl⟩
theorem d_X_enter_59 : DC b_X_enter 59 (.iconst 1) 1 60 := ⟨by decide +kernel, rfl⟩
theorem d_X_enter_60 : DC b_X_enter 60 (.bipush 60) 2 62 := ⟨by decide +kernel, rfl⟩
theorem d_X_enter_62 : DC b_X_enter 62 (.invokestatic 90) 3 65 := ⟨by decide +kernel, rfl⟩
theorem d_X_enter_65 : DB b_X_enter 65 (.ifCond .ne 6) 6 71 68 := ⟨by decide +kernel, by decide, rfl⟩
theorem d_X_enter_68 : DC b_X_enter 68 (.bipush (-2)) 2 70 := ⟨by decide +kernel, rfl⟩
theorem d_X_enter_70 : decode b_X_enter 70 = .ok (.ireturn, 1) := by decide +kernel
theorem d_X_enter_71 : DC b_X_enter 71 (.aload_n 0) 1 72 := ⟨by decide +kernel, rfl⟩
theorem d_X_enter_72 : DC b_X_enter 72 (.getfield 33) 3 75 := ⟨by decide +kernel, rfl⟩
theorem d_X_enter_75 : DC b_X_enter 75 (.iload_n 1) 1 76 := ⟨by decide +kernel, rfl⟩
theorem d_X_enter_76 : DC b_X_enter 76 (.invokevirtual 162) 3 79 := ⟨by decide +kernel, rfl⟩
theorem d_X_enter_79 : DB b_X_enter 79 (.ifCond .eq 6) 6 85 82 := ⟨by decide +kernel, by decide, rfl⟩
theorem d_X_enter_82 : DC b_X_enter 82 (.bipush (-2)) 2 84 := ⟨by decide +kernel, rfl⟩
theorem d_X_enter_84 : decode b_X_enter 84 = .ok (.ireturn, 1) := by decide +kernel
theorem d_X_enter_85 : DC b_X_enter 85 (.aload_n 0) 1 86 := ⟨by decide +kernel, rfl⟩
theorem d_X_enter_86 : DC b_X_enter 86 (.getfield 33) 3 89 := ⟨by decide +kernel, rfl⟩
theorem d_X_enter_89 : DC b_X_enter 89 (.aload 6) 2 91 := ⟨by decide +kernel, rfl⟩
theorem d_X_enter_91 : DC b_X_enter 91 (.iload_n 1) 1 92 := ⟨by decide +kernel, rfl⟩
theorem d_X_enter_92 : DC b_X_enter 92 (.invokevirtual 165) 3 95 := ⟨by decide +kernel, rfl⟩
theorem d_X_enter_95 : DC b_X_enter 95 (.astore 8) 2 97 := ⟨by decide +kernel, rfl⟩
theorem d_X_enter_97 : DC b_X_enter 97 (.aload 8) 2 99 := ⟨by decide +kernel, rfl⟩
theorem d_X_enter_99 : DB b_X_enter 99 (.ifnonnull 6) 6 105 102 := ⟨by decide +kernel, by decide, rfl⟩
theorem d_X_enter_102 : DC b_X_enter 102 (.bipush (-4)) 2 104 := ⟨by decide +kernel, rfl⟩
theorem d_X_enter_104 : decode b_X_enter 104 = .ok (.ireturn, 1) := by decide +kernel
theorem d_X_enter_105 : DC b_X_enter 105 (.aload 8) 2 107 := ⟨by decide +kernel, rfl⟩
theorem d_X_enter_107 : DC b_X_enter 107 (.iload_n 2) 1 108 := ⟨by decide +kernel, rfl⟩
theorem d_X_enter_108 : DC b_X_enter 108 (.iload_n 3) 1 109 := ⟨by decide +kernel, rfl⟩
theorem d_X_enter_109 : DC b_X_enter 109 (.iload 4) 2 111 := ⟨by decide +kernel, rfl⟩
theorem d_X_enter_111 : DC b_X_enter 111 (.iload 5) 2 113 := ⟨by decide +kernel, rfl⟩
theorem d_X_enter_113 : DC b_X_enter 113 (.invokevirtual 169) 3 116 := ⟨by decide +kernel, rfl⟩
theorem d_X_enter_116 : DC b_X_enter 116 (.aload_n 0) 1 117 := ⟨by decide +kernel, rfl⟩
theorem d_X_enter_117 : DC b_X_enter 117 (.getfield 33) 3 120 := ⟨by decide +kernel, rfl⟩
theorem d_X_enter_120 : DC b_X_enter 120 (.getfield 175) 3 123 := ⟨by decide +kernel, rfl⟩
theorem d_X_enter_123 : DC b_X_enter 123 (.iconst 1) 1 124 := ⟨by decide +kernel, rfl⟩
theorem d_X_enter_124 : DC b_X_enter 124 (.isub) 1 125 := ⟨by decide +kernel, rfl⟩
theorem d_X_enter_125 : decode b_X_enter 125 = .ok (.ireturn, 1) := by decide +kernel
theorem w_X_enter_b34 {X : Ctx} {Y : Lay} (hY : IsX Y) (C : Cx X Y b_X_enter 9 (some .int) "TopYard" 3) {N : Nat} {r : Int32 × Mem} (x1 : Int32) (x2 : Int32) (x3 : Int32) (x4 : Int32) (x5 : Int32) (o6 : Option Nat) (xs0 : Int32) (μ : Mem) (g6 : ∀ b, o6 = some b → b < yn Y ∧ ykd Y b = 8) (hf : f_X_enter_b34 N x1 x2 x3 x4 x5 o6 xs0 μ = some r) : J X Y (some (.int r.1)) r.2 9 34 [(0, .ref (yad Y 0)), (1, .int x1), (2, .int x2), (3, .int x3), (4, .int x4), (5, .int x5), (6, va_rf (Option.map (yad Y) o6))] [.int xs0] μ := by
  unfold f_X_enter_b34 at hf
  refine j_istore (lvf := [(0, .ref (yad Y 0)), (1, .int x1), (2, .int x2), (3, .int x3), (4, .int x4), (5, .int x5), (6, va_rf (Option.map (yad Y) o6))]) C d_X_enter_34 (by decide) (by simp [rf_cat]) ?_
  refine j_aloado C d_X_enter_36 7 rfl ?_
  cases o6 with
  | none =>
    refine j_nul_t C d_X_enter_38 ?_
    refine j_bipush (v := (-2)) C d_X_enter_68 (by decide) ?_
    obtain rfl := Option.some.inj hf
    exact j_iret C d_X_enter_70
  | some e1 =>
    refine j_nul_f C d_X_enter_38 ?_
    refine j_iload C d_X_enter_41 0 rfl ?_
    refine j_if_eq C d_X_enter_43 hf (fun hf => ?_) (fun hf => ?_)
    · refine j_bipush (v := (-2)) C d_X_enter_68 (by decide) ?_
      obtain rfl := Option.some.inj hf
      exact j_iret C d_X_enter_70
    · refine j_iload C d_X_enter_46 5 rfl ?_
      refine j_iconst (v := 0) C d_X_enter_48 (by decide) ?_
      refine j_bipush (v := 35) C d_X_enter_49 (by decide) ?_
      refine bd hf (fun v2 hc13 hf => ?_)
      refine j_cS (rest := []) C lk_X_90 (c_X_within hY hc13) rfl (by decide) rfl (Nat.le_of_ble_eq_true rfl) d_X_enter_51 ?_
      refine j_if_eq C d_X_enter_54 hf (fun hf => ?_) (fun hf => ?_)
      · refine j_bipush (v := (-2)) C d_X_enter_68 (by decide) ?_
        obtain rfl := Option.some.inj hf
        exact j_iret C d_X_enter_70
      · refine j_iload C d_X_enter_57 6 rfl ?_
        refine j_iconst (v := 1) C d_X_enter_59 (by decide) ?_
        refine j_bipush (v := 60) C d_X_enter_60 (by decide) ?_
        refine bd hf (fun v3 hc12 hf => ?_)
        refine j_cS (rest := []) C lk_X_90 (c_X_within hY hc12) rfl (by decide) rfl (Nat.le_of_ble_eq_true rfl) d_X_enter_62 ?_
        refine j_if_ne C d_X_enter_65 hf (fun hf => ?_) (fun hf => ?_)
        · refine j_aload_n C d_X_enter_71 1 rfl ?_
          refine j_gS (b := 5) C fl_X_33 (kX hY rfl) (nX hY (by decide)) rfl hY.2.2.2.1 rfl (sX hY rfl) d_X_enter_72 ?_
          refine j_iload_n C d_X_enter_75 2 rfl ?_
          refine bd hf (fun v4 hc11 hf => ?_)
          refine j_cV (rest := []) C lk_X_162 (c_Bt_holds hY hc11) rfl (kX hY rfl) (nX hY (by decide)) (by decide) rfl rfl (by decide) rfl (Nat.le_of_ble_eq_true rfl) d_X_enter_76 ?_
          refine j_if_eq C d_X_enter_79 hf (fun hf => ?_) (fun hf => ?_)
          · refine j_aload_n C d_X_enter_85 1 rfl ?_
            refine j_gS (b := 5) C fl_X_33 (kX hY rfl) (nX hY (by decide)) rfl hY.2.2.2.1 rfl (sX hY rfl) d_X_enter_86 ?_
            refine j_aload C d_X_enter_89 7 rfl ?_
            refine j_iload_n C d_X_enter_91 2 rfl ?_
            refine bd2 hf (fun u5 μ6 hc10 hf => ?_)
            refine j_wt (fun hT hSt => ?_)
            have hu5 := rt_Bt_addSpinner hY hT hc10 ⟨(kX hY rfl), (nX hY (by decide))⟩ ⟨(g6 e1 rfl).2, (g6 e1 rfl).1⟩
            refine j_cV (rest := []) C lk_X_165 (c_Bt_addSpinner hY ⟨(kX hY rfl), (nX hY (by decide))⟩ ⟨(g6 e1 rfl).2, (g6 e1 rfl).1⟩ hc10) rfl (kX hY rfl) (nX hY (by decide)) (by decide) rfl rfl (by decide) rfl (Nat.le_of_ble_eq_true rfl) d_X_enter_92 ?_
            refine j_astoreo (lvf := [(7, .int xs0), (0, .ref (yad Y 0)), (1, .int x1), (2, .int x2), (3, .int x3), (4, .int x4), (5, .int x5), (6, .ref (yad Y e1))]) C d_X_enter_95 (by decide) rfl ?_
            refine j_aloado C d_X_enter_97 0 rfl ?_
            cases u5 with
            | none =>
              refine j_nnul_f C d_X_enter_99 ?_
              refine j_bipush (v := (-4)) C d_X_enter_102 (by decide) ?_
              obtain rfl := Option.some.inj hf
              exact j_iret C d_X_enter_104
            | some e7 =>
              refine j_nnul_t C d_X_enter_99 ?_
              refine j_aload C d_X_enter_105 0 rfl ?_
              refine j_iload_n C d_X_enter_107 4 rfl ?_
              refine j_iload_n C d_X_enter_108 5 rfl ?_
              refine j_iload C d_X_enter_109 6 rfl ?_
              refine j_iload C d_X_enter_111 7 rfl ?_
              refine bd hf (fun μ8 hc9 hf => ?_)
              refine j_cV (rest := []) C lk_X_169 (c_Sp_set hY ⟨(hu5 e7 rfl).2, (hu5 e7 rfl).1⟩ hc9) rfl (hu5 e7 rfl).2 (hu5 e7 rfl).1 (by decide) rfl rfl (by decide) rfl (Nat.le_of_ble_eq_true rfl) d_X_enter_113 ?_
              refine j_aload_n C d_X_enter_116 2 rfl ?_
              refine j_gS (b := 5) C fl_X_33 (kX hY rfl) (nX hY (by decide)) rfl hY.2.2.2.1 rfl (sX hY rfl) d_X_enter_117 ?_
              refine j_gI C fl_X_175 (kX hY rfl) (nX hY (by decide)) rfl d_X_enter_120 ?_
              refine j_iconst (v := 1) C d_X_enter_123 (by decide) ?_
              refine j_isub C d_X_enter_124 ?_
              obtain rfl := Option.some.inj hf
              exact j_iret C d_X_enter_125
          · refine j_bipush (v := (-2)) C d_X_enter_82 (by decide) ?_
            obtain rfl := Option.some.inj hf
            exact j_iret C d_X_enter_84
        · refine j_bipush (v := (-2)) C d_X_enter_68 (by decide) ?_
          obtain rfl := Option.some.inj hf
          exact j_iret C d_X_enter_70
theorem w_X_enter_b33 {X : Ctx} {Y : Lay} (hY : IsX Y) (C : Cx X Y b_X_enter 9 (some .int) "TopYard" 3) {N : Nat} {r : Int32 × Mem} (x1 : Int32) (x2 : Int32) (x3 : Int32) (x4 : Int32) (x5 : Int32) (o6 : Option Nat) (μ : Mem) (g6 : ∀ b, o6 = some b → b < yn Y ∧ ykd Y b = 8) (hf : f_X_enter_b33 N x1 x2 x3 x4 x5 o6 μ = some r) : J X Y (some (.int r.1)) r.2 9 33 [(0, .ref (yad Y 0)), (1, .int x1), (2, .int x2), (3, .int x3), (4, .int x4), (5, .int x5), (6, va_rf (Option.map (yad Y) o6))] [] μ := by
  unfold f_X_enter_b33 at hf
  refine j_iconst (v := 0) C d_X_enter_33 (by decide) ?_
  refine j_sub [0, 1, 2, 3, 4, 5, 6] rfl ?_
  exact w_X_enter_b34 hY C x1 x2 x3 x4 x5 o6 0 μ g6 hf
theorem c_X_enter {l : Launch} {Y : Lay} (hY : IsX Y) {N : Nat} {μ : Mem} {x1 : Int32} {x2 : Int32} {x3 : Int32} {x4 : Int32} {x5 : Int32} {r : Int32 × Mem} (hf : f_X_enter N μ x1 x2 x3 x4 x5 = some r) : Ct l Y y_X_enter b_X_enter 9 (some .int) 3 [.ref (yad Y 0), .int x1, .int x2, .int x3, .int x4, .int x5] (some (.int r.1)) μ r.2 := by
  refine ct_of (own := "TopYard") (lv := [(0, .ref (yad Y 0)), (1, .int x1), (2, .int x2), (3, .int x3), (4, .int x4), (5, .int x5)]) (by decide +kernel) rfl (Nat.le_of_ble_eq_true rfl) rfl (fun X hl C => ?_)
  subst hl
  unfold f_X_enter at hf
  refine j_aload_n C d_X_enter_0 0 rfl ?_
  refine j_iload_n C d_X_enter_1 1 rfl ?_
  refine bd hf (fun u1 hc6 hf => ?_)
  refine j_wt (fun hT hSt => ?_)
  have hu1 := rt_X_topAt hY hT hc6
  refine j_cV (rest := []) C lk_X_110 (c_X_topAt hY hc6) rfl (kX hY rfl) (nX hY (by decide)) (by decide) rfl rfl (by decide) rfl (Nat.le_of_ble_eq_true rfl) d_X_enter_2 ?_
  refine j_astoreo (lvf := [(0, .ref (yad Y 0)), (1, .int x1), (2, .int x2), (3, .int x3), (4, .int x4), (5, .int x5)]) C d_X_enter_5 (by decide) rfl ?_
  refine j_iload_n C d_X_enter_7 3 rfl ?_
  refine j_bipush (v := (-30)) C d_X_enter_8 (by decide) ?_
  refine j_bipush (v := 30) C d_X_enter_10 (by decide) ?_
  refine bd hf (fun v2 hc5 hf => ?_)
  refine j_cS (rest := []) C lk_X_90 (c_X_within hY hc5) rfl (by decide) rfl (Nat.le_of_ble_eq_true rfl) d_X_enter_12 ?_
  refine j_if_eq C d_X_enter_15 hf (fun hf => ?_) (fun hf => ?_)
  · refine j_sub [1, 2, 3, 4, 5, 6, 0] rfl ?_
    exact w_X_enter_b33 hY C x1 x2 x3 x4 x5 u1 μ hu1 hf
  · refine j_iload_n C d_X_enter_18 4 rfl ?_
    refine j_bipush (v := (-30)) C d_X_enter_19 (by decide) ?_
    refine j_bipush (v := 30) C d_X_enter_21 (by decide) ?_
    refine bd hf (fun v3 hc4 hf => ?_)
    refine j_cS (rest := []) C lk_X_90 (c_X_within hY hc4) rfl (by decide) rfl (Nat.le_of_ble_eq_true rfl) d_X_enter_23 ?_
    refine j_if_eq C d_X_enter_26 hf (fun hf => ?_) (fun hf => ?_)
    · refine j_sub [1, 2, 3, 4, 5, 6, 0] rfl ?_
      exact w_X_enter_b33 hY C x1 x2 x3 x4 x5 u1 μ hu1 hf
    · refine j_iconst (v := 1) C d_X_enter_29 (by decide) ?_
      refine j_goto C d_X_enter_30 ?_
      refine j_sub [1, 2, 3, 4, 5, 6, 0] rfl ?_
      exact w_X_enter_b34 hY C x1 x2 x3 x4 x5 u1 1 μ hu1 hf
theorem d_Bt_empty_0 : DC b_Bt_empty 0 (.aload_n 0) 1 1 := ⟨by decide +kernel, rfl⟩
theorem d_Bt_empty_1 : DC b_Bt_empty 1 (.iconst 0) 1 2 := ⟨by decide +kernel, rfl⟩
theorem d_Bt_empty_2 : DC b_Bt_empty 2 (.putfield 17) 3 5 := ⟨by decide +kernel, rfl⟩
theorem d_Bt_empty_5 : DC b_Bt_empty 5 (.aload_n 0) 1 6 := ⟨by decide +kernel, rfl⟩
theorem d_Bt_empty_6 : DC b_Bt_empty 6 (.iconst 0) 1 7 := ⟨by decide +kernel, rfl⟩
theorem d_Bt_empty_7 : DC b_Bt_empty 7 (.putfield 31) 3 10 := ⟨by decide +kernel, rfl⟩
theorem d_Bt_empty_10 : decode b_Bt_empty 10 = .ok (.return_, 1) := by decide +kernel
theorem c_Bt_empty {l : Launch} {Y : Lay} (hY : IsX Y) {μ : Mem} {a0 : Nat} (g0 : ykd Y a0 = 0 ∧ a0 < yn Y) {r : Mem} (hf : f_Bt_empty μ a0 = some r) : Ct l Y y_Bt_empty b_Bt_empty 1 none 1 [.ref (yad Y a0)] none μ r := by
  refine ct_of (own := "TopYard$Bout") (lv := [(0, .ref (yad Y a0))]) (by decide +kernel) rfl (Nat.le_of_ble_eq_true rfl) rfl (fun X hl C => ?_)
  subst hl
  unfold f_Bt_empty at hf
  refine j_aload_n C d_Bt_empty_0 0 rfl ?_
  refine j_iconst (v := 0) C d_Bt_empty_1 (by decide) ?_
  refine j_pI C fl_Bt_17 g0.1 g0.2 rfl rfl rfl d_Bt_empty_2 hf (fun μ1 hf => ?_)
  refine j_aload_n C d_Bt_empty_5 0 rfl ?_
  refine j_iconst (v := 0) C d_Bt_empty_6 (by decide) ?_
  refine j_pI C fl_Bt_31 g0.1 g0.2 rfl rfl rfl d_Bt_empty_7 hf (fun μ2 hf => ?_)
  obtain rfl := Option.some.inj hf
  exact j_vret C d_Bt_empty_10
theorem d_X_clear_0 : DC b_X_clear 0 (.aload_n 0) 1 1 := ⟨by decide +kernel, rfl⟩
theorem d_X_clear_1 : DC b_X_clear 1 (.getfield 33) 3 4 := ⟨by decide +kernel, rfl⟩
theorem d_X_clear_4 : DC b_X_clear 4 (.getfield 175) 3 7 := ⟨by decide +kernel, rfl⟩
theorem d_X_clear_7 : DC b_X_clear 7 (.istore_n 1) 1 8 := ⟨by decide +kernel, rfl⟩
theorem d_X_clear_8 : DC b_X_clear 8 (.aload_n 0) 1 9 := ⟨by decide +kernel, rfl⟩
theorem d_X_clear_9 : DC b_X_clear 9 (.getfield 33) 3 12 := ⟨by decide +kernel, rfl⟩
theorem d_X_clear_12 : DC b_X_clear 12 (.invokevirtual 178) 3 15 := ⟨by decide +kernel, rfl⟩
theorem d_X_clear_15 : DC b_X_clear 15 (.iload_n 1) 1 16 := ⟨by decide +kernel, rfl⟩
theorem d_X_clear_16 : decode b_X_clear 16 = .ok (.ireturn, 1) := by decide +kernel
theorem c_X_clear {l : Launch} {Y : Lay} (hY : IsX Y) {μ : Mem} {r : Int32 × Mem} (hf : f_X_clear μ = some r) : Ct l Y y_X_clear b_X_clear 2 (some .int) 2 [.ref (yad Y 0)] (some (.int r.1)) μ r.2 := by
  refine ct_of (own := "TopYard") (lv := [(0, .ref (yad Y 0))]) (by decide +kernel) rfl (Nat.le_of_ble_eq_true rfl) rfl (fun X hl C => ?_)
  subst hl
  unfold f_X_clear at hf
  refine j_aload_n C d_X_clear_0 0 rfl ?_
  refine j_gS (b := 5) C fl_X_33 (kX hY rfl) (nX hY (by decide)) rfl hY.2.2.2.1 rfl (sX hY rfl) d_X_clear_1 ?_
  refine j_gI C fl_X_175 (kX hY rfl) (nX hY (by decide)) rfl d_X_clear_4 ?_
  refine j_istore_nN (lvf := [(0, .ref (yad Y 0))]) C d_X_clear_7 (by decide) rfl hf (fun v1 hf => ?_)
  refine j_aload_n C d_X_clear_8 1 rfl ?_
  refine j_gS (b := 5) C fl_X_33 (kX hY rfl) (nX hY (by decide)) rfl hY.2.2.2.1 rfl (sX hY rfl) d_X_clear_9 ?_
  refine bd hf (fun μ2 hc3 hf => ?_)
  refine j_cV (rest := []) C lk_X_178 (c_Bt_empty hY ⟨(kX hY rfl), (nX hY (by decide))⟩ hc3) rfl (kX hY rfl) (nX hY (by decide)) (by decide) rfl rfl (by decide) rfl (Nat.le_of_ble_eq_true rfl) d_X_clear_12 ?_
  refine j_iload_n C d_X_clear_15 0 rfl ?_
  obtain rfl := Option.some.inj hf
  exact j_iret C d_X_clear_16
theorem d_Bt_addWhip_0 : DC b_Bt_addWhip 0 (.aload_n 0) 1 1 := ⟨by decide +kernel, rfl⟩
theorem d_Bt_addWhip_1 : DC b_Bt_addWhip 1 (.getfield 31) 3 4 := ⟨by decide +kernel, rfl⟩
theorem d_Bt_addWhip_4 : DC b_Bt_addWhip 4 (.bipush 8) 2 6 := ⟨by decide +kernel, rfl⟩
theorem d_Bt_addWhip_6 : DB b_Bt_addWhip 6 (.if_icmp .lt 5) 5 11 9 := ⟨by decide +kernel, by decide, rfl⟩
theorem d_Bt_addWhip_9 : DC b_Bt_addWhip 9 (.iconst 0) 1 10 := ⟨by decide +kernel, rfl⟩
theorem d_Bt_addWhip_10 : decode b_Bt_addWhip 10 = .ok (.ireturn, 1) := by decide +kernel
theorem d_Bt_addWhip_11 : DC b_Bt_addWhip 11 (.aload_n 0) 1 12 := ⟨by decide +kernel, rfl⟩
theorem d_Bt_addWhip_12 : DC b_Bt_addWhip 12 (.getfield 21) 3 15 := ⟨by decide +kernel, rfl⟩
theorem d_Bt_addWhip_15 : DC b_Bt_addWhip 15 (.aload_n 0) 1 16 := ⟨by decide +kernel, rfl⟩
theorem d_Bt_addWhip_16 : DC b_Bt_addWhip 16 (.getfield 31) 3 19 := ⟨by decide +kernel, rfl⟩
theorem d_Bt_addWhip_19 : DC b_Bt_addWhip 19 (.iload_n 1) 1 20 := ⟨by decide +kernel, rfl⟩
theorem d_Bt_addWhip_20 : DC b_Bt_addWhip 20 (.iastore) 1 21 := ⟨by decide +kernel, rfl⟩
theorem d_Bt_addWhip_21 : DC b_Bt_addWhip 21 (.aload_n 0) 1 22 := ⟨by decide +kernel, rfl⟩
theorem d_Bt_addWhip_22 : DC b_Bt_addWhip 22 (.getfield 25) 3 25 := ⟨by decide +kernel, rfl⟩
theorem d_Bt_addWhip_25 : DC b_Bt_addWhip 25 (.aload_n 0) 1 26 := ⟨by decide +kernel, rfl⟩
theorem d_Bt_addWhip_26 : DC b_Bt_addWhip 26 (.getfield 31) 3 29 := ⟨by decide +kernel, rfl⟩
theorem d_Bt_addWhip_29 : DC b_Bt_addWhip 29 (.iload_n 2) 1 30 := ⟨by decide +kernel, rfl⟩
theorem d_Bt_addWhip_30 : DC b_Bt_addWhip 30 (.iastore) 1 31 := ⟨by decide +kernel, rfl⟩
theorem d_Bt_addWhip_31 : DC b_Bt_addWhip 31 (.aload_n 0) 1 32 := ⟨by decide +kernel, rfl⟩
theorem d_Bt_addWhip_32 : DC b_Bt_addWhip 32 (.getfield 28) 3 35 := ⟨by decide +kernel, rfl⟩
theorem d_Bt_addWhip_35 : DC b_Bt_addWhip 35 (.aload_n 0) 1 36 := ⟨by decide +kernel, rfl⟩
theorem d_Bt_addWhip_36 : DC b_Bt_addWhip 36 (.getfield 31) 3 39 := ⟨by decide +kernel, rfl⟩
theorem d_Bt_addWhip_39 : DC b_Bt_addWhip 39 (.iload_n 3) 1 40 := ⟨by decide +kernel, rfl⟩
theorem d_Bt_addWhip_40 : DC b_Bt_addWhip 40 (.iastore) 1 41 := ⟨by decide +kernel, rfl⟩
theorem d_Bt_addWhip_41 : DC b_Bt_addWhip 41 (.aload_n 0) 1 42 := ⟨by decide +kernel, rfl⟩
theorem d_Bt_addWhip_42 : DC b_Bt_addWhip 42 (.dup) 1 43 := ⟨by decide +kernel, rfl⟩
theorem d_Bt_addWhip_43 : DC b_Bt_addWhip 43 (.getfield 31) 3 46 := ⟨by decide +kernel, rfl⟩
theorem d_Bt_addWhip_46 : DC b_Bt_addWhip 46 (.iconst 1) 1 47 := ⟨by decide +kernel, rfl⟩
theorem d_Bt_addWhip_47 : DC b_Bt_addWhip 47 (.iadd) 1 48 := ⟨by decide +kernel, rfl⟩
theorem d_Bt_addWhip_48 : DC b_Bt_addWhip 48 (.putfield 31) 3 51 := ⟨by decide +kernel, rfl⟩
theorem d_Bt_addWhip_51 : DC b_Bt_addWhip 51 (.iconst 1) 1 52 := ⟨by decide +kernel, rfl⟩
theorem d_Bt_addWhip_52 : decode b_Bt_addWhip 52 = .ok (.ireturn, 1) := by decide +kernel
theorem c_Bt_addWhip {l : Launch} {Y : Lay} (hY : IsX Y) {μ : Mem} {x1 : Int32} {x2 : Int32} {x3 : Int32} {r : Int32 × Mem} (hf : f_Bt_addWhip μ x1 x2 x3 = some r) : Ct l Y y_Bt_addWhip b_Bt_addWhip 4 (some .boolean) 1 [.ref (yad Y 5), .int x1, .int x2, .int x3] (some (.int r.1)) μ r.2 := by
  refine ct_of (own := "TopYard$Bout") (lv := [(0, .ref (yad Y 5)), (1, .int x1), (2, .int x2), (3, .int x3)]) (by decide +kernel) rfl (Nat.le_of_ble_eq_true rfl) rfl (fun X hl C => ?_)
  subst hl
  unfold f_Bt_addWhip at hf
  refine j_aload_n C d_Bt_addWhip_0 0 rfl ?_
  refine j_gI C fl_Bt_31 (kX hY rfl) (nX hY (by decide)) rfl d_Bt_addWhip_1 ?_
  refine j_bipush (v := 8) C d_Bt_addWhip_4 (by decide) ?_
  refine j_icmp_lt C d_Bt_addWhip_6 hf (fun hf => ?_) (fun hf => ?_)
  · refine j_aload_n C d_Bt_addWhip_11 0 rfl ?_
    refine j_gS (b := 7) C fl_Bt_21 (kX hY rfl) (nX hY (by decide)) rfl hY.2.2.2.1 rfl (sX hY rfl) d_Bt_addWhip_12 ?_
    refine j_aload_n C d_Bt_addWhip_15 0 rfl ?_
    refine j_gI C fl_Bt_31 (kX hY rfl) (nX hY (by decide)) rfl d_Bt_addWhip_16 ?_
    refine j_iload_n C d_Bt_addWhip_19 1 rfl ?_
    refine ck hf (fun hi1 hf => ?_)
    refine j_iast C (kX hY rfl) (nX hY (by decide)) (lX hY rfl) hi1 d_Bt_addWhip_20 hf (fun μ2 hf => ?_)
    refine j_aload_n C d_Bt_addWhip_21 0 rfl ?_
    refine j_gS (b := 8) C fl_Bt_25 (kX hY rfl) (nX hY (by decide)) rfl hY.2.2.2.1 rfl (sX hY rfl) d_Bt_addWhip_22 ?_
    refine j_aload_n C d_Bt_addWhip_25 0 rfl ?_
    refine j_gI C fl_Bt_31 (kX hY rfl) (nX hY (by decide)) rfl d_Bt_addWhip_26 ?_
    refine j_iload_n C d_Bt_addWhip_29 2 rfl ?_
    refine ck hf (fun hi3 hf => ?_)
    refine j_iast C (kX hY rfl) (nX hY (by decide)) (lX hY rfl) hi3 d_Bt_addWhip_30 hf (fun μ4 hf => ?_)
    refine j_aload_n C d_Bt_addWhip_31 0 rfl ?_
    refine j_gS (b := 9) C fl_Bt_28 (kX hY rfl) (nX hY (by decide)) rfl hY.2.2.2.1 rfl (sX hY rfl) d_Bt_addWhip_32 ?_
    refine j_aload_n C d_Bt_addWhip_35 0 rfl ?_
    refine j_gI C fl_Bt_31 (kX hY rfl) (nX hY (by decide)) rfl d_Bt_addWhip_36 ?_
    refine j_iload_n C d_Bt_addWhip_39 3 rfl ?_
    refine ck hf (fun hi5 hf => ?_)
    refine j_iast C (kX hY rfl) (nX hY (by decide)) (lX hY rfl) hi5 d_Bt_addWhip_40 hf (fun μ6 hf => ?_)
    refine j_aload_n C d_Bt_addWhip_41 0 rfl ?_
    refine j_dup C d_Bt_addWhip_42 rfl ?_
    refine j_gI C fl_Bt_31 (kX hY rfl) (nX hY (by decide)) rfl d_Bt_addWhip_43 ?_
    refine j_iconst (v := 1) C d_Bt_addWhip_46 (by decide) ?_
    refine j_iadd C d_Bt_addWhip_47 ?_
    refine j_pI C fl_Bt_31 (kX hY rfl) (nX hY (by decide)) rfl rfl rfl d_Bt_addWhip_48 hf (fun μ7 hf => ?_)
    refine j_iconst (v := 1) C d_Bt_addWhip_51 (by decide) ?_
    obtain rfl := Option.some.inj hf
    exact j_zret C (Or.inr rfl) d_Bt_addWhip_52
  · refine j_iconst (v := 0) C d_Bt_addWhip_9 (by decide) ?_
    obtain rfl := Option.some.inj hf
    exact j_zret C (Or.inl rfl) d_Bt_addWhip_10
theorem d_X_whip_0 : DC b_X_whip 0 (.iload_n 1) 1 1 := ⟨by decide +kernel, rfl⟩
theorem d_X_whip_1 : DC b_X_whip 1 (.iconst 0) 1 2 := ⟨by decide +kernel, rfl⟩
theorem d_X_whip_2 : DC b_X_whip 2 (.iconst 3) 1 3 := ⟨by decide +kernel, rfl⟩
theorem d_X_whip_3 : DC b_X_whip 3 (.invokestatic 90) 3 6 := ⟨by decide +kernel, rfl⟩
theorem d_X_whip_6 : DB b_X_whip 6 (.ifCond .eq 18) 18 24 9 := ⟨by decide +kernel, by decide, rfl⟩
theorem d_X_whip_9 : DC b_X_whip 9 (.iload_n 2) 1 10 := ⟨by decide +kernel, rfl⟩
theorem d_X_whip_10 : DC b_X_whip 10 (.iconst 1) 1 11 := ⟨by decide +kernel, rfl⟩
theorem d_X_whip_11 : DC b_X_whip 11 (.sipush 400) 3 14 := ⟨by decide +kernel, rfl⟩
theorem d_X_whip_14 : DC b_X_whip 14 (.invokestatic 90) 3 17 := ⟨by decide +kernel, rfl⟩
theorem d_X_whip_17 : DB b_X_whip 17 (.ifCond .eq 7) 7 24 20 := ⟨by decide +kernel, by decide, rfl⟩
theorem d_X_whip_20 : DC b_X_whip 20 (.iconst 1) 1 21 := ⟨by decide +kernel, rfl⟩
theorem d_X_whip_21 : DB b_X_whip 21 (.goto 4) 4 25 24 := ⟨by decide +kernel, by decide, rfl⟩
theorem d_X_whip_24 : DC b_X_whip 24 (.iconst 0) 1 25 := ⟨by decide +kernel, rfl⟩
theorem d_X_whip_25 : DC b_X_whip 25 (.istore 4) 2 27 := ⟨by decide +kernel, rfl⟩
theorem d_X_whip_27 : DC b_X_whip 27 (.iload 4) 2 29 := ⟨by decide +kernel, rfl⟩
theorem d_X_whip_29 : DB b_X_whip 29 (.ifCond .eq 13) 13 42 32 := ⟨by decide +kernel, by decide, rfl⟩
theorem d_X_whip_32 : DC b_X_whip 32 (.iload_n 3) 1 33 := ⟨by decide +kernel, rfl⟩
theorem d_X_whip_33 : DC b_X_whip 33 (.iconst 1) 1 34 := ⟨by decide +kernel, rfl⟩
theorem d_X_whip_34 : DC b_X_whip 34 (.bipush 100) 2 36 := ⟨by decide +kernel, rfl⟩
theorem d_X_whip_36 : DC b_X_whip 36 (.invokestatic 90) 3 39 := ⟨by decide +kernel, rfl⟩
theorem d_X_whip_39 : DB b_X_whip 39 (.ifCond .ne 6) 6 45 42 := ⟨by decide +kernel, by decide, rfl⟩
theorem d_X_whip_42 : DC b_X_whip 42 (.bipush (-2)) 2 44 := ⟨by decide +kernel, rfl⟩
theorem d_X_whip_44 : decode b_X_whip 44 = .ok (.ireturn, 1) := by decide +kernel
theorem d_X_whip_45 : DC b_X_whip 45 (.aload_n 0) 1 46 := ⟨by decide +kernel, rfl⟩
theorem d_X_whip_46 : DC b_X_whip 46 (.getfield 33) 3 49 := ⟨by decide +kernel, rfl⟩
theorem d_X_whip_49 : DC b_X_whip 49 (.iload_n 1) 1 50 := ⟨by decide +kernel, rfl⟩
theorem d_X_whip_50 : DC b_X_whip 50 (.iload_n 2) 1 51 := ⟨by decide +kernel, rfl⟩
theorem d_X_whip_51 : DC b_X_whip 51 (.iload_n 3) 1 52 := ⟨by decide +kernel, rfl⟩
theorem d_X_whip_52 : DC b_X_whip 52 (.invokevirtual 181) 3 55 := ⟨by decide +kernel, rfl⟩
theorem d_X_whip_55 : DB b_X_whip 55 (.ifCond .eq 13) 13 68 58 := ⟨by decide +kernel, by decide, rfl⟩
theorem d_X_whip_58 : DC b_X_whip 58 (.aload_n 0) 1 59 := ⟨by decide +kernel, rfl⟩
theorem d_X_whip_59 : DC b_X_whip 59 (.getfield 33) 3 62 := ⟨by decide +kernel, rfl⟩
theorem d_X_whip_62 : DC b_X_whip 62 (.getfield 184) 3 65 := ⟨by decide +kernel, rfl⟩
theorem d_X_whip_65 : DB b_X_whip 65 (.goto 5) 5 70 68 := ⟨by decide +kernel, by decide, rfl⟩
theorem d_X_whip_68 : DC b_X_whip 68 (.bipush (-4)) 2 70 := ⟨by decide +kernel, rfl⟩
theorem d_X_whip_70 : decode b_X_whip 70 = .ok (.ireturn, 1) := by decide +kernel
theorem w_X_whip_b25 {X : Ctx} {Y : Lay} (hY : IsX Y) (C : Cx X Y b_X_whip 5 (some .int) "TopYard" 2) {r : Int32 × Mem} (x1 : Int32) (x2 : Int32) (x3 : Int32) (xs0 : Int32) (μ : Mem) (hf : f_X_whip_b25 x1 x2 x3 xs0 μ = some r) : J X Y (some (.int r.1)) r.2 5 25 [(0, .ref (yad Y 0)), (1, .int x1), (2, .int x2), (3, .int x3)] [.int xs0] μ := by
  unfold f_X_whip_b25 at hf
  refine j_istore (lvf := [(0, .ref (yad Y 0)), (1, .int x1), (2, .int x2), (3, .int x3)]) C d_X_whip_25 (by decide) rfl ?_
  refine j_iload C d_X_whip_27 0 rfl ?_
  refine j_if_eq C d_X_whip_29 hf (fun hf => ?_) (fun hf => ?_)
  · refine j_bipush (v := (-2)) C d_X_whip_42 (by decide) ?_
    obtain rfl := Option.some.inj hf
    exact j_iret C d_X_whip_44
  · refine j_iload_n C d_X_whip_32 4 rfl ?_
    refine j_iconst (v := 1) C d_X_whip_33 (by decide) ?_
    refine j_bipush (v := 100) C d_X_whip_34 (by decide) ?_
    refine bd hf (fun v1 hc5 hf => ?_)
    refine j_cS (rest := []) C lk_X_90 (c_X_within hY hc5) rfl (by decide) rfl (Nat.le_of_ble_eq_true rfl) d_X_whip_36 ?_
    refine j_if_ne C d_X_whip_39 hf (fun hf => ?_) (fun hf => ?_)
    · refine j_aload_n C d_X_whip_45 1 rfl ?_
      refine j_gS (b := 5) C fl_X_33 (kX hY rfl) (nX hY (by decide)) rfl hY.2.2.2.1 rfl (sX hY rfl) d_X_whip_46 ?_
      refine j_iload_n C d_X_whip_49 2 rfl ?_
      refine j_iload_n C d_X_whip_50 3 rfl ?_
      refine j_iload_n C d_X_whip_51 4 rfl ?_
      refine bd2 hf (fun v2 μ3 hc4 hf => ?_)
      refine j_cV (rest := []) C lk_X_181 (c_Bt_addWhip hY hc4) rfl (kX hY rfl) (nX hY (by decide)) (by decide) rfl rfl (by decide) rfl (Nat.le_of_ble_eq_true rfl) d_X_whip_52 ?_
      refine j_if_eq C d_X_whip_55 hf (fun hf => ?_) (fun hf => ?_)
      · refine j_bipush (v := (-4)) C d_X_whip_68 (by decide) ?_
        obtain rfl := Option.some.inj hf
        exact j_iret C d_X_whip_70
      · refine j_aload_n C d_X_whip_58 1 rfl ?_
        refine j_gS (b := 5) C fl_X_33 (kX hY rfl) (nX hY (by decide)) rfl hY.2.2.2.1 rfl (sX hY rfl) d_X_whip_59 ?_
        refine j_gI C fl_X_184 (kX hY rfl) (nX hY (by decide)) rfl d_X_whip_62 ?_
        refine j_goto C d_X_whip_65 ?_
        obtain rfl := Option.some.inj hf
        exact j_iret C d_X_whip_70
    · refine j_bipush (v := (-2)) C d_X_whip_42 (by decide) ?_
      obtain rfl := Option.some.inj hf
      exact j_iret C d_X_whip_44
theorem w_X_whip_b24 {X : Ctx} {Y : Lay} (hY : IsX Y) (C : Cx X Y b_X_whip 5 (some .int) "TopYard" 2) {r : Int32 × Mem} (x1 : Int32) (x2 : Int32) (x3 : Int32) (μ : Mem) (hf : f_X_whip_b24 x1 x2 x3 μ = some r) : J X Y (some (.int r.1)) r.2 5 24 [(0, .ref (yad Y 0)), (1, .int x1), (2, .int x2), (3, .int x3)] [] μ := by
  unfold f_X_whip_b24 at hf
  refine j_iconst (v := 0) C d_X_whip_24 (by decide) ?_
  refine j_sub [0, 1, 2, 3] rfl ?_
  exact w_X_whip_b25 hY C x1 x2 x3 0 μ hf
theorem c_X_whip {l : Launch} {Y : Lay} (hY : IsX Y) {μ : Mem} {x1 : Int32} {x2 : Int32} {x3 : Int32} {r : Int32 × Mem} (hf : f_X_whip μ x1 x2 x3 = some r) : Ct l Y y_X_whip b_X_whip 5 (some .int) 2 [.ref (yad Y 0), .int x1, .int x2, .int x3] (some (.int r.1)) μ r.2 := by
  refine ct_of (own := "TopYard") (lv := [(0, .ref (yad Y 0)), (1, .int x1), (2, .int x2), (3, .int x3)]) (by decide +kernel) rfl (Nat.le_of_ble_eq_true rfl) rfl (fun X hl C => ?_)
  subst hl
  unfold f_X_whip at hf
  refine j_iload_n C d_X_whip_0 1 rfl ?_
  refine j_iconst (v := 0) C d_X_whip_1 (by decide) ?_
  refine j_iconst (v := 3) C d_X_whip_2 (by decide) ?_
  refine bd hf (fun v1 hc4 hf => ?_)
  refine j_cS (rest := []) C lk_X_90 (c_X_within hY hc4) rfl (by decide) rfl (Nat.le_of_ble_eq_true rfl) d_X_whip_3 ?_
  refine j_if_eq C d_X_whip_6 hf (fun hf => ?_) (fun hf => ?_)
  · refine j_sub [0, 1, 2, 3] rfl ?_
    exact w_X_whip_b24 hY C x1 x2 x3 μ hf
  · refine j_iload_n C d_X_whip_9 2 rfl ?_
    refine j_iconst (v := 1) C d_X_whip_10 (by decide) ?_
    refine j_sipush (v := 400) C d_X_whip_11 (by decide) ?_
    refine bd hf (fun v2 hc3 hf => ?_)
    refine j_cS (rest := []) C lk_X_90 (c_X_within hY hc3) rfl (by decide) rfl (Nat.le_of_ble_eq_true rfl) d_X_whip_14 ?_
    refine j_if_eq C d_X_whip_17 hf (fun hf => ?_) (fun hf => ?_)
    · refine j_sub [0, 1, 2, 3] rfl ?_
      exact w_X_whip_b24 hY C x1 x2 x3 μ hf
    · refine j_iconst (v := 1) C d_X_whip_20 (by decide) ?_
      refine j_goto C d_X_whip_21 ?_
      refine j_sub [0, 1, 2, 3] rfl ?_
      exact w_X_whip_b25 hY C x1 x2 x3 1 μ hf
theorem d_Sp_owner_0 : DC b_Sp_owner 0 (.aload_n 0) 1 1 := ⟨by decide +kernel, rfl⟩
theorem d_Sp_owner_1 : DC b_Sp_owner 1 (.getfield 9) 3 4 := ⟨by decide +kernel, rfl⟩
theorem d_Sp_owner_4 : DB b_Sp_owner 4 (.ifnonnull 7) 7 11 7 := ⟨by decide +kernel, by decide, rfl⟩
theorem d_Sp_owner_7 : DC b_Sp_owner 7 (.iconst (-1)) 1 8 := ⟨by decide +kernel, rfl⟩
theorem d_Sp_owner_8 : DB b_Sp_owner 8 (.goto 10) 10 18 11 := ⟨by decide +kernel, by decide, rfl⟩
theorem d_Sp_owner_11 : DC b_Sp_owner 11 (.aload_n 0) 1 12 := ⟨by decide +kernel, rfl⟩
theorem d_Sp_owner_12 : DC b_Sp_owner 12 (.getfield 9) 3 15 := ⟨by decide +kernel, rfl⟩
theorem d_Sp_owner_15 : DC b_Sp_owner 15 (.getfield 97) 3 18 := ⟨by decide +kernel, rfl⟩
theorem d_Sp_owner_18 : decode b_Sp_owner 18 = .ok (.ireturn, 1) := by decide +kernel
theorem c_Sp_owner {l : Launch} {Y : Lay} (hY : IsX Y) {μ : Mem} {a0 : Nat} (g0 : ykd Y a0 = 7 ∧ a0 < yn Y) {r : Int32} (hf : f_Sp_owner μ a0 = some r) : Ct l Y y_Sp_owner b_Sp_owner 1 (some .int) 1 [.ref (yad Y a0)] (some (.int r)) μ μ := by
  refine ct_of (own := "TopYard$Spinner") (lv := [(0, .ref (yad Y a0))]) (by decide +kernel) rfl (Nat.le_of_ble_eq_true rfl) rfl (fun X hl C => ?_)
  subst hl
  unfold f_Sp_owner at hf
  refine j_aload_n C d_Sp_owner_0 0 rfl ?_
  refine j_gR C fl_Sp_9 g0.1 g0.2 rfl d_Sp_owner_1 hf (fun u1 hu1 hf => ?_)
  cases u1 with
  | none =>
    refine j_nnul_f C d_Sp_owner_4 ?_
    refine j_iconst (v := (-1)) C d_Sp_owner_7 (by decide) ?_
    refine j_goto C d_Sp_owner_8 ?_
    obtain rfl := Option.some.inj hf
    exact j_iret C d_Sp_owner_18
  | some e2 =>
    refine j_nnul_t C d_Sp_owner_4 ?_
    refine j_aload_n C d_Sp_owner_11 0 rfl ?_
    refine j_gR C fl_Sp_9 g0.1 g0.2 rfl d_Sp_owner_12 hf (fun u3 hu3 hf => ?_)
    cases u3 with
    | none => cases hf
    | some e4 =>
      refine j_gI C fl_Sp_97 (hu3 e4 rfl).2 (hu3 e4 rfl).1 rfl d_Sp_owner_15 ?_
      obtain rfl := Option.some.inj hf
      exact j_iret C d_Sp_owner_18
theorem d_JM_max1_0 : DC b_JM_max1 0 (.iload_n 0) 1 1 := ⟨by decide +kernel, rfl⟩
theorem d_JM_max1_1 : DC b_JM_max1 1 (.iload_n 1) 1 2 := ⟨by decide +kernel, rfl⟩
theorem d_JM_max1_2 : DB b_JM_max1 2 (.if_icmp .lt 7) 7 9 5 := ⟨by decide +kernel, by decide, rfl⟩
theorem d_JM_max1_5 : DC b_JM_max1 5 (.iload_n 0) 1 6 := ⟨by decide +kernel, rfl⟩
theorem d_JM_max1_6 : DB b_JM_max1 6 (.goto 4) 4 10 9 := ⟨by decide +kernel, by decide, rfl⟩
theorem d_JM_max1_9 : DC b_JM_max1 9 (.iload_n 1) 1 10 := ⟨by decide +kernel, rfl⟩
theorem d_JM_max1_10 : decode b_JM_max1 10 = .ok (.ireturn, 1) := by decide +kernel
theorem c_JM_max1 {l : Launch} {Y : Lay} (hY : IsX Y) {μ : Mem} {x0 : Int32} {x1 : Int32} {r : Int32} (hf : f_JM_max1 x0 x1 = some r) : Ct l Y y_JM_max1 b_JM_max1 2 (some .int) 1 [.int x0, .int x1] (some (.int r)) μ μ := by
  refine ct_of (own := "java/lang/Math") (lv := [(0, .int x0), (1, .int x1)]) (by decide +kernel) rfl (Nat.le_of_ble_eq_true rfl) rfl (fun X hl C => ?_)
  subst hl
  unfold f_JM_max1 at hf
  refine j_iload_n C d_JM_max1_0 0 rfl ?_
  refine j_iload_n C d_JM_max1_1 1 rfl ?_
  refine j_icmp_lt C d_JM_max1_2 hf (fun hf => ?_) (fun hf => ?_)
  · refine j_iload_n C d_JM_max1_9 1 rfl ?_
    obtain rfl := Option.some.inj hf
    exact j_iret C d_JM_max1_10
  · refine j_iload_n C d_JM_max1_5 0 rfl ?_
    refine j_goto C d_JM_max1_6 ?_
    obtain rfl := Option.some.inj hf
    exact j_iret C d_JM_max1_10
theorem d_JM_min_0 : DC b_JM_min 0 (.iload_n 0) 1 1 := ⟨by decide +kernel, rfl⟩
theorem d_JM_min_1 : DC b_JM_min 1 (.iload_n 1) 1 2 := ⟨by decide +kernel, rfl⟩
theorem d_JM_min_2 : DB b_JM_min 2 (.if_icmp .gt 7) 7 9 5 := ⟨by decide +kernel, by decide, rfl⟩
theorem d_JM_min_5 : DC b_JM_min 5 (.iload_n 0) 1 6 := ⟨by decide +kernel, rfl⟩
theorem d_JM_min_6 : DB b_JM_min 6 (.goto 4) 4 10 9 := ⟨by decide +kernel, by decide, rfl⟩
theorem d_JM_min_9 : DC b_JM_min 9 (.iload_n 1) 1 10 := ⟨by decide +kernel, rfl⟩
theorem d_JM_min_10 : decode b_JM_min 10 = .ok (.ireturn, 1) := by decide +kernel
theorem c_JM_min {l : Launch} {Y : Lay} (hY : IsX Y) {μ : Mem} {x0 : Int32} {x1 : Int32} {r : Int32} (hf : f_JM_min x0 x1 = some r) : Ct l Y y_JM_min b_JM_min 2 (some .int) 1 [.int x0, .int x1] (some (.int r)) μ μ := by
  refine ct_of (own := "java/lang/Math") (lv := [(0, .int x0), (1, .int x1)]) (by decide +kernel) rfl (Nat.le_of_ble_eq_true rfl) rfl (fun X hl C => ?_)
  subst hl
  unfold f_JM_min at hf
  refine j_iload_n C d_JM_min_0 0 rfl ?_
  refine j_iload_n C d_JM_min_1 1 rfl ?_
  refine j_icmp_gt C d_JM_min_2 hf (fun hf => ?_) (fun hf => ?_)
  · refine j_iload_n C d_JM_min_9 1 rfl ?_
    obtain rfl := Option.some.inj hf
    exact j_iret C d_JM_min_10
  · refine j_iload_n C d_JM_min_5 0 rfl ?_
    refine j_goto C d_JM_min_6 ?_
    obtain rfl := Option.some.inj hf
    exact j_iret C d_JM_min_10
theorem d_Sp_begin_0 : DC b_Sp_begin 0 (.aload_n 0) 1 1 := ⟨by decide +kernel, rfl⟩
theorem d_Sp_begin_1 : DC b_Sp_begin 1 (.getfield 9) 3 4 := ⟨by decide +kernel, rfl⟩
theorem d_Sp_begin_4 : DB b_Sp_begin 4 (.ifnonnull 9) 9 13 7 := ⟨by decide +kernel, by decide, rfl⟩
theorem d_Sp_begin_7 : DC b_Sp_begin 7 (.aload_n 0) 1 8 := ⟨by decide +kernel, rfl⟩
theorem d_Sp_begin_8 : DC b_Sp_begin 8 (.iconst 1) 1 9 := ⟨by decide +kernel, rfl⟩
theorem d_Sp_begin_9 : DC b_Sp_begin 9 (.putfield 34) 3 12 := ⟨by decide +kernel, rfl⟩
theorem d_Sp_begin_12 : decode b_Sp_begin 12 = .ok (.return_, 1) := by decide +kernel
theorem d_Sp_begin_13 : DC b_Sp_begin 13 (.aload_n 0) 1 14 := ⟨by decide +kernel, rfl⟩
theorem d_Sp_begin_14 : DC b_Sp_begin 14 (.iconst 1) 1 15 := ⟨by decide +kernel, rfl⟩
theorem d_Sp_begin_15 : DC b_Sp_begin 15 (.aload_n 0) 1 16 := ⟨by decide +kernel, rfl⟩
theorem d_Sp_begin_16 : DC b_Sp_begin 16 (.getfield 9) 3 19 := ⟨by decide +kernel, rfl⟩
theorem d_Sp_begin_19 : DC b_Sp_begin 19 (.getfield 37) 3 22 := ⟨by decide +kernel, rfl⟩
theorem d_Sp_begin_22 : DC b_Sp_begin 22 (.invokestatic 40) 3 25 := ⟨by decide +kernel, rfl⟩
theorem d_Sp_begin_25 : DC b_Sp_begin 25 (.putfield 19) 3 28 := ⟨by decide +kernel, rfl⟩
theorem d_Sp_begin_28 : DC b_Sp_begin 28 (.aload_n 0) 1 29 := ⟨by decide +kernel, rfl⟩
theorem d_Sp_begin_29 : DC b_Sp_begin 29 (.aload_n 0) 1 30 := ⟨by decide +kernel, rfl⟩
theorem d_Sp_begin_30 : DC b_Sp_begin 30 (.getfield 9) 3 33 := ⟨by decide +kernel, rfl⟩
theorem d_Sp_begin_33 : DC b_Sp_begin 33 (.getfield 46) 3 36 := ⟨by decide +kernel, rfl⟩
theorem d_Sp_begin_36 : DC b_Sp_begin 36 (.putfield 49) 3 39 := ⟨by decide +kernel, rfl⟩
theorem d_Sp_begin_39 : DC b_Sp_begin 39 (.aload_n 0) 1 40 := ⟨by decide +kernel, rfl⟩
theorem d_Sp_begin_40 : DC b_Sp_begin 40 (.aload_n 0) 1 41 := ⟨by decide +kernel, rfl⟩
theorem d_Sp_begin_41 : DC b_Sp_begin 41 (.getfield 9) 3 44 := ⟨by decide +kernel, rfl⟩
theorem d_Sp_begin_44 : DC b_Sp_begin 44 (.getfield 50) 3 47 := ⟨by decide +kernel, rfl⟩
theorem d_Sp_begin_47 : DC b_Sp_begin 47 (.putfield 53) 3 50 := ⟨by decide +kernel, rfl⟩
theorem d_Sp_begin_50 : DC b_Sp_begin 50 (.aload_n 0) 1 51 := ⟨by decide +kernel, rfl⟩
theorem d_Sp_begin_51 : DC b_Sp_begin 51 (.iconst 1) 1 52 := ⟨by decide +kernel, rfl⟩
theorem d_Sp_begin_52 : DC b_Sp_begin 52 (.aload_n 0) 1 53 := ⟨by decide +kernel, rfl⟩
theorem d_Sp_begin_53 : DC b_Sp_begin 53 (.getfield 9) 3 56 := ⟨by decide +kernel, rfl⟩
theorem d_Sp_begin_56 : DC b_Sp_begin 56 (.getfield 54) 3 59 := ⟨by decide +kernel, rfl⟩
theorem d_Sp_begin_59 : DC b_Sp_begin 59 (.aload_n 0) 1 60 := ⟨by decide +kernel, rfl⟩
theorem d_Sp_begin_60 : DC b_Sp_begin 60 (.getfield 9) 3 63 := ⟨by decide +kernel, rfl⟩
theorem d_Sp_begin_63 : DC b_Sp_begin 63 (.getfield 57) 3 66 := ⟨by decide +kernel, rfl⟩
theorem d_Sp_begin_66 : DC b_Sp_begin 66 (.iadd) 1 67 := ⟨by decide +kernel, rfl⟩
theorem d_Sp_begin_67 : DC b_Sp_begin 67 (.iconst 4) 1 68 := ⟨by decide +kernel, rfl⟩
theorem d_Sp_begin_68 : DC b_Sp_begin 68 (.idiv) 1 69 := ⟨by decide +kernel, rfl⟩
theorem d_Sp_begin_69 : DC b_Sp_begin 69 (.iadd) 1 70 := ⟨by decide +kernel, rfl⟩
theorem d_Sp_begin_70 : DC b_Sp_begin 70 (.putfield 60) 3 73 := ⟨by decide +kernel, rfl⟩
theorem d_Sp_begin_73 : DC b_Sp_begin 73 (.aload_n 0) 1 74 := ⟨by decide +kernel, rfl⟩
theorem d_Sp_begin_74 : DC b_Sp_begin 74 (.bipush 65) 2 76 := ⟨by decide +kernel, rfl⟩
theorem d_Sp_begin_76 : DC b_Sp_begin 76 (.aload_n 0) 1 77 := ⟨by decide +kernel, rfl⟩
theorem d_Sp_begin_77 : DC b_Sp_begin 77 (.getfield 22) 3 80 := ⟨by decide +kernel, rfl⟩
theorem d_Sp_begin_80 : DC b_Sp_begin 80 (.imul) 1 81 := ⟨by decide +kernel, rfl⟩
theorem d_Sp_begin_81 : DC b_Sp_begin 81 (.i2l) 1 82 := ⟨by decide +kernel, rfl⟩
theorem d_Sp_begin_82 : DC b_Sp_begin 82 (.putfield 63) 3 85 := ⟨by decide +kernel, rfl⟩
theorem d_Sp_begin_85 : DC b_Sp_begin 85 (.aload_n 0) 1 86 := ⟨by decide +kernel, rfl⟩
theorem d_Sp_begin_86 : DC b_Sp_begin 86 (.bipush 65) 2 88 := ⟨by decide +kernel, rfl⟩
theorem d_Sp_begin_88 : DC b_Sp_begin 88 (.aload_n 0) 1 89 := ⟨by decide +kernel, rfl⟩
theorem d_Sp_begin_89 : DC b_Sp_begin 89 (.getfield 25) 3 92 := ⟨by decide +kernel, rfl⟩
theorem d_Sp_begin_92 : DC b_Sp_begin 92 (.imul) 1 93 := ⟨by decide +kernel, rfl⟩
theorem d_Sp_begin_93 : DC b_Sp_begin 93 (.i2l) 1 94 := ⟨by decide +kernel, rfl⟩
theorem d_Sp_begin_94 : DC b_Sp_begin 94 (.putfield 67) 3 97 := ⟨by decide +kernel, rfl⟩
theorem d_Sp_begin_97 : DC b_Sp_begin 97 (.aload_n 0) 1 98 := ⟨by decide +kernel, rfl⟩
theorem d_Sp_begin_98 : DC b_Sp_begin 98 (.aload_n 0) 1 99 := ⟨by decide +kernel, rfl⟩
theorem d_Sp_begin_99 : DC b_Sp_begin 99 (.getfield 28) 3 102 := ⟨by decide +kernel, rfl⟩
theorem d_Sp_begin_102 : DC b_Sp_begin 102 (.putfield 70) 3 105 := ⟨by decide +kernel, rfl⟩
theorem d_Sp_begin_105 : DC b_Sp_begin 105 (.aload_n 0) 1 106 := ⟨by decide +kernel, rfl⟩
theorem d_Sp_begin_106 : DC b_Sp_begin 106 (.aload_n 0) 1 107 := ⟨by decide +kernel, rfl⟩
theorem d_Sp_begin_107 : DC b_Sp_begin 107 (.getfield 19) 3 110 := ⟨by decide +kernel, rfl⟩
theorem d_Sp_begin_110 : DC b_Sp_begin 110 (.aload_n 0) 1 111 := ⟨by decide +kernel, rfl⟩
theorem d_Sp_begin_111 : DC b_Sp_begin 111 (.getfield 70) 3 114 := ⟨by decide +kernel, rfl⟩
theorem d_Sp_begin_114 : DC b_Sp_begin 114 (.invokestatic 73) 3 117 := ⟨by decide +kernel, rfl⟩
theorem d_Sp_begin_117 : DC b_Sp_begin 117 (.imul) 1 118 := ⟨by decide +kernel, rfl⟩
theorem d_Sp_begin_118 : DC b_Sp_begin 118 (.i2l) 1 119 := ⟨by decide +kernel, rfl⟩
theorem d_Sp_begin_119 : DC b_Sp_begin 119 (.putfield 79) 3 122 := ⟨by decide +kernel, rfl⟩
theorem d_Sp_begin_122 : DC b_Sp_begin 122 (.aload_n 0) 1 123 := ⟨by decide +kernel, rfl⟩
theorem d_Sp_begin_123 : DC b_Sp_begin 123 (.aload_n 0) 1 124 := ⟨by decide +kernel, rfl⟩
theorem d_Sp_begin_124 : DC b_Sp_begin 124 (.getfield 19) 3 127 := ⟨by decide +kernel, rfl⟩
theorem d_Sp_begin_127 : DC b_Sp_begin 127 (.aload_n 0) 1 128 := ⟨by decide +kernel, rfl⟩
theorem d_Sp_begin_128 : DC b_Sp_begin 128 (.getfield 70) 3 131 := ⟨by decide +kernel, rfl⟩
theorem d_Sp_begin_131 : DC b_Sp_begin 131 (.invokestatic 82) 3 134 := ⟨by decide +kernel, rfl⟩
theorem d_Sp_begin_134 : DC b_Sp_begin 134 (.imul) 1 135 := ⟨by decide +kernel, rfl⟩
theorem d_Sp_begin_135 : DC b_Sp_begin 135 (.i2l) 1 136 := ⟨by decide +kernel, rfl⟩
theorem d_Sp_begin_136 : DC b_Sp_begin 136 (.putfield 85) 3 139 := ⟨by decide +kernel, rfl⟩
theorem d_Sp_begin_139 : DC b_Sp_begin 139 (.aload_n 0) 1 140 := ⟨by decide +kernel, rfl⟩
theorem d_Sp_begin_140 : DC b_Sp_begin 140 (.bipush 10) 2 142 := ⟨by decide +kernel, rfl⟩
theorem d_Sp_begin_142 : DC b_Sp_begin 142 (.aload_n 0) 1 143 := ⟨by decide +kernel, rfl⟩
theorem d_Sp_begin_143 : DC b_Sp_begin 143 (.getfield 31) 3 146 := ⟨by decide +kernel, rfl⟩
theorem d_Sp_begin_146 : DC b_Sp_begin 146 (.bipush 40) 2 148 := ⟨by decide +kernel, rfl⟩
theorem d_Sp_begin_148 : DC b_Sp_begin 148 (.iconst 2) 1 149 := ⟨by decide +kernel, rfl⟩
theorem d_Sp_begin_149 : DC b_Sp_begin 149 (.aload_n 0) 1 150 := ⟨by decide +kernel, rfl⟩
theorem d_Sp_begin_150 : DC b_Sp_begin 150 (.getfield 9) 3 153 := ⟨by decide +kernel, rfl⟩
theorem d_Sp_begin_153 : DC b_Sp_begin 153 (.getfield 54) 3 156 := ⟨by decide +kernel, rfl⟩
theorem d_Sp_begin_156 : DC b_Sp_begin 156 (.imul) 1 157 := ⟨by decide +kernel, rfl⟩
theorem d_Sp_begin_157 : DC b_Sp_begin 157 (.isub) 1 158 := ⟨by decide +kernel, rfl⟩
theorem d_Sp_begin_158 : DC b_Sp_begin 158 (.invokestatic 88) 3 161 := ⟨by decide +kernel, rfl⟩
theorem d_Sp_begin_161 : DC b_Sp_begin 161 (.iload_n 1) 1 162 := ⟨by decide +kernel, rfl⟩
theorem d_Sp_begin_162 : DC b_Sp_begin 162 (.invokestatic 88) 3 165 := ⟨by decide +kernel, rfl⟩
theorem d_Sp_begin_165 : DC b_Sp_begin 165 (.imul) 1 166 := ⟨by decide +kernel, rfl⟩
theorem d_Sp_begin_166 : DC b_Sp_begin 166 (.putfield 91) 3 169 := ⟨by decide +kernel, rfl⟩
theorem d_Sp_begin_169 : DC b_Sp_begin 169 (.aload_n 0) 1 170 := ⟨by decide +kernel, rfl⟩
theorem d_Sp_begin_170 : DC b_Sp_begin 170 (.aload_n 0) 1 171 := ⟨by decide +kernel, rfl⟩
theorem d_Sp_begin_171 : DC b_Sp_begin 171 (.getfield 9) 3 174 := ⟨by decide +kernel, rfl⟩
theorem d_Sp_begin_174 : DC b_Sp_begin 174 (.getfield 57) 3 177 := ⟨by decide +kernel, rfl⟩
theorem d_Sp_begin_177 : DC b_Sp_begin 177 (.iconst 4) 1 178 := ⟨by decide +kernel, rfl⟩
theorem d_Sp_begin_178 : DC b_Sp_begin 178 (.invokestatic 88) 3 181 := ⟨by decide +kernel, rfl⟩
theorem d_Sp_begin_181 : DC b_Sp_begin 181 (.putfield 94) 3 184 := ⟨by decide +kernel, rfl⟩
theorem d_Sp_begin_184 : DC b_Sp_begin 184 (.aload_n 0) 1 185 := ⟨by decide +kernel, rfl⟩
theorem d_Sp_begin_185 : DC b_Sp_begin 185 (.iconst 0) 1 186 := ⟨by decide +kernel, rfl⟩
theorem d_Sp_begin_186 : DC b_Sp_begin 186 (.putfield 34) 3 189 := ⟨by decide +kernel, rfl⟩
theorem d_Sp_begin_189 : decode b_Sp_begin 189 = .ok (.return_, 1) := by decide +kernel
theorem c_Sp_begin {l : Launch} {Y : Lay} (hY : IsX Y) {μ : Mem} {a0 : Nat} {x1 : Int32} (g0 : ykd Y a0 = 7 ∧ a0 < yn Y) {r : Mem} (hf : f_Sp_begin μ a0 x1 = some r) : Ct l Y y_Sp_begin b_Sp_begin 2 none 3 [.ref (yad Y a0), .int x1] none μ r := by
  refine ct_of (own := "TopYard$Spinner") (lv := [(0, .ref (yad Y a0)), (1, .int x1)]) (by decide +kernel) rfl (Nat.le_of_ble_eq_true rfl) rfl (fun X hl C => ?_)
  subst hl
  unfold f_Sp_begin at hf
  refine j_aload_n C d_Sp_begin_0 0 rfl ?_
  refine j_gR C fl_Sp_9 g0.1 g0.2 rfl d_Sp_begin_1 hf (fun u1 hu1 hf => ?_)
  cases u1 with
  | none =>
    refine j_nnul_f C d_Sp_begin_4 ?_
    refine j_aload_n C d_Sp_begin_7 0 rfl ?_
    refine j_iconst (v := 1) C d_Sp_begin_8 (by decide) ?_
    refine j_pI C fl_Sp_34 g0.1 g0.2 rfl rfl rfl d_Sp_begin_9 hf (fun μ3 hf => ?_)
    obtain rfl := Option.some.inj hf
    exact j_vret C d_Sp_begin_12
  | some e2 =>
    refine j_nnul_t C d_Sp_begin_4 ?_
    refine j_aload_n C d_Sp_begin_13 0 rfl ?_
    refine j_iconst (v := 1) C d_Sp_begin_14 (by decide) ?_
    refine j_aload_n C d_Sp_begin_15 0 rfl ?_
    refine j_gR C fl_Sp_9 g0.1 g0.2 rfl d_Sp_begin_16 hf (fun u4 hu4 hf => ?_)
    cases u4 with
    | none => cases hf
    | some e5 =>
      refine j_gI C fl_Sp_37 (hu4 e5 rfl).2 (hu4 e5 rfl).1 rfl d_Sp_begin_19 ?_
      refine bd hf (fun v6 hc41 hf => ?_)
      refine j_cS (rest := [.ref (yad Y a0)]) C lk_Sp_40 (c_JM_max1 hY hc41) rfl (by decide) rfl (Nat.le_of_ble_eq_true rfl) d_Sp_begin_22 ?_
      refine j_pI C fl_Sp_19 g0.1 g0.2 rfl rfl rfl d_Sp_begin_25 hf (fun μ7 hf => ?_)
      refine j_aload_n C d_Sp_begin_28 0 rfl ?_
      refine j_aload_n C d_Sp_begin_29 0 rfl ?_
      refine j_gR C fl_Sp_9 g0.1 g0.2 rfl d_Sp_begin_30 hf (fun u8 hu8 hf => ?_)
      cases u8 with
      | none => cases hf
      | some e9 =>
        refine j_gI C fl_Sp_46 (hu8 e9 rfl).2 (hu8 e9 rfl).1 rfl d_Sp_begin_33 ?_
        refine j_pI C fl_Sp_49 g0.1 g0.2 rfl rfl rfl d_Sp_begin_36 hf (fun μ10 hf => ?_)
        refine j_aload_n C d_Sp_begin_39 0 rfl ?_
        refine j_aload_n C d_Sp_begin_40 0 rfl ?_
        refine j_gR C fl_Sp_9 g0.1 g0.2 rfl d_Sp_begin_41 hf (fun u11 hu11 hf => ?_)
        cases u11 with
        | none => cases hf
        | some e12 =>
          refine j_gI C fl_Sp_50 (hu11 e12 rfl).2 (hu11 e12 rfl).1 rfl d_Sp_begin_44 ?_
          refine j_pI C fl_Sp_53 g0.1 g0.2 rfl rfl rfl d_Sp_begin_47 hf (fun μ13 hf => ?_)
          refine j_aload_n C d_Sp_begin_50 0 rfl ?_
          refine j_iconst (v := 1) C d_Sp_begin_51 (by decide) ?_
          refine j_aload_n C d_Sp_begin_52 0 rfl ?_
          refine j_gR C fl_Sp_9 g0.1 g0.2 rfl d_Sp_begin_53 hf (fun u14 hu14 hf => ?_)
          cases u14 with
          | none => cases hf
          | some e15 =>
            refine j_gI C fl_Sp_54 (hu14 e15 rfl).2 (hu14 e15 rfl).1 rfl d_Sp_begin_56 ?_
            refine j_aload_n C d_Sp_begin_59 0 rfl ?_
            refine j_gR C fl_Sp_9 g0.1 g0.2 rfl d_Sp_begin_60 hf (fun u16 hu16 hf => ?_)
            cases u16 with
            | none => cases hf
            | some e17 =>
              refine j_gI C fl_Sp_57 (hu16 e17 rfl).2 (hu16 e17 rfl).1 rfl d_Sp_begin_63 ?_
              refine j_iadd C d_Sp_begin_66 ?_
              refine j_iconst (v := 4) C d_Sp_begin_67 (by decide) ?_
              refine j_idiv C d_Sp_begin_68 (by decide) ?_
              refine j_iadd C d_Sp_begin_69 ?_
              refine j_pI C fl_Sp_60 g0.1 g0.2 rfl rfl rfl d_Sp_begin_70 hf (fun μ18 hf => ?_)
              refine j_aload_n C d_Sp_begin_73 0 rfl ?_
              refine j_bipush (v := 65) C d_Sp_begin_74 (by decide) ?_
              refine j_aload_n C d_Sp_begin_76 0 rfl ?_
              refine j_gI C fl_Sp_22 g0.1 g0.2 rfl d_Sp_begin_77 ?_
              refine j_imul C d_Sp_begin_80 ?_
              refine j_i2l C d_Sp_begin_81 ?_
              refine j_pL C fl_Sp_63 g0.1 g0.2 rfl rfl rfl d_Sp_begin_82 hf (fun μ19 hf => ?_)
              refine j_aload_n C d_Sp_begin_85 0 rfl ?_
              refine j_bipush (v := 65) C d_Sp_begin_86 (by decide) ?_
              refine j_aload_n C d_Sp_begin_88 0 rfl ?_
              refine j_gI C fl_Sp_25 g0.1 g0.2 rfl d_Sp_begin_89 ?_
              refine j_imul C d_Sp_begin_92 ?_
              refine j_i2l C d_Sp_begin_93 ?_
              refine j_pL C fl_Sp_67 g0.1 g0.2 rfl rfl rfl d_Sp_begin_94 hf (fun μ20 hf => ?_)
              refine j_aload_n C d_Sp_begin_97 0 rfl ?_
              refine j_aload_n C d_Sp_begin_98 0 rfl ?_
              refine j_gI C fl_Sp_28 g0.1 g0.2 rfl d_Sp_begin_99 ?_
              refine j_pI C fl_Sp_70 g0.1 g0.2 rfl rfl rfl d_Sp_begin_102 hf (fun μ21 hf => ?_)
              refine j_aload_n C d_Sp_begin_105 0 rfl ?_
              refine j_aload_n C d_Sp_begin_106 0 rfl ?_
              refine j_gI C fl_Sp_19 g0.1 g0.2 rfl d_Sp_begin_107 ?_
              refine j_aload_n C d_Sp_begin_110 0 rfl ?_
              refine j_gI C fl_Sp_70 g0.1 g0.2 rfl d_Sp_begin_111 ?_
              refine bd hf (fun v22 hc40 hf => ?_)
              refine j_cS (rest := [.int (gI μ21 a0 6), .ref (yad Y a0)]) C lk_Sp_73 (c_Hd_alongX hY hc40) rfl (by decide) rfl (Nat.le_of_ble_eq_true rfl) d_Sp_begin_114 ?_
              refine j_imul C d_Sp_begin_117 ?_
              refine j_i2l C d_Sp_begin_118 ?_
              refine j_pL C fl_Sp_79 g0.1 g0.2 rfl rfl rfl d_Sp_begin_119 hf (fun μ23 hf => ?_)
              refine j_aload_n C d_Sp_begin_122 0 rfl ?_
              refine j_aload_n C d_Sp_begin_123 0 rfl ?_
              refine j_gI C fl_Sp_19 g0.1 g0.2 rfl d_Sp_begin_124 ?_
              refine j_aload_n C d_Sp_begin_127 0 rfl ?_
              refine j_gI C fl_Sp_70 g0.1 g0.2 rfl d_Sp_begin_128 ?_
              refine bd hf (fun v24 hc39 hf => ?_)
              refine j_cS (rest := [.int (gI μ23 a0 6), .ref (yad Y a0)]) C lk_Sp_82 (c_Hd_alongY hY hc39) rfl (by decide) rfl (Nat.le_of_ble_eq_true rfl) d_Sp_begin_131 ?_
              refine j_imul C d_Sp_begin_134 ?_
              refine j_i2l C d_Sp_begin_135 ?_
              refine j_pL C fl_Sp_85 g0.1 g0.2 rfl rfl rfl d_Sp_begin_136 hf (fun μ25 hf => ?_)
              refine j_aload_n C d_Sp_begin_139 0 rfl ?_
              refine j_bipush (v := 10) C d_Sp_begin_140 (by decide) ?_
              refine j_aload_n C d_Sp_begin_142 0 rfl ?_
              refine j_gI C fl_Sp_31 g0.1 g0.2 rfl d_Sp_begin_143 ?_
              refine j_bipush (v := 40) C d_Sp_begin_146 (by decide) ?_
              refine j_iconst (v := 2) C d_Sp_begin_148 (by decide) ?_
              refine j_aload_n C d_Sp_begin_149 0 rfl ?_
              refine j_gR C fl_Sp_9 g0.1 g0.2 rfl d_Sp_begin_150 hf (fun u26 hu26 hf => ?_)
              cases u26 with
              | none => cases hf
              | some e27 =>
                refine j_gI C fl_Sp_54 (hu26 e27 rfl).2 (hu26 e27 rfl).1 rfl d_Sp_begin_153 ?_
                refine j_imul C d_Sp_begin_156 ?_
                refine j_isub C d_Sp_begin_157 ?_
                refine bd hf (fun v28 hc38 hf => ?_)
                refine j_cS (rest := [.int 10, .ref (yad Y a0)]) C lk_Sp_88 (c_JM_min hY hc38) rfl (by decide) rfl (Nat.le_of_ble_eq_true rfl) d_Sp_begin_158 ?_
                refine j_iload_n C d_Sp_begin_161 1 rfl ?_
                refine bd hf (fun v29 hc37 hf => ?_)
                refine j_cS (rest := [.int 10, .ref (yad Y a0)]) C lk_Sp_88 (c_JM_min hY hc37) rfl (by decide) rfl (Nat.le_of_ble_eq_true rfl) d_Sp_begin_162 ?_
                refine j_imul C d_Sp_begin_165 ?_
                refine j_pI C fl_Sp_91 g0.1 g0.2 rfl rfl rfl d_Sp_begin_166 hf (fun μ30 hf => ?_)
                refine j_aload_n C d_Sp_begin_169 0 rfl ?_
                refine j_aload_n C d_Sp_begin_170 0 rfl ?_
                refine j_gR C fl_Sp_9 g0.1 g0.2 rfl d_Sp_begin_171 hf (fun u31 hu31 hf => ?_)
                cases u31 with
                | none => cases hf
                | some e32 =>
                  refine j_gI C fl_Sp_57 (hu31 e32 rfl).2 (hu31 e32 rfl).1 rfl d_Sp_begin_174 ?_
                  refine j_iconst (v := 4) C d_Sp_begin_177 (by decide) ?_
                  refine bd hf (fun v33 hc36 hf => ?_)
                  refine j_cS (rest := [.ref (yad Y a0)]) C lk_Sp_88 (c_JM_min hY hc36) rfl (by decide) rfl (Nat.le_of_ble_eq_true rfl) d_Sp_begin_178 ?_
                  refine j_pI C fl_Sp_94 g0.1 g0.2 rfl rfl rfl d_Sp_begin_181 hf (fun μ34 hf => ?_)
                  refine j_aload_n C d_Sp_begin_184 0 rfl ?_
                  refine j_iconst (v := 0) C d_Sp_begin_185 (by decide) ?_
                  refine j_pI C fl_Sp_34 g0.1 g0.2 rfl rfl rfl d_Sp_begin_186 hf (fun μ35 hf => ?_)
                  obtain rfl := Option.some.inj hf
                  exact j_vret C d_Sp_begin_189
theorem d_Bt_begin_0 : DC b_Bt_begin 0 (.aload_n 0) 1 1 := ⟨by decide +kernel, rfl⟩
theorem d_Bt_begin_1 : DC b_Bt_begin 1 (.iconst 0) 1 2 := ⟨by decide +kernel, rfl⟩
theorem d_Bt_begin_2 : DC b_Bt_begin 2 (.putfield 34) 3 5 := ⟨by decide +kernel, rfl⟩
theorem d_Bt_begin_5 : DC b_Bt_begin 5 (.aload_n 0) 1 6 := ⟨by decide +kernel, rfl⟩
theorem d_Bt_begin_6 : DC b_Bt_begin 6 (.iconst 0) 1 7 := ⟨by decide +kernel, rfl⟩
theorem d_Bt_begin_7 : DC b_Bt_begin 7 (.putfield 37) 3 10 := ⟨by decide +kernel, rfl⟩
theorem d_Bt_begin_10 : DC b_Bt_begin 10 (.iconst 0) 1 11 := ⟨by decide +kernel, rfl⟩
theorem d_Bt_begin_11 : DC b_Bt_begin 11 (.istore_n 2) 1 12 := ⟨by decide +kernel, rfl⟩
theorem d_Bt_begin_12 : DC b_Bt_begin 12 (.iload_n 2) 1 13 := ⟨by decide +kernel, rfl⟩
theorem d_Bt_begin_13 : DC b_Bt_begin 13 (.aload_n 0) 1 14 := ⟨by decide +kernel, rfl⟩
theorem d_Bt_begin_14 : DC b_Bt_begin 14 (.getfield 17) 3 17 := ⟨by decide +kernel, rfl⟩
theorem d_Bt_begin_17 : DB b_Bt_begin 17 (.if_icmp .ge 49) 49 66 20 := ⟨by decide +kernel, by decide, rfl⟩
theorem d_Bt_begin_20 : DC b_Bt_begin 20 (.aload_n 0) 1 21 := ⟨by decide +kernel, rfl⟩
theorem d_Bt_begin_21 : DC b_Bt_begin 21 (.iload_n 2) 1 22 := ⟨by decide +kernel, rfl⟩
theorem d_Bt_begin_22 : DC b_Bt_begin 22 (.invokevirtual 41) 3 25 := ⟨by decide +kernel, rfl⟩
theorem d_Bt_begin_25 : DC b_Bt_begin 25 (.astore_n 3) 1 26 := ⟨by decide +kernel, rfl⟩
theorem d_Bt_begin_26 : DC b_Bt_begin 26 (.aload_n 3) 1 27 := ⟨by decide +kernel, rfl⟩
theorem d_Bt_begin_27 : DB b_Bt_begin 27 (.ifnull 33) 33 60 30 := ⟨by decide +kernel, by decide, rfl⟩
theorem d_Bt_begin_30 : DC b_Bt_begin 30 (.aload_n 3) 1 31 := ⟨by decide +kernel, rfl⟩
theorem d_Bt_begin_31 : DC b_Bt_begin 31 (.invokevirtual 68) 3 34 := ⟨by decide +kernel, rfl⟩
theorem d_Bt_begin_34 : DC b_Bt_begin 34 (.istore 4) 2 36 := ⟨by decide +kernel, rfl⟩
theorem d_Bt_begin_36 : DC b_Bt_begin 36 (.aload_n 3) 1 37 := ⟨by decide +kernel, rfl⟩
theorem d_Bt_begin_37 : DC b_Bt_begin 37 (.iload 4) 2 39 := ⟨by decide +kernel, rfl⟩
theorem d_Bt_begin_39 : DB b_Bt_begin 39 (.ifCond .lt 17) 17 56 42 := ⟨by decide +kernel, by decide, rfl⟩
theorem d_Bt_begin_42 : DC b_Bt_begin 42 (.iload 4) 2 44 := ⟨by decide +kernel, rfl⟩
theorem d_Bt_begin_44 : DC b_Bt_begin 44 (.aload_n 1) 1 45 := ⟨by decide +kernel, rfl⟩
theorem d_Bt_begin_45 : DC b_Bt_begin 45 (.arraylength) 1 46 := ⟨by decide +kernel, rfl⟩
theorem d_Bt_begin_46 : DB b_Bt_begin 46 (.if_icmp .ge 10) 10 56 49 := ⟨by decide +kernel, by decide, rfl⟩
theorem d_Bt_begin_49 : DC b_Bt_begin 49 (.aload_n 1) 1 50 := ⟨by decide +kernel, rfl⟩
theorem d_Bt_begin_50 : DC b_Bt_begin 50 (.iload 4) 2 52 := ⟨by decide +kernel, rfl⟩
theorem d_Bt_begin_52 : DC b_Bt_begin 52 (.iaload) 1 53 := ⟨by decide +kernel, rfl⟩
theorem d_Bt_begin_53 : DB b_Bt_begin 53 (.goto 4) 4 57 56 := ⟨by decide +kernel, by decide, rfl⟩
theorem d_Bt_begin_56 : DC b_Bt_begin 56 (.iconst 0) 1 57 := ⟨by decide +kernel, rfl⟩
theorem d_Bt_begin_57 : DC b_Bt_begin 57 (.invokevirtual 71) 3 60 := ⟨by decide +kernel, rfl⟩
theorem d_Bt_begin_60 : DC b_Bt_begin 60 (.iinc 2 1) 3 63 := ⟨by decide +kernel, rfl⟩
theorem d_Bt_begin_63 : DB b_Bt_begin 63 (.goto (-51)) (-51) 12 66 := ⟨by decide +kernel, by decide, rfl⟩
theorem d_Bt_begin_66 : decode b_Bt_begin 66 = .ok (.return_, 1) := by decide +kernel
theorem w_Bt_begin_b60 {X : Ctx} {Y : Lay} (hY : IsX Y) (C : Cx X Y b_Bt_begin 5 none "TopYard$Bout" 4) {N : Nat} {r : Mem} (k12 : Nat → Int32 → Mem → Option (Mem)) (hk12 : ∀ (a0 : Nat) (x2 : Int32) (ν : Mem) (g0 : ykd Y a0 = 0 ∧ a0 < yn Y), k12 a0 x2 ν = some r → J X Y none r 5 12 [(0, .ref (yad Y a0)), (1, .ref (yad Y 4)), (2, .int x2)] [] ν) (a0 : Nat) (x2 : Int32) (μ : Mem) (g0 : ykd Y a0 = 0 ∧ a0 < yn Y) (hf : f_Bt_begin_b60 N k12 a0 x2 μ = some r) : J X Y none r 5 60 [(0, .ref (yad Y a0)), (1, .ref (yad Y 4)), (2, .int x2)] [] μ := by
  unfold f_Bt_begin_b60 at hf
  refine j_iinc (lvf := [(0, .ref (yad Y a0)), (1, .ref (yad Y 4))]) (v := 1) C d_Bt_begin_60 2 rfl (by decide) (by decide) rfl hf (fun v1 hf => ?_)
  refine j_goto C d_Bt_begin_63 ?_
  refine j_sub [1, 2, 0] rfl ?_
  exact hk12 a0 v1 μ ⟨g0.1, g0.2⟩ hf
theorem w_Bt_begin_b57 {X : Ctx} {Y : Lay} (hY : IsX Y) (C : Cx X Y b_Bt_begin 5 none "TopYard$Bout" 4) {N : Nat} {r : Mem} (k12 : Nat → Int32 → Mem → Option (Mem)) (hk12 : ∀ (a0 : Nat) (x2 : Int32) (ν : Mem) (g0 : ykd Y a0 = 0 ∧ a0 < yn Y), k12 a0 x2 ν = some r → J X Y none r 5 12 [(0, .ref (yad Y a0)), (1, .ref (yad Y 4)), (2, .int x2)] [] ν) (a0 : Nat) (x2 : Int32) (xs0 : Int32) (as1 : Nat) (μ : Mem) (g0 : ykd Y a0 = 0 ∧ a0 < yn Y) (gs1 : ykd Y as1 = 7 ∧ as1 < yn Y) (hf : f_Bt_begin_b57 N k12 a0 x2 xs0 as1 μ = some r) : J X Y none r 5 57 [(0, .ref (yad Y a0)), (1, .ref (yad Y 4)), (2, .int x2)] [.int xs0, .ref (yad Y as1)] μ := by
  unfold f_Bt_begin_b57 at hf
  refine bd hf (fun μ1 hc2 hf => ?_)
  refine j_cV (rest := []) C lk_Bt_71 (c_Sp_begin hY ⟨gs1.1, gs1.2⟩ hc2) rfl gs1.1 gs1.2 (by decide) rfl rfl (by decide) rfl (Nat.le_of_ble_eq_true rfl) d_Bt_begin_57 ?_
  refine j_sub [0, 1, 2] rfl ?_
  exact w_Bt_begin_b60 hY C k12 hk12 a0 x2 μ1 ⟨g0.1, g0.2⟩ hf
theorem w_Bt_begin_b56 {X : Ctx} {Y : Lay} (hY : IsX Y) (C : Cx X Y b_Bt_begin 5 none "TopYard$Bout" 4) {N : Nat} {r : Mem} (k12 : Nat → Int32 → Mem → Option (Mem)) (hk12 : ∀ (a0 : Nat) (x2 : Int32) (ν : Mem) (g0 : ykd Y a0 = 0 ∧ a0 < yn Y), k12 a0 x2 ν = some r → J X Y none r 5 12 [(0, .ref (yad Y a0)), (1, .ref (yad Y 4)), (2, .int x2)] [] ν) (a0 : Nat) (x2 : Int32) (as0 : Nat) (μ : Mem) (g0 : ykd Y a0 = 0 ∧ a0 < yn Y) (gs0 : ykd Y as0 = 7 ∧ as0 < yn Y) (hf : f_Bt_begin_b56 N k12 a0 x2 as0 μ = some r) : J X Y none r 5 56 [(0, .ref (yad Y a0)), (1, .ref (yad Y 4)), (2, .int x2)] [.ref (yad Y as0)] μ := by
  unfold f_Bt_begin_b56 at hf
  refine j_iconst (v := 0) C d_Bt_begin_56 (by decide) ?_
  refine j_sub [0, 1, 2] rfl ?_
  exact w_Bt_begin_b57 hY C k12 hk12 a0 x2 0 as0 μ ⟨g0.1, g0.2⟩ ⟨gs0.1, gs0.2⟩ hf
theorem w_Bt_begin_l12 {X : Ctx} {Y : Lay} (hY : IsX Y) (C : Cx X Y b_Bt_begin 5 none "TopYard$Bout" 4) {N : Nat} {r : Mem} : ∀ (n : Nat) (a0 : Nat) (x2 : Int32) (μ : Mem) (g0 : ykd Y a0 = 0 ∧ a0 < yn Y), f_Bt_begin_l12 N n a0 x2 μ = some r → J X Y none r 5 12 [(0, .ref (yad Y a0)), (1, .ref (yad Y 4)), (2, .int x2)] [] μ := by
  intro n
  induction n with
  | zero => intro a0 x2 μ g0 hf; rw [f_Bt_begin_l12] at hf; cases hf
  | succ n ih =>
    intro a0 x2 μ g0 hf
    rw [f_Bt_begin_l12] at hf
    refine j_iload_n C d_Bt_begin_12 2 rfl ?_
    refine j_aload_n C d_Bt_begin_13 0 rfl ?_
    refine j_gI C fl_Bt_17 g0.1 g0.2 rfl d_Bt_begin_14 ?_
    refine j_icmp_ge C d_Bt_begin_17 hf (fun hf => ?_) (fun hf => ?_)
    · obtain rfl := Option.some.inj hf
      exact j_vret C d_Bt_begin_66
    · refine j_aload_n C d_Bt_begin_20 0 rfl ?_
      refine j_iload_n C d_Bt_begin_21 2 rfl ?_
      refine bd hf (fun u1 hc6 hf => ?_)
      refine j_wt (fun hT hSt => ?_)
      have hu1 := rt_Bt_at hY hT hc6 ⟨g0.1, g0.2⟩
      refine j_cV (rest := []) C lk_Bt_41 (c_Bt_at hY ⟨g0.1, g0.2⟩ hc6) rfl g0.1 g0.2 (by decide) rfl rfl (by decide) rfl (Nat.le_of_ble_eq_true rfl) d_Bt_begin_22 ?_
      refine j_astoreo_n (lvf := [(0, .ref (yad Y a0)), (1, .ref (yad Y 4)), (2, .int x2)]) C d_Bt_begin_25 (by decide) rfl ?_
      refine j_aloado_n C d_Bt_begin_26 0 rfl ?_
      cases u1 with
      | none =>
        refine j_nul_t C d_Bt_begin_27 ?_
        refine j_sub [1, 2, 3] rfl ?_
        exact w_Bt_begin_b60 hY C (f_Bt_begin_l12 N n) ih a0 x2 μ ⟨g0.1, g0.2⟩ hf
      | some e2 =>
        refine j_nul_f C d_Bt_begin_27 ?_
        refine j_aload_n C d_Bt_begin_30 0 rfl ?_
        refine bd hf (fun v3 hc5 hf => ?_)
        refine j_cV (rest := []) C lk_Bt_68 (c_Sp_owner hY ⟨(hu1 e2 rfl).2, (hu1 e2 rfl).1⟩ hc5) rfl (hu1 e2 rfl).2 (hu1 e2 rfl).1 (by decide) rfl rfl (by decide) rfl (Nat.le_of_ble_eq_true rfl) d_Bt_begin_31 ?_
        refine j_istore (lvf := [(3, .ref (yad Y e2)), (0, .ref (yad Y a0)), (1, .ref (yad Y 4)), (2, .int x2)]) C d_Bt_begin_34 (by decide) rfl ?_
        refine j_aload_n C d_Bt_begin_36 1 rfl ?_
        refine j_iload C d_Bt_begin_37 0 rfl ?_
        refine j_if_lt C d_Bt_begin_39 hf (fun hf => ?_) (fun hf => ?_)
        · refine j_sub [2, 3, 4] rfl ?_
          exact w_Bt_begin_b56 hY C (f_Bt_begin_l12 N n) ih a0 x2 e2 μ ⟨g0.1, g0.2⟩ ⟨(hu1 e2 rfl).2, (hu1 e2 rfl).1⟩ hf
        · refine j_iload C d_Bt_begin_42 0 rfl ?_
          refine j_aload_n C d_Bt_begin_44 3 rfl ?_
          refine j_alen C (kX hY rfl) (nX hY (by decide)) (lX hY rfl) d_Bt_begin_45 ?_
          refine j_icmp_ge C d_Bt_begin_46 hf (fun hf => ?_) (fun hf => ?_)
          · refine j_sub [2, 3, 4] rfl ?_
            exact w_Bt_begin_b56 hY C (f_Bt_begin_l12 N n) ih a0 x2 e2 μ ⟨g0.1, g0.2⟩ ⟨(hu1 e2 rfl).2, (hu1 e2 rfl).1⟩ hf
          · refine j_aload_n C d_Bt_begin_49 3 rfl ?_
            refine j_iload C d_Bt_begin_50 0 rfl ?_
            refine ck hf (fun hi4 hf => ?_)
            refine j_iald C (kX hY rfl) (nX hY (by decide)) (lX hY rfl) hi4 d_Bt_begin_52 ?_
            refine j_goto C d_Bt_begin_53 ?_
            refine j_sub [2, 3, 4] rfl ?_
            exact w_Bt_begin_b57 hY C (f_Bt_begin_l12 N n) ih a0 x2 (gI μ 4 (ix v3)) e2 μ ⟨g0.1, g0.2⟩ ⟨(hu1 e2 rfl).2, (hu1 e2 rfl).1⟩ hf
theorem c_Bt_begin {l : Launch} {Y : Lay} (hY : IsX Y) {N : Nat} {μ : Mem} {a0 : Nat} (g0 : ykd Y a0 = 0 ∧ a0 < yn Y) {r : Mem} (hf : f_Bt_begin N μ a0 = some r) : Ct l Y y_Bt_begin b_Bt_begin 5 none 4 [.ref (yad Y a0), .ref (yad Y 4)] none μ r := by
  refine ct_of (own := "TopYard$Bout") (lv := [(0, .ref (yad Y a0)), (1, .ref (yad Y 4))]) (by decide +kernel) rfl (Nat.le_of_ble_eq_true rfl) rfl (fun X hl C => ?_)
  subst hl
  unfold f_Bt_begin at hf
  refine j_aload_n C d_Bt_begin_0 0 rfl ?_
  refine j_iconst (v := 0) C d_Bt_begin_1 (by decide) ?_
  refine j_pI C fl_Bt_34 g0.1 g0.2 rfl rfl rfl d_Bt_begin_2 hf (fun μ1 hf => ?_)
  refine j_aload_n C d_Bt_begin_5 0 rfl ?_
  refine j_iconst (v := 0) C d_Bt_begin_6 (by decide) ?_
  refine j_pI C fl_Bt_37 g0.1 g0.2 rfl rfl rfl d_Bt_begin_7 hf (fun μ2 hf => ?_)
  refine j_iconst (v := 0) C d_Bt_begin_10 (by decide) ?_
  refine j_istore_n (lvf := [(0, .ref (yad Y a0)), (1, .ref (yad Y 4))]) C d_Bt_begin_11 (by decide) rfl ?_
  refine j_sub [1, 2, 0] rfl ?_
  exact w_Bt_begin_l12 hY C N a0 0 μ2 ⟨g0.1, g0.2⟩ hf
theorem d_Sp_stands_0 : DC b_Sp_stands 0 (.aload_n 0) 1 1 := ⟨by decide +kernel, rfl⟩
theorem d_Sp_stands_1 : DC b_Sp_stands 1 (.getfield 34) 3 4 := ⟨by decide +kernel, rfl⟩
theorem d_Sp_stands_4 : DB b_Sp_stands 4 (.ifCond .ne 7) 7 11 7 := ⟨by decide +kernel, by decide, rfl⟩
theorem d_Sp_stands_7 : DC b_Sp_stands 7 (.iconst 1) 1 8 := ⟨by decide +kernel, rfl⟩
theorem d_Sp_stands_8 : DB b_Sp_stands 8 (.goto 4) 4 12 11 := ⟨by decide +kernel, by decide, rfl⟩
theorem d_Sp_stands_11 : DC b_Sp_stands 11 (.iconst 0) 1 12 := ⟨by decide +kernel, rfl⟩
theorem d_Sp_stands_12 : decode b_Sp_stands 12 = .ok (.ireturn, 1) := by decide +kernel
theorem c_Sp_stands {l : Launch} {Y : Lay} (hY : IsX Y) {μ : Mem} {a0 : Nat} (g0 : ykd Y a0 = 7 ∧ a0 < yn Y) {r : Int32} (hf : f_Sp_stands μ a0 = some r) : Ct l Y y_Sp_stands b_Sp_stands 1 (some .boolean) 1 [.ref (yad Y a0)] (some (.int r)) μ μ := by
  refine ct_of (own := "TopYard$Spinner") (lv := [(0, .ref (yad Y a0))]) (by decide +kernel) rfl (Nat.le_of_ble_eq_true rfl) rfl (fun X hl C => ?_)
  subst hl
  unfold f_Sp_stands at hf
  refine j_aload_n C d_Sp_stands_0 0 rfl ?_
  refine j_gI C fl_Sp_34 g0.1 g0.2 rfl d_Sp_stands_1 ?_
  refine j_if_ne C d_Sp_stands_4 hf (fun hf => ?_) (fun hf => ?_)
  · refine j_iconst (v := 0) C d_Sp_stands_11 (by decide) ?_
    obtain rfl := Option.some.inj hf
    exact j_zret C (Or.inl rfl) d_Sp_stands_12
  · refine j_iconst (v := 1) C d_Sp_stands_7 (by decide) ?_
    refine j_goto C d_Sp_stands_8 ?_
    obtain rfl := Option.some.inj hf
    exact j_zret C (Or.inr rfl) d_Sp_stands_12
theorem d_Bt_lash_0 : DC b_Bt_lash 0 (.iconst 0) 1 1 := ⟨by decide +kernel, rfl⟩
theorem d_Bt_lash_1 : DC b_Bt_lash 1 (.istore_n 2) 1 2 := ⟨by decide +kernel, rfl⟩
theorem d_Bt_lash_2 : DC b_Bt_lash 2 (.iload_n 2) 1 3 := ⟨by decide +kernel, rfl⟩
theorem d_Bt_lash_3 : DC b_Bt_lash 3 (.aload_n 0) 1 4 := ⟨by decide +kernel, rfl⟩
theorem d_Bt_lash_4 : DC b_Bt_lash 4 (.getfield 31) 3 7 := ⟨by decide +kernel, rfl⟩
theorem d_Bt_lash_7 : DB b_Bt_lash 7 (.if_icmp .ge 56) 56 63 10 := ⟨by decide +kernel, by decide, rfl⟩
theorem d_Bt_lash_10 : DC b_Bt_lash 10 (.aload_n 0) 1 11 := ⟨by decide +kernel, rfl⟩
theorem d_Bt_lash_11 : DC b_Bt_lash 11 (.aload_n 0) 1 12 := ⟨by decide +kernel, rfl⟩
theorem d_Bt_lash_12 : DC b_Bt_lash 12 (.getfield 21) 3 15 := ⟨by decide +kernel, rfl⟩
theorem d_Bt_lash_15 : DC b_Bt_lash 15 (.iload_n 2) 1 16 := ⟨by decide +kernel, rfl⟩
theorem d_Bt_lash_16 : DC b_Bt_lash 16 (.iaload) 1 17 := ⟨by decide +kernel, rfl⟩
theorem d_Bt_lash_17 : DC b_Bt_lash 17 (.invokevirtual 41) 3 20 := ⟨by decide +kernel, rfl⟩
theorem d_Bt_lash_20 : DC b_Bt_lash 20 (.astore_n 3) 1 21 := ⟨by decide +kernel, rfl⟩
theorem d_Bt_lash_21 : DC b_Bt_lash 21 (.aload_n 0) 1 22 := ⟨by decide +kernel, rfl⟩
theorem d_Bt_lash_22 : DC b_Bt_lash 22 (.getfield 25) 3 25 := ⟨by decide +kernel, rfl⟩
theorem d_Bt_lash_25 : DC b_Bt_lash 25 (.iload_n 2) 1 26 := ⟨by decide +kernel, rfl⟩
theorem d_Bt_lash_26 : DC b_Bt_lash 26 (.iaload) 1 27 := ⟨by decide +kernel, rfl⟩
theorem d_Bt_lash_27 : DC b_Bt_lash 27 (.iload_n 1) 1 28 := ⟨by decide +kernel, rfl⟩
theorem d_Bt_lash_28 : DB b_Bt_lash 28 (.if_icmp .ne 29) 29 57 31 := ⟨by decide +kernel, by decide, rfl⟩
theorem d_Bt_lash_31 : DC b_Bt_lash 31 (.aload_n 3) 1 32 := ⟨by decide +kernel, rfl⟩
theorem d_Bt_lash_32 : DB b_Bt_lash 32 (.ifnull 25) 25 57 35 := ⟨by decide +kernel, by decide, rfl⟩
theorem d_Bt_lash_35 : DC b_Bt_lash 35 (.aload_n 3) 1 36 := ⟨by decide +kernel, rfl⟩
theorem d_Bt_lash_36 : DC b_Bt_lash 36 (.invokevirtual 74) 3 39 := ⟨by decide +kernel, rfl⟩
theorem d_Bt_lash_39 : DB b_Bt_lash 39 (.ifCond .eq 18) 18 57 42 := ⟨by decide +kernel, by decide, rfl⟩
theorem d_Bt_lash_42 : DC b_Bt_lash 42 (.aload_n 3) 1 43 := ⟨by decide +kernel, rfl⟩
theorem d_Bt_lash_43 : DC b_Bt_lash 43 (.dup) 1 44 := ⟨by decide +kernel, rfl⟩
theorem d_Bt_lash_44 : DC b_Bt_lash 44 (.getfield 109) 3 47 := ⟨by decide +kernel, rfl⟩
theorem d_Bt_lash_47 : DC b_Bt_lash 47 (.aload_n 0) 1 48 := ⟨by decide +kernel, rfl⟩
theorem d_Bt_lash_48 : DC b_Bt_lash 48 (.getfield 28) 3 51 := ⟨by decide +kernel, rfl⟩
theorem d_Bt_lash_51 : DC b_Bt_lash 51 (.iload_n 2) 1 52 := ⟨by decide +kernel, rfl⟩
theorem d_Bt_lash_52 : DC b_Bt_lash 52 (.iaload) 1 53 := ⟨by decide +kernel, rfl⟩
theorem d_Bt_lash_53 : DC b_Bt_lash 53 (.iadd) 1 54 := ⟨by decide +kernel, rfl⟩
theorem d_Bt_lash_54 : DC b_Bt_lash 54 (.putfield 109) 3 57 := ⟨by decide +kernel, rfl⟩
theorem d_Bt_lash_57 : DC b_Bt_lash 57 (.iinc 2 1) 3 60 := ⟨by decide +kernel, rfl⟩
theorem d_Bt_lash_60 : DB b_Bt_lash 60 (.goto (-58)) (-58) 2 63 := ⟨by decide +kernel, by decide, rfl⟩
theorem d_Bt_lash_63 : decode b_Bt_lash 63 = .ok (.return_, 1) := by decide +kernel
theorem w_Bt_lash_b57 {X : Ctx} {Y : Lay} (hY : IsX Y) (C : Cx X Y b_Bt_lash 4 none "TopYard$Bout" 2) {N : Nat} {r : Mem} (k2 : Nat → Int32 → Int32 → Mem → Option (Mem)) (hk2 : ∀ (a0 : Nat) (x1 : Int32) (x2 : Int32) (ν : Mem) (g0 : ykd Y a0 = 0 ∧ a0 < yn Y), k2 a0 x1 x2 ν = some r → J X Y none r 4 2 [(0, .ref (yad Y a0)), (1, .int x1), (2, .int x2)] [] ν) (a0 : Nat) (x1 : Int32) (x2 : Int32) (μ : Mem) (g0 : ykd Y a0 = 0 ∧ a0 < yn Y) (hf : f_Bt_lash_b57 N k2 a0 x1 x2 μ = some r) : J X Y none r 4 57 [(0, .ref (yad Y a0)), (1, .int x1), (2, .int x2)] [] μ := by
  unfold f_Bt_lash_b57 at hf
  refine j_iinc (lvf := [(0, .ref (yad Y a0)), (1, .int x1)]) (v := 1) C d_Bt_lash_57 2 rfl (by decide) (by decide) rfl hf (fun v1 hf => ?_)
  refine j_goto C d_Bt_lash_60 ?_
  refine j_sub [1, 2, 0] rfl ?_
  exact hk2 a0 x1 v1 μ ⟨g0.1, g0.2⟩ hf
theorem w_Bt_lash_l2 {X : Ctx} {Y : Lay} (hY : IsX Y) (C : Cx X Y b_Bt_lash 4 none "TopYard$Bout" 2) {N : Nat} {r : Mem} : ∀ (n : Nat) (a0 : Nat) (x1 : Int32) (x2 : Int32) (μ : Mem) (g0 : ykd Y a0 = 0 ∧ a0 < yn Y), f_Bt_lash_l2 N n a0 x1 x2 μ = some r → J X Y none r 4 2 [(0, .ref (yad Y a0)), (1, .int x1), (2, .int x2)] [] μ := by
  intro n
  induction n with
  | zero => intro a0 x1 x2 μ g0 hf; rw [f_Bt_lash_l2] at hf; cases hf
  | succ n ih =>
    intro a0 x1 x2 μ g0 hf
    rw [f_Bt_lash_l2] at hf
    refine j_iload_n C d_Bt_lash_2 2 rfl ?_
    refine j_aload_n C d_Bt_lash_3 0 rfl ?_
    refine j_gI C fl_Bt_31 g0.1 g0.2 rfl d_Bt_lash_4 ?_
    refine j_icmp_ge C d_Bt_lash_7 hf (fun hf => ?_) (fun hf => ?_)
    · obtain rfl := Option.some.inj hf
      exact j_vret C d_Bt_lash_63
    · refine j_aload_n C d_Bt_lash_10 0 rfl ?_
      refine j_aload_n C d_Bt_lash_11 0 rfl ?_
      refine j_gS (b := (srX a0 2)) C fl_Bt_21 g0.1 g0.2 rfl hY.2.2.2.1 rfl (sX hY rfl) d_Bt_lash_12 ?_
      refine j_iload_n C d_Bt_lash_15 2 rfl ?_
      refine ck hf (fun hi1 hf => ?_)
      refine j_iald C (tbX_0_2 hY g0.1).1 (tbX_0_2 hY g0.1).2.1 (tbX_0_2 hY g0.1).2.2 hi1 d_Bt_lash_16 ?_
      refine bd hf (fun u2 hc9 hf => ?_)
      refine j_wt (fun hT hSt => ?_)
      have hu2 := rt_Bt_at hY hT hc9 ⟨g0.1, g0.2⟩
      refine j_cV (rest := []) C lk_Bt_41 (c_Bt_at hY ⟨g0.1, g0.2⟩ hc9) rfl g0.1 g0.2 (by decide) rfl rfl (by decide) rfl (Nat.le_of_ble_eq_true rfl) d_Bt_lash_17 ?_
      refine j_astoreo_n (lvf := [(0, .ref (yad Y a0)), (1, .int x1), (2, .int x2)]) C d_Bt_lash_20 (by decide) rfl ?_
      refine j_aload_n C d_Bt_lash_21 1 rfl ?_
      refine j_gS (b := (srX a0 3)) C fl_Bt_25 g0.1 g0.2 rfl hY.2.2.2.1 rfl (sX hY rfl) d_Bt_lash_22 ?_
      refine j_iload_n C d_Bt_lash_25 3 rfl ?_
      refine ck hf (fun hi3 hf => ?_)
      refine j_iald C (tbX_0_3 hY g0.1).1 (tbX_0_3 hY g0.1).2.1 (tbX_0_3 hY g0.1).2.2 hi3 d_Bt_lash_26 ?_
      refine j_iload_n C d_Bt_lash_27 2 rfl ?_
      refine j_icmp_ne C d_Bt_lash_28 hf (fun hf => ?_) (fun hf => ?_)
      · refine j_sub [1, 2, 3] rfl ?_
        exact w_Bt_lash_b57 hY C (f_Bt_lash_l2 N n) ih a0 x1 x2 μ ⟨g0.1, g0.2⟩ hf
      · refine j_aloado_n C d_Bt_lash_31 0 rfl ?_
        cases u2 with
        | none =>
          refine j_nul_t C d_Bt_lash_32 ?_
          refine j_sub [1, 2, 3] rfl ?_
          exact w_Bt_lash_b57 hY C (f_Bt_lash_l2 N n) ih a0 x1 x2 μ ⟨g0.1, g0.2⟩ hf
        | some e4 =>
          refine j_nul_f C d_Bt_lash_32 ?_
          refine j_aload_n C d_Bt_lash_35 0 rfl ?_
          refine bd hf (fun v5 hc8 hf => ?_)
          refine j_cV (rest := []) C lk_Bt_74 (c_Sp_stands hY ⟨(hu2 e4 rfl).2, (hu2 e4 rfl).1⟩ hc8) rfl (hu2 e4 rfl).2 (hu2 e4 rfl).1 (by decide) rfl rfl (by decide) rfl (Nat.le_of_ble_eq_true rfl) d_Bt_lash_36 ?_
          refine j_if_eq C d_Bt_lash_39 hf (fun hf => ?_) (fun hf => ?_)
          · refine j_sub [1, 2, 3] rfl ?_
            exact w_Bt_lash_b57 hY C (f_Bt_lash_l2 N n) ih a0 x1 x2 μ ⟨g0.1, g0.2⟩ hf
          · refine j_aload_n C d_Bt_lash_42 0 rfl ?_
            refine j_dup C d_Bt_lash_43 rfl ?_
            refine j_gI C fl_Bt_109 (hu2 e4 rfl).2 (hu2 e4 rfl).1 rfl d_Bt_lash_44 ?_
            refine j_aload_n C d_Bt_lash_47 1 rfl ?_
            refine j_gS (b := (srX a0 4)) C fl_Bt_28 g0.1 g0.2 rfl hY.2.2.2.1 rfl (sX hY rfl) d_Bt_lash_48 ?_
            refine j_iload_n C d_Bt_lash_51 3 rfl ?_
            refine ck hf (fun hi6 hf => ?_)
            refine j_iald C (tbX_0_4 hY g0.1).1 (tbX_0_4 hY g0.1).2.1 (tbX_0_4 hY g0.1).2.2 hi6 d_Bt_lash_52 ?_
            refine j_iadd C d_Bt_lash_53 ?_
            refine j_pI C fl_Bt_109 (hu2 e4 rfl).2 (hu2 e4 rfl).1 rfl rfl rfl d_Bt_lash_54 hf (fun μ7 hf => ?_)
            refine j_sub [1, 2, 3] rfl ?_
            exact w_Bt_lash_b57 hY C (f_Bt_lash_l2 N n) ih a0 x1 x2 μ7 ⟨g0.1, g0.2⟩ hf
theorem c_Bt_lash {l : Launch} {Y : Lay} (hY : IsX Y) {N : Nat} {μ : Mem} {a0 : Nat} {x1 : Int32} (g0 : ykd Y a0 = 0 ∧ a0 < yn Y) {r : Mem} (hf : f_Bt_lash N μ a0 x1 = some r) : Ct l Y y_Bt_lash b_Bt_lash 4 none 2 [.ref (yad Y a0), .int x1] none μ r := by
  refine ct_of (own := "TopYard$Bout") (lv := [(0, .ref (yad Y a0)), (1, .int x1)]) (by decide +kernel) rfl (Nat.le_of_ble_eq_true rfl) rfl (fun X hl C => ?_)
  subst hl
  unfold f_Bt_lash at hf
  refine j_iconst (v := 0) C d_Bt_lash_0 (by decide) ?_
  refine j_istore_n (lvf := [(0, .ref (yad Y a0)), (1, .int x1)]) C d_Bt_lash_1 (by decide) rfl ?_
  refine j_sub [1, 2, 0] rfl ?_
  exact w_Bt_lash_l2 hY C N a0 x1 0 μ ⟨g0.1, g0.2⟩ hf
theorem d_Sp_slow_0 : DC b_Sp_slow 0 (.aload_n 0) 1 1 := ⟨by decide +kernel, rfl⟩
theorem d_Sp_slow_1 : DC b_Sp_slow 1 (.iconst 0) 1 2 := ⟨by decide +kernel, rfl⟩
theorem d_Sp_slow_2 : DC b_Sp_slow 2 (.aload_n 0) 1 3 := ⟨by decide +kernel, rfl⟩
theorem d_Sp_slow_3 : DC b_Sp_slow 3 (.getfield 91) 3 6 := ⟨by decide +kernel, rfl⟩
theorem d_Sp_slow_6 : DC b_Sp_slow 6 (.aload_n 0) 1 7 := ⟨by decide +kernel, rfl⟩
theorem d_Sp_slow_7 : DC b_Sp_slow 7 (.getfield 60) 3 10 := ⟨by decide +kernel, rfl⟩
theorem d_Sp_slow_10 : DC b_Sp_slow 10 (.isub) 1 11 := ⟨by decide +kernel, rfl⟩
theorem d_Sp_slow_11 : DC b_Sp_slow 11 (.aload_n 0) 1 12 := ⟨by decide +kernel, rfl⟩
theorem d_Sp_slow_12 : DC b_Sp_slow 12 (.getfield 94) 3 15 := ⟨by decide +kernel, rfl⟩
theorem d_Sp_slow_15 : DC b_Sp_slow 15 (.isub) 1 16 := ⟨by decide +kernel, rfl⟩
theorem d_Sp_slow_16 : DC b_Sp_slow 16 (.invokestatic 40) 3 19 := ⟨by decide +kernel, rfl⟩
theorem d_Sp_slow_19 : DC b_Sp_slow 19 (.putfield 91) 3 22 := ⟨by decide +kernel, rfl⟩
theorem d_Sp_slow_22 : decode b_Sp_slow 22 = .ok (.return_, 1) := by decide +kernel
theorem c_Sp_slow {l : Launch} {Y : Lay} (hY : IsX Y) {μ : Mem} {a0 : Nat} (g0 : ykd Y a0 = 7 ∧ a0 < yn Y) {r : Mem} (hf : f_Sp_slow μ a0 = some r) : Ct l Y y_Sp_slow b_Sp_slow 1 none 2 [.ref (yad Y a0)] none μ r := by
  refine ct_of (own := "TopYard$Spinner") (lv := [(0, .ref (yad Y a0))]) (by decide +kernel) rfl (Nat.le_of_ble_eq_true rfl) rfl (fun X hl C => ?_)
  subst hl
  unfold f_Sp_slow at hf
  refine j_aload_n C d_Sp_slow_0 0 rfl ?_
  refine j_iconst (v := 0) C d_Sp_slow_1 (by decide) ?_
  refine j_aload_n C d_Sp_slow_2 0 rfl ?_
  refine j_gI C fl_Sp_91 g0.1 g0.2 rfl d_Sp_slow_3 ?_
  refine j_aload_n C d_Sp_slow_6 0 rfl ?_
  refine j_gI C fl_Sp_60 g0.1 g0.2 rfl d_Sp_slow_7 ?_
  refine j_isub C d_Sp_slow_10 ?_
  refine j_aload_n C d_Sp_slow_11 0 rfl ?_
  refine j_gI C fl_Sp_94 g0.1 g0.2 rfl d_Sp_slow_12 ?_
  refine j_isub C d_Sp_slow_15 ?_
  refine bd hf (fun v1 hc3 hf => ?_)
  refine j_cS (rest := [.ref (yad Y a0)]) C lk_Sp_40 (c_JM_max1 hY hc3) rfl (by decide) rfl (Nat.le_of_ble_eq_true rfl) d_Sp_slow_16 ?_
  refine j_pI C fl_Sp_91 g0.1 g0.2 rfl rfl rfl d_Sp_slow_19 hf (fun μ2 hf => ?_)
  obtain rfl := Option.some.inj hf
  exact j_vret C d_Sp_slow_22
theorem d_Sp_tilt_0 : DC b_Sp_tilt 0 (.aload_n 0) 1 1 := ⟨by decide +kernel, rfl⟩
theorem d_Sp_tilt_1 : DC b_Sp_tilt 1 (.getfield 91) 3 4 := ⟨by decide +kernel, rfl⟩
theorem d_Sp_tilt_4 : DC b_Sp_tilt 4 (.bipush 100) 2 6 := ⟨by decide +kernel, rfl⟩
theorem d_Sp_tilt_6 : DC b_Sp_tilt 6 (.bipush 10) 2 8 := ⟨by decide +kernel, rfl⟩
theorem d_Sp_tilt_8 : DC b_Sp_tilt 8 (.aload_n 0) 1 9 := ⟨by decide +kernel, rfl⟩
theorem d_Sp_tilt_9 : DC b_Sp_tilt 9 (.getfield 94) 3 12 := ⟨by decide +kernel, rfl⟩
theorem d_Sp_tilt_12 : DC b_Sp_tilt 12 (.imul) 1 13 := ⟨by decide +kernel, rfl⟩
theorem d_Sp_tilt_13 : DC b_Sp_tilt 13 (.iadd) 1 14 := ⟨by decide +kernel, rfl⟩
theorem d_Sp_tilt_14 : DB b_Sp_tilt 14 (.if_icmp .lt 20) 20 34 17 := ⟨by decide +kernel, by decide, rfl⟩
theorem d_Sp_tilt_17 : DC b_Sp_tilt 17 (.aload_n 0) 1 18 := ⟨by decide +kernel, rfl⟩
theorem d_Sp_tilt_18 : DC b_Sp_tilt 18 (.iconst 0) 1 19 := ⟨by decide +kernel, rfl⟩
theorem d_Sp_tilt_19 : DC b_Sp_tilt 19 (.aload_n 0) 1 20 := ⟨by decide +kernel, rfl⟩
theorem d_Sp_tilt_20 : DC b_Sp_tilt 20 (.getfield 94) 3 23 := ⟨by decide +kernel, rfl⟩
theorem d_Sp_tilt_23 : DC b_Sp_tilt 23 (.iconst 1) 1 24 := ⟨by decide +kernel, rfl⟩
theorem d_Sp_tilt_24 : DC b_Sp_tilt 24 (.isub) 1 25 := ⟨by decide +kernel, rfl⟩
theorem d_Sp_tilt_25 : DC b_Sp_tilt 25 (.invokestatic 40) 3 28 := ⟨by decide +kernel, rfl⟩
theorem d_Sp_tilt_28 : DC b_Sp_tilt 28 (.putfield 94) 3 31 := ⟨by decide +kernel, rfl⟩
theorem d_Sp_tilt_31 : DB b_Sp_tilt 31 (.goto 22) 22 53 34 := ⟨by decide +kernel, by decide, rfl⟩
theorem d_Sp_tilt_34 : DC b_Sp_tilt 34 (.aload_n 0) 1 35 := ⟨by decide +kernel, rfl⟩
theorem d_Sp_tilt_35 : DC b_Sp_tilt 35 (.getfield 91) 3 38 := ⟨by decide +kernel, rfl⟩
theorem d_Sp_tilt_38 : DC b_Sp_tilt 38 (.bipush 50) 2 40 := ⟨by decide +kernel, rfl⟩
theorem d_Sp_tilt_40 : DB b_Sp_tilt 40 (.if_icmp .ge 13) 13 53 43 := ⟨by decide +kernel, by decide, rfl⟩
theorem d_Sp_tilt_43 : DC b_Sp_tilt 43 (.aload_n 0) 1 44 := ⟨by decide +kernel, rfl⟩
theorem d_Sp_tilt_44 : DC b_Sp_tilt 44 (.dup) 1 45 := ⟨by decide +kernel, rfl⟩
theorem d_Sp_tilt_45 : DC b_Sp_tilt 45 (.getfield 94) 3 48 := ⟨by decide +kernel, rfl⟩
theorem d_Sp_tilt_48 : DC b_Sp_tilt 48 (.iconst 1) 1 49 := ⟨by decide +kernel, rfl⟩
theorem d_Sp_tilt_49 : DC b_Sp_tilt 49 (.iadd) 1 50 := ⟨by decide +kernel, rfl⟩
theorem d_Sp_tilt_50 : DC b_Sp_tilt 50 (.putfield 94) 3 53 := ⟨by decide +kernel, rfl⟩
theorem d_Sp_tilt_53 : decode b_Sp_tilt 53 = .ok (.return_, 1) := by decide +kernel
theorem c_Sp_tilt {l : Launch} {Y : Lay} (hY : IsX Y) {μ : Mem} {a0 : Nat} (g0 : ykd Y a0 = 7 ∧ a0 < yn Y) {r : Mem} (hf : f_Sp_tilt μ a0 = some r) : Ct l Y y_Sp_tilt b_Sp_tilt 1 none 2 [.ref (yad Y a0)] none μ r := by
  refine ct_of (own := "TopYard$Spinner") (lv := [(0, .ref (yad Y a0))]) (by decide +kernel) rfl (Nat.le_of_ble_eq_true rfl) rfl (fun X hl C => ?_)
  subst hl
  unfold f_Sp_tilt at hf
  refine j_aload_n C d_Sp_tilt_0 0 rfl ?_
  refine j_gI C fl_Sp_91 g0.1 g0.2 rfl d_Sp_tilt_1 ?_
  refine j_bipush (v := 100) C d_Sp_tilt_4 (by decide) ?_
  refine j_bipush (v := 10) C d_Sp_tilt_6 (by decide) ?_
  refine j_aload_n C d_Sp_tilt_8 0 rfl ?_
  refine j_gI C fl_Sp_94 g0.1 g0.2 rfl d_Sp_tilt_9 ?_
  refine j_imul C d_Sp_tilt_12 ?_
  refine j_iadd C d_Sp_tilt_13 ?_
  refine j_icmp_lt C d_Sp_tilt_14 hf (fun hf => ?_) (fun hf => ?_)
  · refine j_aload_n C d_Sp_tilt_34 0 rfl ?_
    refine j_gI C fl_Sp_91 g0.1 g0.2 rfl d_Sp_tilt_35 ?_
    refine j_bipush (v := 50) C d_Sp_tilt_38 (by decide) ?_
    refine j_icmp_ge C d_Sp_tilt_40 hf (fun hf => ?_) (fun hf => ?_)
    · obtain rfl := Option.some.inj hf
      exact j_vret C d_Sp_tilt_53
    · refine j_aload_n C d_Sp_tilt_43 0 rfl ?_
      refine j_dup C d_Sp_tilt_44 rfl ?_
      refine j_gI C fl_Sp_94 g0.1 g0.2 rfl d_Sp_tilt_45 ?_
      refine j_iconst (v := 1) C d_Sp_tilt_48 (by decide) ?_
      refine j_iadd C d_Sp_tilt_49 ?_
      refine j_pI C fl_Sp_94 g0.1 g0.2 rfl rfl rfl d_Sp_tilt_50 hf (fun μ1 hf => ?_)
      obtain rfl := Option.some.inj hf
      exact j_vret C d_Sp_tilt_53
  · refine j_aload_n C d_Sp_tilt_17 0 rfl ?_
    refine j_iconst (v := 0) C d_Sp_tilt_18 (by decide) ?_
    refine j_aload_n C d_Sp_tilt_19 0 rfl ?_
    refine j_gI C fl_Sp_94 g0.1 g0.2 rfl d_Sp_tilt_20 ?_
    refine j_iconst (v := 1) C d_Sp_tilt_23 (by decide) ?_
    refine j_isub C d_Sp_tilt_24 ?_
    refine bd hf (fun v2 hc4 hf => ?_)
    refine j_cS (rest := [.ref (yad Y a0)]) C lk_Sp_40 (c_JM_max1 hY hc4) rfl (by decide) rfl (Nat.le_of_ble_eq_true rfl) d_Sp_tilt_25 ?_
    refine j_pI C fl_Sp_94 g0.1 g0.2 rfl rfl rfl d_Sp_tilt_28 hf (fun μ3 hf => ?_)
    refine j_goto C d_Sp_tilt_31 ?_
    obtain rfl := Option.some.inj hf
    exact j_vret C d_Sp_tilt_53
theorem d_JM_floorDiv_0 : DC b_JM_floorDiv 0 (.lload_n 0) 1 1 := ⟨by decide +kernel, rfl⟩
theorem d_JM_floorDiv_1 : DC b_JM_floorDiv 1 (.lload_n 2) 1 2 := ⟨by decide +kernel, rfl⟩
theorem d_JM_floorDiv_2 : DC b_JM_floorDiv 2 (.ldiv) 1 3 := ⟨by decide +kernel, rfl⟩
theorem d_JM_floorDiv_3 : DC b_JM_floorDiv 3 (.lstore 4) 2 5 := ⟨by decide +kernel, rfl⟩
theorem d_JM_floorDiv_5 : DC b_JM_floorDiv 5 (.lload_n 0) 1 6 := ⟨by decide +kernel, rfl⟩
theorem d_JM_floorDiv_6 : DC b_JM_floorDiv 6 (.lload_n 2) 1 7 := ⟨by decide +kernel, rfl⟩
theorem d_JM_floorDiv_7 : DC b_JM_floorDiv 7 (.lxor) 1 8 := ⟨by decide +kernel, rfl⟩
theorem d_JM_floorDiv_8 : DC b_JM_floorDiv 8 (.lconst 0) 1 9 := ⟨by decide +kernel, rfl⟩
theorem d_JM_floorDiv_9 : DC b_JM_floorDiv 9 (.lcmp) 1 10 := ⟨by decide +kernel, rfl⟩
theorem d_JM_floorDiv_10 : DB b_JM_floorDiv 10 (.ifCond .ge 17) 17 27 13 := ⟨by decide +kernel, by decide, rfl⟩
theorem d_JM_floorDiv_13 : DC b_JM_floorDiv 13 (.lload 4) 2 15 := ⟨by decide +kernel, rfl⟩
theorem d_JM_floorDiv_15 : DC b_JM_floorDiv 15 (.lload_n 2) 1 16 := ⟨by decide +kernel, rfl⟩
theorem d_JM_floorDiv_16 : DC b_JM_floorDiv 16 (.lmul) 1 17 := ⟨by decide +kernel, rfl⟩
theorem d_JM_floorDiv_17 : DC b_JM_floorDiv 17 (.lload_n 0) 1 18 := ⟨by decide +kernel, rfl⟩
theorem d_JM_floorDiv_18 : DC b_JM_floorDiv 18 (.lcmp) 1 19 := ⟨by decide +kernel, rfl⟩
theorem d_JM_floorDiv_19 : DB b_JM_floorDiv 19 (.ifCond .eq 8) 8 27 22 := ⟨by decide +kernel, by decide, rfl⟩
theorem d_JM_floorDiv_22 : DC b_JM_floorDiv 22 (.lload 4) 2 24 := ⟨by decide +kernel, rfl⟩
theorem d_JM_floorDiv_24 : DC b_JM_floorDiv 24 (.lconst 1) 1 25 := ⟨by decide +kernel, rfl⟩
theorem d_JM_floorDiv_25 : DC b_JM_floorDiv 25 (.lsub) 1 26 := ⟨by decide +kernel, rfl⟩
theorem d_JM_floorDiv_26 : decode b_JM_floorDiv 26 = .ok (.lreturn, 1) := by decide +kernel
theorem d_JM_floorDiv_27 : DC b_JM_floorDiv 27 (.lload 4) 2 29 := ⟨by decide +kernel, rfl⟩
theorem d_JM_floorDiv_29 : decode b_JM_floorDiv 29 = .ok (.lreturn, 1) := by decide +kernel
theorem c_JM_floorDiv {l : Launch} {Y : Lay} (hY : IsX Y) {μ : Mem} {x0 : Int64} {x2 : Int64} {r : Int64} (hf : f_JM_floorDiv x0 x2 = some r) : Ct l Y y_JM_floorDiv b_JM_floorDiv 6 (some .long) 1 [.long x0, .long x2] (some (.long r)) μ μ := by
  refine ct_of (own := "java/lang/Math") (lv := [(0, .long x0), (2, .long x2)]) (by decide +kernel) rfl (Nat.le_of_ble_eq_true rfl) rfl (fun X hl C => ?_)
  subst hl
  unfold f_JM_floorDiv at hf
  refine j_lload_n C d_JM_floorDiv_0 0 rfl ?_
  refine j_lload_n C d_JM_floorDiv_1 1 rfl ?_
  refine ckn hf (fun hz2 hf => ?_)
  refine j_ldiv C d_JM_floorDiv_2 hz2 ?_
  refine j_lstoreN (lvf := [(0, .long x0), (2, .long x2)]) C d_JM_floorDiv_3 (by decide) rfl hf (fun v1 hf => ?_)
  refine j_lload_n C d_JM_floorDiv_5 1 rfl ?_
  refine j_lload_n C d_JM_floorDiv_6 2 rfl ?_
  refine j_lxor C d_JM_floorDiv_7 ?_
  refine j_lconst (v := 0) C d_JM_floorDiv_8 (by decide) ?_
  refine j_lcmp_ge C d_JM_floorDiv_9 d_JM_floorDiv_10 hf (fun hf => ?_) (fun hf => ?_)
  · refine j_lload C d_JM_floorDiv_27 0 rfl ?_
    obtain rfl := Option.some.inj hf
    exact j_lret C d_JM_floorDiv_29
  · refine j_lload C d_JM_floorDiv_13 0 rfl ?_
    refine j_lload_n C d_JM_floorDiv_15 2 rfl ?_
    refine j_lmul C d_JM_floorDiv_16 ?_
    refine j_lload_n C d_JM_floorDiv_17 1 rfl ?_
    refine j_lcmp_eq C d_JM_floorDiv_18 d_JM_floorDiv_19 hf (fun hf => ?_) (fun hf => ?_)
    · refine j_lload C d_JM_floorDiv_27 0 rfl ?_
      obtain rfl := Option.some.inj hf
      exact j_lret C d_JM_floorDiv_29
    · refine j_lload C d_JM_floorDiv_22 0 rfl ?_
      refine j_lconst (v := 1) C d_JM_floorDiv_24 (by decide) ?_
      refine j_lsub C d_JM_floorDiv_25 ?_
      obtain rfl := Option.some.inj hf
      exact j_lret C d_JM_floorDiv_26
theorem d_JM_floorMod_0 : DC b_JM_floorMod 0 (.iload_n 0) 1 1 := ⟨by decide +kernel, rfl⟩
theorem d_JM_floorMod_1 : DC b_JM_floorMod 1 (.iload_n 1) 1 2 := ⟨by decide +kernel, rfl⟩
theorem d_JM_floorMod_2 : DC b_JM_floorMod 2 (.irem) 1 3 := ⟨by decide +kernel, rfl⟩
theorem d_JM_floorMod_3 : DC b_JM_floorMod 3 (.istore_n 2) 1 4 := ⟨by decide +kernel, rfl⟩
theorem d_JM_floorMod_4 : DC b_JM_floorMod 4 (.iload_n 0) 1 5 := ⟨by decide +kernel, rfl⟩
theorem d_JM_floorMod_5 : DC b_JM_floorMod 5 (.iload_n 1) 1 6 := ⟨by decide +kernel, rfl⟩
theorem d_JM_floorMod_6 : DC b_JM_floorMod 6 (.ixor) 1 7 := ⟨by decide +kernel, rfl⟩
theorem d_JM_floorMod_7 : DB b_JM_floorMod 7 (.ifCond .ge 11) 11 18 10 := ⟨by decide +kernel, by decide, rfl⟩
theorem d_JM_floorMod_10 : DC b_JM_floorMod 10 (.iload_n 2) 1 11 := ⟨by decide +kernel, rfl⟩
theorem d_JM_floorMod_11 : DB b_JM_floorMod 11 (.ifCond .eq 7) 7 18 14 := ⟨by decide +kernel, by decide, rfl⟩
theorem d_JM_floorMod_14 : DC b_JM_floorMod 14 (.iload_n 2) 1 15 := ⟨by decide +kernel, rfl⟩
theorem d_JM_floorMod_15 : DC b_JM_floorMod 15 (.iload_n 1) 1 16 := ⟨by decide +kernel, rfl⟩
theorem d_JM_floorMod_16 : DC b_JM_floorMod 16 (.iadd) 1 17 := ⟨by decide +kernel, rfl⟩
theorem d_JM_floorMod_17 : decode b_JM_floorMod 17 = .ok (.ireturn, 1) := by decide +kernel
theorem d_JM_floorMod_18 : DC b_JM_floorMod 18 (.iload_n 2) 1 19 := ⟨by decide +kernel, rfl⟩
theorem d_JM_floorMod_19 : decode b_JM_floorMod 19 = .ok (.ireturn, 1) := by decide +kernel
theorem c_JM_floorMod {l : Launch} {Y : Lay} (hY : IsX Y) {μ : Mem} {x0 : Int32} {x1 : Int32} {r : Int32} (hf : f_JM_floorMod x0 x1 = some r) : Ct l Y y_JM_floorMod b_JM_floorMod 3 (some .int) 1 [.int x0, .int x1] (some (.int r)) μ μ := by
  refine ct_of (own := "java/lang/Math") (lv := [(0, .int x0), (1, .int x1)]) (by decide +kernel) rfl (Nat.le_of_ble_eq_true rfl) rfl (fun X hl C => ?_)
  subst hl
  unfold f_JM_floorMod at hf
  refine j_iload_n C d_JM_floorMod_0 0 rfl ?_
  refine j_iload_n C d_JM_floorMod_1 1 rfl ?_
  refine ckn hf (fun hz2 hf => ?_)
  refine j_irem C d_JM_floorMod_2 hz2 ?_
  refine j_istore_nN (lvf := [(0, .int x0), (1, .int x1)]) C d_JM_floorMod_3 (by decide) rfl hf (fun v1 hf => ?_)
  refine j_iload_n C d_JM_floorMod_4 1 rfl ?_
  refine j_iload_n C d_JM_floorMod_5 2 rfl ?_
  refine j_ixor C d_JM_floorMod_6 ?_
  refine j_if_ge C d_JM_floorMod_7 hf (fun hf => ?_) (fun hf => ?_)
  · refine j_iload_n C d_JM_floorMod_18 0 rfl ?_
    obtain rfl := Option.some.inj hf
    exact j_iret C d_JM_floorMod_19
  · refine j_iload_n C d_JM_floorMod_10 0 rfl ?_
    refine j_if_eq C d_JM_floorMod_11 hf (fun hf => ?_) (fun hf => ?_)
    · refine j_iload_n C d_JM_floorMod_18 0 rfl ?_
      obtain rfl := Option.some.inj hf
      exact j_iret C d_JM_floorMod_19
    · refine j_iload_n C d_JM_floorMod_14 0 rfl ?_
      refine j_iload_n C d_JM_floorMod_15 2 rfl ?_
      refine j_iadd C d_JM_floorMod_16 ?_
      obtain rfl := Option.some.inj hf
      exact j_iret C d_JM_floorMod_17
theorem d_Sp_push_0 : DC b_Sp_push 0 (.aload_n 0) 1 1 := ⟨by decide +kernel, rfl⟩
theorem d_Sp_push_1 : DC b_Sp_push 1 (.getfield 63) 3 4 := ⟨by decide +kernel, rfl⟩
theorem d_Sp_push_4 : DC b_Sp_push 4 (.ldc2_w 100) 3 7 := ⟨by decide +kernel, rfl⟩
theorem d_Sp_push_7 : DC b_Sp_push 7 (.invokestatic 102) 3 10 := ⟨by decide +kernel, rfl⟩
theorem d_Sp_push_10 : DC b_Sp_push 10 (.l2i) 1 11 := ⟨by decide +kernel, rfl⟩
theorem d_Sp_push_11 : DC b_Sp_push 11 (.istore_n 2) 1 12 := ⟨by decide +kernel, rfl⟩
theorem d_Sp_push_12 : DC b_Sp_push 12 (.aload_n 0) 1 13 := ⟨by decide +kernel, rfl⟩
theorem d_Sp_push_13 : DC b_Sp_push 13 (.getfield 67) 3 16 := ⟨by decide +kernel, rfl⟩
theorem d_Sp_push_16 : DC b_Sp_push 16 (.ldc2_w 100) 3 19 := ⟨by decide +kernel, rfl⟩
theorem d_Sp_push_19 : DC b_Sp_push 19 (.invokestatic 102) 3 22 := ⟨by decide +kernel, rfl⟩
theorem d_Sp_push_22 : DC b_Sp_push 22 (.l2i) 1 23 := ⟨by decide +kernel, rfl⟩
theorem d_Sp_push_23 : DC b_Sp_push 23 (.istore_n 3) 1 24 := ⟨by decide +kernel, rfl⟩
theorem d_Sp_push_24 : DC b_Sp_push 24 (.aload_n 0) 1 25 := ⟨by decide +kernel, rfl⟩
theorem d_Sp_push_25 : DC b_Sp_push 25 (.dup) 1 26 := ⟨by decide +kernel, rfl⟩
theorem d_Sp_push_26 : DC b_Sp_push 26 (.getfield 79) 3 29 := ⟨by decide +kernel, rfl⟩
theorem d_Sp_push_29 : DC b_Sp_push 29 (.ldc2_w 106) 3 32 := ⟨by decide +kernel, rfl⟩
theorem d_Sp_push_32 : DC b_Sp_push 32 (.aload_n 0) 1 33 := ⟨by decide +kernel, rfl⟩
theorem d_Sp_push_33 : DC b_Sp_push 33 (.getfield 19) 3 36 := ⟨by decide +kernel, rfl⟩
theorem d_Sp_push_36 : DC b_Sp_push 36 (.i2l) 1 37 := ⟨by decide +kernel, rfl⟩
theorem d_Sp_push_37 : DC b_Sp_push 37 (.lmul) 1 38 := ⟨by decide +kernel, rfl⟩
theorem d_Sp_push_38 : DC b_Sp_push 38 (.aload_n 1) 1 39 := ⟨by decide +kernel, rfl⟩
theorem d_Sp_push_39 : DC b_Sp_push 39 (.iload_n 2) 1 40 := ⟨by decide +kernel, rfl⟩
theorem d_Sp_push_40 : DC b_Sp_push 40 (.iload_n 3) 1 41 := ⟨by decide +kernel, rfl⟩
theorem d_Sp_push_41 : DC b_Sp_push 41 (.invokevirtual 108) 3 44 := ⟨by decide +kernel, rfl⟩
theorem d_Sp_push_44 : DC b_Sp_push 44 (.i2l) 1 45 := ⟨by decide +kernel, rfl⟩
theorem d_Sp_push_45 : DC b_Sp_push 45 (.lmul) 1 46 := ⟨by decide +kernel, rfl⟩
theorem d_Sp_push_46 : DC b_Sp_push 46 (.lsub) 1 47 := ⟨by decide +kernel, rfl⟩
theorem d_Sp_push_47 : DC b_Sp_push 47 (.putfield 79) 3 50 := ⟨by decide +kernel, rfl⟩
theorem d_Sp_push_50 : DC b_Sp_push 50 (.aload_n 0) 1 51 := ⟨by decide +kernel, rfl⟩
theorem d_Sp_push_51 : DC b_Sp_push 51 (.dup) 1 52 := ⟨by decide +kernel, rfl⟩
theorem d_Sp_push_52 : DC b_Sp_push 52 (.getfield 85) 3 55 := ⟨by decide +kernel, rfl⟩
theorem d_Sp_push_55 : DC b_Sp_push 55 (.ldc2_w 106) 3 58 := ⟨by decide +kernel, rfl⟩
theorem d_Sp_push_58 : DC b_Sp_push 58 (.aload_n 0) 1 59 := ⟨by decide +kernel, rfl⟩
theorem d_Sp_push_59 : DC b_Sp_push 59 (.getfield 19) 3 62 := ⟨by decide +kernel, rfl⟩
theorem d_Sp_push_62 : DC b_Sp_push 62 (.i2l) 1 63 := ⟨by decide +kernel, rfl⟩
theorem d_Sp_push_63 : DC b_Sp_push 63 (.lmul) 1 64 := ⟨by decide +kernel, rfl⟩
theorem d_Sp_push_64 : DC b_Sp_push 64 (.aload_n 1) 1 65 := ⟨by decide +kernel, rfl⟩
theorem d_Sp_push_65 : DC b_Sp_push 65 (.iload_n 2) 1 66 := ⟨by decide +kernel, rfl⟩
theorem d_Sp_push_66 : DC b_Sp_push 66 (.iload_n 3) 1 67 := ⟨by decide +kernel, rfl⟩
theorem d_Sp_push_67 : DC b_Sp_push 67 (.invokevirtual 113) 3 70 := ⟨by decide +kernel, rfl⟩
theorem d_Sp_push_70 : DC b_Sp_push 70 (.i2l) 1 71 := ⟨by decide +kernel, rfl⟩
theorem d_Sp_push_71 : DC b_Sp_push 71 (.lmul) 1 72 := ⟨by decide +kernel, rfl⟩
theorem d_Sp_push_72 : DC b_Sp_push 72 (.lsub) 1 73 := ⟨by decide +kernel, rfl⟩
theorem d_Sp_push_73 : DC b_Sp_push 73 (.putfield 85) 3 76 := ⟨by decide +kernel, rfl⟩
theorem d_Sp_push_76 : DC b_Sp_push 76 (.aload_n 0) 1 77 := ⟨by decide +kernel, rfl⟩
theorem d_Sp_push_77 : DC b_Sp_push 77 (.aload_n 0) 1 78 := ⟨by decide +kernel, rfl⟩
theorem d_Sp_push_78 : DC b_Sp_push 78 (.getfield 70) 3 81 := ⟨by decide +kernel, rfl⟩
theorem d_Sp_push_81 : DC b_Sp_push 81 (.aload_n 0) 1 82 := ⟨by decide +kernel, rfl⟩
theorem d_Sp_push_82 : DC b_Sp_push 82 (.getfield 53) 3 85 := ⟨by decide +kernel, rfl⟩
theorem d_Sp_push_85 : DC b_Sp_push 85 (.iconst 1) 1 86 := ⟨by decide +kernel, rfl⟩
theorem d_Sp_push_86 : DC b_Sp_push 86 (.aload_n 0) 1 87 := ⟨by decide +kernel, rfl⟩
theorem d_Sp_push_87 : DC b_Sp_push 87 (.getfield 94) 3 90 := ⟨by decide +kernel, rfl⟩
theorem d_Sp_push_90 : DC b_Sp_push 90 (.iadd) 1 91 := ⟨by decide +kernel, rfl⟩
theorem d_Sp_push_91 : DC b_Sp_push 91 (.imul) 1 92 := ⟨by decide +kernel, rfl⟩
theorem d_Sp_push_92 : DC b_Sp_push 92 (.iadd) 1 93 := ⟨by decide +kernel, rfl⟩
theorem d_Sp_push_93 : DC b_Sp_push 93 (.bipush 36) 2 95 := ⟨by decide +kernel, rfl⟩
theorem d_Sp_push_95 : DC b_Sp_push 95 (.invokestatic 116) 3 98 := ⟨by decide +kernel, rfl⟩
theorem d_Sp_push_98 : DC b_Sp_push 98 (.putfield 70) 3 101 := ⟨by decide +kernel, rfl⟩
theorem d_Sp_push_101 : DC b_Sp_push 101 (.aload_n 0) 1 102 := ⟨by decide +kernel, rfl⟩
theorem d_Sp_push_102 : DC b_Sp_push 102 (.dup) 1 103 := ⟨by decide +kernel, rfl⟩
theorem d_Sp_push_103 : DC b_Sp_push 103 (.getfield 79) 3 106 := ⟨by decide +kernel, rfl⟩
theorem d_Sp_push_106 : DC b_Sp_push 106 (.aload_n 0) 1 107 := ⟨by decide +kernel, rfl⟩
theorem d_Sp_push_107 : DC b_Sp_push 107 (.getfield 19) 3 110 := ⟨by decide +kernel, rfl⟩
theorem d_Sp_push_110 : DC b_Sp_push 110 (.aload_n 0) 1 111 := ⟨by decide +kernel, rfl⟩
theorem d_Sp_push_111 : DC b_Sp_push 111 (.getfield 94) 3 114 := ⟨by decide +kernel, rfl⟩
theorem d_Sp_push_114 : DC b_Sp_push 114 (.imul) 1 115 := ⟨by decide +kernel, rfl⟩
theorem d_Sp_push_115 : DC b_Sp_push 115 (.aload_n 0) 1 116 := ⟨by decide +kernel, rfl⟩
theorem d_Sp_push_116 : DC b_Sp_push 116 (.getfield 70) 3 119 := ⟨by decide +kernel, rfl⟩
theorem d_Sp_push_119 : DC b_Sp_push 119 (.invokestatic 73) 3 122 := ⟨by decide +kernel, rfl⟩
theorem d_Sp_push_122 : DC b_Sp_push 122 (.imul) 1 123 := ⟨by decide +kernel, rfl⟩
theorem d_Sp_push_123 : DC b_Sp_push 123 (.bipush 65) 2 125 := ⟨by decide +kernel, rfl⟩
theorem d_Sp_push_125 : DC b_Sp_push 125 (.idiv) 1 126 := ⟨by decide +kernel, rfl⟩
theorem d_Sp_push_126 : DC b_Sp_push 126 (.i2l) 1 127 := ⟨by decide +kernel, rfl⟩
theorem d_Sp_push_127 : DC b_Sp_push 127 (.ladd) 1 128 := ⟨by decide +kernel, rfl⟩
theorem d_Sp_push_128 : DC b_Sp_push 128 (.putfield 79) 3 131 := ⟨by decide +kernel, rfl⟩
theorem d_Sp_push_131 : DC b_Sp_push 131 (.aload_n 0) 1 132 := ⟨by decide +kernel, rfl⟩
theorem d_Sp_push_132 : DC b_Sp_push 132 (.dup) 1 133 := ⟨by decide +kernel, rfl⟩
theorem d_Sp_push_133 : DC b_Sp_push 133 (.getfield 85) 3 136 := ⟨by decide +kernel, rfl⟩
theorem d_Sp_push_136 : DC b_Sp_push 136 (.aload_n 0) 1 137 := ⟨by decide +kernel, rfl⟩
theorem d_Sp_push_137 : DC b_Sp_push 137 (.getfield 19) 3 140 := ⟨by decide +kernel, rfl⟩
theorem d_Sp_push_140 : DC b_Sp_push 140 (.aload_n 0) 1 141 := ⟨by decide +kernel, rfl⟩
theorem d_Sp_push_141 : DC b_Sp_push 141 (.getfield 94) 3 144 := ⟨by decide +kernel, rfl⟩
theorem d_Sp_push_144 : DC b_Sp_push 144 (.imul) 1 145 := ⟨by decide +kernel, rfl⟩
theorem d_Sp_push_145 : DC b_Sp_push 145 (.aload_n 0) 1 146 := ⟨by decide +kernel, rfl⟩
theorem d_Sp_push_146 : DC b_Sp_push 146 (.getfield 70) 3 149 := ⟨by decide +kernel, rfl⟩
theorem d_Sp_push_149 : DC b_Sp_push 149 (.invokestatic 82) 3 152 := ⟨by decide +kernel, rfl⟩
theorem d_Sp_push_152 : DC b_Sp_push 152 (.imul) 1 153 := ⟨by decide +kernel, rfl⟩
theorem d_Sp_push_153 : DC b_Sp_push 153 (.bipush 65) 2 155 := ⟨by decide +kernel, rfl⟩
theorem d_Sp_push_155 : DC b_Sp_push 155 (.idiv) 1 156 := ⟨by decide +kernel, rfl⟩
theorem d_Sp_push_156 : DC b_Sp_push 156 (.i2l) 1 157 := ⟨by decide +kernel, rfl⟩
theorem d_Sp_push_157 : DC b_Sp_push 157 (.ladd) 1 158 := ⟨by decide +kernel, rfl⟩
theorem d_Sp_push_158 : DC b_Sp_push 158 (.putfield 85) 3 161 := ⟨by decide +kernel, rfl⟩
theorem d_Sp_push_161 : decode b_Sp_push 161 = .ok (.return_, 1) := by decide +kernel
theorem c_Sp_push {l : Launch} {Y : Lay} (hY : IsX Y) {μ : Mem} {a0 : Nat} (g0 : ykd Y a0 = 7 ∧ a0 < yn Y) {r : Mem} (hf : f_Sp_push μ a0 = some r) : Ct l Y y_Sp_push b_Sp_push 4 none 3 [.ref (yad Y a0), .ref (yad Y 2)] none μ r := by
  refine ct_of (own := "TopYard$Spinner") (lv := [(0, .ref (yad Y a0)), (1, .ref (yad Y 2))]) (by decide +kernel) rfl (Nat.le_of_ble_eq_true rfl) rfl (fun X hl C => ?_)
  subst hl
  unfold f_Sp_push at hf
  refine j_aload_n C d_Sp_push_0 0 rfl ?_
  refine j_gL C fl_Sp_63 g0.1 g0.2 rfl d_Sp_push_1 ?_
  refine j_ldc2 (v := 65) C d_Sp_push_4 wd_54 ?_
  refine bd hf (fun v1 hc21 hf => ?_)
  refine j_cS (rest := []) C lk_Sp_102 (c_JM_floorDiv hY hc21) rfl (by decide) rfl (Nat.le_of_ble_eq_true rfl) d_Sp_push_7 ?_
  refine j_l2i C d_Sp_push_10 ?_
  refine j_istore_nN (lvf := [(0, .ref (yad Y a0)), (1, .ref (yad Y 2))]) C d_Sp_push_11 (by decide) rfl hf (fun v2 hf => ?_)
  refine j_aload_n C d_Sp_push_12 1 rfl ?_
  refine j_gL C fl_Sp_67 g0.1 g0.2 rfl d_Sp_push_13 ?_
  refine j_ldc2 (v := 65) C d_Sp_push_16 wd_54 ?_
  refine bd hf (fun v3 hc20 hf => ?_)
  refine j_cS (rest := []) C lk_Sp_102 (c_JM_floorDiv hY hc20) rfl (by decide) rfl (Nat.le_of_ble_eq_true rfl) d_Sp_push_19 ?_
  refine j_l2i C d_Sp_push_22 ?_
  refine j_istore_nN (lvf := [(2, .int v2), (0, .ref (yad Y a0)), (1, .ref (yad Y 2))]) C d_Sp_push_23 (by decide) rfl hf (fun v4 hf => ?_)
  refine j_aload_n C d_Sp_push_24 2 rfl ?_
  refine j_dup C d_Sp_push_25 rfl ?_
  refine j_gL C fl_Sp_79 g0.1 g0.2 rfl d_Sp_push_26 ?_
  refine j_ldc2 (v := 2) C d_Sp_push_29 wd_55 ?_
  refine j_aload_n C d_Sp_push_32 2 rfl ?_
  refine j_gI C fl_Sp_19 g0.1 g0.2 rfl d_Sp_push_33 ?_
  refine j_i2l C d_Sp_push_36 ?_
  refine j_lmul C d_Sp_push_37 ?_
  refine j_aload_n C d_Sp_push_38 3 rfl ?_
  refine j_iload_n C d_Sp_push_39 1 rfl ?_
  refine j_iload_n C d_Sp_push_40 0 rfl ?_
  refine bd hf (fun v5 hc19 hf => ?_)
  refine j_cV (rest := [.long ((2 : Int64) * (gI μ a0 6).toInt64), .long (gL μ a0 12), .ref (yad Y a0)]) C lk_Sp_108 (c_Bw_slopeAlongX hY hc19) rfl (kX hY rfl) (nX hY (by decide)) (by decide) rfl rfl (by decide) rfl (Nat.le_of_ble_eq_true rfl) d_Sp_push_41 ?_
  refine j_i2l C d_Sp_push_44 ?_
  refine j_lmul C d_Sp_push_45 ?_
  refine j_lsub C d_Sp_push_46 ?_
  refine j_pL C fl_Sp_79 g0.1 g0.2 rfl rfl rfl d_Sp_push_47 hf (fun μ6 hf => ?_)
  refine j_aload_n C d_Sp_push_50 2 rfl ?_
  refine j_dup C d_Sp_push_51 rfl ?_
  refine j_gL C fl_Sp_85 g0.1 g0.2 rfl d_Sp_push_52 ?_
  refine j_ldc2 (v := 2) C d_Sp_push_55 wd_55 ?_
  refine j_aload_n C d_Sp_push_58 2 rfl ?_
  refine j_gI C fl_Sp_19 g0.1 g0.2 rfl d_Sp_push_59 ?_
  refine j_i2l C d_Sp_push_62 ?_
  refine j_lmul C d_Sp_push_63 ?_
  refine j_aload_n C d_Sp_push_64 3 rfl ?_
  refine j_iload_n C d_Sp_push_65 1 rfl ?_
  refine j_iload_n C d_Sp_push_66 0 rfl ?_
  refine bd hf (fun v7 hc18 hf => ?_)
  refine j_cV (rest := [.long ((2 : Int64) * (gI μ6 a0 6).toInt64), .long (gL μ6 a0 13), .ref (yad Y a0)]) C lk_Sp_113 (c_Bw_slopeAlongY hY hc18) rfl (kX hY rfl) (nX hY (by decide)) (by decide) rfl rfl (by decide) rfl (Nat.le_of_ble_eq_true rfl) d_Sp_push_67 ?_
  refine j_i2l C d_Sp_push_70 ?_
  refine j_lmul C d_Sp_push_71 ?_
  refine j_lsub C d_Sp_push_72 ?_
  refine j_pL C fl_Sp_85 g0.1 g0.2 rfl rfl rfl d_Sp_push_73 hf (fun μ8 hf => ?_)
  refine j_aload_n C d_Sp_push_76 2 rfl ?_
  refine j_aload_n C d_Sp_push_77 2 rfl ?_
  refine j_gI C fl_Sp_70 g0.1 g0.2 rfl d_Sp_push_78 ?_
  refine j_aload_n C d_Sp_push_81 2 rfl ?_
  refine j_gI C fl_Sp_53 g0.1 g0.2 rfl d_Sp_push_82 ?_
  refine j_iconst (v := 1) C d_Sp_push_85 (by decide) ?_
  refine j_aload_n C d_Sp_push_86 2 rfl ?_
  refine j_gI C fl_Sp_94 g0.1 g0.2 rfl d_Sp_push_87 ?_
  refine j_iadd C d_Sp_push_90 ?_
  refine j_imul C d_Sp_push_91 ?_
  refine j_iadd C d_Sp_push_92 ?_
  refine j_bipush (v := 36) C d_Sp_push_93 (by decide) ?_
  refine bd hf (fun v9 hc17 hf => ?_)
  refine j_cS (rest := [.ref (yad Y a0)]) C lk_Sp_116 (c_JM_floorMod hY hc17) rfl (by decide) rfl (Nat.le_of_ble_eq_true rfl) d_Sp_push_95 ?_
  refine j_pI C fl_Sp_70 g0.1 g0.2 rfl rfl rfl d_Sp_push_98 hf (fun μ10 hf => ?_)
  refine j_aload_n C d_Sp_push_101 2 rfl ?_
  refine j_dup C d_Sp_push_102 rfl ?_
  refine j_gL C fl_Sp_79 g0.1 g0.2 rfl d_Sp_push_103 ?_
  refine j_aload_n C d_Sp_push_106 2 rfl ?_
  refine j_gI C fl_Sp_19 g0.1 g0.2 rfl d_Sp_push_107 ?_
  refine j_aload_n C d_Sp_push_110 2 rfl ?_
  refine j_gI C fl_Sp_94 g0.1 g0.2 rfl d_Sp_push_111 ?_
  refine j_imul C d_Sp_push_114 ?_
  refine j_aload_n C d_Sp_push_115 2 rfl ?_
  refine j_gI C fl_Sp_70 g0.1 g0.2 rfl d_Sp_push_116 ?_
  refine bd hf (fun v11 hc16 hf => ?_)
  refine j_cS (rest := [.int ((gI μ10 a0 6) * (gI μ10 a0 16)), .long (gL μ10 a0 12), .ref (yad Y a0)]) C lk_Sp_73 (c_Hd_alongX hY hc16) rfl (by decide) rfl (Nat.le_of_ble_eq_true rfl) d_Sp_push_119 ?_
  refine j_imul C d_Sp_push_122 ?_
  refine j_bipush (v := 65) C d_Sp_push_123 (by decide) ?_
  refine j_idiv C d_Sp_push_125 (by decide) ?_
  refine j_i2l C d_Sp_push_126 ?_
  refine j_ladd C d_Sp_push_127 ?_
  refine j_pL C fl_Sp_79 g0.1 g0.2 rfl rfl rfl d_Sp_push_128 hf (fun μ12 hf => ?_)
  refine j_aload_n C d_Sp_push_131 2 rfl ?_
  refine j_dup C d_Sp_push_132 rfl ?_
  refine j_gL C fl_Sp_85 g0.1 g0.2 rfl d_Sp_push_133 ?_
  refine j_aload_n C d_Sp_push_136 2 rfl ?_
  refine j_gI C fl_Sp_19 g0.1 g0.2 rfl d_Sp_push_137 ?_
  refine j_aload_n C d_Sp_push_140 2 rfl ?_
  refine j_gI C fl_Sp_94 g0.1 g0.2 rfl d_Sp_push_141 ?_
  refine j_imul C d_Sp_push_144 ?_
  refine j_aload_n C d_Sp_push_145 2 rfl ?_
  refine j_gI C fl_Sp_70 g0.1 g0.2 rfl d_Sp_push_146 ?_
  refine bd hf (fun v13 hc15 hf => ?_)
  refine j_cS (rest := [.int ((gI μ12 a0 6) * (gI μ12 a0 16)), .long (gL μ12 a0 13), .ref (yad Y a0)]) C lk_Sp_82 (c_Hd_alongY hY hc15) rfl (by decide) rfl (Nat.le_of_ble_eq_true rfl) d_Sp_push_149 ?_
  refine j_imul C d_Sp_push_152 ?_
  refine j_bipush (v := 65) C d_Sp_push_153 (by decide) ?_
  refine j_idiv C d_Sp_push_155 (by decide) ?_
  refine j_i2l C d_Sp_push_156 ?_
  refine j_ladd C d_Sp_push_157 ?_
  refine j_pL C fl_Sp_85 g0.1 g0.2 rfl rfl rfl d_Sp_push_158 hf (fun μ14 hf => ?_)
  obtain rfl := Option.some.inj hf
  exact j_vret C d_Sp_push_161
theorem d_Sp_move_0 : DC b_Sp_move 0 (.aload_n 0) 1 1 := ⟨by decide +kernel, rfl⟩
theorem d_Sp_move_1 : DC b_Sp_move 1 (.dup) 1 2 := ⟨by decide +kernel, rfl⟩
theorem d_Sp_move_2 : DC b_Sp_move 2 (.getfield 79) 3 5 := ⟨by decide +kernel, rfl⟩
theorem d_Sp_move_5 : DC b_Sp_move 5 (.aload_n 0) 1 6 := ⟨by decide +kernel, rfl⟩
theorem d_Sp_move_6 : DC b_Sp_move 6 (.getfield 79) 3 9 := ⟨by decide +kernel, rfl⟩
theorem d_Sp_move_9 : DC b_Sp_move 9 (.ldc2_w 119) 3 12 := ⟨by decide +kernel, rfl⟩
theorem d_Sp_move_12 : DC b_Sp_move 12 (.ldiv) 1 13 := ⟨by decide +kernel, rfl⟩
theorem d_Sp_move_13 : DC b_Sp_move 13 (.lsub) 1 14 := ⟨by decide +kernel, rfl⟩
theorem d_Sp_move_14 : DC b_Sp_move 14 (.putfield 79) 3 17 := ⟨by decide +kernel, rfl⟩
theorem d_Sp_move_17 : DC b_Sp_move 17 (.aload_n 0) 1 18 := ⟨by decide +kernel, rfl⟩
theorem d_Sp_move_18 : DC b_Sp_move 18 (.dup) 1 19 := ⟨by decide +kernel, rfl⟩
theorem d_Sp_move_19 : DC b_Sp_move 19 (.getfield 85) 3 22 := ⟨by decide +kernel, rfl⟩
theorem d_Sp_move_22 : DC b_Sp_move 22 (.aload_n 0) 1 23 := ⟨by decide +kernel, rfl⟩
theorem d_Sp_move_23 : DC b_Sp_move 23 (.getfield 85) 3 26 := ⟨by decide +kernel, rfl⟩
theorem d_Sp_move_26 : DC b_Sp_move 26 (.ldc2_w 119) 3 29 := ⟨by decide +kernel, rfl⟩
theorem d_Sp_move_29 : DC b_Sp_move 29 (.ldiv) 1 30 := ⟨by decide +kernel, rfl⟩
theorem d_Sp_move_30 : DC b_Sp_move 30 (.lsub) 1 31 := ⟨by decide +kernel, rfl⟩
theorem d_Sp_move_31 : DC b_Sp_move 31 (.putfield 85) 3 34 := ⟨by decide +kernel, rfl⟩
theorem d_Sp_move_34 : DC b_Sp_move 34 (.aload_n 0) 1 35 := ⟨by decide +kernel, rfl⟩
theorem d_Sp_move_35 : DC b_Sp_move 35 (.getfield 19) 3 38 := ⟨by decide +kernel, rfl⟩
theorem d_Sp_move_38 : DB b_Sp_move 38 (.ifCond .le 41) 41 79 41 := ⟨by decide +kernel, by decide, rfl⟩
theorem d_Sp_move_41 : DC b_Sp_move 41 (.aload_n 0) 1 42 := ⟨by decide +kernel, rfl⟩
theorem d_Sp_move_42 : DC b_Sp_move 42 (.dup) 1 43 := ⟨by decide +kernel, rfl⟩
theorem d_Sp_move_43 : DC b_Sp_move 43 (.getfield 63) 3 46 := ⟨by decide +kernel, rfl⟩
theorem d_Sp_move_46 : DC b_Sp_move 46 (.aload_n 0) 1 47 := ⟨by decide +kernel, rfl⟩
theorem d_Sp_move_47 : DC b_Sp_move 47 (.getfield 79) 3 50 := ⟨by decide +kernel, rfl⟩
theorem d_Sp_move_50 : DC b_Sp_move 50 (.aload_n 0) 1 51 := ⟨by decide +kernel, rfl⟩
theorem d_Sp_move_51 : DC b_Sp_move 51 (.getfield 19) 3 54 := ⟨by decide +kernel, rfl⟩
theorem d_Sp_move_54 : DC b_Sp_move 54 (.i2l) 1 55 := ⟨by decide +kernel, rfl⟩
theorem d_Sp_move_55 : DC b_Sp_move 55 (.ldiv) 1 56 := ⟨by decide +kernel, rfl⟩
theorem d_Sp_move_56 : DC b_Sp_move 56 (.ladd) 1 57 := ⟨by decide +kernel, rfl⟩
theorem d_Sp_move_57 : DC b_Sp_move 57 (.putfield 63) 3 60 := ⟨by decide +kernel, rfl⟩
theorem d_Sp_move_60 : DC b_Sp_move 60 (.aload_n 0) 1 61 := ⟨by decide +kernel, rfl⟩
theorem d_Sp_move_61 : DC b_Sp_move 61 (.dup) 1 62 := ⟨by decide +kernel, rfl⟩
theorem d_Sp_move_62 : DC b_Sp_move 62 (.getfield 67) 3 65 := ⟨by decide +kernel, rfl⟩
theorem d_Sp_move_65 : DC b_Sp_move 65 (.aload_n 0) 1 66 := ⟨by decide +kernel, rfl⟩
theorem d_Sp_move_66 : DC b_Sp_move 66 (.getfield 85) 3 69 := ⟨by decide +kernel, rfl⟩
theorem d_Sp_move_69 : DC b_Sp_move 69 (.aload_n 0) 1 70 := ⟨by decide +kernel, rfl⟩
theorem d_Sp_move_70 : DC b_Sp_move 70 (.getfield 19) 3 73 := ⟨by decide +kernel, rfl⟩
theorem d_Sp_move_73 : DC b_Sp_move 73 (.i2l) 1 74 := ⟨by decide +kernel, rfl⟩
theorem d_Sp_move_74 : DC b_Sp_move 74 (.ldiv) 1 75 := ⟨by decide +kernel, rfl⟩
theorem d_Sp_move_75 : DC b_Sp_move 75 (.ladd) 1 76 := ⟨by decide +kernel, rfl⟩
theorem d_Sp_move_76 : DC b_Sp_move 76 (.putfield 67) 3 79 := ⟨by decide +kernel, rfl⟩
theorem d_Sp_move_79 : decode b_Sp_move 79 = .ok (.return_, 1) := by decide +kernel
theorem c_Sp_move {l : Launch} {Y : Lay} (hY : IsX Y) {μ : Mem} {a0 : Nat} (g0 : ykd Y a0 = 7 ∧ a0 < yn Y) {r : Mem} (hf : f_Sp_move μ a0 = some r) : Ct l Y y_Sp_move b_Sp_move 1 none 1 [.ref (yad Y a0)] none μ r := by
  refine ct_of (own := "TopYard$Spinner") (lv := [(0, .ref (yad Y a0))]) (by decide +kernel) rfl (Nat.le_of_ble_eq_true rfl) rfl (fun X hl C => ?_)
  subst hl
  unfold f_Sp_move at hf
  refine j_aload_n C d_Sp_move_0 0 rfl ?_
  refine j_dup C d_Sp_move_1 rfl ?_
  refine j_gL C fl_Sp_79 g0.1 g0.2 rfl d_Sp_move_2 ?_
  refine j_aload_n C d_Sp_move_5 0 rfl ?_
  refine j_gL C fl_Sp_79 g0.1 g0.2 rfl d_Sp_move_6 ?_
  refine j_ldc2 (v := 16) C d_Sp_move_9 wd_56 ?_
  refine j_ldiv C d_Sp_move_12 (by decide) ?_
  refine j_lsub C d_Sp_move_13 ?_
  refine j_pL C fl_Sp_79 g0.1 g0.2 rfl rfl rfl d_Sp_move_14 hf (fun μ1 hf => ?_)
  refine j_aload_n C d_Sp_move_17 0 rfl ?_
  refine j_dup C d_Sp_move_18 rfl ?_
  refine j_gL C fl_Sp_85 g0.1 g0.2 rfl d_Sp_move_19 ?_
  refine j_aload_n C d_Sp_move_22 0 rfl ?_
  refine j_gL C fl_Sp_85 g0.1 g0.2 rfl d_Sp_move_23 ?_
  refine j_ldc2 (v := 16) C d_Sp_move_26 wd_56 ?_
  refine j_ldiv C d_Sp_move_29 (by decide) ?_
  refine j_lsub C d_Sp_move_30 ?_
  refine j_pL C fl_Sp_85 g0.1 g0.2 rfl rfl rfl d_Sp_move_31 hf (fun μ2 hf => ?_)
  refine j_aload_n C d_Sp_move_34 0 rfl ?_
  refine j_gI C fl_Sp_19 g0.1 g0.2 rfl d_Sp_move_35 ?_
  refine j_if_le C d_Sp_move_38 hf (fun hf => ?_) (fun hf => ?_)
  · obtain rfl := Option.some.inj hf
    exact j_vret C d_Sp_move_79
  · refine j_aload_n C d_Sp_move_41 0 rfl ?_
    refine j_dup C d_Sp_move_42 rfl ?_
    refine j_gL C fl_Sp_63 g0.1 g0.2 rfl d_Sp_move_43 ?_
    refine j_aload_n C d_Sp_move_46 0 rfl ?_
    refine j_gL C fl_Sp_79 g0.1 g0.2 rfl d_Sp_move_47 ?_
    refine j_aload_n C d_Sp_move_50 0 rfl ?_
    refine j_gI C fl_Sp_19 g0.1 g0.2 rfl d_Sp_move_51 ?_
    refine j_i2l C d_Sp_move_54 ?_
    refine ckn hf (fun hz6 hf => ?_)
    refine j_ldiv C d_Sp_move_55 hz6 ?_
    refine j_ladd C d_Sp_move_56 ?_
    refine j_pL C fl_Sp_63 g0.1 g0.2 rfl rfl rfl d_Sp_move_57 hf (fun μ3 hf => ?_)
    refine j_aload_n C d_Sp_move_60 0 rfl ?_
    refine j_dup C d_Sp_move_61 rfl ?_
    refine j_gL C fl_Sp_67 g0.1 g0.2 rfl d_Sp_move_62 ?_
    refine j_aload_n C d_Sp_move_65 0 rfl ?_
    refine j_gL C fl_Sp_85 g0.1 g0.2 rfl d_Sp_move_66 ?_
    refine j_aload_n C d_Sp_move_69 0 rfl ?_
    refine j_gI C fl_Sp_19 g0.1 g0.2 rfl d_Sp_move_70 ?_
    refine j_i2l C d_Sp_move_73 ?_
    refine ckn hf (fun hz5 hf => ?_)
    refine j_ldiv C d_Sp_move_74 hz5 ?_
    refine j_ladd C d_Sp_move_75 ?_
    refine j_pL C fl_Sp_67 g0.1 g0.2 rfl rfl rfl d_Sp_move_76 hf (fun μ4 hf => ?_)
    obtain rfl := Option.some.inj hf
    exact j_vret C d_Sp_move_79
theorem d_Sp_isWithin_0 : DC b_Sp_isWithin 0 (.ldc2_w 100) 3 3 := ⟨by decide +kernel, rfl⟩
theorem d_Sp_isWithin_3 : DC b_Sp_isWithin 3 (.iload_n 1) 1 4 := ⟨by decide +kernel, rfl⟩
theorem d_Sp_isWithin_4 : DC b_Sp_isWithin 4 (.i2l) 1 5 := ⟨by decide +kernel, rfl⟩
theorem d_Sp_isWithin_5 : DC b_Sp_isWithin 5 (.lmul) 1 6 := ⟨by decide +kernel, rfl⟩
theorem d_Sp_isWithin_6 : DC b_Sp_isWithin 6 (.lstore_n 2) 1 7 := ⟨by decide +kernel, rfl⟩
theorem d_Sp_isWithin_7 : DC b_Sp_isWithin 7 (.aload_n 0) 1 8 := ⟨by decide +kernel, rfl⟩
theorem d_Sp_isWithin_8 : DC b_Sp_isWithin 8 (.getfield 63) 3 11 := ⟨by decide +kernel, rfl⟩
theorem d_Sp_isWithin_11 : DC b_Sp_isWithin 11 (.aload_n 0) 1 12 := ⟨by decide +kernel, rfl⟩
theorem d_Sp_isWithin_12 : DC b_Sp_isWithin 12 (.getfield 63) 3 15 := ⟨by decide +kernel, rfl⟩
theorem d_Sp_isWithin_15 : DC b_Sp_isWithin 15 (.lmul) 1 16 := ⟨by decide +kernel, rfl⟩
theorem d_Sp_isWithin_16 : DC b_Sp_isWithin 16 (.aload_n 0) 1 17 := ⟨by decide +kernel, rfl⟩
theorem d_Sp_isWithin_17 : DC b_Sp_isWithin 17 (.getfield 67) 3 20 := ⟨by decide +kernel, rfl⟩
theorem d_Sp_isWithin_20 : DC b_Sp_isWithin 20 (.aload_n 0) 1 21 := ⟨by decide +kernel, rfl⟩
theorem d_Sp_isWithin_21 : DC b_Sp_isWithin 21 (.getfield 67) 3 24 := ⟨by decide +kernel, rfl⟩
theorem d_Sp_isWithin_24 : DC b_Sp_isWithin 24 (.lmul) 1 25 := ⟨by decide +kernel, rfl⟩
theorem d_Sp_isWithin_25 : DC b_Sp_isWithin 25 (.ladd) 1 26 := ⟨by decide +kernel, rfl⟩
theorem d_Sp_isWithin_26 : DC b_Sp_isWithin 26 (.lload_n 2) 1 27 := ⟨by decide +kernel, rfl⟩
theorem d_Sp_isWithin_27 : DC b_Sp_isWithin 27 (.lload_n 2) 1 28 := ⟨by decide +kernel, rfl⟩
theorem d_Sp_isWithin_28 : DC b_Sp_isWithin 28 (.lmul) 1 29 := ⟨by decide +kernel, rfl⟩
theorem d_Sp_isWithin_29 : DC b_Sp_isWithin 29 (.lcmp) 1 30 := ⟨by decide +kernel, rfl⟩
theorem d_Sp_isWithin_30 : DB b_Sp_isWithin 30 (.ifCond .gt 7) 7 37 33 := ⟨by decide +kernel, by decide, rfl⟩
theorem d_Sp_isWithin_33 : DC b_Sp_isWithin 33 (.iconst 1) 1 34 := ⟨by decide +kernel, rfl⟩
theorem d_Sp_isWithin_34 : DB b_Sp_isWithin 34 (.goto 4) 4 38 37 := ⟨by decide +kernel, by decide, rfl⟩
theorem d_Sp_isWithin_37 : DC b_Sp_isWithin 37 (.iconst 0) 1 38 := ⟨by decide +kernel, rfl⟩
theorem d_Sp_isWithin_38 : decode b_Sp_isWithin 38 = .ok (.ireturn, 1) := by decide +kernel
theorem c_Sp_isWithin {l : Launch} {Y : Lay} (hY : IsX Y) {μ : Mem} {a0 : Nat} {x1 : Int32} (g0 : ykd Y a0 = 7 ∧ a0 < yn Y) {r : Int32} (hf : f_Sp_isWithin μ a0 x1 = some r) : Ct l Y y_Sp_isWithin b_Sp_isWithin 4 (some .boolean) 1 [.ref (yad Y a0), .int x1] (some (.int r)) μ μ := by
  refine ct_of (own := "TopYard$Spinner") (lv := [(0, .ref (yad Y a0)), (1, .int x1)]) (by decide +kernel) rfl (Nat.le_of_ble_eq_true rfl) rfl (fun X hl C => ?_)
  subst hl
  unfold f_Sp_isWithin at hf
  refine j_ldc2 (v := 65) C d_Sp_isWithin_0 wd_54 ?_
  refine j_iload_n C d_Sp_isWithin_3 1 rfl ?_
  refine j_i2l C d_Sp_isWithin_4 ?_
  refine j_lmul C d_Sp_isWithin_5 ?_
  refine j_lstore_nN (lvf := [(0, .ref (yad Y a0)), (1, .int x1)]) C d_Sp_isWithin_6 (by decide) rfl hf (fun v1 hf => ?_)
  refine j_aload_n C d_Sp_isWithin_7 1 rfl ?_
  refine j_gL C fl_Sp_63 g0.1 g0.2 rfl d_Sp_isWithin_8 ?_
  refine j_aload_n C d_Sp_isWithin_11 1 rfl ?_
  refine j_gL C fl_Sp_63 g0.1 g0.2 rfl d_Sp_isWithin_12 ?_
  refine j_lmul C d_Sp_isWithin_15 ?_
  refine j_aload_n C d_Sp_isWithin_16 1 rfl ?_
  refine j_gL C fl_Sp_67 g0.1 g0.2 rfl d_Sp_isWithin_17 ?_
  refine j_aload_n C d_Sp_isWithin_20 1 rfl ?_
  refine j_gL C fl_Sp_67 g0.1 g0.2 rfl d_Sp_isWithin_21 ?_
  refine j_lmul C d_Sp_isWithin_24 ?_
  refine j_ladd C d_Sp_isWithin_25 ?_
  refine j_lload_n C d_Sp_isWithin_26 0 rfl ?_
  refine j_lload_n C d_Sp_isWithin_27 0 rfl ?_
  refine j_lmul C d_Sp_isWithin_28 ?_
  refine j_lcmp_gt C d_Sp_isWithin_29 d_Sp_isWithin_30 hf (fun hf => ?_) (fun hf => ?_)
  · refine j_iconst (v := 0) C d_Sp_isWithin_37 (by decide) ?_
    obtain rfl := Option.some.inj hf
    exact j_zret C (Or.inl rfl) d_Sp_isWithin_38
  · refine j_iconst (v := 1) C d_Sp_isWithin_33 (by decide) ?_
    refine j_goto C d_Sp_isWithin_34 ?_
    obtain rfl := Option.some.inj hf
    exact j_zret C (Or.inr rfl) d_Sp_isWithin_38
theorem d_Sp_leave_0 : DC b_Sp_leave 0 (.aload_n 0) 1 1 := ⟨by decide +kernel, rfl⟩
theorem d_Sp_leave_1 : DC b_Sp_leave 1 (.iload_n 1) 1 2 := ⟨by decide +kernel, rfl⟩
theorem d_Sp_leave_2 : DC b_Sp_leave 2 (.invokevirtual 121) 3 5 := ⟨by decide +kernel, rfl⟩
theorem d_Sp_leave_5 : DB b_Sp_leave 5 (.ifCond .ne 8) 8 13 8 := ⟨by decide +kernel, by decide, rfl⟩
theorem d_Sp_leave_8 : DC b_Sp_leave 8 (.aload_n 0) 1 9 := ⟨by decide +kernel, rfl⟩
theorem d_Sp_leave_9 : DC b_Sp_leave 9 (.iconst 1) 1 10 := ⟨by decide +kernel, rfl⟩
theorem d_Sp_leave_10 : DC b_Sp_leave 10 (.putfield 34) 3 13 := ⟨by decide +kernel, rfl⟩
theorem d_Sp_leave_13 : decode b_Sp_leave 13 = .ok (.return_, 1) := by decide +kernel
theorem c_Sp_leave {l : Launch} {Y : Lay} (hY : IsX Y) {μ : Mem} {a0 : Nat} {x1 : Int32} (g0 : ykd Y a0 = 7 ∧ a0 < yn Y) {r : Mem} (hf : f_Sp_leave μ a0 x1 = some r) : Ct l Y y_Sp_leave b_Sp_leave 2 none 2 [.ref (yad Y a0), .int x1] none μ r := by
  refine ct_of (own := "TopYard$Spinner") (lv := [(0, .ref (yad Y a0)), (1, .int x1)]) (by decide +kernel) rfl (Nat.le_of_ble_eq_true rfl) rfl (fun X hl C => ?_)
  subst hl
  unfold f_Sp_leave at hf
  refine j_aload_n C d_Sp_leave_0 0 rfl ?_
  refine j_iload_n C d_Sp_leave_1 1 rfl ?_
  refine bd hf (fun v1 hc3 hf => ?_)
  refine j_cV (rest := []) C lk_Sp_121 (c_Sp_isWithin hY ⟨g0.1, g0.2⟩ hc3) rfl g0.1 g0.2 (by decide) rfl rfl (by decide) rfl (Nat.le_of_ble_eq_true rfl) d_Sp_leave_2 ?_
  refine j_if_ne C d_Sp_leave_5 hf (fun hf => ?_) (fun hf => ?_)
  · obtain rfl := Option.some.inj hf
    exact j_vret C d_Sp_leave_13
  · refine j_aload_n C d_Sp_leave_8 0 rfl ?_
    refine j_iconst (v := 1) C d_Sp_leave_9 (by decide) ?_
    refine j_pI C fl_Sp_34 g0.1 g0.2 rfl rfl rfl d_Sp_leave_10 hf (fun μ2 hf => ?_)
    obtain rfl := Option.some.inj hf
    exact j_vret C d_Sp_leave_13
theorem d_Bt_lock_0 : DC b_Bt_lock 0 (.aload_n 0) 1 1 := ⟨by decide +kernel, rfl⟩
theorem d_Bt_lock_1 : DC b_Bt_lock 1 (.getfield 126) 3 4 := ⟨by decide +kernel, rfl⟩
theorem d_Bt_lock_4 : DC b_Bt_lock 4 (.aload_n 1) 1 5 := ⟨by decide +kernel, rfl⟩
theorem d_Bt_lock_5 : DC b_Bt_lock 5 (.getfield 126) 3 8 := ⟨by decide +kernel, rfl⟩
theorem d_Bt_lock_8 : DC b_Bt_lock 8 (.ladd) 1 9 := ⟨by decide +kernel, rfl⟩
theorem d_Bt_lock_9 : DC b_Bt_lock 9 (.lstore_n 2) 1 10 := ⟨by decide +kernel, rfl⟩
theorem d_Bt_lock_10 : DC b_Bt_lock 10 (.aload_n 0) 1 11 := ⟨by decide +kernel, rfl⟩
theorem d_Bt_lock_11 : DC b_Bt_lock 11 (.getfield 132) 3 14 := ⟨by decide +kernel, rfl⟩
theorem d_Bt_lock_14 : DC b_Bt_lock 14 (.aload_n 1) 1 15 := ⟨by decide +kernel, rfl⟩
theorem d_Bt_lock_15 : DC b_Bt_lock 15 (.getfield 132) 3 18 := ⟨by decide +kernel, rfl⟩
theorem d_Bt_lock_18 : DC b_Bt_lock 18 (.ladd) 1 19 := ⟨by decide +kernel, rfl⟩
theorem d_Bt_lock_19 : DC b_Bt_lock 19 (.lstore 4) 2 21 := ⟨by decide +kernel, rfl⟩
theorem d_Bt_lock_21 : DC b_Bt_lock 21 (.aload_n 0) 1 22 := ⟨by decide +kernel, rfl⟩
theorem d_Bt_lock_22 : DC b_Bt_lock 22 (.getfield 129) 3 25 := ⟨by decide +kernel, rfl⟩
theorem d_Bt_lock_25 : DC b_Bt_lock 25 (.aload_n 1) 1 26 := ⟨by decide +kernel, rfl⟩
theorem d_Bt_lock_26 : DC b_Bt_lock 26 (.getfield 129) 3 29 := ⟨by decide +kernel, rfl⟩
theorem d_Bt_lock_29 : DC b_Bt_lock 29 (.iadd) 1 30 := ⟨by decide +kernel, rfl⟩
theorem d_Bt_lock_30 : DC b_Bt_lock 30 (.i2l) 1 31 := ⟨by decide +kernel, rfl⟩
theorem d_Bt_lock_31 : DC b_Bt_lock 31 (.lstore 6) 2 33 := ⟨by decide +kernel, rfl⟩
theorem d_Bt_lock_33 : DC b_Bt_lock 33 (.lload 6) 2 35 := ⟨by decide +kernel, rfl⟩
theorem d_Bt_lock_35 : DC b_Bt_lock 35 (.lconst 0) 1 36 := ⟨by decide +kernel, rfl⟩
theorem d_Bt_lock_36 : DC b_Bt_lock 36 (.lcmp) 1 37 := ⟨by decide +kernel, rfl⟩
theorem d_Bt_lock_37 : DB b_Bt_lock 37 (.ifCond .le 53) 53 90 40 := ⟨by decide +kernel, by decide, rfl⟩
theorem d_Bt_lock_40 : DC b_Bt_lock 40 (.aload_n 0) 1 41 := ⟨by decide +kernel, rfl⟩
theorem d_Bt_lock_41 : DC b_Bt_lock 41 (.lload_n 2) 1 42 := ⟨by decide +kernel, rfl⟩
theorem d_Bt_lock_42 : DC b_Bt_lock 42 (.aload_n 0) 1 43 := ⟨by decide +kernel, rfl⟩
theorem d_Bt_lock_43 : DC b_Bt_lock 43 (.getfield 129) 3 46 := ⟨by decide +kernel, rfl⟩
theorem d_Bt_lock_46 : DC b_Bt_lock 46 (.i2l) 1 47 := ⟨by decide +kernel, rfl⟩
theorem d_Bt_lock_47 : DC b_Bt_lock 47 (.lmul) 1 48 := ⟨by decide +kernel, rfl⟩
theorem d_Bt_lock_48 : DC b_Bt_lock 48 (.lload 6) 2 50 := ⟨by decide +kernel, rfl⟩
theorem d_Bt_lock_50 : DC b_Bt_lock 50 (.ldiv) 1 51 := ⟨by decide +kernel, rfl⟩
theorem d_Bt_lock_51 : DC b_Bt_lock 51 (.putfield 126) 3 54 := ⟨by decide +kernel, rfl⟩
theorem d_Bt_lock_54 : DC b_Bt_lock 54 (.aload_n 0) 1 55 := ⟨by decide +kernel, rfl⟩
theorem d_Bt_lock_55 : DC b_Bt_lock 55 (.lload 4) 2 57 := ⟨by decide +kernel, rfl⟩
theorem d_Bt_lock_57 : DC b_Bt_lock 57 (.aload_n 0) 1 58 := ⟨by decide +kernel, rfl⟩
theorem d_Bt_lock_58 : DC b_Bt_lock 58 (.getfield 129) 3 61 := ⟨by decide +kernel, rfl⟩
theorem d_Bt_lock_61 : DC b_Bt_lock 61 (.i2l) 1 62 := ⟨by decide +kernel, rfl⟩
theorem d_Bt_lock_62 : DC b_Bt_lock 62 (.lmul) 1 63 := ⟨by decide +kernel, rfl⟩
theorem d_Bt_lock_63 : DC b_Bt_lock 63 (.lload 6) 2 65 := ⟨by decide +kernel, rfl⟩
theorem d_Bt_lock_65 : DC b_Bt_lock 65 (.ldiv) 1 66 := ⟨by decide +kernel, rfl⟩
theorem d_Bt_lock_66 : DC b_Bt_lock 66 (.putfield 132) 3 69 := ⟨by decide +kernel, rfl⟩
theorem d_Bt_lock_69 : DC b_Bt_lock 69 (.aload_n 1) 1 70 := ⟨by decide +kernel, rfl⟩
theorem d_Bt_lock_70 : DC b_Bt_lock 70 (.lload_n 2) 1 71 := ⟨by decide +kernel, rfl⟩
theorem d_Bt_lock_71 : DC b_Bt_lock 71 (.aload_n 0) 1 72 := ⟨by decide +kernel, rfl⟩
theorem d_Bt_lock_72 : DC b_Bt_lock 72 (.getfield 126) 3 75 := ⟨by decide +kernel, rfl⟩
theorem d_Bt_lock_75 : DC b_Bt_lock 75 (.lsub) 1 76 := ⟨by decide +kernel, rfl⟩
theorem d_Bt_lock_76 : DC b_Bt_lock 76 (.putfield 126) 3 79 := ⟨by decide +kernel, rfl⟩
theorem d_Bt_lock_79 : DC b_Bt_lock 79 (.aload_n 1) 1 80 := ⟨by decide +kernel, rfl⟩
theorem d_Bt_lock_80 : DC b_Bt_lock 80 (.lload 4) 2 82 := ⟨by decide +kernel, rfl⟩
theorem d_Bt_lock_82 : DC b_Bt_lock 82 (.aload_n 0) 1 83 := ⟨by decide +kernel, rfl⟩
theorem d_Bt_lock_83 : DC b_Bt_lock 83 (.getfield 132) 3 86 := ⟨by decide +kernel, rfl⟩
theorem d_Bt_lock_86 : DC b_Bt_lock 86 (.lsub) 1 87 := ⟨by decide +kernel, rfl⟩
theorem d_Bt_lock_87 : DC b_Bt_lock 87 (.putfield 132) 3 90 := ⟨by decide +kernel, rfl⟩
theorem d_Bt_lock_90 : decode b_Bt_lock 90 = .ok (.return_, 1) := by decide +kernel
theorem c_Bt_lock {l : Launch} {Y : Lay} (hY : IsX Y) {μ : Mem} {a0 : Nat} {a1 : Nat} (g0 : ykd Y a0 = 7 ∧ a0 < yn Y) (g1 : ykd Y a1 = 7 ∧ a1 < yn Y) {r : Mem} (hf : f_Bt_lock μ a0 a1 = some r) : Ct l Y y_Bt_lock b_Bt_lock 8 none 1 [.ref (yad Y a0), .ref (yad Y a1)] none μ r := by
  refine ct_of (own := "TopYard$Bout") (lv := [(0, .ref (yad Y a0)), (1, .ref (yad Y a1))]) (by decide +kernel) rfl (Nat.le_of_ble_eq_true rfl) rfl (fun X hl C => ?_)
  subst hl
  unfold f_Bt_lock at hf
  refine j_aload_n C d_Bt_lock_0 0 rfl ?_
  refine j_gL C fl_Bt_126 g0.1 g0.2 rfl d_Bt_lock_1 ?_
  refine j_aload_n C d_Bt_lock_4 1 rfl ?_
  refine j_gL C fl_Bt_126 g1.1 g1.2 rfl d_Bt_lock_5 ?_
  refine j_ladd C d_Bt_lock_8 ?_
  refine j_lstore_nN (lvf := [(0, .ref (yad Y a0)), (1, .ref (yad Y a1))]) C d_Bt_lock_9 (by decide) rfl hf (fun v1 hf => ?_)
  refine j_aload_n C d_Bt_lock_10 1 rfl ?_
  refine j_gL C fl_Bt_132 g0.1 g0.2 rfl d_Bt_lock_11 ?_
  refine j_aload_n C d_Bt_lock_14 2 rfl ?_
  refine j_gL C fl_Bt_132 g1.1 g1.2 rfl d_Bt_lock_15 ?_
  refine j_ladd C d_Bt_lock_18 ?_
  refine j_lstoreN (lvf := [(2, .long v1), (0, .ref (yad Y a0)), (1, .ref (yad Y a1))]) C d_Bt_lock_19 (by decide) rfl hf (fun v2 hf => ?_)
  refine j_aload_n C d_Bt_lock_21 2 rfl ?_
  refine j_gI C fl_Bt_129 g0.1 g0.2 rfl d_Bt_lock_22 ?_
  refine j_aload_n C d_Bt_lock_25 3 rfl ?_
  refine j_gI C fl_Bt_129 g1.1 g1.2 rfl d_Bt_lock_26 ?_
  refine j_iadd C d_Bt_lock_29 ?_
  refine j_i2l C d_Bt_lock_30 ?_
  refine j_lstoreN (lvf := [(4, .long v2), (2, .long v1), (0, .ref (yad Y a0)), (1, .ref (yad Y a1))]) C d_Bt_lock_31 (by decide) rfl hf (fun v3 hf => ?_)
  refine j_lload C d_Bt_lock_33 0 rfl ?_
  refine j_lconst (v := 0) C d_Bt_lock_35 (by decide) ?_
  refine j_lcmp_le C d_Bt_lock_36 d_Bt_lock_37 hf (fun hf => ?_) (fun hf => ?_)
  · obtain rfl := Option.some.inj hf
    exact j_vret C d_Bt_lock_90
  · refine j_aload_n C d_Bt_lock_40 3 rfl ?_
    refine j_lload_n C d_Bt_lock_41 2 rfl ?_
    refine j_aload_n C d_Bt_lock_42 3 rfl ?_
    refine j_gI C fl_Bt_129 g0.1 g0.2 rfl d_Bt_lock_43 ?_
    refine j_i2l C d_Bt_lock_46 ?_
    refine j_lmul C d_Bt_lock_47 ?_
    refine j_lload C d_Bt_lock_48 0 rfl ?_
    refine ckn hf (fun hz9 hf => ?_)
    refine j_ldiv C d_Bt_lock_50 hz9 ?_
    refine j_pL C fl_Bt_126 g0.1 g0.2 rfl rfl rfl d_Bt_lock_51 hf (fun μ4 hf => ?_)
    refine j_aload_n C d_Bt_lock_54 3 rfl ?_
    refine j_lload C d_Bt_lock_55 1 rfl ?_
    refine j_aload_n C d_Bt_lock_57 3 rfl ?_
    refine j_gI C fl_Bt_129 g0.1 g0.2 rfl d_Bt_lock_58 ?_
    refine j_i2l C d_Bt_lock_61 ?_
    refine j_lmul C d_Bt_lock_62 ?_
    refine j_lload C d_Bt_lock_63 0 rfl ?_
    refine ckn hf (fun hz8 hf => ?_)
    refine j_ldiv C d_Bt_lock_65 hz8 ?_
    refine j_pL C fl_Bt_132 g0.1 g0.2 rfl rfl rfl d_Bt_lock_66 hf (fun μ5 hf => ?_)
    refine j_aload_n C d_Bt_lock_69 4 rfl ?_
    refine j_lload_n C d_Bt_lock_70 2 rfl ?_
    refine j_aload_n C d_Bt_lock_71 3 rfl ?_
    refine j_gL C fl_Bt_126 g0.1 g0.2 rfl d_Bt_lock_72 ?_
    refine j_lsub C d_Bt_lock_75 ?_
    refine j_pL C fl_Bt_126 g1.1 g1.2 rfl rfl rfl d_Bt_lock_76 hf (fun μ6 hf => ?_)
    refine j_aload_n C d_Bt_lock_79 4 rfl ?_
    refine j_lload C d_Bt_lock_80 1 rfl ?_
    refine j_aload_n C d_Bt_lock_82 3 rfl ?_
    refine j_gL C fl_Bt_132 g0.1 g0.2 rfl d_Bt_lock_83 ?_
    refine j_lsub C d_Bt_lock_86 ?_
    refine j_pL C fl_Bt_132 g1.1 g1.2 rfl rfl rfl d_Bt_lock_87 hf (fun μ7 hf => ?_)
    obtain rfl := Option.some.inj hf
    exact j_vret C d_Bt_lock_90

theorem d_Ga_append_0 : DC b_Ga_append 0 (.aload_n 0) 1 1 := ⟨by decide +kernel, rfl⟩
theorem d_Ga_append_1 : DC b_Ga_append 1 (.getfield 9) 3 4 := ⟨by decide +kernel, rfl⟩
theorem d_Ga_append_4 : DC b_Ga_append 4 (.bipush 40) 2 6 := ⟨by decide +kernel, rfl⟩
theorem d_Ga_append_6 : DB b_Ga_append 6 (.if_icmp .lt 5) 5 11 9 := ⟨by decide +kernel, by decide, rfl⟩
theorem d_Ga_append_9 : DC b_Ga_append 9 (.iconst 0) 1 10 := ⟨by decide +kernel, rfl⟩
theorem d_Ga_append_10 : decode b_Ga_append 10 = .ok (.ireturn, 1) := by decide +kernel
theorem d_Ga_append_11 : DC b_Ga_append 11 (.aload_n 0) 1 12 := ⟨by decide +kernel, rfl⟩
theorem d_Ga_append_12 : DC b_Ga_append 12 (.getfield 15) 3 15 := ⟨by decide +kernel, rfl⟩
theorem d_Ga_append_15 : DC b_Ga_append 15 (.aload_n 0) 1 16 := ⟨by decide +kernel, rfl⟩
theorem d_Ga_append_16 : DC b_Ga_append 16 (.getfield 9) 3 19 := ⟨by decide +kernel, rfl⟩
theorem d_Ga_append_19 : DC b_Ga_append 19 (.iload_n 1) 1 20 := ⟨by decide +kernel, rfl⟩
theorem d_Ga_append_20 : DC b_Ga_append 20 (.iastore) 1 21 := ⟨by decide +kernel, rfl⟩
theorem d_Ga_append_21 : DC b_Ga_append 21 (.aload_n 0) 1 22 := ⟨by decide +kernel, rfl⟩
theorem d_Ga_append_22 : DC b_Ga_append 22 (.dup) 1 23 := ⟨by decide +kernel, rfl⟩
theorem d_Ga_append_23 : DC b_Ga_append 23 (.getfield 9) 3 26 := ⟨by decide +kernel, rfl⟩
theorem d_Ga_append_26 : DC b_Ga_append 26 (.iconst 1) 1 27 := ⟨by decide +kernel, rfl⟩
theorem d_Ga_append_27 : DC b_Ga_append 27 (.iadd) 1 28 := ⟨by decide +kernel, rfl⟩
theorem d_Ga_append_28 : DC b_Ga_append 28 (.putfield 9) 3 31 := ⟨by decide +kernel, rfl⟩
theorem d_Ga_append_31 : DC b_Ga_append 31 (.iconst 1) 1 32 := ⟨by decide +kernel, rfl⟩
theorem d_Ga_append_32 : decode b_Ga_append 32 = .ok (.ireturn, 1) := by decide +kernel
theorem c_Ga_append {l : Launch} {Y : Lay} (hY : IsX Y) {μ : Mem} {x1 : Int32} {r : Int32 × Mem} (hf : f_Ga_append μ x1 = some r) : Ct l Y y_Ga_append b_Ga_append 2 (some .boolean) 1 [.ref (yad Y 39), .int x1] (some (.int r.1)) μ r.2 := by
  refine ct_of (own := "TopYard$Game") (lv := [(0, .ref (yad Y 39)), (1, .int x1)]) (by decide +kernel) rfl (Nat.le_of_ble_eq_true rfl) rfl (fun X hl C => ?_)
  subst hl
  unfold f_Ga_append at hf
  refine j_aload_n C d_Ga_append_0 0 rfl ?_
  refine j_gI C fl_Ga_9 (kX hY rfl) (nX hY (by decide)) rfl d_Ga_append_1 ?_
  refine j_bipush (v := 40) C d_Ga_append_4 (by decide) ?_
  refine j_icmp_lt C d_Ga_append_6 hf (fun hf => ?_) (fun hf => ?_)
  · refine j_aload_n C d_Ga_append_11 0 rfl ?_
    refine j_gS (b := 40) C fl_Ga_15 (kX hY rfl) (nX hY (by decide)) rfl hY.2.2.2.1 rfl (sX hY rfl) d_Ga_append_12 ?_
    refine j_aload_n C d_Ga_append_15 0 rfl ?_
    refine j_gI C fl_Ga_9 (kX hY rfl) (nX hY (by decide)) rfl d_Ga_append_16 ?_
    refine j_iload_n C d_Ga_append_19 1 rfl ?_
    refine ck hf (fun hi1 hf => ?_)
    refine j_iast C (kX hY rfl) (nX hY (by decide)) (lX hY rfl) hi1 d_Ga_append_20 hf (fun μ2 hf => ?_)
    refine j_aload_n C d_Ga_append_21 0 rfl ?_
    refine j_dup C d_Ga_append_22 rfl ?_
    refine j_gI C fl_Ga_9 (kX hY rfl) (nX hY (by decide)) rfl d_Ga_append_23 ?_
    refine j_iconst (v := 1) C d_Ga_append_26 (by decide) ?_
    refine j_iadd C d_Ga_append_27 ?_
    refine j_pI C fl_Ga_9 (kX hY rfl) (nX hY (by decide)) rfl rfl rfl d_Ga_append_28 hf (fun μ3 hf => ?_)
    refine j_iconst (v := 1) C d_Ga_append_31 (by decide) ?_
    obtain rfl := Option.some.inj hf
    exact j_zret C (Or.inr rfl) d_Ga_append_32
  · refine j_iconst (v := 0) C d_Ga_append_9 (by decide) ?_
    obtain rfl := Option.some.inj hf
    exact j_zret C (Or.inl rfl) d_Ga_append_10
theorem d_X_type_0 : DC b_X_type 0 (.iload_n 1) 1 1 := ⟨by decide +kernel, rfl⟩
theorem d_X_type_1 : DC b_X_type 1 (.iconst 0) 1 2 := ⟨by decide +kernel, rfl⟩
theorem d_X_type_2 : DC b_X_type 2 (.sipush 255) 3 5 := ⟨by decide +kernel, rfl⟩
theorem d_X_type_5 : DC b_X_type 5 (.invokestatic 90) 3 8 := ⟨by decide +kernel, rfl⟩
theorem d_X_type_8 : DB b_X_type 8 (.ifCond .ne 6) 6 14 11 := ⟨by decide +kernel, by decide, rfl⟩
theorem d_X_type_11 : DC b_X_type 11 (.bipush (-2)) 2 13 := ⟨by decide +kernel, rfl⟩
theorem d_X_type_13 : decode b_X_type 13 = .ok (.ireturn, 1) := by decide +kernel
theorem d_X_type_14 : DC b_X_type 14 (.aload_n 0) 1 15 := ⟨by decide +kernel, rfl⟩
theorem d_X_type_15 : DC b_X_type 15 (.getfield 57) 3 18 := ⟨by decide +kernel, rfl⟩
theorem d_X_type_18 : DC b_X_type 18 (.iload_n 1) 1 19 := ⟨by decide +kernel, rfl⟩
theorem d_X_type_19 : DC b_X_type 19 (.invokevirtual 301) 3 22 := ⟨by decide +kernel, rfl⟩
theorem d_X_type_22 : DB b_X_type 22 (.ifCond .eq 13) 13 35 25 := ⟨by decide +kernel, by decide, rfl⟩
theorem d_X_type_25 : DC b_X_type 25 (.aload_n 0) 1 26 := ⟨by decide +kernel, rfl⟩
theorem d_X_type_26 : DC b_X_type 26 (.getfield 57) 3 29 := ⟨by decide +kernel, rfl⟩
theorem d_X_type_29 : DC b_X_type 29 (.getfield 304) 3 32 := ⟨by decide +kernel, rfl⟩
theorem d_X_type_32 : DB b_X_type 32 (.goto 5) 5 37 35 := ⟨by decide +kernel, by decide, rfl⟩
theorem d_X_type_35 : DC b_X_type 35 (.bipush (-4)) 2 37 := ⟨by decide +kernel, rfl⟩
theorem d_X_type_37 : decode b_X_type 37 = .ok (.ireturn, 1) := by decide +kernel
theorem c_X_type {l : Launch} {Y : Lay} (hY : IsX Y) {μ : Mem} {x1 : Int32} {r : Int32 × Mem} (hf : f_X_type μ x1 = some r) : Ct l Y y_X_type b_X_type 2 (some .int) 2 [.ref (yad Y 0), .int x1] (some (.int r.1)) μ r.2 := by
  refine ct_of (own := "TopYard") (lv := [(0, .ref (yad Y 0)), (1, .int x1)]) (by decide +kernel) rfl (Nat.le_of_ble_eq_true rfl) rfl (fun X hl C => ?_)
  subst hl
  unfold f_X_type at hf
  refine j_iload_n C d_X_type_0 1 rfl ?_
  refine j_iconst (v := 0) C d_X_type_1 (by decide) ?_
  refine j_sipush (v := 255) C d_X_type_2 (by decide) ?_
  refine bd hf (fun v1 hc5 hf => ?_)
  refine j_cS (rest := []) C lk_X_90 (c_X_within hY hc5) rfl (by decide) rfl (Nat.le_of_ble_eq_true rfl) d_X_type_5 ?_
  refine j_if_ne C d_X_type_8 hf (fun hf => ?_) (fun hf => ?_)
  · refine j_aload_n C d_X_type_14 0 rfl ?_
    refine j_gS (b := 39) C fl_X_57 (kX hY rfl) (nX hY (by decide)) rfl hY.2.2.2.1 rfl (sX hY rfl) d_X_type_15 ?_
    refine j_iload_n C d_X_type_18 1 rfl ?_
    refine bd2 hf (fun v2 μ3 hc4 hf => ?_)
    refine j_cV (rest := []) C lk_X_301 (c_Ga_append hY hc4) rfl (kX hY rfl) (nX hY (by decide)) (by decide) rfl rfl (by decide) rfl (Nat.le_of_ble_eq_true rfl) d_X_type_19 ?_
    refine j_if_eq C d_X_type_22 hf (fun hf => ?_) (fun hf => ?_)
    · refine j_bipush (v := (-4)) C d_X_type_35 (by decide) ?_
      obtain rfl := Option.some.inj hf
      exact j_iret C d_X_type_37
    · refine j_aload_n C d_X_type_25 0 rfl ?_
      refine j_gS (b := 39) C fl_X_57 (kX hY rfl) (nX hY (by decide)) rfl hY.2.2.2.1 rfl (sX hY rfl) d_X_type_26 ?_
      refine j_gI C fl_X_304 (kX hY rfl) (nX hY (by decide)) rfl d_X_type_29 ?_
      refine j_goto C d_X_type_32 ?_
      obtain rfl := Option.some.inj hf
      exact j_iret C d_X_type_37
  · refine j_bipush (v := (-2)) C d_X_type_11 (by decide) ?_
    obtain rfl := Option.some.inj hf
    exact j_iret C d_X_type_13
theorem d_X_wipe_0 : DC b_X_wipe 0 (.aload_n 0) 1 1 := ⟨by decide +kernel, rfl⟩
theorem d_X_wipe_1 : DC b_X_wipe 1 (.getfield 57) 3 4 := ⟨by decide +kernel, rfl⟩
theorem d_X_wipe_4 : DC b_X_wipe 4 (.getfield 304) 3 7 := ⟨by decide +kernel, rfl⟩
theorem d_X_wipe_7 : DC b_X_wipe 7 (.istore_n 1) 1 8 := ⟨by decide +kernel, rfl⟩
theorem d_X_wipe_8 : DC b_X_wipe 8 (.aload_n 0) 1 9 := ⟨by decide +kernel, rfl⟩
theorem d_X_wipe_9 : DC b_X_wipe 9 (.getfield 57) 3 12 := ⟨by decide +kernel, rfl⟩
theorem d_X_wipe_12 : DC b_X_wipe 12 (.iconst 0) 1 13 := ⟨by decide +kernel, rfl⟩
theorem d_X_wipe_13 : DC b_X_wipe 13 (.putfield 304) 3 16 := ⟨by decide +kernel, rfl⟩
theorem d_X_wipe_16 : DC b_X_wipe 16 (.iload_n 1) 1 17 := ⟨by decide +kernel, rfl⟩
theorem d_X_wipe_17 : decode b_X_wipe 17 = .ok (.ireturn, 1) := by decide +kernel
theorem c_X_wipe {l : Launch} {Y : Lay} (hY : IsX Y) {μ : Mem} {r : Int32 × Mem} (hf : f_X_wipe μ = some r) : Ct l Y y_X_wipe b_X_wipe 2 (some .int) 1 [.ref (yad Y 0)] (some (.int r.1)) μ r.2 := by
  refine ct_of (own := "TopYard") (lv := [(0, .ref (yad Y 0))]) (by decide +kernel) rfl (Nat.le_of_ble_eq_true rfl) rfl (fun X hl C => ?_)
  subst hl
  unfold f_X_wipe at hf
  refine j_aload_n C d_X_wipe_0 0 rfl ?_
  refine j_gS (b := 39) C fl_X_57 (kX hY rfl) (nX hY (by decide)) rfl hY.2.2.2.1 rfl (sX hY rfl) d_X_wipe_1 ?_
  refine j_gI C fl_X_304 (kX hY rfl) (nX hY (by decide)) rfl d_X_wipe_4 ?_
  refine j_istore_nN (lvf := [(0, .ref (yad Y 0))]) C d_X_wipe_7 (by decide) rfl hf (fun v1 hf => ?_)
  refine j_aload_n C d_X_wipe_8 1 rfl ?_
  refine j_gS (b := 39) C fl_X_57 (kX hY rfl) (nX hY (by decide)) rfl hY.2.2.2.1 rfl (sX hY rfl) d_X_wipe_9 ?_
  refine j_iconst (v := 0) C d_X_wipe_12 (by decide) ?_
  refine j_pI C fl_X_304 (kX hY rfl) (nX hY (by decide)) rfl rfl rfl d_X_wipe_13 hf (fun μ2 hf => ?_)
  refine j_iload_n C d_X_wipe_16 0 rfl ?_
  obtain rfl := Option.some.inj hf
  exact j_iret C d_X_wipe_17
theorem d_Ga_byteAt_0 : DC b_Ga_byteAt 0 (.iload_n 1) 1 1 := ⟨by decide +kernel, rfl⟩
theorem d_Ga_byteAt_1 : DB b_Ga_byteAt 1 (.ifCond .lt 26) 26 27 4 := ⟨by decide +kernel, by decide, rfl⟩
theorem d_Ga_byteAt_4 : DC b_Ga_byteAt 4 (.iload_n 1) 1 5 := ⟨by decide +kernel, rfl⟩
theorem d_Ga_byteAt_5 : DC b_Ga_byteAt 5 (.aload_n 0) 1 6 := ⟨by decide +kernel, rfl⟩
theorem d_Ga_byteAt_6 : DC b_Ga_byteAt 6 (.getfield 9) 3 9 := ⟨by decide +kernel, rfl⟩
theorem d_Ga_byteAt_9 : DB b_Ga_byteAt 9 (.if_icmp .ge 18) 18 27 12 := ⟨by decide +kernel, by decide, rfl⟩
theorem d_Ga_byteAt_12 : DC b_Ga_byteAt 12 (.iload_n 1) 1 13 := ⟨by decide +kernel, rfl⟩
theorem d_Ga_byteAt_13 : DC b_Ga_byteAt 13 (.bipush 40) 2 15 := ⟨by decide +kernel, rfl⟩
theorem d_Ga_byteAt_15 : DB b_Ga_byteAt 15 (.if_icmp .ge 12) 12 27 18 := ⟨by decide +kernel, by decide, rfl⟩
theorem d_Ga_byteAt_18 : DC b_Ga_byteAt 18 (.aload_n 0) 1 19 := ⟨by decide +kernel, rfl⟩
theorem d_Ga_byteAt_19 : DC b_Ga_byteAt 19 (.getfield 15) 3 22 := ⟨by decide +kernel, rfl⟩
theorem d_Ga_byteAt_22 : DC b_Ga_byteAt 22 (.iload_n 1) 1 23 := ⟨by decide +kernel, rfl⟩
theorem d_Ga_byteAt_23 : DC b_Ga_byteAt 23 (.iaload) 1 24 := ⟨by decide +kernel, rfl⟩
theorem d_Ga_byteAt_24 : DB b_Ga_byteAt 24 (.goto 4) 4 28 27 := ⟨by decide +kernel, by decide, rfl⟩
theorem d_Ga_byteAt_27 : DC b_Ga_byteAt 27 (.iconst (-1)) 1 28 := ⟨by decide +kernel, rfl⟩
theorem d_Ga_byteAt_28 : decode b_Ga_byteAt 28 = .ok (.ireturn, 1) := by decide +kernel
theorem c_Ga_byteAt {l : Launch} {Y : Lay} (hY : IsX Y) {μ : Mem} {x1 : Int32} {r : Int32} (hf : f_Ga_byteAt μ x1 = some r) : Ct l Y y_Ga_byteAt b_Ga_byteAt 2 (some .int) 1 [.ref (yad Y 39), .int x1] (some (.int r)) μ μ := by
  refine ct_of (own := "TopYard$Game") (lv := [(0, .ref (yad Y 39)), (1, .int x1)]) (by decide +kernel) rfl (Nat.le_of_ble_eq_true rfl) rfl (fun X hl C => ?_)
  subst hl
  unfold f_Ga_byteAt at hf
  refine j_iload_n C d_Ga_byteAt_0 1 rfl ?_
  refine j_if_lt C d_Ga_byteAt_1 hf (fun hf => ?_) (fun hf => ?_)
  · refine j_iconst (v := (-1)) C d_Ga_byteAt_27 (by decide) ?_
    obtain rfl := Option.some.inj hf
    exact j_iret C d_Ga_byteAt_28
  · refine j_iload_n C d_Ga_byteAt_4 1 rfl ?_
    refine j_aload_n C d_Ga_byteAt_5 0 rfl ?_
    refine j_gI C fl_Ga_9 (kX hY rfl) (nX hY (by decide)) rfl d_Ga_byteAt_6 ?_
    refine j_icmp_ge C d_Ga_byteAt_9 hf (fun hf => ?_) (fun hf => ?_)
    · refine j_iconst (v := (-1)) C d_Ga_byteAt_27 (by decide) ?_
      obtain rfl := Option.some.inj hf
      exact j_iret C d_Ga_byteAt_28
    · refine j_iload_n C d_Ga_byteAt_12 1 rfl ?_
      refine j_bipush (v := 40) C d_Ga_byteAt_13 (by decide) ?_
      refine j_icmp_ge C d_Ga_byteAt_15 hf (fun hf => ?_) (fun hf => ?_)
      · refine j_iconst (v := (-1)) C d_Ga_byteAt_27 (by decide) ?_
        obtain rfl := Option.some.inj hf
        exact j_iret C d_Ga_byteAt_28
      · refine j_aload_n C d_Ga_byteAt_18 0 rfl ?_
        refine j_gS (b := 40) C fl_Ga_15 (kX hY rfl) (nX hY (by decide)) rfl hY.2.2.2.1 rfl (sX hY rfl) d_Ga_byteAt_19 ?_
        refine j_iload_n C d_Ga_byteAt_22 1 rfl ?_
        refine ck hf (fun hi1 hf => ?_)
        refine j_iald C (kX hY rfl) (nX hY (by decide)) (lX hY rfl) hi1 d_Ga_byteAt_23 ?_
        refine j_goto C d_Ga_byteAt_24 ?_
        obtain rfl := Option.some.inj hf
        exact j_iret C d_Ga_byteAt_28
theorem d_Ga_letterAt_0 : DC b_Ga_letterAt 0 (.iconst 0) 1 1 := ⟨by decide +kernel, rfl⟩
theorem d_Ga_letterAt_1 : DC b_Ga_letterAt 1 (.istore_n 2) 1 2 := ⟨by decide +kernel, rfl⟩
theorem d_Ga_letterAt_2 : DC b_Ga_letterAt 2 (.iload_n 2) 1 3 := ⟨by decide +kernel, rfl⟩
theorem d_Ga_letterAt_3 : DC b_Ga_letterAt 3 (.iconst 5) 1 4 := ⟨by decide +kernel, rfl⟩
theorem d_Ga_letterAt_4 : DB b_Ga_letterAt 4 (.if_icmp .ge 24) 24 28 7 := ⟨by decide +kernel, by decide, rfl⟩
theorem d_Ga_letterAt_7 : DC b_Ga_letterAt 7 (.aload_n 0) 1 8 := ⟨by decide +kernel, rfl⟩
theorem d_Ga_letterAt_8 : DC b_Ga_letterAt 8 (.iload_n 1) 1 9 := ⟨by decide +kernel, rfl⟩
theorem d_Ga_letterAt_9 : DC b_Ga_letterAt 9 (.invokevirtual 48) 3 12 := ⟨by decide +kernel, rfl⟩
theorem d_Ga_letterAt_12 : DC b_Ga_letterAt 12 (.getstatic 51) 3 15 := ⟨by decide +kernel, rfl⟩
theorem d_Ga_letterAt_15 : DC b_Ga_letterAt 15 (.iload_n 2) 1 16 := ⟨by decide +kernel, rfl⟩
theorem d_Ga_letterAt_16 : DC b_Ga_letterAt 16 (.caload) 1 17 := ⟨by decide +kernel, rfl⟩
theorem d_Ga_letterAt_17 : DB b_Ga_letterAt 17 (.if_icmp .ne 5) 5 22 20 := ⟨by decide +kernel, by decide, rfl⟩
theorem d_Ga_letterAt_20 : DC b_Ga_letterAt 20 (.iload_n 2) 1 21 := ⟨by decide +kernel, rfl⟩
theorem d_Ga_letterAt_21 : decode b_Ga_letterAt 21 = .ok (.ireturn, 1) := by decide +kernel
theorem d_Ga_letterAt_22 : DC b_Ga_letterAt 22 (.iinc 2 1) 3 25 := ⟨by decide +kernel, rfl⟩
theorem d_Ga_letterAt_25 : DB b_Ga_letterAt 25 (.goto (-23)) (-23) 2 28 := ⟨by decide +kernel, by decide, rfl⟩
theorem d_Ga_letterAt_28 : DC b_Ga_letterAt 28 (.iconst (-1)) 1 29 := ⟨by decide +kernel, rfl⟩
theorem d_Ga_letterAt_29 : decode b_Ga_letterAt 29 = .ok (.ireturn, 1) := by decide +kernel
theorem w_Ga_letterAt_l2 {X : Ctx} {Y : Lay} (hY : IsX Y) (C : Cx X Y b_Ga_letterAt 3 (some .int) "TopYard$Game" 2) {N : Nat} {μ : Mem} {r : Int32} : ∀ (n : Nat) (x1 : Int32) (x2 : Int32), f_Ga_letterAt_l2 N μ n x1 x2 = some r → J X Y (some (.int r)) μ 3 2 [(0, .ref (yad Y 39)), (1, .int x1), (2, .int x2)] [] μ := by
  intro n
  induction n with
  | zero => intro x1 x2 hf; rw [f_Ga_letterAt_l2] at hf; cases hf
  | succ n ih =>
    intro x1 x2 hf
    rw [f_Ga_letterAt_l2] at hf
    refine j_iload_n C d_Ga_letterAt_2 2 rfl ?_
    refine j_iconst (v := 5) C d_Ga_letterAt_3 (by decide) ?_
    refine j_icmp_ge C d_Ga_letterAt_4 hf (fun hf => ?_) (fun hf => ?_)
    · refine j_iconst (v := (-1)) C d_Ga_letterAt_28 (by decide) ?_
      obtain rfl := Option.some.inj hf
      exact j_iret C d_Ga_letterAt_29
    · refine j_aload_n C d_Ga_letterAt_7 0 rfl ?_
      refine j_iload_n C d_Ga_letterAt_8 1 rfl ?_
      refine bd hf (fun v1 hc4 hf => ?_)
      refine j_cV (rest := []) C lk_Ga_48 (c_Ga_byteAt hY hc4) rfl (kX hY rfl) (nX hY (by decide)) (by decide) rfl rfl (by decide) rfl (Nat.le_of_ble_eq_true rfl) d_Ga_letterAt_9 ?_
      refine j_gets (i := 2) C rfl wd_117 d_Ga_letterAt_12 ?_
      refine j_iload_n C d_Ga_letterAt_15 2 rfl ?_
      refine ck hf (fun hi2 hf => ?_)
      refine j_tC (t := 2) C rfl rfl hi2 d_Ga_letterAt_16 ?_
      refine j_icmp_ne C d_Ga_letterAt_17 hf (fun hf => ?_) (fun hf => ?_)
      · refine j_iinc (lvf := [(0, .ref (yad Y 39)), (1, .int x1)]) (v := 1) C d_Ga_letterAt_22 2 rfl (by decide) (by decide) rfl hf (fun v3 hf => ?_)
        refine j_goto C d_Ga_letterAt_25 ?_
        refine j_sub [1, 2, 0] rfl ?_
        exact ih x1 v3 hf
      · refine j_iload_n C d_Ga_letterAt_20 2 rfl ?_
        obtain rfl := Option.some.inj hf
        exact j_iret C d_Ga_letterAt_21
theorem c_Ga_letterAt {l : Launch} {Y : Lay} (hY : IsX Y) {N : Nat} {μ : Mem} {x1 : Int32} {r : Int32} (hf : f_Ga_letterAt N μ x1 = some r) : Ct l Y y_Ga_letterAt b_Ga_letterAt 3 (some .int) 2 [.ref (yad Y 39), .int x1] (some (.int r)) μ μ := by
  refine ct_of (own := "TopYard$Game") (lv := [(0, .ref (yad Y 39)), (1, .int x1)]) (by decide +kernel) rfl (Nat.le_of_ble_eq_true rfl) rfl (fun X hl C => ?_)
  subst hl
  unfold f_Ga_letterAt at hf
  refine j_iconst (v := 0) C d_Ga_letterAt_0 (by decide) ?_
  refine j_istore_n (lvf := [(0, .ref (yad Y 39)), (1, .int x1)]) C d_Ga_letterAt_1 (by decide) rfl ?_
  refine j_sub [1, 2, 0] rfl ?_
  exact w_Ga_letterAt_l2 hY C N x1 0 hf
theorem d_Ga_isFigure_0 : DC b_Ga_isFigure 0 (.iload_n 0) 1 1 := ⟨by decide +kernel, rfl⟩
theorem d_Ga_isFigure_1 : DC b_Ga_isFigure 1 (.bipush 48) 2 3 := ⟨by decide +kernel, rfl⟩
theorem d_Ga_isFigure_3 : DB b_Ga_isFigure 3 (.if_icmp .lt 13) 13 16 6 := ⟨by decide +kernel, by decide, rfl⟩
theorem d_Ga_isFigure_6 : DC b_Ga_isFigure 6 (.iload_n 0) 1 7 := ⟨by decide +kernel, rfl⟩
theorem d_Ga_isFigure_7 : DC b_Ga_isFigure 7 (.bipush 57) 2 9 := ⟨by decide +kernel, rfl⟩
theorem d_Ga_isFigure_9 : DB b_Ga_isFigure 9 (.if_icmp .gt 7) 7 16 12 := ⟨by decide +kernel, by decide, rfl⟩
theorem d_Ga_isFigure_12 : DC b_Ga_isFigure 12 (.iconst 1) 1 13 := ⟨by decide +kernel, rfl⟩
theorem d_Ga_isFigure_13 : DB b_Ga_isFigure 13 (.goto 4) 4 17 16 := ⟨by decide +kernel, by decide, rfl⟩
theorem d_Ga_isFigure_16 : DC b_Ga_isFigure 16 (.iconst 0) 1 17 := ⟨by decide +kernel, rfl⟩
theorem d_Ga_isFigure_17 : decode b_Ga_isFigure 17 = .ok (.ireturn, 1) := by decide +kernel
theorem c_Ga_isFigure {l : Launch} {Y : Lay} (hY : IsX Y) {μ : Mem} {x0 : Int32} {r : Int32} (hf : f_Ga_isFigure x0 = some r) : Ct l Y y_Ga_isFigure b_Ga_isFigure 1 (some .boolean) 1 [.int x0] (some (.int r)) μ μ := by
  refine ct_of (own := "TopYard$Game") (lv := [(0, .int x0)]) (by decide +kernel) rfl (Nat.le_of_ble_eq_true rfl) rfl (fun X hl C => ?_)
  subst hl
  unfold f_Ga_isFigure at hf
  refine j_iload_n C d_Ga_isFigure_0 0 rfl ?_
  refine j_bipush (v := 48) C d_Ga_isFigure_1 (by decide) ?_
  refine j_icmp_lt C d_Ga_isFigure_3 hf (fun hf => ?_) (fun hf => ?_)
  · refine j_iconst (v := 0) C d_Ga_isFigure_16 (by decide) ?_
    obtain rfl := Option.some.inj hf
    exact j_zret C (Or.inl rfl) d_Ga_isFigure_17
  · refine j_iload_n C d_Ga_isFigure_6 0 rfl ?_
    refine j_bipush (v := 57) C d_Ga_isFigure_7 (by decide) ?_
    refine j_icmp_gt C d_Ga_isFigure_9 hf (fun hf => ?_) (fun hf => ?_)
    · refine j_iconst (v := 0) C d_Ga_isFigure_16 (by decide) ?_
      obtain rfl := Option.some.inj hf
      exact j_zret C (Or.inl rfl) d_Ga_isFigure_17
    · refine j_iconst (v := 1) C d_Ga_isFigure_12 (by decide) ?_
      refine j_goto C d_Ga_isFigure_13 ?_
      obtain rfl := Option.some.inj hf
      exact j_zret C (Or.inr rfl) d_Ga_isFigure_17
theorem d_Ga_figuresAt_0 : DC b_Ga_figuresAt 0 (.aload_n 0) 1 1 := ⟨by decide +kernel, rfl⟩
theorem d_Ga_figuresAt_1 : DC b_Ga_figuresAt 1 (.iload_n 1) 1 2 := ⟨by decide +kernel, rfl⟩
theorem d_Ga_figuresAt_2 : DC b_Ga_figuresAt 2 (.invokevirtual 48) 3 5 := ⟨by decide +kernel, rfl⟩
theorem d_Ga_figuresAt_5 : DC b_Ga_figuresAt 5 (.invokestatic 55) 3 8 := ⟨by decide +kernel, rfl⟩
theorem d_Ga_figuresAt_8 : DB b_Ga_figuresAt 8 (.ifCond .ne 5) 5 13 11 := ⟨by decide +kernel, by decide, rfl⟩
theorem d_Ga_figuresAt_11 : DC b_Ga_figuresAt 11 (.iconst 0) 1 12 := ⟨by decide +kernel, rfl⟩
theorem d_Ga_figuresAt_12 : decode b_Ga_figuresAt 12 = .ok (.ireturn, 1) := by decide +kernel
theorem d_Ga_figuresAt_13 : DC b_Ga_figuresAt 13 (.aload_n 0) 1 14 := ⟨by decide +kernel, rfl⟩
theorem d_Ga_figuresAt_14 : DC b_Ga_figuresAt 14 (.iload_n 1) 1 15 := ⟨by decide +kernel, rfl⟩
theorem d_Ga_figuresAt_15 : DC b_Ga_figuresAt 15 (.iconst 1) 1 16 := ⟨by decide +kernel, rfl⟩
theorem d_Ga_figuresAt_16 : DC b_Ga_figuresAt 16 (.iadd) 1 17 := ⟨by decide +kernel, rfl⟩
theorem d_Ga_figuresAt_17 : DC b_Ga_figuresAt 17 (.invokevirtual 48) 3 20 := ⟨by decide +kernel, rfl⟩
theorem d_Ga_figuresAt_20 : DC b_Ga_figuresAt 20 (.invokestatic 55) 3 23 := ⟨by decide +kernel, rfl⟩
theorem d_Ga_figuresAt_23 : DB b_Ga_figuresAt 23 (.ifCond .eq 7) 7 30 26 := ⟨by decide +kernel, by decide, rfl⟩
theorem d_Ga_figuresAt_26 : DC b_Ga_figuresAt 26 (.iconst 2) 1 27 := ⟨by decide +kernel, rfl⟩
theorem d_Ga_figuresAt_27 : DB b_Ga_figuresAt 27 (.goto 4) 4 31 30 := ⟨by decide +kernel, by decide, rfl⟩
theorem d_Ga_figuresAt_30 : DC b_Ga_figuresAt 30 (.iconst 1) 1 31 := ⟨by decide +kernel, rfl⟩
theorem d_Ga_figuresAt_31 : decode b_Ga_figuresAt 31 = .ok (.ireturn, 1) := by decide +kernel
theorem c_Ga_figuresAt {l : Launch} {Y : Lay} (hY : IsX Y) {μ : Mem} {x1 : Int32} {r : Int32} (hf : f_Ga_figuresAt μ x1 = some r) : Ct l Y y_Ga_figuresAt b_Ga_figuresAt 2 (some .int) 2 [.ref (yad Y 39), .int x1] (some (.int r)) μ μ := by
  refine ct_of (own := "TopYard$Game") (lv := [(0, .ref (yad Y 39)), (1, .int x1)]) (by decide +kernel) rfl (Nat.le_of_ble_eq_true rfl) rfl (fun X hl C => ?_)
  subst hl
  unfold f_Ga_figuresAt at hf
  refine j_aload_n C d_Ga_figuresAt_0 0 rfl ?_
  refine j_iload_n C d_Ga_figuresAt_1 1 rfl ?_
  refine bd hf (fun v1 hc8 hf => ?_)
  refine j_cV (rest := []) C lk_Ga_48 (c_Ga_byteAt hY hc8) rfl (kX hY rfl) (nX hY (by decide)) (by decide) rfl rfl (by decide) rfl (Nat.le_of_ble_eq_true rfl) d_Ga_figuresAt_2 ?_
  refine bd hf (fun v2 hc7 hf => ?_)
  refine j_cS (rest := []) C lk_Ga_55 (c_Ga_isFigure hY hc7) rfl (by decide) rfl (Nat.le_of_ble_eq_true rfl) d_Ga_figuresAt_5 ?_
  refine j_if_ne C d_Ga_figuresAt_8 hf (fun hf => ?_) (fun hf => ?_)
  · refine j_aload_n C d_Ga_figuresAt_13 0 rfl ?_
    refine j_iload_n C d_Ga_figuresAt_14 1 rfl ?_
    refine j_iconst (v := 1) C d_Ga_figuresAt_15 (by decide) ?_
    refine j_iadd C d_Ga_figuresAt_16 ?_
    refine bd hf (fun v3 hc6 hf => ?_)
    refine j_cV (rest := []) C lk_Ga_48 (c_Ga_byteAt hY hc6) rfl (kX hY rfl) (nX hY (by decide)) (by decide) rfl rfl (by decide) rfl (Nat.le_of_ble_eq_true rfl) d_Ga_figuresAt_17 ?_
    refine bd hf (fun v4 hc5 hf => ?_)
    refine j_cS (rest := []) C lk_Ga_55 (c_Ga_isFigure hY hc5) rfl (by decide) rfl (Nat.le_of_ble_eq_true rfl) d_Ga_figuresAt_20 ?_
    refine j_if_eq C d_Ga_figuresAt_23 hf (fun hf => ?_) (fun hf => ?_)
    · refine j_iconst (v := 1) C d_Ga_figuresAt_30 (by decide) ?_
      obtain rfl := Option.some.inj hf
      exact j_iret C d_Ga_figuresAt_31
    · refine j_iconst (v := 2) C d_Ga_figuresAt_26 (by decide) ?_
      refine j_goto C d_Ga_figuresAt_27 ?_
      obtain rfl := Option.some.inj hf
      exact j_iret C d_Ga_figuresAt_31
  · refine j_iconst (v := 0) C d_Ga_figuresAt_11 (by decide) ?_
    obtain rfl := Option.some.inj hf
    exact j_iret C d_Ga_figuresAt_12
theorem d_Ga_numberAt_0 : DC b_Ga_numberAt 0 (.iconst 0) 1 1 := ⟨by decide +kernel, rfl⟩
theorem d_Ga_numberAt_1 : DC b_Ga_numberAt 1 (.istore_n 3) 1 2 := ⟨by decide +kernel, rfl⟩
theorem d_Ga_numberAt_2 : DC b_Ga_numberAt 2 (.iconst 0) 1 3 := ⟨by decide +kernel, rfl⟩
theorem d_Ga_numberAt_3 : DC b_Ga_numberAt 3 (.istore 4) 2 5 := ⟨by decide +kernel, rfl⟩
theorem d_Ga_numberAt_5 : DC b_Ga_numberAt 5 (.iload 4) 2 7 := ⟨by decide +kernel, rfl⟩
theorem d_Ga_numberAt_7 : DC b_Ga_numberAt 7 (.iload_n 2) 1 8 := ⟨by decide +kernel, rfl⟩
theorem d_Ga_numberAt_8 : DB b_Ga_numberAt 8 (.if_icmp .ge 26) 26 34 11 := ⟨by decide +kernel, by decide, rfl⟩
theorem d_Ga_numberAt_11 : DC b_Ga_numberAt 11 (.bipush 10) 2 13 := ⟨by decide +kernel, rfl⟩
theorem d_Ga_numberAt_13 : DC b_Ga_numberAt 13 (.iload_n 3) 1 14 := ⟨by decide +kernel, rfl⟩
theorem d_Ga_numberAt_14 : DC b_Ga_numberAt 14 (.imul) 1 15 := ⟨by decide +kernel, rfl⟩
theorem d_Ga_numberAt_15 : DC b_Ga_numberAt 15 (.aload_n 0) 1 16 := ⟨by decide +kernel, rfl⟩
theorem d_Ga_numberAt_16 : DC b_Ga_numberAt 16 (.iload_n 1) 1 17 := ⟨by decide +kernel, rfl⟩
theorem d_Ga_numberAt_17 : DC b_Ga_numberAt 17 (.iload 4) 2 19 := ⟨by decide +kernel, rfl⟩
theorem d_Ga_numberAt_19 : DC b_Ga_numberAt 19 (.iadd) 1 20 := ⟨by decide +kernel, rfl⟩
theorem d_Ga_numberAt_20 : DC b_Ga_numberAt 20 (.invokevirtual 48) 3 23 := ⟨by decide +kernel, rfl⟩
theorem d_Ga_numberAt_23 : DC b_Ga_numberAt 23 (.iadd) 1 24 := ⟨by decide +kernel, rfl⟩
theorem d_Ga_numberAt_24 : DC b_Ga_numberAt 24 (.bipush 48) 2 26 := ⟨by decide +kernel, rfl⟩
theorem d_Ga_numberAt_26 : DC b_Ga_numberAt 26 (.isub) 1 27 := ⟨by decide +kernel, rfl⟩
theorem d_Ga_numberAt_27 : DC b_Ga_numberAt 27 (.istore_n 3) 1 28 := ⟨by decide +kernel, rfl⟩
theorem d_Ga_numberAt_28 : DC b_Ga_numberAt 28 (.iinc 4 1) 3 31 := ⟨by decide +kernel, rfl⟩
theorem d_Ga_numberAt_31 : DB b_Ga_numberAt 31 (.goto (-26)) (-26) 5 34 := ⟨by decide +kernel, by decide, rfl⟩
theorem d_Ga_numberAt_34 : DC b_Ga_numberAt 34 (.iload_n 3) 1 35 := ⟨by decide +kernel, rfl⟩
theorem d_Ga_numberAt_35 : decode b_Ga_numberAt 35 = .ok (.ireturn, 1) := by decide +kernel
theorem w_Ga_numberAt_l5 {X : Ctx} {Y : Lay} (hY : IsX Y) (C : Cx X Y b_Ga_numberAt 5 (some .int) "TopYard$Game" 2) {N : Nat} {μ : Mem} {r : Int32} : ∀ (n : Nat) (x1 : Int32) (x2 : Int32) (x3 : Int32) (x4 : Int32), f_Ga_numberAt_l5 N μ n x1 x2 x3 x4 = some r → J X Y (some (.int r)) μ 5 5 [(0, .ref (yad Y 39)), (1, .int x1), (2, .int x2), (3, .int x3), (4, .int x4)] [] μ := by
  intro n
  induction n with
  | zero => intro x1 x2 x3 x4 hf; rw [f_Ga_numberAt_l5] at hf; cases hf
  | succ n ih =>
    intro x1 x2 x3 x4 hf
    rw [f_Ga_numberAt_l5] at hf
    refine j_iload C d_Ga_numberAt_5 4 rfl ?_
    refine j_iload_n C d_Ga_numberAt_7 2 rfl ?_
    refine j_icmp_ge C d_Ga_numberAt_8 hf (fun hf => ?_) (fun hf => ?_)
    · refine j_iload_n C d_Ga_numberAt_34 3 rfl ?_
      obtain rfl := Option.some.inj hf
      exact j_iret C d_Ga_numberAt_35
    · refine j_bipush (v := 10) C d_Ga_numberAt_11 (by decide) ?_
      refine j_iload_n C d_Ga_numberAt_13 3 rfl ?_
      refine j_imul C d_Ga_numberAt_14 ?_
      refine j_aload_n C d_Ga_numberAt_15 0 rfl ?_
      refine j_iload_n C d_Ga_numberAt_16 1 rfl ?_
      refine j_iload C d_Ga_numberAt_17 4 rfl ?_
      refine j_iadd C d_Ga_numberAt_19 ?_
      refine bd hf (fun v1 hc4 hf => ?_)
      refine j_cV (rest := [.int ((10 : Int32) * x3)]) C lk_Ga_48 (c_Ga_byteAt hY hc4) rfl (kX hY rfl) (nX hY (by decide)) (by decide) rfl rfl (by decide) rfl (Nat.le_of_ble_eq_true rfl) d_Ga_numberAt_20 ?_
      refine j_iadd C d_Ga_numberAt_23 ?_
      refine j_bipush (v := 48) C d_Ga_numberAt_24 (by decide) ?_
      refine j_isub C d_Ga_numberAt_26 ?_
      refine j_istore_nN (lvf := [(0, .ref (yad Y 39)), (1, .int x1), (2, .int x2), (4, .int x4)]) C d_Ga_numberAt_27 (by decide) rfl hf (fun v2 hf => ?_)
      refine j_iinc (lvf := [(3, .int v2), (0, .ref (yad Y 39)), (1, .int x1), (2, .int x2)]) (v := 1) C d_Ga_numberAt_28 4 rfl (by decide) (by decide) rfl hf (fun v3 hf => ?_)
      refine j_goto C d_Ga_numberAt_31 ?_
      refine j_sub [2, 3, 4, 1, 0] rfl ?_
      exact ih x1 x2 v2 v3 hf
theorem c_Ga_numberAt {l : Launch} {Y : Lay} (hY : IsX Y) {N : Nat} {μ : Mem} {x1 : Int32} {x2 : Int32} {r : Int32} (hf : f_Ga_numberAt N μ x1 x2 = some r) : Ct l Y y_Ga_numberAt b_Ga_numberAt 5 (some .int) 2 [.ref (yad Y 39), .int x1, .int x2] (some (.int r)) μ μ := by
  refine ct_of (own := "TopYard$Game") (lv := [(0, .ref (yad Y 39)), (1, .int x1), (2, .int x2)]) (by decide +kernel) rfl (Nat.le_of_ble_eq_true rfl) rfl (fun X hl C => ?_)
  subst hl
  unfold f_Ga_numberAt at hf
  refine j_iconst (v := 0) C d_Ga_numberAt_0 (by decide) ?_
  refine j_istore_n (lvf := [(0, .ref (yad Y 39)), (1, .int x1), (2, .int x2)]) C d_Ga_numberAt_1 (by decide) rfl ?_
  refine j_iconst (v := 0) C d_Ga_numberAt_2 (by decide) ?_
  refine j_istore (lvf := [(3, .int 0), (0, .ref (yad Y 39)), (1, .int x1), (2, .int x2)]) C d_Ga_numberAt_3 (by decide) rfl ?_
  refine j_sub [2, 3, 4, 1, 0] rfl ?_
  exact w_Ga_numberAt_l5 hY C N x1 x2 0 0 hf
theorem d_Ga_parse_0 : DC b_Ga_parse 0 (.getstatic 22) 3 3 := ⟨by decide +kernel, rfl⟩
theorem d_Ga_parse_3 : DC b_Ga_parse 3 (.iconst 0) 1 4 := ⟨by decide +kernel, rfl⟩
theorem d_Ga_parse_4 : DC b_Ga_parse 4 (.aload_n 0) 1 5 := ⟨by decide +kernel, rfl⟩
theorem d_Ga_parse_5 : DC b_Ga_parse 5 (.getfield 19) 3 8 := ⟨by decide +kernel, rfl⟩
theorem d_Ga_parse_8 : DC b_Ga_parse 8 (.iconst 0) 1 9 := ⟨by decide +kernel, rfl⟩
theorem d_Ga_parse_9 : DC b_Ga_parse 9 (.iconst 5) 1 10 := ⟨by decide +kernel, rfl⟩
theorem d_Ga_parse_10 : DC b_Ga_parse 10 (.invokestatic 25) 3 13 := ⟨by decide +kernel, rfl⟩
theorem d_Ga_parse_13 : DC b_Ga_parse 13 (.iconst 0) 1 14 := ⟨by decide +kernel, rfl⟩
theorem d_Ga_parse_14 : DC b_Ga_parse 14 (.istore_n 1) 1 15 := ⟨by decide +kernel, rfl⟩
theorem d_Ga_parse_15 : DC b_Ga_parse 15 (.iconst 0) 1 16 := ⟨by decide +kernel, rfl⟩
theorem d_Ga_parse_16 : DC b_Ga_parse 16 (.istore_n 2) 1 17 := ⟨by decide +kernel, rfl⟩
theorem d_Ga_parse_17 : DC b_Ga_parse 17 (.iconst 0) 1 18 := ⟨by decide +kernel, rfl⟩
theorem d_Ga_parse_18 : DC b_Ga_parse 18 (.istore_n 3) 1 19 := ⟨by decide +kernel, rfl⟩
theorem d_Ga_parse_19 : DC b_Ga_parse 19 (.iload_n 3) 1 20 := ⟨by decide +kernel, rfl⟩
theorem d_Ga_parse_20 : DC b_Ga_parse 20 (.iconst 5) 1 21 := ⟨by decide +kernel, rfl⟩
theorem d_Ga_parse_21 : DB b_Ga_parse 21 (.if_icmp .gt 132) 132 153 24 := ⟨by decide +kernel, by decide, rfl⟩
theorem d_Ga_parse_24 : DC b_Ga_parse 24 (.aload_n 0) 1 25 := ⟨by decide +kernel, rfl⟩
theorem d_Ga_parse_25 : DC b_Ga_parse 25 (.iload_n 2) 1 26 := ⟨by decide +kernel, rfl⟩
theorem d_Ga_parse_26 : DC b_Ga_parse 26 (.invokevirtual 31) 3 29 := ⟨by decide +kernel, rfl⟩
theorem d_Ga_parse_29 : DC b_Ga_parse 29 (.istore 4) 2 31 := ⟨by decide +kernel, rfl⟩
theorem d_Ga_parse_31 : DC b_Ga_parse 31 (.iload 4) 2 33 := ⟨by decide +kernel, rfl⟩
theorem d_Ga_parse_33 : DC b_Ga_parse 33 (.iconst (-1)) 1 34 := ⟨by decide +kernel, rfl⟩
theorem d_Ga_parse_34 : DB b_Ga_parse 34 (.if_icmp .eq 12) 12 46 37 := ⟨by decide +kernel, by decide, rfl⟩
theorem d_Ga_parse_37 : DC b_Ga_parse 37 (.iload_n 1) 1 38 := ⟨by decide +kernel, rfl⟩
theorem d_Ga_parse_38 : DC b_Ga_parse 38 (.iload 4) 2 40 := ⟨by decide +kernel, rfl⟩
theorem d_Ga_parse_40 : DC b_Ga_parse 40 (.ishr) 1 41 := ⟨by decide +kernel, rfl⟩
theorem d_Ga_parse_41 : DC b_Ga_parse 41 (.iconst 1) 1 42 := ⟨by decide +kernel, rfl⟩
theorem d_Ga_parse_42 : DC b_Ga_parse 42 (.iand) 1 43 := ⟨by decide +kernel, rfl⟩
theorem d_Ga_parse_43 : DB b_Ga_parse 43 (.ifCond .eq 5) 5 48 46 := ⟨by decide +kernel, by decide, rfl⟩
theorem d_Ga_parse_46 : DC b_Ga_parse 46 (.iload_n 2) 1 47 := ⟨by decide +kernel, rfl⟩
theorem d_Ga_parse_47 : decode b_Ga_parse 47 = .ok (.ireturn, 1) := by decide +kernel
theorem d_Ga_parse_48 : DC b_Ga_parse 48 (.iload_n 1) 1 49 := ⟨by decide +kernel, rfl⟩
theorem d_Ga_parse_49 : DC b_Ga_parse 49 (.iconst 1) 1 50 := ⟨by decide +kernel, rfl⟩
theorem d_Ga_parse_50 : DC b_Ga_parse 50 (.iload 4) 2 52 := ⟨by decide +kernel, rfl⟩
theorem d_Ga_parse_52 : DC b_Ga_parse 52 (.ishl) 1 53 := ⟨by decide +kernel, rfl⟩
theorem d_Ga_parse_53 : DC b_Ga_parse 53 (.ior) 1 54 := ⟨by decide +kernel, rfl⟩
theorem d_Ga_parse_54 : DC b_Ga_parse 54 (.istore_n 1) 1 55 := ⟨by decide +kernel, rfl⟩
theorem d_Ga_parse_55 : DC b_Ga_parse 55 (.aload_n 0) 1 56 := ⟨by decide +kernel, rfl⟩
theorem d_Ga_parse_56 : DC b_Ga_parse 56 (.iload_n 2) 1 57 := ⟨by decide +kernel, rfl⟩
theorem d_Ga_parse_57 : DC b_Ga_parse 57 (.iconst 1) 1 58 := ⟨by decide +kernel, rfl⟩
theorem d_Ga_parse_58 : DC b_Ga_parse 58 (.iadd) 1 59 := ⟨by decide +kernel, rfl⟩
theorem d_Ga_parse_59 : DC b_Ga_parse 59 (.invokevirtual 35) 3 62 := ⟨by decide +kernel, rfl⟩
theorem d_Ga_parse_62 : DC b_Ga_parse 62 (.istore 5) 2 64 := ⟨by decide +kernel, rfl⟩
theorem d_Ga_parse_64 : DC b_Ga_parse 64 (.aload_n 0) 1 65 := ⟨by decide +kernel, rfl⟩
theorem d_Ga_parse_65 : DC b_Ga_parse 65 (.iload_n 2) 1 66 := ⟨by decide +kernel, rfl⟩
theorem d_Ga_parse_66 : DC b_Ga_parse 66 (.iconst 1) 1 67 := ⟨by decide +kernel, rfl⟩
theorem d_Ga_parse_67 : DC b_Ga_parse 67 (.iadd) 1 68 := ⟨by decide +kernel, rfl⟩
theorem d_Ga_parse_68 : DC b_Ga_parse 68 (.iload 5) 2 70 := ⟨by decide +kernel, rfl⟩
theorem d_Ga_parse_70 : DC b_Ga_parse 70 (.invokevirtual 38) 3 73 := ⟨by decide +kernel, rfl⟩
theorem d_Ga_parse_73 : DC b_Ga_parse 73 (.istore 6) 2 75 := ⟨by decide +kernel, rfl⟩
theorem d_Ga_parse_75 : DC b_Ga_parse 75 (.iload 5) 2 77 := ⟨by decide +kernel, rfl⟩
theorem d_Ga_parse_77 : DB b_Ga_parse 77 (.ifCond .eq 25) 25 102 80 := ⟨by decide +kernel, by decide, rfl⟩
theorem d_Ga_parse_80 : DC b_Ga_parse 80 (.iload 6) 2 82 := ⟨by decide +kernel, rfl⟩
theorem d_Ga_parse_82 : DC b_Ga_parse 82 (.getstatic 42) 3 85 := ⟨by decide +kernel, rfl⟩
theorem d_Ga_parse_85 : DC b_Ga_parse 85 (.iload 4) 2 87 := ⟨by decide +kernel, rfl⟩
theorem d_Ga_parse_87 : DC b_Ga_parse 87 (.iaload) 1 88 := ⟨by decide +kernel, rfl⟩
theorem d_Ga_parse_88 : DB b_Ga_parse 88 (.if_icmp .lt 14) 14 102 91 := ⟨by decide +kernel, by decide, rfl⟩
theorem d_Ga_parse_91 : DC b_Ga_parse 91 (.iload 6) 2 93 := ⟨by decide +kernel, rfl⟩
theorem d_Ga_parse_93 : DC b_Ga_parse 93 (.getstatic 45) 3 96 := ⟨by decide +kernel, rfl⟩
theorem d_Ga_parse_96 : DC b_Ga_parse 96 (.iload 4) 2 98 := ⟨by decide +kernel, rfl⟩
theorem d_Ga_parse_98 : DC b_Ga_parse 98 (.iaload) 1 99 := ⟨by decide +kernel, rfl⟩
theorem d_Ga_parse_99 : DB b_Ga_parse 99 (.if_icmp .le 7) 7 106 102 := ⟨by decide +kernel, by decide, rfl⟩
theorem d_Ga_parse_102 : DC b_Ga_parse 102 (.iload_n 2) 1 103 := ⟨by decide +kernel, rfl⟩
theorem d_Ga_parse_103 : DC b_Ga_parse 103 (.iconst 1) 1 104 := ⟨by decide +kernel, rfl⟩
theorem d_Ga_parse_104 : DC b_Ga_parse 104 (.iadd) 1 105 := ⟨by decide +kernel, rfl⟩
theorem d_Ga_parse_105 : decode b_Ga_parse 105 = .ok (.ireturn, 1) := by decide +kernel
theorem d_Ga_parse_106 : DC b_Ga_parse 106 (.aload_n 0) 1 107 := ⟨by decide +kernel, rfl⟩
theorem d_Ga_parse_107 : DC b_Ga_parse 107 (.getfield 19) 3 110 := ⟨by decide +kernel, rfl⟩
theorem d_Ga_parse_110 : DC b_Ga_parse 110 (.iload 4) 2 112 := ⟨by decide +kernel, rfl⟩
theorem d_Ga_parse_112 : DC b_Ga_parse 112 (.iload 6) 2 114 := ⟨by decide +kernel, rfl⟩
theorem d_Ga_parse_114 : DC b_Ga_parse 114 (.iastore) 1 115 := ⟨by decide +kernel, rfl⟩
theorem d_Ga_parse_115 : DC b_Ga_parse 115 (.iload_n 2) 1 116 := ⟨by decide +kernel, rfl⟩
theorem d_Ga_parse_116 : DC b_Ga_parse 116 (.iconst 1) 1 117 := ⟨by decide +kernel, rfl⟩
theorem d_Ga_parse_117 : DC b_Ga_parse 117 (.iload 5) 2 119 := ⟨by decide +kernel, rfl⟩
theorem d_Ga_parse_119 : DC b_Ga_parse 119 (.iadd) 1 120 := ⟨by decide +kernel, rfl⟩
theorem d_Ga_parse_120 : DC b_Ga_parse 120 (.iadd) 1 121 := ⟨by decide +kernel, rfl⟩
theorem d_Ga_parse_121 : DC b_Ga_parse 121 (.istore_n 2) 1 122 := ⟨by decide +kernel, rfl⟩
theorem d_Ga_parse_122 : DC b_Ga_parse 122 (.iload_n 2) 1 123 := ⟨by decide +kernel, rfl⟩
theorem d_Ga_parse_123 : DC b_Ga_parse 123 (.aload_n 0) 1 124 := ⟨by decide +kernel, rfl⟩
theorem d_Ga_parse_124 : DC b_Ga_parse 124 (.getfield 9) 3 127 := ⟨by decide +kernel, rfl⟩
theorem d_Ga_parse_127 : DB b_Ga_parse 127 (.if_icmp .lt 5) 5 132 130 := ⟨by decide +kernel, by decide, rfl⟩
theorem d_Ga_parse_130 : DC b_Ga_parse 130 (.iconst (-1)) 1 131 := ⟨by decide +kernel, rfl⟩
theorem d_Ga_parse_131 : decode b_Ga_parse 131 = .ok (.ireturn, 1) := by decide +kernel
theorem d_Ga_parse_132 : DC b_Ga_parse 132 (.aload_n 0) 1 133 := ⟨by decide +kernel, rfl⟩
theorem d_Ga_parse_133 : DC b_Ga_parse 133 (.iload_n 2) 1 134 := ⟨by decide +kernel, rfl⟩
theorem d_Ga_parse_134 : DC b_Ga_parse 134 (.invokevirtual 48) 3 137 := ⟨by decide +kernel, rfl⟩
theorem d_Ga_parse_137 : DC b_Ga_parse 137 (.bipush 59) 2 139 := ⟨by decide +kernel, rfl⟩
theorem d_Ga_parse_139 : DB b_Ga_parse 139 (.if_icmp .eq 5) 5 144 142 := ⟨by decide +kernel, by decide, rfl⟩
theorem d_Ga_parse_142 : DC b_Ga_parse 142 (.iload_n 2) 1 143 := ⟨by decide +kernel, rfl⟩
theorem d_Ga_parse_143 : decode b_Ga_parse 143 = .ok (.ireturn, 1) := by decide +kernel
theorem d_Ga_parse_144 : DC b_Ga_parse 144 (.iinc 2 1) 3 147 := ⟨by decide +kernel, rfl⟩
theorem d_Ga_parse_147 : DC b_Ga_parse 147 (.iinc 3 1) 3 150 := ⟨by decide +kernel, rfl⟩
theorem d_Ga_parse_150 : DB b_Ga_parse 150 (.goto (-131)) (-131) 19 153 := ⟨by decide +kernel, by decide, rfl⟩
theorem d_Ga_parse_153 : DC b_Ga_parse 153 (.iload_n 2) 1 154 := ⟨by decide +kernel, rfl⟩
theorem d_Ga_parse_154 : decode b_Ga_parse 154 = .ok (.ireturn, 1) := by decide +kernel
theorem w_Ga_parse_l19 {X : Ctx} {Y : Lay} (hY : IsX Y) (C : Cx X Y b_Ga_parse 7 (some .int) "TopYard$Game" 3) {N : Nat} {r : Int32 × Mem} : ∀ (n : Nat) (x1 : Int32) (x2 : Int32) (x3 : Int32) (μ : Mem), f_Ga_parse_l19 N n x1 x2 x3 μ = some r → J X Y (some (.int r.1)) r.2 7 19 [(0, .ref (yad Y 39)), (1, .int x1), (2, .int x2), (3, .int x3)] [] μ := by
  intro n
  induction n with
  | zero => intro x1 x2 x3 μ hf; rw [f_Ga_parse_l19] at hf; cases hf
  | succ n ih =>
    intro x1 x2 x3 μ hf
    rw [f_Ga_parse_l19] at hf
    refine j_iload_n C d_Ga_parse_19 3 rfl ?_
    refine j_iconst (v := 5) C d_Ga_parse_20 (by decide) ?_
    refine j_icmp_gt C d_Ga_parse_21 hf (fun hf => ?_) (fun hf => ?_)
    · refine j_iload_n C d_Ga_parse_153 2 rfl ?_
      obtain rfl := Option.some.inj hf
      exact j_iret C d_Ga_parse_154
    · refine j_aload_n C d_Ga_parse_24 0 rfl ?_
      refine j_iload_n C d_Ga_parse_25 2 rfl ?_
      refine bd hf (fun v1 hc16 hf => ?_)
      refine j_cV (rest := []) C lk_Ga_31 (c_Ga_letterAt hY hc16) rfl (kX hY rfl) (nX hY (by decide)) (by decide) rfl rfl (by decide) rfl (Nat.le_of_ble_eq_true rfl) d_Ga_parse_26 ?_
      refine j_istore (lvf := [(0, .ref (yad Y 39)), (1, .int x1), (2, .int x2), (3, .int x3)]) C d_Ga_parse_29 (by decide) rfl ?_
      refine j_iload C d_Ga_parse_31 0 rfl ?_
      refine j_iconst (v := (-1)) C d_Ga_parse_33 (by decide) ?_
      refine j_icmp_eq C d_Ga_parse_34 hf (fun hf => ?_) (fun hf => ?_)
      · refine j_iload_n C d_Ga_parse_46 3 rfl ?_
        obtain rfl := Option.some.inj hf
        exact j_iret C d_Ga_parse_47
      · refine j_iload_n C d_Ga_parse_37 2 rfl ?_
        refine j_iload C d_Ga_parse_38 0 rfl ?_
        refine j_ishr C d_Ga_parse_40 ?_
        refine j_iconst (v := 1) C d_Ga_parse_41 (by decide) ?_
        refine j_iand C d_Ga_parse_42 ?_
        refine j_if_eq C d_Ga_parse_43 hf (fun hf => ?_) (fun hf => ?_)
        · refine j_iload_n C d_Ga_parse_48 2 rfl ?_
          refine j_iconst (v := 1) C d_Ga_parse_49 (by decide) ?_
          refine j_iload C d_Ga_parse_50 0 rfl ?_
          refine j_ishl C d_Ga_parse_52 ?_
          refine j_ior C d_Ga_parse_53 ?_
          refine j_istore_nN (lvf := [(4, .int v1), (0, .ref (yad Y 39)), (2, .int x2), (3, .int x3)]) C d_Ga_parse_54 (by decide) rfl hf (fun v2 hf => ?_)
          refine j_aload_n C d_Ga_parse_55 2 rfl ?_
          refine j_iload_n C d_Ga_parse_56 3 rfl ?_
          refine j_iconst (v := 1) C d_Ga_parse_57 (by decide) ?_
          refine j_iadd C d_Ga_parse_58 ?_
          refine bd hf (fun v3 hc15 hf => ?_)
          refine j_cV (rest := []) C lk_Ga_35 (c_Ga_figuresAt hY hc15) rfl (kX hY rfl) (nX hY (by decide)) (by decide) rfl rfl (by decide) rfl (Nat.le_of_ble_eq_true rfl) d_Ga_parse_59 ?_
          refine j_istore (lvf := [(1, .int v2), (4, .int v1), (0, .ref (yad Y 39)), (2, .int x2), (3, .int x3)]) C d_Ga_parse_62 (by decide) rfl ?_
          refine j_aload_n C d_Ga_parse_64 3 rfl ?_
          refine j_iload_n C d_Ga_parse_65 4 rfl ?_
          refine j_iconst (v := 1) C d_Ga_parse_66 (by decide) ?_
          refine j_iadd C d_Ga_parse_67 ?_
          refine j_iload C d_Ga_parse_68 0 rfl ?_
          refine bd hf (fun v4 hc14 hf => ?_)
          refine j_cV (rest := []) C lk_Ga_38 (c_Ga_numberAt hY hc14) rfl (kX hY rfl) (nX hY (by decide)) (by decide) rfl rfl (by decide) rfl (Nat.le_of_ble_eq_true rfl) d_Ga_parse_70 ?_
          refine j_istore (lvf := [(5, .int v3), (1, .int v2), (4, .int v1), (0, .ref (yad Y 39)), (2, .int x2), (3, .int x3)]) C d_Ga_parse_73 (by decide) rfl ?_
          refine j_iload C d_Ga_parse_75 1 rfl ?_
          refine j_if_eq C d_Ga_parse_77 hf (fun hf => ?_) (fun hf => ?_)
          · refine j_iload_n C d_Ga_parse_102 5 rfl ?_
            refine j_iconst (v := 1) C d_Ga_parse_103 (by decide) ?_
            refine j_iadd C d_Ga_parse_104 ?_
            obtain rfl := Option.some.inj hf
            exact j_iret C d_Ga_parse_105
          · refine j_iload C d_Ga_parse_80 0 rfl ?_
            refine j_gets (i := 3) C rfl wd_121 d_Ga_parse_82 ?_
            refine j_iload C d_Ga_parse_85 3 rfl ?_
            refine ck hf (fun hi5 hf => ?_)
            refine j_tI (t := 3) C rfl rfl hi5 d_Ga_parse_87 ?_
            refine j_icmp_lt C d_Ga_parse_88 hf (fun hf => ?_) (fun hf => ?_)
            · refine j_iload_n C d_Ga_parse_102 5 rfl ?_
              refine j_iconst (v := 1) C d_Ga_parse_103 (by decide) ?_
              refine j_iadd C d_Ga_parse_104 ?_
              obtain rfl := Option.some.inj hf
              exact j_iret C d_Ga_parse_105
            · refine j_iload C d_Ga_parse_91 0 rfl ?_
              refine j_gets (i := 4) C rfl wd_122 d_Ga_parse_93 ?_
              refine j_iload C d_Ga_parse_96 3 rfl ?_
              refine ck hf (fun hi6 hf => ?_)
              refine j_tI (t := 4) C rfl rfl hi6 d_Ga_parse_98 ?_
              refine j_icmp_le C d_Ga_parse_99 hf (fun hf => ?_) (fun hf => ?_)
              · refine j_aload_n C d_Ga_parse_106 4 rfl ?_
                refine j_gS (b := 41) C fl_Ga_19 (kX hY rfl) (nX hY (by decide)) rfl hY.2.2.2.1 rfl (sX hY rfl) d_Ga_parse_107 ?_
                refine j_iload C d_Ga_parse_110 3 rfl ?_
                refine j_iload C d_Ga_parse_112 0 rfl ?_
                refine ck hf (fun hi7 hf => ?_)
                refine j_iast C (kX hY rfl) (nX hY (by decide)) (lX hY rfl) hi7 d_Ga_parse_114 hf (fun μ8 hf => ?_)
                refine j_iload_n C d_Ga_parse_115 5 rfl ?_
                refine j_iconst (v := 1) C d_Ga_parse_116 (by decide) ?_
                refine j_iload C d_Ga_parse_117 1 rfl ?_
                refine j_iadd C d_Ga_parse_119 ?_
                refine j_iadd C d_Ga_parse_120 ?_
                refine j_istore_nN (lvf := [(6, .int v4), (5, .int v3), (1, .int v2), (4, .int v1), (0, .ref (yad Y 39)), (3, .int x3)]) C d_Ga_parse_121 (by decide) rfl hf (fun v9 hf => ?_)
                refine j_iload_n C d_Ga_parse_122 0 rfl ?_
                refine j_aload_n C d_Ga_parse_123 5 rfl ?_
                refine j_gI C fl_Ga_9 (kX hY rfl) (nX hY (by decide)) rfl d_Ga_parse_124 ?_
                refine j_icmp_lt C d_Ga_parse_127 hf (fun hf => ?_) (fun hf => ?_)
                · refine j_aload_n C d_Ga_parse_132 5 rfl ?_
                  refine j_iload_n C d_Ga_parse_133 0 rfl ?_
                  refine bd hf (fun v10 hc13 hf => ?_)
                  refine j_cV (rest := []) C lk_Ga_48 (c_Ga_byteAt hY hc13) rfl (kX hY rfl) (nX hY (by decide)) (by decide) rfl rfl (by decide) rfl (Nat.le_of_ble_eq_true rfl) d_Ga_parse_134 ?_
                  refine j_bipush (v := 59) C d_Ga_parse_137 (by decide) ?_
                  refine j_icmp_eq C d_Ga_parse_139 hf (fun hf => ?_) (fun hf => ?_)
                  · refine j_iinc (lvf := [(6, .int v4), (5, .int v3), (1, .int v2), (4, .int v1), (0, .ref (yad Y 39)), (3, .int x3)]) (v := 1) C d_Ga_parse_144 0 rfl (by decide) (by decide) rfl hf (fun v11 hf => ?_)
                    refine j_iinc (lvf := [(2, .int v11), (6, .int v4), (5, .int v3), (1, .int v2), (4, .int v1), (0, .ref (yad Y 39))]) (v := 1) C d_Ga_parse_147 6 rfl (by decide) (by decide) rfl hf (fun v12 hf => ?_)
                    refine j_goto C d_Ga_parse_150 ?_
                    refine j_sub [6, 4, 1, 0] rfl ?_
                    exact ih v2 v11 v12 μ8 hf
                  · refine j_iload_n C d_Ga_parse_142 0 rfl ?_
                    obtain rfl := Option.some.inj hf
                    exact j_iret C d_Ga_parse_143
                · refine j_iconst (v := (-1)) C d_Ga_parse_130 (by decide) ?_
                  obtain rfl := Option.some.inj hf
                  exact j_iret C d_Ga_parse_131
              · refine j_iload_n C d_Ga_parse_102 5 rfl ?_
                refine j_iconst (v := 1) C d_Ga_parse_103 (by decide) ?_
                refine j_iadd C d_Ga_parse_104 ?_
                obtain rfl := Option.some.inj hf
                exact j_iret C d_Ga_parse_105
        · refine j_iload_n C d_Ga_parse_46 3 rfl ?_
          obtain rfl := Option.some.inj hf
          exact j_iret C d_Ga_parse_47
theorem c_Ga_parse {l : Launch} {Y : Lay} (hY : IsX Y) {N : Nat} {μ : Mem} {r : Int32 × Mem} (hf : f_Ga_parse N μ = some r) : Ct l Y y_Ga_parse b_Ga_parse 7 (some .int) 3 [.ref (yad Y 39)] (some (.int r.1)) μ r.2 := by
  refine ct_of (own := "TopYard$Game") (lv := [(0, .ref (yad Y 39))]) (by decide +kernel) rfl (Nat.le_of_ble_eq_true rfl) rfl (fun X hl C => ?_)
  subst hl
  unfold f_Ga_parse at hf
  refine j_gets (i := 1) C rfl wd_118 d_Ga_parse_0 ?_
  refine j_iconst (v := 0) C d_Ga_parse_3 (by decide) ?_
  refine j_aload_n C d_Ga_parse_4 0 rfl ?_
  refine j_gS (b := 41) C fl_Ga_19 (kX hY rfl) (nX hY (by decide)) rfl hY.2.2.2.1 rfl (sX hY rfl) d_Ga_parse_5 ?_
  refine j_iconst (v := 0) C d_Ga_parse_8 (by decide) ?_
  refine j_iconst (v := 5) C d_Ga_parse_9 (by decide) ?_
  refine ck hf (fun hi1 hf => ?_)
  refine j_copyS (t := 1) (rest := []) C rfl rfl wd_120 cp_nat cp_st cp_in (kX hY rfl) (nX hY (by decide)) (lX hY rfl) hi1 ⟨Nat.le_of_ble_eq_true rfl, Nat.le_of_ble_eq_true rfl⟩ rfl d_Ga_parse_10 hf (fun μ2 hf => ?_)
  refine j_iconst (v := 0) C d_Ga_parse_13 (by decide) ?_
  refine j_istore_n (lvf := [(0, .ref (yad Y 39))]) C d_Ga_parse_14 (by decide) rfl ?_
  refine j_iconst (v := 0) C d_Ga_parse_15 (by decide) ?_
  refine j_istore_n (lvf := [(1, .int 0), (0, .ref (yad Y 39))]) C d_Ga_parse_16 (by decide) rfl ?_
  refine j_iconst (v := 0) C d_Ga_parse_17 (by decide) ?_
  refine j_istore_n (lvf := [(2, .int 0), (1, .int 0), (0, .ref (yad Y 39))]) C d_Ga_parse_18 (by decide) rfl ?_
  refine j_sub [3, 2, 1, 0] rfl ?_
  exact w_Ga_parse_l19 hY C N 0 0 0 μ2 hf
theorem d_X_fault_0 : DC b_X_fault 0 (.aload_n 0) 1 1 := ⟨by decide +kernel, rfl⟩
theorem d_X_fault_1 : DC b_X_fault 1 (.getfield 57) 3 4 := ⟨by decide +kernel, rfl⟩
theorem d_X_fault_4 : DC b_X_fault 4 (.invokevirtual 305) 3 7 := ⟨by decide +kernel, rfl⟩
theorem d_X_fault_7 : decode b_X_fault 7 = .ok (.ireturn, 1) := by decide +kernel
theorem c_X_fault {l : Launch} {Y : Lay} (hY : IsX Y) {N : Nat} {μ : Mem} {r : Int32 × Mem} (hf : f_X_fault N μ = some r) : Ct l Y y_X_fault b_X_fault 1 (some .int) 4 [.ref (yad Y 0)] (some (.int r.1)) μ r.2 := by
  refine ct_of (own := "TopYard") (lv := [(0, .ref (yad Y 0))]) (by decide +kernel) rfl (Nat.le_of_ble_eq_true rfl) rfl (fun X hl C => ?_)
  subst hl
  unfold f_X_fault at hf
  refine j_aload_n C d_X_fault_0 0 rfl ?_
  refine j_gS (b := 39) C fl_X_57 (kX hY rfl) (nX hY (by decide)) rfl hY.2.2.2.1 rfl (sX hY rfl) d_X_fault_1 ?_
  refine bd2 hf (fun v1 μ2 hc3 hf => ?_)
  refine j_cV (rest := []) C lk_X_305 (c_Ga_parse hY hc3) rfl (kX hY rfl) (nX hY (by decide)) (by decide) rfl rfl (by decide) rfl (Nat.le_of_ble_eq_true rfl) d_X_fault_4 ?_
  obtain rfl := Option.some.inj hf
  exact j_iret C d_X_fault_7
theorem d_X_isTopOf_0 : DC b_X_isTopOf 0 (.aload_n 0) 1 1 := ⟨by decide +kernel, rfl⟩
theorem d_X_isTopOf_1 : DC b_X_isTopOf 1 (.iload_n 1) 1 2 := ⟨by decide +kernel, rfl⟩
theorem d_X_isTopOf_2 : DC b_X_isTopOf 2 (.invokevirtual 110) 3 5 := ⟨by decide +kernel, rfl⟩
theorem d_X_isTopOf_5 : DC b_X_isTopOf 5 (.astore_n 3) 1 6 := ⟨by decide +kernel, rfl⟩
theorem d_X_isTopOf_6 : DC b_X_isTopOf 6 (.aload_n 3) 1 7 := ⟨by decide +kernel, rfl⟩
theorem d_X_isTopOf_7 : DB b_X_isTopOf 7 (.ifnull 15) 15 22 10 := ⟨by decide +kernel, by decide, rfl⟩
theorem d_X_isTopOf_10 : DC b_X_isTopOf 10 (.aload_n 3) 1 11 := ⟨by decide +kernel, rfl⟩
theorem d_X_isTopOf_11 : DC b_X_isTopOf 11 (.getfield 126) 3 14 := ⟨by decide +kernel, rfl⟩
theorem d_X_isTopOf_14 : DC b_X_isTopOf 14 (.iload_n 2) 1 15 := ⟨by decide +kernel, rfl⟩
theorem d_X_isTopOf_15 : DB b_X_isTopOf 15 (.if_icmp .ne 7) 7 22 18 := ⟨by decide +kernel, by decide, rfl⟩
theorem d_X_isTopOf_18 : DC b_X_isTopOf 18 (.iconst 1) 1 19 := ⟨by decide +kernel, rfl⟩
theorem d_X_isTopOf_19 : DB b_X_isTopOf 19 (.goto 4) 4 23 22 := ⟨by decide +kernel, by decide, rfl⟩
theorem d_X_isTopOf_22 : DC b_X_isTopOf 22 (.iconst 0) 1 23 := ⟨by decide +kernel, rfl⟩
theorem d_X_isTopOf_23 : decode b_X_isTopOf 23 = .ok (.ireturn, 1) := by decide +kernel
theorem c_X_isTopOf {l : Launch} {Y : Lay} (hY : IsX Y) {μ : Mem} {x1 : Int32} {x2 : Int32} {r : Int32} (hf : f_X_isTopOf μ x1 x2 = some r) : Ct l Y y_X_isTopOf b_X_isTopOf 4 (some .boolean) 2 [.ref (yad Y 0), .int x1, .int x2] (some (.int r)) μ μ := by
  refine ct_of (own := "TopYard") (lv := [(0, .ref (yad Y 0)), (1, .int x1), (2, .int x2)]) (by decide +kernel) rfl (Nat.le_of_ble_eq_true rfl) rfl (fun X hl C => ?_)
  subst hl
  unfold f_X_isTopOf at hf
  refine j_aload_n C d_X_isTopOf_0 0 rfl ?_
  refine j_iload_n C d_X_isTopOf_1 1 rfl ?_
  refine bd hf (fun u1 hc3 hf => ?_)
  refine j_wt (fun hT hSt => ?_)
  have hu1 := rt_X_topAt hY hT hc3
  refine j_cV (rest := []) C lk_X_110 (c_X_topAt hY hc3) rfl (kX hY rfl) (nX hY (by decide)) (by decide) rfl rfl (by decide) rfl (Nat.le_of_ble_eq_true rfl) d_X_isTopOf_2 ?_
  refine j_astoreo_n (lvf := [(0, .ref (yad Y 0)), (1, .int x1), (2, .int x2)]) C d_X_isTopOf_5 (by decide) rfl ?_
  refine j_aloado_n C d_X_isTopOf_6 0 rfl ?_
  cases u1 with
  | none =>
    refine j_nul_t C d_X_isTopOf_7 ?_
    refine j_iconst (v := 0) C d_X_isTopOf_22 (by decide) ?_
    obtain rfl := Option.some.inj hf
    exact j_zret C (Or.inl rfl) d_X_isTopOf_23
  | some e2 =>
    refine j_nul_f C d_X_isTopOf_7 ?_
    refine j_aload_n C d_X_isTopOf_10 0 rfl ?_
    refine j_gI C fl_X_126 (hu1 e2 rfl).2 (hu1 e2 rfl).1 rfl d_X_isTopOf_11 ?_
    refine j_iload_n C d_X_isTopOf_14 3 rfl ?_
    refine j_icmp_ne C d_X_isTopOf_15 hf (fun hf => ?_) (fun hf => ?_)
    · refine j_iconst (v := 0) C d_X_isTopOf_22 (by decide) ?_
      obtain rfl := Option.some.inj hf
      exact j_zret C (Or.inl rfl) d_X_isTopOf_23
    · refine j_iconst (v := 1) C d_X_isTopOf_18 (by decide) ?_
      refine j_goto C d_X_isTopOf_19 ?_
      obtain rfl := Option.some.inj hf
      exact j_zret C (Or.inr rfl) d_X_isTopOf_23
theorem d_X_topsOf_0 : DC b_X_topsOf 0 (.iconst 0) 1 1 := ⟨by decide +kernel, rfl⟩
theorem d_X_topsOf_1 : DC b_X_topsOf 1 (.istore_n 2) 1 2 := ⟨by decide +kernel, rfl⟩
theorem d_X_topsOf_2 : DC b_X_topsOf 2 (.iconst 0) 1 3 := ⟨by decide +kernel, rfl⟩
theorem d_X_topsOf_3 : DC b_X_topsOf 3 (.istore_n 3) 1 4 := ⟨by decide +kernel, rfl⟩
theorem d_X_topsOf_4 : DC b_X_topsOf 4 (.iload_n 3) 1 5 := ⟨by decide +kernel, rfl⟩
theorem d_X_topsOf_5 : DC b_X_topsOf 5 (.aload_n 0) 1 6 := ⟨by decide +kernel, rfl⟩
theorem d_X_topsOf_6 : DC b_X_topsOf 6 (.getfield 15) 3 9 := ⟨by decide +kernel, rfl⟩
theorem d_X_topsOf_9 : DB b_X_topsOf 9 (.if_icmp .ge 26) 26 35 12 := ⟨by decide +kernel, by decide, rfl⟩
theorem d_X_topsOf_12 : DC b_X_topsOf 12 (.iload_n 2) 1 13 := ⟨by decide +kernel, rfl⟩
theorem d_X_topsOf_13 : DC b_X_topsOf 13 (.aload_n 0) 1 14 := ⟨by decide +kernel, rfl⟩
theorem d_X_topsOf_14 : DC b_X_topsOf 14 (.iload_n 3) 1 15 := ⟨by decide +kernel, rfl⟩
theorem d_X_topsOf_15 : DC b_X_topsOf 15 (.iload_n 1) 1 16 := ⟨by decide +kernel, rfl⟩
theorem d_X_topsOf_16 : DC b_X_topsOf 16 (.invokevirtual 415) 3 19 := ⟨by decide +kernel, rfl⟩
theorem d_X_topsOf_19 : DB b_X_topsOf 19 (.ifCond .eq 7) 7 26 22 := ⟨by decide +kernel, by decide, rfl⟩
theorem d_X_topsOf_22 : DC b_X_topsOf 22 (.iconst 1) 1 23 := ⟨by decide +kernel, rfl⟩
theorem d_X_topsOf_23 : DB b_X_topsOf 23 (.goto 4) 4 27 26 := ⟨by decide +kernel, by decide, rfl⟩
theorem d_X_topsOf_26 : DC b_X_topsOf 26 (.iconst 0) 1 27 := ⟨by decide +kernel, rfl⟩
theorem d_X_topsOf_27 : DC b_X_topsOf 27 (.iadd) 1 28 := ⟨by decide +kernel, rfl⟩
theorem d_X_topsOf_28 : DC b_X_topsOf 28 (.istore_n 2) 1 29 := ⟨by decide +kernel, rfl⟩
theorem d_X_topsOf_29 : DC b_X_topsOf 29 (.iinc 3 1) 3 32 := ⟨by decide +kernel, rfl⟩
theorem d_X_topsOf_32 : DB b_X_topsOf 32 (.goto (-28)) (-28) 4 35 := ⟨by decide +kernel, by decide, rfl⟩
theorem d_X_topsOf_35 : DC b_X_topsOf 35 (.iload_n 2) 1 36 := ⟨by decide +kernel, rfl⟩
theorem d_X_topsOf_36 : decode b_X_topsOf 36 = .ok (.ireturn, 1) := by decide +kernel
theorem w_X_topsOf_b27 {X : Ctx} {Y : Lay} (hY : IsX Y) (C : Cx X Y b_X_topsOf 4 (some .int) "TopYard" 3) {N : Nat} {μ : Mem} {r : Int32} (k4 : Int32 → Int32 → Int32 → Option (Int32)) (hk4 : ∀ (x1 : Int32) (x2 : Int32) (x3 : Int32), k4 x1 x2 x3 = some r → J X Y (some (.int r)) μ 4 4 [(0, .ref (yad Y 0)), (1, .int x1), (2, .int x2), (3, .int x3)] [] μ) (x1 : Int32) (x3 : Int32) (xs0 : Int32) (xs1 : Int32) (hf : f_X_topsOf_b27 N μ k4 x1 x3 xs0 xs1 = some r) : J X Y (some (.int r)) μ 4 27 [(0, .ref (yad Y 0)), (1, .int x1), (3, .int x3)] [.int xs0, .int xs1] μ := by
  unfold f_X_topsOf_b27 at hf
  refine j_iadd C d_X_topsOf_27 ?_
  refine j_istore_nN (lvf := [(0, .ref (yad Y 0)), (1, .int x1), (3, .int x3)]) C d_X_topsOf_28 (by decide) rfl hf (fun v1 hf => ?_)
  refine j_iinc (lvf := [(2, .int v1), (0, .ref (yad Y 0)), (1, .int x1)]) (v := 1) C d_X_topsOf_29 3 rfl (by decide) (by decide) rfl hf (fun v2 hf => ?_)
  refine j_goto C d_X_topsOf_32 ?_
  refine j_sub [2, 3, 1, 0] rfl ?_
  exact hk4 x1 v1 v2 hf
theorem w_X_topsOf_l4 {X : Ctx} {Y : Lay} (hY : IsX Y) (C : Cx X Y b_X_topsOf 4 (some .int) "TopYard" 3) {N : Nat} {μ : Mem} {r : Int32} : ∀ (n : Nat) (x1 : Int32) (x2 : Int32) (x3 : Int32), f_X_topsOf_l4 N μ n x1 x2 x3 = some r → J X Y (some (.int r)) μ 4 4 [(0, .ref (yad Y 0)), (1, .int x1), (2, .int x2), (3, .int x3)] [] μ := by
  intro n
  induction n with
  | zero => intro x1 x2 x3 hf; rw [f_X_topsOf_l4] at hf; cases hf
  | succ n ih =>
    intro x1 x2 x3 hf
    rw [f_X_topsOf_l4] at hf
    refine j_iload_n C d_X_topsOf_4 3 rfl ?_
    refine j_aload_n C d_X_topsOf_5 0 rfl ?_
    refine j_gI C fl_X_15 (kX hY rfl) (nX hY (by decide)) rfl d_X_topsOf_6 ?_
    refine j_icmp_ge C d_X_topsOf_9 hf (fun hf => ?_) (fun hf => ?_)
    · refine j_iload_n C d_X_topsOf_35 2 rfl ?_
      obtain rfl := Option.some.inj hf
      exact j_iret C d_X_topsOf_36
    · refine j_iload_n C d_X_topsOf_12 2 rfl ?_
      refine j_aload_n C d_X_topsOf_13 0 rfl ?_
      refine j_iload_n C d_X_topsOf_14 3 rfl ?_
      refine j_iload_n C d_X_topsOf_15 1 rfl ?_
      refine bd hf (fun v1 hc2 hf => ?_)
      refine j_cV (rest := [.int x2]) C lk_X_415 (c_X_isTopOf hY hc2) rfl (kX hY rfl) (nX hY (by decide)) (by decide) rfl rfl (by decide) rfl (Nat.le_of_ble_eq_true rfl) d_X_topsOf_16 ?_
      refine j_if_eq C d_X_topsOf_19 hf (fun hf => ?_) (fun hf => ?_)
      · refine j_iconst (v := 0) C d_X_topsOf_26 (by decide) ?_
        refine j_sub [0, 1, 3] rfl ?_
        exact w_X_topsOf_b27 hY C (f_X_topsOf_l4 N μ n) ih x1 x3 0 x2 hf
      · refine j_iconst (v := 1) C d_X_topsOf_22 (by decide) ?_
        refine j_goto C d_X_topsOf_23 ?_
        refine j_sub [0, 1, 3] rfl ?_
        exact w_X_topsOf_b27 hY C (f_X_topsOf_l4 N μ n) ih x1 x3 1 x2 hf
theorem c_X_topsOf {l : Launch} {Y : Lay} (hY : IsX Y) {N : Nat} {μ : Mem} {x1 : Int32} {r : Int32} (hf : f_X_topsOf N μ x1 = some r) : Ct l Y y_X_topsOf b_X_topsOf 4 (some .int) 3 [.ref (yad Y 0), .int x1] (some (.int r)) μ μ := by
  refine ct_of (own := "TopYard") (lv := [(0, .ref (yad Y 0)), (1, .int x1)]) (by decide +kernel) rfl (Nat.le_of_ble_eq_true rfl) rfl (fun X hl C => ?_)
  subst hl
  unfold f_X_topsOf at hf
  refine j_iconst (v := 0) C d_X_topsOf_0 (by decide) ?_
  refine j_istore_n (lvf := [(0, .ref (yad Y 0)), (1, .int x1)]) C d_X_topsOf_1 (by decide) rfl ?_
  refine j_iconst (v := 0) C d_X_topsOf_2 (by decide) ?_
  refine j_istore_n (lvf := [(2, .int 0), (0, .ref (yad Y 0)), (1, .int x1)]) C d_X_topsOf_3 (by decide) rfl ?_
  refine j_sub [2, 3, 1, 0] rfl ?_
  exact w_X_topsOf_l4 hY C N x1 0 0 hf
theorem d_Ga_mostBouts_0 : DC b_Ga_mostBouts 0 (.aload_n 0) 1 1 := ⟨by decide +kernel, rfl⟩
theorem d_Ga_mostBouts_1 : DC b_Ga_mostBouts 1 (.getfield 19) 3 4 := ⟨by decide +kernel, rfl⟩
theorem d_Ga_mostBouts_4 : DC b_Ga_mostBouts 4 (.iconst 1) 1 5 := ⟨by decide +kernel, rfl⟩
theorem d_Ga_mostBouts_5 : DC b_Ga_mostBouts 5 (.iaload) 1 6 := ⟨by decide +kernel, rfl⟩
theorem d_Ga_mostBouts_6 : decode b_Ga_mostBouts 6 = .ok (.ireturn, 1) := by decide +kernel
theorem c_Ga_mostBouts {l : Launch} {Y : Lay} (hY : IsX Y) {μ : Mem} {r : Int32} (hf : f_Ga_mostBouts μ = some r) : Ct l Y y_Ga_mostBouts b_Ga_mostBouts 1 (some .int) 1 [.ref (yad Y 39)] (some (.int r)) μ μ := by
  refine ct_of (own := "TopYard$Game") (lv := [(0, .ref (yad Y 39))]) (by decide +kernel) rfl (Nat.le_of_ble_eq_true rfl) rfl (fun X hl C => ?_)
  subst hl
  unfold f_Ga_mostBouts at hf
  refine j_aload_n C d_Ga_mostBouts_0 0 rfl ?_
  refine j_gS (b := 41) C fl_Ga_19 (kX hY rfl) (nX hY (by decide)) rfl hY.2.2.2.1 rfl (sX hY rfl) d_Ga_mostBouts_1 ?_
  refine j_iconst (v := 1) C d_Ga_mostBouts_4 (by decide) ?_
  refine ck hf (fun hi1 hf => ?_)
  refine j_iald C (kX hY rfl) (nX hY (by decide)) (lX hY rfl) hi1 d_Ga_mostBouts_5 ?_
  obtain rfl := Option.some.inj hf
  exact j_iret C d_Ga_mostBouts_6
theorem d_Ga_winsNeeded_0 : DC b_Ga_winsNeeded 0 (.aload_n 0) 1 1 := ⟨by decide +kernel, rfl⟩
theorem d_Ga_winsNeeded_1 : DC b_Ga_winsNeeded 1 (.getfield 19) 3 4 := ⟨by decide +kernel, rfl⟩
theorem d_Ga_winsNeeded_4 : DC b_Ga_winsNeeded 4 (.iconst 0) 1 5 := ⟨by decide +kernel, rfl⟩
theorem d_Ga_winsNeeded_5 : DC b_Ga_winsNeeded 5 (.iaload) 1 6 := ⟨by decide +kernel, rfl⟩
theorem d_Ga_winsNeeded_6 : decode b_Ga_winsNeeded 6 = .ok (.ireturn, 1) := by decide +kernel
theorem c_Ga_winsNeeded {l : Launch} {Y : Lay} (hY : IsX Y) {μ : Mem} {r : Int32} (hf : f_Ga_winsNeeded μ = some r) : Ct l Y y_Ga_winsNeeded b_Ga_winsNeeded 1 (some .int) 1 [.ref (yad Y 39)] (some (.int r)) μ μ := by
  refine ct_of (own := "TopYard$Game") (lv := [(0, .ref (yad Y 39))]) (by decide +kernel) rfl (Nat.le_of_ble_eq_true rfl) rfl (fun X hl C => ?_)
  subst hl
  unfold f_Ga_winsNeeded at hf
  refine j_aload_n C d_Ga_winsNeeded_0 0 rfl ?_
  refine j_gS (b := 41) C fl_Ga_19 (kX hY rfl) (nX hY (by decide)) rfl hY.2.2.2.1 rfl (sX hY rfl) d_Ga_winsNeeded_1 ?_
  refine j_iconst (v := 0) C d_Ga_winsNeeded_4 (by decide) ?_
  refine ck hf (fun hi1 hf => ?_)
  refine j_iald C (kX hY rfl) (nX hY (by decide)) (lX hY rfl) hi1 d_Ga_winsNeeded_5 ?_
  obtain rfl := Option.some.inj hf
  exact j_iret C d_Ga_winsNeeded_6
theorem d_X_nthTopOf_0 : DC b_X_nthTopOf 0 (.iload_n 2) 1 1 := ⟨by decide +kernel, rfl⟩
theorem d_X_nthTopOf_1 : DC b_X_nthTopOf 1 (.istore_n 3) 1 2 := ⟨by decide +kernel, rfl⟩
theorem d_X_nthTopOf_2 : DC b_X_nthTopOf 2 (.iconst 0) 1 3 := ⟨by decide +kernel, rfl⟩
theorem d_X_nthTopOf_3 : DC b_X_nthTopOf 3 (.istore 4) 2 5 := ⟨by decide +kernel, rfl⟩
theorem d_X_nthTopOf_5 : DC b_X_nthTopOf 5 (.iload 4) 2 7 := ⟨by decide +kernel, rfl⟩
theorem d_X_nthTopOf_7 : DC b_X_nthTopOf 7 (.aload_n 0) 1 8 := ⟨by decide +kernel, rfl⟩
theorem d_X_nthTopOf_8 : DC b_X_nthTopOf 8 (.getfield 15) 3 11 := ⟨by decide +kernel, rfl⟩
theorem d_X_nthTopOf_11 : DB b_X_nthTopOf 11 (.if_icmp .ge 29) 29 40 14 := ⟨by decide +kernel, by decide, rfl⟩
theorem d_X_nthTopOf_14 : DC b_X_nthTopOf 14 (.aload_n 0) 1 15 := ⟨by decide +kernel, rfl⟩
theorem d_X_nthTopOf_15 : DC b_X_nthTopOf 15 (.iload 4) 2 17 := ⟨by decide +kernel, rfl⟩
theorem d_X_nthTopOf_17 : DC b_X_nthTopOf 17 (.iload_n 1) 1 18 := ⟨by decide +kernel, rfl⟩
theorem d_X_nthTopOf_18 : DC b_X_nthTopOf 18 (.invokevirtual 415) 3 21 := ⟨by decide +kernel, rfl⟩
theorem d_X_nthTopOf_21 : DB b_X_nthTopOf 21 (.ifCond .eq 13) 13 34 24 := ⟨by decide +kernel, by decide, rfl⟩
theorem d_X_nthTopOf_24 : DC b_X_nthTopOf 24 (.iload_n 3) 1 25 := ⟨by decide +kernel, rfl⟩
theorem d_X_nthTopOf_25 : DB b_X_nthTopOf 25 (.ifCond .ne 6) 6 31 28 := ⟨by decide +kernel, by decide, rfl⟩
theorem d_X_nthTopOf_28 : DC b_X_nthTopOf 28 (.iload 4) 2 30 := ⟨by decide +kernel, rfl⟩
theorem d_X_nthTopOf_30 : decode b_X_nthTopOf 30 = .ok (.ireturn, 1) := by decide +kernel
theorem d_X_nthTopOf_31 : DC b_X_nthTopOf 31 (.iinc 3 (-1)) 3 34 := ⟨by decide +kernel, rfl⟩
theorem d_X_nthTopOf_34 : DC b_X_nthTopOf 34 (.iinc 4 1) 3 37 := ⟨by decide +kernel, rfl⟩
theorem d_X_nthTopOf_37 : DB b_X_nthTopOf 37 (.goto (-32)) (-32) 5 40 := ⟨by decide +kernel, by decide, rfl⟩
theorem d_X_nthTopOf_40 : DC b_X_nthTopOf 40 (.iconst (-1)) 1 41 := ⟨by decide +kernel, rfl⟩
theorem d_X_nthTopOf_41 : decode b_X_nthTopOf 41 = .ok (.ireturn, 1) := by decide +kernel
theorem w_X_nthTopOf_b34 {X : Ctx} {Y : Lay} (hY : IsX Y) (C : Cx X Y b_X_nthTopOf 5 (some .int) "TopYard" 3) {N : Nat} {μ : Mem} {r : Int32} (k5 : Int32 → Int32 → Int32 → Option (Int32)) (hk5 : ∀ (x1 : Int32) (x3 : Int32) (x4 : Int32), k5 x1 x3 x4 = some r → J X Y (some (.int r)) μ 5 5 [(0, .ref (yad Y 0)), (1, .int x1), (3, .int x3), (4, .int x4)] [] μ) (x1 : Int32) (x3 : Int32) (x4 : Int32) (hf : f_X_nthTopOf_b34 N μ k5 x1 x3 x4 = some r) : J X Y (some (.int r)) μ 5 34 [(0, .ref (yad Y 0)), (1, .int x1), (3, .int x3), (4, .int x4)] [] μ := by
  unfold f_X_nthTopOf_b34 at hf
  refine j_iinc (lvf := [(0, .ref (yad Y 0)), (1, .int x1), (3, .int x3)]) (v := 1) C d_X_nthTopOf_34 3 rfl (by decide) (by decide) rfl hf (fun v1 hf => ?_)
  refine j_goto C d_X_nthTopOf_37 ?_
  refine j_sub [1, 2, 3, 0] rfl ?_
  exact hk5 x1 x3 v1 hf
theorem w_X_nthTopOf_l5 {X : Ctx} {Y : Lay} (hY : IsX Y) (C : Cx X Y b_X_nthTopOf 5 (some .int) "TopYard" 3) {N : Nat} {μ : Mem} {r : Int32} : ∀ (n : Nat) (x1 : Int32) (x3 : Int32) (x4 : Int32), f_X_nthTopOf_l5 N μ n x1 x3 x4 = some r → J X Y (some (.int r)) μ 5 5 [(0, .ref (yad Y 0)), (1, .int x1), (3, .int x3), (4, .int x4)] [] μ := by
  intro n
  induction n with
  | zero => intro x1 x3 x4 hf; rw [f_X_nthTopOf_l5] at hf; cases hf
  | succ n ih =>
    intro x1 x3 x4 hf
    rw [f_X_nthTopOf_l5] at hf
    refine j_iload C d_X_nthTopOf_5 3 rfl ?_
    refine j_aload_n C d_X_nthTopOf_7 0 rfl ?_
    refine j_gI C fl_X_15 (kX hY rfl) (nX hY (by decide)) rfl d_X_nthTopOf_8 ?_
    refine j_icmp_ge C d_X_nthTopOf_11 hf (fun hf => ?_) (fun hf => ?_)
    · refine j_iconst (v := (-1)) C d_X_nthTopOf_40 (by decide) ?_
      obtain rfl := Option.some.inj hf
      exact j_iret C d_X_nthTopOf_41
    · refine j_aload_n C d_X_nthTopOf_14 0 rfl ?_
      refine j_iload C d_X_nthTopOf_15 3 rfl ?_
      refine j_iload_n C d_X_nthTopOf_17 1 rfl ?_
      refine bd hf (fun v1 hc3 hf => ?_)
      refine j_cV (rest := []) C lk_X_415 (c_X_isTopOf hY hc3) rfl (kX hY rfl) (nX hY (by decide)) (by decide) rfl rfl (by decide) rfl (Nat.le_of_ble_eq_true rfl) d_X_nthTopOf_18 ?_
      refine j_if_eq C d_X_nthTopOf_21 hf (fun hf => ?_) (fun hf => ?_)
      · refine j_sub [0, 1, 2, 3] rfl ?_
        exact w_X_nthTopOf_b34 hY C (f_X_nthTopOf_l5 N μ n) ih x1 x3 x4 hf
      · refine j_iload_n C d_X_nthTopOf_24 2 rfl ?_
        refine j_if_ne C d_X_nthTopOf_25 hf (fun hf => ?_) (fun hf => ?_)
        · refine j_iinc (lvf := [(0, .ref (yad Y 0)), (1, .int x1), (4, .int x4)]) (v := (-1)) C d_X_nthTopOf_31 2 rfl (by decide) (by decide) rfl hf (fun v2 hf => ?_)
          refine j_sub [1, 2, 0, 3] rfl ?_
          exact w_X_nthTopOf_b34 hY C (f_X_nthTopOf_l5 N μ n) ih x1 v2 x4 hf
        · refine j_iload C d_X_nthTopOf_28 3 rfl ?_
          obtain rfl := Option.some.inj hf
          exact j_iret C d_X_nthTopOf_30
theorem c_X_nthTopOf {l : Launch} {Y : Lay} (hY : IsX Y) {N : Nat} {μ : Mem} {x1 : Int32} {x2 : Int32} {r : Int32} (hf : f_X_nthTopOf N μ x1 x2 = some r) : Ct l Y y_X_nthTopOf b_X_nthTopOf 5 (some .int) 3 [.ref (yad Y 0), .int x1, .int x2] (some (.int r)) μ μ := by
  refine ct_of (own := "TopYard") (lv := [(0, .ref (yad Y 0)), (1, .int x1), (2, .int x2)]) (by decide +kernel) rfl (Nat.le_of_ble_eq_true rfl) rfl (fun X hl C => ?_)
  subst hl
  unfold f_X_nthTopOf at hf
  refine j_iload_n C d_X_nthTopOf_0 2 rfl ?_
  refine j_istore_n (lvf := [(0, .ref (yad Y 0)), (1, .int x1), (2, .int x2)]) C d_X_nthTopOf_1 (by decide) rfl ?_
  refine j_iconst (v := 0) C d_X_nthTopOf_2 (by decide) ?_
  refine j_istore (lvf := [(3, .int x2), (0, .ref (yad Y 0)), (1, .int x1), (2, .int x2)]) C d_X_nthTopOf_3 (by decide) rfl ?_
  refine j_sub [2, 3, 1, 0] rfl ?_
  exact w_X_nthTopOf_l5 hY C N x1 x2 0 hf
theorem d_Ga_turns_0 : DC b_Ga_turns 0 (.aload_n 0) 1 1 := ⟨by decide +kernel, rfl⟩
theorem d_Ga_turns_1 : DC b_Ga_turns 1 (.getfield 19) 3 4 := ⟨by decide +kernel, rfl⟩
theorem d_Ga_turns_4 : DC b_Ga_turns 4 (.iconst 3) 1 5 := ⟨by decide +kernel, rfl⟩
theorem d_Ga_turns_5 : DC b_Ga_turns 5 (.iaload) 1 6 := ⟨by decide +kernel, rfl⟩
theorem d_Ga_turns_6 : decode b_Ga_turns 6 = .ok (.ireturn, 1) := by decide +kernel
theorem c_Ga_turns {l : Launch} {Y : Lay} (hY : IsX Y) {μ : Mem} {r : Int32} (hf : f_Ga_turns μ = some r) : Ct l Y y_Ga_turns b_Ga_turns 1 (some .int) 1 [.ref (yad Y 39)] (some (.int r)) μ μ := by
  refine ct_of (own := "TopYard$Game") (lv := [(0, .ref (yad Y 39))]) (by decide +kernel) rfl (Nat.le_of_ble_eq_true rfl) rfl (fun X hl C => ?_)
  subst hl
  unfold f_Ga_turns at hf
  refine j_aload_n C d_Ga_turns_0 0 rfl ?_
  refine j_gS (b := 41) C fl_Ga_19 (kX hY rfl) (nX hY (by decide)) rfl hY.2.2.2.1 rfl (sX hY rfl) d_Ga_turns_1 ?_
  refine j_iconst (v := 3) C d_Ga_turns_4 (by decide) ?_
  refine ck hf (fun hi1 hf => ?_)
  refine j_iald C (kX hY rfl) (nX hY (by decide)) (lX hY rfl) hi1 d_Ga_turns_5 ?_
  obtain rfl := Option.some.inj hf
  exact j_iret C d_Ga_turns_6
theorem d_Ga_ring_0 : DC b_Ga_ring 0 (.aload_n 0) 1 1 := ⟨by decide +kernel, rfl⟩
theorem d_Ga_ring_1 : DC b_Ga_ring 1 (.getfield 19) 3 4 := ⟨by decide +kernel, rfl⟩
theorem d_Ga_ring_4 : DC b_Ga_ring 4 (.iconst 2) 1 5 := ⟨by decide +kernel, rfl⟩
theorem d_Ga_ring_5 : DC b_Ga_ring 5 (.iaload) 1 6 := ⟨by decide +kernel, rfl⟩
theorem d_Ga_ring_6 : decode b_Ga_ring 6 = .ok (.ireturn, 1) := by decide +kernel
theorem c_Ga_ring {l : Launch} {Y : Lay} (hY : IsX Y) {μ : Mem} {r : Int32} (hf : f_Ga_ring μ = some r) : Ct l Y y_Ga_ring b_Ga_ring 1 (some .int) 1 [.ref (yad Y 39)] (some (.int r)) μ μ := by
  refine ct_of (own := "TopYard$Game") (lv := [(0, .ref (yad Y 39))]) (by decide +kernel) rfl (Nat.le_of_ble_eq_true rfl) rfl (fun X hl C => ?_)
  subst hl
  unfold f_Ga_ring at hf
  refine j_aload_n C d_Ga_ring_0 0 rfl ?_
  refine j_gS (b := 41) C fl_Ga_19 (kX hY rfl) (nX hY (by decide)) rfl hY.2.2.2.1 rfl (sX hY rfl) d_Ga_ring_1 ?_
  refine j_iconst (v := 2) C d_Ga_ring_4 (by decide) ?_
  refine ck hf (fun hi1 hf => ?_)
  refine j_iald C (kX hY rfl) (nX hY (by decide)) (lX hY rfl) hi1 d_Ga_ring_5 ?_
  obtain rfl := Option.some.inj hf
  exact j_iret C d_Ga_ring_6
theorem d_X_playBouts_0 : DC b_X_playBouts 0 (.iconst 1) 1 1 := ⟨by decide +kernel, rfl⟩
theorem d_X_playBouts_1 : DC b_X_playBouts 1 (.aload_n 0) 1 2 := ⟨by decide +kernel, rfl⟩
theorem d_X_playBouts_2 : DC b_X_playBouts 2 (.iload_n 1) 1 3 := ⟨by decide +kernel, rfl⟩
theorem d_X_playBouts_3 : DC b_X_playBouts 3 (.invokevirtual 308) 3 6 := ⟨by decide +kernel, rfl⟩
theorem d_X_playBouts_6 : DC b_X_playBouts 6 (.invokestatic 418) 3 9 := ⟨by decide +kernel, rfl⟩
theorem d_X_playBouts_9 : DC b_X_playBouts 9 (.istore_n 3) 1 10 := ⟨by decide +kernel, rfl⟩
theorem d_X_playBouts_10 : DC b_X_playBouts 10 (.iconst 1) 1 11 := ⟨by decide +kernel, rfl⟩
theorem d_X_playBouts_11 : DC b_X_playBouts 11 (.aload_n 0) 1 12 := ⟨by decide +kernel, rfl⟩
theorem d_X_playBouts_12 : DC b_X_playBouts 12 (.iload_n 2) 1 13 := ⟨by decide +kernel, rfl⟩
theorem d_X_playBouts_13 : DC b_X_playBouts 13 (.invokevirtual 308) 3 16 := ⟨by decide +kernel, rfl⟩
theorem d_X_playBouts_16 : DC b_X_playBouts 16 (.invokestatic 418) 3 19 := ⟨by decide +kernel, rfl⟩
theorem d_X_playBouts_19 : DC b_X_playBouts 19 (.istore 4) 2 21 := ⟨by decide +kernel, rfl⟩
theorem d_X_playBouts_21 : DC b_X_playBouts 21 (.iconst 0) 1 22 := ⟨by decide +kernel, rfl⟩
theorem d_X_playBouts_22 : DC b_X_playBouts 22 (.istore 5) 2 24 := ⟨by decide +kernel, rfl⟩
theorem d_X_playBouts_24 : DC b_X_playBouts 24 (.iconst 0) 1 25 := ⟨by decide +kernel, rfl⟩
theorem d_X_playBouts_25 : DC b_X_playBouts 25 (.istore 6) 2 27 := ⟨by decide +kernel, rfl⟩
theorem d_X_playBouts_27 : DC b_X_playBouts 27 (.iconst 0) 1 28 := ⟨by decide +kernel, rfl⟩
theorem d_X_playBouts_28 : DC b_X_playBouts 28 (.istore 7) 2 30 := ⟨by decide +kernel, rfl⟩
theorem d_X_playBouts_30 : DC b_X_playBouts 30 (.iload 7) 2 32 := ⟨by decide +kernel, rfl⟩
theorem d_X_playBouts_32 : DC b_X_playBouts 32 (.aload_n 0) 1 33 := ⟨by decide +kernel, rfl⟩
theorem d_X_playBouts_33 : DC b_X_playBouts 33 (.getfield 57) 3 36 := ⟨by decide +kernel, rfl⟩
theorem d_X_playBouts_36 : DC b_X_playBouts 36 (.invokevirtual 421) 3 39 := ⟨by decide +kernel, rfl⟩
theorem d_X_playBouts_39 : DB b_X_playBouts 39 (.if_icmp .ge 138) 138 177 42 := ⟨by decide +kernel, by decide, rfl⟩
theorem d_X_playBouts_42 : DC b_X_playBouts 42 (.iload 5) 2 44 := ⟨by decide +kernel, rfl⟩
theorem d_X_playBouts_44 : DC b_X_playBouts 44 (.aload_n 0) 1 45 := ⟨by decide +kernel, rfl⟩
theorem d_X_playBouts_45 : DC b_X_playBouts 45 (.getfield 57) 3 48 := ⟨by decide +kernel, rfl⟩
theorem d_X_playBouts_48 : DC b_X_playBouts 48 (.invokevirtual 424) 3 51 := ⟨by decide +kernel, rfl⟩
theorem d_X_playBouts_51 : DB b_X_playBouts 51 (.if_icmp .ge 126) 126 177 54 := ⟨by decide +kernel, by decide, rfl⟩
theorem d_X_playBouts_54 : DC b_X_playBouts 54 (.iload 6) 2 56 := ⟨by decide +kernel, rfl⟩
theorem d_X_playBouts_56 : DC b_X_playBouts 56 (.aload_n 0) 1 57 := ⟨by decide +kernel, rfl⟩
theorem d_X_playBouts_57 : DC b_X_playBouts 57 (.getfield 57) 3 60 := ⟨by decide +kernel, rfl⟩
theorem d_X_playBouts_60 : DC b_X_playBouts 60 (.invokevirtual 424) 3 63 := ⟨by decide +kernel, rfl⟩
theorem d_X_playBouts_63 : DB b_X_playBouts 63 (.if_icmp .ge 114) 114 177 66 := ⟨by decide +kernel, by decide, rfl⟩
theorem d_X_playBouts_66 : DC b_X_playBouts 66 (.aload_n 0) 1 67 := ⟨by decide +kernel, rfl⟩
theorem d_X_playBouts_67 : DC b_X_playBouts 67 (.aload_n 0) 1 68 := ⟨by decide +kernel, rfl⟩
theorem d_X_playBouts_68 : DC b_X_playBouts 68 (.iload_n 1) 1 69 := ⟨by decide +kernel, rfl⟩
theorem d_X_playBouts_69 : DC b_X_playBouts 69 (.iload 7) 2 71 := ⟨by decide +kernel, rfl⟩
theorem d_X_playBouts_71 : DC b_X_playBouts 71 (.iload_n 3) 1 72 := ⟨by decide +kernel, rfl⟩
theorem d_X_playBouts_72 : DC b_X_playBouts 72 (.irem) 1 73 := ⟨by decide +kernel, rfl⟩
theorem d_X_playBouts_73 : DC b_X_playBouts 73 (.invokevirtual 427) 3 76 := ⟨by decide +kernel, rfl⟩
theorem d_X_playBouts_76 : DC b_X_playBouts 76 (.aload_n 0) 1 77 := ⟨by decide +kernel, rfl⟩
theorem d_X_playBouts_77 : DC b_X_playBouts 77 (.iload_n 2) 1 78 := ⟨by decide +kernel, rfl⟩
theorem d_X_playBouts_78 : DC b_X_playBouts 78 (.iload 7) 2 80 := ⟨by decide +kernel, rfl⟩
theorem d_X_playBouts_80 : DC b_X_playBouts 80 (.iload 4) 2 82 := ⟨by decide +kernel, rfl⟩
theorem d_X_playBouts_82 : DC b_X_playBouts 82 (.irem) 1 83 := ⟨by decide +kernel, rfl⟩
theorem d_X_playBouts_83 : DC b_X_playBouts 83 (.invokevirtual 427) 3 86 := ⟨by decide +kernel, rfl⟩
theorem d_X_playBouts_86 : DC b_X_playBouts 86 (.aload_n 0) 1 87 := ⟨by decide +kernel, rfl⟩
theorem d_X_playBouts_87 : DC b_X_playBouts 87 (.getfield 57) 3 90 := ⟨by decide +kernel, rfl⟩
theorem d_X_playBouts_90 : DC b_X_playBouts 90 (.invokevirtual 430) 3 93 := ⟨by decide +kernel, rfl⟩
theorem d_X_playBouts_93 : DC b_X_playBouts 93 (.aload_n 0) 1 94 := ⟨by decide +kernel, rfl⟩
theorem d_X_playBouts_94 : DC b_X_playBouts 94 (.getfield 57) 3 97 := ⟨by decide +kernel, rfl⟩
theorem d_X_playBouts_97 : DC b_X_playBouts 97 (.invokevirtual 433) 3 100 := ⟨by decide +kernel, rfl⟩
theorem d_X_playBouts_100 : DC b_X_playBouts 100 (.invokevirtual 239) 3 103 := ⟨by decide +kernel, rfl⟩
theorem d_X_playBouts_103 : DC b_X_playBouts 103 (.istore 8) 2 105 := ⟨by decide +kernel, rfl⟩
theorem d_X_playBouts_105 : DC b_X_playBouts 105 (.iload 5) 2 107 := ⟨by decide +kernel, rfl⟩
theorem d_X_playBouts_107 : DC b_X_playBouts 107 (.iload 8) 2 109 := ⟨by decide +kernel, rfl⟩
theorem d_X_playBouts_109 : DB b_X_playBouts 109 (.ifCond .le 7) 7 116 112 := ⟨by decide +kernel, by decide, rfl⟩
theorem d_X_playBouts_112 : DC b_X_playBouts 112 (.iconst 1) 1 113 := ⟨by decide +kernel, rfl⟩
theorem d_X_playBouts_113 : DB b_X_playBouts 113 (.goto 4) 4 117 116 := ⟨by decide +kernel, by decide, rfl⟩
theorem d_X_playBouts_116 : DC b_X_playBouts 116 (.iconst 0) 1 117 := ⟨by decide +kernel, rfl⟩
theorem d_X_playBouts_117 : DC b_X_playBouts 117 (.iadd) 1 118 := ⟨by decide +kernel, rfl⟩
theorem d_X_playBouts_118 : DC b_X_playBouts 118 (.istore 5) 2 120 := ⟨by decide +kernel, rfl⟩
theorem d_X_playBouts_120 : DC b_X_playBouts 120 (.iload 6) 2 122 := ⟨by decide +kernel, rfl⟩
theorem d_X_playBouts_122 : DC b_X_playBouts 122 (.iload 8) 2 124 := ⟨by decide +kernel, rfl⟩
theorem d_X_playBouts_124 : DB b_X_playBouts 124 (.ifCond .ge 7) 7 131 127 := ⟨by decide +kernel, by decide, rfl⟩
theorem d_X_playBouts_127 : DC b_X_playBouts 127 (.iconst 1) 1 128 := ⟨by decide +kernel, rfl⟩
theorem d_X_playBouts_128 : DB b_X_playBouts 128 (.goto 4) 4 132 131 := ⟨by decide +kernel, by decide, rfl⟩
theorem d_X_playBouts_131 : DC b_X_playBouts 131 (.iconst 0) 1 132 := ⟨by decide +kernel, rfl⟩
theorem d_X_playBouts_132 : DC b_X_playBouts 132 (.iadd) 1 133 := ⟨by decide +kernel, rfl⟩
theorem d_X_playBouts_133 : DC b_X_playBouts 133 (.istore 6) 2 135 := ⟨by decide +kernel, rfl⟩
theorem d_X_playBouts_135 : DC b_X_playBouts 135 (.aload_n 0) 1 136 := ⟨by decide +kernel, rfl⟩
theorem d_X_playBouts_136 : DC b_X_playBouts 136 (.getfield 26) 3 139 := ⟨by decide +kernel, rfl⟩
theorem d_X_playBouts_139 : DC b_X_playBouts 139 (.iload_n 1) 1 140 := ⟨by decide +kernel, rfl⟩
theorem d_X_playBouts_140 : DC b_X_playBouts 140 (.iconst 0) 1 141 := ⟨by decide +kernel, rfl⟩
theorem d_X_playBouts_141 : DC b_X_playBouts 141 (.aload_n 0) 1 142 := ⟨by decide +kernel, rfl⟩
theorem d_X_playBouts_142 : DC b_X_playBouts 142 (.getfield 26) 3 145 := ⟨by decide +kernel, rfl⟩
theorem d_X_playBouts_145 : DC b_X_playBouts 145 (.iload_n 1) 1 146 := ⟨by decide +kernel, rfl⟩
theorem d_X_playBouts_146 : DC b_X_playBouts 146 (.iaload) 1 147 := ⟨by decide +kernel, rfl⟩
theorem d_X_playBouts_147 : DC b_X_playBouts 147 (.iconst 1) 1 148 := ⟨by decide +kernel, rfl⟩
theorem d_X_playBouts_148 : DC b_X_playBouts 148 (.isub) 1 149 := ⟨by decide +kernel, rfl⟩
theorem d_X_playBouts_149 : DC b_X_playBouts 149 (.invokestatic 418) 3 152 := ⟨by decide +kernel, rfl⟩
theorem d_X_playBouts_152 : DC b_X_playBouts 152 (.iastore) 1 153 := ⟨by decide +kernel, rfl⟩
theorem d_X_playBouts_153 : DC b_X_playBouts 153 (.aload_n 0) 1 154 := ⟨by decide +kernel, rfl⟩
theorem d_X_playBouts_154 : DC b_X_playBouts 154 (.getfield 26) 3 157 := ⟨by decide +kernel, rfl⟩
theorem d_X_playBouts_157 : DC b_X_playBouts 157 (.iload_n 2) 1 158 := ⟨by decide +kernel, rfl⟩
theorem d_X_playBouts_158 : DC b_X_playBouts 158 (.iconst 0) 1 159 := ⟨by decide +kernel, rfl⟩
theorem d_X_playBouts_159 : DC b_X_playBouts 159 (.aload_n 0) 1 160 := ⟨by decide +kernel, rfl⟩
theorem d_X_playBouts_160 : DC b_X_playBouts 160 (.getfield 26) 3 163 := ⟨by decide +kernel, rfl⟩
theorem d_X_playBouts_163 : DC b_X_playBouts 163 (.iload_n 2) 1 164 := ⟨by decide +kernel, rfl⟩
theorem d_X_playBouts_164 : DC b_X_playBouts 164 (.iaload) 1 165 := ⟨by decide +kernel, rfl⟩
theorem d_X_playBouts_165 : DC b_X_playBouts 165 (.iconst 1) 1 166 := ⟨by decide +kernel, rfl⟩
theorem d_X_playBouts_166 : DC b_X_playBouts 166 (.isub) 1 167 := ⟨by decide +kernel, rfl⟩
theorem d_X_playBouts_167 : DC b_X_playBouts 167 (.invokestatic 418) 3 170 := ⟨by decide +kernel, rfl⟩
theorem d_X_playBouts_170 : DC b_X_playBouts 170 (.iastore) 1 171 := ⟨by decide +kernel, rfl⟩
theorem d_X_playBouts_171 : DC b_X_playBouts 171 (.iinc 7 1) 3 174 := ⟨by decide +kernel, rfl⟩
theorem d_X_playBouts_174 : DB b_X_playBouts 174 (.goto (-144)) (-144) 30 177 := ⟨by decide +kernel, by decide, rfl⟩
theorem d_X_playBouts_177 : DC b_X_playBouts 177 (.aload_n 0) 1 178 := ⟨by decide +kernel, rfl⟩
theorem d_X_playBouts_178 : DC b_X_playBouts 178 (.getfield 61) 3 181 := ⟨by decide +kernel, rfl⟩
theorem d_X_playBouts_181 : DC b_X_playBouts 181 (.iconst 0) 1 182 := ⟨by decide +kernel, rfl⟩
theorem d_X_playBouts_182 : DC b_X_playBouts 182 (.iload 7) 2 184 := ⟨by decide +kernel, rfl⟩
theorem d_X_playBouts_184 : DC b_X_playBouts 184 (.iastore) 1 185 := ⟨by decide +kernel, rfl⟩
theorem d_X_playBouts_185 : DC b_X_playBouts 185 (.aload_n 0) 1 186 := ⟨by decide +kernel, rfl⟩
theorem d_X_playBouts_186 : DC b_X_playBouts 186 (.getfield 61) 3 189 := ⟨by decide +kernel, rfl⟩
theorem d_X_playBouts_189 : DC b_X_playBouts 189 (.iconst 1) 1 190 := ⟨by decide +kernel, rfl⟩
theorem d_X_playBouts_190 : DC b_X_playBouts 190 (.iload 5) 2 192 := ⟨by decide +kernel, rfl⟩
theorem d_X_playBouts_192 : DC b_X_playBouts 192 (.iastore) 1 193 := ⟨by decide +kernel, rfl⟩
theorem d_X_playBouts_193 : DC b_X_playBouts 193 (.aload_n 0) 1 194 := ⟨by decide +kernel, rfl⟩
theorem d_X_playBouts_194 : DC b_X_playBouts 194 (.getfield 61) 3 197 := ⟨by decide +kernel, rfl⟩
theorem d_X_playBouts_197 : DC b_X_playBouts 197 (.iconst 2) 1 198 := ⟨by decide +kernel, rfl⟩
theorem d_X_playBouts_198 : DC b_X_playBouts 198 (.iload 6) 2 200 := ⟨by decide +kernel, rfl⟩
theorem d_X_playBouts_200 : DC b_X_playBouts 200 (.iastore) 1 201 := ⟨by decide +kernel, rfl⟩
theorem d_X_playBouts_201 : decode b_X_playBouts 201 = .ok (.return_, 1) := by decide +kernel
theorem w_X_playBouts_b132 {X : Ctx} {Y : Lay} (hY : IsX Y) (C : Cx X Y b_X_playBouts 9 none "TopYard" 7) {N : Nat} {r : Mem} (k30 : Int32 → Int32 → Int32 → Int32 → Int32 → Int32 → Int32 → Mem → Option (Mem)) (hk30 : ∀ (x1 : Int32) (x2 : Int32) (x3 : Int32) (x4 : Int32) (x5 : Int32) (x6 : Int32) (x7 : Int32) (ν : Mem), k30 x1 x2 x3 x4 x5 x6 x7 ν = some r → J X Y none r 9 30 [(0, .ref (yad Y 0)), (1, .int x1), (2, .int x2), (3, .int x3), (4, .int x4), (5, .int x5), (6, .int x6), (7, .int x7)] [] ν) (x1 : Int32) (x2 : Int32) (x3 : Int32) (x4 : Int32) (x5 : Int32) (x7 : Int32) (xs0 : Int32) (xs1 : Int32) (μ : Mem) (hf : f_X_playBouts_b132 N k30 x1 x2 x3 x4 x5 x7 xs0 xs1 μ = some r) : J X Y none r 9 132 [(0, .ref (yad Y 0)), (1, .int x1), (2, .int x2), (3, .int x3), (4, .int x4), (5, .int x5), (7, .int x7)] [.int xs0, .int xs1] μ := by
  unfold f_X_playBouts_b132 at hf
  refine j_iadd C d_X_playBouts_132 ?_
  refine j_istoreN (lvf := [(0, .ref (yad Y 0)), (1, .int x1), (2, .int x2), (3, .int x3), (4, .int x4), (5, .int x5), (7, .int x7)]) C d_X_playBouts_133 (by decide) rfl hf (fun v1 hf => ?_)
  refine j_aload_n C d_X_playBouts_135 1 rfl ?_
  refine j_gS (b := 4) C fl_X_26 (kX hY rfl) (nX hY (by decide)) rfl hY.2.2.2.1 rfl (sX hY rfl) d_X_playBouts_136 ?_
  refine j_iload_n C d_X_playBouts_139 2 rfl ?_
  refine j_iconst (v := 0) C d_X_playBouts_140 (by decide) ?_
  refine j_aload_n C d_X_playBouts_141 1 rfl ?_
  refine j_gS (b := 4) C fl_X_26 (kX hY rfl) (nX hY (by decide)) rfl hY.2.2.2.1 rfl (sX hY rfl) d_X_playBouts_142 ?_
  refine j_iload_n C d_X_playBouts_145 2 rfl ?_
  refine ck hf (fun hi2 hf => ?_)
  refine j_iald C (kX hY rfl) (nX hY (by decide)) (lX hY rfl) hi2 d_X_playBouts_146 ?_
  refine j_iconst (v := 1) C d_X_playBouts_147 (by decide) ?_
  refine j_isub C d_X_playBouts_148 ?_
  refine bd hf (fun v3 hc12 hf => ?_)
  refine j_cS (rest := [.int x1, .ref (yad Y 4)]) C lk_X_418 (c_JM_max1 hY hc12) rfl (by decide) rfl (Nat.le_of_ble_eq_true rfl) d_X_playBouts_149 ?_
  refine ck hf (fun hi4 hf => ?_)
  refine j_iast C (kX hY rfl) (nX hY (by decide)) (lX hY rfl) hi4 d_X_playBouts_152 hf (fun μ5 hf => ?_)
  refine j_aload_n C d_X_playBouts_153 1 rfl ?_
  refine j_gS (b := 4) C fl_X_26 (kX hY rfl) (nX hY (by decide)) rfl hY.2.2.2.1 rfl (sX hY rfl) d_X_playBouts_154 ?_
  refine j_iload_n C d_X_playBouts_157 3 rfl ?_
  refine j_iconst (v := 0) C d_X_playBouts_158 (by decide) ?_
  refine j_aload_n C d_X_playBouts_159 1 rfl ?_
  refine j_gS (b := 4) C fl_X_26 (kX hY rfl) (nX hY (by decide)) rfl hY.2.2.2.1 rfl (sX hY rfl) d_X_playBouts_160 ?_
  refine j_iload_n C d_X_playBouts_163 3 rfl ?_
  refine ck hf (fun hi6 hf => ?_)
  refine j_iald C (kX hY rfl) (nX hY (by decide)) (lX hY rfl) hi6 d_X_playBouts_164 ?_
  refine j_iconst (v := 1) C d_X_playBouts_165 (by decide) ?_
  refine j_isub C d_X_playBouts_166 ?_
  refine bd hf (fun v7 hc11 hf => ?_)
  refine j_cS (rest := [.int x2, .ref (yad Y 4)]) C lk_X_418 (c_JM_max1 hY hc11) rfl (by decide) rfl (Nat.le_of_ble_eq_true rfl) d_X_playBouts_167 ?_
  refine ck hf (fun hi8 hf => ?_)
  refine j_iast C (kX hY rfl) (nX hY (by decide)) (lX hY rfl) hi8 d_X_playBouts_170 hf (fun μ9 hf => ?_)
  refine j_iinc (lvf := [(6, .int v1), (0, .ref (yad Y 0)), (1, .int x1), (2, .int x2), (3, .int x3), (4, .int x4), (5, .int x5)]) (v := 1) C d_X_playBouts_171 7 rfl (by decide) (by decide) rfl hf (fun v10 hf => ?_)
  refine j_goto C d_X_playBouts_174 ?_
  refine j_sub [2, 3, 4, 5, 6, 7, 1, 0] rfl ?_
  exact hk30 x1 x2 x3 x4 x5 v1 v10 μ9 hf
theorem w_X_playBouts_b117 {X : Ctx} {Y : Lay} (hY : IsX Y) (C : Cx X Y b_X_playBouts 9 none "TopYard" 7) {N : Nat} {r : Mem} (k30 : Int32 → Int32 → Int32 → Int32 → Int32 → Int32 → Int32 → Mem → Option (Mem)) (hk30 : ∀ (x1 : Int32) (x2 : Int32) (x3 : Int32) (x4 : Int32) (x5 : Int32) (x6 : Int32) (x7 : Int32) (ν : Mem), k30 x1 x2 x3 x4 x5 x6 x7 ν = some r → J X Y none r 9 30 [(0, .ref (yad Y 0)), (1, .int x1), (2, .int x2), (3, .int x3), (4, .int x4), (5, .int x5), (6, .int x6), (7, .int x7)] [] ν) (x1 : Int32) (x2 : Int32) (x3 : Int32) (x4 : Int32) (x6 : Int32) (x7 : Int32) (x8 : Int32) (xs0 : Int32) (xs1 : Int32) (μ : Mem) (hf : f_X_playBouts_b117 N k30 x1 x2 x3 x4 x6 x7 x8 xs0 xs1 μ = some r) : J X Y none r 9 117 [(0, .ref (yad Y 0)), (1, .int x1), (2, .int x2), (3, .int x3), (4, .int x4), (6, .int x6), (7, .int x7), (8, .int x8)] [.int xs0, .int xs1] μ := by
  unfold f_X_playBouts_b117 at hf
  refine j_iadd C d_X_playBouts_117 ?_
  refine j_istoreN (lvf := [(0, .ref (yad Y 0)), (1, .int x1), (2, .int x2), (3, .int x3), (4, .int x4), (6, .int x6), (7, .int x7), (8, .int x8)]) C d_X_playBouts_118 (by decide) rfl hf (fun v1 hf => ?_)
  refine j_iload C d_X_playBouts_120 6 rfl ?_
  refine j_iload C d_X_playBouts_122 8 rfl ?_
  refine j_if_ge C d_X_playBouts_124 hf (fun hf => ?_) (fun hf => ?_)
  · refine j_iconst (v := 0) C d_X_playBouts_131 (by decide) ?_
    refine j_sub [1, 2, 3, 4, 5, 0, 7] rfl ?_
    exact w_X_playBouts_b132 hY C k30 hk30 x1 x2 x3 x4 v1 x7 0 x6 μ hf
  · refine j_iconst (v := 1) C d_X_playBouts_127 (by decide) ?_
    refine j_goto C d_X_playBouts_128 ?_
    refine j_sub [1, 2, 3, 4, 5, 0, 7] rfl ?_
    exact w_X_playBouts_b132 hY C k30 hk30 x1 x2 x3 x4 v1 x7 1 x6 μ hf
theorem w_X_playBouts_b177 {X : Ctx} {Y : Lay} (hY : IsX Y) (C : Cx X Y b_X_playBouts 9 none "TopYard" 7) {N : Nat} {r : Mem} (x5 : Int32) (x6 : Int32) (x7 : Int32) (μ : Mem) (hf : f_X_playBouts_b177 N x5 x6 x7 μ = some r) : J X Y none r 9 177 [(0, .ref (yad Y 0)), (5, .int x5), (6, .int x6), (7, .int x7)] [] μ := by
  unfold f_X_playBouts_b177 at hf
  refine j_aload_n C d_X_playBouts_177 0 rfl ?_
  refine j_gS (b := 42) C fl_X_61 (kX hY rfl) (nX hY (by decide)) rfl hY.2.2.2.1 rfl (sX hY rfl) d_X_playBouts_178 ?_
  refine j_iconst (v := 0) C d_X_playBouts_181 (by decide) ?_
  refine j_iload C d_X_playBouts_182 3 rfl ?_
  refine ck hf (fun hi1 hf => ?_)
  refine j_iast C (kX hY rfl) (nX hY (by decide)) (lX hY rfl) hi1 d_X_playBouts_184 hf (fun μ2 hf => ?_)
  refine j_aload_n C d_X_playBouts_185 0 rfl ?_
  refine j_gS (b := 42) C fl_X_61 (kX hY rfl) (nX hY (by decide)) rfl hY.2.2.2.1 rfl (sX hY rfl) d_X_playBouts_186 ?_
  refine j_iconst (v := 1) C d_X_playBouts_189 (by decide) ?_
  refine j_iload C d_X_playBouts_190 1 rfl ?_
  refine ck hf (fun hi3 hf => ?_)
  refine j_iast C (kX hY rfl) (nX hY (by decide)) (lX hY rfl) hi3 d_X_playBouts_192 hf (fun μ4 hf => ?_)
  refine j_aload_n C d_X_playBouts_193 0 rfl ?_
  refine j_gS (b := 42) C fl_X_61 (kX hY rfl) (nX hY (by decide)) rfl hY.2.2.2.1 rfl (sX hY rfl) d_X_playBouts_194 ?_
  refine j_iconst (v := 2) C d_X_playBouts_197 (by decide) ?_
  refine j_iload C d_X_playBouts_198 2 rfl ?_
  refine ck hf (fun hi5 hf => ?_)
  refine j_iast C (kX hY rfl) (nX hY (by decide)) (lX hY rfl) hi5 d_X_playBouts_200 hf (fun μ6 hf => ?_)
  obtain rfl := Option.some.inj hf
  exact j_vret C d_X_playBouts_201
theorem w_X_playBouts_l30 {X : Ctx} {Y : Lay} (hY : IsX Y) (C : Cx X Y b_X_playBouts 9 none "TopYard" 7) {N : Nat} {r : Mem} : ∀ (n : Nat) (x1 : Int32) (x2 : Int32) (x3 : Int32) (x4 : Int32) (x5 : Int32) (x6 : Int32) (x7 : Int32) (μ : Mem), f_X_playBouts_l30 N n x1 x2 x3 x4 x5 x6 x7 μ = some r → J X Y none r 9 30 [(0, .ref (yad Y 0)), (1, .int x1), (2, .int x2), (3, .int x3), (4, .int x4), (5, .int x5), (6, .int x6), (7, .int x7)] [] μ := by
  intro n
  induction n with
  | zero => intro x1 x2 x3 x4 x5 x6 x7 μ hf; rw [f_X_playBouts_l30] at hf; cases hf
  | succ n ih =>
    intro x1 x2 x3 x4 x5 x6 x7 μ hf
    rw [f_X_playBouts_l30] at hf
    refine j_iload C d_X_playBouts_30 7 rfl ?_
    refine j_aload_n C d_X_playBouts_32 0 rfl ?_
    refine j_gS (b := 39) C fl_X_57 (kX hY rfl) (nX hY (by decide)) rfl hY.2.2.2.1 rfl (sX hY rfl) d_X_playBouts_33 ?_
    refine bd hf (fun v1 hc19 hf => ?_)
    refine j_cV (rest := [.int x7]) C lk_X_421 (c_Ga_mostBouts hY hc19) rfl (kX hY rfl) (nX hY (by decide)) (by decide) rfl rfl (by decide) rfl (Nat.le_of_ble_eq_true rfl) d_X_playBouts_36 ?_
    refine j_icmp_ge C d_X_playBouts_39 hf (fun hf => ?_) (fun hf => ?_)
    · refine j_sub [0, 5, 6, 7] rfl ?_
      exact w_X_playBouts_b177 hY C x5 x6 x7 μ hf
    · refine j_iload C d_X_playBouts_42 5 rfl ?_
      refine j_aload_n C d_X_playBouts_44 0 rfl ?_
      refine j_gS (b := 39) C fl_X_57 (kX hY rfl) (nX hY (by decide)) rfl hY.2.2.2.1 rfl (sX hY rfl) d_X_playBouts_45 ?_
      refine bd hf (fun v2 hc18 hf => ?_)
      refine j_cV (rest := [.int x5]) C lk_X_424 (c_Ga_winsNeeded hY hc18) rfl (kX hY rfl) (nX hY (by decide)) (by decide) rfl rfl (by decide) rfl (Nat.le_of_ble_eq_true rfl) d_X_playBouts_48 ?_
      refine j_icmp_ge C d_X_playBouts_51 hf (fun hf => ?_) (fun hf => ?_)
      · refine j_sub [0, 5, 6, 7] rfl ?_
        exact w_X_playBouts_b177 hY C x5 x6 x7 μ hf
      · refine j_iload C d_X_playBouts_54 6 rfl ?_
        refine j_aload_n C d_X_playBouts_56 0 rfl ?_
        refine j_gS (b := 39) C fl_X_57 (kX hY rfl) (nX hY (by decide)) rfl hY.2.2.2.1 rfl (sX hY rfl) d_X_playBouts_57 ?_
        refine bd hf (fun v3 hc17 hf => ?_)
        refine j_cV (rest := [.int x6]) C lk_X_424 (c_Ga_winsNeeded hY hc17) rfl (kX hY rfl) (nX hY (by decide)) (by decide) rfl rfl (by decide) rfl (Nat.le_of_ble_eq_true rfl) d_X_playBouts_60 ?_
        refine j_icmp_ge C d_X_playBouts_63 hf (fun hf => ?_) (fun hf => ?_)
        · refine j_sub [0, 5, 6, 7] rfl ?_
          exact w_X_playBouts_b177 hY C x5 x6 x7 μ hf
        · refine j_aload_n C d_X_playBouts_66 0 rfl ?_
          refine j_aload_n C d_X_playBouts_67 0 rfl ?_
          refine j_iload_n C d_X_playBouts_68 1 rfl ?_
          refine j_iload C d_X_playBouts_69 7 rfl ?_
          refine j_iload_n C d_X_playBouts_71 3 rfl ?_
          refine ckn hf (fun hz16 hf => ?_)
          refine j_irem C d_X_playBouts_72 hz16 ?_
          refine bd hf (fun v4 hc15 hf => ?_)
          refine j_cV (rest := [.ref (yad Y 0)]) C lk_X_427 (c_X_nthTopOf hY hc15) rfl (kX hY rfl) (nX hY (by decide)) (by decide) rfl rfl (by decide) rfl (Nat.le_of_ble_eq_true rfl) d_X_playBouts_73 ?_
          refine j_aload_n C d_X_playBouts_76 0 rfl ?_
          refine j_iload_n C d_X_playBouts_77 2 rfl ?_
          refine j_iload C d_X_playBouts_78 7 rfl ?_
          refine j_iload C d_X_playBouts_80 4 rfl ?_
          refine ckn hf (fun hz14 hf => ?_)
          refine j_irem C d_X_playBouts_82 hz14 ?_
          refine bd hf (fun v5 hc13 hf => ?_)
          refine j_cV (rest := [.int v4, .ref (yad Y 0)]) C lk_X_427 (c_X_nthTopOf hY hc13) rfl (kX hY rfl) (nX hY (by decide)) (by decide) rfl rfl (by decide) rfl (Nat.le_of_ble_eq_true rfl) d_X_playBouts_83 ?_
          refine j_aload_n C d_X_playBouts_86 0 rfl ?_
          refine j_gS (b := 39) C fl_X_57 (kX hY rfl) (nX hY (by decide)) rfl hY.2.2.2.1 rfl (sX hY rfl) d_X_playBouts_87 ?_
          refine bd hf (fun v6 hc12 hf => ?_)
          refine j_cV (rest := [.int v5, .int v4, .ref (yad Y 0)]) C lk_X_430 (c_Ga_turns hY hc12) rfl (kX hY rfl) (nX hY (by decide)) (by decide) rfl rfl (by decide) rfl (Nat.le_of_ble_eq_true rfl) d_X_playBouts_90 ?_
          refine j_aload_n C d_X_playBouts_93 0 rfl ?_
          refine j_gS (b := 39) C fl_X_57 (kX hY rfl) (nX hY (by decide)) rfl hY.2.2.2.1 rfl (sX hY rfl) d_X_playBouts_94 ?_
          refine bd hf (fun v7 hc11 hf => ?_)
          refine j_cV (rest := [.int v6, .int v5, .int v4, .ref (yad Y 0)]) C lk_X_433 (c_Ga_ring hY hc11) rfl (kX hY rfl) (nX hY (by decide)) (by decide) rfl rfl (by decide) rfl (Nat.le_of_ble_eq_true rfl) d_X_playBouts_97 ?_
          refine bd2 hf (fun v8 μ9 hc10 hf => ?_)
          refine j_cV (rest := []) C lk_X_239 (c_X_duel hY hc10) rfl (kX hY rfl) (nX hY (by decide)) (by decide) rfl rfl (by decide) rfl (Nat.le_of_ble_eq_true rfl) d_X_playBouts_100 ?_
          refine j_istore (lvf := [(0, .ref (yad Y 0)), (1, .int x1), (2, .int x2), (3, .int x3), (4, .int x4), (5, .int x5), (6, .int x6), (7, .int x7)]) C d_X_playBouts_103 (by decide) rfl ?_
          refine j_iload C d_X_playBouts_105 6 rfl ?_
          refine j_iload C d_X_playBouts_107 0 rfl ?_
          refine j_if_le C d_X_playBouts_109 hf (fun hf => ?_) (fun hf => ?_)
          · refine j_iconst (v := 0) C d_X_playBouts_116 (by decide) ?_
            refine j_sub [1, 2, 3, 4, 5, 7, 8, 0] rfl ?_
            exact w_X_playBouts_b117 hY C (f_X_playBouts_l30 N n) ih x1 x2 x3 x4 x6 x7 v8 0 x5 μ9 hf
          · refine j_iconst (v := 1) C d_X_playBouts_112 (by decide) ?_
            refine j_goto C d_X_playBouts_113 ?_
            refine j_sub [1, 2, 3, 4, 5, 7, 8, 0] rfl ?_
            exact w_X_playBouts_b117 hY C (f_X_playBouts_l30 N n) ih x1 x2 x3 x4 x6 x7 v8 1 x5 μ9 hf
theorem c_X_playBouts {l : Launch} {Y : Lay} (hY : IsX Y) {N : Nat} {μ : Mem} {x1 : Int32} {x2 : Int32} {r : Mem} (hf : f_X_playBouts N μ x1 x2 = some r) : Ct l Y y_X_playBouts b_X_playBouts 9 none 7 [.ref (yad Y 0), .int x1, .int x2] none μ r := by
  refine ct_of (own := "TopYard") (lv := [(0, .ref (yad Y 0)), (1, .int x1), (2, .int x2)]) (by decide +kernel) rfl (Nat.le_of_ble_eq_true rfl) rfl (fun X hl C => ?_)
  subst hl
  unfold f_X_playBouts at hf
  refine j_iconst (v := 1) C d_X_playBouts_0 (by decide) ?_
  refine j_aload_n C d_X_playBouts_1 0 rfl ?_
  refine j_iload_n C d_X_playBouts_2 1 rfl ?_
  refine bd hf (fun v1 hc8 hf => ?_)
  refine j_cV (rest := [.int 1]) C lk_X_308 (c_X_topsOf hY hc8) rfl (kX hY rfl) (nX hY (by decide)) (by decide) rfl rfl (by decide) rfl (Nat.le_of_ble_eq_true rfl) d_X_playBouts_3 ?_
  refine bd hf (fun v2 hc7 hf => ?_)
  refine j_cS (rest := []) C lk_X_418 (c_JM_max1 hY hc7) rfl (by decide) rfl (Nat.le_of_ble_eq_true rfl) d_X_playBouts_6 ?_
  refine j_istore_n (lvf := [(0, .ref (yad Y 0)), (1, .int x1), (2, .int x2)]) C d_X_playBouts_9 (by decide) rfl ?_
  refine j_iconst (v := 1) C d_X_playBouts_10 (by decide) ?_
  refine j_aload_n C d_X_playBouts_11 1 rfl ?_
  refine j_iload_n C d_X_playBouts_12 3 rfl ?_
  refine bd hf (fun v3 hc6 hf => ?_)
  refine j_cV (rest := [.int 1]) C lk_X_308 (c_X_topsOf hY hc6) rfl (kX hY rfl) (nX hY (by decide)) (by decide) rfl rfl (by decide) rfl (Nat.le_of_ble_eq_true rfl) d_X_playBouts_13 ?_
  refine bd hf (fun v4 hc5 hf => ?_)
  refine j_cS (rest := []) C lk_X_418 (c_JM_max1 hY hc5) rfl (by decide) rfl (Nat.le_of_ble_eq_true rfl) d_X_playBouts_16 ?_
  refine j_istore (lvf := [(3, .int v2), (0, .ref (yad Y 0)), (1, .int x1), (2, .int x2)]) C d_X_playBouts_19 (by decide) rfl ?_
  refine j_iconst (v := 0) C d_X_playBouts_21 (by decide) ?_
  refine j_istore (lvf := [(4, .int v4), (3, .int v2), (0, .ref (yad Y 0)), (1, .int x1), (2, .int x2)]) C d_X_playBouts_22 (by decide) rfl ?_
  refine j_iconst (v := 0) C d_X_playBouts_24 (by decide) ?_
  refine j_istore (lvf := [(5, .int 0), (4, .int v4), (3, .int v2), (0, .ref (yad Y 0)), (1, .int x1), (2, .int x2)]) C d_X_playBouts_25 (by decide) rfl ?_
  refine j_iconst (v := 0) C d_X_playBouts_27 (by decide) ?_
  refine j_istore (lvf := [(6, .int 0), (5, .int 0), (4, .int v4), (3, .int v2), (0, .ref (yad Y 0)), (1, .int x1), (2, .int x2)]) C d_X_playBouts_28 (by decide) rfl ?_
  refine j_sub [5, 6, 7, 4, 3, 2, 1, 0] rfl ?_
  exact w_X_playBouts_l30 hY C N x1 x2 v2 v4 0 0 0 μ hf
theorem d_Ga_keeps_0 : DC b_Ga_keeps 0 (.aload_n 0) 1 1 := ⟨by decide +kernel, rfl⟩
theorem d_Ga_keeps_1 : DC b_Ga_keeps 1 (.getfield 19) 3 4 := ⟨by decide +kernel, rfl⟩
theorem d_Ga_keeps_4 : DC b_Ga_keeps 4 (.iconst 4) 1 5 := ⟨by decide +kernel, rfl⟩
theorem d_Ga_keeps_5 : DC b_Ga_keeps 5 (.iaload) 1 6 := ⟨by decide +kernel, rfl⟩
theorem d_Ga_keeps_6 : decode b_Ga_keeps 6 = .ok (.ireturn, 1) := by decide +kernel
theorem c_Ga_keeps {l : Launch} {Y : Lay} (hY : IsX Y) {μ : Mem} {r : Int32} (hf : f_Ga_keeps μ = some r) : Ct l Y y_Ga_keeps b_Ga_keeps 1 (some .int) 1 [.ref (yad Y 39)] (some (.int r)) μ μ := by
  refine ct_of (own := "TopYard$Game") (lv := [(0, .ref (yad Y 39))]) (by decide +kernel) rfl (Nat.le_of_ble_eq_true rfl) rfl (fun X hl C => ?_)
  subst hl
  unfold f_Ga_keeps at hf
  refine j_aload_n C d_Ga_keeps_0 0 rfl ?_
  refine j_gS (b := 41) C fl_Ga_19 (kX hY rfl) (nX hY (by decide)) rfl hY.2.2.2.1 rfl (sX hY rfl) d_Ga_keeps_1 ?_
  refine j_iconst (v := 4) C d_Ga_keeps_4 (by decide) ?_
  refine ck hf (fun hi1 hf => ?_)
  refine j_iald C (kX hY rfl) (nX hY (by decide)) (lX hY rfl) hi1 d_Ga_keeps_5 ?_
  obtain rfl := Option.some.inj hf
  exact j_iret C d_Ga_keeps_6
theorem d_X_keepTops_0 : DC b_X_keepTops 0 (.iconst 0) 1 1 := ⟨by decide +kernel, rfl⟩
theorem d_X_keepTops_1 : DC b_X_keepTops 1 (.istore_n 3) 1 2 := ⟨by decide +kernel, rfl⟩
theorem d_X_keepTops_2 : DC b_X_keepTops 2 (.iconst 0) 1 3 := ⟨by decide +kernel, rfl⟩
theorem d_X_keepTops_3 : DC b_X_keepTops 3 (.istore 4) 2 5 := ⟨by decide +kernel, rfl⟩
theorem d_X_keepTops_5 : DC b_X_keepTops 5 (.iload 4) 2 7 := ⟨by decide +kernel, rfl⟩
theorem d_X_keepTops_7 : DC b_X_keepTops 7 (.aload_n 0) 1 8 := ⟨by decide +kernel, rfl⟩
theorem d_X_keepTops_8 : DC b_X_keepTops 8 (.getfield 15) 3 11 := ⟨by decide +kernel, rfl⟩
theorem d_X_keepTops_11 : DB b_X_keepTops 11 (.if_icmp .ge 51) 51 62 14 := ⟨by decide +kernel, by decide, rfl⟩
theorem d_X_keepTops_14 : DC b_X_keepTops 14 (.iload_n 3) 1 15 := ⟨by decide +kernel, rfl⟩
theorem d_X_keepTops_15 : DC b_X_keepTops 15 (.aload_n 0) 1 16 := ⟨by decide +kernel, rfl⟩
theorem d_X_keepTops_16 : DC b_X_keepTops 16 (.getfield 57) 3 19 := ⟨by decide +kernel, rfl⟩
theorem d_X_keepTops_19 : DC b_X_keepTops 19 (.invokevirtual 435) 3 22 := ⟨by decide +kernel, rfl⟩
theorem d_X_keepTops_22 : DB b_X_keepTops 22 (.if_icmp .ge 40) 40 62 25 := ⟨by decide +kernel, by decide, rfl⟩
theorem d_X_keepTops_25 : DC b_X_keepTops 25 (.aload_n 0) 1 26 := ⟨by decide +kernel, rfl⟩
theorem d_X_keepTops_26 : DC b_X_keepTops 26 (.iload 4) 2 28 := ⟨by decide +kernel, rfl⟩
theorem d_X_keepTops_28 : DC b_X_keepTops 28 (.invokevirtual 110) 3 31 := ⟨by decide +kernel, rfl⟩
theorem d_X_keepTops_31 : DC b_X_keepTops 31 (.astore 5) 2 33 := ⟨by decide +kernel, rfl⟩
theorem d_X_keepTops_33 : DC b_X_keepTops 33 (.aload 5) 2 35 := ⟨by decide +kernel, rfl⟩
theorem d_X_keepTops_35 : DB b_X_keepTops 35 (.ifnull 21) 21 56 38 := ⟨by decide +kernel, by decide, rfl⟩
theorem d_X_keepTops_38 : DC b_X_keepTops 38 (.aload 5) 2 40 := ⟨by decide +kernel, rfl⟩
theorem d_X_keepTops_40 : DC b_X_keepTops 40 (.getfield 126) 3 43 := ⟨by decide +kernel, rfl⟩
theorem d_X_keepTops_43 : DC b_X_keepTops 43 (.iload_n 2) 1 44 := ⟨by decide +kernel, rfl⟩
theorem d_X_keepTops_44 : DB b_X_keepTops 44 (.if_icmp .ne 12) 12 56 47 := ⟨by decide +kernel, by decide, rfl⟩
theorem d_X_keepTops_47 : DC b_X_keepTops 47 (.aload 5) 2 49 := ⟨by decide +kernel, rfl⟩
theorem d_X_keepTops_49 : DC b_X_keepTops 49 (.iload_n 1) 1 50 := ⟨by decide +kernel, rfl⟩
theorem d_X_keepTops_50 : DC b_X_keepTops 50 (.putfield 126) 3 53 := ⟨by decide +kernel, rfl⟩
theorem d_X_keepTops_53 : DC b_X_keepTops 53 (.iinc 3 1) 3 56 := ⟨by decide +kernel, rfl⟩
theorem d_X_keepTops_56 : DC b_X_keepTops 56 (.iinc 4 1) 3 59 := ⟨by decide +kernel, rfl⟩
theorem d_X_keepTops_59 : DB b_X_keepTops 59 (.goto (-54)) (-54) 5 62 := ⟨by decide +kernel, by decide, rfl⟩
theorem d_X_keepTops_62 : DC b_X_keepTops 62 (.iload_n 3) 1 63 := ⟨by decide +kernel, rfl⟩
theorem d_X_keepTops_63 : decode b_X_keepTops 63 = .ok (.ireturn, 1) := by decide +kernel
theorem w_X_keepTops_b56 {X : Ctx} {Y : Lay} (hY : IsX Y) (C : Cx X Y b_X_keepTops 6 (some .int) "TopYard" 2) {N : Nat} {r : Int32 × Mem} (k5 : Int32 → Int32 → Int32 → Int32 → Mem → Option (Int32 × Mem)) (hk5 : ∀ (x1 : Int32) (x2 : Int32) (x3 : Int32) (x4 : Int32) (ν : Mem), k5 x1 x2 x3 x4 ν = some r → J X Y (some (.int r.1)) r.2 6 5 [(0, .ref (yad Y 0)), (1, .int x1), (2, .int x2), (3, .int x3), (4, .int x4)] [] ν) (x1 : Int32) (x2 : Int32) (x3 : Int32) (x4 : Int32) (μ : Mem) (hf : f_X_keepTops_b56 N k5 x1 x2 x3 x4 μ = some r) : J X Y (some (.int r.1)) r.2 6 56 [(0, .ref (yad Y 0)), (1, .int x1), (2, .int x2), (3, .int x3), (4, .int x4)] [] μ := by
  unfold f_X_keepTops_b56 at hf
  refine j_iinc (lvf := [(0, .ref (yad Y 0)), (1, .int x1), (2, .int x2), (3, .int x3)]) (v := 1) C d_X_keepTops_56 4 rfl (by decide) (by decide) rfl hf (fun v1 hf => ?_)
  refine j_goto C d_X_keepTops_59 ?_
  refine j_sub [1, 2, 3, 4, 0] rfl ?_
  exact hk5 x1 x2 x3 v1 μ hf
theorem w_X_keepTops_l5 {X : Ctx} {Y : Lay} (hY : IsX Y) (C : Cx X Y b_X_keepTops 6 (some .int) "TopYard" 2) {N : Nat} {r : Int32 × Mem} : ∀ (n : Nat) (x1 : Int32) (x2 : Int32) (x3 : Int32) (x4 : Int32) (μ : Mem), f_X_keepTops_l5 N n x1 x2 x3 x4 μ = some r → J X Y (some (.int r.1)) r.2 6 5 [(0, .ref (yad Y 0)), (1, .int x1), (2, .int x2), (3, .int x3), (4, .int x4)] [] μ := by
  intro n
  induction n with
  | zero => intro x1 x2 x3 x4 μ hf; rw [f_X_keepTops_l5] at hf; cases hf
  | succ n ih =>
    intro x1 x2 x3 x4 μ hf
    rw [f_X_keepTops_l5] at hf
    refine j_iload C d_X_keepTops_5 4 rfl ?_
    refine j_aload_n C d_X_keepTops_7 0 rfl ?_
    refine j_gI C fl_X_15 (kX hY rfl) (nX hY (by decide)) rfl d_X_keepTops_8 ?_
    refine j_icmp_ge C d_X_keepTops_11 hf (fun hf => ?_) (fun hf => ?_)
    · refine j_iload_n C d_X_keepTops_62 3 rfl ?_
      obtain rfl := Option.some.inj hf
      exact j_iret C d_X_keepTops_63
    · refine j_iload_n C d_X_keepTops_14 3 rfl ?_
      refine j_aload_n C d_X_keepTops_15 0 rfl ?_
      refine j_gS (b := 39) C fl_X_57 (kX hY rfl) (nX hY (by decide)) rfl hY.2.2.2.1 rfl (sX hY rfl) d_X_keepTops_16 ?_
      refine bd hf (fun v1 hc7 hf => ?_)
      refine j_cV (rest := [.int x3]) C lk_X_435 (c_Ga_keeps hY hc7) rfl (kX hY rfl) (nX hY (by decide)) (by decide) rfl rfl (by decide) rfl (Nat.le_of_ble_eq_true rfl) d_X_keepTops_19 ?_
      refine j_icmp_ge C d_X_keepTops_22 hf (fun hf => ?_) (fun hf => ?_)
      · refine j_iload_n C d_X_keepTops_62 3 rfl ?_
        obtain rfl := Option.some.inj hf
        exact j_iret C d_X_keepTops_63
      · refine j_aload_n C d_X_keepTops_25 0 rfl ?_
        refine j_iload C d_X_keepTops_26 4 rfl ?_
        refine bd hf (fun u2 hc6 hf => ?_)
        refine j_wt (fun hT hSt => ?_)
        have hu2 := rt_X_topAt hY hT hc6
        refine j_cV (rest := []) C lk_X_110 (c_X_topAt hY hc6) rfl (kX hY rfl) (nX hY (by decide)) (by decide) rfl rfl (by decide) rfl (Nat.le_of_ble_eq_true rfl) d_X_keepTops_28 ?_
        refine j_astoreo (lvf := [(0, .ref (yad Y 0)), (1, .int x1), (2, .int x2), (3, .int x3), (4, .int x4)]) C d_X_keepTops_31 (by decide) rfl ?_
        refine j_aloado C d_X_keepTops_33 0 rfl ?_
        cases u2 with
        | none =>
          refine j_nul_t C d_X_keepTops_35 ?_
          refine j_sub [1, 2, 3, 4, 5] rfl ?_
          exact w_X_keepTops_b56 hY C (f_X_keepTops_l5 N n) ih x1 x2 x3 x4 μ hf
        | some e3 =>
          refine j_nul_f C d_X_keepTops_35 ?_
          refine j_aload C d_X_keepTops_38 0 rfl ?_
          refine j_gI C fl_X_126 (hu2 e3 rfl).2 (hu2 e3 rfl).1 rfl d_X_keepTops_40 ?_
          refine j_iload_n C d_X_keepTops_43 3 rfl ?_
          refine j_icmp_ne C d_X_keepTops_44 hf (fun hf => ?_) (fun hf => ?_)
          · refine j_sub [1, 2, 3, 4, 5] rfl ?_
            exact w_X_keepTops_b56 hY C (f_X_keepTops_l5 N n) ih x1 x2 x3 x4 μ hf
          · refine j_aload C d_X_keepTops_47 0 rfl ?_
            refine j_iload_n C d_X_keepTops_49 2 rfl ?_
            refine j_pI C fl_X_126 (hu2 e3 rfl).2 (hu2 e3 rfl).1 rfl rfl rfl d_X_keepTops_50 hf (fun μ4 hf => ?_)
            refine j_iinc (lvf := [(5, .ref (yad Y e3)), (0, .ref (yad Y 0)), (1, .int x1), (2, .int x2), (4, .int x4)]) (v := 1) C d_X_keepTops_53 4 rfl (by decide) (by decide) rfl hf (fun v5 hf => ?_)
            refine j_sub [2, 3, 4, 0, 5] rfl ?_
            exact w_X_keepTops_b56 hY C (f_X_keepTops_l5 N n) ih x1 x2 v5 x4 μ4 hf
theorem c_X_keepTops {l : Launch} {Y : Lay} (hY : IsX Y) {N : Nat} {μ : Mem} {x1 : Int32} {x2 : Int32} {r : Int32 × Mem} (hf : f_X_keepTops N μ x1 x2 = some r) : Ct l Y y_X_keepTops b_X_keepTops 6 (some .int) 2 [.ref (yad Y 0), .int x1, .int x2] (some (.int r.1)) μ r.2 := by
  refine ct_of (own := "TopYard") (lv := [(0, .ref (yad Y 0)), (1, .int x1), (2, .int x2)]) (by decide +kernel) rfl (Nat.le_of_ble_eq_true rfl) rfl (fun X hl C => ?_)
  subst hl
  unfold f_X_keepTops at hf
  refine j_iconst (v := 0) C d_X_keepTops_0 (by decide) ?_
  refine j_istore_n (lvf := [(0, .ref (yad Y 0)), (1, .int x1), (2, .int x2)]) C d_X_keepTops_1 (by decide) rfl ?_
  refine j_iconst (v := 0) C d_X_keepTops_2 (by decide) ?_
  refine j_istore (lvf := [(3, .int 0), (0, .ref (yad Y 0)), (1, .int x1), (2, .int x2)]) C d_X_keepTops_3 (by decide) rfl ?_
  refine j_sub [2, 3, 4, 1, 0] rfl ?_
  exact w_X_keepTops_l5 hY C N x1 x2 0 0 μ hf
theorem d_X_play_0 : DC b_X_play 0 (.iload_n 1) 1 1 := ⟨by decide +kernel, rfl⟩
theorem d_X_play_1 : DC b_X_play 1 (.invokestatic 103) 3 4 := ⟨by decide +kernel, rfl⟩
theorem d_X_play_4 : DB b_X_play 4 (.ifCond .eq 15) 15 19 7 := ⟨by decide +kernel, by decide, rfl⟩
theorem d_X_play_7 : DC b_X_play 7 (.iload_n 2) 1 8 := ⟨by decide +kernel, rfl⟩
theorem d_X_play_8 : DC b_X_play 8 (.invokestatic 103) 3 11 := ⟨by decide +kernel, rfl⟩
theorem d_X_play_11 : DB b_X_play 11 (.ifCond .eq 8) 8 19 14 := ⟨by decide +kernel, by decide, rfl⟩
theorem d_X_play_14 : DC b_X_play 14 (.iload_n 1) 1 15 := ⟨by decide +kernel, rfl⟩
theorem d_X_play_15 : DC b_X_play 15 (.iload_n 2) 1 16 := ⟨by decide +kernel, rfl⟩
theorem d_X_play_16 : DB b_X_play 16 (.if_icmp .ne 6) 6 22 19 := ⟨by decide +kernel, by decide, rfl⟩
theorem d_X_play_19 : DC b_X_play 19 (.bipush (-2)) 2 21 := ⟨by decide +kernel, rfl⟩
theorem d_X_play_21 : decode b_X_play 21 = .ok (.ireturn, 1) := by decide +kernel
theorem d_X_play_22 : DC b_X_play 22 (.aload_n 0) 1 23 := ⟨by decide +kernel, rfl⟩
theorem d_X_play_23 : DC b_X_play 23 (.getfield 57) 3 26 := ⟨by decide +kernel, rfl⟩
theorem d_X_play_26 : DC b_X_play 26 (.invokevirtual 305) 3 29 := ⟨by decide +kernel, rfl⟩
theorem d_X_play_29 : DC b_X_play 29 (.iconst (-1)) 1 30 := ⟨by decide +kernel, rfl⟩
theorem d_X_play_30 : DB b_X_play 30 (.if_icmp .ne 19) 19 49 33 := ⟨by decide +kernel, by decide, rfl⟩
theorem d_X_play_33 : DC b_X_play 33 (.aload_n 0) 1 34 := ⟨by decide +kernel, rfl⟩
theorem d_X_play_34 : DC b_X_play 34 (.iload_n 1) 1 35 := ⟨by decide +kernel, rfl⟩
theorem d_X_play_35 : DC b_X_play 35 (.invokevirtual 308) 3 38 := ⟨by decide +kernel, rfl⟩
theorem d_X_play_38 : DB b_X_play 38 (.ifCond .eq 11) 11 49 41 := ⟨by decide +kernel, by decide, rfl⟩
theorem d_X_play_41 : DC b_X_play 41 (.aload_n 0) 1 42 := ⟨by decide +kernel, rfl⟩
theorem d_X_play_42 : DC b_X_play 42 (.iload_n 2) 1 43 := ⟨by decide +kernel, rfl⟩
theorem d_X_play_43 : DC b_X_play 43 (.invokevirtual 308) 3 46 := ⟨by decide +kernel, rfl⟩
theorem d_X_play_46 : DB b_X_play 46 (.ifCond .ne 6) 6 52 49 := ⟨by decide +kernel, by decide, rfl⟩
theorem d_X_play_49 : DC b_X_play 49 (.bipush (-3)) 2 51 := ⟨by decide +kernel, rfl⟩
theorem d_X_play_51 : decode b_X_play 51 = .ok (.ireturn, 1) := by decide +kernel
theorem d_X_play_52 : DC b_X_play 52 (.aload_n 0) 1 53 := ⟨by decide +kernel, rfl⟩
theorem d_X_play_53 : DC b_X_play 53 (.iload_n 1) 1 54 := ⟨by decide +kernel, rfl⟩
theorem d_X_play_54 : DC b_X_play 54 (.iload_n 2) 1 55 := ⟨by decide +kernel, rfl⟩
theorem d_X_play_55 : DC b_X_play 55 (.invokevirtual 311) 3 58 := ⟨by decide +kernel, rfl⟩
theorem d_X_play_58 : DC b_X_play 58 (.aload_n 0) 1 59 := ⟨by decide +kernel, rfl⟩
theorem d_X_play_59 : DC b_X_play 59 (.getfield 64) 3 62 := ⟨by decide +kernel, rfl⟩
theorem d_X_play_62 : DC b_X_play 62 (.iload_n 1) 1 63 := ⟨by decide +kernel, rfl⟩
theorem d_X_play_63 : DC b_X_play 63 (.bipush 8) 2 65 := ⟨by decide +kernel, rfl⟩
theorem d_X_play_65 : DC b_X_play 65 (.imul) 1 66 := ⟨by decide +kernel, rfl⟩
theorem d_X_play_66 : DC b_X_play 66 (.iload_n 2) 1 67 := ⟨by decide +kernel, rfl⟩
theorem d_X_play_67 : DC b_X_play 67 (.iadd) 1 68 := ⟨by decide +kernel, rfl⟩
theorem d_X_play_68 : DC b_X_play 68 (.dup2) 1 69 := ⟨by decide +kernel, rfl⟩
theorem d_X_play_69 : DC b_X_play 69 (.iaload) 1 70 := ⟨by decide +kernel, rfl⟩
theorem d_X_play_70 : DC b_X_play 70 (.iconst 1) 1 71 := ⟨by decide +kernel, rfl⟩
theorem d_X_play_71 : DC b_X_play 71 (.iadd) 1 72 := ⟨by decide +kernel, rfl⟩
theorem d_X_play_72 : DC b_X_play 72 (.iastore) 1 73 := ⟨by decide +kernel, rfl⟩
theorem d_X_play_73 : DC b_X_play 73 (.aload_n 0) 1 74 := ⟨by decide +kernel, rfl⟩
theorem d_X_play_74 : DC b_X_play 74 (.getfield 64) 3 77 := ⟨by decide +kernel, rfl⟩
theorem d_X_play_77 : DC b_X_play 77 (.iload_n 2) 1 78 := ⟨by decide +kernel, rfl⟩
theorem d_X_play_78 : DC b_X_play 78 (.bipush 8) 2 80 := ⟨by decide +kernel, rfl⟩
theorem d_X_play_80 : DC b_X_play 80 (.imul) 1 81 := ⟨by decide +kernel, rfl⟩
theorem d_X_play_81 : DC b_X_play 81 (.iload_n 1) 1 82 := ⟨by decide +kernel, rfl⟩
theorem d_X_play_82 : DC b_X_play 82 (.iadd) 1 83 := ⟨by decide +kernel, rfl⟩
theorem d_X_play_83 : DC b_X_play 83 (.dup2) 1 84 := ⟨by decide +kernel, rfl⟩
theorem d_X_play_84 : DC b_X_play 84 (.iaload) 1 85 := ⟨by decide +kernel, rfl⟩
theorem d_X_play_85 : DC b_X_play 85 (.iconst 1) 1 86 := ⟨by decide +kernel, rfl⟩
theorem d_X_play_86 : DC b_X_play 86 (.iadd) 1 87 := ⟨by decide +kernel, rfl⟩
theorem d_X_play_87 : DC b_X_play 87 (.iastore) 1 88 := ⟨by decide +kernel, rfl⟩
theorem d_X_play_88 : DC b_X_play 88 (.aload_n 0) 1 89 := ⟨by decide +kernel, rfl⟩
theorem d_X_play_89 : DC b_X_play 89 (.getfield 61) 3 92 := ⟨by decide +kernel, rfl⟩
theorem d_X_play_92 : DC b_X_play 92 (.iconst 3) 1 93 := ⟨by decide +kernel, rfl⟩
theorem d_X_play_93 : DC b_X_play 93 (.iconst 0) 1 94 := ⟨by decide +kernel, rfl⟩
theorem d_X_play_94 : DC b_X_play 94 (.iastore) 1 95 := ⟨by decide +kernel, rfl⟩
theorem d_X_play_95 : DC b_X_play 95 (.aload_n 0) 1 96 := ⟨by decide +kernel, rfl⟩
theorem d_X_play_96 : DC b_X_play 96 (.getfield 61) 3 99 := ⟨by decide +kernel, rfl⟩
theorem d_X_play_99 : DC b_X_play 99 (.iconst 1) 1 100 := ⟨by decide +kernel, rfl⟩
theorem d_X_play_100 : DC b_X_play 100 (.iaload) 1 101 := ⟨by decide +kernel, rfl⟩
theorem d_X_play_101 : DC b_X_play 101 (.aload_n 0) 1 102 := ⟨by decide +kernel, rfl⟩
theorem d_X_play_102 : DC b_X_play 102 (.getfield 61) 3 105 := ⟨by decide +kernel, rfl⟩
theorem d_X_play_105 : DC b_X_play 105 (.iconst 2) 1 106 := ⟨by decide +kernel, rfl⟩
theorem d_X_play_106 : DC b_X_play 106 (.iaload) 1 107 := ⟨by decide +kernel, rfl⟩
theorem d_X_play_107 : DB b_X_play 107 (.if_icmp .ne 5) 5 112 110 := ⟨by decide +kernel, by decide, rfl⟩
theorem d_X_play_110 : DC b_X_play 110 (.iconst (-1)) 1 111 := ⟨by decide +kernel, rfl⟩
theorem d_X_play_111 : decode b_X_play 111 = .ok (.ireturn, 1) := by decide +kernel
theorem d_X_play_112 : DC b_X_play 112 (.aload_n 0) 1 113 := ⟨by decide +kernel, rfl⟩
theorem d_X_play_113 : DC b_X_play 113 (.getfield 61) 3 116 := ⟨by decide +kernel, rfl⟩
theorem d_X_play_116 : DC b_X_play 116 (.iconst 1) 1 117 := ⟨by decide +kernel, rfl⟩
theorem d_X_play_117 : DC b_X_play 117 (.iaload) 1 118 := ⟨by decide +kernel, rfl⟩
theorem d_X_play_118 : DC b_X_play 118 (.aload_n 0) 1 119 := ⟨by decide +kernel, rfl⟩
theorem d_X_play_119 : DC b_X_play 119 (.getfield 61) 3 122 := ⟨by decide +kernel, rfl⟩
theorem d_X_play_122 : DC b_X_play 122 (.iconst 2) 1 123 := ⟨by decide +kernel, rfl⟩
theorem d_X_play_123 : DC b_X_play 123 (.iaload) 1 124 := ⟨by decide +kernel, rfl⟩
theorem d_X_play_124 : DB b_X_play 124 (.if_icmp .le 7) 7 131 127 := ⟨by decide +kernel, by decide, rfl⟩
theorem d_X_play_127 : DC b_X_play 127 (.iload_n 1) 1 128 := ⟨by decide +kernel, rfl⟩
theorem d_X_play_128 : DB b_X_play 128 (.goto 4) 4 132 131 := ⟨by decide +kernel, by decide, rfl⟩
theorem d_X_play_131 : DC b_X_play 131 (.iload_n 2) 1 132 := ⟨by decide +kernel, rfl⟩
theorem d_X_play_132 : DC b_X_play 132 (.istore_n 3) 1 133 := ⟨by decide +kernel, rfl⟩
theorem d_X_play_133 : DC b_X_play 133 (.aload_n 0) 1 134 := ⟨by decide +kernel, rfl⟩
theorem d_X_play_134 : DC b_X_play 134 (.getfield 61) 3 137 := ⟨by decide +kernel, rfl⟩
theorem d_X_play_137 : DC b_X_play 137 (.iconst 3) 1 138 := ⟨by decide +kernel, rfl⟩
theorem d_X_play_138 : DC b_X_play 138 (.aload_n 0) 1 139 := ⟨by decide +kernel, rfl⟩
theorem d_X_play_139 : DC b_X_play 139 (.iload_n 3) 1 140 := ⟨by decide +kernel, rfl⟩
theorem d_X_play_140 : DC b_X_play 140 (.iload_n 3) 1 141 := ⟨by decide +kernel, rfl⟩
theorem d_X_play_141 : DC b_X_play 141 (.iload_n 1) 1 142 := ⟨by decide +kernel, rfl⟩
theorem d_X_play_142 : DB b_X_play 142 (.if_icmp .ne 7) 7 149 145 := ⟨by decide +kernel, by decide, rfl⟩
theorem d_X_play_145 : DC b_X_play 145 (.iload_n 2) 1 146 := ⟨by decide +kernel, rfl⟩
theorem d_X_play_146 : DB b_X_play 146 (.goto 4) 4 150 149 := ⟨by decide +kernel, by decide, rfl⟩
theorem d_X_play_149 : DC b_X_play 149 (.iload_n 1) 1 150 := ⟨by decide +kernel, rfl⟩
theorem d_X_play_150 : DC b_X_play 150 (.invokevirtual 315) 3 153 := ⟨by decide +kernel, rfl⟩
theorem d_X_play_153 : DC b_X_play 153 (.iastore) 1 154 := ⟨by decide +kernel, rfl⟩
theorem d_X_play_154 : DC b_X_play 154 (.iload_n 3) 1 155 := ⟨by decide +kernel, rfl⟩
theorem d_X_play_155 : decode b_X_play 155 = .ok (.ireturn, 1) := by decide +kernel
theorem w_X_play_b150 {X : Ctx} {Y : Lay} (hY : IsX Y) (C : Cx X Y b_X_play 4 (some .int) "TopYard" 8) {N : Nat} {r : Int32 × Mem} (x3 : Int32) (xs0 : Int32) (xs1 : Int32) (xs3 : Int32) (μ : Mem) (hf : f_X_play_b150 N x3 xs0 xs1 xs3 μ = some r) : J X Y (some (.int r.1)) r.2 4 150 [(3, .int x3)] [.int xs0, .int xs1, .ref (yad Y 0), .int xs3, .ref (yad Y 42)] μ := by
  unfold f_X_play_b150 at hf
  refine bd2 hf (fun v1 μ2 hc5 hf => ?_)
  refine j_cV (rest := [.int xs3, .ref (yad Y 42)]) C lk_X_315 (c_X_keepTops hY hc5) rfl (kX hY rfl) (nX hY (by decide)) (by decide) rfl rfl (by decide) rfl (Nat.le_of_ble_eq_true rfl) d_X_play_150 ?_
  refine ck hf (fun hi3 hf => ?_)
  refine j_iast C (kX hY rfl) (nX hY (by decide)) (lX hY rfl) hi3 d_X_play_153 hf (fun μ4 hf => ?_)
  refine j_iload_n C d_X_play_154 0 rfl ?_
  obtain rfl := Option.some.inj hf
  exact j_iret C d_X_play_155
theorem w_X_play_b132 {X : Ctx} {Y : Lay} (hY : IsX Y) (C : Cx X Y b_X_play 4 (some .int) "TopYard" 8) {N : Nat} {r : Int32 × Mem} (x1 : Int32) (x2 : Int32) (xs0 : Int32) (μ : Mem) (hf : f_X_play_b132 N x1 x2 xs0 μ = some r) : J X Y (some (.int r.1)) r.2 4 132 [(0, .ref (yad Y 0)), (1, .int x1), (2, .int x2)] [.int xs0] μ := by
  unfold f_X_play_b132 at hf
  refine j_istore_n (lvf := [(0, .ref (yad Y 0)), (1, .int x1), (2, .int x2)]) C d_X_play_132 (by decide) rfl ?_
  refine j_aload_n C d_X_play_133 1 rfl ?_
  refine j_gS (b := 42) C fl_X_61 (kX hY rfl) (nX hY (by decide)) rfl hY.2.2.2.1 rfl (sX hY rfl) d_X_play_134 ?_
  refine j_iconst (v := 3) C d_X_play_137 (by decide) ?_
  refine j_aload_n C d_X_play_138 1 rfl ?_
  refine j_iload_n C d_X_play_139 0 rfl ?_
  refine j_iload_n C d_X_play_140 0 rfl ?_
  refine j_iload_n C d_X_play_141 2 rfl ?_
  refine j_icmp_ne C d_X_play_142 hf (fun hf => ?_) (fun hf => ?_)
  · refine j_iload_n C d_X_play_149 2 rfl ?_
    refine j_sub [0] rfl ?_
    exact w_X_play_b150 hY C xs0 x1 xs0 3 μ hf
  · refine j_iload_n C d_X_play_145 3 rfl ?_
    refine j_goto C d_X_play_146 ?_
    refine j_sub [0] rfl ?_
    exact w_X_play_b150 hY C xs0 x2 xs0 3 μ hf
theorem c_X_play {l : Launch} {Y : Lay} (hY : IsX Y) {N : Nat} {μ : Mem} {x1 : Int32} {x2 : Int32} {r : Int32 × Mem} (hf : f_X_play N μ x1 x2 = some r) : Ct l Y y_X_play b_X_play 4 (some .int) 8 [.ref (yad Y 0), .int x1, .int x2] (some (.int r.1)) μ r.2 := by
  refine ct_of (own := "TopYard") (lv := [(0, .ref (yad Y 0)), (1, .int x1), (2, .int x2)]) (by decide +kernel) rfl (Nat.le_of_ble_eq_true rfl) rfl (fun X hl C => ?_)
  subst hl
  unfold f_X_play at hf
  refine j_iload_n C d_X_play_0 1 rfl ?_
  refine bd hf (fun v1 hc25 hf => ?_)
  refine j_cS (rest := []) C lk_X_103 (c_X_isOwner hY hc25) rfl (by decide) rfl (Nat.le_of_ble_eq_true rfl) d_X_play_1 ?_
  refine j_if_eq C d_X_play_4 hf (fun hf => ?_) (fun hf => ?_)
  · refine j_bipush (v := (-2)) C d_X_play_19 (by decide) ?_
    obtain rfl := Option.some.inj hf
    exact j_iret C d_X_play_21
  · refine j_iload_n C d_X_play_7 2 rfl ?_
    refine bd hf (fun v2 hc24 hf => ?_)
    refine j_cS (rest := []) C lk_X_103 (c_X_isOwner hY hc24) rfl (by decide) rfl (Nat.le_of_ble_eq_true rfl) d_X_play_8 ?_
    refine j_if_eq C d_X_play_11 hf (fun hf => ?_) (fun hf => ?_)
    · refine j_bipush (v := (-2)) C d_X_play_19 (by decide) ?_
      obtain rfl := Option.some.inj hf
      exact j_iret C d_X_play_21
    · refine j_iload_n C d_X_play_14 1 rfl ?_
      refine j_iload_n C d_X_play_15 2 rfl ?_
      refine j_icmp_ne C d_X_play_16 hf (fun hf => ?_) (fun hf => ?_)
      · refine j_aload_n C d_X_play_22 0 rfl ?_
        refine j_gS (b := 39) C fl_X_57 (kX hY rfl) (nX hY (by decide)) rfl hY.2.2.2.1 rfl (sX hY rfl) d_X_play_23 ?_
        refine bd2 hf (fun v3 μ4 hc23 hf => ?_)
        refine j_cV (rest := []) C lk_X_305 (c_Ga_parse hY hc23) rfl (kX hY rfl) (nX hY (by decide)) (by decide) rfl rfl (by decide) rfl (Nat.le_of_ble_eq_true rfl) d_X_play_26 ?_
        refine j_iconst (v := (-1)) C d_X_play_29 (by decide) ?_
        refine j_icmp_ne C d_X_play_30 hf (fun hf => ?_) (fun hf => ?_)
        · refine j_bipush (v := (-3)) C d_X_play_49 (by decide) ?_
          obtain rfl := Option.some.inj hf
          exact j_iret C d_X_play_51
        · refine j_aload_n C d_X_play_33 0 rfl ?_
          refine j_iload_n C d_X_play_34 1 rfl ?_
          refine bd hf (fun v5 hc22 hf => ?_)
          refine j_cV (rest := []) C lk_X_308 (c_X_topsOf hY hc22) rfl (kX hY rfl) (nX hY (by decide)) (by decide) rfl rfl (by decide) rfl (Nat.le_of_ble_eq_true rfl) d_X_play_35 ?_
          refine j_if_eq C d_X_play_38 hf (fun hf => ?_) (fun hf => ?_)
          · refine j_bipush (v := (-3)) C d_X_play_49 (by decide) ?_
            obtain rfl := Option.some.inj hf
            exact j_iret C d_X_play_51
          · refine j_aload_n C d_X_play_41 0 rfl ?_
            refine j_iload_n C d_X_play_42 2 rfl ?_
            refine bd hf (fun v6 hc21 hf => ?_)
            refine j_cV (rest := []) C lk_X_308 (c_X_topsOf hY hc21) rfl (kX hY rfl) (nX hY (by decide)) (by decide) rfl rfl (by decide) rfl (Nat.le_of_ble_eq_true rfl) d_X_play_43 ?_
            refine j_if_ne C d_X_play_46 hf (fun hf => ?_) (fun hf => ?_)
            · refine j_aload_n C d_X_play_52 0 rfl ?_
              refine j_iload_n C d_X_play_53 1 rfl ?_
              refine j_iload_n C d_X_play_54 2 rfl ?_
              refine bd hf (fun μ7 hc20 hf => ?_)
              refine j_cV (rest := []) C lk_X_311 (c_X_playBouts hY hc20) rfl (kX hY rfl) (nX hY (by decide)) (by decide) rfl rfl (by decide) rfl (Nat.le_of_ble_eq_true rfl) d_X_play_55 ?_
              refine j_aload_n C d_X_play_58 0 rfl ?_
              refine j_gS (b := 43) C fl_X_64 (kX hY rfl) (nX hY (by decide)) rfl hY.2.2.2.1 rfl (sX hY rfl) d_X_play_59 ?_
              refine j_iload_n C d_X_play_62 1 rfl ?_
              refine j_bipush (v := 8) C d_X_play_63 (by decide) ?_
              refine j_imul C d_X_play_65 ?_
              refine j_iload_n C d_X_play_66 2 rfl ?_
              refine j_iadd C d_X_play_67 ?_
              refine j_dup2 C d_X_play_68 rfl rfl ?_
              refine ck hf (fun hi8 hf => ?_)
              refine j_iald C (kX hY rfl) (nX hY (by decide)) (lX hY rfl) hi8 d_X_play_69 ?_
              refine j_iconst (v := 1) C d_X_play_70 (by decide) ?_
              refine j_iadd C d_X_play_71 ?_
              refine ck hf (fun hi9 hf => ?_)
              refine j_iast C (kX hY rfl) (nX hY (by decide)) (lX hY rfl) hi9 d_X_play_72 hf (fun μ10 hf => ?_)
              refine j_aload_n C d_X_play_73 0 rfl ?_
              refine j_gS (b := 43) C fl_X_64 (kX hY rfl) (nX hY (by decide)) rfl hY.2.2.2.1 rfl (sX hY rfl) d_X_play_74 ?_
              refine j_iload_n C d_X_play_77 2 rfl ?_
              refine j_bipush (v := 8) C d_X_play_78 (by decide) ?_
              refine j_imul C d_X_play_80 ?_
              refine j_iload_n C d_X_play_81 1 rfl ?_
              refine j_iadd C d_X_play_82 ?_
              refine j_dup2 C d_X_play_83 rfl rfl ?_
              refine ck hf (fun hi11 hf => ?_)
              refine j_iald C (kX hY rfl) (nX hY (by decide)) (lX hY rfl) hi11 d_X_play_84 ?_
              refine j_iconst (v := 1) C d_X_play_85 (by decide) ?_
              refine j_iadd C d_X_play_86 ?_
              refine ck hf (fun hi12 hf => ?_)
              refine j_iast C (kX hY rfl) (nX hY (by decide)) (lX hY rfl) hi12 d_X_play_87 hf (fun μ13 hf => ?_)
              refine j_aload_n C d_X_play_88 0 rfl ?_
              refine j_gS (b := 42) C fl_X_61 (kX hY rfl) (nX hY (by decide)) rfl hY.2.2.2.1 rfl (sX hY rfl) d_X_play_89 ?_
              refine j_iconst (v := 3) C d_X_play_92 (by decide) ?_
              refine j_iconst (v := 0) C d_X_play_93 (by decide) ?_
              refine ck hf (fun hi14 hf => ?_)
              refine j_iast C (kX hY rfl) (nX hY (by decide)) (lX hY rfl) hi14 d_X_play_94 hf (fun μ15 hf => ?_)
              refine j_aload_n C d_X_play_95 0 rfl ?_
              refine j_gS (b := 42) C fl_X_61 (kX hY rfl) (nX hY (by decide)) rfl hY.2.2.2.1 rfl (sX hY rfl) d_X_play_96 ?_
              refine j_iconst (v := 1) C d_X_play_99 (by decide) ?_
              refine ck hf (fun hi16 hf => ?_)
              refine j_iald C (kX hY rfl) (nX hY (by decide)) (lX hY rfl) hi16 d_X_play_100 ?_
              refine j_aload_n C d_X_play_101 0 rfl ?_
              refine j_gS (b := 42) C fl_X_61 (kX hY rfl) (nX hY (by decide)) rfl hY.2.2.2.1 rfl (sX hY rfl) d_X_play_102 ?_
              refine j_iconst (v := 2) C d_X_play_105 (by decide) ?_
              refine ck hf (fun hi17 hf => ?_)
              refine j_iald C (kX hY rfl) (nX hY (by decide)) (lX hY rfl) hi17 d_X_play_106 ?_
              refine j_icmp_ne C d_X_play_107 hf (fun hf => ?_) (fun hf => ?_)
              · refine j_aload_n C d_X_play_112 0 rfl ?_
                refine j_gS (b := 42) C fl_X_61 (kX hY rfl) (nX hY (by decide)) rfl hY.2.2.2.1 rfl (sX hY rfl) d_X_play_113 ?_
                refine j_iconst (v := 1) C d_X_play_116 (by decide) ?_
                refine ck hf (fun hi18 hf => ?_)
                refine j_iald C (kX hY rfl) (nX hY (by decide)) (lX hY rfl) hi18 d_X_play_117 ?_
                refine j_aload_n C d_X_play_118 0 rfl ?_
                refine j_gS (b := 42) C fl_X_61 (kX hY rfl) (nX hY (by decide)) rfl hY.2.2.2.1 rfl (sX hY rfl) d_X_play_119 ?_
                refine j_iconst (v := 2) C d_X_play_122 (by decide) ?_
                refine ck hf (fun hi19 hf => ?_)
                refine j_iald C (kX hY rfl) (nX hY (by decide)) (lX hY rfl) hi19 d_X_play_123 ?_
                refine j_icmp_le C d_X_play_124 hf (fun hf => ?_) (fun hf => ?_)
                · refine j_iload_n C d_X_play_131 2 rfl ?_
                  refine j_sub [0, 1, 2] rfl ?_
                  exact w_X_play_b132 hY C x1 x2 x2 μ15 hf
                · refine j_iload_n C d_X_play_127 1 rfl ?_
                  refine j_goto C d_X_play_128 ?_
                  refine j_sub [0, 1, 2] rfl ?_
                  exact w_X_play_b132 hY C x1 x2 x1 μ15 hf
              · refine j_iconst (v := (-1)) C d_X_play_110 (by decide) ?_
                obtain rfl := Option.some.inj hf
                exact j_iret C d_X_play_111
            · refine j_bipush (v := (-3)) C d_X_play_49 (by decide) ?_
              obtain rfl := Option.some.inj hf
              exact j_iret C d_X_play_51
      · refine j_bipush (v := (-2)) C d_X_play_19 (by decide) ?_
        obtain rfl := Option.some.inj hf
        exact j_iret C d_X_play_21
theorem d_X_played_0 : DC b_X_played 0 (.iload_n 1) 1 1 := ⟨by decide +kernel, rfl⟩
theorem d_X_played_1 : DC b_X_played 1 (.iconst 0) 1 2 := ⟨by decide +kernel, rfl⟩
theorem d_X_played_2 : DC b_X_played 2 (.iconst 3) 1 3 := ⟨by decide +kernel, rfl⟩
theorem d_X_played_3 : DC b_X_played 3 (.invokestatic 90) 3 6 := ⟨by decide +kernel, rfl⟩
theorem d_X_played_6 : DB b_X_played 6 (.ifCond .eq 12) 12 18 9 := ⟨by decide +kernel, by decide, rfl⟩
theorem d_X_played_9 : DC b_X_played 9 (.aload_n 0) 1 10 := ⟨by decide +kernel, rfl⟩
theorem d_X_played_10 : DC b_X_played 10 (.getfield 61) 3 13 := ⟨by decide +kernel, rfl⟩
theorem d_X_played_13 : DC b_X_played 13 (.iload_n 1) 1 14 := ⟨by decide +kernel, rfl⟩
theorem d_X_played_14 : DC b_X_played 14 (.iaload) 1 15 := ⟨by decide +kernel, rfl⟩
theorem d_X_played_15 : DB b_X_played 15 (.goto 5) 5 20 18 := ⟨by decide +kernel, by decide, rfl⟩
theorem d_X_played_18 : DC b_X_played 18 (.bipush (-2)) 2 20 := ⟨by decide +kernel, rfl⟩
theorem d_X_played_20 : decode b_X_played 20 = .ok (.ireturn, 1) := by decide +kernel
theorem c_X_played {l : Launch} {Y : Lay} (hY : IsX Y) {μ : Mem} {x1 : Int32} {r : Int32} (hf : f_X_played μ x1 = some r) : Ct l Y y_X_played b_X_played 2 (some .int) 2 [.ref (yad Y 0), .int x1] (some (.int r)) μ μ := by
  refine ct_of (own := "TopYard") (lv := [(0, .ref (yad Y 0)), (1, .int x1)]) (by decide +kernel) rfl (Nat.le_of_ble_eq_true rfl) rfl (fun X hl C => ?_)
  subst hl
  unfold f_X_played at hf
  refine j_iload_n C d_X_played_0 1 rfl ?_
  refine j_iconst (v := 0) C d_X_played_1 (by decide) ?_
  refine j_iconst (v := 3) C d_X_played_2 (by decide) ?_
  refine bd hf (fun v1 hc3 hf => ?_)
  refine j_cS (rest := []) C lk_X_90 (c_X_within hY hc3) rfl (by decide) rfl (Nat.le_of_ble_eq_true rfl) d_X_played_3 ?_
  refine j_if_eq C d_X_played_6 hf (fun hf => ?_) (fun hf => ?_)
  · refine j_bipush (v := (-2)) C d_X_played_18 (by decide) ?_
    obtain rfl := Option.some.inj hf
    exact j_iret C d_X_played_20
  · refine j_aload_n C d_X_played_9 0 rfl ?_
    refine j_gS (b := 42) C fl_X_61 (kX hY rfl) (nX hY (by decide)) rfl hY.2.2.2.1 rfl (sX hY rfl) d_X_played_10 ?_
    refine j_iload_n C d_X_played_13 1 rfl ?_
    refine ck hf (fun hi2 hf => ?_)
    refine j_iald C (kX hY rfl) (nX hY (by decide)) (lX hY rfl) hi2 d_X_played_14 ?_
    refine j_goto C d_X_played_15 ?_
    obtain rfl := Option.some.inj hf
    exact j_iret C d_X_played_20
theorem d_X_met_0 : DC b_X_met 0 (.iload_n 1) 1 1 := ⟨by decide +kernel, rfl⟩
theorem d_X_met_1 : DC b_X_met 1 (.invokestatic 103) 3 4 := ⟨by decide +kernel, rfl⟩
theorem d_X_met_4 : DB b_X_met 4 (.ifCond .eq 15) 15 19 7 := ⟨by decide +kernel, by decide, rfl⟩
theorem d_X_met_7 : DC b_X_met 7 (.iload_n 2) 1 8 := ⟨by decide +kernel, rfl⟩
theorem d_X_met_8 : DC b_X_met 8 (.invokestatic 103) 3 11 := ⟨by decide +kernel, rfl⟩
theorem d_X_met_11 : DB b_X_met 11 (.ifCond .eq 8) 8 19 14 := ⟨by decide +kernel, by decide, rfl⟩
theorem d_X_met_14 : DC b_X_met 14 (.iload_n 1) 1 15 := ⟨by decide +kernel, rfl⟩
theorem d_X_met_15 : DC b_X_met 15 (.iload_n 2) 1 16 := ⟨by decide +kernel, rfl⟩
theorem d_X_met_16 : DB b_X_met 16 (.if_icmp .ne 6) 6 22 19 := ⟨by decide +kernel, by decide, rfl⟩
theorem d_X_met_19 : DC b_X_met 19 (.bipush (-2)) 2 21 := ⟨by decide +kernel, rfl⟩
theorem d_X_met_21 : decode b_X_met 21 = .ok (.ireturn, 1) := by decide +kernel
theorem d_X_met_22 : DC b_X_met 22 (.aload_n 0) 1 23 := ⟨by decide +kernel, rfl⟩
theorem d_X_met_23 : DC b_X_met 23 (.getfield 64) 3 26 := ⟨by decide +kernel, rfl⟩
theorem d_X_met_26 : DC b_X_met 26 (.iload_n 1) 1 27 := ⟨by decide +kernel, rfl⟩
theorem d_X_met_27 : DC b_X_met 27 (.bipush 8) 2 29 := ⟨by decide +kernel, rfl⟩
theorem d_X_met_29 : DC b_X_met 29 (.imul) 1 30 := ⟨by decide +kernel, rfl⟩
theorem d_X_met_30 : DC b_X_met 30 (.iload_n 2) 1 31 := ⟨by decide +kernel, rfl⟩
theorem d_X_met_31 : DC b_X_met 31 (.iadd) 1 32 := ⟨by decide +kernel, rfl⟩
theorem d_X_met_32 : DC b_X_met 32 (.iaload) 1 33 := ⟨by decide +kernel, rfl⟩
theorem d_X_met_33 : decode b_X_met 33 = .ok (.ireturn, 1) := by decide +kernel
theorem c_X_met {l : Launch} {Y : Lay} (hY : IsX Y) {μ : Mem} {x1 : Int32} {x2 : Int32} {r : Int32} (hf : f_X_met μ x1 x2 = some r) : Ct l Y y_X_met b_X_met 3 (some .int) 2 [.ref (yad Y 0), .int x1, .int x2] (some (.int r)) μ μ := by
  refine ct_of (own := "TopYard") (lv := [(0, .ref (yad Y 0)), (1, .int x1), (2, .int x2)]) (by decide +kernel) rfl (Nat.le_of_ble_eq_true rfl) rfl (fun X hl C => ?_)
  subst hl
  unfold f_X_met at hf
  refine j_iload_n C d_X_met_0 1 rfl ?_
  refine bd hf (fun v1 hc5 hf => ?_)
  refine j_cS (rest := []) C lk_X_103 (c_X_isOwner hY hc5) rfl (by decide) rfl (Nat.le_of_ble_eq_true rfl) d_X_met_1 ?_
  refine j_if_eq C d_X_met_4 hf (fun hf => ?_) (fun hf => ?_)
  · refine j_bipush (v := (-2)) C d_X_met_19 (by decide) ?_
    obtain rfl := Option.some.inj hf
    exact j_iret C d_X_met_21
  · refine j_iload_n C d_X_met_7 2 rfl ?_
    refine bd hf (fun v2 hc4 hf => ?_)
    refine j_cS (rest := []) C lk_X_103 (c_X_isOwner hY hc4) rfl (by decide) rfl (Nat.le_of_ble_eq_true rfl) d_X_met_8 ?_
    refine j_if_eq C d_X_met_11 hf (fun hf => ?_) (fun hf => ?_)
    · refine j_bipush (v := (-2)) C d_X_met_19 (by decide) ?_
      obtain rfl := Option.some.inj hf
      exact j_iret C d_X_met_21
    · refine j_iload_n C d_X_met_14 1 rfl ?_
      refine j_iload_n C d_X_met_15 2 rfl ?_
      refine j_icmp_ne C d_X_met_16 hf (fun hf => ?_) (fun hf => ?_)
      · refine j_aload_n C d_X_met_22 0 rfl ?_
        refine j_gS (b := 43) C fl_X_64 (kX hY rfl) (nX hY (by decide)) rfl hY.2.2.2.1 rfl (sX hY rfl) d_X_met_23 ?_
        refine j_iload_n C d_X_met_26 1 rfl ?_
        refine j_bipush (v := 8) C d_X_met_27 (by decide) ?_
        refine j_imul C d_X_met_29 ?_
        refine j_iload_n C d_X_met_30 2 rfl ?_
        refine j_iadd C d_X_met_31 ?_
        refine ck hf (fun hi3 hf => ?_)
        refine j_iald C (kX hY rfl) (nX hY (by decide)) (lX hY rfl) hi3 d_X_met_32 ?_
        obtain rfl := Option.some.inj hf
        exact j_iret C d_X_met_33
      · refine j_bipush (v := (-2)) C d_X_met_19 (by decide) ?_
        obtain rfl := Option.some.inj hf
        exact j_iret C d_X_met_21
theorem d_X_costOfPair_0 : DC b_X_costOfPair 0 (.iload_n 1) 1 1 := ⟨by decide +kernel, rfl⟩
theorem d_X_costOfPair_1 : DC b_X_costOfPair 1 (.invokestatic 103) 3 4 := ⟨by decide +kernel, rfl⟩
theorem d_X_costOfPair_4 : DB b_X_costOfPair 4 (.ifCond .eq 10) 10 14 7 := ⟨by decide +kernel, by decide, rfl⟩
theorem d_X_costOfPair_7 : DC b_X_costOfPair 7 (.iload_n 2) 1 8 := ⟨by decide +kernel, rfl⟩
theorem d_X_costOfPair_8 : DC b_X_costOfPair 8 (.invokestatic 103) 3 11 := ⟨by decide +kernel, rfl⟩
theorem d_X_costOfPair_11 : DB b_X_costOfPair 11 (.ifCond .ne 5) 5 16 14 := ⟨by decide +kernel, by decide, rfl⟩
theorem d_X_costOfPair_14 : DC b_X_costOfPair 14 (.lconst 0) 1 15 := ⟨by decide +kernel, rfl⟩
theorem d_X_costOfPair_15 : decode b_X_costOfPair 15 = .ok (.lreturn, 1) := by decide +kernel
theorem d_X_costOfPair_16 : DC b_X_costOfPair 16 (.aload_n 0) 1 17 := ⟨by decide +kernel, rfl⟩
theorem d_X_costOfPair_17 : DC b_X_costOfPair 17 (.iload_n 1) 1 18 := ⟨by decide +kernel, rfl⟩
theorem d_X_costOfPair_18 : DC b_X_costOfPair 18 (.bipush 8) 2 20 := ⟨by decide +kernel, rfl⟩
theorem d_X_costOfPair_20 : DC b_X_costOfPair 20 (.imul) 1 21 := ⟨by decide +kernel, rfl⟩
theorem d_X_costOfPair_21 : DC b_X_costOfPair 21 (.iload_n 2) 1 22 := ⟨by decide +kernel, rfl⟩
theorem d_X_costOfPair_22 : DC b_X_costOfPair 22 (.iadd) 1 23 := ⟨by decide +kernel, rfl⟩
theorem d_X_costOfPair_23 : DC b_X_costOfPair 23 (.iaload) 1 24 := ⟨by decide +kernel, rfl⟩
theorem d_X_costOfPair_24 : DC b_X_costOfPair 24 (.i2l) 1 25 := ⟨by decide +kernel, rfl⟩
theorem d_X_costOfPair_25 : DC b_X_costOfPair 25 (.lconst 1) 1 26 := ⟨by decide +kernel, rfl⟩
theorem d_X_costOfPair_26 : DC b_X_costOfPair 26 (.ladd) 1 27 := ⟨by decide +kernel, rfl⟩
theorem d_X_costOfPair_27 : DC b_X_costOfPair 27 (.lstore_n 3) 1 28 := ⟨by decide +kernel, rfl⟩
theorem d_X_costOfPair_28 : DC b_X_costOfPair 28 (.lload_n 3) 1 29 := ⟨by decide +kernel, rfl⟩
theorem d_X_costOfPair_29 : DC b_X_costOfPair 29 (.lload_n 3) 1 30 := ⟨by decide +kernel, rfl⟩
theorem d_X_costOfPair_30 : DC b_X_costOfPair 30 (.lmul) 1 31 := ⟨by decide +kernel, rfl⟩
theorem d_X_costOfPair_31 : decode b_X_costOfPair 31 = .ok (.lreturn, 1) := by decide +kernel
theorem c_X_costOfPair {l : Launch} {Y : Lay} (hY : IsX Y) {μ : Mem} {x1 : Int32} {x2 : Int32} {r : Int64} (hf : f_X_costOfPair μ x1 x2 = some r) : Ct l Y y_X_costOfPair b_X_costOfPair 5 (some .long) 2 [.ref (yad Y 43), .int x1, .int x2] (some (.long r)) μ μ := by
  refine ct_of (own := "TopYard") (lv := [(0, .ref (yad Y 43)), (1, .int x1), (2, .int x2)]) (by decide +kernel) rfl (Nat.le_of_ble_eq_true rfl) rfl (fun X hl C => ?_)
  subst hl
  unfold f_X_costOfPair at hf
  refine j_iload_n C d_X_costOfPair_0 1 rfl ?_
  refine bd hf (fun v1 hc6 hf => ?_)
  refine j_cS (rest := []) C lk_X_103 (c_X_isOwner hY hc6) rfl (by decide) rfl (Nat.le_of_ble_eq_true rfl) d_X_costOfPair_1 ?_
  refine j_if_eq C d_X_costOfPair_4 hf (fun hf => ?_) (fun hf => ?_)
  · refine j_lconst (v := 0) C d_X_costOfPair_14 (by decide) ?_
    obtain rfl := Option.some.inj hf
    exact j_lret C d_X_costOfPair_15
  · refine j_iload_n C d_X_costOfPair_7 2 rfl ?_
    refine bd hf (fun v2 hc5 hf => ?_)
    refine j_cS (rest := []) C lk_X_103 (c_X_isOwner hY hc5) rfl (by decide) rfl (Nat.le_of_ble_eq_true rfl) d_X_costOfPair_8 ?_
    refine j_if_ne C d_X_costOfPair_11 hf (fun hf => ?_) (fun hf => ?_)
    · refine j_aload_n C d_X_costOfPair_16 0 rfl ?_
      refine j_iload_n C d_X_costOfPair_17 1 rfl ?_
      refine j_bipush (v := 8) C d_X_costOfPair_18 (by decide) ?_
      refine j_imul C d_X_costOfPair_20 ?_
      refine j_iload_n C d_X_costOfPair_21 2 rfl ?_
      refine j_iadd C d_X_costOfPair_22 ?_
      refine ck hf (fun hi3 hf => ?_)
      refine j_iald C (kX hY rfl) (nX hY (by decide)) (lX hY rfl) hi3 d_X_costOfPair_23 ?_
      refine j_i2l C d_X_costOfPair_24 ?_
      refine j_lconst (v := 1) C d_X_costOfPair_25 (by decide) ?_
      refine j_ladd C d_X_costOfPair_26 ?_
      refine j_lstore_nN (lvf := [(0, .ref (yad Y 43)), (1, .int x1), (2, .int x2)]) C d_X_costOfPair_27 (by decide) rfl hf (fun v4 hf => ?_)
      refine j_lload_n C d_X_costOfPair_28 0 rfl ?_
      refine j_lload_n C d_X_costOfPair_29 0 rfl ?_
      refine j_lmul C d_X_costOfPair_30 ?_
      obtain rfl := Option.some.inj hf
      exact j_lret C d_X_costOfPair_31
    · refine j_lconst (v := 0) C d_X_costOfPair_14 (by decide) ?_
      obtain rfl := Option.some.inj hf
      exact j_lret C d_X_costOfPair_15
theorem d_JM_max2_0 : DC b_JM_max2 0 (.lload_n 0) 1 1 := ⟨by decide +kernel, rfl⟩
theorem d_JM_max2_1 : DC b_JM_max2 1 (.lload_n 2) 1 2 := ⟨by decide +kernel, rfl⟩
theorem d_JM_max2_2 : DC b_JM_max2 2 (.lcmp) 1 3 := ⟨by decide +kernel, rfl⟩
theorem d_JM_max2_3 : DB b_JM_max2 3 (.ifCond .lt 7) 7 10 6 := ⟨by decide +kernel, by decide, rfl⟩
theorem d_JM_max2_6 : DC b_JM_max2 6 (.lload_n 0) 1 7 := ⟨by decide +kernel, rfl⟩
theorem d_JM_max2_7 : DB b_JM_max2 7 (.goto 4) 4 11 10 := ⟨by decide +kernel, by decide, rfl⟩
theorem d_JM_max2_10 : DC b_JM_max2 10 (.lload_n 2) 1 11 := ⟨by decide +kernel, rfl⟩
theorem d_JM_max2_11 : decode b_JM_max2 11 = .ok (.lreturn, 1) := by decide +kernel
theorem c_JM_max2 {l : Launch} {Y : Lay} (hY : IsX Y) {μ : Mem} {x0 : Int64} {x2 : Int64} {r : Int64} (hf : f_JM_max2 x0 x2 = some r) : Ct l Y y_JM_max2 b_JM_max2 4 (some .long) 1 [.long x0, .long x2] (some (.long r)) μ μ := by
  refine ct_of (own := "java/lang/Math") (lv := [(0, .long x0), (2, .long x2)]) (by decide +kernel) rfl (Nat.le_of_ble_eq_true rfl) rfl (fun X hl C => ?_)
  subst hl
  unfold f_JM_max2 at hf
  refine j_lload_n C d_JM_max2_0 0 rfl ?_
  refine j_lload_n C d_JM_max2_1 1 rfl ?_
  refine j_lcmp_lt C d_JM_max2_2 d_JM_max2_3 hf (fun hf => ?_) (fun hf => ?_)
  · refine j_lload_n C d_JM_max2_10 1 rfl ?_
    obtain rfl := Option.some.inj hf
    exact j_lret C d_JM_max2_11
  · refine j_lload_n C d_JM_max2_6 0 rfl ?_
    refine j_goto C d_JM_max2_7 ?_
    obtain rfl := Option.some.inj hf
    exact j_lret C d_JM_max2_11
theorem d_X_leastCost_0 : DC b_X_leastCost 0 (.iload_n 1) 1 1 := ⟨by decide +kernel, rfl⟩
theorem d_X_leastCost_1 : DB b_X_leastCost 1 (.ifCond .eq 7) 7 8 4 := ⟨by decide +kernel, by decide, rfl⟩
theorem d_X_leastCost_4 : DC b_X_leastCost 4 (.iload_n 2) 1 5 := ⟨by decide +kernel, rfl⟩
theorem d_X_leastCost_5 : DB b_X_leastCost 5 (.ifCond .gt 5) 5 10 8 := ⟨by decide +kernel, by decide, rfl⟩
theorem d_X_leastCost_8 : DC b_X_leastCost 8 (.lconst 0) 1 9 := ⟨by decide +kernel, rfl⟩
theorem d_X_leastCost_9 : decode b_X_leastCost 9 = .ok (.lreturn, 1) := by decide +kernel
theorem d_X_leastCost_10 : DC b_X_leastCost 10 (.iload_n 1) 1 11 := ⟨by decide +kernel, rfl⟩
theorem d_X_leastCost_11 : DC b_X_leastCost 11 (.invokestatic 438) 3 14 := ⟨by decide +kernel, rfl⟩
theorem d_X_leastCost_14 : DC b_X_leastCost 14 (.istore_n 3) 1 15 := ⟨by decide +kernel, rfl⟩
theorem d_X_leastCost_15 : DC b_X_leastCost 15 (.ldc2_w 452) 3 18 := ⟨by decide +kernel, rfl⟩
theorem d_X_leastCost_18 : DC b_X_leastCost 18 (.lstore 4) 2 20 := ⟨by decide +kernel, rfl⟩
theorem d_X_leastCost_20 : DC b_X_leastCost 20 (.iload_n 3) 1 21 := ⟨by decide +kernel, rfl⟩
theorem d_X_leastCost_21 : DC b_X_leastCost 21 (.iconst 1) 1 22 := ⟨by decide +kernel, rfl⟩
theorem d_X_leastCost_22 : DC b_X_leastCost 22 (.iadd) 1 23 := ⟨by decide +kernel, rfl⟩
theorem d_X_leastCost_23 : DC b_X_leastCost 23 (.istore 6) 2 25 := ⟨by decide +kernel, rfl⟩
theorem d_X_leastCost_25 : DC b_X_leastCost 25 (.iload 6) 2 27 := ⟨by decide +kernel, rfl⟩
theorem d_X_leastCost_27 : DC b_X_leastCost 27 (.bipush 8) 2 29 := ⟨by decide +kernel, rfl⟩
theorem d_X_leastCost_29 : DB b_X_leastCost 29 (.if_icmp .ge 75) 75 104 32 := ⟨by decide +kernel, by decide, rfl⟩
theorem d_X_leastCost_32 : DC b_X_leastCost 32 (.iload_n 1) 1 33 := ⟨by decide +kernel, rfl⟩
theorem d_X_leastCost_33 : DC b_X_leastCost 33 (.iload 6) 2 35 := ⟨by decide +kernel, rfl⟩
theorem d_X_leastCost_35 : DC b_X_leastCost 35 (.ishr) 1 36 := ⟨by decide +kernel, rfl⟩
theorem d_X_leastCost_36 : DC b_X_leastCost 36 (.iconst 1) 1 37 := ⟨by decide +kernel, rfl⟩
theorem d_X_leastCost_37 : DC b_X_leastCost 37 (.iand) 1 38 := ⟨by decide +kernel, rfl⟩
theorem d_X_leastCost_38 : DB b_X_leastCost 38 (.ifCond .eq 60) 60 98 41 := ⟨by decide +kernel, by decide, rfl⟩
theorem d_X_leastCost_41 : DC b_X_leastCost 41 (.iload_n 1) 1 42 := ⟨by decide +kernel, rfl⟩
theorem d_X_leastCost_42 : DC b_X_leastCost 42 (.iconst 1) 1 43 := ⟨by decide +kernel, rfl⟩
theorem d_X_leastCost_43 : DC b_X_leastCost 43 (.iload_n 3) 1 44 := ⟨by decide +kernel, rfl⟩
theorem d_X_leastCost_44 : DC b_X_leastCost 44 (.ishl) 1 45 := ⟨by decide +kernel, rfl⟩
theorem d_X_leastCost_45 : DC b_X_leastCost 45 (.iconst 1) 1 46 := ⟨by decide +kernel, rfl⟩
theorem d_X_leastCost_46 : DC b_X_leastCost 46 (.iload 6) 2 48 := ⟨by decide +kernel, rfl⟩
theorem d_X_leastCost_48 : DC b_X_leastCost 48 (.ishl) 1 49 := ⟨by decide +kernel, rfl⟩
theorem d_X_leastCost_49 : DC b_X_leastCost 49 (.ior) 1 50 := ⟨by decide +kernel, rfl⟩
theorem d_X_leastCost_50 : DC b_X_leastCost 50 (.iconst (-1)) 1 51 := ⟨by decide +kernel, rfl⟩
theorem d_X_leastCost_51 : DC b_X_leastCost 51 (.ixor) 1 52 := ⟨by decide +kernel, rfl⟩
theorem d_X_leastCost_52 : DC b_X_leastCost 52 (.iand) 1 53 := ⟨by decide +kernel, rfl⟩
theorem d_X_leastCost_53 : DC b_X_leastCost 53 (.istore 7) 2 55 := ⟨by decide +kernel, rfl⟩
theorem d_X_leastCost_55 : DC b_X_leastCost 55 (.aload_n 0) 1 56 := ⟨by decide +kernel, rfl⟩
theorem d_X_leastCost_56 : DC b_X_leastCost 56 (.iload_n 3) 1 57 := ⟨by decide +kernel, rfl⟩
theorem d_X_leastCost_57 : DC b_X_leastCost 57 (.iload 6) 2 59 := ⟨by decide +kernel, rfl⟩
theorem d_X_leastCost_59 : DC b_X_leastCost 59 (.invokestatic 445) 3 62 := ⟨by decide +kernel, rfl⟩
theorem d_X_leastCost_62 : DC b_X_leastCost 62 (.aload_n 0) 1 63 := ⟨by decide +kernel, rfl⟩
theorem d_X_leastCost_63 : DC b_X_leastCost 63 (.iload 7) 2 65 := ⟨by decide +kernel, rfl⟩
theorem d_X_leastCost_65 : DC b_X_leastCost 65 (.iload_n 2) 1 66 := ⟨by decide +kernel, rfl⟩
theorem d_X_leastCost_66 : DC b_X_leastCost 66 (.iconst 1) 1 67 := ⟨by decide +kernel, rfl⟩
theorem d_X_leastCost_67 : DC b_X_leastCost 67 (.isub) 1 68 := ⟨by decide +kernel, rfl⟩
theorem d_X_leastCost_68 : DC b_X_leastCost 68 (.invokestatic 449) 3 71 := ⟨by decide +kernel, rfl⟩
theorem d_X_leastCost_71 : DC b_X_leastCost 71 (.ladd) 1 72 := ⟨by decide +kernel, rfl⟩
theorem d_X_leastCost_72 : DC b_X_leastCost 72 (.lstore 8) 2 74 := ⟨by decide +kernel, rfl⟩
theorem d_X_leastCost_74 : DC b_X_leastCost 74 (.lload 4) 2 76 := ⟨by decide +kernel, rfl⟩
theorem d_X_leastCost_76 : DC b_X_leastCost 76 (.lconst 0) 1 77 := ⟨by decide +kernel, rfl⟩
theorem d_X_leastCost_77 : DC b_X_leastCost 77 (.lcmp) 1 78 := ⟨by decide +kernel, rfl⟩
theorem d_X_leastCost_78 : DB b_X_leastCost 78 (.ifCond .lt 11) 11 89 81 := ⟨by decide +kernel, by decide, rfl⟩
theorem d_X_leastCost_81 : DC b_X_leastCost 81 (.lload 8) 2 83 := ⟨by decide +kernel, rfl⟩
theorem d_X_leastCost_83 : DC b_X_leastCost 83 (.lload 4) 2 85 := ⟨by decide +kernel, rfl⟩
theorem d_X_leastCost_85 : DC b_X_leastCost 85 (.lcmp) 1 86 := ⟨by decide +kernel, rfl⟩
theorem d_X_leastCost_86 : DB b_X_leastCost 86 (.ifCond .ge 8) 8 94 89 := ⟨by decide +kernel, by decide, rfl⟩
theorem d_X_leastCost_89 : DC b_X_leastCost 89 (.lload 8) 2 91 := ⟨by decide +kernel, rfl⟩
theorem d_X_leastCost_91 : DB b_X_leastCost 91 (.goto 5) 5 96 94 := ⟨by decide +kernel, by decide, rfl⟩
theorem d_X_leastCost_94 : DC b_X_leastCost 94 (.lload 4) 2 96 := ⟨by decide +kernel, rfl⟩
theorem d_X_leastCost_96 : DC b_X_leastCost 96 (.lstore 4) 2 98 := ⟨by decide +kernel, rfl⟩
theorem d_X_leastCost_98 : DC b_X_leastCost 98 (.iinc 6 1) 3 101 := ⟨by decide +kernel, rfl⟩
theorem d_X_leastCost_101 : DB b_X_leastCost 101 (.goto (-76)) (-76) 25 104 := ⟨by decide +kernel, by decide, rfl⟩
theorem d_X_leastCost_104 : DC b_X_leastCost 104 (.lconst 0) 1 105 := ⟨by decide +kernel, rfl⟩
theorem d_X_leastCost_105 : DC b_X_leastCost 105 (.lload 4) 2 107 := ⟨by decide +kernel, rfl⟩
theorem d_X_leastCost_107 : DC b_X_leastCost 107 (.invokestatic 454) 3 110 := ⟨by decide +kernel, rfl⟩
theorem d_X_leastCost_110 : decode b_X_leastCost 110 = .ok (.lreturn, 1) := by decide +kernel
theorem w_X_leastCost_b98 {X : Ctx} {Y : Lay} {dp : Nat} (hY : IsX Y) (C : Cx X Y b_X_leastCost 10 (some .long) "TopYard" (3 + dp + 1)) {rc : Int32 → Int32 → Option (Int64)} {N : Nat} {μ : Mem} {r : Int64} (hrc : ∀ (x1 : Int32) (x2 : Int32) (r : Int64), rc x1 x2 = some r → Ct (xl X) Y y_X_leastCost b_X_leastCost 10 (some .long) (3 + dp) [.ref (yad Y 43), .int x1, .int x2] (some (.long r)) μ μ) (k25 : Int32 → Int32 → Int32 → Int64 → Int32 → Option (Int64)) (hk25 : ∀ (x1 : Int32) (x2 : Int32) (x3 : Int32) (x4 : Int64) (x6 : Int32), k25 x1 x2 x3 x4 x6 = some r → J X Y (some (.long r)) μ 10 25 [(0, .ref (yad Y 43)), (1, .int x1), (2, .int x2), (3, .int x3), (4, .long x4), (6, .int x6)] [] μ) (x1 : Int32) (x2 : Int32) (x3 : Int32) (x4 : Int64) (x6 : Int32) (hf : f_X_leastCost_b98 rc N μ k25 x1 x2 x3 x4 x6 = some r) : J X Y (some (.long r)) μ 10 98 [(0, .ref (yad Y 43)), (1, .int x1), (2, .int x2), (3, .int x3), (4, .long x4), (6, .int x6)] [] μ := by
  unfold f_X_leastCost_b98 at hf
  refine j_iinc (lvf := [(0, .ref (yad Y 43)), (1, .int x1), (2, .int x2), (3, .int x3), (4, .long x4)]) (v := 1) C d_X_leastCost_98 5 rfl (by decide) (by decide) rfl hf (fun v1 hf => ?_)
  refine j_goto C d_X_leastCost_101 ?_
  refine j_sub [1, 2, 3, 4, 5, 0] rfl ?_
  exact hk25 x1 x2 x3 x4 v1 hf
theorem w_X_leastCost_b96 {X : Ctx} {Y : Lay} {dp : Nat} (hY : IsX Y) (C : Cx X Y b_X_leastCost 10 (some .long) "TopYard" (3 + dp + 1)) {rc : Int32 → Int32 → Option (Int64)} {N : Nat} {μ : Mem} {r : Int64} (hrc : ∀ (x1 : Int32) (x2 : Int32) (r : Int64), rc x1 x2 = some r → Ct (xl X) Y y_X_leastCost b_X_leastCost 10 (some .long) (3 + dp) [.ref (yad Y 43), .int x1, .int x2] (some (.long r)) μ μ) (k25 : Int32 → Int32 → Int32 → Int64 → Int32 → Option (Int64)) (hk25 : ∀ (x1 : Int32) (x2 : Int32) (x3 : Int32) (x4 : Int64) (x6 : Int32), k25 x1 x2 x3 x4 x6 = some r → J X Y (some (.long r)) μ 10 25 [(0, .ref (yad Y 43)), (1, .int x1), (2, .int x2), (3, .int x3), (4, .long x4), (6, .int x6)] [] μ) (x1 : Int32) (x2 : Int32) (x3 : Int32) (x6 : Int32) (xs0 : Int64) (hf : f_X_leastCost_b96 rc N μ k25 x1 x2 x3 x6 xs0 = some r) : J X Y (some (.long r)) μ 10 96 [(0, .ref (yad Y 43)), (1, .int x1), (2, .int x2), (3, .int x3), (6, .int x6)] [.long xs0] μ := by
  unfold f_X_leastCost_b96 at hf
  refine j_lstore (lvf := [(0, .ref (yad Y 43)), (1, .int x1), (2, .int x2), (3, .int x3), (6, .int x6)]) C d_X_leastCost_96 (by decide) rfl ?_
  refine j_sub [1, 2, 3, 4, 0, 5] rfl ?_
  exact w_X_leastCost_b98 hY C hrc k25 hk25 x1 x2 x3 xs0 x6 hf
theorem w_X_leastCost_b89 {X : Ctx} {Y : Lay} {dp : Nat} (hY : IsX Y) (C : Cx X Y b_X_leastCost 10 (some .long) "TopYard" (3 + dp + 1)) {rc : Int32 → Int32 → Option (Int64)} {N : Nat} {μ : Mem} {r : Int64} (hrc : ∀ (x1 : Int32) (x2 : Int32) (r : Int64), rc x1 x2 = some r → Ct (xl X) Y y_X_leastCost b_X_leastCost 10 (some .long) (3 + dp) [.ref (yad Y 43), .int x1, .int x2] (some (.long r)) μ μ) (k25 : Int32 → Int32 → Int32 → Int64 → Int32 → Option (Int64)) (hk25 : ∀ (x1 : Int32) (x2 : Int32) (x3 : Int32) (x4 : Int64) (x6 : Int32), k25 x1 x2 x3 x4 x6 = some r → J X Y (some (.long r)) μ 10 25 [(0, .ref (yad Y 43)), (1, .int x1), (2, .int x2), (3, .int x3), (4, .long x4), (6, .int x6)] [] μ) (x1 : Int32) (x2 : Int32) (x3 : Int32) (x6 : Int32) (x8 : Int64) (hf : f_X_leastCost_b89 rc N μ k25 x1 x2 x3 x6 x8 = some r) : J X Y (some (.long r)) μ 10 89 [(0, .ref (yad Y 43)), (1, .int x1), (2, .int x2), (3, .int x3), (6, .int x6), (8, .long x8)] [] μ := by
  unfold f_X_leastCost_b89 at hf
  refine j_lload C d_X_leastCost_89 5 rfl ?_
  refine j_goto C d_X_leastCost_91 ?_
  refine j_sub [0, 1, 2, 3, 4] rfl ?_
  exact w_X_leastCost_b96 hY C hrc k25 hk25 x1 x2 x3 x6 x8 hf
theorem w_X_leastCost_l25 {X : Ctx} {Y : Lay} {dp : Nat} (hY : IsX Y) (C : Cx X Y b_X_leastCost 10 (some .long) "TopYard" (3 + dp + 1)) {rc : Int32 → Int32 → Option (Int64)} {N : Nat} {μ : Mem} {r : Int64} (hrc : ∀ (x1 : Int32) (x2 : Int32) (r : Int64), rc x1 x2 = some r → Ct (xl X) Y y_X_leastCost b_X_leastCost 10 (some .long) (3 + dp) [.ref (yad Y 43), .int x1, .int x2] (some (.long r)) μ μ) : ∀ (n : Nat) (x1 : Int32) (x2 : Int32) (x3 : Int32) (x4 : Int64) (x6 : Int32), f_X_leastCost_l25 rc N μ n x1 x2 x3 x4 x6 = some r → J X Y (some (.long r)) μ 10 25 [(0, .ref (yad Y 43)), (1, .int x1), (2, .int x2), (3, .int x3), (4, .long x4), (6, .int x6)] [] μ := by
  intro n
  induction n with
  | zero => intro x1 x2 x3 x4 x6 hf; rw [f_X_leastCost_l25] at hf; cases hf
  | succ n ih =>
    intro x1 x2 x3 x4 x6 hf
    rw [f_X_leastCost_l25] at hf
    refine j_iload C d_X_leastCost_25 5 rfl ?_
    refine j_bipush (v := 8) C d_X_leastCost_27 (by decide) ?_
    refine j_icmp_ge C d_X_leastCost_29 hf (fun hf => ?_) (fun hf => ?_)
    · refine j_lconst (v := 0) C d_X_leastCost_104 (by decide) ?_
      refine j_lload C d_X_leastCost_105 4 rfl ?_
      refine bd hf (fun v1 hc2 hf => ?_)
      refine j_cS (rest := []) C lk_X_454 (c_JM_max2 hY hc2) rfl (by omega) rfl (Nat.le_of_ble_eq_true rfl) d_X_leastCost_107 ?_
      obtain rfl := Option.some.inj hf
      exact j_lret C d_X_leastCost_110
    · refine j_iload_n C d_X_leastCost_32 1 rfl ?_
      refine j_iload C d_X_leastCost_33 5 rfl ?_
      refine j_ishr C d_X_leastCost_35 ?_
      refine j_iconst (v := 1) C d_X_leastCost_36 (by decide) ?_
      refine j_iand C d_X_leastCost_37 ?_
      refine j_if_eq C d_X_leastCost_38 hf (fun hf => ?_) (fun hf => ?_)
      · refine j_sub [0, 1, 2, 3, 4, 5] rfl ?_
        exact w_X_leastCost_b98 hY C hrc (f_X_leastCost_l25 rc N μ n) ih x1 x2 x3 x4 x6 hf
      · refine j_iload_n C d_X_leastCost_41 1 rfl ?_
        refine j_iconst (v := 1) C d_X_leastCost_42 (by decide) ?_
        refine j_iload_n C d_X_leastCost_43 3 rfl ?_
        refine j_ishl C d_X_leastCost_44 ?_
        refine j_iconst (v := 1) C d_X_leastCost_45 (by decide) ?_
        refine j_iload C d_X_leastCost_46 5 rfl ?_
        refine j_ishl C d_X_leastCost_48 ?_
        refine j_ior C d_X_leastCost_49 ?_
        refine j_iconst (v := (-1)) C d_X_leastCost_50 (by decide) ?_
        refine j_ixor C d_X_leastCost_51 ?_
        refine j_iand C d_X_leastCost_52 ?_
        refine j_istoreN (lvf := [(0, .ref (yad Y 43)), (1, .int x1), (2, .int x2), (3, .int x3), (4, .long x4), (6, .int x6)]) C d_X_leastCost_53 (by decide) rfl hf (fun v3 hf => ?_)
        refine j_aload_n C d_X_leastCost_55 1 rfl ?_
        refine j_iload_n C d_X_leastCost_56 4 rfl ?_
        refine j_iload C d_X_leastCost_57 6 rfl ?_
        refine bd hf (fun v4 hc8 hf => ?_)
        refine j_cS (rest := []) C lk_X_445 (c_X_costOfPair hY hc8) rfl (by omega) rfl (Nat.le_of_ble_eq_true rfl) d_X_leastCost_59 ?_
        refine j_aload_n C d_X_leastCost_62 1 rfl ?_
        refine j_iload C d_X_leastCost_63 0 rfl ?_
        refine j_iload_n C d_X_leastCost_65 3 rfl ?_
        refine j_iconst (v := 1) C d_X_leastCost_66 (by decide) ?_
        refine j_isub C d_X_leastCost_67 ?_
        refine bd hf (fun v5 hc7 hf => ?_)
        refine j_cS (rest := [.long v4]) C lk_X_449 (hrc v3 (x2 - 1) _ hc7) rfl (by omega) rfl (Nat.le_of_ble_eq_true rfl) d_X_leastCost_68 ?_
        refine j_ladd C d_X_leastCost_71 ?_
        refine j_lstoreN (lvf := [(7, .int v3), (0, .ref (yad Y 43)), (1, .int x1), (2, .int x2), (3, .int x3), (4, .long x4), (6, .int x6)]) C d_X_leastCost_72 (by decide) rfl hf (fun v6 hf => ?_)
        refine j_lload C d_X_leastCost_74 6 rfl ?_
        refine j_lconst (v := 0) C d_X_leastCost_76 (by decide) ?_
        refine j_lcmp_lt C d_X_leastCost_77 d_X_leastCost_78 hf (fun hf => ?_) (fun hf => ?_)
        · refine j_sub [2, 3, 4, 5, 7, 0] rfl ?_
          exact w_X_leastCost_b89 hY C hrc (f_X_leastCost_l25 rc N μ n) ih x1 x2 x3 x6 v6 hf
        · refine j_lload C d_X_leastCost_81 0 rfl ?_
          refine j_lload C d_X_leastCost_83 6 rfl ?_
          refine j_lcmp_ge C d_X_leastCost_85 d_X_leastCost_86 hf (fun hf => ?_) (fun hf => ?_)
          · refine j_lload C d_X_leastCost_94 6 rfl ?_
            refine j_sub [2, 3, 4, 5, 7] rfl ?_
            exact w_X_leastCost_b96 hY C hrc (f_X_leastCost_l25 rc N μ n) ih x1 x2 x3 x6 x4 hf
          · refine j_sub [2, 3, 4, 5, 7, 0] rfl ?_
            exact w_X_leastCost_b89 hY C hrc (f_X_leastCost_l25 rc N μ n) ih x1 x2 x3 x6 v6 hf
theorem o_X_leastCost {X : Ctx} {Y : Lay} {dp : Nat} (hY : IsX Y) (C : Cx X Y b_X_leastCost 10 (some .long) "TopYard" (3 + dp + 1)) {rc : Int32 → Int32 → Option (Int64)} {N : Nat} {μ : Mem} (hrc : ∀ (x1 : Int32) (x2 : Int32) (r : Int64), rc x1 x2 = some r → Ct (xl X) Y y_X_leastCost b_X_leastCost 10 (some .long) (3 + dp) [.ref (yad Y 43), .int x1, .int x2] (some (.long r)) μ μ) (x1 : Int32) (x2 : Int32) {r : Int64} (hf : f_X_leastCost_o rc N μ x1 x2 = some r) : J X Y (some (.long r)) μ 10 0 [(0, .ref (yad Y 43)), (1, .int x1), (2, .int x2)] [] μ := by
  unfold f_X_leastCost_o at hf
  refine j_iload_n C d_X_leastCost_0 1 rfl ?_
  refine j_if_eq C d_X_leastCost_1 hf (fun hf => ?_) (fun hf => ?_)
  · refine j_lconst (v := 0) C d_X_leastCost_8 (by decide) ?_
    obtain rfl := Option.some.inj hf
    exact j_lret C d_X_leastCost_9
  · refine j_iload_n C d_X_leastCost_4 2 rfl ?_
    refine j_if_gt C d_X_leastCost_5 hf (fun hf => ?_) (fun hf => ?_)
    · refine j_iload_n C d_X_leastCost_10 1 rfl ?_
      refine bd hf (fun v1 hc3 hf => ?_)
      refine j_cS (rest := []) C lk_X_438 (c_JI_numberOfTrailingZeros hY hc3) rfl (by omega) rfl (Nat.le_of_ble_eq_true rfl) d_X_leastCost_11 ?_
      refine j_istore_n (lvf := [(0, .ref (yad Y 43)), (1, .int x1), (2, .int x2)]) C d_X_leastCost_14 (by decide) rfl ?_
      refine j_ldc2 (v := (-1)) C d_X_leastCost_15 wd_125 ?_
      refine j_lstore (lvf := [(3, .int v1), (0, .ref (yad Y 43)), (1, .int x1), (2, .int x2)]) C d_X_leastCost_18 (by decide) rfl ?_
      refine j_iload_n C d_X_leastCost_20 1 rfl ?_
      refine j_iconst (v := 1) C d_X_leastCost_21 (by decide) ?_
      refine j_iadd C d_X_leastCost_22 ?_
      refine j_istoreN (lvf := [(4, .long (-1)), (3, .int v1), (0, .ref (yad Y 43)), (1, .int x1), (2, .int x2)]) C d_X_leastCost_23 (by decide) rfl hf (fun v2 hf => ?_)
      refine j_sub [3, 4, 5, 2, 1, 0] rfl ?_
      exact w_X_leastCost_l25 hY C hrc N x1 x2 v1 (-1) v2 hf
    · refine j_lconst (v := 0) C d_X_leastCost_8 (by decide) ?_
      obtain rfl := Option.some.inj hf
      exact j_lret C d_X_leastCost_9
theorem q_X_leastCost {l : Launch} {Y : Lay} (hY : IsX Y) {N : Nat} {μ : Mem} : ∀ (dp : Nat) (x1 : Int32) (x2 : Int32) {r : Int64}, f_X_leastCost dp N μ x1 x2 = some r → Ct l Y y_X_leastCost b_X_leastCost 10 (some .long) (3 + dp) [.ref (yad Y 43), .int x1, .int x2] (some (.long r)) μ μ := by
  intro dp
  induction dp with
  | zero => intro x1 x2 r hf; rw [f_X_leastCost] at hf; cases hf
  | succ dp ih =>
    intro x1 x2 r hf
    rw [f_X_leastCost] at hf
    refine ct_of (own := "TopYard") (lv := [(0, .ref (yad Y 43)), (1, .int x1), (2, .int x2)]) (by decide +kernel) rfl (Nat.le_of_ble_eq_true rfl) rfl (fun X hl C => ?_)
    subst hl
    exact o_X_leastCost (dp := dp) hY C (fun x1 x2 r h => ih x1 x2 h) x1 x2 hf
theorem c_X_leastCost {l : Launch} {Y : Lay} (hY : IsX Y) {N : Nat} {μ : Mem} {x1 : Int32} {x2 : Int32} {r : Int64} (hf : f_X_leastCost 8 N μ x1 x2 = some r) : Ct l Y y_X_leastCost b_X_leastCost 10 (some .long) 11 [.ref (yad Y 43), .int x1, .int x2] (some (.long r)) μ μ := q_X_leastCost hY 8 x1 x2 hf
theorem d_X_bestMate_0 : DC b_X_bestMate 0 (.iconst (-1)) 1 1 := ⟨by decide +kernel, rfl⟩
theorem d_X_bestMate_1 : DC b_X_bestMate 1 (.istore 4) 2 3 := ⟨by decide +kernel, rfl⟩
theorem d_X_bestMate_3 : DC b_X_bestMate 3 (.lconst 0) 1 4 := ⟨by decide +kernel, rfl⟩
theorem d_X_bestMate_4 : DC b_X_bestMate 4 (.lstore 5) 2 6 := ⟨by decide +kernel, rfl⟩
theorem d_X_bestMate_6 : DC b_X_bestMate 6 (.iload_n 2) 1 7 := ⟨by decide +kernel, rfl⟩
theorem d_X_bestMate_7 : DC b_X_bestMate 7 (.iconst 1) 1 8 := ⟨by decide +kernel, rfl⟩
theorem d_X_bestMate_8 : DC b_X_bestMate 8 (.iadd) 1 9 := ⟨by decide +kernel, rfl⟩
theorem d_X_bestMate_9 : DC b_X_bestMate 9 (.istore 7) 2 11 := ⟨by decide +kernel, rfl⟩
theorem d_X_bestMate_11 : DC b_X_bestMate 11 (.iload 7) 2 13 := ⟨by decide +kernel, rfl⟩
theorem d_X_bestMate_13 : DC b_X_bestMate 13 (.bipush 8) 2 15 := ⟨by decide +kernel, rfl⟩
theorem d_X_bestMate_15 : DB b_X_bestMate 15 (.if_icmp .ge 79) 79 94 18 := ⟨by decide +kernel, by decide, rfl⟩
theorem d_X_bestMate_18 : DC b_X_bestMate 18 (.iload_n 1) 1 19 := ⟨by decide +kernel, rfl⟩
theorem d_X_bestMate_19 : DC b_X_bestMate 19 (.iload 7) 2 21 := ⟨by decide +kernel, rfl⟩
theorem d_X_bestMate_21 : DC b_X_bestMate 21 (.ishr) 1 22 := ⟨by decide +kernel, rfl⟩
theorem d_X_bestMate_22 : DC b_X_bestMate 22 (.iconst 1) 1 23 := ⟨by decide +kernel, rfl⟩
theorem d_X_bestMate_23 : DC b_X_bestMate 23 (.iand) 1 24 := ⟨by decide +kernel, rfl⟩
theorem d_X_bestMate_24 : DB b_X_bestMate 24 (.ifCond .eq 64) 64 88 27 := ⟨by decide +kernel, by decide, rfl⟩
theorem d_X_bestMate_27 : DC b_X_bestMate 27 (.iload_n 1) 1 28 := ⟨by decide +kernel, rfl⟩
theorem d_X_bestMate_28 : DC b_X_bestMate 28 (.iconst 1) 1 29 := ⟨by decide +kernel, rfl⟩
theorem d_X_bestMate_29 : DC b_X_bestMate 29 (.iload_n 2) 1 30 := ⟨by decide +kernel, rfl⟩
theorem d_X_bestMate_30 : DC b_X_bestMate 30 (.ishl) 1 31 := ⟨by decide +kernel, rfl⟩
theorem d_X_bestMate_31 : DC b_X_bestMate 31 (.iconst 1) 1 32 := ⟨by decide +kernel, rfl⟩
theorem d_X_bestMate_32 : DC b_X_bestMate 32 (.iload 7) 2 34 := ⟨by decide +kernel, rfl⟩
theorem d_X_bestMate_34 : DC b_X_bestMate 34 (.ishl) 1 35 := ⟨by decide +kernel, rfl⟩
theorem d_X_bestMate_35 : DC b_X_bestMate 35 (.ior) 1 36 := ⟨by decide +kernel, rfl⟩
theorem d_X_bestMate_36 : DC b_X_bestMate 36 (.iconst (-1)) 1 37 := ⟨by decide +kernel, rfl⟩
theorem d_X_bestMate_37 : DC b_X_bestMate 37 (.ixor) 1 38 := ⟨by decide +kernel, rfl⟩
theorem d_X_bestMate_38 : DC b_X_bestMate 38 (.iand) 1 39 := ⟨by decide +kernel, rfl⟩
theorem d_X_bestMate_39 : DC b_X_bestMate 39 (.istore 8) 2 41 := ⟨by decide +kernel, rfl⟩
theorem d_X_bestMate_41 : DC b_X_bestMate 41 (.aload_n 0) 1 42 := ⟨by decide +kernel, rfl⟩
theorem d_X_bestMate_42 : DC b_X_bestMate 42 (.getfield 64) 3 45 := ⟨by decide +kernel, rfl⟩
theorem d_X_bestMate_45 : DC b_X_bestMate 45 (.iload_n 2) 1 46 := ⟨by decide +kernel, rfl⟩
theorem d_X_bestMate_46 : DC b_X_bestMate 46 (.iload 7) 2 48 := ⟨by decide +kernel, rfl⟩
theorem d_X_bestMate_48 : DC b_X_bestMate 48 (.invokestatic 445) 3 51 := ⟨by decide +kernel, rfl⟩
theorem d_X_bestMate_51 : DC b_X_bestMate 51 (.aload_n 0) 1 52 := ⟨by decide +kernel, rfl⟩
theorem d_X_bestMate_52 : DC b_X_bestMate 52 (.getfield 64) 3 55 := ⟨by decide +kernel, rfl⟩
theorem d_X_bestMate_55 : DC b_X_bestMate 55 (.iload 8) 2 57 := ⟨by decide +kernel, rfl⟩
theorem d_X_bestMate_57 : DC b_X_bestMate 57 (.iload_n 3) 1 58 := ⟨by decide +kernel, rfl⟩
theorem d_X_bestMate_58 : DC b_X_bestMate 58 (.iconst 1) 1 59 := ⟨by decide +kernel, rfl⟩
theorem d_X_bestMate_59 : DC b_X_bestMate 59 (.isub) 1 60 := ⟨by decide +kernel, rfl⟩
theorem d_X_bestMate_60 : DC b_X_bestMate 60 (.invokestatic 449) 3 63 := ⟨by decide +kernel, rfl⟩
theorem d_X_bestMate_63 : DC b_X_bestMate 63 (.ladd) 1 64 := ⟨by decide +kernel, rfl⟩
theorem d_X_bestMate_64 : DC b_X_bestMate 64 (.lstore 9) 2 66 := ⟨by decide +kernel, rfl⟩
theorem d_X_bestMate_66 : DC b_X_bestMate 66 (.iload 4) 2 68 := ⟨by decide +kernel, rfl⟩
theorem d_X_bestMate_68 : DC b_X_bestMate 68 (.iconst (-1)) 1 69 := ⟨by decide +kernel, rfl⟩
theorem d_X_bestMate_69 : DB b_X_bestMate 69 (.if_icmp .eq 11) 11 80 72 := ⟨by decide +kernel, by decide, rfl⟩
theorem d_X_bestMate_72 : DC b_X_bestMate 72 (.lload 9) 2 74 := ⟨by decide +kernel, rfl⟩
theorem d_X_bestMate_74 : DC b_X_bestMate 74 (.lload 5) 2 76 := ⟨by decide +kernel, rfl⟩
theorem d_X_bestMate_76 : DC b_X_bestMate 76 (.lcmp) 1 77 := ⟨by decide +kernel, rfl⟩
theorem d_X_bestMate_77 : DB b_X_bestMate 77 (.ifCond .ge 11) 11 88 80 := ⟨by decide +kernel, by decide, rfl⟩
theorem d_X_bestMate_80 : DC b_X_bestMate 80 (.iload 7) 2 82 := ⟨by decide +kernel, rfl⟩
theorem d_X_bestMate_82 : DC b_X_bestMate 82 (.istore 4) 2 84 := ⟨by decide +kernel, rfl⟩
theorem d_X_bestMate_84 : DC b_X_bestMate 84 (.lload 9) 2 86 := ⟨by decide +kernel, rfl⟩
theorem d_X_bestMate_86 : DC b_X_bestMate 86 (.lstore 5) 2 88 := ⟨by decide +kernel, rfl⟩
theorem d_X_bestMate_88 : DC b_X_bestMate 88 (.iinc 7 1) 3 91 := ⟨by decide +kernel, rfl⟩
theorem d_X_bestMate_91 : DB b_X_bestMate 91 (.goto (-80)) (-80) 11 94 := ⟨by decide +kernel, by decide, rfl⟩
theorem d_X_bestMate_94 : DC b_X_bestMate 94 (.iload 4) 2 96 := ⟨by decide +kernel, rfl⟩
theorem d_X_bestMate_96 : decode b_X_bestMate 96 = .ok (.ireturn, 1) := by decide +kernel
theorem w_X_bestMate_b88 {X : Ctx} {Y : Lay} (hY : IsX Y) (C : Cx X Y b_X_bestMate 11 (some .int) "TopYard" 12) {N : Nat} {μ : Mem} {r : Int32} (k11 : Int32 → Int32 → Int32 → Int32 → Int64 → Int32 → Option (Int32)) (hk11 : ∀ (x1 : Int32) (x2 : Int32) (x3 : Int32) (x4 : Int32) (x5 : Int64) (x7 : Int32), k11 x1 x2 x3 x4 x5 x7 = some r → J X Y (some (.int r)) μ 11 11 [(0, .ref (yad Y 0)), (1, .int x1), (2, .int x2), (3, .int x3), (4, .int x4), (5, .long x5), (7, .int x7)] [] μ) (x1 : Int32) (x2 : Int32) (x3 : Int32) (x4 : Int32) (x5 : Int64) (x7 : Int32) (hf : f_X_bestMate_b88 N μ k11 x1 x2 x3 x4 x5 x7 = some r) : J X Y (some (.int r)) μ 11 88 [(0, .ref (yad Y 0)), (1, .int x1), (2, .int x2), (3, .int x3), (4, .int x4), (5, .long x5), (7, .int x7)] [] μ := by
  unfold f_X_bestMate_b88 at hf
  refine j_iinc (lvf := [(0, .ref (yad Y 0)), (1, .int x1), (2, .int x2), (3, .int x3), (4, .int x4), (5, .long x5)]) (v := 1) C d_X_bestMate_88 6 rfl (by decide) (by decide) rfl hf (fun v1 hf => ?_)
  refine j_goto C d_X_bestMate_91 ?_
  refine j_sub [1, 2, 3, 4, 5, 6, 0] rfl ?_
  exact hk11 x1 x2 x3 x4 x5 v1 hf
theorem w_X_bestMate_b80 {X : Ctx} {Y : Lay} (hY : IsX Y) (C : Cx X Y b_X_bestMate 11 (some .int) "TopYard" 12) {N : Nat} {μ : Mem} {r : Int32} (k11 : Int32 → Int32 → Int32 → Int32 → Int64 → Int32 → Option (Int32)) (hk11 : ∀ (x1 : Int32) (x2 : Int32) (x3 : Int32) (x4 : Int32) (x5 : Int64) (x7 : Int32), k11 x1 x2 x3 x4 x5 x7 = some r → J X Y (some (.int r)) μ 11 11 [(0, .ref (yad Y 0)), (1, .int x1), (2, .int x2), (3, .int x3), (4, .int x4), (5, .long x5), (7, .int x7)] [] μ) (x1 : Int32) (x2 : Int32) (x3 : Int32) (x7 : Int32) (x9 : Int64) (hf : f_X_bestMate_b80 N μ k11 x1 x2 x3 x7 x9 = some r) : J X Y (some (.int r)) μ 11 80 [(0, .ref (yad Y 0)), (1, .int x1), (2, .int x2), (3, .int x3), (7, .int x7), (9, .long x9)] [] μ := by
  unfold f_X_bestMate_b80 at hf
  refine j_iload C d_X_bestMate_80 4 rfl ?_
  refine j_istore (lvf := [(0, .ref (yad Y 0)), (1, .int x1), (2, .int x2), (3, .int x3), (7, .int x7), (9, .long x9)]) C d_X_bestMate_82 (by decide) rfl ?_
  refine j_lload C d_X_bestMate_84 6 rfl ?_
  refine j_lstore (lvf := [(4, .int x7), (0, .ref (yad Y 0)), (1, .int x1), (2, .int x2), (3, .int x3), (7, .int x7), (9, .long x9)]) C d_X_bestMate_86 (by decide) rfl ?_
  refine j_sub [2, 3, 4, 5, 1, 0, 6] rfl ?_
  exact w_X_bestMate_b88 hY C k11 hk11 x1 x2 x3 x7 x9 x7 hf
theorem w_X_bestMate_l11 {X : Ctx} {Y : Lay} (hY : IsX Y) (C : Cx X Y b_X_bestMate 11 (some .int) "TopYard" 12) {N : Nat} {μ : Mem} {r : Int32} : ∀ (n : Nat) (x1 : Int32) (x2 : Int32) (x3 : Int32) (x4 : Int32) (x5 : Int64) (x7 : Int32), f_X_bestMate_l11 N μ n x1 x2 x3 x4 x5 x7 = some r → J X Y (some (.int r)) μ 11 11 [(0, .ref (yad Y 0)), (1, .int x1), (2, .int x2), (3, .int x3), (4, .int x4), (5, .long x5), (7, .int x7)] [] μ := by
  intro n
  induction n with
  | zero => intro x1 x2 x3 x4 x5 x7 hf; rw [f_X_bestMate_l11] at hf; cases hf
  | succ n ih =>
    intro x1 x2 x3 x4 x5 x7 hf
    rw [f_X_bestMate_l11] at hf
    refine j_iload C d_X_bestMate_11 6 rfl ?_
    refine j_bipush (v := 8) C d_X_bestMate_13 (by decide) ?_
    refine j_icmp_ge C d_X_bestMate_15 hf (fun hf => ?_) (fun hf => ?_)
    · refine j_iload C d_X_bestMate_94 4 rfl ?_
      obtain rfl := Option.some.inj hf
      exact j_iret C d_X_bestMate_96
    · refine j_iload_n C d_X_bestMate_18 1 rfl ?_
      refine j_iload C d_X_bestMate_19 6 rfl ?_
      refine j_ishr C d_X_bestMate_21 ?_
      refine j_iconst (v := 1) C d_X_bestMate_22 (by decide) ?_
      refine j_iand C d_X_bestMate_23 ?_
      refine j_if_eq C d_X_bestMate_24 hf (fun hf => ?_) (fun hf => ?_)
      · refine j_sub [0, 1, 2, 3, 4, 5, 6] rfl ?_
        exact w_X_bestMate_b88 hY C (f_X_bestMate_l11 N μ n) ih x1 x2 x3 x4 x5 x7 hf
      · refine j_iload_n C d_X_bestMate_27 1 rfl ?_
        refine j_iconst (v := 1) C d_X_bestMate_28 (by decide) ?_
        refine j_iload_n C d_X_bestMate_29 2 rfl ?_
        refine j_ishl C d_X_bestMate_30 ?_
        refine j_iconst (v := 1) C d_X_bestMate_31 (by decide) ?_
        refine j_iload C d_X_bestMate_32 6 rfl ?_
        refine j_ishl C d_X_bestMate_34 ?_
        refine j_ior C d_X_bestMate_35 ?_
        refine j_iconst (v := (-1)) C d_X_bestMate_36 (by decide) ?_
        refine j_ixor C d_X_bestMate_37 ?_
        refine j_iand C d_X_bestMate_38 ?_
        refine j_istoreN (lvf := [(0, .ref (yad Y 0)), (1, .int x1), (2, .int x2), (3, .int x3), (4, .int x4), (5, .long x5), (7, .int x7)]) C d_X_bestMate_39 (by decide) rfl hf (fun v1 hf => ?_)
        refine j_aload_n C d_X_bestMate_41 1 rfl ?_
        refine j_gS (b := 43) C fl_X_64 (kX hY rfl) (nX hY (by decide)) rfl hY.2.2.2.1 rfl (sX hY rfl) d_X_bestMate_42 ?_
        refine j_iload_n C d_X_bestMate_45 3 rfl ?_
        refine j_iload C d_X_bestMate_46 7 rfl ?_
        refine bd hf (fun v2 hc6 hf => ?_)
        refine j_cS (rest := []) C lk_X_445 (c_X_costOfPair hY hc6) rfl (by decide) rfl (Nat.le_of_ble_eq_true rfl) d_X_bestMate_48 ?_
        refine j_aload_n C d_X_bestMate_51 1 rfl ?_
        refine j_gS (b := 43) C fl_X_64 (kX hY rfl) (nX hY (by decide)) rfl hY.2.2.2.1 rfl (sX hY rfl) d_X_bestMate_52 ?_
        refine j_iload C d_X_bestMate_55 0 rfl ?_
        refine j_iload_n C d_X_bestMate_57 4 rfl ?_
        refine j_iconst (v := 1) C d_X_bestMate_58 (by decide) ?_
        refine j_isub C d_X_bestMate_59 ?_
        refine bd hf (fun v3 hc5 hf => ?_)
        refine j_cS (rest := [.long v2]) C lk_X_449 (c_X_leastCost hY hc5) rfl (by decide) rfl (Nat.le_of_ble_eq_true rfl) d_X_bestMate_60 ?_
        refine j_ladd C d_X_bestMate_63 ?_
        refine j_lstoreN (lvf := [(8, .int v1), (0, .ref (yad Y 0)), (1, .int x1), (2, .int x2), (3, .int x3), (4, .int x4), (5, .long x5), (7, .int x7)]) C d_X_bestMate_64 (by decide) rfl hf (fun v4 hf => ?_)
        refine j_iload C d_X_bestMate_66 6 rfl ?_
        refine j_iconst (v := (-1)) C d_X_bestMate_68 (by decide) ?_
        refine j_icmp_eq C d_X_bestMate_69 hf (fun hf => ?_) (fun hf => ?_)
        · refine j_sub [2, 3, 4, 5, 8, 0] rfl ?_
          exact w_X_bestMate_b80 hY C (f_X_bestMate_l11 N μ n) ih x1 x2 x3 x7 v4 hf
        · refine j_lload C d_X_bestMate_72 0 rfl ?_
          refine j_lload C d_X_bestMate_74 7 rfl ?_
          refine j_lcmp_ge C d_X_bestMate_76 d_X_bestMate_77 hf (fun hf => ?_) (fun hf => ?_)
          · refine j_sub [2, 3, 4, 5, 6, 7, 8] rfl ?_
            exact w_X_bestMate_b88 hY C (f_X_bestMate_l11 N μ n) ih x1 x2 x3 x4 x5 x7 hf
          · refine j_sub [2, 3, 4, 5, 8, 0] rfl ?_
            exact w_X_bestMate_b80 hY C (f_X_bestMate_l11 N μ n) ih x1 x2 x3 x7 v4 hf
theorem c_X_bestMate {l : Launch} {Y : Lay} (hY : IsX Y) {N : Nat} {μ : Mem} {x1 : Int32} {x2 : Int32} {x3 : Int32} {r : Int32} (hf : f_X_bestMate N μ x1 x2 x3 = some r) : Ct l Y y_X_bestMate b_X_bestMate 11 (some .int) 12 [.ref (yad Y 0), .int x1, .int x2, .int x3] (some (.int r)) μ μ := by
  refine ct_of (own := "TopYard") (lv := [(0, .ref (yad Y 0)), (1, .int x1), (2, .int x2), (3, .int x3)]) (by decide +kernel) rfl (Nat.le_of_ble_eq_true rfl) rfl (fun X hl C => ?_)
  subst hl
  unfold f_X_bestMate at hf
  refine j_iconst (v := (-1)) C d_X_bestMate_0 (by decide) ?_
  refine j_istore (lvf := [(0, .ref (yad Y 0)), (1, .int x1), (2, .int x2), (3, .int x3)]) C d_X_bestMate_1 (by decide) rfl ?_
  refine j_lconst (v := 0) C d_X_bestMate_3 (by decide) ?_
  refine j_lstore (lvf := [(4, .int (-1)), (0, .ref (yad Y 0)), (1, .int x1), (2, .int x2), (3, .int x3)]) C d_X_bestMate_4 (by decide) rfl ?_
  refine j_iload_n C d_X_bestMate_6 4 rfl ?_
  refine j_iconst (v := 1) C d_X_bestMate_7 (by decide) ?_
  refine j_iadd C d_X_bestMate_8 ?_
  refine j_istoreN (lvf := [(5, .long 0), (4, .int (-1)), (0, .ref (yad Y 0)), (1, .int x1), (2, .int x2), (3, .int x3)]) C d_X_bestMate_9 (by decide) rfl hf (fun v1 hf => ?_)
  refine j_sub [3, 4, 5, 6, 2, 1, 0] rfl ?_
  exact w_X_bestMate_l11 hY C N x1 x2 x3 (-1) 0 v1 hf
theorem d_X_mateInPairing_0 : DC b_X_mateInPairing 0 (.iload_n 1) 1 1 := ⟨by decide +kernel, rfl⟩
theorem d_X_mateInPairing_1 : DC b_X_mateInPairing 1 (.istore_n 3) 1 2 := ⟨by decide +kernel, rfl⟩
theorem d_X_mateInPairing_2 : DC b_X_mateInPairing 2 (.iconst 4) 1 3 := ⟨by decide +kernel, rfl⟩
theorem d_X_mateInPairing_3 : DC b_X_mateInPairing 3 (.istore 4) 2 5 := ⟨by decide +kernel, rfl⟩
theorem d_X_mateInPairing_5 : DC b_X_mateInPairing 5 (.iload 4) 2 7 := ⟨by decide +kernel, rfl⟩
theorem d_X_mateInPairing_7 : DB b_X_mateInPairing 7 (.ifCond .le 70) 70 77 10 := ⟨by decide +kernel, by decide, rfl⟩
theorem d_X_mateInPairing_10 : DC b_X_mateInPairing 10 (.iload_n 3) 1 11 := ⟨by decide +kernel, rfl⟩
theorem d_X_mateInPairing_11 : DB b_X_mateInPairing 11 (.ifCond .eq 66) 66 77 14 := ⟨by decide +kernel, by decide, rfl⟩
theorem d_X_mateInPairing_14 : DC b_X_mateInPairing 14 (.iload_n 3) 1 15 := ⟨by decide +kernel, rfl⟩
theorem d_X_mateInPairing_15 : DC b_X_mateInPairing 15 (.invokestatic 438) 3 18 := ⟨by decide +kernel, rfl⟩
theorem d_X_mateInPairing_18 : DC b_X_mateInPairing 18 (.istore 5) 2 20 := ⟨by decide +kernel, rfl⟩
theorem d_X_mateInPairing_20 : DC b_X_mateInPairing 20 (.aload_n 0) 1 21 := ⟨by decide +kernel, rfl⟩
theorem d_X_mateInPairing_21 : DC b_X_mateInPairing 21 (.iload_n 3) 1 22 := ⟨by decide +kernel, rfl⟩
theorem d_X_mateInPairing_22 : DC b_X_mateInPairing 22 (.iload 5) 2 24 := ⟨by decide +kernel, rfl⟩
theorem d_X_mateInPairing_24 : DC b_X_mateInPairing 24 (.iload 4) 2 26 := ⟨by decide +kernel, rfl⟩
theorem d_X_mateInPairing_26 : DC b_X_mateInPairing 26 (.invokevirtual 441) 3 29 := ⟨by decide +kernel, rfl⟩
theorem d_X_mateInPairing_29 : DC b_X_mateInPairing 29 (.istore 6) 2 31 := ⟨by decide +kernel, rfl⟩
theorem d_X_mateInPairing_31 : DC b_X_mateInPairing 31 (.iload 6) 2 33 := ⟨by decide +kernel, rfl⟩
theorem d_X_mateInPairing_33 : DC b_X_mateInPairing 33 (.iconst (-1)) 1 34 := ⟨by decide +kernel, rfl⟩
theorem d_X_mateInPairing_34 : DB b_X_mateInPairing 34 (.if_icmp .ne 5) 5 39 37 := ⟨by decide +kernel, by decide, rfl⟩
theorem d_X_mateInPairing_37 : DC b_X_mateInPairing 37 (.iconst (-1)) 1 38 := ⟨by decide +kernel, rfl⟩
theorem d_X_mateInPairing_38 : decode b_X_mateInPairing 38 = .ok (.ireturn, 1) := by decide +kernel
theorem d_X_mateInPairing_39 : DC b_X_mateInPairing 39 (.iload_n 2) 1 40 := ⟨by decide +kernel, rfl⟩
theorem d_X_mateInPairing_40 : DC b_X_mateInPairing 40 (.iload 5) 2 42 := ⟨by decide +kernel, rfl⟩
theorem d_X_mateInPairing_42 : DB b_X_mateInPairing 42 (.if_icmp .ne 6) 6 48 45 := ⟨by decide +kernel, by decide, rfl⟩
theorem d_X_mateInPairing_45 : DC b_X_mateInPairing 45 (.iload 6) 2 47 := ⟨by decide +kernel, rfl⟩
theorem d_X_mateInPairing_47 : decode b_X_mateInPairing 47 = .ok (.ireturn, 1) := by decide +kernel
theorem d_X_mateInPairing_48 : DC b_X_mateInPairing 48 (.iload_n 2) 1 49 := ⟨by decide +kernel, rfl⟩
theorem d_X_mateInPairing_49 : DC b_X_mateInPairing 49 (.iload 6) 2 51 := ⟨by decide +kernel, rfl⟩
theorem d_X_mateInPairing_51 : DB b_X_mateInPairing 51 (.if_icmp .ne 6) 6 57 54 := ⟨by decide +kernel, by decide, rfl⟩
theorem d_X_mateInPairing_54 : DC b_X_mateInPairing 54 (.iload 5) 2 56 := ⟨by decide +kernel, rfl⟩
theorem d_X_mateInPairing_56 : decode b_X_mateInPairing 56 = .ok (.ireturn, 1) := by decide +kernel
theorem d_X_mateInPairing_57 : DC b_X_mateInPairing 57 (.iload_n 3) 1 58 := ⟨by decide +kernel, rfl⟩
theorem d_X_mateInPairing_58 : DC b_X_mateInPairing 58 (.iconst 1) 1 59 := ⟨by decide +kernel, rfl⟩
theorem d_X_mateInPairing_59 : DC b_X_mateInPairing 59 (.iload 5) 2 61 := ⟨by decide +kernel, rfl⟩
theorem d_X_mateInPairing_61 : DC b_X_mateInPairing 61 (.ishl) 1 62 := ⟨by decide +kernel, rfl⟩
theorem d_X_mateInPairing_62 : DC b_X_mateInPairing 62 (.iconst 1) 1 63 := ⟨by decide +kernel, rfl⟩
theorem d_X_mateInPairing_63 : DC b_X_mateInPairing 63 (.iload 6) 2 65 := ⟨by decide +kernel, rfl⟩
theorem d_X_mateInPairing_65 : DC b_X_mateInPairing 65 (.ishl) 1 66 := ⟨by decide +kernel, rfl⟩
theorem d_X_mateInPairing_66 : DC b_X_mateInPairing 66 (.ior) 1 67 := ⟨by decide +kernel, rfl⟩
theorem d_X_mateInPairing_67 : DC b_X_mateInPairing 67 (.iconst (-1)) 1 68 := ⟨by decide +kernel, rfl⟩
theorem d_X_mateInPairing_68 : DC b_X_mateInPairing 68 (.ixor) 1 69 := ⟨by decide +kernel, rfl⟩
theorem d_X_mateInPairing_69 : DC b_X_mateInPairing 69 (.iand) 1 70 := ⟨by decide +kernel, rfl⟩
theorem d_X_mateInPairing_70 : DC b_X_mateInPairing 70 (.istore_n 3) 1 71 := ⟨by decide +kernel, rfl⟩
theorem d_X_mateInPairing_71 : DC b_X_mateInPairing 71 (.iinc 4 (-1)) 3 74 := ⟨by decide +kernel, rfl⟩
theorem d_X_mateInPairing_74 : DB b_X_mateInPairing 74 (.goto (-69)) (-69) 5 77 := ⟨by decide +kernel, by decide, rfl⟩
theorem d_X_mateInPairing_77 : DC b_X_mateInPairing 77 (.iconst (-1)) 1 78 := ⟨by decide +kernel, rfl⟩
theorem d_X_mateInPairing_78 : decode b_X_mateInPairing 78 = .ok (.ireturn, 1) := by decide +kernel
theorem w_X_mateInPairing_l5 {X : Ctx} {Y : Lay} (hY : IsX Y) (C : Cx X Y b_X_mateInPairing 7 (some .int) "TopYard" 13) {N : Nat} {μ : Mem} {r : Int32} : ∀ (n : Nat) (x2 : Int32) (x3 : Int32) (x4 : Int32), f_X_mateInPairing_l5 N μ n x2 x3 x4 = some r → J X Y (some (.int r)) μ 7 5 [(0, .ref (yad Y 0)), (2, .int x2), (3, .int x3), (4, .int x4)] [] μ := by
  intro n
  induction n with
  | zero => intro x2 x3 x4 hf; rw [f_X_mateInPairing_l5] at hf; cases hf
  | succ n ih =>
    intro x2 x3 x4 hf
    rw [f_X_mateInPairing_l5] at hf
    refine j_iload C d_X_mateInPairing_5 3 rfl ?_
    refine j_if_le C d_X_mateInPairing_7 hf (fun hf => ?_) (fun hf => ?_)
    · refine j_iconst (v := (-1)) C d_X_mateInPairing_77 (by decide) ?_
      obtain rfl := Option.some.inj hf
      exact j_iret C d_X_mateInPairing_78
    · refine j_iload_n C d_X_mateInPairing_10 2 rfl ?_
      refine j_if_eq C d_X_mateInPairing_11 hf (fun hf => ?_) (fun hf => ?_)
      · refine j_iconst (v := (-1)) C d_X_mateInPairing_77 (by decide) ?_
        obtain rfl := Option.some.inj hf
        exact j_iret C d_X_mateInPairing_78
      · refine j_iload_n C d_X_mateInPairing_14 2 rfl ?_
        refine bd hf (fun v1 hc6 hf => ?_)
        refine j_cS (rest := []) C lk_X_438 (c_JI_numberOfTrailingZeros hY hc6) rfl (by decide) rfl (Nat.le_of_ble_eq_true rfl) d_X_mateInPairing_15 ?_
        refine j_istore (lvf := [(0, .ref (yad Y 0)), (2, .int x2), (3, .int x3), (4, .int x4)]) C d_X_mateInPairing_18 (by decide) rfl ?_
        refine j_aload_n C d_X_mateInPairing_20 1 rfl ?_
        refine j_iload_n C d_X_mateInPairing_21 3 rfl ?_
        refine j_iload C d_X_mateInPairing_22 0 rfl ?_
        refine j_iload C d_X_mateInPairing_24 4 rfl ?_
        refine bd hf (fun v2 hc5 hf => ?_)
        refine j_cV (rest := []) C lk_X_441 (c_X_bestMate hY hc5) rfl (kX hY rfl) (nX hY (by decide)) (by decide) rfl rfl (by decide) rfl (Nat.le_of_ble_eq_true rfl) d_X_mateInPairing_26 ?_
        refine j_istore (lvf := [(5, .int v1), (0, .ref (yad Y 0)), (2, .int x2), (3, .int x3), (4, .int x4)]) C d_X_mateInPairing_29 (by decide) rfl ?_
        refine j_iload C d_X_mateInPairing_31 0 rfl ?_
        refine j_iconst (v := (-1)) C d_X_mateInPairing_33 (by decide) ?_
        refine j_icmp_ne C d_X_mateInPairing_34 hf (fun hf => ?_) (fun hf => ?_)
        · refine j_iload_n C d_X_mateInPairing_39 3 rfl ?_
          refine j_iload C d_X_mateInPairing_40 1 rfl ?_
          refine j_icmp_ne C d_X_mateInPairing_42 hf (fun hf => ?_) (fun hf => ?_)
          · refine j_iload_n C d_X_mateInPairing_48 3 rfl ?_
            refine j_iload C d_X_mateInPairing_49 0 rfl ?_
            refine j_icmp_ne C d_X_mateInPairing_51 hf (fun hf => ?_) (fun hf => ?_)
            · refine j_iload_n C d_X_mateInPairing_57 4 rfl ?_
              refine j_iconst (v := 1) C d_X_mateInPairing_58 (by decide) ?_
              refine j_iload C d_X_mateInPairing_59 1 rfl ?_
              refine j_ishl C d_X_mateInPairing_61 ?_
              refine j_iconst (v := 1) C d_X_mateInPairing_62 (by decide) ?_
              refine j_iload C d_X_mateInPairing_63 0 rfl ?_
              refine j_ishl C d_X_mateInPairing_65 ?_
              refine j_ior C d_X_mateInPairing_66 ?_
              refine j_iconst (v := (-1)) C d_X_mateInPairing_67 (by decide) ?_
              refine j_ixor C d_X_mateInPairing_68 ?_
              refine j_iand C d_X_mateInPairing_69 ?_
              refine j_istore_nN (lvf := [(6, .int v2), (5, .int v1), (0, .ref (yad Y 0)), (2, .int x2), (4, .int x4)]) C d_X_mateInPairing_70 (by decide) rfl hf (fun v3 hf => ?_)
              refine j_iinc (lvf := [(3, .int v3), (6, .int v2), (5, .int v1), (0, .ref (yad Y 0)), (2, .int x2)]) (v := (-1)) C d_X_mateInPairing_71 5 rfl (by decide) (by decide) rfl hf (fun v4 hf => ?_)
              refine j_goto C d_X_mateInPairing_74 ?_
              refine j_sub [4, 5, 1, 0] rfl ?_
              exact ih x2 v3 v4 hf
            · refine j_iload C d_X_mateInPairing_54 1 rfl ?_
              obtain rfl := Option.some.inj hf
              exact j_iret C d_X_mateInPairing_56
          · refine j_iload C d_X_mateInPairing_45 0 rfl ?_
            obtain rfl := Option.some.inj hf
            exact j_iret C d_X_mateInPairing_47
        · refine j_iconst (v := (-1)) C d_X_mateInPairing_37 (by decide) ?_
          obtain rfl := Option.some.inj hf
          exact j_iret C d_X_mateInPairing_38
theorem c_X_mateInPairing {l : Launch} {Y : Lay} (hY : IsX Y) {N : Nat} {μ : Mem} {x1 : Int32} {x2 : Int32} {r : Int32} (hf : f_X_mateInPairing N μ x1 x2 = some r) : Ct l Y y_X_mateInPairing b_X_mateInPairing 7 (some .int) 13 [.ref (yad Y 0), .int x1, .int x2] (some (.int r)) μ μ := by
  refine ct_of (own := "TopYard") (lv := [(0, .ref (yad Y 0)), (1, .int x1), (2, .int x2)]) (by decide +kernel) rfl (Nat.le_of_ble_eq_true rfl) rfl (fun X hl C => ?_)
  subst hl
  unfold f_X_mateInPairing at hf
  refine j_iload_n C d_X_mateInPairing_0 1 rfl ?_
  refine j_istore_n (lvf := [(0, .ref (yad Y 0)), (1, .int x1), (2, .int x2)]) C d_X_mateInPairing_1 (by decide) rfl ?_
  refine j_iconst (v := 4) C d_X_mateInPairing_2 (by decide) ?_
  refine j_istore (lvf := [(3, .int x1), (0, .ref (yad Y 0)), (1, .int x1), (2, .int x2)]) C d_X_mateInPairing_3 (by decide) rfl ?_
  refine j_sub [2, 4, 1, 0] rfl ?_
  exact w_X_mateInPairing_l5 hY C N x2 x1 4 hf
theorem d_X_pairing_0 : DC b_X_pairing 0 (.iload_n 1) 1 1 := ⟨by decide +kernel, rfl⟩
theorem d_X_pairing_1 : DC b_X_pairing 1 (.iconst 1) 1 2 := ⟨by decide +kernel, rfl⟩
theorem d_X_pairing_2 : DC b_X_pairing 2 (.sipush 255) 3 5 := ⟨by decide +kernel, rfl⟩
theorem d_X_pairing_5 : DC b_X_pairing 5 (.invokestatic 90) 3 8 := ⟨by decide +kernel, rfl⟩
theorem d_X_pairing_8 : DB b_X_pairing 8 (.ifCond .eq 12) 12 20 11 := ⟨by decide +kernel, by decide, rfl⟩
theorem d_X_pairing_11 : DC b_X_pairing 11 (.iload_n 1) 1 12 := ⟨by decide +kernel, rfl⟩
theorem d_X_pairing_12 : DC b_X_pairing 12 (.invokestatic 318) 3 15 := ⟨by decide +kernel, rfl⟩
theorem d_X_pairing_15 : DC b_X_pairing 15 (.iconst 2) 1 16 := ⟨by decide +kernel, rfl⟩
theorem d_X_pairing_16 : DC b_X_pairing 16 (.irem) 1 17 := ⟨by decide +kernel, rfl⟩
theorem d_X_pairing_17 : DB b_X_pairing 17 (.ifCond .eq 6) 6 23 20 := ⟨by decide +kernel, by decide, rfl⟩
theorem d_X_pairing_20 : DC b_X_pairing 20 (.bipush (-2)) 2 22 := ⟨by decide +kernel, rfl⟩
theorem d_X_pairing_22 : decode b_X_pairing 22 = .ok (.ireturn, 1) := by decide +kernel
theorem d_X_pairing_23 : DC b_X_pairing 23 (.iload_n 2) 1 24 := ⟨by decide +kernel, rfl⟩
theorem d_X_pairing_24 : DC b_X_pairing 24 (.invokestatic 103) 3 27 := ⟨by decide +kernel, rfl⟩
theorem d_X_pairing_27 : DB b_X_pairing 27 (.ifCond .eq 11) 11 38 30 := ⟨by decide +kernel, by decide, rfl⟩
theorem d_X_pairing_30 : DC b_X_pairing 30 (.iload_n 1) 1 31 := ⟨by decide +kernel, rfl⟩
theorem d_X_pairing_31 : DC b_X_pairing 31 (.iload_n 2) 1 32 := ⟨by decide +kernel, rfl⟩
theorem d_X_pairing_32 : DC b_X_pairing 32 (.ishr) 1 33 := ⟨by decide +kernel, rfl⟩
theorem d_X_pairing_33 : DC b_X_pairing 33 (.iconst 1) 1 34 := ⟨by decide +kernel, rfl⟩
theorem d_X_pairing_34 : DC b_X_pairing 34 (.iand) 1 35 := ⟨by decide +kernel, rfl⟩
theorem d_X_pairing_35 : DB b_X_pairing 35 (.ifCond .ne 6) 6 41 38 := ⟨by decide +kernel, by decide, rfl⟩
theorem d_X_pairing_38 : DC b_X_pairing 38 (.bipush (-2)) 2 40 := ⟨by decide +kernel, rfl⟩
theorem d_X_pairing_40 : decode b_X_pairing 40 = .ok (.ireturn, 1) := by decide +kernel
theorem d_X_pairing_41 : DC b_X_pairing 41 (.aload_n 0) 1 42 := ⟨by decide +kernel, rfl⟩
theorem d_X_pairing_42 : DC b_X_pairing 42 (.iload_n 1) 1 43 := ⟨by decide +kernel, rfl⟩
theorem d_X_pairing_43 : DC b_X_pairing 43 (.iload_n 2) 1 44 := ⟨by decide +kernel, rfl⟩
theorem d_X_pairing_44 : DC b_X_pairing 44 (.invokevirtual 323) 3 47 := ⟨by decide +kernel, rfl⟩
theorem d_X_pairing_47 : decode b_X_pairing 47 = .ok (.ireturn, 1) := by decide +kernel
theorem c_X_pairing {l : Launch} {Y : Lay} (hY : IsX Y) {N : Nat} {μ : Mem} {x1 : Int32} {x2 : Int32} {r : Int32} (hf : f_X_pairing N μ x1 x2 = some r) : Ct l Y y_X_pairing b_X_pairing 3 (some .int) 14 [.ref (yad Y 0), .int x1, .int x2] (some (.int r)) μ μ := by
  refine ct_of (own := "TopYard") (lv := [(0, .ref (yad Y 0)), (1, .int x1), (2, .int x2)]) (by decide +kernel) rfl (Nat.le_of_ble_eq_true rfl) rfl (fun X hl C => ?_)
  subst hl
  unfold f_X_pairing at hf
  refine j_iload_n C d_X_pairing_0 1 rfl ?_
  refine j_iconst (v := 1) C d_X_pairing_1 (by decide) ?_
  refine j_sipush (v := 255) C d_X_pairing_2 (by decide) ?_
  refine bd hf (fun v1 hc8 hf => ?_)
  refine j_cS (rest := []) C lk_X_90 (c_X_within hY hc8) rfl (by decide) rfl (Nat.le_of_ble_eq_true rfl) d_X_pairing_5 ?_
  refine j_if_eq C d_X_pairing_8 hf (fun hf => ?_) (fun hf => ?_)
  · refine j_bipush (v := (-2)) C d_X_pairing_20 (by decide) ?_
    obtain rfl := Option.some.inj hf
    exact j_iret C d_X_pairing_22
  · refine j_iload_n C d_X_pairing_11 1 rfl ?_
    refine bd hf (fun v2 hc7 hf => ?_)
    refine j_cS (rest := []) C lk_X_318 (c_JI_bitCount hY hc7) rfl (by decide) rfl (Nat.le_of_ble_eq_true rfl) d_X_pairing_12 ?_
    refine j_iconst (v := 2) C d_X_pairing_15 (by decide) ?_
    refine j_irem C d_X_pairing_16 (by decide) ?_
    refine j_if_eq C d_X_pairing_17 hf (fun hf => ?_) (fun hf => ?_)
    · refine j_iload_n C d_X_pairing_23 2 rfl ?_
      refine bd hf (fun v3 hc6 hf => ?_)
      refine j_cS (rest := []) C lk_X_103 (c_X_isOwner hY hc6) rfl (by decide) rfl (Nat.le_of_ble_eq_true rfl) d_X_pairing_24 ?_
      refine j_if_eq C d_X_pairing_27 hf (fun hf => ?_) (fun hf => ?_)
      · refine j_bipush (v := (-2)) C d_X_pairing_38 (by decide) ?_
        obtain rfl := Option.some.inj hf
        exact j_iret C d_X_pairing_40
      · refine j_iload_n C d_X_pairing_30 1 rfl ?_
        refine j_iload_n C d_X_pairing_31 2 rfl ?_
        refine j_ishr C d_X_pairing_32 ?_
        refine j_iconst (v := 1) C d_X_pairing_33 (by decide) ?_
        refine j_iand C d_X_pairing_34 ?_
        refine j_if_ne C d_X_pairing_35 hf (fun hf => ?_) (fun hf => ?_)
        · refine j_aload_n C d_X_pairing_41 0 rfl ?_
          refine j_iload_n C d_X_pairing_42 1 rfl ?_
          refine j_iload_n C d_X_pairing_43 2 rfl ?_
          refine bd hf (fun v4 hc5 hf => ?_)
          refine j_cV (rest := []) C lk_X_323 (c_X_mateInPairing hY hc5) rfl (kX hY rfl) (nX hY (by decide)) (by decide) rfl rfl (by decide) rfl (Nat.le_of_ble_eq_true rfl) d_X_pairing_44 ?_
          obtain rfl := Option.some.inj hf
          exact j_iret C d_X_pairing_47
        · refine j_bipush (v := (-2)) C d_X_pairing_38 (by decide) ?_
          obtain rfl := Option.some.inj hf
          exact j_iret C d_X_pairing_40
    · refine j_bipush (v := (-2)) C d_X_pairing_20 (by decide) ?_
      obtain rfl := Option.some.inj hf
      exact j_iret C d_X_pairing_22
theorem d_Pk_begin_0 : DC b_Pk_begin 0 (.aload_n 0) 1 1 := ⟨by decide +kernel, rfl⟩
theorem d_Pk_begin_1 : DC b_Pk_begin 1 (.iconst 0) 1 2 := ⟨by decide +kernel, rfl⟩
theorem d_Pk_begin_2 : DC b_Pk_begin 2 (.iload_n 1) 1 3 := ⟨by decide +kernel, rfl⟩
theorem d_Pk_begin_3 : DC b_Pk_begin 3 (.sipush 500) 3 6 := ⟨by decide +kernel, rfl⟩
theorem d_Pk_begin_6 : DC b_Pk_begin 6 (.invokestatic 25) 3 9 := ⟨by decide +kernel, rfl⟩
theorem d_Pk_begin_9 : DC b_Pk_begin 9 (.invokestatic 31) 3 12 := ⟨by decide +kernel, rfl⟩
theorem d_Pk_begin_12 : DC b_Pk_begin 12 (.putfield 18) 3 15 := ⟨by decide +kernel, rfl⟩
theorem d_Pk_begin_15 : DC b_Pk_begin 15 (.aload_n 0) 1 16 := ⟨by decide +kernel, rfl⟩
theorem d_Pk_begin_16 : DC b_Pk_begin 16 (.iconst 0) 1 17 := ⟨by decide +kernel, rfl⟩
theorem d_Pk_begin_17 : DC b_Pk_begin 17 (.putfield 22) 3 20 := ⟨by decide +kernel, rfl⟩
theorem d_Pk_begin_20 : DC b_Pk_begin 20 (.aload_n 0) 1 21 := ⟨by decide +kernel, rfl⟩
theorem d_Pk_begin_21 : DC b_Pk_begin 21 (.getfield 11) 3 24 := ⟨by decide +kernel, rfl⟩
theorem d_Pk_begin_24 : DC b_Pk_begin 24 (.ldc 34) 2 26 := ⟨by decide +kernel, rfl⟩
theorem d_Pk_begin_26 : DC b_Pk_begin 26 (.invokestatic 35) 3 29 := ⟨by decide +kernel, rfl⟩
theorem d_Pk_begin_29 : DC b_Pk_begin 29 (.aload_n 0) 1 30 := ⟨by decide +kernel, rfl⟩
theorem d_Pk_begin_30 : DC b_Pk_begin 30 (.getfield 15) 3 33 := ⟨by decide +kernel, rfl⟩
theorem d_Pk_begin_33 : DC b_Pk_begin 33 (.iconst 0) 1 34 := ⟨by decide +kernel, rfl⟩
theorem d_Pk_begin_34 : DC b_Pk_begin 34 (.invokestatic 35) 3 37 := ⟨by decide +kernel, rfl⟩
theorem d_Pk_begin_37 : DC b_Pk_begin 37 (.aload_n 0) 1 38 := ⟨by decide +kernel, rfl⟩
theorem d_Pk_begin_38 : DC b_Pk_begin 38 (.getfield 11) 3 41 := ⟨by decide +kernel, rfl⟩
theorem d_Pk_begin_41 : DC b_Pk_begin 41 (.iconst 0) 1 42 := ⟨by decide +kernel, rfl⟩
theorem d_Pk_begin_42 : DC b_Pk_begin 42 (.iconst 0) 1 43 := ⟨by decide +kernel, rfl⟩
theorem d_Pk_begin_43 : DC b_Pk_begin 43 (.iastore) 1 44 := ⟨by decide +kernel, rfl⟩
theorem d_Pk_begin_44 : decode b_Pk_begin 44 = .ok (.return_, 1) := by decide +kernel
theorem c_Pk_begin {l : Launch} {Y : Lay} (hY : IsX Y) {N : Nat} {μ : Mem} {x1 : Int32} {r : Mem} (hf : f_Pk_begin N μ x1 = some r) : Ct l Y y_Pk_begin b_Pk_begin 2 none 2 [.ref (yad Y 44), .int x1] none μ r := by
  refine ct_of (own := "TopYard$Pack") (lv := [(0, .ref (yad Y 44)), (1, .int x1)]) (by decide +kernel) rfl (Nat.le_of_ble_eq_true rfl) rfl (fun X hl C => ?_)
  subst hl
  unfold f_Pk_begin at hf
  refine j_aload_n C d_Pk_begin_0 0 rfl ?_
  refine j_iconst (v := 0) C d_Pk_begin_1 (by decide) ?_
  refine j_iload_n C d_Pk_begin_2 1 rfl ?_
  refine j_sipush (v := 500) C d_Pk_begin_3 (by decide) ?_
  refine bd hf (fun v1 hc12 hf => ?_)
  refine j_cS (rest := [.int 0, .ref (yad Y 44)]) C lk_Pk_25 (c_JM_min hY hc12) rfl (by decide) rfl (Nat.le_of_ble_eq_true rfl) d_Pk_begin_6 ?_
  refine bd hf (fun v2 hc11 hf => ?_)
  refine j_cS (rest := [.ref (yad Y 44)]) C lk_Pk_31 (c_JM_max1 hY hc11) rfl (by decide) rfl (Nat.le_of_ble_eq_true rfl) d_Pk_begin_9 ?_
  refine j_pI C fl_Pk_18 (kX hY rfl) (nX hY (by decide)) rfl rfl rfl d_Pk_begin_12 hf (fun μ3 hf => ?_)
  refine j_aload_n C d_Pk_begin_15 0 rfl ?_
  refine j_iconst (v := 0) C d_Pk_begin_16 (by decide) ?_
  refine j_pI C fl_Pk_22 (kX hY rfl) (nX hY (by decide)) rfl rfl rfl d_Pk_begin_17 hf (fun μ4 hf => ?_)
  refine j_aload_n C d_Pk_begin_20 0 rfl ?_
  refine j_gS (b := 45) C fl_Pk_11 (kX hY rfl) (nX hY (by decide)) rfl hY.2.2.2.1 rfl (sX hY rfl) d_Pk_begin_21 ?_
  refine j_ldc (v := (-2147483648)) C d_Pk_begin_24 wd_129 ?_
  refine bd hf (fun μ5 hc10 hf => ?_)
  refine j_cS (rest := []) C lk_Pk_35 (c_JA_fill hY ⟨(kX hY rfl), (nX hY (by decide))⟩ hc10) rfl (by decide) rfl (Nat.le_of_ble_eq_true rfl) d_Pk_begin_26 ?_
  refine j_aload_n C d_Pk_begin_29 0 rfl ?_
  refine j_gS (b := 46) C fl_Pk_15 (kX hY rfl) (nX hY (by decide)) rfl hY.2.2.2.1 rfl (sX hY rfl) d_Pk_begin_30 ?_
  refine j_iconst (v := 0) C d_Pk_begin_33 (by decide) ?_
  refine bd hf (fun μ6 hc9 hf => ?_)
  refine j_cS (rest := []) C lk_Pk_35 (c_JA_fill hY ⟨(kX hY rfl), (nX hY (by decide))⟩ hc9) rfl (by decide) rfl (Nat.le_of_ble_eq_true rfl) d_Pk_begin_34 ?_
  refine j_aload_n C d_Pk_begin_37 0 rfl ?_
  refine j_gS (b := 45) C fl_Pk_11 (kX hY rfl) (nX hY (by decide)) rfl hY.2.2.2.1 rfl (sX hY rfl) d_Pk_begin_38 ?_
  refine j_iconst (v := 0) C d_Pk_begin_41 (by decide) ?_
  refine j_iconst (v := 0) C d_Pk_begin_42 (by decide) ?_
  refine ck hf (fun hi7 hf => ?_)
  refine j_iast C (kX hY rfl) (nX hY (by decide)) (lX hY rfl) hi7 d_Pk_begin_43 hf (fun μ8 hf => ?_)
  obtain rfl := Option.some.inj hf
  exact j_vret C d_Pk_begin_44
theorem d_To_worth_0 : DC b_To_worth 0 (.aload_n 0) 1 1 := ⟨by decide +kernel, rfl⟩
theorem d_To_worth_1 : DC b_To_worth 1 (.getfield 16) 3 4 := ⟨by decide +kernel, rfl⟩
theorem d_To_worth_4 : DC b_To_worth 4 (.iconst 3) 1 5 := ⟨by decide +kernel, rfl⟩
theorem d_To_worth_5 : DC b_To_worth 5 (.imul) 1 6 := ⟨by decide +kernel, rfl⟩
theorem d_To_worth_6 : DC b_To_worth 6 (.bipush 10) 2 8 := ⟨by decide +kernel, rfl⟩
theorem d_To_worth_8 : DC b_To_worth 8 (.iadd) 1 9 := ⟨by decide +kernel, rfl⟩
theorem d_To_worth_9 : DC b_To_worth 9 (.aload_n 0) 1 10 := ⟨by decide +kernel, rfl⟩
theorem d_To_worth_10 : DC b_To_worth 10 (.getfield 19) 3 13 := ⟨by decide +kernel, rfl⟩
theorem d_To_worth_13 : DC b_To_worth 13 (.isub) 1 14 := ⟨by decide +kernel, rfl⟩
theorem d_To_worth_14 : DC b_To_worth 14 (.aload_n 0) 1 15 := ⟨by decide +kernel, rfl⟩
theorem d_To_worth_15 : DC b_To_worth 15 (.getfield 7) 3 18 := ⟨by decide +kernel, rfl⟩
theorem d_To_worth_18 : DC b_To_worth 18 (.isub) 1 19 := ⟨by decide +kernel, rfl⟩
theorem d_To_worth_19 : decode b_To_worth 19 = .ok (.ireturn, 1) := by decide +kernel
theorem c_To_worth {l : Launch} {Y : Lay} (hY : IsX Y) {μ : Mem} {a0 : Nat} (g0 : ykd Y a0 = 8 ∧ a0 < yn Y) {r : Int32} (hf : f_To_worth μ a0 = some r) : Ct l Y y_To_worth b_To_worth 1 (some .int) 1 [.ref (yad Y a0)] (some (.int r)) μ μ := by
  refine ct_of (own := "TopYard$Top") (lv := [(0, .ref (yad Y a0))]) (by decide +kernel) rfl (Nat.le_of_ble_eq_true rfl) rfl (fun X hl C => ?_)
  subst hl
  unfold f_To_worth at hf
  refine j_aload_n C d_To_worth_0 0 rfl ?_
  refine j_gI C fl_To_16 g0.1 g0.2 rfl d_To_worth_1 ?_
  refine j_iconst (v := 3) C d_To_worth_4 (by decide) ?_
  refine j_imul C d_To_worth_5 ?_
  refine j_bipush (v := 10) C d_To_worth_6 (by decide) ?_
  refine j_iadd C d_To_worth_8 ?_
  refine j_aload_n C d_To_worth_9 0 rfl ?_
  refine j_gI C fl_To_19 g0.1 g0.2 rfl d_To_worth_10 ?_
  refine j_isub C d_To_worth_13 ?_
  refine j_aload_n C d_To_worth_14 0 rfl ?_
  refine j_gI C fl_To_7 g0.1 g0.2 rfl d_To_worth_15 ?_
  refine j_isub C d_To_worth_18 ?_
  obtain rfl := Option.some.inj hf
  exact j_iret C d_To_worth_19
theorem d_Pk_offer_0 : DC b_Pk_offer 0 (.aload_n 0) 1 1 := ⟨by decide +kernel, rfl⟩
theorem d_Pk_offer_1 : DC b_Pk_offer 1 (.getfield 22) 3 4 := ⟨by decide +kernel, rfl⟩
theorem d_Pk_offer_4 : DC b_Pk_offer 4 (.bipush 16) 2 6 := ⟨by decide +kernel, rfl⟩
theorem d_Pk_offer_6 : DB b_Pk_offer 6 (.if_icmp .ge 7) 7 13 9 := ⟨by decide +kernel, by decide, rfl⟩
theorem d_Pk_offer_9 : DC b_Pk_offer 9 (.iload_n 1) 1 10 := ⟨by decide +kernel, rfl⟩
theorem d_Pk_offer_10 : DB b_Pk_offer 10 (.ifCond .gt 4) 4 14 13 := ⟨by decide +kernel, by decide, rfl⟩
theorem d_Pk_offer_13 : decode b_Pk_offer 13 = .ok (.return_, 1) := by decide +kernel
theorem d_Pk_offer_14 : DC b_Pk_offer 14 (.aload_n 0) 1 15 := ⟨by decide +kernel, rfl⟩
theorem d_Pk_offer_15 : DC b_Pk_offer 15 (.getfield 18) 3 18 := ⟨by decide +kernel, rfl⟩
theorem d_Pk_offer_18 : DC b_Pk_offer 18 (.istore_n 3) 1 19 := ⟨by decide +kernel, rfl⟩
theorem d_Pk_offer_19 : DC b_Pk_offer 19 (.iload_n 3) 1 20 := ⟨by decide +kernel, rfl⟩
theorem d_Pk_offer_20 : DC b_Pk_offer 20 (.iload_n 1) 1 21 := ⟨by decide +kernel, rfl⟩
theorem d_Pk_offer_21 : DB b_Pk_offer 21 (.if_icmp .lt 70) 70 91 24 := ⟨by decide +kernel, by decide, rfl⟩
theorem d_Pk_offer_24 : DC b_Pk_offer 24 (.aload_n 0) 1 25 := ⟨by decide +kernel, rfl⟩
theorem d_Pk_offer_25 : DC b_Pk_offer 25 (.getfield 11) 3 28 := ⟨by decide +kernel, rfl⟩
theorem d_Pk_offer_28 : DC b_Pk_offer 28 (.iload_n 3) 1 29 := ⟨by decide +kernel, rfl⟩
theorem d_Pk_offer_29 : DC b_Pk_offer 29 (.iload_n 1) 1 30 := ⟨by decide +kernel, rfl⟩
theorem d_Pk_offer_30 : DC b_Pk_offer 30 (.isub) 1 31 := ⟨by decide +kernel, rfl⟩
theorem d_Pk_offer_31 : DC b_Pk_offer 31 (.iaload) 1 32 := ⟨by decide +kernel, rfl⟩
theorem d_Pk_offer_32 : DC b_Pk_offer 32 (.istore 4) 2 34 := ⟨by decide +kernel, rfl⟩
theorem d_Pk_offer_34 : DC b_Pk_offer 34 (.iload 4) 2 36 := ⟨by decide +kernel, rfl⟩
theorem d_Pk_offer_36 : DC b_Pk_offer 36 (.ldc 34) 2 38 := ⟨by decide +kernel, rfl⟩
theorem d_Pk_offer_38 : DB b_Pk_offer 38 (.if_icmp .eq 47) 47 85 41 := ⟨by decide +kernel, by decide, rfl⟩
theorem d_Pk_offer_41 : DC b_Pk_offer 41 (.iload 4) 2 43 := ⟨by decide +kernel, rfl⟩
theorem d_Pk_offer_43 : DC b_Pk_offer 43 (.iload_n 2) 1 44 := ⟨by decide +kernel, rfl⟩
theorem d_Pk_offer_44 : DC b_Pk_offer 44 (.iadd) 1 45 := ⟨by decide +kernel, rfl⟩
theorem d_Pk_offer_45 : DC b_Pk_offer 45 (.aload_n 0) 1 46 := ⟨by decide +kernel, rfl⟩
theorem d_Pk_offer_46 : DC b_Pk_offer 46 (.getfield 11) 3 49 := ⟨by decide +kernel, rfl⟩
theorem d_Pk_offer_49 : DC b_Pk_offer 49 (.iload_n 3) 1 50 := ⟨by decide +kernel, rfl⟩
theorem d_Pk_offer_50 : DC b_Pk_offer 50 (.iaload) 1 51 := ⟨by decide +kernel, rfl⟩
theorem d_Pk_offer_51 : DB b_Pk_offer 51 (.if_icmp .le 34) 34 85 54 := ⟨by decide +kernel, by decide, rfl⟩
theorem d_Pk_offer_54 : DC b_Pk_offer 54 (.aload_n 0) 1 55 := ⟨by decide +kernel, rfl⟩
theorem d_Pk_offer_55 : DC b_Pk_offer 55 (.getfield 11) 3 58 := ⟨by decide +kernel, rfl⟩
theorem d_Pk_offer_58 : DC b_Pk_offer 58 (.iload_n 3) 1 59 := ⟨by decide +kernel, rfl⟩
theorem d_Pk_offer_59 : DC b_Pk_offer 59 (.iload 4) 2 61 := ⟨by decide +kernel, rfl⟩
theorem d_Pk_offer_61 : DC b_Pk_offer 61 (.iload_n 2) 1 62 := ⟨by decide +kernel, rfl⟩
theorem d_Pk_offer_62 : DC b_Pk_offer 62 (.iadd) 1 63 := ⟨by decide +kernel, rfl⟩
theorem d_Pk_offer_63 : DC b_Pk_offer 63 (.iastore) 1 64 := ⟨by decide +kernel, rfl⟩
theorem d_Pk_offer_64 : DC b_Pk_offer 64 (.aload_n 0) 1 65 := ⟨by decide +kernel, rfl⟩
theorem d_Pk_offer_65 : DC b_Pk_offer 65 (.getfield 15) 3 68 := ⟨by decide +kernel, rfl⟩
theorem d_Pk_offer_68 : DC b_Pk_offer 68 (.iload_n 3) 1 69 := ⟨by decide +kernel, rfl⟩
theorem d_Pk_offer_69 : DC b_Pk_offer 69 (.aload_n 0) 1 70 := ⟨by decide +kernel, rfl⟩
theorem d_Pk_offer_70 : DC b_Pk_offer 70 (.getfield 15) 3 73 := ⟨by decide +kernel, rfl⟩
theorem d_Pk_offer_73 : DC b_Pk_offer 73 (.iload_n 3) 1 74 := ⟨by decide +kernel, rfl⟩
theorem d_Pk_offer_74 : DC b_Pk_offer 74 (.iload_n 1) 1 75 := ⟨by decide +kernel, rfl⟩
theorem d_Pk_offer_75 : DC b_Pk_offer 75 (.isub) 1 76 := ⟨by decide +kernel, rfl⟩
theorem d_Pk_offer_76 : DC b_Pk_offer 76 (.iaload) 1 77 := ⟨by decide +kernel, rfl⟩
theorem d_Pk_offer_77 : DC b_Pk_offer 77 (.iconst 1) 1 78 := ⟨by decide +kernel, rfl⟩
theorem d_Pk_offer_78 : DC b_Pk_offer 78 (.aload_n 0) 1 79 := ⟨by decide +kernel, rfl⟩
theorem d_Pk_offer_79 : DC b_Pk_offer 79 (.getfield 22) 3 82 := ⟨by decide +kernel, rfl⟩
theorem d_Pk_offer_82 : DC b_Pk_offer 82 (.ishl) 1 83 := ⟨by decide +kernel, rfl⟩
theorem d_Pk_offer_83 : DC b_Pk_offer 83 (.ior) 1 84 := ⟨by decide +kernel, rfl⟩
theorem d_Pk_offer_84 : DC b_Pk_offer 84 (.iastore) 1 85 := ⟨by decide +kernel, rfl⟩
theorem d_Pk_offer_85 : DC b_Pk_offer 85 (.iinc 3 (-1)) 3 88 := ⟨by decide +kernel, rfl⟩
theorem d_Pk_offer_88 : DB b_Pk_offer 88 (.goto (-69)) (-69) 19 91 := ⟨by decide +kernel, by decide, rfl⟩
theorem d_Pk_offer_91 : DC b_Pk_offer 91 (.aload_n 0) 1 92 := ⟨by decide +kernel, rfl⟩
theorem d_Pk_offer_92 : DC b_Pk_offer 92 (.dup) 1 93 := ⟨by decide +kernel, rfl⟩
theorem d_Pk_offer_93 : DC b_Pk_offer 93 (.getfield 22) 3 96 := ⟨by decide +kernel, rfl⟩
theorem d_Pk_offer_96 : DC b_Pk_offer 96 (.iconst 1) 1 97 := ⟨by decide +kernel, rfl⟩
theorem d_Pk_offer_97 : DC b_Pk_offer 97 (.iadd) 1 98 := ⟨by decide +kernel, rfl⟩
theorem d_Pk_offer_98 : DC b_Pk_offer 98 (.putfield 22) 3 101 := ⟨by decide +kernel, rfl⟩
theorem d_Pk_offer_101 : decode b_Pk_offer 101 = .ok (.return_, 1) := by decide +kernel
theorem w_Pk_offer_b85 {X : Ctx} {Y : Lay} (hY : IsX Y) (C : Cx X Y b_Pk_offer 5 none "TopYard$Pack" 1) {N : Nat} {r : Mem} (k19 : Int32 → Int32 → Int32 → Mem → Option (Mem)) (hk19 : ∀ (x1 : Int32) (x2 : Int32) (x3 : Int32) (ν : Mem), k19 x1 x2 x3 ν = some r → J X Y none r 5 19 [(0, .ref (yad Y 44)), (1, .int x1), (2, .int x2), (3, .int x3)] [] ν) (x1 : Int32) (x2 : Int32) (x3 : Int32) (μ : Mem) (hf : f_Pk_offer_b85 N k19 x1 x2 x3 μ = some r) : J X Y none r 5 85 [(0, .ref (yad Y 44)), (1, .int x1), (2, .int x2), (3, .int x3)] [] μ := by
  unfold f_Pk_offer_b85 at hf
  refine j_iinc (lvf := [(0, .ref (yad Y 44)), (1, .int x1), (2, .int x2)]) (v := (-1)) C d_Pk_offer_85 3 rfl (by decide) (by decide) rfl hf (fun v1 hf => ?_)
  refine j_goto C d_Pk_offer_88 ?_
  refine j_sub [1, 2, 3, 0] rfl ?_
  exact hk19 x1 x2 v1 μ hf
theorem w_Pk_offer_l19 {X : Ctx} {Y : Lay} (hY : IsX Y) (C : Cx X Y b_Pk_offer 5 none "TopYard$Pack" 1) {N : Nat} {r : Mem} : ∀ (n : Nat) (x1 : Int32) (x2 : Int32) (x3 : Int32) (μ : Mem), f_Pk_offer_l19 N n x1 x2 x3 μ = some r → J X Y none r 5 19 [(0, .ref (yad Y 44)), (1, .int x1), (2, .int x2), (3, .int x3)] [] μ := by
  intro n
  induction n with
  | zero => intro x1 x2 x3 μ hf; rw [f_Pk_offer_l19] at hf; cases hf
  | succ n ih =>
    intro x1 x2 x3 μ hf
    rw [f_Pk_offer_l19] at hf
    refine j_iload_n C d_Pk_offer_19 3 rfl ?_
    refine j_iload_n C d_Pk_offer_20 1 rfl ?_
    refine j_icmp_lt C d_Pk_offer_21 hf (fun hf => ?_) (fun hf => ?_)
    · refine j_aload_n C d_Pk_offer_91 0 rfl ?_
      refine j_dup C d_Pk_offer_92 rfl ?_
      refine j_gI C fl_Pk_22 (kX hY rfl) (nX hY (by decide)) rfl d_Pk_offer_93 ?_
      refine j_iconst (v := 1) C d_Pk_offer_96 (by decide) ?_
      refine j_iadd C d_Pk_offer_97 ?_
      refine j_pI C fl_Pk_22 (kX hY rfl) (nX hY (by decide)) rfl rfl rfl d_Pk_offer_98 hf (fun μ1 hf => ?_)
      obtain rfl := Option.some.inj hf
      exact j_vret C d_Pk_offer_101
    · refine j_aload_n C d_Pk_offer_24 0 rfl ?_
      refine j_gS (b := 45) C fl_Pk_11 (kX hY rfl) (nX hY (by decide)) rfl hY.2.2.2.1 rfl (sX hY rfl) d_Pk_offer_25 ?_
      refine j_iload_n C d_Pk_offer_28 3 rfl ?_
      refine j_iload_n C d_Pk_offer_29 1 rfl ?_
      refine j_isub C d_Pk_offer_30 ?_
      refine ck hf (fun hi2 hf => ?_)
      refine j_iald C (kX hY rfl) (nX hY (by decide)) (lX hY rfl) hi2 d_Pk_offer_31 ?_
      refine j_istoreN (lvf := [(0, .ref (yad Y 44)), (1, .int x1), (2, .int x2), (3, .int x3)]) C d_Pk_offer_32 (by decide) rfl hf (fun v3 hf => ?_)
      refine j_iload C d_Pk_offer_34 0 rfl ?_
      refine j_ldc (v := (-2147483648)) C d_Pk_offer_36 wd_129 ?_
      refine j_icmp_eq C d_Pk_offer_38 hf (fun hf => ?_) (fun hf => ?_)
      · refine j_sub [1, 2, 3, 4] rfl ?_
        exact w_Pk_offer_b85 hY C (f_Pk_offer_l19 N n) ih x1 x2 x3 μ hf
      · refine j_iload C d_Pk_offer_41 0 rfl ?_
        refine j_iload_n C d_Pk_offer_43 3 rfl ?_
        refine j_iadd C d_Pk_offer_44 ?_
        refine j_aload_n C d_Pk_offer_45 1 rfl ?_
        refine j_gS (b := 45) C fl_Pk_11 (kX hY rfl) (nX hY (by decide)) rfl hY.2.2.2.1 rfl (sX hY rfl) d_Pk_offer_46 ?_
        refine j_iload_n C d_Pk_offer_49 4 rfl ?_
        refine ck hf (fun hi4 hf => ?_)
        refine j_iald C (kX hY rfl) (nX hY (by decide)) (lX hY rfl) hi4 d_Pk_offer_50 ?_
        refine j_icmp_le C d_Pk_offer_51 hf (fun hf => ?_) (fun hf => ?_)
        · refine j_sub [1, 2, 3, 4] rfl ?_
          exact w_Pk_offer_b85 hY C (f_Pk_offer_l19 N n) ih x1 x2 x3 μ hf
        · refine j_aload_n C d_Pk_offer_54 1 rfl ?_
          refine j_gS (b := 45) C fl_Pk_11 (kX hY rfl) (nX hY (by decide)) rfl hY.2.2.2.1 rfl (sX hY rfl) d_Pk_offer_55 ?_
          refine j_iload_n C d_Pk_offer_58 4 rfl ?_
          refine j_iload C d_Pk_offer_59 0 rfl ?_
          refine j_iload_n C d_Pk_offer_61 3 rfl ?_
          refine j_iadd C d_Pk_offer_62 ?_
          refine ck hf (fun hi5 hf => ?_)
          refine j_iast C (kX hY rfl) (nX hY (by decide)) (lX hY rfl) hi5 d_Pk_offer_63 hf (fun μ6 hf => ?_)
          refine j_aload_n C d_Pk_offer_64 1 rfl ?_
          refine j_gS (b := 46) C fl_Pk_15 (kX hY rfl) (nX hY (by decide)) rfl hY.2.2.2.1 rfl (sX hY rfl) d_Pk_offer_65 ?_
          refine j_iload_n C d_Pk_offer_68 4 rfl ?_
          refine j_aload_n C d_Pk_offer_69 1 rfl ?_
          refine j_gS (b := 46) C fl_Pk_15 (kX hY rfl) (nX hY (by decide)) rfl hY.2.2.2.1 rfl (sX hY rfl) d_Pk_offer_70 ?_
          refine j_iload_n C d_Pk_offer_73 4 rfl ?_
          refine j_iload_n C d_Pk_offer_74 2 rfl ?_
          refine j_isub C d_Pk_offer_75 ?_
          refine ck hf (fun hi7 hf => ?_)
          refine j_iald C (kX hY rfl) (nX hY (by decide)) (lX hY rfl) hi7 d_Pk_offer_76 ?_
          refine j_iconst (v := 1) C d_Pk_offer_77 (by decide) ?_
          refine j_aload_n C d_Pk_offer_78 1 rfl ?_
          refine j_gI C fl_Pk_22 (kX hY rfl) (nX hY (by decide)) rfl d_Pk_offer_79 ?_
          refine j_ishl C d_Pk_offer_82 ?_
          refine j_ior C d_Pk_offer_83 ?_
          refine ck hf (fun hi8 hf => ?_)
          refine j_iast C (kX hY rfl) (nX hY (by decide)) (lX hY rfl) hi8 d_Pk_offer_84 hf (fun μ9 hf => ?_)
          refine j_sub [1, 2, 3, 4] rfl ?_
          exact w_Pk_offer_b85 hY C (f_Pk_offer_l19 N n) ih x1 x2 x3 μ9 hf
theorem c_Pk_offer {l : Launch} {Y : Lay} (hY : IsX Y) {N : Nat} {μ : Mem} {x1 : Int32} {x2 : Int32} {r : Mem} (hf : f_Pk_offer N μ x1 x2 = some r) : Ct l Y y_Pk_offer b_Pk_offer 5 none 1 [.ref (yad Y 44), .int x1, .int x2] none μ r := by
  refine ct_of (own := "TopYard$Pack") (lv := [(0, .ref (yad Y 44)), (1, .int x1), (2, .int x2)]) (by decide +kernel) rfl (Nat.le_of_ble_eq_true rfl) rfl (fun X hl C => ?_)
  subst hl
  unfold f_Pk_offer at hf
  refine j_aload_n C d_Pk_offer_0 0 rfl ?_
  refine j_gI C fl_Pk_22 (kX hY rfl) (nX hY (by decide)) rfl d_Pk_offer_1 ?_
  refine j_bipush (v := 16) C d_Pk_offer_4 (by decide) ?_
  refine j_icmp_ge C d_Pk_offer_6 hf (fun hf => ?_) (fun hf => ?_)
  · obtain rfl := Option.some.inj hf
    exact j_vret C d_Pk_offer_13
  · refine j_iload_n C d_Pk_offer_9 1 rfl ?_
    refine j_if_gt C d_Pk_offer_10 hf (fun hf => ?_) (fun hf => ?_)
    · refine j_aload_n C d_Pk_offer_14 0 rfl ?_
      refine j_gI C fl_Pk_18 (kX hY rfl) (nX hY (by decide)) rfl d_Pk_offer_15 ?_
      refine j_istore_nN (lvf := [(0, .ref (yad Y 44)), (1, .int x1), (2, .int x2)]) C d_Pk_offer_18 (by decide) rfl hf (fun v1 hf => ?_)
      refine j_sub [1, 2, 3, 0] rfl ?_
      exact w_Pk_offer_l19 hY C N x1 x2 v1 μ hf
    · obtain rfl := Option.some.inj hf
      exact j_vret C d_Pk_offer_13
theorem d_Pk_bestWeight_0 : DC b_Pk_bestWeight 0 (.iconst 0) 1 1 := ⟨by decide +kernel, rfl⟩
theorem d_Pk_bestWeight_1 : DC b_Pk_bestWeight 1 (.istore_n 1) 1 2 := ⟨by decide +kernel, rfl⟩
theorem d_Pk_bestWeight_2 : DC b_Pk_bestWeight 2 (.iconst 1) 1 3 := ⟨by decide +kernel, rfl⟩
theorem d_Pk_bestWeight_3 : DC b_Pk_bestWeight 3 (.istore_n 2) 1 4 := ⟨by decide +kernel, rfl⟩
theorem d_Pk_bestWeight_4 : DC b_Pk_bestWeight 4 (.iload_n 2) 1 5 := ⟨by decide +kernel, rfl⟩
theorem d_Pk_bestWeight_5 : DC b_Pk_bestWeight 5 (.aload_n 0) 1 6 := ⟨by decide +kernel, rfl⟩
theorem d_Pk_bestWeight_6 : DC b_Pk_bestWeight 6 (.getfield 18) 3 9 := ⟨by decide +kernel, rfl⟩
theorem d_Pk_bestWeight_9 : DB b_Pk_bestWeight 9 (.if_icmp .gt 30) 30 39 12 := ⟨by decide +kernel, by decide, rfl⟩
theorem d_Pk_bestWeight_12 : DC b_Pk_bestWeight 12 (.aload_n 0) 1 13 := ⟨by decide +kernel, rfl⟩
theorem d_Pk_bestWeight_13 : DC b_Pk_bestWeight 13 (.getfield 11) 3 16 := ⟨by decide +kernel, rfl⟩
theorem d_Pk_bestWeight_16 : DC b_Pk_bestWeight 16 (.iload_n 2) 1 17 := ⟨by decide +kernel, rfl⟩
theorem d_Pk_bestWeight_17 : DC b_Pk_bestWeight 17 (.iaload) 1 18 := ⟨by decide +kernel, rfl⟩
theorem d_Pk_bestWeight_18 : DC b_Pk_bestWeight 18 (.aload_n 0) 1 19 := ⟨by decide +kernel, rfl⟩
theorem d_Pk_bestWeight_19 : DC b_Pk_bestWeight 19 (.getfield 11) 3 22 := ⟨by decide +kernel, rfl⟩
theorem d_Pk_bestWeight_22 : DC b_Pk_bestWeight 22 (.iload_n 1) 1 23 := ⟨by decide +kernel, rfl⟩
theorem d_Pk_bestWeight_23 : DC b_Pk_bestWeight 23 (.iaload) 1 24 := ⟨by decide +kernel, rfl⟩
theorem d_Pk_bestWeight_24 : DB b_Pk_bestWeight 24 (.if_icmp .le 7) 7 31 27 := ⟨by decide +kernel, by decide, rfl⟩
theorem d_Pk_bestWeight_27 : DC b_Pk_bestWeight 27 (.iload_n 2) 1 28 := ⟨by decide +kernel, rfl⟩
theorem d_Pk_bestWeight_28 : DB b_Pk_bestWeight 28 (.goto 4) 4 32 31 := ⟨by decide +kernel, by decide, rfl⟩
theorem d_Pk_bestWeight_31 : DC b_Pk_bestWeight 31 (.iload_n 1) 1 32 := ⟨by decide +kernel, rfl⟩
theorem d_Pk_bestWeight_32 : DC b_Pk_bestWeight 32 (.istore_n 1) 1 33 := ⟨by decide +kernel, rfl⟩
theorem d_Pk_bestWeight_33 : DC b_Pk_bestWeight 33 (.iinc 2 1) 3 36 := ⟨by decide +kernel, rfl⟩
theorem d_Pk_bestWeight_36 : DB b_Pk_bestWeight 36 (.goto (-32)) (-32) 4 39 := ⟨by decide +kernel, by decide, rfl⟩
theorem d_Pk_bestWeight_39 : DC b_Pk_bestWeight 39 (.iload_n 1) 1 40 := ⟨by decide +kernel, rfl⟩
theorem d_Pk_bestWeight_40 : decode b_Pk_bestWeight 40 = .ok (.ireturn, 1) := by decide +kernel
theorem w_Pk_bestWeight_b32 {X : Ctx} {Y : Lay} (hY : IsX Y) (C : Cx X Y b_Pk_bestWeight 3 (some .int) "TopYard$Pack" 1) {N : Nat} {μ : Mem} {r : Int32} (k4 : Int32 → Int32 → Option (Int32)) (hk4 : ∀ (x1 : Int32) (x2 : Int32), k4 x1 x2 = some r → J X Y (some (.int r)) μ 3 4 [(0, .ref (yad Y 44)), (1, .int x1), (2, .int x2)] [] μ) (x2 : Int32) (xs0 : Int32) (hf : f_Pk_bestWeight_b32 N μ k4 x2 xs0 = some r) : J X Y (some (.int r)) μ 3 32 [(0, .ref (yad Y 44)), (2, .int x2)] [.int xs0] μ := by
  unfold f_Pk_bestWeight_b32 at hf
  refine j_istore_n (lvf := [(0, .ref (yad Y 44)), (2, .int x2)]) C d_Pk_bestWeight_32 (by decide) rfl ?_
  refine j_iinc (lvf := [(1, .int xs0), (0, .ref (yad Y 44))]) (v := 1) C d_Pk_bestWeight_33 2 rfl (by decide) (by decide) rfl hf (fun v1 hf => ?_)
  refine j_goto C d_Pk_bestWeight_36 ?_
  refine j_sub [2, 1, 0] rfl ?_
  exact hk4 xs0 v1 hf
theorem w_Pk_bestWeight_l4 {X : Ctx} {Y : Lay} (hY : IsX Y) (C : Cx X Y b_Pk_bestWeight 3 (some .int) "TopYard$Pack" 1) {N : Nat} {μ : Mem} {r : Int32} : ∀ (n : Nat) (x1 : Int32) (x2 : Int32), f_Pk_bestWeight_l4 N μ n x1 x2 = some r → J X Y (some (.int r)) μ 3 4 [(0, .ref (yad Y 44)), (1, .int x1), (2, .int x2)] [] μ := by
  intro n
  induction n with
  | zero => intro x1 x2 hf; rw [f_Pk_bestWeight_l4] at hf; cases hf
  | succ n ih =>
    intro x1 x2 hf
    rw [f_Pk_bestWeight_l4] at hf
    refine j_iload_n C d_Pk_bestWeight_4 2 rfl ?_
    refine j_aload_n C d_Pk_bestWeight_5 0 rfl ?_
    refine j_gI C fl_Pk_18 (kX hY rfl) (nX hY (by decide)) rfl d_Pk_bestWeight_6 ?_
    refine j_icmp_gt C d_Pk_bestWeight_9 hf (fun hf => ?_) (fun hf => ?_)
    · refine j_iload_n C d_Pk_bestWeight_39 1 rfl ?_
      obtain rfl := Option.some.inj hf
      exact j_iret C d_Pk_bestWeight_40
    · refine j_aload_n C d_Pk_bestWeight_12 0 rfl ?_
      refine j_gS (b := 45) C fl_Pk_11 (kX hY rfl) (nX hY (by decide)) rfl hY.2.2.2.1 rfl (sX hY rfl) d_Pk_bestWeight_13 ?_
      refine j_iload_n C d_Pk_bestWeight_16 2 rfl ?_
      refine ck hf (fun hi1 hf => ?_)
      refine j_iald C (kX hY rfl) (nX hY (by decide)) (lX hY rfl) hi1 d_Pk_bestWeight_17 ?_
      refine j_aload_n C d_Pk_bestWeight_18 0 rfl ?_
      refine j_gS (b := 45) C fl_Pk_11 (kX hY rfl) (nX hY (by decide)) rfl hY.2.2.2.1 rfl (sX hY rfl) d_Pk_bestWeight_19 ?_
      refine j_iload_n C d_Pk_bestWeight_22 1 rfl ?_
      refine ck hf (fun hi2 hf => ?_)
      refine j_iald C (kX hY rfl) (nX hY (by decide)) (lX hY rfl) hi2 d_Pk_bestWeight_23 ?_
      refine j_icmp_le C d_Pk_bestWeight_24 hf (fun hf => ?_) (fun hf => ?_)
      · refine j_iload_n C d_Pk_bestWeight_31 1 rfl ?_
        refine j_sub [0, 2] rfl ?_
        exact w_Pk_bestWeight_b32 hY C (f_Pk_bestWeight_l4 N μ n) ih x2 x1 hf
      · refine j_iload_n C d_Pk_bestWeight_27 2 rfl ?_
        refine j_goto C d_Pk_bestWeight_28 ?_
        refine j_sub [0, 2] rfl ?_
        exact w_Pk_bestWeight_b32 hY C (f_Pk_bestWeight_l4 N μ n) ih x2 x2 hf
theorem c_Pk_bestWeight {l : Launch} {Y : Lay} (hY : IsX Y) {N : Nat} {μ : Mem} {r : Int32} (hf : f_Pk_bestWeight N μ = some r) : Ct l Y y_Pk_bestWeight b_Pk_bestWeight 3 (some .int) 1 [.ref (yad Y 44)] (some (.int r)) μ μ := by
  refine ct_of (own := "TopYard$Pack") (lv := [(0, .ref (yad Y 44))]) (by decide +kernel) rfl (Nat.le_of_ble_eq_true rfl) rfl (fun X hl C => ?_)
  subst hl
  unfold f_Pk_bestWeight at hf
  refine j_iconst (v := 0) C d_Pk_bestWeight_0 (by decide) ?_
  refine j_istore_n (lvf := [(0, .ref (yad Y 44))]) C d_Pk_bestWeight_1 (by decide) rfl ?_
  refine j_iconst (v := 1) C d_Pk_bestWeight_2 (by decide) ?_
  refine j_istore_n (lvf := [(1, .int 0), (0, .ref (yad Y 44))]) C d_Pk_bestWeight_3 (by decide) rfl ?_
  refine j_sub [2, 1, 0] rfl ?_
  exact w_Pk_bestWeight_l4 hY C N 0 1 hf
theorem d_X_bag_0 : DC b_X_bag 0 (.iload_n 1) 1 1 := ⟨by decide +kernel, rfl⟩
theorem d_X_bag_1 : DC b_X_bag 1 (.invokestatic 103) 3 4 := ⟨by decide +kernel, rfl⟩
theorem d_X_bag_4 : DB b_X_bag 4 (.ifCond .eq 23) 23 27 7 := ⟨by decide +kernel, by decide, rfl⟩
theorem d_X_bag_7 : DC b_X_bag 7 (.iload_n 2) 1 8 := ⟨by decide +kernel, rfl⟩
theorem d_X_bag_8 : DC b_X_bag 8 (.iconst 1) 1 9 := ⟨by decide +kernel, rfl⟩
theorem d_X_bag_9 : DC b_X_bag 9 (.sipush 500) 3 12 := ⟨by decide +kernel, rfl⟩
theorem d_X_bag_12 : DC b_X_bag 12 (.invokestatic 90) 3 15 := ⟨by decide +kernel, rfl⟩
theorem d_X_bag_15 : DB b_X_bag 15 (.ifCond .eq 12) 12 27 18 := ⟨by decide +kernel, by decide, rfl⟩
theorem d_X_bag_18 : DC b_X_bag 18 (.iload_n 3) 1 19 := ⟨by decide +kernel, rfl⟩
theorem d_X_bag_19 : DC b_X_bag 19 (.iconst 0) 1 20 := ⟨by decide +kernel, rfl⟩
theorem d_X_bag_20 : DC b_X_bag 20 (.iconst 2) 1 21 := ⟨by decide +kernel, rfl⟩
theorem d_X_bag_21 : DC b_X_bag 21 (.invokestatic 90) 3 24 := ⟨by decide +kernel, rfl⟩
theorem d_X_bag_24 : DB b_X_bag 24 (.ifCond .ne 6) 6 30 27 := ⟨by decide +kernel, by decide, rfl⟩
theorem d_X_bag_27 : DC b_X_bag 27 (.bipush (-2)) 2 29 := ⟨by decide +kernel, rfl⟩
theorem d_X_bag_29 : decode b_X_bag 29 = .ok (.ireturn, 1) := by decide +kernel
theorem d_X_bag_30 : DC b_X_bag 30 (.aload_n 0) 1 31 := ⟨by decide +kernel, rfl⟩
theorem d_X_bag_31 : DC b_X_bag 31 (.getfield 70) 3 34 := ⟨by decide +kernel, rfl⟩
theorem d_X_bag_34 : DC b_X_bag 34 (.iload_n 2) 1 35 := ⟨by decide +kernel, rfl⟩
theorem d_X_bag_35 : DC b_X_bag 35 (.invokevirtual 326) 3 38 := ⟨by decide +kernel, rfl⟩
theorem d_X_bag_38 : DC b_X_bag 38 (.iconst 0) 1 39 := ⟨by decide +kernel, rfl⟩
theorem d_X_bag_39 : DC b_X_bag 39 (.istore 4) 2 41 := ⟨by decide +kernel, rfl⟩
theorem d_X_bag_41 : DC b_X_bag 41 (.iload 4) 2 43 := ⟨by decide +kernel, rfl⟩
theorem d_X_bag_43 : DC b_X_bag 43 (.aload_n 0) 1 44 := ⟨by decide +kernel, rfl⟩
theorem d_X_bag_44 : DC b_X_bag 44 (.getfield 15) 3 47 := ⟨by decide +kernel, rfl⟩
theorem d_X_bag_47 : DB b_X_bag 47 (.if_icmp .ge 48) 48 95 50 := ⟨by decide +kernel, by decide, rfl⟩
theorem d_X_bag_50 : DC b_X_bag 50 (.aload_n 0) 1 51 := ⟨by decide +kernel, rfl⟩
theorem d_X_bag_51 : DC b_X_bag 51 (.iload 4) 2 53 := ⟨by decide +kernel, rfl⟩
theorem d_X_bag_53 : DC b_X_bag 53 (.invokevirtual 110) 3 56 := ⟨by decide +kernel, rfl⟩
theorem d_X_bag_56 : DC b_X_bag 56 (.astore 5) 2 58 := ⟨by decide +kernel, rfl⟩
theorem d_X_bag_58 : DC b_X_bag 58 (.aload 5) 2 60 := ⟨by decide +kernel, rfl⟩
theorem d_X_bag_60 : DB b_X_bag 60 (.ifnull 29) 29 89 63 := ⟨by decide +kernel, by decide, rfl⟩
theorem d_X_bag_63 : DC b_X_bag 63 (.aload 5) 2 65 := ⟨by decide +kernel, rfl⟩
theorem d_X_bag_65 : DC b_X_bag 65 (.getfield 126) 3 68 := ⟨by decide +kernel, rfl⟩
theorem d_X_bag_68 : DC b_X_bag 68 (.iload_n 1) 1 69 := ⟨by decide +kernel, rfl⟩
theorem d_X_bag_69 : DB b_X_bag 69 (.if_icmp .ne 20) 20 89 72 := ⟨by decide +kernel, by decide, rfl⟩
theorem d_X_bag_72 : DC b_X_bag 72 (.aload_n 0) 1 73 := ⟨by decide +kernel, rfl⟩
theorem d_X_bag_73 : DC b_X_bag 73 (.getfield 70) 3 76 := ⟨by decide +kernel, rfl⟩
theorem d_X_bag_76 : DC b_X_bag 76 (.aload 5) 2 78 := ⟨by decide +kernel, rfl⟩
theorem d_X_bag_78 : DC b_X_bag 78 (.getfield 114) 3 81 := ⟨by decide +kernel, rfl⟩
theorem d_X_bag_81 : DC b_X_bag 81 (.aload 5) 2 83 := ⟨by decide +kernel, rfl⟩
theorem d_X_bag_83 : DC b_X_bag 83 (.invokevirtual 328) 3 86 := ⟨by decide +kernel, rfl⟩
theorem d_X_bag_86 : DC b_X_bag 86 (.invokevirtual 331) 3 89 := ⟨by decide +kernel, rfl⟩
theorem d_X_bag_89 : DC b_X_bag 89 (.iinc 4 1) 3 92 := ⟨by decide +kernel, rfl⟩
theorem d_X_bag_92 : DB b_X_bag 92 (.goto (-51)) (-51) 41 95 := ⟨by decide +kernel, by decide, rfl⟩
theorem d_X_bag_95 : DC b_X_bag 95 (.aload_n 0) 1 96 := ⟨by decide +kernel, rfl⟩
theorem d_X_bag_96 : DC b_X_bag 96 (.getfield 70) 3 99 := ⟨by decide +kernel, rfl⟩
theorem d_X_bag_99 : DC b_X_bag 99 (.invokevirtual 334) 3 102 := ⟨by decide +kernel, rfl⟩
theorem d_X_bag_102 : DC b_X_bag 102 (.istore 4) 2 104 := ⟨by decide +kernel, rfl⟩
theorem d_X_bag_104 : DC b_X_bag 104 (.iload_n 3) 1 105 := ⟨by decide +kernel, rfl⟩
theorem d_X_bag_105 : decode b_X_bag 105 = .ok (.lookupswitch 49 #[(0, 27), (1, 38)], 27) := by decide +kernel
theorem d_X_bag_132 : DC b_X_bag 132 (.aload_n 0) 1 133 := ⟨by decide +kernel, rfl⟩
theorem d_X_bag_133 : DC b_X_bag 133 (.getfield 70) 3 136 := ⟨by decide +kernel, rfl⟩
theorem d_X_bag_136 : DC b_X_bag 136 (.getfield 337) 3 139 := ⟨by decide +kernel, rfl⟩
theorem d_X_bag_139 : DC b_X_bag 139 (.iload 4) 2 141 := ⟨by decide +kernel, rfl⟩
theorem d_X_bag_141 : DC b_X_bag 141 (.iaload) 1 142 := ⟨by decide +kernel, rfl⟩
theorem d_X_bag_142 : decode b_X_bag 142 = .ok (.ireturn, 1) := by decide +kernel
theorem d_X_bag_143 : DC b_X_bag 143 (.aload_n 0) 1 144 := ⟨by decide +kernel, rfl⟩
theorem d_X_bag_144 : DC b_X_bag 144 (.getfield 70) 3 147 := ⟨by decide +kernel, rfl⟩
theorem d_X_bag_147 : DC b_X_bag 147 (.getfield 340) 3 150 := ⟨by decide +kernel, rfl⟩
theorem d_X_bag_150 : DC b_X_bag 150 (.iload 4) 2 152 := ⟨by decide +kernel, rfl⟩
theorem d_X_bag_152 : DC b_X_bag 152 (.iaload) 1 153 := ⟨by decide +kernel, rfl⟩
theorem d_X_bag_153 : decode b_X_bag 153 = .ok (.ireturn, 1) := by decide +kernel
theorem d_X_bag_154 : DC b_X_bag 154 (.iload 4) 2 156 := ⟨by decide +kernel, rfl⟩
theorem d_X_bag_156 : decode b_X_bag 156 = .ok (.ireturn, 1) := by decide +kernel
theorem w_X_bag_b89 {X : Ctx} {Y : Lay} (hY : IsX Y) (C : Cx X Y b_X_bag 6 (some .int) "TopYard" 3) {N : Nat} {r : Int32 × Mem} (k41 : Int32 → Int32 → Int32 → Mem → Option (Int32 × Mem)) (hk41 : ∀ (x1 : Int32) (x3 : Int32) (x4 : Int32) (ν : Mem), k41 x1 x3 x4 ν = some r → J X Y (some (.int r.1)) r.2 6 41 [(0, .ref (yad Y 0)), (1, .int x1), (3, .int x3), (4, .int x4)] [] ν) (x1 : Int32) (x3 : Int32) (x4 : Int32) (μ : Mem) (hf : f_X_bag_b89 N k41 x1 x3 x4 μ = some r) : J X Y (some (.int r.1)) r.2 6 89 [(0, .ref (yad Y 0)), (1, .int x1), (3, .int x3), (4, .int x4)] [] μ := by
  unfold f_X_bag_b89 at hf
  refine j_iinc (lvf := [(0, .ref (yad Y 0)), (1, .int x1), (3, .int x3)]) (v := 1) C d_X_bag_89 3 rfl (by decide) (by decide) rfl hf (fun v1 hf => ?_)
  refine j_goto C d_X_bag_92 ?_
  refine j_sub [1, 2, 3, 0] rfl ?_
  exact hk41 x1 x3 v1 μ hf
theorem w_X_bag_l41 {X : Ctx} {Y : Lay} (hY : IsX Y) (C : Cx X Y b_X_bag 6 (some .int) "TopYard" 3) {N : Nat} {r : Int32 × Mem} : ∀ (n : Nat) (x1 : Int32) (x3 : Int32) (x4 : Int32) (μ : Mem), f_X_bag_l41 N n x1 x3 x4 μ = some r → J X Y (some (.int r.1)) r.2 6 41 [(0, .ref (yad Y 0)), (1, .int x1), (3, .int x3), (4, .int x4)] [] μ := by
  intro n
  induction n with
  | zero => intro x1 x3 x4 μ hf; rw [f_X_bag_l41] at hf; cases hf
  | succ n ih =>
    intro x1 x3 x4 μ hf
    rw [f_X_bag_l41] at hf
    refine j_iload C d_X_bag_41 3 rfl ?_
    refine j_aload_n C d_X_bag_43 0 rfl ?_
    refine j_gI C fl_X_15 (kX hY rfl) (nX hY (by decide)) rfl d_X_bag_44 ?_
    refine j_icmp_ge C d_X_bag_47 hf (fun hf => ?_) (fun hf => ?_)
    · refine j_aload_n C d_X_bag_95 0 rfl ?_
      refine j_gS (b := 44) C fl_X_70 (kX hY rfl) (nX hY (by decide)) rfl hY.2.2.2.1 rfl (sX hY rfl) d_X_bag_96 ?_
      refine bd hf (fun v1 hc6 hf => ?_)
      refine j_cV (rest := []) C lk_X_334 (c_Pk_bestWeight hY hc6) rfl (kX hY rfl) (nX hY (by decide)) (by decide) rfl rfl (by decide) rfl (Nat.le_of_ble_eq_true rfl) d_X_bag_99 ?_
      refine j_istore (lvf := [(0, .ref (yad Y 0)), (1, .int x1), (3, .int x3)]) C d_X_bag_102 (by decide) rfl ?_
      refine j_iload_n C d_X_bag_104 3 rfl ?_
      refine j_key hf (fun hx3 hf => ?_) (fun hx3 hf => ?_)
      · refine j_look (tgt' := 132) (off := 27) C d_X_bag_105 (by decide) (by rw [hx3]; decide) (by decide) ?_
        refine j_aload_n C d_X_bag_132 1 rfl ?_
        refine j_gS (b := 44) C fl_X_70 (kX hY rfl) (nX hY (by decide)) rfl hY.2.2.2.1 rfl (sX hY rfl) d_X_bag_133 ?_
        refine j_gS (b := 46) C fl_X_337 (kX hY rfl) (nX hY (by decide)) rfl hY.2.2.2.1 rfl (sX hY rfl) d_X_bag_136 ?_
        refine j_iload C d_X_bag_139 0 rfl ?_
        refine ck hf (fun hi2 hf => ?_)
        refine j_iald C (kX hY rfl) (nX hY (by decide)) (lX hY rfl) hi2 d_X_bag_141 ?_
        obtain rfl := Option.some.inj hf
        exact j_iret C d_X_bag_142
      · refine j_key hf (fun hx5 hf => ?_) (fun hx5 hf => ?_)
        · refine j_look (tgt' := 143) (off := 38) C d_X_bag_105 (by decide) (by rw [hx5]; decide) (by decide) ?_
          refine j_aload_n C d_X_bag_143 1 rfl ?_
          refine j_gS (b := 44) C fl_X_70 (kX hY rfl) (nX hY (by decide)) rfl hY.2.2.2.1 rfl (sX hY rfl) d_X_bag_144 ?_
          refine j_gS (b := 45) C fl_X_340 (kX hY rfl) (nX hY (by decide)) rfl hY.2.2.2.1 rfl (sX hY rfl) d_X_bag_147 ?_
          refine j_iload C d_X_bag_150 0 rfl ?_
          refine ck hf (fun hi4 hf => ?_)
          refine j_iald C (kX hY rfl) (nX hY (by decide)) (lX hY rfl) hi4 d_X_bag_152 ?_
          obtain rfl := Option.some.inj hf
          exact j_iret C d_X_bag_153
        · refine j_look (tgt' := 154) (off := 49) C d_X_bag_105 (by decide) (by have qhx3 := sw_ne (z := 0) hx3 (by decide); have qhx5 := sw_ne (z := 1) hx5 (by decide); exact look_dflt _ (by simp; omega)) (by decide) ?_
          refine j_iload C d_X_bag_154 0 rfl ?_
          obtain rfl := Option.some.inj hf
          exact j_iret C d_X_bag_156
    · refine j_aload_n C d_X_bag_50 0 rfl ?_
      refine j_iload C d_X_bag_51 3 rfl ?_
      refine bd hf (fun u7 hc13 hf => ?_)
      refine j_wt (fun hT hSt => ?_)
      have hu7 := rt_X_topAt hY hT hc13
      refine j_cV (rest := []) C lk_X_110 (c_X_topAt hY hc13) rfl (kX hY rfl) (nX hY (by decide)) (by decide) rfl rfl (by decide) rfl (Nat.le_of_ble_eq_true rfl) d_X_bag_53 ?_
      refine j_astoreo (lvf := [(0, .ref (yad Y 0)), (1, .int x1), (3, .int x3), (4, .int x4)]) C d_X_bag_56 (by decide) rfl ?_
      refine j_aloado C d_X_bag_58 0 rfl ?_
      cases u7 with
      | none =>
        refine j_nul_t C d_X_bag_60 ?_
        refine j_sub [1, 2, 3, 4] rfl ?_
        exact w_X_bag_b89 hY C (f_X_bag_l41 N n) ih x1 x3 x4 μ hf
      | some e8 =>
        refine j_nul_f C d_X_bag_60 ?_
        refine j_aload C d_X_bag_63 0 rfl ?_
        refine j_gI C fl_X_126 (hu7 e8 rfl).2 (hu7 e8 rfl).1 rfl d_X_bag_65 ?_
        refine j_iload_n C d_X_bag_68 2 rfl ?_
        refine j_icmp_ne C d_X_bag_69 hf (fun hf => ?_) (fun hf => ?_)
        · refine j_sub [1, 2, 3, 4] rfl ?_
          exact w_X_bag_b89 hY C (f_X_bag_l41 N n) ih x1 x3 x4 μ hf
        · refine j_aload_n C d_X_bag_72 1 rfl ?_
          refine j_gS (b := 44) C fl_X_70 (kX hY rfl) (nX hY (by decide)) rfl hY.2.2.2.1 rfl (sX hY rfl) d_X_bag_73 ?_
          refine j_aload C d_X_bag_76 0 rfl ?_
          refine j_gI C fl_X_114 (hu7 e8 rfl).2 (hu7 e8 rfl).1 rfl d_X_bag_78 ?_
          refine j_aload C d_X_bag_81 0 rfl ?_
          refine bd hf (fun v9 hc12 hf => ?_)
          refine j_cV (rest := [.int (gI μ e8 0), .ref (yad Y 44)]) C lk_X_328 (c_To_worth hY ⟨(hu7 e8 rfl).2, (hu7 e8 rfl).1⟩ hc12) rfl (hu7 e8 rfl).2 (hu7 e8 rfl).1 (by decide) rfl rfl (by decide) rfl (Nat.le_of_ble_eq_true rfl) d_X_bag_83 ?_
          refine bd hf (fun μ10 hc11 hf => ?_)
          refine j_cV (rest := []) C lk_X_331 (c_Pk_offer hY hc11) rfl (kX hY rfl) (nX hY (by decide)) (by decide) rfl rfl (by decide) rfl (Nat.le_of_ble_eq_true rfl) d_X_bag_86 ?_
          refine j_sub [1, 2, 3, 4] rfl ?_
          exact w_X_bag_b89 hY C (f_X_bag_l41 N n) ih x1 x3 x4 μ10 hf
theorem c_X_bag {l : Launch} {Y : Lay} (hY : IsX Y) {N : Nat} {μ : Mem} {x1 : Int32} {x2 : Int32} {x3 : Int32} {r : Int32 × Mem} (hf : f_X_bag N μ x1 x2 x3 = some r) : Ct l Y y_X_bag b_X_bag 6 (some .int) 3 [.ref (yad Y 0), .int x1, .int x2, .int x3] (some (.int r.1)) μ r.2 := by
  refine ct_of (own := "TopYard") (lv := [(0, .ref (yad Y 0)), (1, .int x1), (2, .int x2), (3, .int x3)]) (by decide +kernel) rfl (Nat.le_of_ble_eq_true rfl) rfl (fun X hl C => ?_)
  subst hl
  unfold f_X_bag at hf
  refine j_iload_n C d_X_bag_0 1 rfl ?_
  refine bd hf (fun v1 hc8 hf => ?_)
  refine j_cS (rest := []) C lk_X_103 (c_X_isOwner hY hc8) rfl (by decide) rfl (Nat.le_of_ble_eq_true rfl) d_X_bag_1 ?_
  refine j_if_eq C d_X_bag_4 hf (fun hf => ?_) (fun hf => ?_)
  · refine j_bipush (v := (-2)) C d_X_bag_27 (by decide) ?_
    obtain rfl := Option.some.inj hf
    exact j_iret C d_X_bag_29
  · refine j_iload_n C d_X_bag_7 2 rfl ?_
    refine j_iconst (v := 1) C d_X_bag_8 (by decide) ?_
    refine j_sipush (v := 500) C d_X_bag_9 (by decide) ?_
    refine bd hf (fun v2 hc7 hf => ?_)
    refine j_cS (rest := []) C lk_X_90 (c_X_within hY hc7) rfl (by decide) rfl (Nat.le_of_ble_eq_true rfl) d_X_bag_12 ?_
    refine j_if_eq C d_X_bag_15 hf (fun hf => ?_) (fun hf => ?_)
    · refine j_bipush (v := (-2)) C d_X_bag_27 (by decide) ?_
      obtain rfl := Option.some.inj hf
      exact j_iret C d_X_bag_29
    · refine j_iload_n C d_X_bag_18 3 rfl ?_
      refine j_iconst (v := 0) C d_X_bag_19 (by decide) ?_
      refine j_iconst (v := 2) C d_X_bag_20 (by decide) ?_
      refine bd hf (fun v3 hc6 hf => ?_)
      refine j_cS (rest := []) C lk_X_90 (c_X_within hY hc6) rfl (by decide) rfl (Nat.le_of_ble_eq_true rfl) d_X_bag_21 ?_
      refine j_if_ne C d_X_bag_24 hf (fun hf => ?_) (fun hf => ?_)
      · refine j_aload_n C d_X_bag_30 0 rfl ?_
        refine j_gS (b := 44) C fl_X_70 (kX hY rfl) (nX hY (by decide)) rfl hY.2.2.2.1 rfl (sX hY rfl) d_X_bag_31 ?_
        refine j_iload_n C d_X_bag_34 2 rfl ?_
        refine bd hf (fun μ4 hc5 hf => ?_)
        refine j_cV (rest := []) C lk_X_326 (c_Pk_begin hY hc5) rfl (kX hY rfl) (nX hY (by decide)) (by decide) rfl rfl (by decide) rfl (Nat.le_of_ble_eq_true rfl) d_X_bag_35 ?_
        refine j_iconst (v := 0) C d_X_bag_38 (by decide) ?_
        refine j_istore (lvf := [(0, .ref (yad Y 0)), (1, .int x1), (2, .int x2), (3, .int x3)]) C d_X_bag_39 (by decide) rfl ?_
        refine j_sub [1, 2, 4, 0] rfl ?_
        exact w_X_bag_l41 hY C N x1 x3 0 μ4 hf
      · refine j_bipush (v := (-2)) C d_X_bag_27 (by decide) ?_
        obtain rfl := Option.some.inj hf
        exact j_iret C d_X_bag_29
theorem d_Sh_isForm_0 : DC b_Sh_isForm 0 (.iload_n 0) 1 1 := ⟨by decide +kernel, rfl⟩
theorem d_Sh_isForm_1 : DB b_Sh_isForm 1 (.ifCond .lt 12) 12 13 4 := ⟨by decide +kernel, by decide, rfl⟩
theorem d_Sh_isForm_4 : DC b_Sh_isForm 4 (.iload_n 0) 1 5 := ⟨by decide +kernel, rfl⟩
theorem d_Sh_isForm_5 : DC b_Sh_isForm 5 (.iconst 2) 1 6 := ⟨by decide +kernel, rfl⟩
theorem d_Sh_isForm_6 : DB b_Sh_isForm 6 (.if_icmp .gt 7) 7 13 9 := ⟨by decide +kernel, by decide, rfl⟩
theorem d_Sh_isForm_9 : DC b_Sh_isForm 9 (.iconst 1) 1 10 := ⟨by decide +kernel, rfl⟩
theorem d_Sh_isForm_10 : DB b_Sh_isForm 10 (.goto 4) 4 14 13 := ⟨by decide +kernel, by decide, rfl⟩
theorem d_Sh_isForm_13 : DC b_Sh_isForm 13 (.iconst 0) 1 14 := ⟨by decide +kernel, rfl⟩
theorem d_Sh_isForm_14 : decode b_Sh_isForm 14 = .ok (.ireturn, 1) := by decide +kernel
theorem c_Sh_isForm {l : Launch} {Y : Lay} (hY : IsX Y) {μ : Mem} {x0 : Int32} {r : Int32} (hf : f_Sh_isForm x0 = some r) : Ct l Y y_Sh_isForm b_Sh_isForm 1 (some .boolean) 1 [.int x0] (some (.int r)) μ μ := by
  refine ct_of (own := "TopYard$Sheet") (lv := [(0, .int x0)]) (by decide +kernel) rfl (Nat.le_of_ble_eq_true rfl) rfl (fun X hl C => ?_)
  subst hl
  unfold f_Sh_isForm at hf
  refine j_iload_n C d_Sh_isForm_0 0 rfl ?_
  refine j_if_lt C d_Sh_isForm_1 hf (fun hf => ?_) (fun hf => ?_)
  · refine j_iconst (v := 0) C d_Sh_isForm_13 (by decide) ?_
    obtain rfl := Option.some.inj hf
    exact j_zret C (Or.inl rfl) d_Sh_isForm_14
  · refine j_iload_n C d_Sh_isForm_4 0 rfl ?_
    refine j_iconst (v := 2) C d_Sh_isForm_5 (by decide) ?_
    refine j_icmp_gt C d_Sh_isForm_6 hf (fun hf => ?_) (fun hf => ?_)
    · refine j_iconst (v := 0) C d_Sh_isForm_13 (by decide) ?_
      obtain rfl := Option.some.inj hf
      exact j_zret C (Or.inl rfl) d_Sh_isForm_14
    · refine j_iconst (v := 1) C d_Sh_isForm_9 (by decide) ?_
      refine j_goto C d_Sh_isForm_10 ?_
      obtain rfl := Option.some.inj hf
      exact j_zret C (Or.inr rfl) d_Sh_isForm_14
theorem d_Sh_begin_0 : DC b_Sh_begin 0 (.aload_n 0) 1 1 := ⟨by decide +kernel, rfl⟩
theorem d_Sh_begin_1 : DC b_Sh_begin 1 (.iconst 0) 1 2 := ⟨by decide +kernel, rfl⟩
theorem d_Sh_begin_2 : DC b_Sh_begin 2 (.putfield 9) 3 5 := ⟨by decide +kernel, rfl⟩
theorem d_Sh_begin_5 : DC b_Sh_begin 5 (.aload_n 0) 1 6 := ⟨by decide +kernel, rfl⟩
theorem d_Sh_begin_6 : DC b_Sh_begin 6 (.iload_n 1) 1 7 := ⟨by decide +kernel, rfl⟩
theorem d_Sh_begin_7 : DC b_Sh_begin 7 (.putfield 15) 3 10 := ⟨by decide +kernel, rfl⟩
theorem d_Sh_begin_10 : DC b_Sh_begin 10 (.aload_n 0) 1 11 := ⟨by decide +kernel, rfl⟩
theorem d_Sh_begin_11 : DC b_Sh_begin 11 (.iconst 0) 1 12 := ⟨by decide +kernel, rfl⟩
theorem d_Sh_begin_12 : DC b_Sh_begin 12 (.iload_n 2) 1 13 := ⟨by decide +kernel, rfl⟩
theorem d_Sh_begin_13 : DC b_Sh_begin 13 (.bipush 120) 2 15 := ⟨by decide +kernel, rfl⟩
theorem d_Sh_begin_15 : DC b_Sh_begin 15 (.invokestatic 26) 3 18 := ⟨by decide +kernel, rfl⟩
theorem d_Sh_begin_18 : DC b_Sh_begin 18 (.invokestatic 32) 3 21 := ⟨by decide +kernel, rfl⟩
theorem d_Sh_begin_21 : DC b_Sh_begin 21 (.putfield 19) 3 24 := ⟨by decide +kernel, rfl⟩
theorem d_Sh_begin_24 : DC b_Sh_begin 24 (.aload_n 0) 1 25 := ⟨by decide +kernel, rfl⟩
theorem d_Sh_begin_25 : DC b_Sh_begin 25 (.getfield 22) 3 28 := ⟨by decide +kernel, rfl⟩
theorem d_Sh_begin_28 : DC b_Sh_begin 28 (.iconst 0) 1 29 := ⟨by decide +kernel, rfl⟩
theorem d_Sh_begin_29 : DC b_Sh_begin 29 (.invokestatic 35) 3 32 := ⟨by decide +kernel, rfl⟩
theorem d_Sh_begin_32 : decode b_Sh_begin 32 = .ok (.return_, 1) := by decide +kernel
theorem c_Sh_begin {l : Launch} {Y : Lay} (hY : IsX Y) {N : Nat} {μ : Mem} {a0 : Nat} {x1 : Int32} {x2 : Int32} (g0 : ykd Y a0 = 6 ∧ a0 < yn Y) {r : Mem} (hf : f_Sh_begin N μ a0 x1 x2 = some r) : Ct l Y y_Sh_begin b_Sh_begin 3 none 2 [.ref (yad Y a0), .int x1, .int x2] none μ r := by
  refine ct_of (own := "TopYard$Sheet") (lv := [(0, .ref (yad Y a0)), (1, .int x1), (2, .int x2)]) (by decide +kernel) rfl (Nat.le_of_ble_eq_true rfl) rfl (fun X hl C => ?_)
  subst hl
  unfold f_Sh_begin at hf
  refine j_aload_n C d_Sh_begin_0 0 rfl ?_
  refine j_iconst (v := 0) C d_Sh_begin_1 (by decide) ?_
  refine j_pI C fl_Sh_9 g0.1 g0.2 rfl (by decide) (by decide) d_Sh_begin_2 hf (fun μ1 hf => ?_)
  refine j_aload_n C d_Sh_begin_5 0 rfl ?_
  refine j_iload_n C d_Sh_begin_6 1 rfl ?_
  refine j_pI C fl_Sh_15 g0.1 g0.2 rfl rfl rfl d_Sh_begin_7 hf (fun μ2 hf => ?_)
  refine j_aload_n C d_Sh_begin_10 0 rfl ?_
  refine j_iconst (v := 0) C d_Sh_begin_11 (by decide) ?_
  refine j_iload_n C d_Sh_begin_12 2 rfl ?_
  refine j_bipush (v := 120) C d_Sh_begin_13 (by decide) ?_
  refine bd hf (fun v3 hc9 hf => ?_)
  refine j_cS (rest := [.int 0, .ref (yad Y a0)]) C lk_Sh_26 (c_JM_min hY hc9) rfl (by decide) rfl (Nat.le_of_ble_eq_true rfl) d_Sh_begin_15 ?_
  refine bd hf (fun v4 hc8 hf => ?_)
  refine j_cS (rest := [.ref (yad Y a0)]) C lk_Sh_32 (c_JM_max1 hY hc8) rfl (by decide) rfl (Nat.le_of_ble_eq_true rfl) d_Sh_begin_18 ?_
  refine j_pI C fl_Sh_19 g0.1 g0.2 rfl rfl rfl d_Sh_begin_21 hf (fun μ5 hf => ?_)
  refine j_aload_n C d_Sh_begin_24 0 rfl ?_
  refine j_gS (b := (srX a0 3)) C fl_Sh_22 g0.1 g0.2 rfl hY.2.2.2.1 rfl (sX hY rfl) d_Sh_begin_25 ?_
  refine j_iconst (v := 0) C d_Sh_begin_28 (by decide) ?_
  refine bd hf (fun μ6 hc7 hf => ?_)
  refine j_cS (rest := []) C lk_Sh_35 (c_JA_fill hY ⟨(tbX_6_3 hY g0.1).1, (tbX_6_3 hY g0.1).2.1⟩ hc7) rfl (by decide) rfl (Nat.le_of_ble_eq_true rfl) d_Sh_begin_29 ?_
  obtain rfl := Option.some.inj hf
  exact j_vret C d_Sh_begin_32

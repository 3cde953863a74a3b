theorem d_Bt_bounce_0 : DC b_Bt_bounce 0 (.aload_n 0) 1 1 := ⟨by decide +kernel, rfl⟩
theorem d_Bt_bounce_1 : DC b_Bt_bounce 1 (.getfield 129) 3 4 := ⟨by decide +kernel, rfl⟩
theorem d_Bt_bounce_4 : DC b_Bt_bounce 4 (.aload_n 1) 1 5 := ⟨by decide +kernel, rfl⟩
theorem d_Bt_bounce_5 : DC b_Bt_bounce 5 (.getfield 129) 3 8 := ⟨by decide +kernel, rfl⟩
theorem d_Bt_bounce_8 : DC b_Bt_bounce 8 (.iadd) 1 9 := ⟨by decide +kernel, rfl⟩
theorem d_Bt_bounce_9 : DC b_Bt_bounce 9 (.i2l) 1 10 := ⟨by decide +kernel, rfl⟩
theorem d_Bt_bounce_10 : DC b_Bt_bounce 10 (.lload 6) 2 12 := ⟨by decide +kernel, rfl⟩
theorem d_Bt_bounce_12 : DC b_Bt_bounce 12 (.lmul) 1 13 := ⟨by decide +kernel, rfl⟩
theorem d_Bt_bounce_13 : DC b_Bt_bounce 13 (.lstore 8) 2 15 := ⟨by decide +kernel, rfl⟩
theorem d_Bt_bounce_15 : DC b_Bt_bounce 15 (.lload 8) 2 17 := ⟨by decide +kernel, rfl⟩
theorem d_Bt_bounce_17 : DC b_Bt_bounce 17 (.lconst 0) 1 18 := ⟨by decide +kernel, rfl⟩
theorem d_Bt_bounce_18 : DC b_Bt_bounce 18 (.lcmp) 1 19 := ⟨by decide +kernel, rfl⟩
theorem d_Bt_bounce_19 : DB b_Bt_bounce 19 (.ifCond .le 60) 60 79 22 := ⟨by decide +kernel, by decide, rfl⟩
theorem d_Bt_bounce_22 : DC b_Bt_bounce 22 (.lload_n 2) 1 23 := ⟨by decide +kernel, rfl⟩
theorem d_Bt_bounce_23 : DC b_Bt_bounce 23 (.lload 8) 2 25 := ⟨by decide +kernel, rfl⟩
theorem d_Bt_bounce_25 : DC b_Bt_bounce 25 (.ldiv) 1 26 := ⟨by decide +kernel, rfl⟩
theorem d_Bt_bounce_26 : DC b_Bt_bounce 26 (.lstore 10) 2 28 := ⟨by decide +kernel, rfl⟩
theorem d_Bt_bounce_28 : DC b_Bt_bounce 28 (.lload 4) 2 30 := ⟨by decide +kernel, rfl⟩
theorem d_Bt_bounce_30 : DC b_Bt_bounce 30 (.lload 8) 2 32 := ⟨by decide +kernel, rfl⟩
theorem d_Bt_bounce_32 : DC b_Bt_bounce 32 (.ldiv) 1 33 := ⟨by decide +kernel, rfl⟩
theorem d_Bt_bounce_33 : DC b_Bt_bounce 33 (.lstore 12) 2 35 := ⟨by decide +kernel, rfl⟩
theorem d_Bt_bounce_35 : DC b_Bt_bounce 35 (.aload_n 0) 1 36 := ⟨by decide +kernel, rfl⟩
theorem d_Bt_bounce_36 : DC b_Bt_bounce 36 (.dup) 1 37 := ⟨by decide +kernel, rfl⟩
theorem d_Bt_bounce_37 : DC b_Bt_bounce 37 (.getfield 126) 3 40 := ⟨by decide +kernel, rfl⟩
theorem d_Bt_bounce_40 : DC b_Bt_bounce 40 (.lload 10) 2 42 := ⟨by decide +kernel, rfl⟩
theorem d_Bt_bounce_42 : DC b_Bt_bounce 42 (.ladd) 1 43 := ⟨by decide +kernel, rfl⟩
theorem d_Bt_bounce_43 : DC b_Bt_bounce 43 (.putfield 126) 3 46 := ⟨by decide +kernel, rfl⟩
theorem d_Bt_bounce_46 : DC b_Bt_bounce 46 (.aload_n 1) 1 47 := ⟨by decide +kernel, rfl⟩
theorem d_Bt_bounce_47 : DC b_Bt_bounce 47 (.dup) 1 48 := ⟨by decide +kernel, rfl⟩
theorem d_Bt_bounce_48 : DC b_Bt_bounce 48 (.getfield 126) 3 51 := ⟨by decide +kernel, rfl⟩
theorem d_Bt_bounce_51 : DC b_Bt_bounce 51 (.lload 10) 2 53 := ⟨by decide +kernel, rfl⟩
theorem d_Bt_bounce_53 : DC b_Bt_bounce 53 (.lsub) 1 54 := ⟨by decide +kernel, rfl⟩
theorem d_Bt_bounce_54 : DC b_Bt_bounce 54 (.putfield 126) 3 57 := ⟨by decide +kernel, rfl⟩
theorem d_Bt_bounce_57 : DC b_Bt_bounce 57 (.aload_n 0) 1 58 := ⟨by decide +kernel, rfl⟩
theorem d_Bt_bounce_58 : DC b_Bt_bounce 58 (.dup) 1 59 := ⟨by decide +kernel, rfl⟩
theorem d_Bt_bounce_59 : DC b_Bt_bounce 59 (.getfield 132) 3 62 := ⟨by decide +kernel, rfl⟩
theorem d_Bt_bounce_62 : DC b_Bt_bounce 62 (.lload 12) 2 64 := ⟨by decide +kernel, rfl⟩
theorem d_Bt_bounce_64 : DC b_Bt_bounce 64 (.ladd) 1 65 := ⟨by decide +kernel, rfl⟩
theorem d_Bt_bounce_65 : DC b_Bt_bounce 65 (.putfield 132) 3 68 := ⟨by decide +kernel, rfl⟩
theorem d_Bt_bounce_68 : DC b_Bt_bounce 68 (.aload_n 1) 1 69 := ⟨by decide +kernel, rfl⟩
theorem d_Bt_bounce_69 : DC b_Bt_bounce 69 (.dup) 1 70 := ⟨by decide +kernel, rfl⟩
theorem d_Bt_bounce_70 : DC b_Bt_bounce 70 (.getfield 132) 3 73 := ⟨by decide +kernel, rfl⟩
theorem d_Bt_bounce_73 : DC b_Bt_bounce 73 (.lload 12) 2 75 := ⟨by decide +kernel, rfl⟩
theorem d_Bt_bounce_75 : DC b_Bt_bounce 75 (.lsub) 1 76 := ⟨by decide +kernel, rfl⟩
theorem d_Bt_bounce_76 : DC b_Bt_bounce 76 (.putfield 132) 3 79 := ⟨by decide +kernel, rfl⟩
theorem d_Bt_bounce_79 : decode b_Bt_bounce 79 = .ok (.return_, 1) := by decide +kernel
theorem c_Bt_bounce {l : Launch} {Y : Lay} (hY : IsX Y) {μ : Mem} {a0 : Nat} {a1 : Nat} {x2 : Int64} {x4 : Int64} {x6 : Int64} (g0 : ykd Y a0 = 7 ∧ a0 < yn Y) (g1 : ykd Y a1 = 7 ∧ a1 < yn Y) {r : Mem} (hf : f_Bt_bounce μ a0 a1 x2 x4 x6 = some r) : Ct l Y y_Bt_bounce b_Bt_bounce 14 none 1 [.ref (yad Y a0), .ref (yad Y a1), .long x2, .long x4, .long x6] none μ r := by
  refine ct_of (own := "TopYard$Bout") (lv := [(0, .ref (yad Y a0)), (1, .ref (yad Y a1)), (2, .long x2), (4, .long x4), (6, .long x6)]) (by decide +kernel) rfl (Nat.le_of_ble_eq_true rfl) rfl (fun X hl C => ?_)
  subst hl
  unfold f_Bt_bounce at hf
  refine j_aload_n C d_Bt_bounce_0 0 rfl ?_
  refine j_gI C fl_Bt_129 g0.1 g0.2 rfl d_Bt_bounce_1 ?_
  refine j_aload_n C d_Bt_bounce_4 1 rfl ?_
  refine j_gI C fl_Bt_129 g1.1 g1.2 rfl d_Bt_bounce_5 ?_
  refine j_iadd C d_Bt_bounce_8 ?_
  refine j_i2l C d_Bt_bounce_9 ?_
  refine j_lload C d_Bt_bounce_10 4 rfl ?_
  refine j_lmul C d_Bt_bounce_12 ?_
  refine j_lstoreN (lvf := [(0, .ref (yad Y a0)), (1, .ref (yad Y a1)), (2, .long x2), (4, .long x4), (6, .long x6)]) C d_Bt_bounce_13 (by decide) rfl hf (fun v1 hf => ?_)
  refine j_lload C d_Bt_bounce_15 0 rfl ?_
  refine j_lconst (v := 0) C d_Bt_bounce_17 (by decide) ?_
  refine j_lcmp_le C d_Bt_bounce_18 d_Bt_bounce_19 hf (fun hf => ?_) (fun hf => ?_)
  · obtain rfl := Option.some.inj hf
    exact j_vret C d_Bt_bounce_79
  · refine j_lload_n C d_Bt_bounce_22 3 rfl ?_
    refine j_lload C d_Bt_bounce_23 0 rfl ?_
    refine ckn hf (fun hz9 hf => ?_)
    refine j_ldiv C d_Bt_bounce_25 hz9 ?_
    refine j_lstoreN (lvf := [(8, .long v1), (0, .ref (yad Y a0)), (1, .ref (yad Y a1)), (2, .long x2), (4, .long x4), (6, .long x6)]) C d_Bt_bounce_26 (by decide) rfl hf (fun v2 hf => ?_)
    refine j_lload C d_Bt_bounce_28 5 rfl ?_
    refine j_lload C d_Bt_bounce_30 1 rfl ?_
    refine ckn hf (fun hz8 hf => ?_)
    refine j_ldiv C d_Bt_bounce_32 hz8 ?_
    refine j_lstoreN (lvf := [(10, .long v2), (8, .long v1), (0, .ref (yad Y a0)), (1, .ref (yad Y a1)), (2, .long x2), (4, .long x4), (6, .long x6)]) C d_Bt_bounce_33 (by decide) rfl hf (fun v3 hf => ?_)
    refine j_aload_n C d_Bt_bounce_35 3 rfl ?_
    refine j_dup C d_Bt_bounce_36 rfl ?_
    refine j_gL C fl_Bt_126 g0.1 g0.2 rfl d_Bt_bounce_37 ?_
    refine j_lload C d_Bt_bounce_40 1 rfl ?_
    refine j_ladd C d_Bt_bounce_42 ?_
    refine j_pL C fl_Bt_126 g0.1 g0.2 rfl rfl rfl d_Bt_bounce_43 hf (fun μ4 hf => ?_)
    refine j_aload_n C d_Bt_bounce_46 4 rfl ?_
    refine j_dup C d_Bt_bounce_47 rfl ?_
    refine j_gL C fl_Bt_126 g1.1 g1.2 rfl d_Bt_bounce_48 ?_
    refine j_lload C d_Bt_bounce_51 1 rfl ?_
    refine j_lsub C d_Bt_bounce_53 ?_
    refine j_pL C fl_Bt_126 g1.1 g1.2 rfl rfl rfl d_Bt_bounce_54 hf (fun μ5 hf => ?_)
    refine j_aload_n C d_Bt_bounce_57 3 rfl ?_
    refine j_dup C d_Bt_bounce_58 rfl ?_
    refine j_gL C fl_Bt_132 g0.1 g0.2 rfl d_Bt_bounce_59 ?_
    refine j_lload C d_Bt_bounce_62 0 rfl ?_
    refine j_ladd C d_Bt_bounce_64 ?_
    refine j_pL C fl_Bt_132 g0.1 g0.2 rfl rfl rfl d_Bt_bounce_65 hf (fun μ6 hf => ?_)
    refine j_aload_n C d_Bt_bounce_68 4 rfl ?_
    refine j_dup C d_Bt_bounce_69 rfl ?_
    refine j_gL C fl_Bt_132 g1.1 g1.2 rfl d_Bt_bounce_70 ?_
    refine j_lload C d_Bt_bounce_73 0 rfl ?_
    refine j_lsub C d_Bt_bounce_75 ?_
    refine j_pL C fl_Bt_132 g1.1 g1.2 rfl rfl rfl d_Bt_bounce_76 hf (fun μ7 hf => ?_)
    obtain rfl := Option.some.inj hf
    exact j_vret C d_Bt_bounce_79
theorem d_Bt_passSpin_0 : DC b_Bt_passSpin 0 (.aload_n 0) 1 1 := ⟨by decide +kernel, rfl⟩
theorem d_Bt_passSpin_1 : DC b_Bt_passSpin 1 (.getfield 109) 3 4 := ⟨by decide +kernel, rfl⟩
theorem d_Bt_passSpin_4 : DC b_Bt_passSpin 4 (.aload_n 1) 1 5 := ⟨by decide +kernel, rfl⟩
theorem d_Bt_passSpin_5 : DC b_Bt_passSpin 5 (.getfield 109) 3 8 := ⟨by decide +kernel, rfl⟩
theorem d_Bt_passSpin_8 : DC b_Bt_passSpin 8 (.isub) 1 9 := ⟨by decide +kernel, rfl⟩
theorem d_Bt_passSpin_9 : DC b_Bt_passSpin 9 (.bipush 8) 2 11 := ⟨by decide +kernel, rfl⟩
theorem d_Bt_passSpin_11 : DC b_Bt_passSpin 11 (.idiv) 1 12 := ⟨by decide +kernel, rfl⟩
theorem d_Bt_passSpin_12 : DC b_Bt_passSpin 12 (.istore_n 2) 1 13 := ⟨by decide +kernel, rfl⟩
theorem d_Bt_passSpin_13 : DC b_Bt_passSpin 13 (.aload_n 0) 1 14 := ⟨by decide +kernel, rfl⟩
theorem d_Bt_passSpin_14 : DC b_Bt_passSpin 14 (.getfield 147) 3 17 := ⟨by decide +kernel, rfl⟩
theorem d_Bt_passSpin_17 : DC b_Bt_passSpin 17 (.aload_n 1) 1 18 := ⟨by decide +kernel, rfl⟩
theorem d_Bt_passSpin_18 : DC b_Bt_passSpin 18 (.getfield 147) 3 21 := ⟨by decide +kernel, rfl⟩
theorem d_Bt_passSpin_21 : DB b_Bt_passSpin 21 (.if_icmp .ne 7) 7 28 24 := ⟨by decide +kernel, by decide, rfl⟩
theorem d_Bt_passSpin_24 : DC b_Bt_passSpin 24 (.iconst 1) 1 25 := ⟨by decide +kernel, rfl⟩
theorem d_Bt_passSpin_25 : DB b_Bt_passSpin 25 (.goto 4) 4 29 28 := ⟨by decide +kernel, by decide, rfl⟩
theorem d_Bt_passSpin_28 : DC b_Bt_passSpin 28 (.iconst 3) 1 29 := ⟨by decide +kernel, rfl⟩
theorem d_Bt_passSpin_29 : DC b_Bt_passSpin 29 (.istore_n 3) 1 30 := ⟨by decide +kernel, rfl⟩
theorem d_Bt_passSpin_30 : DC b_Bt_passSpin 30 (.aload_n 0) 1 31 := ⟨by decide +kernel, rfl⟩
theorem d_Bt_passSpin_31 : DC b_Bt_passSpin 31 (.iconst 0) 1 32 := ⟨by decide +kernel, rfl⟩
theorem d_Bt_passSpin_32 : DC b_Bt_passSpin 32 (.aload_n 0) 1 33 := ⟨by decide +kernel, rfl⟩
theorem d_Bt_passSpin_33 : DC b_Bt_passSpin 33 (.getfield 109) 3 36 := ⟨by decide +kernel, rfl⟩
theorem d_Bt_passSpin_36 : DC b_Bt_passSpin 36 (.iload_n 2) 1 37 := ⟨by decide +kernel, rfl⟩
theorem d_Bt_passSpin_37 : DC b_Bt_passSpin 37 (.isub) 1 38 := ⟨by decide +kernel, rfl⟩
theorem d_Bt_passSpin_38 : DC b_Bt_passSpin 38 (.iload_n 3) 1 39 := ⟨by decide +kernel, rfl⟩
theorem d_Bt_passSpin_39 : DC b_Bt_passSpin 39 (.isub) 1 40 := ⟨by decide +kernel, rfl⟩
theorem d_Bt_passSpin_40 : DC b_Bt_passSpin 40 (.invokestatic 150) 3 43 := ⟨by decide +kernel, rfl⟩
theorem d_Bt_passSpin_43 : DC b_Bt_passSpin 43 (.putfield 109) 3 46 := ⟨by decide +kernel, rfl⟩
theorem d_Bt_passSpin_46 : DC b_Bt_passSpin 46 (.aload_n 1) 1 47 := ⟨by decide +kernel, rfl⟩
theorem d_Bt_passSpin_47 : DC b_Bt_passSpin 47 (.iconst 0) 1 48 := ⟨by decide +kernel, rfl⟩
theorem d_Bt_passSpin_48 : DC b_Bt_passSpin 48 (.aload_n 1) 1 49 := ⟨by decide +kernel, rfl⟩
theorem d_Bt_passSpin_49 : DC b_Bt_passSpin 49 (.getfield 109) 3 52 := ⟨by decide +kernel, rfl⟩
theorem d_Bt_passSpin_52 : DC b_Bt_passSpin 52 (.iload_n 2) 1 53 := ⟨by decide +kernel, rfl⟩
theorem d_Bt_passSpin_53 : DC b_Bt_passSpin 53 (.iadd) 1 54 := ⟨by decide +kernel, rfl⟩
theorem d_Bt_passSpin_54 : DC b_Bt_passSpin 54 (.iload_n 3) 1 55 := ⟨by decide +kernel, rfl⟩
theorem d_Bt_passSpin_55 : DC b_Bt_passSpin 55 (.isub) 1 56 := ⟨by decide +kernel, rfl⟩
theorem d_Bt_passSpin_56 : DC b_Bt_passSpin 56 (.invokestatic 150) 3 59 := ⟨by decide +kernel, rfl⟩
theorem d_Bt_passSpin_59 : DC b_Bt_passSpin 59 (.putfield 109) 3 62 := ⟨by decide +kernel, rfl⟩
theorem d_Bt_passSpin_62 : decode b_Bt_passSpin 62 = .ok (.return_, 1) := by decide +kernel
theorem w_Bt_passSpin_b29 {X : Ctx} {Y : Lay} (hY : IsX Y) (C : Cx X Y b_Bt_passSpin 4 none "TopYard$Bout" 2) {r : Mem} (a0 : Nat) (a1 : Nat) (x2 : Int32) (xs0 : Int32) (μ : Mem) (g0 : ykd Y a0 = 7 ∧ a0 < yn Y) (g1 : ykd Y a1 = 7 ∧ a1 < yn Y) (hf : f_Bt_passSpin_b29 a0 a1 x2 xs0 μ = some r) : J X Y none r 4 29 [(0, .ref (yad Y a0)), (1, .ref (yad Y a1)), (2, .int x2)] [.int xs0] μ := by
  unfold f_Bt_passSpin_b29 at hf
  refine j_istore_n (lvf := [(0, .ref (yad Y a0)), (1, .ref (yad Y a1)), (2, .int x2)]) C d_Bt_passSpin_29 (by decide) rfl ?_
  refine j_aload_n C d_Bt_passSpin_30 1 rfl ?_
  refine j_iconst (v := 0) C d_Bt_passSpin_31 (by decide) ?_
  refine j_aload_n C d_Bt_passSpin_32 1 rfl ?_
  refine j_gI C fl_Bt_109 g0.1 g0.2 rfl d_Bt_passSpin_33 ?_
  refine j_iload_n C d_Bt_passSpin_36 3 rfl ?_
  refine j_isub C d_Bt_passSpin_37 ?_
  refine j_iload_n C d_Bt_passSpin_38 0 rfl ?_
  refine j_isub C d_Bt_passSpin_39 ?_
  refine bd hf (fun v1 hc6 hf => ?_)
  refine j_cS (rest := [.ref (yad Y a0)]) C lk_Bt_150 (c_JM_max1 hY hc6) rfl (by decide) rfl (Nat.le_of_ble_eq_true rfl) d_Bt_passSpin_40 ?_
  refine j_pI C fl_Bt_109 g0.1 g0.2 rfl rfl rfl d_Bt_passSpin_43 hf (fun μ2 hf => ?_)
  refine j_aload_n C d_Bt_passSpin_46 2 rfl ?_
  refine j_iconst (v := 0) C d_Bt_passSpin_47 (by decide) ?_
  refine j_aload_n C d_Bt_passSpin_48 2 rfl ?_
  refine j_gI C fl_Bt_109 g1.1 g1.2 rfl d_Bt_passSpin_49 ?_
  refine j_iload_n C d_Bt_passSpin_52 3 rfl ?_
  refine j_iadd C d_Bt_passSpin_53 ?_
  refine j_iload_n C d_Bt_passSpin_54 0 rfl ?_
  refine j_isub C d_Bt_passSpin_55 ?_
  refine bd hf (fun v3 hc5 hf => ?_)
  refine j_cS (rest := [.ref (yad Y a1)]) C lk_Bt_150 (c_JM_max1 hY hc5) rfl (by decide) rfl (Nat.le_of_ble_eq_true rfl) d_Bt_passSpin_56 ?_
  refine j_pI C fl_Bt_109 g1.1 g1.2 rfl rfl rfl d_Bt_passSpin_59 hf (fun μ4 hf => ?_)
  obtain rfl := Option.some.inj hf
  exact j_vret C d_Bt_passSpin_62
theorem c_Bt_passSpin {l : Launch} {Y : Lay} (hY : IsX Y) {μ : Mem} {a0 : Nat} {a1 : Nat} (g0 : ykd Y a0 = 7 ∧ a0 < yn Y) (g1 : ykd Y a1 = 7 ∧ a1 < yn Y) {r : Mem} (hf : f_Bt_passSpin μ a0 a1 = some r) : Ct l Y y_Bt_passSpin b_Bt_passSpin 4 none 2 [.ref (yad Y a0), .ref (yad Y a1)] none μ r := by
  refine ct_of (own := "TopYard$Bout") (lv := [(0, .ref (yad Y a0)), (1, .ref (yad Y a1))]) (by decide +kernel) rfl (Nat.le_of_ble_eq_true rfl) rfl (fun X hl C => ?_)
  subst hl
  unfold f_Bt_passSpin at hf
  refine j_aload_n C d_Bt_passSpin_0 0 rfl ?_
  refine j_gI C fl_Bt_109 g0.1 g0.2 rfl d_Bt_passSpin_1 ?_
  refine j_aload_n C d_Bt_passSpin_4 1 rfl ?_
  refine j_gI C fl_Bt_109 g1.1 g1.2 rfl d_Bt_passSpin_5 ?_
  refine j_isub C d_Bt_passSpin_8 ?_
  refine j_bipush (v := 8) C d_Bt_passSpin_9 (by decide) ?_
  refine j_idiv C d_Bt_passSpin_11 (by decide) ?_
  refine j_istore_nN (lvf := [(0, .ref (yad Y a0)), (1, .ref (yad Y a1))]) C d_Bt_passSpin_12 (by decide) rfl hf (fun v1 hf => ?_)
  refine j_aload_n C d_Bt_passSpin_13 1 rfl ?_
  refine j_gI C fl_Bt_147 g0.1 g0.2 rfl d_Bt_passSpin_14 ?_
  refine j_aload_n C d_Bt_passSpin_17 2 rfl ?_
  refine j_gI C fl_Bt_147 g1.1 g1.2 rfl d_Bt_passSpin_18 ?_
  refine j_icmp_ne C d_Bt_passSpin_21 hf (fun hf => ?_) (fun hf => ?_)
  · refine j_iconst (v := 3) C d_Bt_passSpin_28 (by decide) ?_
    refine j_sub [1, 2, 0] rfl ?_
    exact w_Bt_passSpin_b29 hY C a0 a1 v1 3 μ ⟨g0.1, g0.2⟩ ⟨g1.1, g1.2⟩ hf
  · refine j_iconst (v := 1) C d_Bt_passSpin_24 (by decide) ?_
    refine j_goto C d_Bt_passSpin_25 ?_
    refine j_sub [1, 2, 0] rfl ?_
    exact w_Bt_passSpin_b29 hY C a0 a1 v1 1 μ ⟨g0.1, g0.2⟩ ⟨g1.1, g1.2⟩ hf
theorem d_Bt_collide_0 : DC b_Bt_collide 0 (.aload_n 2) 1 1 := ⟨by decide +kernel, rfl⟩
theorem d_Bt_collide_1 : DC b_Bt_collide 1 (.getfield 112) 3 4 := ⟨by decide +kernel, rfl⟩
theorem d_Bt_collide_4 : DC b_Bt_collide 4 (.aload_n 1) 1 5 := ⟨by decide +kernel, rfl⟩
theorem d_Bt_collide_5 : DC b_Bt_collide 5 (.getfield 112) 3 8 := ⟨by decide +kernel, rfl⟩
theorem d_Bt_collide_8 : DC b_Bt_collide 8 (.lsub) 1 9 := ⟨by decide +kernel, rfl⟩
theorem d_Bt_collide_9 : DC b_Bt_collide 9 (.lstore_n 3) 1 10 := ⟨by decide +kernel, rfl⟩
theorem d_Bt_collide_10 : DC b_Bt_collide 10 (.aload_n 2) 1 11 := ⟨by decide +kernel, rfl⟩
theorem d_Bt_collide_11 : DC b_Bt_collide 11 (.getfield 116) 3 14 := ⟨by decide +kernel, rfl⟩
theorem d_Bt_collide_14 : DC b_Bt_collide 14 (.aload_n 1) 1 15 := ⟨by decide +kernel, rfl⟩
theorem d_Bt_collide_15 : DC b_Bt_collide 15 (.getfield 116) 3 18 := ⟨by decide +kernel, rfl⟩
theorem d_Bt_collide_18 : DC b_Bt_collide 18 (.lsub) 1 19 := ⟨by decide +kernel, rfl⟩
theorem d_Bt_collide_19 : DC b_Bt_collide 19 (.lstore 5) 2 21 := ⟨by decide +kernel, rfl⟩
theorem d_Bt_collide_21 : DC b_Bt_collide 21 (.lload_n 3) 1 22 := ⟨by decide +kernel, rfl⟩
theorem d_Bt_collide_22 : DC b_Bt_collide 22 (.lconst 0) 1 23 := ⟨by decide +kernel, rfl⟩
theorem d_Bt_collide_23 : DC b_Bt_collide 23 (.lcmp) 1 24 := ⟨by decide +kernel, rfl⟩
theorem d_Bt_collide_24 : DB b_Bt_collide 24 (.ifCond .ne 14) 14 38 27 := ⟨by decide +kernel, by decide, rfl⟩
theorem d_Bt_collide_27 : DC b_Bt_collide 27 (.lload 5) 2 29 := ⟨by decide +kernel, rfl⟩
theorem d_Bt_collide_29 : DC b_Bt_collide 29 (.lconst 0) 1 30 := ⟨by decide +kernel, rfl⟩
theorem d_Bt_collide_30 : DC b_Bt_collide 30 (.lcmp) 1 31 := ⟨by decide +kernel, rfl⟩
theorem d_Bt_collide_31 : DB b_Bt_collide 31 (.ifCond .ne 7) 7 38 34 := ⟨by decide +kernel, by decide, rfl⟩
theorem d_Bt_collide_34 : DC b_Bt_collide 34 (.ldc2_w 119) 3 37 := ⟨by decide +kernel, rfl⟩
theorem d_Bt_collide_37 : DC b_Bt_collide 37 (.lstore_n 3) 1 38 := ⟨by decide +kernel, rfl⟩
theorem d_Bt_collide_38 : DC b_Bt_collide 38 (.ldc2_w 121) 3 41 := ⟨by decide +kernel, rfl⟩
theorem d_Bt_collide_41 : DC b_Bt_collide 41 (.aload_n 1) 1 42 := ⟨by decide +kernel, rfl⟩
theorem d_Bt_collide_42 : DC b_Bt_collide 42 (.getfield 123) 3 45 := ⟨by decide +kernel, rfl⟩
theorem d_Bt_collide_45 : DC b_Bt_collide 45 (.aload_n 2) 1 46 := ⟨by decide +kernel, rfl⟩
theorem d_Bt_collide_46 : DC b_Bt_collide 46 (.getfield 123) 3 49 := ⟨by decide +kernel, rfl⟩
theorem d_Bt_collide_49 : DC b_Bt_collide 49 (.iadd) 1 50 := ⟨by decide +kernel, rfl⟩
theorem d_Bt_collide_50 : DC b_Bt_collide 50 (.i2l) 1 51 := ⟨by decide +kernel, rfl⟩
theorem d_Bt_collide_51 : DC b_Bt_collide 51 (.lmul) 1 52 := ⟨by decide +kernel, rfl⟩
theorem d_Bt_collide_52 : DC b_Bt_collide 52 (.lstore 7) 2 54 := ⟨by decide +kernel, rfl⟩
theorem d_Bt_collide_54 : DC b_Bt_collide 54 (.lload_n 3) 1 55 := ⟨by decide +kernel, rfl⟩
theorem d_Bt_collide_55 : DC b_Bt_collide 55 (.lload_n 3) 1 56 := ⟨by decide +kernel, rfl⟩
theorem d_Bt_collide_56 : DC b_Bt_collide 56 (.lmul) 1 57 := ⟨by decide +kernel, rfl⟩
theorem d_Bt_collide_57 : DC b_Bt_collide 57 (.lload 5) 2 59 := ⟨by decide +kernel, rfl⟩
theorem d_Bt_collide_59 : DC b_Bt_collide 59 (.lload 5) 2 61 := ⟨by decide +kernel, rfl⟩
theorem d_Bt_collide_61 : DC b_Bt_collide 61 (.lmul) 1 62 := ⟨by decide +kernel, rfl⟩
theorem d_Bt_collide_62 : DC b_Bt_collide 62 (.ladd) 1 63 := ⟨by decide +kernel, rfl⟩
theorem d_Bt_collide_63 : DC b_Bt_collide 63 (.lstore 9) 2 65 := ⟨by decide +kernel, rfl⟩
theorem d_Bt_collide_65 : DC b_Bt_collide 65 (.aload_n 2) 1 66 := ⟨by decide +kernel, rfl⟩
theorem d_Bt_collide_66 : DC b_Bt_collide 66 (.getfield 126) 3 69 := ⟨by decide +kernel, rfl⟩
theorem d_Bt_collide_69 : DC b_Bt_collide 69 (.aload_n 1) 1 70 := ⟨by decide +kernel, rfl⟩
theorem d_Bt_collide_70 : DC b_Bt_collide 70 (.getfield 129) 3 73 := ⟨by decide +kernel, rfl⟩
theorem d_Bt_collide_73 : DC b_Bt_collide 73 (.i2l) 1 74 := ⟨by decide +kernel, rfl⟩
theorem d_Bt_collide_74 : DC b_Bt_collide 74 (.lmul) 1 75 := ⟨by decide +kernel, rfl⟩
theorem d_Bt_collide_75 : DC b_Bt_collide 75 (.aload_n 1) 1 76 := ⟨by decide +kernel, rfl⟩
theorem d_Bt_collide_76 : DC b_Bt_collide 76 (.getfield 126) 3 79 := ⟨by decide +kernel, rfl⟩
theorem d_Bt_collide_79 : DC b_Bt_collide 79 (.aload_n 2) 1 80 := ⟨by decide +kernel, rfl⟩
theorem d_Bt_collide_80 : DC b_Bt_collide 80 (.getfield 129) 3 83 := ⟨by decide +kernel, rfl⟩
theorem d_Bt_collide_83 : DC b_Bt_collide 83 (.i2l) 1 84 := ⟨by decide +kernel, rfl⟩
theorem d_Bt_collide_84 : DC b_Bt_collide 84 (.lmul) 1 85 := ⟨by decide +kernel, rfl⟩
theorem d_Bt_collide_85 : DC b_Bt_collide 85 (.lsub) 1 86 := ⟨by decide +kernel, rfl⟩
theorem d_Bt_collide_86 : DC b_Bt_collide 86 (.lload_n 3) 1 87 := ⟨by decide +kernel, rfl⟩
theorem d_Bt_collide_87 : DC b_Bt_collide 87 (.lmul) 1 88 := ⟨by decide +kernel, rfl⟩
theorem d_Bt_collide_88 : DC b_Bt_collide 88 (.aload_n 2) 1 89 := ⟨by decide +kernel, rfl⟩
theorem d_Bt_collide_89 : DC b_Bt_collide 89 (.getfield 132) 3 92 := ⟨by decide +kernel, rfl⟩
theorem d_Bt_collide_92 : DC b_Bt_collide 92 (.aload_n 1) 1 93 := ⟨by decide +kernel, rfl⟩
theorem d_Bt_collide_93 : DC b_Bt_collide 93 (.getfield 129) 3 96 := ⟨by decide +kernel, rfl⟩
theorem d_Bt_collide_96 : DC b_Bt_collide 96 (.i2l) 1 97 := ⟨by decide +kernel, rfl⟩
theorem d_Bt_collide_97 : DC b_Bt_collide 97 (.lmul) 1 98 := ⟨by decide +kernel, rfl⟩
theorem d_Bt_collide_98 : DC b_Bt_collide 98 (.aload_n 1) 1 99 := ⟨by decide +kernel, rfl⟩
theorem d_Bt_collide_99 : DC b_Bt_collide 99 (.getfield 132) 3 102 := ⟨by decide +kernel, rfl⟩
theorem d_Bt_collide_102 : DC b_Bt_collide 102 (.aload_n 2) 1 103 := ⟨by decide +kernel, rfl⟩
theorem d_Bt_collide_103 : DC b_Bt_collide 103 (.getfield 129) 3 106 := ⟨by decide +kernel, rfl⟩
theorem d_Bt_collide_106 : DC b_Bt_collide 106 (.i2l) 1 107 := ⟨by decide +kernel, rfl⟩
theorem d_Bt_collide_107 : DC b_Bt_collide 107 (.lmul) 1 108 := ⟨by decide +kernel, rfl⟩
theorem d_Bt_collide_108 : DC b_Bt_collide 108 (.lsub) 1 109 := ⟨by decide +kernel, rfl⟩
theorem d_Bt_collide_109 : DC b_Bt_collide 109 (.lload 5) 2 111 := ⟨by decide +kernel, rfl⟩
theorem d_Bt_collide_111 : DC b_Bt_collide 111 (.lmul) 1 112 := ⟨by decide +kernel, rfl⟩
theorem d_Bt_collide_112 : DC b_Bt_collide 112 (.ladd) 1 113 := ⟨by decide +kernel, rfl⟩
theorem d_Bt_collide_113 : DC b_Bt_collide 113 (.lstore 11) 2 115 := ⟨by decide +kernel, rfl⟩
theorem d_Bt_collide_115 : DC b_Bt_collide 115 (.lload 9) 2 117 := ⟨by decide +kernel, rfl⟩
theorem d_Bt_collide_117 : DC b_Bt_collide 117 (.lload 7) 2 119 := ⟨by decide +kernel, rfl⟩
theorem d_Bt_collide_119 : DC b_Bt_collide 119 (.lload 7) 2 121 := ⟨by decide +kernel, rfl⟩
theorem d_Bt_collide_121 : DC b_Bt_collide 121 (.lmul) 1 122 := ⟨by decide +kernel, rfl⟩
theorem d_Bt_collide_122 : DC b_Bt_collide 122 (.lcmp) 1 123 := ⟨by decide +kernel, rfl⟩
theorem d_Bt_collide_123 : DB b_Bt_collide 123 (.ifCond .gt 10) 10 133 126 := ⟨by decide +kernel, by decide, rfl⟩
theorem d_Bt_collide_126 : DC b_Bt_collide 126 (.lload 11) 2 128 := ⟨by decide +kernel, rfl⟩
theorem d_Bt_collide_128 : DC b_Bt_collide 128 (.lconst 0) 1 129 := ⟨by decide +kernel, rfl⟩
theorem d_Bt_collide_129 : DC b_Bt_collide 129 (.lcmp) 1 130 := ⟨by decide +kernel, rfl⟩
theorem d_Bt_collide_130 : DB b_Bt_collide 130 (.ifCond .lt 4) 4 134 133 := ⟨by decide +kernel, by decide, rfl⟩
theorem d_Bt_collide_133 : decode b_Bt_collide 133 = .ok (.return_, 1) := by decide +kernel
theorem d_Bt_collide_134 : DC b_Bt_collide 134 (.aload_n 0) 1 135 := ⟨by decide +kernel, rfl⟩
theorem d_Bt_collide_135 : DC b_Bt_collide 135 (.dup) 1 136 := ⟨by decide +kernel, rfl⟩
theorem d_Bt_collide_136 : DC b_Bt_collide 136 (.getfield 34) 3 139 := ⟨by decide +kernel, rfl⟩
theorem d_Bt_collide_139 : DC b_Bt_collide 139 (.iconst 1) 1 140 := ⟨by decide +kernel, rfl⟩
theorem d_Bt_collide_140 : DC b_Bt_collide 140 (.iadd) 1 141 := ⟨by decide +kernel, rfl⟩
theorem d_Bt_collide_141 : DC b_Bt_collide 141 (.putfield 34) 3 144 := ⟨by decide +kernel, rfl⟩
theorem d_Bt_collide_144 : DC b_Bt_collide 144 (.aload_n 1) 1 145 := ⟨by decide +kernel, rfl⟩
theorem d_Bt_collide_145 : DC b_Bt_collide 145 (.getfield 123) 3 148 := ⟨by decide +kernel, rfl⟩
theorem d_Bt_collide_148 : DC b_Bt_collide 148 (.aload_n 2) 1 149 := ⟨by decide +kernel, rfl⟩
theorem d_Bt_collide_149 : DC b_Bt_collide 149 (.getfield 123) 3 152 := ⟨by decide +kernel, rfl⟩
theorem d_Bt_collide_152 : DB b_Bt_collide 152 (.if_icmp .ne 21) 21 173 155 := ⟨by decide +kernel, by decide, rfl⟩
theorem d_Bt_collide_155 : DC b_Bt_collide 155 (.aload_n 0) 1 156 := ⟨by decide +kernel, rfl⟩
theorem d_Bt_collide_156 : DC b_Bt_collide 156 (.dup) 1 157 := ⟨by decide +kernel, rfl⟩
theorem d_Bt_collide_157 : DC b_Bt_collide 157 (.getfield 37) 3 160 := ⟨by decide +kernel, rfl⟩
theorem d_Bt_collide_160 : DC b_Bt_collide 160 (.iconst 1) 1 161 := ⟨by decide +kernel, rfl⟩
theorem d_Bt_collide_161 : DC b_Bt_collide 161 (.iadd) 1 162 := ⟨by decide +kernel, rfl⟩
theorem d_Bt_collide_162 : DC b_Bt_collide 162 (.putfield 37) 3 165 := ⟨by decide +kernel, rfl⟩
theorem d_Bt_collide_165 : DC b_Bt_collide 165 (.aload_n 1) 1 166 := ⟨by decide +kernel, rfl⟩
theorem d_Bt_collide_166 : DC b_Bt_collide 166 (.aload_n 2) 1 167 := ⟨by decide +kernel, rfl⟩
theorem d_Bt_collide_167 : DC b_Bt_collide 167 (.invokestatic 135) 3 170 := ⟨by decide +kernel, rfl⟩
theorem d_Bt_collide_170 : DB b_Bt_collide 170 (.goto 27) 27 197 173 := ⟨by decide +kernel, by decide, rfl⟩
theorem d_Bt_collide_173 : DC b_Bt_collide 173 (.aload_n 1) 1 174 := ⟨by decide +kernel, rfl⟩
theorem d_Bt_collide_174 : DC b_Bt_collide 174 (.aload_n 2) 1 175 := ⟨by decide +kernel, rfl⟩
theorem d_Bt_collide_175 : DC b_Bt_collide 175 (.ldc2_w 138) 3 178 := ⟨by decide +kernel, rfl⟩
theorem d_Bt_collide_178 : DC b_Bt_collide 178 (.lload 11) 2 180 := ⟨by decide +kernel, rfl⟩
theorem d_Bt_collide_180 : DC b_Bt_collide 180 (.lmul) 1 181 := ⟨by decide +kernel, rfl⟩
theorem d_Bt_collide_181 : DC b_Bt_collide 181 (.lload_n 3) 1 182 := ⟨by decide +kernel, rfl⟩
theorem d_Bt_collide_182 : DC b_Bt_collide 182 (.lmul) 1 183 := ⟨by decide +kernel, rfl⟩
theorem d_Bt_collide_183 : DC b_Bt_collide 183 (.ldc2_w 138) 3 186 := ⟨by decide +kernel, rfl⟩
theorem d_Bt_collide_186 : DC b_Bt_collide 186 (.lload 11) 2 188 := ⟨by decide +kernel, rfl⟩
theorem d_Bt_collide_188 : DC b_Bt_collide 188 (.lmul) 1 189 := ⟨by decide +kernel, rfl⟩
theorem d_Bt_collide_189 : DC b_Bt_collide 189 (.lload 5) 2 191 := ⟨by decide +kernel, rfl⟩
theorem d_Bt_collide_191 : DC b_Bt_collide 191 (.lmul) 1 192 := ⟨by decide +kernel, rfl⟩
theorem d_Bt_collide_192 : DC b_Bt_collide 192 (.lload 9) 2 194 := ⟨by decide +kernel, rfl⟩
theorem d_Bt_collide_194 : DC b_Bt_collide 194 (.invokestatic 140) 3 197 := ⟨by decide +kernel, rfl⟩
theorem d_Bt_collide_197 : DC b_Bt_collide 197 (.aload_n 1) 1 198 := ⟨by decide +kernel, rfl⟩
theorem d_Bt_collide_198 : DC b_Bt_collide 198 (.aload_n 2) 1 199 := ⟨by decide +kernel, rfl⟩
theorem d_Bt_collide_199 : DC b_Bt_collide 199 (.invokestatic 144) 3 202 := ⟨by decide +kernel, rfl⟩
theorem d_Bt_collide_202 : decode b_Bt_collide 202 = .ok (.return_, 1) := by decide +kernel
theorem w_Bt_collide_b197 {X : Ctx} {Y : Lay} (hY : IsX Y) (C : Cx X Y b_Bt_collide 13 none "TopYard$Bout" 3) {r : Mem} (a1 : Nat) (a2 : Nat) (μ : Mem) (g1 : ykd Y a1 = 7 ∧ a1 < yn Y) (g2 : ykd Y a2 = 7 ∧ a2 < yn Y) (hf : f_Bt_collide_b197 a1 a2 μ = some r) : J X Y none r 13 197 [(1, .ref (yad Y a1)), (2, .ref (yad Y a2))] [] μ := by
  unfold f_Bt_collide_b197 at hf
  refine j_aload_n C d_Bt_collide_197 0 rfl ?_
  refine j_aload_n C d_Bt_collide_198 1 rfl ?_
  refine bd hf (fun μ1 hc2 hf => ?_)
  refine j_cS (rest := []) C lk_Bt_144 (c_Bt_passSpin hY ⟨g1.1, g1.2⟩ ⟨g2.1, g2.2⟩ hc2) rfl (by decide) rfl (Nat.le_of_ble_eq_true rfl) d_Bt_collide_199 ?_
  obtain rfl := Option.some.inj hf
  exact j_vret C d_Bt_collide_202
theorem w_Bt_collide_b38 {X : Ctx} {Y : Lay} (hY : IsX Y) (C : Cx X Y b_Bt_collide 13 none "TopYard$Bout" 3) {r : Mem} (a0 : Nat) (a1 : Nat) (a2 : Nat) (x3 : Int64) (x5 : Int64) (μ : Mem) (g0 : ykd Y a0 = 0 ∧ a0 < yn Y) (g1 : ykd Y a1 = 7 ∧ a1 < yn Y) (g2 : ykd Y a2 = 7 ∧ a2 < yn Y) (hf : f_Bt_collide_b38 a0 a1 a2 x3 x5 μ = some r) : J X Y none r 13 38 [(0, .ref (yad Y a0)), (1, .ref (yad Y a1)), (2, .ref (yad Y a2)), (3, .long x3), (5, .long x5)] [] μ := by
  unfold f_Bt_collide_b38 at hf
  refine j_ldc2 (v := 13) C d_Bt_collide_38 wd_64 ?_
  refine j_aload_n C d_Bt_collide_41 1 rfl ?_
  refine j_gI C fl_Bt_123 g1.1 g1.2 rfl d_Bt_collide_42 ?_
  refine j_aload_n C d_Bt_collide_45 2 rfl ?_
  refine j_gI C fl_Bt_123 g2.1 g2.2 rfl d_Bt_collide_46 ?_
  refine j_iadd C d_Bt_collide_49 ?_
  refine j_i2l C d_Bt_collide_50 ?_
  refine j_lmul C d_Bt_collide_51 ?_
  refine j_lstoreN (lvf := [(0, .ref (yad Y a0)), (1, .ref (yad Y a1)), (2, .ref (yad Y a2)), (3, .long x3), (5, .long x5)]) C d_Bt_collide_52 (by decide) rfl hf (fun v1 hf => ?_)
  refine j_lload_n C d_Bt_collide_54 4 rfl ?_
  refine j_lload_n C d_Bt_collide_55 4 rfl ?_
  refine j_lmul C d_Bt_collide_56 ?_
  refine j_lload C d_Bt_collide_57 5 rfl ?_
  refine j_lload C d_Bt_collide_59 5 rfl ?_
  refine j_lmul C d_Bt_collide_61 ?_
  refine j_ladd C d_Bt_collide_62 ?_
  refine j_lstoreN (lvf := [(7, .long v1), (0, .ref (yad Y a0)), (1, .ref (yad Y a1)), (2, .ref (yad Y a2)), (3, .long x3), (5, .long x5)]) C d_Bt_collide_63 (by decide) rfl hf (fun v2 hf => ?_)
  refine j_aload_n C d_Bt_collide_65 4 rfl ?_
  refine j_gL C fl_Bt_126 g2.1 g2.2 rfl d_Bt_collide_66 ?_
  refine j_aload_n C d_Bt_collide_69 3 rfl ?_
  refine j_gI C fl_Bt_129 g1.1 g1.2 rfl d_Bt_collide_70 ?_
  refine j_i2l C d_Bt_collide_73 ?_
  refine j_lmul C d_Bt_collide_74 ?_
  refine j_aload_n C d_Bt_collide_75 3 rfl ?_
  refine j_gL C fl_Bt_126 g1.1 g1.2 rfl d_Bt_collide_76 ?_
  refine j_aload_n C d_Bt_collide_79 4 rfl ?_
  refine j_gI C fl_Bt_129 g2.1 g2.2 rfl d_Bt_collide_80 ?_
  refine j_i2l C d_Bt_collide_83 ?_
  refine j_lmul C d_Bt_collide_84 ?_
  refine j_lsub C d_Bt_collide_85 ?_
  refine j_lload_n C d_Bt_collide_86 5 rfl ?_
  refine j_lmul C d_Bt_collide_87 ?_
  refine j_aload_n C d_Bt_collide_88 4 rfl ?_
  refine j_gL C fl_Bt_132 g2.1 g2.2 rfl d_Bt_collide_89 ?_
  refine j_aload_n C d_Bt_collide_92 3 rfl ?_
  refine j_gI C fl_Bt_129 g1.1 g1.2 rfl d_Bt_collide_93 ?_
  refine j_i2l C d_Bt_collide_96 ?_
  refine j_lmul C d_Bt_collide_97 ?_
  refine j_aload_n C d_Bt_collide_98 3 rfl ?_
  refine j_gL C fl_Bt_132 g1.1 g1.2 rfl d_Bt_collide_99 ?_
  refine j_aload_n C d_Bt_collide_102 4 rfl ?_
  refine j_gI C fl_Bt_129 g2.1 g2.2 rfl d_Bt_collide_103 ?_
  refine j_i2l C d_Bt_collide_106 ?_
  refine j_lmul C d_Bt_collide_107 ?_
  refine j_lsub C d_Bt_collide_108 ?_
  refine j_lload C d_Bt_collide_109 6 rfl ?_
  refine j_lmul C d_Bt_collide_111 ?_
  refine j_ladd C d_Bt_collide_112 ?_
  refine j_lstoreN (lvf := [(9, .long v2), (7, .long v1), (0, .ref (yad Y a0)), (1, .ref (yad Y a1)), (2, .ref (yad Y a2)), (3, .long x3), (5, .long x5)]) C d_Bt_collide_113 (by decide) rfl hf (fun v3 hf => ?_)
  refine j_lload C d_Bt_collide_115 1 rfl ?_
  refine j_lload C d_Bt_collide_117 2 rfl ?_
  refine j_lload C d_Bt_collide_119 2 rfl ?_
  refine j_lmul C d_Bt_collide_121 ?_
  refine j_lcmp_gt C d_Bt_collide_122 d_Bt_collide_123 hf (fun hf => ?_) (fun hf => ?_)
  · obtain rfl := Option.some.inj hf
    exact j_vret C d_Bt_collide_133
  · refine j_lload C d_Bt_collide_126 0 rfl ?_
    refine j_lconst (v := 0) C d_Bt_collide_128 (by decide) ?_
    refine j_lcmp_lt C d_Bt_collide_129 d_Bt_collide_130 hf (fun hf => ?_) (fun hf => ?_)
    · refine j_aload_n C d_Bt_collide_134 3 rfl ?_
      refine j_dup C d_Bt_collide_135 rfl ?_
      refine j_gI C fl_Bt_34 g0.1 g0.2 rfl d_Bt_collide_136 ?_
      refine j_iconst (v := 1) C d_Bt_collide_139 (by decide) ?_
      refine j_iadd C d_Bt_collide_140 ?_
      refine j_pI C fl_Bt_34 g0.1 g0.2 rfl rfl rfl d_Bt_collide_141 hf (fun μ4 hf => ?_)
      refine j_aload_n C d_Bt_collide_144 4 rfl ?_
      refine j_gI C fl_Bt_123 g1.1 g1.2 rfl d_Bt_collide_145 ?_
      refine j_aload_n C d_Bt_collide_148 5 rfl ?_
      refine j_gI C fl_Bt_123 g2.1 g2.2 rfl d_Bt_collide_149 ?_
      refine j_icmp_ne C d_Bt_collide_152 hf (fun hf => ?_) (fun hf => ?_)
      · refine j_aload_n C d_Bt_collide_173 4 rfl ?_
        refine j_aload_n C d_Bt_collide_174 5 rfl ?_
        refine j_ldc2 (v := 2) C d_Bt_collide_175 wd_66 ?_
        refine j_lload C d_Bt_collide_178 0 rfl ?_
        refine j_lmul C d_Bt_collide_180 ?_
        refine j_lload_n C d_Bt_collide_181 6 rfl ?_
        refine j_lmul C d_Bt_collide_182 ?_
        refine j_ldc2 (v := 2) C d_Bt_collide_183 wd_66 ?_
        refine j_lload C d_Bt_collide_186 0 rfl ?_
        refine j_lmul C d_Bt_collide_188 ?_
        refine j_lload C d_Bt_collide_189 7 rfl ?_
        refine j_lmul C d_Bt_collide_191 ?_
        refine j_lload C d_Bt_collide_192 1 rfl ?_
        refine bd hf (fun μ5 hc6 hf => ?_)
        refine j_cS (rest := []) C lk_Bt_140 (c_Bt_bounce hY ⟨g1.1, g1.2⟩ ⟨g2.1, g2.2⟩ hc6) rfl (by decide) rfl (Nat.le_of_ble_eq_true rfl) d_Bt_collide_194 ?_
        refine j_sub [4, 5] rfl ?_
        exact w_Bt_collide_b197 hY C a1 a2 μ5 ⟨g1.1, g1.2⟩ ⟨g2.1, g2.2⟩ hf
      · refine j_aload_n C d_Bt_collide_155 3 rfl ?_
        refine j_dup C d_Bt_collide_156 rfl ?_
        refine j_gI C fl_Bt_37 g0.1 g0.2 rfl d_Bt_collide_157 ?_
        refine j_iconst (v := 1) C d_Bt_collide_160 (by decide) ?_
        refine j_iadd C d_Bt_collide_161 ?_
        refine j_pI C fl_Bt_37 g0.1 g0.2 rfl rfl rfl d_Bt_collide_162 hf (fun μ7 hf => ?_)
        refine j_aload_n C d_Bt_collide_165 4 rfl ?_
        refine j_aload_n C d_Bt_collide_166 5 rfl ?_
        refine bd hf (fun μ8 hc9 hf => ?_)
        refine j_cS (rest := []) C lk_Bt_135 (c_Bt_lock hY ⟨g1.1, g1.2⟩ ⟨g2.1, g2.2⟩ hc9) rfl (by decide) rfl (Nat.le_of_ble_eq_true rfl) d_Bt_collide_167 ?_
        refine j_goto C d_Bt_collide_170 ?_
        refine j_sub [4, 5] rfl ?_
        exact w_Bt_collide_b197 hY C a1 a2 μ8 ⟨g1.1, g1.2⟩ ⟨g2.1, g2.2⟩ hf
    · obtain rfl := Option.some.inj hf
      exact j_vret C d_Bt_collide_133
theorem c_Bt_collide {l : Launch} {Y : Lay} (hY : IsX Y) {μ : Mem} {a0 : Nat} {a1 : Nat} {a2 : Nat} (g0 : ykd Y a0 = 0 ∧ a0 < yn Y) (g1 : ykd Y a1 = 7 ∧ a1 < yn Y) (g2 : ykd Y a2 = 7 ∧ a2 < yn Y) {r : Mem} (hf : f_Bt_collide μ a0 a1 a2 = some r) : Ct l Y y_Bt_collide b_Bt_collide 13 none 3 [.ref (yad Y a0), .ref (yad Y a1), .ref (yad Y a2)] none μ r := by
  refine ct_of (own := "TopYard$Bout") (lv := [(0, .ref (yad Y a0)), (1, .ref (yad Y a1)), (2, .ref (yad Y a2))]) (by decide +kernel) rfl (Nat.le_of_ble_eq_true rfl) rfl (fun X hl C => ?_)
  subst hl
  unfold f_Bt_collide at hf
  refine j_aload_n C d_Bt_collide_0 2 rfl ?_
  refine j_gL C fl_Bt_112 g2.1 g2.2 rfl d_Bt_collide_1 ?_
  refine j_aload_n C d_Bt_collide_4 1 rfl ?_
  refine j_gL C fl_Bt_112 g1.1 g1.2 rfl d_Bt_collide_5 ?_
  refine j_lsub C d_Bt_collide_8 ?_
  refine j_lstore_nN (lvf := [(0, .ref (yad Y a0)), (1, .ref (yad Y a1)), (2, .ref (yad Y a2))]) C d_Bt_collide_9 (by decide) rfl hf (fun v1 hf => ?_)
  refine j_aload_n C d_Bt_collide_10 3 rfl ?_
  refine j_gL C fl_Bt_116 g2.1 g2.2 rfl d_Bt_collide_11 ?_
  refine j_aload_n C d_Bt_collide_14 2 rfl ?_
  refine j_gL C fl_Bt_116 g1.1 g1.2 rfl d_Bt_collide_15 ?_
  refine j_lsub C d_Bt_collide_18 ?_
  refine j_lstoreN (lvf := [(3, .long v1), (0, .ref (yad Y a0)), (1, .ref (yad Y a1)), (2, .ref (yad Y a2))]) C d_Bt_collide_19 (by decide) rfl hf (fun v2 hf => ?_)
  refine j_lload_n C d_Bt_collide_21 1 rfl ?_
  refine j_lconst (v := 0) C d_Bt_collide_22 (by decide) ?_
  refine j_lcmp_ne C d_Bt_collide_23 d_Bt_collide_24 hf (fun hf => ?_) (fun hf => ?_)
  · refine j_sub [2, 3, 4, 1, 0] rfl ?_
    exact w_Bt_collide_b38 hY C a0 a1 a2 v1 v2 μ ⟨g0.1, g0.2⟩ ⟨g1.1, g1.2⟩ ⟨g2.1, g2.2⟩ hf
  · refine j_lload C d_Bt_collide_27 0 rfl ?_
    refine j_lconst (v := 0) C d_Bt_collide_29 (by decide) ?_
    refine j_lcmp_ne C d_Bt_collide_30 d_Bt_collide_31 hf (fun hf => ?_) (fun hf => ?_)
    · refine j_sub [2, 3, 4, 1, 0] rfl ?_
      exact w_Bt_collide_b38 hY C a0 a1 a2 v1 v2 μ ⟨g0.1, g0.2⟩ ⟨g1.1, g1.2⟩ ⟨g2.1, g2.2⟩ hf
    · refine j_ldc2 (v := 65) C d_Bt_collide_34 wd_63 ?_
      refine j_lstore_n (lvf := [(5, .long v2), (0, .ref (yad Y a0)), (1, .ref (yad Y a1)), (2, .ref (yad Y a2))]) C d_Bt_collide_37 (by decide) rfl ?_
      refine j_sub [2, 3, 4, 0, 1] rfl ?_
      exact w_Bt_collide_b38 hY C a0 a1 a2 65 v2 μ ⟨g0.1, g0.2⟩ ⟨g1.1, g1.2⟩ ⟨g2.1, g2.2⟩ hf
theorem d_Sp_fall_0 : DC b_Sp_fall 0 (.aload_n 0) 1 1 := ⟨by decide +kernel, rfl⟩
theorem d_Sp_fall_1 : DC b_Sp_fall 1 (.getfield 91) 3 4 := ⟨by decide +kernel, rfl⟩
theorem d_Sp_fall_4 : DC b_Sp_fall 4 (.bipush 10) 2 6 := ⟨by decide +kernel, rfl⟩
theorem d_Sp_fall_6 : DB b_Sp_fall 6 (.if_icmp .lt 12) 12 18 9 := ⟨by decide +kernel, by decide, rfl⟩
theorem d_Sp_fall_9 : DC b_Sp_fall 9 (.aload_n 0) 1 10 := ⟨by decide +kernel, rfl⟩
theorem d_Sp_fall_10 : DC b_Sp_fall 10 (.getfield 94) 3 13 := ⟨by decide +kernel, rfl⟩
theorem d_Sp_fall_13 : DC b_Sp_fall 13 (.bipush 8) 2 15 := ⟨by decide +kernel, rfl⟩
theorem d_Sp_fall_15 : DB b_Sp_fall 15 (.if_icmp .le 24) 24 39 18 := ⟨by decide +kernel, by decide, rfl⟩
theorem d_Sp_fall_18 : DC b_Sp_fall 18 (.aload_n 0) 1 19 := ⟨by decide +kernel, rfl⟩
theorem d_Sp_fall_19 : DC b_Sp_fall 19 (.iload_n 1) 1 20 := ⟨by decide +kernel, rfl⟩
theorem d_Sp_fall_20 : DB b_Sp_fall 20 (.ifCond .lt 15) 15 35 23 := ⟨by decide +kernel, by decide, rfl⟩
theorem d_Sp_fall_23 : DC b_Sp_fall 23 (.aload_n 0) 1 24 := ⟨by decide +kernel, rfl⟩
theorem d_Sp_fall_24 : DC b_Sp_fall 24 (.iload_n 1) 1 25 := ⟨by decide +kernel, rfl⟩
theorem d_Sp_fall_25 : DC b_Sp_fall 25 (.invokevirtual 121) 3 28 := ⟨by decide +kernel, rfl⟩
theorem d_Sp_fall_28 : DB b_Sp_fall 28 (.ifCond .eq 7) 7 35 31 := ⟨by decide +kernel, by decide, rfl⟩
theorem d_Sp_fall_31 : DC b_Sp_fall 31 (.iconst 3) 1 32 := ⟨by decide +kernel, rfl⟩
theorem d_Sp_fall_32 : DB b_Sp_fall 32 (.goto 4) 4 36 35 := ⟨by decide +kernel, by decide, rfl⟩
theorem d_Sp_fall_35 : DC b_Sp_fall 35 (.iconst 2) 1 36 := ⟨by decide +kernel, rfl⟩
theorem d_Sp_fall_36 : DC b_Sp_fall 36 (.putfield 34) 3 39 := ⟨by decide +kernel, rfl⟩
theorem d_Sp_fall_39 : decode b_Sp_fall 39 = .ok (.return_, 1) := by decide +kernel
theorem w_Sp_fall_b36 {X : Ctx} {Y : Lay} (hY : IsX Y) (C : Cx X Y b_Sp_fall 2 none "TopYard$Spinner" 2) {r : Mem} (xs0 : Int32) (as1 : Nat) (μ : Mem) (gs1 : ykd Y as1 = 7 ∧ as1 < yn Y) (hf : f_Sp_fall_b36 xs0 as1 μ = some r) : J X Y none r 2 36 [] [.int xs0, .ref (yad Y as1)] μ := by
  unfold f_Sp_fall_b36 at hf
  refine j_pI C fl_Sp_34 gs1.1 gs1.2 rfl rfl rfl d_Sp_fall_36 hf (fun μ1 hf => ?_)
  obtain rfl := Option.some.inj hf
  exact j_vret C d_Sp_fall_39
theorem w_Sp_fall_b35 {X : Ctx} {Y : Lay} (hY : IsX Y) (C : Cx X Y b_Sp_fall 2 none "TopYard$Spinner" 2) {r : Mem} (as0 : Nat) (μ : Mem) (gs0 : ykd Y as0 = 7 ∧ as0 < yn Y) (hf : f_Sp_fall_b35 as0 μ = some r) : J X Y none r 2 35 [] [.ref (yad Y as0)] μ := by
  unfold f_Sp_fall_b35 at hf
  refine j_iconst (v := 2) C d_Sp_fall_35 (by decide) ?_
  refine j_sub [] rfl ?_
  exact w_Sp_fall_b36 hY C 2 as0 μ ⟨gs0.1, gs0.2⟩ hf
theorem w_Sp_fall_b18 {X : Ctx} {Y : Lay} (hY : IsX Y) (C : Cx X Y b_Sp_fall 2 none "TopYard$Spinner" 2) {r : Mem} (a0 : Nat) (x1 : Int32) (μ : Mem) (g0 : ykd Y a0 = 7 ∧ a0 < yn Y) (hf : f_Sp_fall_b18 a0 x1 μ = some r) : J X Y none r 2 18 [(0, .ref (yad Y a0)), (1, .int x1)] [] μ := by
  unfold f_Sp_fall_b18 at hf
  refine j_aload_n C d_Sp_fall_18 0 rfl ?_
  refine j_iload_n C d_Sp_fall_19 1 rfl ?_
  refine j_if_lt C d_Sp_fall_20 hf (fun hf => ?_) (fun hf => ?_)
  · refine j_sub [] rfl ?_
    exact w_Sp_fall_b35 hY C a0 μ ⟨g0.1, g0.2⟩ hf
  · refine j_aload_n C d_Sp_fall_23 0 rfl ?_
    refine j_iload_n C d_Sp_fall_24 1 rfl ?_
    refine bd hf (fun v1 hc2 hf => ?_)
    refine j_cV (rest := [.ref (yad Y a0)]) C lk_Sp_121 (c_Sp_isWithin hY ⟨g0.1, g0.2⟩ hc2) rfl g0.1 g0.2 (by decide) rfl rfl (by decide) rfl (Nat.le_of_ble_eq_true rfl) d_Sp_fall_25 ?_
    refine j_if_eq C d_Sp_fall_28 hf (fun hf => ?_) (fun hf => ?_)
    · refine j_sub [] rfl ?_
      exact w_Sp_fall_b35 hY C a0 μ ⟨g0.1, g0.2⟩ hf
    · refine j_iconst (v := 3) C d_Sp_fall_31 (by decide) ?_
      refine j_goto C d_Sp_fall_32 ?_
      refine j_sub [] rfl ?_
      exact w_Sp_fall_b36 hY C 3 a0 μ ⟨g0.1, g0.2⟩ hf
theorem c_Sp_fall {l : Launch} {Y : Lay} (hY : IsX Y) {μ : Mem} {a0 : Nat} {x1 : Int32} (g0 : ykd Y a0 = 7 ∧ a0 < yn Y) {r : Mem} (hf : f_Sp_fall μ a0 x1 = some r) : Ct l Y y_Sp_fall b_Sp_fall 2 none 2 [.ref (yad Y a0), .int x1] none μ r := by
  refine ct_of (own := "TopYard$Spinner") (lv := [(0, .ref (yad Y a0)), (1, .int x1)]) (by decide +kernel) rfl (Nat.le_of_ble_eq_true rfl) rfl (fun X hl C => ?_)
  subst hl
  unfold f_Sp_fall at hf
  refine j_aload_n C d_Sp_fall_0 0 rfl ?_
  refine j_gI C fl_Sp_91 g0.1 g0.2 rfl d_Sp_fall_1 ?_
  refine j_bipush (v := 10) C d_Sp_fall_4 (by decide) ?_
  refine j_icmp_lt C d_Sp_fall_6 hf (fun hf => ?_) (fun hf => ?_)
  · refine j_sub [0, 1] rfl ?_
    exact w_Sp_fall_b18 hY C a0 x1 μ ⟨g0.1, g0.2⟩ hf
  · refine j_aload_n C d_Sp_fall_9 0 rfl ?_
    refine j_gI C fl_Sp_94 g0.1 g0.2 rfl d_Sp_fall_10 ?_
    refine j_bipush (v := 8) C d_Sp_fall_13 (by decide) ?_
    refine j_icmp_le C d_Sp_fall_15 hf (fun hf => ?_) (fun hf => ?_)
    · obtain rfl := Option.some.inj hf
      exact j_vret C d_Sp_fall_39
    · refine j_sub [0, 1] rfl ?_
      exact w_Sp_fall_b18 hY C a0 x1 μ ⟨g0.1, g0.2⟩ hf
theorem d_Bt_step_0 : DC b_Bt_step 0 (.aload_n 0) 1 1 := ⟨by decide +kernel, rfl⟩
theorem d_Bt_step_1 : DC b_Bt_step 1 (.iload_n 3) 1 2 := ⟨by decide +kernel, rfl⟩
theorem d_Bt_step_2 : DC b_Bt_step 2 (.invokevirtual 78) 3 5 := ⟨by decide +kernel, rfl⟩
theorem d_Bt_step_5 : DC b_Bt_step 5 (.iconst 0) 1 6 := ⟨by decide +kernel, rfl⟩
theorem d_Bt_step_6 : DC b_Bt_step 6 (.istore 4) 2 8 := ⟨by decide +kernel, rfl⟩
theorem d_Bt_step_8 : DC b_Bt_step 8 (.iload 4) 2 10 := ⟨by decide +kernel, rfl⟩
theorem d_Bt_step_10 : DC b_Bt_step 10 (.aload_n 0) 1 11 := ⟨by decide +kernel, rfl⟩
theorem d_Bt_step_11 : DC b_Bt_step 11 (.getfield 17) 3 14 := ⟨by decide +kernel, rfl⟩
theorem d_Bt_step_14 : DB b_Bt_step 14 (.if_icmp .ge 60) 60 74 17 := ⟨by decide +kernel, by decide, rfl⟩
theorem d_Bt_step_17 : DC b_Bt_step 17 (.aload_n 0) 1 18 := ⟨by decide +kernel, rfl⟩
theorem d_Bt_step_18 : DC b_Bt_step 18 (.iload 4) 2 20 := ⟨by decide +kernel, rfl⟩
theorem d_Bt_step_20 : DC b_Bt_step 20 (.invokevirtual 41) 3 23 := ⟨by decide +kernel, rfl⟩
theorem d_Bt_step_23 : DC b_Bt_step 23 (.astore 5) 2 25 := ⟨by decide +kernel, rfl⟩
theorem d_Bt_step_25 : DC b_Bt_step 25 (.aload 5) 2 27 := ⟨by decide +kernel, rfl⟩
theorem d_Bt_step_27 : DB b_Bt_step 27 (.ifnull 41) 41 68 30 := ⟨by decide +kernel, by decide, rfl⟩
theorem d_Bt_step_30 : DC b_Bt_step 30 (.aload 5) 2 32 := ⟨by decide +kernel, rfl⟩
theorem d_Bt_step_32 : DC b_Bt_step 32 (.invokevirtual 74) 3 35 := ⟨by decide +kernel, rfl⟩
theorem d_Bt_step_35 : DB b_Bt_step 35 (.ifCond .eq 33) 33 68 38 := ⟨by decide +kernel, by decide, rfl⟩
theorem d_Bt_step_38 : DC b_Bt_step 38 (.aload 5) 2 40 := ⟨by decide +kernel, rfl⟩
theorem d_Bt_step_40 : DC b_Bt_step 40 (.invokevirtual 81) 3 43 := ⟨by decide +kernel, rfl⟩
theorem d_Bt_step_43 : DC b_Bt_step 43 (.aload 5) 2 45 := ⟨by decide +kernel, rfl⟩
theorem d_Bt_step_45 : DC b_Bt_step 45 (.invokevirtual 84) 3 48 := ⟨by decide +kernel, rfl⟩
theorem d_Bt_step_48 : DC b_Bt_step 48 (.aload 5) 2 50 := ⟨by decide +kernel, rfl⟩
theorem d_Bt_step_50 : DC b_Bt_step 50 (.aload_n 1) 1 51 := ⟨by decide +kernel, rfl⟩
theorem d_Bt_step_51 : DC b_Bt_step 51 (.invokevirtual 87) 3 54 := ⟨by decide +kernel, rfl⟩
theorem d_Bt_step_54 : DC b_Bt_step 54 (.aload 5) 2 56 := ⟨by decide +kernel, rfl⟩
theorem d_Bt_step_56 : DC b_Bt_step 56 (.invokevirtual 91) 3 59 := ⟨by decide +kernel, rfl⟩
theorem d_Bt_step_59 : DC b_Bt_step 59 (.aload 5) 2 61 := ⟨by decide +kernel, rfl⟩
theorem d_Bt_step_61 : DC b_Bt_step 61 (.aload_n 1) 1 62 := ⟨by decide +kernel, rfl⟩
theorem d_Bt_step_62 : DC b_Bt_step 62 (.getfield 94) 3 65 := ⟨by decide +kernel, rfl⟩
theorem d_Bt_step_65 : DC b_Bt_step 65 (.invokevirtual 99) 3 68 := ⟨by decide +kernel, rfl⟩
theorem d_Bt_step_68 : DC b_Bt_step 68 (.iinc 4 1) 3 71 := ⟨by decide +kernel, rfl⟩
theorem d_Bt_step_71 : DB b_Bt_step 71 (.goto (-63)) (-63) 8 74 := ⟨by decide +kernel, by decide, rfl⟩
theorem d_Bt_step_74 : DC b_Bt_step 74 (.iconst 0) 1 75 := ⟨by decide +kernel, rfl⟩
theorem d_Bt_step_75 : DC b_Bt_step 75 (.istore 4) 2 77 := ⟨by decide +kernel, rfl⟩
theorem d_Bt_step_77 : DC b_Bt_step 77 (.iload 4) 2 79 := ⟨by decide +kernel, rfl⟩
theorem d_Bt_step_79 : DC b_Bt_step 79 (.aload_n 0) 1 80 := ⟨by decide +kernel, rfl⟩
theorem d_Bt_step_80 : DC b_Bt_step 80 (.getfield 17) 3 83 := ⟨by decide +kernel, rfl⟩
theorem d_Bt_step_83 : DB b_Bt_step 83 (.if_icmp .ge 80) 80 163 86 := ⟨by decide +kernel, by decide, rfl⟩
theorem d_Bt_step_86 : DC b_Bt_step 86 (.aload_n 0) 1 87 := ⟨by decide +kernel, rfl⟩
theorem d_Bt_step_87 : DC b_Bt_step 87 (.iload 4) 2 89 := ⟨by decide +kernel, rfl⟩
theorem d_Bt_step_89 : DC b_Bt_step 89 (.invokevirtual 41) 3 92 := ⟨by decide +kernel, rfl⟩
theorem d_Bt_step_92 : DC b_Bt_step 92 (.astore 5) 2 94 := ⟨by decide +kernel, rfl⟩
theorem d_Bt_step_94 : DC b_Bt_step 94 (.iload 4) 2 96 := ⟨by decide +kernel, rfl⟩
theorem d_Bt_step_96 : DC b_Bt_step 96 (.iconst 1) 1 97 := ⟨by decide +kernel, rfl⟩
theorem d_Bt_step_97 : DC b_Bt_step 97 (.iadd) 1 98 := ⟨by decide +kernel, rfl⟩
theorem d_Bt_step_98 : DC b_Bt_step 98 (.istore 6) 2 100 := ⟨by decide +kernel, rfl⟩
theorem d_Bt_step_100 : DC b_Bt_step 100 (.iload 6) 2 102 := ⟨by decide +kernel, rfl⟩
theorem d_Bt_step_102 : DC b_Bt_step 102 (.aload_n 0) 1 103 := ⟨by decide +kernel, rfl⟩
theorem d_Bt_step_103 : DC b_Bt_step 103 (.getfield 17) 3 106 := ⟨by decide +kernel, rfl⟩
theorem d_Bt_step_106 : DB b_Bt_step 106 (.if_icmp .ge 51) 51 157 109 := ⟨by decide +kernel, by decide, rfl⟩
theorem d_Bt_step_109 : DC b_Bt_step 109 (.aload_n 0) 1 110 := ⟨by decide +kernel, rfl⟩
theorem d_Bt_step_110 : DC b_Bt_step 110 (.iload 6) 2 112 := ⟨by decide +kernel, rfl⟩
theorem d_Bt_step_112 : DC b_Bt_step 112 (.invokevirtual 41) 3 115 := ⟨by decide +kernel, rfl⟩
theorem d_Bt_step_115 : DC b_Bt_step 115 (.astore 7) 2 117 := ⟨by decide +kernel, rfl⟩
theorem d_Bt_step_117 : DC b_Bt_step 117 (.aload 5) 2 119 := ⟨by decide +kernel, rfl⟩
theorem d_Bt_step_119 : DB b_Bt_step 119 (.ifnull 32) 32 151 122 := ⟨by decide +kernel, by decide, rfl⟩
theorem d_Bt_step_122 : DC b_Bt_step 122 (.aload 7) 2 124 := ⟨by decide +kernel, rfl⟩
theorem d_Bt_step_124 : DB b_Bt_step 124 (.ifnull 27) 27 151 127 := ⟨by decide +kernel, by decide, rfl⟩
theorem d_Bt_step_127 : DC b_Bt_step 127 (.aload 5) 2 129 := ⟨by decide +kernel, rfl⟩
theorem d_Bt_step_129 : DC b_Bt_step 129 (.invokevirtual 74) 3 132 := ⟨by decide +kernel, rfl⟩
theorem d_Bt_step_132 : DB b_Bt_step 132 (.ifCond .eq 19) 19 151 135 := ⟨by decide +kernel, by decide, rfl⟩
theorem d_Bt_step_135 : DC b_Bt_step 135 (.aload 7) 2 137 := ⟨by decide +kernel, rfl⟩
theorem d_Bt_step_137 : DC b_Bt_step 137 (.invokevirtual 74) 3 140 := ⟨by decide +kernel, rfl⟩
theorem d_Bt_step_140 : DB b_Bt_step 140 (.ifCond .eq 11) 11 151 143 := ⟨by decide +kernel, by decide, rfl⟩
theorem d_Bt_step_143 : DC b_Bt_step 143 (.aload_n 0) 1 144 := ⟨by decide +kernel, rfl⟩
theorem d_Bt_step_144 : DC b_Bt_step 144 (.aload 5) 2 146 := ⟨by decide +kernel, rfl⟩
theorem d_Bt_step_146 : DC b_Bt_step 146 (.aload 7) 2 148 := ⟨by decide +kernel, rfl⟩
theorem d_Bt_step_148 : DC b_Bt_step 148 (.invokevirtual 102) 3 151 := ⟨by decide +kernel, rfl⟩
theorem d_Bt_step_151 : DC b_Bt_step 151 (.iinc 6 1) 3 154 := ⟨by decide +kernel, rfl⟩
theorem d_Bt_step_154 : DB b_Bt_step 154 (.goto (-54)) (-54) 100 157 := ⟨by decide +kernel, by decide, rfl⟩
theorem d_Bt_step_157 : DC b_Bt_step 157 (.iinc 4 1) 3 160 := ⟨by decide +kernel, rfl⟩
theorem d_Bt_step_160 : DB b_Bt_step 160 (.goto (-83)) (-83) 77 163 := ⟨by decide +kernel, by decide, rfl⟩
theorem d_Bt_step_163 : DC b_Bt_step 163 (.iconst 0) 1 164 := ⟨by decide +kernel, rfl⟩
theorem d_Bt_step_164 : DC b_Bt_step 164 (.istore 4) 2 166 := ⟨by decide +kernel, rfl⟩
theorem d_Bt_step_166 : DC b_Bt_step 166 (.iload 4) 2 168 := ⟨by decide +kernel, rfl⟩
theorem d_Bt_step_168 : DC b_Bt_step 168 (.aload_n 0) 1 169 := ⟨by decide +kernel, rfl⟩
theorem d_Bt_step_169 : DC b_Bt_step 169 (.getfield 17) 3 172 := ⟨by decide +kernel, rfl⟩
theorem d_Bt_step_172 : DB b_Bt_step 172 (.if_icmp .ge 36) 36 208 175 := ⟨by decide +kernel, by decide, rfl⟩
theorem d_Bt_step_175 : DC b_Bt_step 175 (.aload_n 0) 1 176 := ⟨by decide +kernel, rfl⟩
theorem d_Bt_step_176 : DC b_Bt_step 176 (.iload 4) 2 178 := ⟨by decide +kernel, rfl⟩
theorem d_Bt_step_178 : DC b_Bt_step 178 (.invokevirtual 41) 3 181 := ⟨by decide +kernel, rfl⟩
theorem d_Bt_step_181 : DC b_Bt_step 181 (.astore 5) 2 183 := ⟨by decide +kernel, rfl⟩
theorem d_Bt_step_183 : DC b_Bt_step 183 (.aload 5) 2 185 := ⟨by decide +kernel, rfl⟩
theorem d_Bt_step_185 : DB b_Bt_step 185 (.ifnull 17) 17 202 188 := ⟨by decide +kernel, by decide, rfl⟩
theorem d_Bt_step_188 : DC b_Bt_step 188 (.aload 5) 2 190 := ⟨by decide +kernel, rfl⟩
theorem d_Bt_step_190 : DC b_Bt_step 190 (.invokevirtual 74) 3 193 := ⟨by decide +kernel, rfl⟩
theorem d_Bt_step_193 : DB b_Bt_step 193 (.ifCond .eq 9) 9 202 196 := ⟨by decide +kernel, by decide, rfl⟩
theorem d_Bt_step_196 : DC b_Bt_step 196 (.aload 5) 2 198 := ⟨by decide +kernel, rfl⟩
theorem d_Bt_step_198 : DC b_Bt_step 198 (.iload_n 2) 1 199 := ⟨by decide +kernel, rfl⟩
theorem d_Bt_step_199 : DC b_Bt_step 199 (.invokevirtual 106) 3 202 := ⟨by decide +kernel, rfl⟩
theorem d_Bt_step_202 : DC b_Bt_step 202 (.iinc 4 1) 3 205 := ⟨by decide +kernel, rfl⟩
theorem d_Bt_step_205 : DB b_Bt_step 205 (.goto (-39)) (-39) 166 208 := ⟨by decide +kernel, by decide, rfl⟩
theorem d_Bt_step_208 : decode b_Bt_step 208 = .ok (.return_, 1) := by decide +kernel
theorem w_Bt_step_b68 {X : Ctx} {Y : Lay} (hY : IsX Y) (C : Cx X Y b_Bt_step 8 none "TopYard$Bout" 4) {N : Nat} {r : Mem} (k8 : Nat → Int32 → Int32 → Mem → Option (Mem)) (hk8 : ∀ (a0 : Nat) (x2 : Int32) (x4 : Int32) (ν : Mem) (g0 : ykd Y a0 = 0 ∧ a0 < yn Y), k8 a0 x2 x4 ν = some r → J X Y none r 8 8 [(0, .ref (yad Y a0)), (1, .ref (yad Y 2)), (2, .int x2), (4, .int x4)] [] ν) (a0 : Nat) (x2 : Int32) (x4 : Int32) (μ : Mem) (g0 : ykd Y a0 = 0 ∧ a0 < yn Y) (hf : f_Bt_step_b68 N k8 a0 x2 x4 μ = some r) : J X Y none r 8 68 [(0, .ref (yad Y a0)), (1, .ref (yad Y 2)), (2, .int x2), (4, .int x4)] [] μ := by
  unfold f_Bt_step_b68 at hf
  refine j_iinc (lvf := [(0, .ref (yad Y a0)), (1, .ref (yad Y 2)), (2, .int x2)]) (v := 1) C d_Bt_step_68 3 rfl (by decide) (by decide) rfl hf (fun v1 hf => ?_)
  refine j_goto C d_Bt_step_71 ?_
  refine j_sub [1, 2, 3, 0] rfl ?_
  exact hk8 a0 x2 v1 μ ⟨g0.1, g0.2⟩ hf
theorem w_Bt_step_b151 {X : Ctx} {Y : Lay} (hY : IsX Y) (C : Cx X Y b_Bt_step 8 none "TopYard$Bout" 4) {N : Nat} {r : Mem} (k77 : Nat → Int32 → Int32 → Mem → Option (Mem)) (k100 : Nat → Int32 → Int32 → Option Nat → Int32 → Mem → Option (Mem)) (hk77 : ∀ (a0 : Nat) (x2 : Int32) (x4 : Int32) (ν : Mem) (g0 : ykd Y a0 = 0 ∧ a0 < yn Y), k77 a0 x2 x4 ν = some r → J X Y none r 8 77 [(0, .ref (yad Y a0)), (2, .int x2), (4, .int x4)] [] ν) (hk100 : ∀ (a0 : Nat) (x2 : Int32) (x4 : Int32) (o5 : Option Nat) (x6 : Int32) (ν : Mem) (g0 : ykd Y a0 = 0 ∧ a0 < yn Y) (g5 : ∀ b, o5 = some b → b < yn Y ∧ ykd Y b = 7), k100 a0 x2 x4 o5 x6 ν = some r → J X Y none r 8 100 [(0, .ref (yad Y a0)), (2, .int x2), (4, .int x4), (5, va_rf (Option.map (yad Y) o5)), (6, .int x6)] [] ν) (a0 : Nat) (x2 : Int32) (x4 : Int32) (o5 : Option Nat) (x6 : Int32) (μ : Mem) (g0 : ykd Y a0 = 0 ∧ a0 < yn Y) (g5 : ∀ b, o5 = some b → b < yn Y ∧ ykd Y b = 7) (hf : f_Bt_step_b151 N k77 k100 a0 x2 x4 o5 x6 μ = some r) : J X Y none r 8 151 [(0, .ref (yad Y a0)), (2, .int x2), (4, .int x4), (5, va_rf (Option.map (yad Y) o5)), (6, .int x6)] [] μ := by
  unfold f_Bt_step_b151 at hf
  refine j_iinc (lvf := [(0, .ref (yad Y a0)), (2, .int x2), (4, .int x4), (5, va_rf (Option.map (yad Y) o5))]) (v := 1) C d_Bt_step_151 4 rfl (by decide) (by decide) (by simp [rf_cat]) hf (fun v1 hf => ?_)
  refine j_goto C d_Bt_step_154 ?_
  refine j_sub [1, 2, 3, 4, 0] rfl ?_
  exact hk100 a0 x2 x4 o5 v1 μ ⟨g0.1, g0.2⟩ g5 hf
theorem w_Bt_step_l100 {X : Ctx} {Y : Lay} (hY : IsX Y) (C : Cx X Y b_Bt_step 8 none "TopYard$Bout" 4) {N : Nat} {r : Mem} (k77 : Nat → Int32 → Int32 → Mem → Option (Mem)) (hk77 : ∀ (a0 : Nat) (x2 : Int32) (x4 : Int32) (ν : Mem) (g0 : ykd Y a0 = 0 ∧ a0 < yn Y), k77 a0 x2 x4 ν = some r → J X Y none r 8 77 [(0, .ref (yad Y a0)), (2, .int x2), (4, .int x4)] [] ν) : ∀ (n : Nat) (a0 : Nat) (x2 : Int32) (x4 : Int32) (o5 : Option Nat) (x6 : Int32) (μ : Mem) (g0 : ykd Y a0 = 0 ∧ a0 < yn Y) (g5 : ∀ b, o5 = some b → b < yn Y ∧ ykd Y b = 7), f_Bt_step_l100 N k77 n a0 x2 x4 o5 x6 μ = some r → J X Y none r 8 100 [(0, .ref (yad Y a0)), (2, .int x2), (4, .int x4), (5, va_rf (Option.map (yad Y) o5)), (6, .int x6)] [] μ := by
  intro n
  induction n with
  | zero => intro a0 x2 x4 o5 x6 μ g0 g5 hf; rw [f_Bt_step_l100] at hf; cases hf
  | succ n ih =>
    intro a0 x2 x4 o5 x6 μ g0 g5 hf
    rw [f_Bt_step_l100] at hf
    refine j_iload C d_Bt_step_100 4 rfl ?_
    refine j_aload_n C d_Bt_step_102 0 rfl ?_
    refine j_gI C fl_Bt_17 g0.1 g0.2 rfl d_Bt_step_103 ?_
    refine j_icmp_ge C d_Bt_step_106 hf (fun hf => ?_) (fun hf => ?_)
    · refine j_iinc (lvf := [(0, .ref (yad Y a0)), (2, .int x2), (5, va_rf (Option.map (yad Y) o5)), (6, .int x6)]) (v := 1) C d_Bt_step_157 2 rfl (by decide) (by decide) rfl hf (fun v1 hf => ?_)
      refine j_goto C d_Bt_step_160 ?_
      refine j_sub [1, 2, 0] rfl ?_
      exact hk77 a0 x2 v1 μ ⟨g0.1, g0.2⟩ hf
    · refine j_aload_n C d_Bt_step_109 0 rfl ?_
      refine j_iload C d_Bt_step_110 4 rfl ?_
      refine bd hf (fun u2 hc11 hf => ?_)
      refine j_wt (fun hT hSt => ?_)
      have hu2 := rt_Bt_at hY hT hc11 ⟨g0.1, g0.2⟩
      refine j_cV (rest := []) C lk_Bt_41 (c_Bt_at hY ⟨g0.1, g0.2⟩ hc11) rfl g0.1 g0.2 (by decide) rfl rfl (by decide) rfl (Nat.le_of_ble_eq_true rfl) d_Bt_step_112 ?_
      refine j_astoreo (lvf := [(0, .ref (yad Y a0)), (2, .int x2), (4, .int x4), (5, va_rf (Option.map (yad Y) o5)), (6, .int x6)]) C d_Bt_step_115 (by decide) rfl ?_
      refine j_aloado C d_Bt_step_117 4 rfl ?_
      cases o5 with
      | none =>
        refine j_nul_t C d_Bt_step_119 ?_
        refine j_sub [1, 2, 3, 4, 5] rfl ?_
        exact w_Bt_step_b151 hY C k77 (f_Bt_step_l100 N k77 n) hk77 ih a0 x2 x4 none x6 μ ⟨g0.1, g0.2⟩ (fun b hb => by cases hb) hf
      | some e3 =>
        refine j_nul_f C d_Bt_step_119 ?_
        refine j_aloado C d_Bt_step_122 0 rfl ?_
        cases u2 with
        | none =>
          refine j_nul_t C d_Bt_step_124 ?_
          refine j_sub [1, 2, 3, 4, 5] rfl ?_
          exact w_Bt_step_b151 hY C k77 (f_Bt_step_l100 N k77 n) hk77 ih a0 x2 x4 (some e3) x6 μ ⟨g0.1, g0.2⟩ (fun b hb => by cases hb; exact ⟨(g5 e3 rfl).1, (g5 e3 rfl).2⟩) hf
        | some e4 =>
          refine j_nul_f C d_Bt_step_124 ?_
          refine j_aload C d_Bt_step_127 4 rfl ?_
          refine bd hf (fun v5 hc10 hf => ?_)
          refine j_cV (rest := []) C lk_Bt_74 (c_Sp_stands hY ⟨(g5 e3 rfl).2, (g5 e3 rfl).1⟩ hc10) rfl (g5 e3 rfl).2 (g5 e3 rfl).1 (by decide) rfl rfl (by decide) rfl (Nat.le_of_ble_eq_true rfl) d_Bt_step_129 ?_
          refine j_if_eq C d_Bt_step_132 hf (fun hf => ?_) (fun hf => ?_)
          · refine j_sub [1, 2, 3, 4, 5] rfl ?_
            exact w_Bt_step_b151 hY C k77 (f_Bt_step_l100 N k77 n) hk77 ih a0 x2 x4 (some e3) x6 μ ⟨g0.1, g0.2⟩ (fun b hb => by cases hb; exact ⟨(g5 e3 rfl).1, (g5 e3 rfl).2⟩) hf
          · refine j_aload C d_Bt_step_135 0 rfl ?_
            refine bd hf (fun v6 hc9 hf => ?_)
            refine j_cV (rest := []) C lk_Bt_74 (c_Sp_stands hY ⟨(hu2 e4 rfl).2, (hu2 e4 rfl).1⟩ hc9) rfl (hu2 e4 rfl).2 (hu2 e4 rfl).1 (by decide) rfl rfl (by decide) rfl (Nat.le_of_ble_eq_true rfl) d_Bt_step_137 ?_
            refine j_if_eq C d_Bt_step_140 hf (fun hf => ?_) (fun hf => ?_)
            · refine j_sub [1, 2, 3, 4, 5] rfl ?_
              exact w_Bt_step_b151 hY C k77 (f_Bt_step_l100 N k77 n) hk77 ih a0 x2 x4 (some e3) x6 μ ⟨g0.1, g0.2⟩ (fun b hb => by cases hb; exact ⟨(g5 e3 rfl).1, (g5 e3 rfl).2⟩) hf
            · refine j_aload_n C d_Bt_step_143 1 rfl ?_
              refine j_aload C d_Bt_step_144 4 rfl ?_
              refine j_aload C d_Bt_step_146 0 rfl ?_
              refine bd hf (fun μ7 hc8 hf => ?_)
              refine j_cV (rest := []) C lk_Bt_102 (c_Bt_collide hY ⟨g0.1, g0.2⟩ ⟨(g5 e3 rfl).2, (g5 e3 rfl).1⟩ ⟨(hu2 e4 rfl).2, (hu2 e4 rfl).1⟩ hc8) rfl g0.1 g0.2 (by decide) rfl rfl (by decide) rfl (Nat.le_of_ble_eq_true rfl) d_Bt_step_148 ?_
              refine j_sub [1, 2, 3, 4, 5] rfl ?_
              exact w_Bt_step_b151 hY C k77 (f_Bt_step_l100 N k77 n) hk77 ih a0 x2 x4 (some e3) x6 μ7 ⟨g0.1, g0.2⟩ (fun b hb => by cases hb; exact ⟨(g5 e3 rfl).1, (g5 e3 rfl).2⟩) hf
theorem w_Bt_step_b202 {X : Ctx} {Y : Lay} (hY : IsX Y) (C : Cx X Y b_Bt_step 8 none "TopYard$Bout" 4) {N : Nat} {r : Mem} (k166 : Nat → Int32 → Int32 → Mem → Option (Mem)) (hk166 : ∀ (a0 : Nat) (x2 : Int32) (x4 : Int32) (ν : Mem) (g0 : ykd Y a0 = 0 ∧ a0 < yn Y), k166 a0 x2 x4 ν = some r → J X Y none r 8 166 [(0, .ref (yad Y a0)), (2, .int x2), (4, .int x4)] [] ν) (a0 : Nat) (x2 : Int32) (x4 : Int32) (μ : Mem) (g0 : ykd Y a0 = 0 ∧ a0 < yn Y) (hf : f_Bt_step_b202 N k166 a0 x2 x4 μ = some r) : J X Y none r 8 202 [(0, .ref (yad Y a0)), (2, .int x2), (4, .int x4)] [] μ := by
  unfold f_Bt_step_b202 at hf
  refine j_iinc (lvf := [(0, .ref (yad Y a0)), (2, .int x2)]) (v := 1) C d_Bt_step_202 2 rfl (by decide) (by decide) rfl hf (fun v1 hf => ?_)
  refine j_goto C d_Bt_step_205 ?_
  refine j_sub [1, 2, 0] rfl ?_
  exact hk166 a0 x2 v1 μ ⟨g0.1, g0.2⟩ hf
theorem w_Bt_step_l166 {X : Ctx} {Y : Lay} (hY : IsX Y) (C : Cx X Y b_Bt_step 8 none "TopYard$Bout" 4) {N : Nat} {r : Mem} : ∀ (n : Nat) (a0 : Nat) (x2 : Int32) (x4 : Int32) (μ : Mem) (g0 : ykd Y a0 = 0 ∧ a0 < yn Y), f_Bt_step_l166 N n a0 x2 x4 μ = some r → J X Y none r 8 166 [(0, .ref (yad Y a0)), (2, .int x2), (4, .int x4)] [] μ := by
  intro n
  induction n with
  | zero => intro a0 x2 x4 μ g0 hf; rw [f_Bt_step_l166] at hf; cases hf
  | succ n ih =>
    intro a0 x2 x4 μ g0 hf
    rw [f_Bt_step_l166] at hf
    refine j_iload C d_Bt_step_166 2 rfl ?_
    refine j_aload_n C d_Bt_step_168 0 rfl ?_
    refine j_gI C fl_Bt_17 g0.1 g0.2 rfl d_Bt_step_169 ?_
    refine j_icmp_ge C d_Bt_step_172 hf (fun hf => ?_) (fun hf => ?_)
    · obtain rfl := Option.some.inj hf
      exact j_vret C d_Bt_step_208
    · refine j_aload_n C d_Bt_step_175 0 rfl ?_
      refine j_iload C d_Bt_step_176 2 rfl ?_
      refine bd hf (fun u1 hc7 hf => ?_)
      refine j_wt (fun hT hSt => ?_)
      have hu1 := rt_Bt_at hY hT hc7 ⟨g0.1, g0.2⟩
      refine j_cV (rest := []) C lk_Bt_41 (c_Bt_at hY ⟨g0.1, g0.2⟩ hc7) rfl g0.1 g0.2 (by decide) rfl rfl (by decide) rfl (Nat.le_of_ble_eq_true rfl) d_Bt_step_178 ?_
      refine j_astoreo (lvf := [(0, .ref (yad Y a0)), (2, .int x2), (4, .int x4)]) C d_Bt_step_181 (by decide) rfl ?_
      refine j_aloado C d_Bt_step_183 0 rfl ?_
      cases u1 with
      | none =>
        refine j_nul_t C d_Bt_step_185 ?_
        refine j_sub [1, 2, 3] rfl ?_
        exact w_Bt_step_b202 hY C (f_Bt_step_l166 N n) ih a0 x2 x4 μ ⟨g0.1, g0.2⟩ hf
      | some e2 =>
        refine j_nul_f C d_Bt_step_185 ?_
        refine j_aload C d_Bt_step_188 0 rfl ?_
        refine bd hf (fun v3 hc6 hf => ?_)
        refine j_cV (rest := []) C lk_Bt_74 (c_Sp_stands hY ⟨(hu1 e2 rfl).2, (hu1 e2 rfl).1⟩ hc6) rfl (hu1 e2 rfl).2 (hu1 e2 rfl).1 (by decide) rfl rfl (by decide) rfl (Nat.le_of_ble_eq_true rfl) d_Bt_step_190 ?_
        refine j_if_eq C d_Bt_step_193 hf (fun hf => ?_) (fun hf => ?_)
        · refine j_sub [1, 2, 3] rfl ?_
          exact w_Bt_step_b202 hY C (f_Bt_step_l166 N n) ih a0 x2 x4 μ ⟨g0.1, g0.2⟩ hf
        · refine j_aload C d_Bt_step_196 0 rfl ?_
          refine j_iload_n C d_Bt_step_198 2 rfl ?_
          refine bd hf (fun μ4 hc5 hf => ?_)
          refine j_cV (rest := []) C lk_Bt_106 (c_Sp_fall hY ⟨(hu1 e2 rfl).2, (hu1 e2 rfl).1⟩ hc5) rfl (hu1 e2 rfl).2 (hu1 e2 rfl).1 (by decide) rfl rfl (by decide) rfl (Nat.le_of_ble_eq_true rfl) d_Bt_step_199 ?_
          refine j_sub [1, 2, 3] rfl ?_
          exact w_Bt_step_b202 hY C (f_Bt_step_l166 N n) ih a0 x2 x4 μ4 ⟨g0.1, g0.2⟩ hf
theorem w_Bt_step_l77 {X : Ctx} {Y : Lay} (hY : IsX Y) (C : Cx X Y b_Bt_step 8 none "TopYard$Bout" 4) {N : Nat} {r : Mem} : ∀ (n : Nat) (a0 : Nat) (x2 : Int32) (x4 : Int32) (μ : Mem) (g0 : ykd Y a0 = 0 ∧ a0 < yn Y), f_Bt_step_l77 N n a0 x2 x4 μ = some r → J X Y none r 8 77 [(0, .ref (yad Y a0)), (2, .int x2), (4, .int x4)] [] μ := by
  intro n
  induction n with
  | zero => intro a0 x2 x4 μ g0 hf; rw [f_Bt_step_l77] at hf; cases hf
  | succ n ih =>
    intro a0 x2 x4 μ g0 hf
    rw [f_Bt_step_l77] at hf
    refine j_iload C d_Bt_step_77 2 rfl ?_
    refine j_aload_n C d_Bt_step_79 0 rfl ?_
    refine j_gI C fl_Bt_17 g0.1 g0.2 rfl d_Bt_step_80 ?_
    refine j_icmp_ge C d_Bt_step_83 hf (fun hf => ?_) (fun hf => ?_)
    · refine j_iconst (v := 0) C d_Bt_step_163 (by decide) ?_
      refine j_istore (lvf := [(0, .ref (yad Y a0)), (2, .int x2)]) C d_Bt_step_164 (by decide) rfl ?_
      refine j_sub [1, 2, 0] rfl ?_
      exact w_Bt_step_l166 hY C N a0 x2 0 μ ⟨g0.1, g0.2⟩ hf
    · refine j_aload_n C d_Bt_step_86 0 rfl ?_
      refine j_iload C d_Bt_step_87 2 rfl ?_
      refine bd hf (fun u1 hc3 hf => ?_)
      refine j_wt (fun hT hSt => ?_)
      have hu1 := rt_Bt_at hY hT hc3 ⟨g0.1, g0.2⟩
      refine j_cV (rest := []) C lk_Bt_41 (c_Bt_at hY ⟨g0.1, g0.2⟩ hc3) rfl g0.1 g0.2 (by decide) rfl rfl (by decide) rfl (Nat.le_of_ble_eq_true rfl) d_Bt_step_89 ?_
      refine j_astoreo (lvf := [(0, .ref (yad Y a0)), (2, .int x2), (4, .int x4)]) C d_Bt_step_92 (by decide) rfl ?_
      refine j_iload C d_Bt_step_94 3 rfl ?_
      refine j_iconst (v := 1) C d_Bt_step_96 (by decide) ?_
      refine j_iadd C d_Bt_step_97 ?_
      refine j_istoreN (lvf := [(5, va_rf (Option.map (yad Y) u1)), (0, .ref (yad Y a0)), (2, .int x2), (4, .int x4)]) C d_Bt_step_98 (by decide) (by simp [rf_cat]) hf (fun v2 hf => ?_)
      refine j_sub [2, 3, 4, 1, 0] rfl ?_
      exact w_Bt_step_l100 hY C (f_Bt_step_l77 N n) ih N a0 x2 x4 u1 v2 μ ⟨g0.1, g0.2⟩ hu1 hf
theorem w_Bt_step_l8 {X : Ctx} {Y : Lay} (hY : IsX Y) (C : Cx X Y b_Bt_step 8 none "TopYard$Bout" 4) {N : Nat} {r : Mem} : ∀ (n : Nat) (a0 : Nat) (x2 : Int32) (x4 : Int32) (μ : Mem) (g0 : ykd Y a0 = 0 ∧ a0 < yn Y), f_Bt_step_l8 N n a0 x2 x4 μ = some r → J X Y none r 8 8 [(0, .ref (yad Y a0)), (1, .ref (yad Y 2)), (2, .int x2), (4, .int x4)] [] μ := by
  intro n
  induction n with
  | zero => intro a0 x2 x4 μ g0 hf; rw [f_Bt_step_l8] at hf; cases hf
  | succ n ih =>
    intro a0 x2 x4 μ g0 hf
    rw [f_Bt_step_l8] at hf
    refine j_iload C d_Bt_step_8 3 rfl ?_
    refine j_aload_n C d_Bt_step_10 0 rfl ?_
    refine j_gI C fl_Bt_17 g0.1 g0.2 rfl d_Bt_step_11 ?_
    refine j_icmp_ge C d_Bt_step_14 hf (fun hf => ?_) (fun hf => ?_)
    · refine j_iconst (v := 0) C d_Bt_step_74 (by decide) ?_
      refine j_istore (lvf := [(0, .ref (yad Y a0)), (1, .ref (yad Y 2)), (2, .int x2)]) C d_Bt_step_75 (by decide) rfl ?_
      refine j_sub [1, 3, 0] rfl ?_
      exact w_Bt_step_l77 hY C N a0 x2 0 μ ⟨g0.1, g0.2⟩ hf
    · refine j_aload_n C d_Bt_step_17 0 rfl ?_
      refine j_iload C d_Bt_step_18 3 rfl ?_
      refine bd hf (fun u1 hc15 hf => ?_)
      refine j_wt (fun hT hSt => ?_)
      have hu1 := rt_Bt_at hY hT hc15 ⟨g0.1, g0.2⟩
      refine j_cV (rest := []) C lk_Bt_41 (c_Bt_at hY ⟨g0.1, g0.2⟩ hc15) rfl g0.1 g0.2 (by decide) rfl rfl (by decide) rfl (Nat.le_of_ble_eq_true rfl) d_Bt_step_20 ?_
      refine j_astoreo (lvf := [(0, .ref (yad Y a0)), (1, .ref (yad Y 2)), (2, .int x2), (4, .int x4)]) C d_Bt_step_23 (by decide) rfl ?_
      refine j_aloado C d_Bt_step_25 0 rfl ?_
      cases u1 with
      | none =>
        refine j_nul_t C d_Bt_step_27 ?_
        refine j_sub [1, 2, 3, 4] rfl ?_
        exact w_Bt_step_b68 hY C (f_Bt_step_l8 N n) ih a0 x2 x4 μ ⟨g0.1, g0.2⟩ hf
      | some e2 =>
        refine j_nul_f C d_Bt_step_27 ?_
        refine j_aload C d_Bt_step_30 0 rfl ?_
        refine bd hf (fun v3 hc14 hf => ?_)
        refine j_cV (rest := []) C lk_Bt_74 (c_Sp_stands hY ⟨(hu1 e2 rfl).2, (hu1 e2 rfl).1⟩ hc14) rfl (hu1 e2 rfl).2 (hu1 e2 rfl).1 (by decide) rfl rfl (by decide) rfl (Nat.le_of_ble_eq_true rfl) d_Bt_step_32 ?_
        refine j_if_eq C d_Bt_step_35 hf (fun hf => ?_) (fun hf => ?_)
        · refine j_sub [1, 2, 3, 4] rfl ?_
          exact w_Bt_step_b68 hY C (f_Bt_step_l8 N n) ih a0 x2 x4 μ ⟨g0.1, g0.2⟩ hf
        · refine j_aload C d_Bt_step_38 0 rfl ?_
          refine bd hf (fun μ4 hc13 hf => ?_)
          refine j_cV (rest := []) C lk_Bt_81 (c_Sp_slow hY ⟨(hu1 e2 rfl).2, (hu1 e2 rfl).1⟩ hc13) rfl (hu1 e2 rfl).2 (hu1 e2 rfl).1 (by decide) rfl rfl (by decide) rfl (Nat.le_of_ble_eq_true rfl) d_Bt_step_40 ?_
          refine j_aload C d_Bt_step_43 0 rfl ?_
          refine bd hf (fun μ5 hc12 hf => ?_)
          refine j_cV (rest := []) C lk_Bt_84 (c_Sp_tilt hY ⟨(hu1 e2 rfl).2, (hu1 e2 rfl).1⟩ hc12) rfl (hu1 e2 rfl).2 (hu1 e2 rfl).1 (by decide) rfl rfl (by decide) rfl (Nat.le_of_ble_eq_true rfl) d_Bt_step_45 ?_
          refine j_aload C d_Bt_step_48 0 rfl ?_
          refine j_aload_n C d_Bt_step_50 2 rfl ?_
          refine bd hf (fun μ6 hc11 hf => ?_)
          refine j_cV (rest := []) C lk_Bt_87 (c_Sp_push hY ⟨(hu1 e2 rfl).2, (hu1 e2 rfl).1⟩ hc11) rfl (hu1 e2 rfl).2 (hu1 e2 rfl).1 (by decide) rfl rfl (by decide) rfl (Nat.le_of_ble_eq_true rfl) d_Bt_step_51 ?_
          refine j_aload C d_Bt_step_54 0 rfl ?_
          refine bd hf (fun μ7 hc10 hf => ?_)
          refine j_cV (rest := []) C lk_Bt_91 (c_Sp_move hY ⟨(hu1 e2 rfl).2, (hu1 e2 rfl).1⟩ hc10) rfl (hu1 e2 rfl).2 (hu1 e2 rfl).1 (by decide) rfl rfl (by decide) rfl (Nat.le_of_ble_eq_true rfl) d_Bt_step_56 ?_
          refine j_aload C d_Bt_step_59 0 rfl ?_
          refine j_aload_n C d_Bt_step_61 2 rfl ?_
          refine j_gI C fl_Bt_94 (kX hY rfl) (nX hY (by decide)) rfl d_Bt_step_62 ?_
          refine bd hf (fun μ8 hc9 hf => ?_)
          refine j_cV (rest := []) C lk_Bt_99 (c_Sp_leave hY ⟨(hu1 e2 rfl).2, (hu1 e2 rfl).1⟩ hc9) rfl (hu1 e2 rfl).2 (hu1 e2 rfl).1 (by decide) rfl rfl (by decide) rfl (Nat.le_of_ble_eq_true rfl) d_Bt_step_65 ?_
          refine j_sub [1, 2, 3, 4] rfl ?_
          exact w_Bt_step_b68 hY C (f_Bt_step_l8 N n) ih a0 x2 x4 μ8 ⟨g0.1, g0.2⟩ hf
theorem c_Bt_step {l : Launch} {Y : Lay} (hY : IsX Y) {N : Nat} {μ : Mem} {a0 : Nat} {x2 : Int32} {x3 : Int32} (g0 : ykd Y a0 = 0 ∧ a0 < yn Y) {r : Mem} (hf : f_Bt_step N μ a0 x2 x3 = some r) : Ct l Y y_Bt_step b_Bt_step 8 none 4 [.ref (yad Y a0), .ref (yad Y 2), .int x2, .int x3] none μ r := by
  refine ct_of (own := "TopYard$Bout") (lv := [(0, .ref (yad Y a0)), (1, .ref (yad Y 2)), (2, .int x2), (3, .int x3)]) (by decide +kernel) rfl (Nat.le_of_ble_eq_true rfl) rfl (fun X hl C => ?_)
  subst hl
  unfold f_Bt_step at hf
  refine j_aload_n C d_Bt_step_0 0 rfl ?_
  refine j_iload_n C d_Bt_step_1 3 rfl ?_
  refine bd hf (fun μ1 hc2 hf => ?_)
  refine j_cV (rest := []) C lk_Bt_78 (c_Bt_lash hY ⟨g0.1, g0.2⟩ hc2) rfl g0.1 g0.2 (by decide) rfl rfl (by decide) rfl (Nat.le_of_ble_eq_true rfl) d_Bt_step_2 ?_
  refine j_iconst (v := 0) C d_Bt_step_5 (by decide) ?_
  refine j_istore (lvf := [(0, .ref (yad Y a0)), (1, .ref (yad Y 2)), (2, .int x2), (3, .int x3)]) C d_Bt_step_6 (by decide) rfl ?_
  refine j_sub [1, 2, 3, 0] rfl ?_
  exact w_Bt_step_l8 hY C N a0 x2 0 μ1 ⟨g0.1, g0.2⟩ hf
theorem d_Bt_standsAt_0 : DC b_Bt_standsAt 0 (.aload_n 0) 1 1 := ⟨by decide +kernel, rfl⟩
theorem d_Bt_standsAt_1 : DC b_Bt_standsAt 1 (.iload_n 1) 1 2 := ⟨by decide +kernel, rfl⟩
theorem d_Bt_standsAt_2 : DC b_Bt_standsAt 2 (.invokevirtual 41) 3 5 := ⟨by decide +kernel, rfl⟩
theorem d_Bt_standsAt_5 : DC b_Bt_standsAt 5 (.astore_n 2) 1 6 := ⟨by decide +kernel, rfl⟩
theorem d_Bt_standsAt_6 : DC b_Bt_standsAt 6 (.aload_n 2) 1 7 := ⟨by decide +kernel, rfl⟩
theorem d_Bt_standsAt_7 : DB b_Bt_standsAt 7 (.ifnull 14) 14 21 10 := ⟨by decide +kernel, by decide, rfl⟩
theorem d_Bt_standsAt_10 : DC b_Bt_standsAt 10 (.aload_n 2) 1 11 := ⟨by decide +kernel, rfl⟩
theorem d_Bt_standsAt_11 : DC b_Bt_standsAt 11 (.invokevirtual 74) 3 14 := ⟨by decide +kernel, rfl⟩
theorem d_Bt_standsAt_14 : DB b_Bt_standsAt 14 (.ifCond .eq 7) 7 21 17 := ⟨by decide +kernel, by decide, rfl⟩
theorem d_Bt_standsAt_17 : DC b_Bt_standsAt 17 (.iconst 1) 1 18 := ⟨by decide +kernel, rfl⟩
theorem d_Bt_standsAt_18 : DB b_Bt_standsAt 18 (.goto 4) 4 22 21 := ⟨by decide +kernel, by decide, rfl⟩
theorem d_Bt_standsAt_21 : DC b_Bt_standsAt 21 (.iconst 0) 1 22 := ⟨by decide +kernel, rfl⟩
theorem d_Bt_standsAt_22 : decode b_Bt_standsAt 22 = .ok (.ireturn, 1) := by decide +kernel
theorem c_Bt_standsAt {l : Launch} {Y : Lay} (hY : IsX Y) {μ : Mem} {a0 : Nat} {x1 : Int32} (g0 : ykd Y a0 = 0 ∧ a0 < yn Y) {r : Int32} (hf : f_Bt_standsAt μ a0 x1 = some r) : Ct l Y y_Bt_standsAt b_Bt_standsAt 3 (some .boolean) 2 [.ref (yad Y a0), .int x1] (some (.int r)) μ μ := by
  refine ct_of (own := "TopYard$Bout") (lv := [(0, .ref (yad Y a0)), (1, .int x1)]) (by decide +kernel) rfl (Nat.le_of_ble_eq_true rfl) rfl (fun X hl C => ?_)
  subst hl
  unfold f_Bt_standsAt at hf
  refine j_aload_n C d_Bt_standsAt_0 0 rfl ?_
  refine j_iload_n C d_Bt_standsAt_1 1 rfl ?_
  refine bd hf (fun u1 hc5 hf => ?_)
  refine j_wt (fun hT hSt => ?_)
  have hu1 := rt_Bt_at hY hT hc5 ⟨g0.1, g0.2⟩
  refine j_cV (rest := []) C lk_Bt_41 (c_Bt_at hY ⟨g0.1, g0.2⟩ hc5) rfl g0.1 g0.2 (by decide) rfl rfl (by decide) rfl (Nat.le_of_ble_eq_true rfl) d_Bt_standsAt_2 ?_
  refine j_astoreo_n (lvf := [(0, .ref (yad Y a0)), (1, .int x1)]) C d_Bt_standsAt_5 (by decide) rfl ?_
  refine j_aloado_n C d_Bt_standsAt_6 0 rfl ?_
  cases u1 with
  | none =>
    refine j_nul_t C d_Bt_standsAt_7 ?_
    refine j_iconst (v := 0) C d_Bt_standsAt_21 (by decide) ?_
    obtain rfl := Option.some.inj hf
    exact j_zret C (Or.inl rfl) d_Bt_standsAt_22
  | some e2 =>
    refine j_nul_f C d_Bt_standsAt_7 ?_
    refine j_aload_n C d_Bt_standsAt_10 0 rfl ?_
    refine bd hf (fun v3 hc4 hf => ?_)
    refine j_cV (rest := []) C lk_Bt_74 (c_Sp_stands hY ⟨(hu1 e2 rfl).2, (hu1 e2 rfl).1⟩ hc4) rfl (hu1 e2 rfl).2 (hu1 e2 rfl).1 (by decide) rfl rfl (by decide) rfl (Nat.le_of_ble_eq_true rfl) d_Bt_standsAt_11 ?_
    refine j_if_eq C d_Bt_standsAt_14 hf (fun hf => ?_) (fun hf => ?_)
    · refine j_iconst (v := 0) C d_Bt_standsAt_21 (by decide) ?_
      obtain rfl := Option.some.inj hf
      exact j_zret C (Or.inl rfl) d_Bt_standsAt_22
    · refine j_iconst (v := 1) C d_Bt_standsAt_17 (by decide) ?_
      refine j_goto C d_Bt_standsAt_18 ?_
      obtain rfl := Option.some.inj hf
      exact j_zret C (Or.inr rfl) d_Bt_standsAt_22
theorem d_Bt_standing_0 : DC b_Bt_standing 0 (.iconst 0) 1 1 := ⟨by decide +kernel, rfl⟩
theorem d_Bt_standing_1 : DC b_Bt_standing 1 (.istore_n 1) 1 2 := ⟨by decide +kernel, rfl⟩
theorem d_Bt_standing_2 : DC b_Bt_standing 2 (.iconst 0) 1 3 := ⟨by decide +kernel, rfl⟩
theorem d_Bt_standing_3 : DC b_Bt_standing 3 (.istore_n 2) 1 4 := ⟨by decide +kernel, rfl⟩
theorem d_Bt_standing_4 : DC b_Bt_standing 4 (.iload_n 2) 1 5 := ⟨by decide +kernel, rfl⟩
theorem d_Bt_standing_5 : DC b_Bt_standing 5 (.aload_n 0) 1 6 := ⟨by decide +kernel, rfl⟩
theorem d_Bt_standing_6 : DC b_Bt_standing 6 (.getfield 17) 3 9 := ⟨by decide +kernel, rfl⟩
theorem d_Bt_standing_9 : DB b_Bt_standing 9 (.if_icmp .ge 25) 25 34 12 := ⟨by decide +kernel, by decide, rfl⟩
theorem d_Bt_standing_12 : DC b_Bt_standing 12 (.iload_n 1) 1 13 := ⟨by decide +kernel, rfl⟩
theorem d_Bt_standing_13 : DC b_Bt_standing 13 (.aload_n 0) 1 14 := ⟨by decide +kernel, rfl⟩
theorem d_Bt_standing_14 : DC b_Bt_standing 14 (.iload_n 2) 1 15 := ⟨by decide +kernel, rfl⟩
theorem d_Bt_standing_15 : DC b_Bt_standing 15 (.invokevirtual 64) 3 18 := ⟨by decide +kernel, rfl⟩
theorem d_Bt_standing_18 : DB b_Bt_standing 18 (.ifCond .eq 7) 7 25 21 := ⟨by decide +kernel, by decide, rfl⟩
theorem d_Bt_standing_21 : DC b_Bt_standing 21 (.iconst 1) 1 22 := ⟨by decide +kernel, rfl⟩
theorem d_Bt_standing_22 : DB b_Bt_standing 22 (.goto 4) 4 26 25 := ⟨by decide +kernel, by decide, rfl⟩
theorem d_Bt_standing_25 : DC b_Bt_standing 25 (.iconst 0) 1 26 := ⟨by decide +kernel, rfl⟩
theorem d_Bt_standing_26 : DC b_Bt_standing 26 (.iadd) 1 27 := ⟨by decide +kernel, rfl⟩
theorem d_Bt_standing_27 : DC b_Bt_standing 27 (.istore_n 1) 1 28 := ⟨by decide +kernel, rfl⟩
theorem d_Bt_standing_28 : DC b_Bt_standing 28 (.iinc 2 1) 3 31 := ⟨by decide +kernel, rfl⟩
theorem d_Bt_standing_31 : DB b_Bt_standing 31 (.goto (-27)) (-27) 4 34 := ⟨by decide +kernel, by decide, rfl⟩
theorem d_Bt_standing_34 : DC b_Bt_standing 34 (.iload_n 1) 1 35 := ⟨by decide +kernel, rfl⟩
theorem d_Bt_standing_35 : decode b_Bt_standing 35 = .ok (.ireturn, 1) := by decide +kernel
theorem w_Bt_standing_b26 {X : Ctx} {Y : Lay} (hY : IsX Y) (C : Cx X Y b_Bt_standing 3 (some .int) "TopYard$Bout" 3) {N : Nat} {μ : Mem} {r : Int32} (k4 : Nat → Int32 → Int32 → Option (Int32)) (hk4 : ∀ (a0 : Nat) (x1 : Int32) (x2 : Int32) (g0 : ykd Y a0 = 0 ∧ a0 < yn Y), k4 a0 x1 x2 = some r → J X Y (some (.int r)) μ 3 4 [(0, .ref (yad Y a0)), (1, .int x1), (2, .int x2)] [] μ) (a0 : Nat) (x2 : Int32) (xs0 : Int32) (xs1 : Int32) (g0 : ykd Y a0 = 0 ∧ a0 < yn Y) (hf : f_Bt_standing_b26 N μ k4 a0 x2 xs0 xs1 = some r) : J X Y (some (.int r)) μ 3 26 [(0, .ref (yad Y a0)), (2, .int x2)] [.int xs0, .int xs1] μ := by
  unfold f_Bt_standing_b26 at hf
  refine j_iadd C d_Bt_standing_26 ?_
  refine j_istore_nN (lvf := [(0, .ref (yad Y a0)), (2, .int x2)]) C d_Bt_standing_27 (by decide) rfl hf (fun v1 hf => ?_)
  refine j_iinc (lvf := [(1, .int v1), (0, .ref (yad Y a0))]) (v := 1) C d_Bt_standing_28 2 rfl (by decide) (by decide) rfl hf (fun v2 hf => ?_)
  refine j_goto C d_Bt_standing_31 ?_
  refine j_sub [2, 1, 0] rfl ?_
  exact hk4 a0 v1 v2 ⟨g0.1, g0.2⟩ hf
theorem w_Bt_standing_l4 {X : Ctx} {Y : Lay} (hY : IsX Y) (C : Cx X Y b_Bt_standing 3 (some .int) "TopYard$Bout" 3) {N : Nat} {μ : Mem} {r : Int32} : ∀ (n : Nat) (a0 : Nat) (x1 : Int32) (x2 : Int32) (g0 : ykd Y a0 = 0 ∧ a0 < yn Y), f_Bt_standing_l4 N μ n a0 x1 x2 = some r → J X Y (some (.int r)) μ 3 4 [(0, .ref (yad Y a0)), (1, .int x1), (2, .int x2)] [] μ := by
  intro n
  induction n with
  | zero => intro a0 x1 x2 g0 hf; rw [f_Bt_standing_l4] at hf; cases hf
  | succ n ih =>
    intro a0 x1 x2 g0 hf
    rw [f_Bt_standing_l4] at hf
    refine j_iload_n C d_Bt_standing_4 2 rfl ?_
    refine j_aload_n C d_Bt_standing_5 0 rfl ?_
    refine j_gI C fl_Bt_17 g0.1 g0.2 rfl d_Bt_standing_6 ?_
    refine j_icmp_ge C d_Bt_standing_9 hf (fun hf => ?_) (fun hf => ?_)
    · refine j_iload_n C d_Bt_standing_34 1 rfl ?_
      obtain rfl := Option.some.inj hf
      exact j_iret C d_Bt_standing_35
    · refine j_iload_n C d_Bt_standing_12 1 rfl ?_
      refine j_aload_n C d_Bt_standing_13 0 rfl ?_
      refine j_iload_n C d_Bt_standing_14 2 rfl ?_
      refine bd hf (fun v1 hc2 hf => ?_)
      refine j_cV (rest := [.int x1]) C lk_Bt_64 (c_Bt_standsAt hY ⟨g0.1, g0.2⟩ hc2) rfl g0.1 g0.2 (by decide) rfl rfl (by decide) rfl (Nat.le_of_ble_eq_true rfl) d_Bt_standing_15 ?_
      refine j_if_eq C d_Bt_standing_18 hf (fun hf => ?_) (fun hf => ?_)
      · refine j_iconst (v := 0) C d_Bt_standing_25 (by decide) ?_
        refine j_sub [0, 2] rfl ?_
        exact w_Bt_standing_b26 hY C (f_Bt_standing_l4 N μ n) ih a0 x2 0 x1 ⟨g0.1, g0.2⟩ hf
      · refine j_iconst (v := 1) C d_Bt_standing_21 (by decide) ?_
        refine j_goto C d_Bt_standing_22 ?_
        refine j_sub [0, 2] rfl ?_
        exact w_Bt_standing_b26 hY C (f_Bt_standing_l4 N μ n) ih a0 x2 1 x1 ⟨g0.1, g0.2⟩ hf
theorem c_Bt_standing {l : Launch} {Y : Lay} (hY : IsX Y) {N : Nat} {μ : Mem} {a0 : Nat} (g0 : ykd Y a0 = 0 ∧ a0 < yn Y) {r : Int32} (hf : f_Bt_standing N μ a0 = some r) : Ct l Y y_Bt_standing b_Bt_standing 3 (some .int) 3 [.ref (yad Y a0)] (some (.int r)) μ μ := by
  refine ct_of (own := "TopYard$Bout") (lv := [(0, .ref (yad Y a0))]) (by decide +kernel) rfl (Nat.le_of_ble_eq_true rfl) rfl (fun X hl C => ?_)
  subst hl
  unfold f_Bt_standing at hf
  refine j_iconst (v := 0) C d_Bt_standing_0 (by decide) ?_
  refine j_istore_n (lvf := [(0, .ref (yad Y a0))]) C d_Bt_standing_1 (by decide) rfl ?_
  refine j_iconst (v := 0) C d_Bt_standing_2 (by decide) ?_
  refine j_istore_n (lvf := [(1, .int 0), (0, .ref (yad Y a0))]) C d_Bt_standing_3 (by decide) rfl ?_
  refine j_sub [2, 1, 0] rfl ?_
  exact w_Bt_standing_l4 hY C N a0 0 0 ⟨g0.1, g0.2⟩ hf
theorem d_Bt_spinUntil_0 : DC b_Bt_spinUntil 0 (.aload_n 0) 1 1 := ⟨by decide +kernel, rfl⟩
theorem d_Bt_spinUntil_1 : DC b_Bt_spinUntil 1 (.aload_n 2) 1 2 := ⟨by decide +kernel, rfl⟩
theorem d_Bt_spinUntil_2 : DC b_Bt_spinUntil 2 (.invokevirtual 52) 3 5 := ⟨by decide +kernel, rfl⟩
theorem d_Bt_spinUntil_5 : DC b_Bt_spinUntil 5 (.iconst 1) 1 6 := ⟨by decide +kernel, rfl⟩
theorem d_Bt_spinUntil_6 : DC b_Bt_spinUntil 6 (.istore 5) 2 8 := ⟨by decide +kernel, rfl⟩
theorem d_Bt_spinUntil_8 : DC b_Bt_spinUntil 8 (.iload 5) 2 10 := ⟨by decide +kernel, rfl⟩
theorem d_Bt_spinUntil_10 : DC b_Bt_spinUntil 10 (.iload 4) 2 12 := ⟨by decide +kernel, rfl⟩
theorem d_Bt_spinUntil_12 : DB b_Bt_spinUntil 12 (.if_icmp .gt 28) 28 40 15 := ⟨by decide +kernel, by decide, rfl⟩
theorem d_Bt_spinUntil_15 : DC b_Bt_spinUntil 15 (.aload_n 0) 1 16 := ⟨by decide +kernel, rfl⟩
theorem d_Bt_spinUntil_16 : DC b_Bt_spinUntil 16 (.aload_n 1) 1 17 := ⟨by decide +kernel, rfl⟩
theorem d_Bt_spinUntil_17 : DC b_Bt_spinUntil 17 (.iload_n 3) 1 18 := ⟨by decide +kernel, rfl⟩
theorem d_Bt_spinUntil_18 : DC b_Bt_spinUntil 18 (.iload 5) 2 20 := ⟨by decide +kernel, rfl⟩
theorem d_Bt_spinUntil_20 : DC b_Bt_spinUntil 20 (.invokevirtual 56) 3 23 := ⟨by decide +kernel, rfl⟩
theorem d_Bt_spinUntil_23 : DC b_Bt_spinUntil 23 (.aload_n 0) 1 24 := ⟨by decide +kernel, rfl⟩
theorem d_Bt_spinUntil_24 : DC b_Bt_spinUntil 24 (.invokevirtual 60) 3 27 := ⟨by decide +kernel, rfl⟩
theorem d_Bt_spinUntil_27 : DC b_Bt_spinUntil 27 (.iconst 1) 1 28 := ⟨by decide +kernel, rfl⟩
theorem d_Bt_spinUntil_28 : DB b_Bt_spinUntil 28 (.if_icmp .gt 6) 6 34 31 := ⟨by decide +kernel, by decide, rfl⟩
theorem d_Bt_spinUntil_31 : DC b_Bt_spinUntil 31 (.iload 5) 2 33 := ⟨by decide +kernel, rfl⟩
theorem d_Bt_spinUntil_33 : decode b_Bt_spinUntil 33 = .ok (.ireturn, 1) := by decide +kernel
theorem d_Bt_spinUntil_34 : DC b_Bt_spinUntil 34 (.iinc 5 1) 3 37 := ⟨by decide +kernel, rfl⟩
theorem d_Bt_spinUntil_37 : DB b_Bt_spinUntil 37 (.goto (-29)) (-29) 8 40 := ⟨by decide +kernel, by decide, rfl⟩
theorem d_Bt_spinUntil_40 : DC b_Bt_spinUntil 40 (.iload 4) 2 42 := ⟨by decide +kernel, rfl⟩
theorem d_Bt_spinUntil_42 : decode b_Bt_spinUntil 42 = .ok (.ireturn, 1) := by decide +kernel
theorem w_Bt_spinUntil_l8 {X : Ctx} {Y : Lay} (hY : IsX Y) (C : Cx X Y b_Bt_spinUntil 6 (some .int) "TopYard$Bout" 5) {N : Nat} {r : Int32 × Mem} : ∀ (n : Nat) (a0 : Nat) (x3 : Int32) (x4 : Int32) (x5 : Int32) (μ : Mem) (g0 : ykd Y a0 = 0 ∧ a0 < yn Y), f_Bt_spinUntil_l8 N n a0 x3 x4 x5 μ = some r → J X Y (some (.int r.1)) r.2 6 8 [(0, .ref (yad Y a0)), (1, .ref (yad Y 2)), (3, .int x3), (4, .int x4), (5, .int x5)] [] μ := by
  intro n
  induction n with
  | zero => intro a0 x3 x4 x5 μ g0 hf; rw [f_Bt_spinUntil_l8] at hf; cases hf
  | succ n ih =>
    intro a0 x3 x4 x5 μ g0 hf
    rw [f_Bt_spinUntil_l8] at hf
    refine j_iload C d_Bt_spinUntil_8 4 rfl ?_
    refine j_iload C d_Bt_spinUntil_10 3 rfl ?_
    refine j_icmp_gt C d_Bt_spinUntil_12 hf (fun hf => ?_) (fun hf => ?_)
    · refine j_iload C d_Bt_spinUntil_40 3 rfl ?_
      obtain rfl := Option.some.inj hf
      exact j_iret C d_Bt_spinUntil_42
    · refine j_aload_n C d_Bt_spinUntil_15 0 rfl ?_
      refine j_aload_n C d_Bt_spinUntil_16 1 rfl ?_
      refine j_iload_n C d_Bt_spinUntil_17 2 rfl ?_
      refine j_iload C d_Bt_spinUntil_18 4 rfl ?_
      refine bd hf (fun μ1 hc5 hf => ?_)
      refine j_cV (rest := []) C lk_Bt_56 (c_Bt_step hY ⟨g0.1, g0.2⟩ hc5) rfl g0.1 g0.2 (by decide) rfl rfl (by decide) rfl (Nat.le_of_ble_eq_true rfl) d_Bt_spinUntil_20 ?_
      refine j_aload_n C d_Bt_spinUntil_23 0 rfl ?_
      refine bd hf (fun v2 hc4 hf => ?_)
      refine j_cV (rest := []) C lk_Bt_60 (c_Bt_standing hY ⟨g0.1, g0.2⟩ hc4) rfl g0.1 g0.2 (by decide) rfl rfl (by decide) rfl (Nat.le_of_ble_eq_true rfl) d_Bt_spinUntil_24 ?_
      refine j_iconst (v := 1) C d_Bt_spinUntil_27 (by decide) ?_
      refine j_icmp_gt C d_Bt_spinUntil_28 hf (fun hf => ?_) (fun hf => ?_)
      · refine j_iinc (lvf := [(0, .ref (yad Y a0)), (1, .ref (yad Y 2)), (3, .int x3), (4, .int x4)]) (v := 1) C d_Bt_spinUntil_34 4 rfl (by decide) (by decide) rfl hf (fun v3 hf => ?_)
        refine j_goto C d_Bt_spinUntil_37 ?_
        refine j_sub [1, 2, 3, 4, 0] rfl ?_
        exact ih a0 x3 x4 v3 μ1 ⟨g0.1, g0.2⟩ hf
      · refine j_iload C d_Bt_spinUntil_31 4 rfl ?_
        obtain rfl := Option.some.inj hf
        exact j_iret C d_Bt_spinUntil_33
theorem c_Bt_spinUntil {l : Launch} {Y : Lay} (hY : IsX Y) {N : Nat} {μ : Mem} {a0 : Nat} {x3 : Int32} {x4 : Int32} (g0 : ykd Y a0 = 0 ∧ a0 < yn Y) {r : Int32 × Mem} (hf : f_Bt_spinUntil N μ a0 x3 x4 = some r) : Ct l Y y_Bt_spinUntil b_Bt_spinUntil 6 (some .int) 5 [.ref (yad Y a0), .ref (yad Y 2), .ref (yad Y 4), .int x3, .int x4] (some (.int r.1)) μ r.2 := by
  refine ct_of (own := "TopYard$Bout") (lv := [(0, .ref (yad Y a0)), (1, .ref (yad Y 2)), (2, .ref (yad Y 4)), (3, .int x3), (4, .int x4)]) (by decide +kernel) rfl (Nat.le_of_ble_eq_true rfl) rfl (fun X hl C => ?_)
  subst hl
  unfold f_Bt_spinUntil at hf
  refine j_aload_n C d_Bt_spinUntil_0 0 rfl ?_
  refine j_aload_n C d_Bt_spinUntil_1 2 rfl ?_
  refine bd hf (fun μ1 hc2 hf => ?_)
  refine j_cV (rest := []) C lk_Bt_52 (c_Bt_begin hY ⟨g0.1, g0.2⟩ hc2) rfl g0.1 g0.2 (by decide) rfl rfl (by decide) rfl (Nat.le_of_ble_eq_true rfl) d_Bt_spinUntil_2 ?_
  refine j_iconst (v := 1) C d_Bt_spinUntil_5 (by decide) ?_
  refine j_istore (lvf := [(0, .ref (yad Y a0)), (1, .ref (yad Y 2)), (2, .ref (yad Y 4)), (3, .int x3), (4, .int x4)]) C d_Bt_spinUntil_6 (by decide) rfl ?_
  refine j_sub [1, 2, 4, 5, 0] rfl ?_
  exact w_Bt_spinUntil_l8 hY C N a0 x3 x4 1 μ1 ⟨g0.1, g0.2⟩ hf
theorem d_X_spinBout_0 : DC b_X_spinBout 0 (.aload_n 0) 1 1 := ⟨by decide +kernel, rfl⟩
theorem d_X_spinBout_1 : DC b_X_spinBout 1 (.getfield 33) 3 4 := ⟨by decide +kernel, rfl⟩
theorem d_X_spinBout_4 : DC b_X_spinBout 4 (.aload_n 0) 1 5 := ⟨by decide +kernel, rfl⟩
theorem d_X_spinBout_5 : DC b_X_spinBout 5 (.getfield 22) 3 8 := ⟨by decide +kernel, rfl⟩
theorem d_X_spinBout_8 : DC b_X_spinBout 8 (.aload_n 0) 1 9 := ⟨by decide +kernel, rfl⟩
theorem d_X_spinBout_9 : DC b_X_spinBout 9 (.getfield 26) 3 12 := ⟨by decide +kernel, rfl⟩
theorem d_X_spinBout_12 : DC b_X_spinBout 12 (.aload_n 0) 1 13 := ⟨by decide +kernel, rfl⟩
theorem d_X_spinBout_13 : DC b_X_spinBout 13 (.getfield 22) 3 16 := ⟨by decide +kernel, rfl⟩
theorem d_X_spinBout_16 : DC b_X_spinBout 16 (.getfield 135) 3 19 := ⟨by decide +kernel, rfl⟩
theorem d_X_spinBout_19 : DC b_X_spinBout 19 (.iload_n 1) 1 20 := ⟨by decide +kernel, rfl⟩
theorem d_X_spinBout_20 : DC b_X_spinBout 20 (.invokevirtual 393) 3 23 := ⟨by decide +kernel, rfl⟩
theorem d_X_spinBout_23 : decode b_X_spinBout 23 = .ok (.ireturn, 1) := by decide +kernel
theorem c_X_spinBout {l : Launch} {Y : Lay} (hY : IsX Y) {N : Nat} {μ : Mem} {x1 : Int32} {r : Int32 × Mem} (hf : f_X_spinBout N μ x1 = some r) : Ct l Y y_X_spinBout b_X_spinBout 2 (some .int) 6 [.ref (yad Y 0), .int x1] (some (.int r.1)) μ r.2 := by
  refine ct_of (own := "TopYard") (lv := [(0, .ref (yad Y 0)), (1, .int x1)]) (by decide +kernel) rfl (Nat.le_of_ble_eq_true rfl) rfl (fun X hl C => ?_)
  subst hl
  unfold f_X_spinBout at hf
  refine j_aload_n C d_X_spinBout_0 0 rfl ?_
  refine j_gS (b := 5) C fl_X_33 (kX hY rfl) (nX hY (by decide)) rfl hY.2.2.2.1 rfl (sX hY rfl) d_X_spinBout_1 ?_
  refine j_aload_n C d_X_spinBout_4 0 rfl ?_
  refine j_gS (b := 2) C fl_X_22 (kX hY rfl) (nX hY (by decide)) rfl hY.2.2.2.1 rfl (sX hY rfl) d_X_spinBout_5 ?_
  refine j_aload_n C d_X_spinBout_8 0 rfl ?_
  refine j_gS (b := 4) C fl_X_26 (kX hY rfl) (nX hY (by decide)) rfl hY.2.2.2.1 rfl (sX hY rfl) d_X_spinBout_9 ?_
  refine j_aload_n C d_X_spinBout_12 0 rfl ?_
  refine j_gS (b := 2) C fl_X_22 (kX hY rfl) (nX hY (by decide)) rfl hY.2.2.2.1 rfl (sX hY rfl) d_X_spinBout_13 ?_
  refine j_gI C fl_X_135 (kX hY rfl) (nX hY (by decide)) rfl d_X_spinBout_16 ?_
  refine j_iload_n C d_X_spinBout_19 1 rfl ?_
  refine bd2 hf (fun v1 μ2 hc3 hf => ?_)
  refine j_cV (rest := []) C lk_X_393 (c_Bt_spinUntil hY ⟨(kX hY rfl), (nX hY (by decide))⟩ hc3) rfl (kX hY rfl) (nX hY (by decide)) (by decide) rfl rfl (by decide) rfl (Nat.le_of_ble_eq_true rfl) d_X_spinBout_20 ?_
  obtain rfl := Option.some.inj hf
  exact j_iret C d_X_spinBout_23
theorem d_X_run_0 : DC b_X_run 0 (.aload_n 0) 1 1 := ⟨by decide +kernel, rfl⟩
theorem d_X_run_1 : DC b_X_run 1 (.getfield 33) 3 4 := ⟨by decide +kernel, rfl⟩
theorem d_X_run_4 : DC b_X_run 4 (.getfield 175) 3 7 := ⟨by decide +kernel, rfl⟩
theorem d_X_run_7 : DC b_X_run 7 (.iconst 2) 1 8 := ⟨by decide +kernel, rfl⟩
theorem d_X_run_8 : DB b_X_run 8 (.if_icmp .ge 6) 6 14 11 := ⟨by decide +kernel, by decide, rfl⟩
theorem d_X_run_11 : DC b_X_run 11 (.bipush (-3)) 2 13 := ⟨by decide +kernel, rfl⟩
theorem d_X_run_13 : decode b_X_run 13 = .ok (.ireturn, 1) := by decide +kernel
theorem d_X_run_14 : DC b_X_run 14 (.aload_n 0) 1 15 := ⟨by decide +kernel, rfl⟩
theorem d_X_run_15 : DC b_X_run 15 (.sipush 400) 3 18 := ⟨by decide +kernel, rfl⟩
theorem d_X_run_18 : DC b_X_run 18 (.invokevirtual 187) 3 21 := ⟨by decide +kernel, rfl⟩
theorem d_X_run_21 : decode b_X_run 21 = .ok (.ireturn, 1) := by decide +kernel
theorem c_X_run {l : Launch} {Y : Lay} (hY : IsX Y) {N : Nat} {μ : Mem} {r : Int32 × Mem} (hf : f_X_run N μ = some r) : Ct l Y y_X_run b_X_run 1 (some .int) 7 [.ref (yad Y 0)] (some (.int r.1)) μ r.2 := by
  refine ct_of (own := "TopYard") (lv := [(0, .ref (yad Y 0))]) (by decide +kernel) rfl (Nat.le_of_ble_eq_true rfl) rfl (fun X hl C => ?_)
  subst hl
  unfold f_X_run at hf
  refine j_aload_n C d_X_run_0 0 rfl ?_
  refine j_gS (b := 5) C fl_X_33 (kX hY rfl) (nX hY (by decide)) rfl hY.2.2.2.1 rfl (sX hY rfl) d_X_run_1 ?_
  refine j_gI C fl_X_175 (kX hY rfl) (nX hY (by decide)) rfl d_X_run_4 ?_
  refine j_iconst (v := 2) C d_X_run_7 (by decide) ?_
  refine j_icmp_ge C d_X_run_8 hf (fun hf => ?_) (fun hf => ?_)
  · refine j_aload_n C d_X_run_14 0 rfl ?_
    refine j_sipush (v := 400) C d_X_run_15 (by decide) ?_
    refine bd2 hf (fun v1 μ2 hc3 hf => ?_)
    refine j_cV (rest := []) C lk_X_187 (c_X_spinBout hY hc3) rfl (kX hY rfl) (nX hY (by decide)) (by decide) rfl rfl (by decide) rfl (Nat.le_of_ble_eq_true rfl) d_X_run_18 ?_
    obtain rfl := Option.some.inj hf
    exact j_iret C d_X_run_21
  · refine j_bipush (v := (-3)) C d_X_run_11 (by decide) ?_
    obtain rfl := Option.some.inj hf
    exact j_iret C d_X_run_13
theorem d_Bt_lonePlace_0 : DC b_Bt_lonePlace 0 (.aload_n 0) 1 1 := ⟨by decide +kernel, rfl⟩
theorem d_Bt_lonePlace_1 : DC b_Bt_lonePlace 1 (.invokevirtual 60) 3 4 := ⟨by decide +kernel, rfl⟩
theorem d_Bt_lonePlace_4 : DC b_Bt_lonePlace 4 (.iconst 1) 1 5 := ⟨by decide +kernel, rfl⟩
theorem d_Bt_lonePlace_5 : DB b_Bt_lonePlace 5 (.if_icmp .eq 5) 5 10 8 := ⟨by decide +kernel, by decide, rfl⟩
theorem d_Bt_lonePlace_8 : DC b_Bt_lonePlace 8 (.iconst (-1)) 1 9 := ⟨by decide +kernel, rfl⟩
theorem d_Bt_lonePlace_9 : decode b_Bt_lonePlace 9 = .ok (.ireturn, 1) := by decide +kernel
theorem d_Bt_lonePlace_10 : DC b_Bt_lonePlace 10 (.iconst 0) 1 11 := ⟨by decide +kernel, rfl⟩
theorem d_Bt_lonePlace_11 : DC b_Bt_lonePlace 11 (.istore_n 1) 1 12 := ⟨by decide +kernel, rfl⟩
theorem d_Bt_lonePlace_12 : DC b_Bt_lonePlace 12 (.iload_n 1) 1 13 := ⟨by decide +kernel, rfl⟩
theorem d_Bt_lonePlace_13 : DC b_Bt_lonePlace 13 (.aload_n 0) 1 14 := ⟨by decide +kernel, rfl⟩
theorem d_Bt_lonePlace_14 : DC b_Bt_lonePlace 14 (.getfield 17) 3 17 := ⟨by decide +kernel, rfl⟩
theorem d_Bt_lonePlace_17 : DB b_Bt_lonePlace 17 (.if_icmp .ge 19) 19 36 20 := ⟨by decide +kernel, by decide, rfl⟩
theorem d_Bt_lonePlace_20 : DC b_Bt_lonePlace 20 (.aload_n 0) 1 21 := ⟨by decide +kernel, rfl⟩
theorem d_Bt_lonePlace_21 : DC b_Bt_lonePlace 21 (.iload_n 1) 1 22 := ⟨by decide +kernel, rfl⟩
theorem d_Bt_lonePlace_22 : DC b_Bt_lonePlace 22 (.invokevirtual 64) 3 25 := ⟨by decide +kernel, rfl⟩
theorem d_Bt_lonePlace_25 : DB b_Bt_lonePlace 25 (.ifCond .eq 5) 5 30 28 := ⟨by decide +kernel, by decide, rfl⟩
theorem d_Bt_lonePlace_28 : DC b_Bt_lonePlace 28 (.iload_n 1) 1 29 := ⟨by decide +kernel, rfl⟩
theorem d_Bt_lonePlace_29 : decode b_Bt_lonePlace 29 = .ok (.ireturn, 1) := by decide +kernel
theorem d_Bt_lonePlace_30 : DC b_Bt_lonePlace 30 (.iinc 1 1) 3 33 := ⟨by decide +kernel, rfl⟩
theorem d_Bt_lonePlace_33 : DB b_Bt_lonePlace 33 (.goto (-21)) (-21) 12 36 := ⟨by decide +kernel, by decide, rfl⟩
theorem d_Bt_lonePlace_36 : DC b_Bt_lonePlace 36 (.iconst (-1)) 1 37 := ⟨by decide +kernel, rfl⟩
theorem d_Bt_lonePlace_37 : decode b_Bt_lonePlace 37 = .ok (.ireturn, 1) := by decide +kernel
theorem w_Bt_lonePlace_l12 {X : Ctx} {Y : Lay} (hY : IsX Y) (C : Cx X Y b_Bt_lonePlace 2 (some .int) "TopYard$Bout" 4) {N : Nat} {μ : Mem} {r : Int32} : ∀ (n : Nat) (a0 : Nat) (x1 : Int32) (g0 : ykd Y a0 = 0 ∧ a0 < yn Y), f_Bt_lonePlace_l12 N μ n a0 x1 = some r → J X Y (some (.int r)) μ 2 12 [(0, .ref (yad Y a0)), (1, .int x1)] [] μ := by
  intro n
  induction n with
  | zero => intro a0 x1 g0 hf; rw [f_Bt_lonePlace_l12] at hf; cases hf
  | succ n ih =>
    intro a0 x1 g0 hf
    rw [f_Bt_lonePlace_l12] at hf
    refine j_iload_n C d_Bt_lonePlace_12 1 rfl ?_
    refine j_aload_n C d_Bt_lonePlace_13 0 rfl ?_
    refine j_gI C fl_Bt_17 g0.1 g0.2 rfl d_Bt_lonePlace_14 ?_
    refine j_icmp_ge C d_Bt_lonePlace_17 hf (fun hf => ?_) (fun hf => ?_)
    · refine j_iconst (v := (-1)) C d_Bt_lonePlace_36 (by decide) ?_
      obtain rfl := Option.some.inj hf
      exact j_iret C d_Bt_lonePlace_37
    · refine j_aload_n C d_Bt_lonePlace_20 0 rfl ?_
      refine j_iload_n C d_Bt_lonePlace_21 1 rfl ?_
      refine bd hf (fun v1 hc3 hf => ?_)
      refine j_cV (rest := []) C lk_Bt_64 (c_Bt_standsAt hY ⟨g0.1, g0.2⟩ hc3) rfl g0.1 g0.2 (by decide) rfl rfl (by decide) rfl (Nat.le_of_ble_eq_true rfl) d_Bt_lonePlace_22 ?_
      refine j_if_eq C d_Bt_lonePlace_25 hf (fun hf => ?_) (fun hf => ?_)
      · refine j_iinc (lvf := [(0, .ref (yad Y a0))]) (v := 1) C d_Bt_lonePlace_30 1 rfl (by decide) (by decide) rfl hf (fun v2 hf => ?_)
        refine j_goto C d_Bt_lonePlace_33 ?_
        refine j_sub [1, 0] rfl ?_
        exact ih a0 v2 ⟨g0.1, g0.2⟩ hf
      · refine j_iload_n C d_Bt_lonePlace_28 1 rfl ?_
        obtain rfl := Option.some.inj hf
        exact j_iret C d_Bt_lonePlace_29
theorem c_Bt_lonePlace {l : Launch} {Y : Lay} (hY : IsX Y) {N : Nat} {μ : Mem} {a0 : Nat} (g0 : ykd Y a0 = 0 ∧ a0 < yn Y) {r : Int32} (hf : f_Bt_lonePlace N μ a0 = some r) : Ct l Y y_Bt_lonePlace b_Bt_lonePlace 2 (some .int) 4 [.ref (yad Y a0)] (some (.int r)) μ μ := by
  refine ct_of (own := "TopYard$Bout") (lv := [(0, .ref (yad Y a0))]) (by decide +kernel) rfl (Nat.le_of_ble_eq_true rfl) rfl (fun X hl C => ?_)
  subst hl
  unfold f_Bt_lonePlace at hf
  refine j_aload_n C d_Bt_lonePlace_0 0 rfl ?_
  refine bd hf (fun v1 hc2 hf => ?_)
  refine j_cV (rest := []) C lk_Bt_60 (c_Bt_standing hY ⟨g0.1, g0.2⟩ hc2) rfl g0.1 g0.2 (by decide) rfl rfl (by decide) rfl (Nat.le_of_ble_eq_true rfl) d_Bt_lonePlace_1 ?_
  refine j_iconst (v := 1) C d_Bt_lonePlace_4 (by decide) ?_
  refine j_icmp_eq C d_Bt_lonePlace_5 hf (fun hf => ?_) (fun hf => ?_)
  · refine j_iconst (v := 0) C d_Bt_lonePlace_10 (by decide) ?_
    refine j_istore_n (lvf := [(0, .ref (yad Y a0))]) C d_Bt_lonePlace_11 (by decide) rfl ?_
    refine j_sub [1, 0] rfl ?_
    exact w_Bt_lonePlace_l12 hY C N a0 0 ⟨g0.1, g0.2⟩ hf
  · refine j_iconst (v := (-1)) C d_Bt_lonePlace_8 (by decide) ?_
    obtain rfl := Option.some.inj hf
    exact j_iret C d_Bt_lonePlace_9
theorem d_X_winner_0 : DC b_X_winner 0 (.aload_n 0) 1 1 := ⟨by decide +kernel, rfl⟩
theorem d_X_winner_1 : DC b_X_winner 1 (.getfield 33) 3 4 := ⟨by decide +kernel, rfl⟩
theorem d_X_winner_4 : DC b_X_winner 4 (.getfield 175) 3 7 := ⟨by decide +kernel, rfl⟩
theorem d_X_winner_7 : DC b_X_winner 7 (.iconst 2) 1 8 := ⟨by decide +kernel, rfl⟩
theorem d_X_winner_8 : DB b_X_winner 8 (.if_icmp .ge 6) 6 14 11 := ⟨by decide +kernel, by decide, rfl⟩
theorem d_X_winner_11 : DC b_X_winner 11 (.bipush (-3)) 2 13 := ⟨by decide +kernel, rfl⟩
theorem d_X_winner_13 : decode b_X_winner 13 = .ok (.ireturn, 1) := by decide +kernel
theorem d_X_winner_14 : DC b_X_winner 14 (.aload_n 0) 1 15 := ⟨by decide +kernel, rfl⟩
theorem d_X_winner_15 : DC b_X_winner 15 (.sipush 400) 3 18 := ⟨by decide +kernel, rfl⟩
theorem d_X_winner_18 : DC b_X_winner 18 (.invokevirtual 187) 3 21 := ⟨by decide +kernel, rfl⟩
theorem d_X_winner_21 : DC b_X_winner 21 (.pop) 1 22 := ⟨by decide +kernel, rfl⟩
theorem d_X_winner_22 : DC b_X_winner 22 (.aload_n 0) 1 23 := ⟨by decide +kernel, rfl⟩
theorem d_X_winner_23 : DC b_X_winner 23 (.getfield 33) 3 26 := ⟨by decide +kernel, rfl⟩
theorem d_X_winner_26 : DC b_X_winner 26 (.invokevirtual 190) 3 29 := ⟨by decide +kernel, rfl⟩
theorem d_X_winner_29 : decode b_X_winner 29 = .ok (.ireturn, 1) := by decide +kernel
theorem c_X_winner {l : Launch} {Y : Lay} (hY : IsX Y) {N : Nat} {μ : Mem} {r : Int32 × Mem} (hf : f_X_winner N μ = some r) : Ct l Y y_X_winner b_X_winner 1 (some .int) 7 [.ref (yad Y 0)] (some (.int r.1)) μ r.2 := by
  refine ct_of (own := "TopYard") (lv := [(0, .ref (yad Y 0))]) (by decide +kernel) rfl (Nat.le_of_ble_eq_true rfl) rfl (fun X hl C => ?_)
  subst hl
  unfold f_X_winner at hf
  refine j_aload_n C d_X_winner_0 0 rfl ?_
  refine j_gS (b := 5) C fl_X_33 (kX hY rfl) (nX hY (by decide)) rfl hY.2.2.2.1 rfl (sX hY rfl) d_X_winner_1 ?_
  refine j_gI C fl_X_175 (kX hY rfl) (nX hY (by decide)) rfl d_X_winner_4 ?_
  refine j_iconst (v := 2) C d_X_winner_7 (by decide) ?_
  refine j_icmp_ge C d_X_winner_8 hf (fun hf => ?_) (fun hf => ?_)
  · refine j_aload_n C d_X_winner_14 0 rfl ?_
    refine j_sipush (v := 400) C d_X_winner_15 (by decide) ?_
    refine bd2 hf (fun v1 μ2 hc5 hf => ?_)
    refine j_cV (rest := []) C lk_X_187 (c_X_spinBout hY hc5) rfl (kX hY rfl) (nX hY (by decide)) (by decide) rfl rfl (by decide) rfl (Nat.le_of_ble_eq_true rfl) d_X_winner_18 ?_
    refine j_pop C d_X_winner_21 rfl ?_
    refine j_aload_n C d_X_winner_22 0 rfl ?_
    refine j_gS (b := 5) C fl_X_33 (kX hY rfl) (nX hY (by decide)) rfl hY.2.2.2.1 rfl (sX hY rfl) d_X_winner_23 ?_
    refine bd hf (fun v3 hc4 hf => ?_)
    refine j_cV (rest := []) C lk_X_190 (c_Bt_lonePlace hY ⟨(kX hY rfl), (nX hY (by decide))⟩ hc4) rfl (kX hY rfl) (nX hY (by decide)) (by decide) rfl rfl (by decide) rfl (Nat.le_of_ble_eq_true rfl) d_X_winner_26 ?_
    obtain rfl := Option.some.inj hf
    exact j_iret C d_X_winner_29
  · refine j_bipush (v := (-3)) C d_X_winner_11 (by decide) ?_
    obtain rfl := Option.some.inj hf
    exact j_iret C d_X_winner_13
theorem d_X_knocks_0 : DC b_X_knocks 0 (.iload_n 1) 1 1 := ⟨by decide +kernel, rfl⟩
theorem d_X_knocks_1 : DC b_X_knocks 1 (.iconst 0) 1 2 := ⟨by decide +kernel, rfl⟩
theorem d_X_knocks_2 : DC b_X_knocks 2 (.iconst 1) 1 3 := ⟨by decide +kernel, rfl⟩
theorem d_X_knocks_3 : DC b_X_knocks 3 (.invokestatic 90) 3 6 := ⟨by decide +kernel, rfl⟩
theorem d_X_knocks_6 : DB b_X_knocks 6 (.ifCond .ne 6) 6 12 9 := ⟨by decide +kernel, by decide, rfl⟩
theorem d_X_knocks_9 : DC b_X_knocks 9 (.bipush (-2)) 2 11 := ⟨by decide +kernel, rfl⟩
theorem d_X_knocks_11 : decode b_X_knocks 11 = .ok (.ireturn, 1) := by decide +kernel
theorem d_X_knocks_12 : DC b_X_knocks 12 (.aload_n 0) 1 13 := ⟨by decide +kernel, rfl⟩
theorem d_X_knocks_13 : DC b_X_knocks 13 (.getfield 33) 3 16 := ⟨by decide +kernel, rfl⟩
theorem d_X_knocks_16 : DC b_X_knocks 16 (.getfield 175) 3 19 := ⟨by decide +kernel, rfl⟩
theorem d_X_knocks_19 : DC b_X_knocks 19 (.iconst 2) 1 20 := ⟨by decide +kernel, rfl⟩
theorem d_X_knocks_20 : DB b_X_knocks 20 (.if_icmp .ge 6) 6 26 23 := ⟨by decide +kernel, by decide, rfl⟩
theorem d_X_knocks_23 : DC b_X_knocks 23 (.bipush (-3)) 2 25 := ⟨by decide +kernel, rfl⟩
theorem d_X_knocks_25 : decode b_X_knocks 25 = .ok (.ireturn, 1) := by decide +kernel
theorem d_X_knocks_26 : DC b_X_knocks 26 (.aload_n 0) 1 27 := ⟨by decide +kernel, rfl⟩
theorem d_X_knocks_27 : DC b_X_knocks 27 (.sipush 400) 3 30 := ⟨by decide +kernel, rfl⟩
theorem d_X_knocks_30 : DC b_X_knocks 30 (.invokevirtual 187) 3 33 := ⟨by decide +kernel, rfl⟩
theorem d_X_knocks_33 : DC b_X_knocks 33 (.pop) 1 34 := ⟨by decide +kernel, rfl⟩
theorem d_X_knocks_34 : DC b_X_knocks 34 (.iload_n 1) 1 35 := ⟨by decide +kernel, rfl⟩
theorem d_X_knocks_35 : DB b_X_knocks 35 (.ifCond .ne 13) 13 48 38 := ⟨by decide +kernel, by decide, rfl⟩
theorem d_X_knocks_38 : DC b_X_knocks 38 (.aload_n 0) 1 39 := ⟨by decide +kernel, rfl⟩
theorem d_X_knocks_39 : DC b_X_knocks 39 (.getfield 33) 3 42 := ⟨by decide +kernel, rfl⟩
theorem d_X_knocks_42 : DC b_X_knocks 42 (.getfield 194) 3 45 := ⟨by decide +kernel, rfl⟩
theorem d_X_knocks_45 : DB b_X_knocks 45 (.goto 10) 10 55 48 := ⟨by decide +kernel, by decide, rfl⟩
theorem d_X_knocks_48 : DC b_X_knocks 48 (.aload_n 0) 1 49 := ⟨by decide +kernel, rfl⟩
theorem d_X_knocks_49 : DC b_X_knocks 49 (.getfield 33) 3 52 := ⟨by decide +kernel, rfl⟩
theorem d_X_knocks_52 : DC b_X_knocks 52 (.getfield 197) 3 55 := ⟨by decide +kernel, rfl⟩
theorem d_X_knocks_55 : decode b_X_knocks 55 = .ok (.ireturn, 1) := by decide +kernel
theorem c_X_knocks {l : Launch} {Y : Lay} (hY : IsX Y) {N : Nat} {μ : Mem} {x1 : Int32} {r : Int32 × Mem} (hf : f_X_knocks N μ x1 = some r) : Ct l Y y_X_knocks b_X_knocks 2 (some .int) 7 [.ref (yad Y 0), .int x1] (some (.int r.1)) μ r.2 := by
  refine ct_of (own := "TopYard") (lv := [(0, .ref (yad Y 0)), (1, .int x1)]) (by decide +kernel) rfl (Nat.le_of_ble_eq_true rfl) rfl (fun X hl C => ?_)
  subst hl
  unfold f_X_knocks at hf
  refine j_iload_n C d_X_knocks_0 1 rfl ?_
  refine j_iconst (v := 0) C d_X_knocks_1 (by decide) ?_
  refine j_iconst (v := 1) C d_X_knocks_2 (by decide) ?_
  refine bd hf (fun v1 hc5 hf => ?_)
  refine j_cS (rest := []) C lk_X_90 (c_X_within hY hc5) rfl (by decide) rfl (Nat.le_of_ble_eq_true rfl) d_X_knocks_3 ?_
  refine j_if_ne C d_X_knocks_6 hf (fun hf => ?_) (fun hf => ?_)
  · refine j_aload_n C d_X_knocks_12 0 rfl ?_
    refine j_gS (b := 5) C fl_X_33 (kX hY rfl) (nX hY (by decide)) rfl hY.2.2.2.1 rfl (sX hY rfl) d_X_knocks_13 ?_
    refine j_gI C fl_X_175 (kX hY rfl) (nX hY (by decide)) rfl d_X_knocks_16 ?_
    refine j_iconst (v := 2) C d_X_knocks_19 (by decide) ?_
    refine j_icmp_ge C d_X_knocks_20 hf (fun hf => ?_) (fun hf => ?_)
    · refine j_aload_n C d_X_knocks_26 0 rfl ?_
      refine j_sipush (v := 400) C d_X_knocks_27 (by decide) ?_
      refine bd2 hf (fun v2 μ3 hc4 hf => ?_)
      refine j_cV (rest := []) C lk_X_187 (c_X_spinBout hY hc4) rfl (kX hY rfl) (nX hY (by decide)) (by decide) rfl rfl (by decide) rfl (Nat.le_of_ble_eq_true rfl) d_X_knocks_30 ?_
      refine j_pop C d_X_knocks_33 rfl ?_
      refine j_iload_n C d_X_knocks_34 1 rfl ?_
      refine j_if_ne C d_X_knocks_35 hf (fun hf => ?_) (fun hf => ?_)
      · refine j_aload_n C d_X_knocks_48 0 rfl ?_
        refine j_gS (b := 5) C fl_X_33 (kX hY rfl) (nX hY (by decide)) rfl hY.2.2.2.1 rfl (sX hY rfl) d_X_knocks_49 ?_
        refine j_gI C fl_X_197 (kX hY rfl) (nX hY (by decide)) rfl d_X_knocks_52 ?_
        obtain rfl := Option.some.inj hf
        exact j_iret C d_X_knocks_55
      · refine j_aload_n C d_X_knocks_38 0 rfl ?_
        refine j_gS (b := 5) C fl_X_33 (kX hY rfl) (nX hY (by decide)) rfl hY.2.2.2.1 rfl (sX hY rfl) d_X_knocks_39 ?_
        refine j_gI C fl_X_194 (kX hY rfl) (nX hY (by decide)) rfl d_X_knocks_42 ?_
        refine j_goto C d_X_knocks_45 ?_
        obtain rfl := Option.some.inj hf
        exact j_iret C d_X_knocks_55
    · refine j_bipush (v := (-3)) C d_X_knocks_23 (by decide) ?_
      obtain rfl := Option.some.inj hf
      exact j_iret C d_X_knocks_25
  · refine j_bipush (v := (-2)) C d_X_knocks_9 (by decide) ?_
    obtain rfl := Option.some.inj hf
    exact j_iret C d_X_knocks_11
theorem d_Sp_figure_0 : DC b_Sp_figure 0 (.iload_n 1) 1 1 := ⟨by decide +kernel, rfl⟩
theorem d_Sp_figure_1 : decode b_Sp_figure 1 = .ok (.tableswitch 82 0 6 #[43, 49, 55, 60, 66, 72, 77], 43) := by decide +kernel
theorem d_Sp_figure_44 : DC b_Sp_figure 44 (.aload_n 0) 1 45 := ⟨by decide +kernel, rfl⟩
theorem d_Sp_figure_45 : DC b_Sp_figure 45 (.getfield 63) 3 48 := ⟨by decide +kernel, rfl⟩
theorem d_Sp_figure_48 : DC b_Sp_figure 48 (.l2i) 1 49 := ⟨by decide +kernel, rfl⟩
theorem d_Sp_figure_49 : decode b_Sp_figure 49 = .ok (.ireturn, 1) := by decide +kernel
theorem d_Sp_figure_50 : DC b_Sp_figure 50 (.aload_n 0) 1 51 := ⟨by decide +kernel, rfl⟩
theorem d_Sp_figure_51 : DC b_Sp_figure 51 (.getfield 67) 3 54 := ⟨by decide +kernel, rfl⟩
theorem d_Sp_figure_54 : DC b_Sp_figure 54 (.l2i) 1 55 := ⟨by decide +kernel, rfl⟩
theorem d_Sp_figure_55 : decode b_Sp_figure 55 = .ok (.ireturn, 1) := by decide +kernel
theorem d_Sp_figure_56 : DC b_Sp_figure 56 (.aload_n 0) 1 57 := ⟨by decide +kernel, rfl⟩
theorem d_Sp_figure_57 : DC b_Sp_figure 57 (.getfield 70) 3 60 := ⟨by decide +kernel, rfl⟩
theorem d_Sp_figure_60 : decode b_Sp_figure 60 = .ok (.ireturn, 1) := by decide +kernel
theorem d_Sp_figure_61 : DC b_Sp_figure 61 (.aload_n 0) 1 62 := ⟨by decide +kernel, rfl⟩
theorem d_Sp_figure_62 : DC b_Sp_figure 62 (.getfield 79) 3 65 := ⟨by decide +kernel, rfl⟩
theorem d_Sp_figure_65 : DC b_Sp_figure 65 (.l2i) 1 66 := ⟨by decide +kernel, rfl⟩
theorem d_Sp_figure_66 : decode b_Sp_figure 66 = .ok (.ireturn, 1) := by decide +kernel
theorem d_Sp_figure_67 : DC b_Sp_figure 67 (.aload_n 0) 1 68 := ⟨by decide +kernel, rfl⟩
theorem d_Sp_figure_68 : DC b_Sp_figure 68 (.getfield 85) 3 71 := ⟨by decide +kernel, rfl⟩
theorem d_Sp_figure_71 : DC b_Sp_figure 71 (.l2i) 1 72 := ⟨by decide +kernel, rfl⟩
theorem d_Sp_figure_72 : decode b_Sp_figure 72 = .ok (.ireturn, 1) := by decide +kernel
theorem d_Sp_figure_73 : DC b_Sp_figure 73 (.aload_n 0) 1 74 := ⟨by decide +kernel, rfl⟩
theorem d_Sp_figure_74 : DC b_Sp_figure 74 (.getfield 91) 3 77 := ⟨by decide +kernel, rfl⟩
theorem d_Sp_figure_77 : decode b_Sp_figure 77 = .ok (.ireturn, 1) := by decide +kernel
theorem d_Sp_figure_78 : DC b_Sp_figure 78 (.aload_n 0) 1 79 := ⟨by decide +kernel, rfl⟩
theorem d_Sp_figure_79 : DC b_Sp_figure 79 (.getfield 94) 3 82 := ⟨by decide +kernel, rfl⟩
theorem d_Sp_figure_82 : decode b_Sp_figure 82 = .ok (.ireturn, 1) := by decide +kernel
theorem d_Sp_figure_83 : DC b_Sp_figure 83 (.aload_n 0) 1 84 := ⟨by decide +kernel, rfl⟩
theorem d_Sp_figure_84 : DC b_Sp_figure 84 (.getfield 34) 3 87 := ⟨by decide +kernel, rfl⟩
theorem d_Sp_figure_87 : decode b_Sp_figure 87 = .ok (.ireturn, 1) := by decide +kernel
theorem c_Sp_figure {l : Launch} {Y : Lay} (hY : IsX Y) {μ : Mem} {a0 : Nat} {x1 : Int32} (g0 : ykd Y a0 = 7 ∧ a0 < yn Y) {r : Int32} (hf : f_Sp_figure μ a0 x1 = some r) : Ct l Y y_Sp_figure b_Sp_figure 2 (some .int) 1 [.ref (yad Y a0), .int x1] (some (.int r)) μ μ := by
  refine ct_of (own := "TopYard$Spinner") (lv := [(0, .ref (yad Y a0)), (1, .int x1)]) (by decide +kernel) rfl (Nat.le_of_ble_eq_true rfl) rfl (fun X hl C => ?_)
  subst hl
  unfold f_Sp_figure at hf
  refine j_iload_n C d_Sp_figure_0 1 rfl ?_
  refine j_key hf (fun hx1 hf => ?_) (fun hx1 hf => ?_)
  · refine j_tin (tgt' := 44) (off := 43) (v := 0) C d_Sp_figure_1 hx1 (by decide) (by decide) (by decide) (by decide) ?_
    refine j_aload_n C d_Sp_figure_44 0 rfl ?_
    refine j_gL C fl_Sp_63 g0.1 g0.2 rfl d_Sp_figure_45 ?_
    refine j_l2i C d_Sp_figure_48 ?_
    obtain rfl := Option.some.inj hf
    exact j_iret C d_Sp_figure_49
  · refine j_key hf (fun hx2 hf => ?_) (fun hx2 hf => ?_)
    · refine j_tin (tgt' := 50) (off := 49) (v := 1) C d_Sp_figure_1 hx2 (by decide) (by decide) (by decide) (by decide) ?_
      refine j_aload_n C d_Sp_figure_50 0 rfl ?_
      refine j_gL C fl_Sp_67 g0.1 g0.2 rfl d_Sp_figure_51 ?_
      refine j_l2i C d_Sp_figure_54 ?_
      obtain rfl := Option.some.inj hf
      exact j_iret C d_Sp_figure_55
    · refine j_key hf (fun hx3 hf => ?_) (fun hx3 hf => ?_)
      · refine j_tin (tgt' := 56) (off := 55) (v := 2) C d_Sp_figure_1 hx3 (by decide) (by decide) (by decide) (by decide) ?_
        refine j_aload_n C d_Sp_figure_56 0 rfl ?_
        refine j_gI C fl_Sp_70 g0.1 g0.2 rfl d_Sp_figure_57 ?_
        obtain rfl := Option.some.inj hf
        exact j_iret C d_Sp_figure_60
      · refine j_key hf (fun hx4 hf => ?_) (fun hx4 hf => ?_)
        · refine j_tin (tgt' := 61) (off := 60) (v := 3) C d_Sp_figure_1 hx4 (by decide) (by decide) (by decide) (by decide) ?_
          refine j_aload_n C d_Sp_figure_61 0 rfl ?_
          refine j_gL C fl_Sp_79 g0.1 g0.2 rfl d_Sp_figure_62 ?_
          refine j_l2i C d_Sp_figure_65 ?_
          obtain rfl := Option.some.inj hf
          exact j_iret C d_Sp_figure_66
        · refine j_key hf (fun hx5 hf => ?_) (fun hx5 hf => ?_)
          · refine j_tin (tgt' := 67) (off := 66) (v := 4) C d_Sp_figure_1 hx5 (by decide) (by decide) (by decide) (by decide) ?_
            refine j_aload_n C d_Sp_figure_67 0 rfl ?_
            refine j_gL C fl_Sp_85 g0.1 g0.2 rfl d_Sp_figure_68 ?_
            refine j_l2i C d_Sp_figure_71 ?_
            obtain rfl := Option.some.inj hf
            exact j_iret C d_Sp_figure_72
          · refine j_key hf (fun hx6 hf => ?_) (fun hx6 hf => ?_)
            · refine j_tin (tgt' := 73) (off := 72) (v := 5) C d_Sp_figure_1 hx6 (by decide) (by decide) (by decide) (by decide) ?_
              refine j_aload_n C d_Sp_figure_73 0 rfl ?_
              refine j_gI C fl_Sp_91 g0.1 g0.2 rfl d_Sp_figure_74 ?_
              obtain rfl := Option.some.inj hf
              exact j_iret C d_Sp_figure_77
            · refine j_key hf (fun hx7 hf => ?_) (fun hx7 hf => ?_)
              · refine j_tin (tgt' := 78) (off := 77) (v := 6) C d_Sp_figure_1 hx7 (by decide) (by decide) (by decide) (by decide) ?_
                refine j_aload_n C d_Sp_figure_78 0 rfl ?_
                refine j_gI C fl_Sp_94 g0.1 g0.2 rfl d_Sp_figure_79 ?_
                obtain rfl := Option.some.inj hf
                exact j_iret C d_Sp_figure_82
              · refine j_tout (tgt' := 83) C d_Sp_figure_1 (by have qhx1 := sw_ne (z := 0) hx1 (by decide); have qhx2 := sw_ne (z := 1) hx2 (by decide); have qhx3 := sw_ne (z := 2) hx3 (by decide); have qhx4 := sw_ne (z := 3) hx4 (by decide); have qhx5 := sw_ne (z := 4) hx5 (by decide); have qhx6 := sw_ne (z := 5) hx6 (by decide); have qhx7 := sw_ne (z := 6) hx7 (by decide); omega) (by decide) ?_
                refine j_aload_n C d_Sp_figure_83 0 rfl ?_
                refine j_gI C fl_Sp_34 g0.1 g0.2 rfl d_Sp_figure_84 ?_
                obtain rfl := Option.some.inj hf
                exact j_iret C d_Sp_figure_87
theorem d_X_state_0 : DC b_X_state 0 (.aload_n 0) 1 1 := ⟨by decide +kernel, rfl⟩
theorem d_X_state_1 : DC b_X_state 1 (.getfield 33) 3 4 := ⟨by decide +kernel, rfl⟩
theorem d_X_state_4 : DC b_X_state 4 (.iload_n 1) 1 5 := ⟨by decide +kernel, rfl⟩
theorem d_X_state_5 : DC b_X_state 5 (.invokevirtual 200) 3 8 := ⟨by decide +kernel, rfl⟩
theorem d_X_state_8 : DC b_X_state 8 (.astore 4) 2 10 := ⟨by decide +kernel, rfl⟩
theorem d_X_state_10 : DC b_X_state 10 (.iload_n 2) 1 11 := ⟨by decide +kernel, rfl⟩
theorem d_X_state_11 : DC b_X_state 11 (.iconst 0) 1 12 := ⟨by decide +kernel, rfl⟩
theorem d_X_state_12 : DC b_X_state 12 (.sipush 400) 3 15 := ⟨by decide +kernel, rfl⟩
theorem d_X_state_15 : DC b_X_state 15 (.invokestatic 90) 3 18 := ⟨by decide +kernel, rfl⟩
theorem d_X_state_18 : DB b_X_state 18 (.ifCond .eq 17) 17 35 21 := ⟨by decide +kernel, by decide, rfl⟩
theorem d_X_state_21 : DC b_X_state 21 (.iload_n 3) 1 22 := ⟨by decide +kernel, rfl⟩
theorem d_X_state_22 : DC b_X_state 22 (.iconst 0) 1 23 := ⟨by decide +kernel, rfl⟩
theorem d_X_state_23 : DC b_X_state 23 (.bipush 7) 2 25 := ⟨by decide +kernel, rfl⟩
theorem d_X_state_25 : DC b_X_state 25 (.invokestatic 90) 3 28 := ⟨by decide +kernel, rfl⟩
theorem d_X_state_28 : DB b_X_state 28 (.ifCond .eq 7) 7 35 31 := ⟨by decide +kernel, by decide, rfl⟩
theorem d_X_state_31 : DC b_X_state 31 (.iconst 1) 1 32 := ⟨by decide +kernel, rfl⟩
theorem d_X_state_32 : DB b_X_state 32 (.goto 4) 4 36 35 := ⟨by decide +kernel, by decide, rfl⟩
theorem d_X_state_35 : DC b_X_state 35 (.iconst 0) 1 36 := ⟨by decide +kernel, rfl⟩
theorem d_X_state_36 : DC b_X_state 36 (.istore 5) 2 38 := ⟨by decide +kernel, rfl⟩
theorem d_X_state_38 : DC b_X_state 38 (.aload 4) 2 40 := ⟨by decide +kernel, rfl⟩
theorem d_X_state_40 : DB b_X_state 40 (.ifnull 19) 19 59 43 := ⟨by decide +kernel, by decide, rfl⟩
theorem d_X_state_43 : DC b_X_state 43 (.iload 5) 2 45 := ⟨by decide +kernel, rfl⟩
theorem d_X_state_45 : DB b_X_state 45 (.ifCond .eq 14) 14 59 48 := ⟨by decide +kernel, by decide, rfl⟩
theorem d_X_state_48 : DC b_X_state 48 (.aload_n 0) 1 49 := ⟨by decide +kernel, rfl⟩
theorem d_X_state_49 : DC b_X_state 49 (.getfield 33) 3 52 := ⟨by decide +kernel, rfl⟩
theorem d_X_state_52 : DC b_X_state 52 (.getfield 175) 3 55 := ⟨by decide +kernel, rfl⟩
theorem d_X_state_55 : DC b_X_state 55 (.iconst 2) 1 56 := ⟨by decide +kernel, rfl⟩
theorem d_X_state_56 : DB b_X_state 56 (.if_icmp .ge 6) 6 62 59 := ⟨by decide +kernel, by decide, rfl⟩
theorem d_X_state_59 : DC b_X_state 59 (.ldc 151) 2 61 := ⟨by decide +kernel, rfl⟩
theorem d_X_state_61 : decode b_X_state 61 = .ok (.ireturn, 1) := by decide +kernel
theorem d_X_state_62 : DC b_X_state 62 (.aload_n 0) 1 63 := ⟨by decide +kernel, rfl⟩
theorem d_X_state_63 : DC b_X_state 63 (.iload_n 2) 1 64 := ⟨by decide +kernel, rfl⟩
theorem d_X_state_64 : DC b_X_state 64 (.invokevirtual 187) 3 67 := ⟨by decide +kernel, rfl⟩
theorem d_X_state_67 : DC b_X_state 67 (.pop) 1 68 := ⟨by decide +kernel, rfl⟩
theorem d_X_state_68 : DC b_X_state 68 (.aload 4) 2 70 := ⟨by decide +kernel, rfl⟩
theorem d_X_state_70 : DC b_X_state 70 (.iload_n 3) 1 71 := ⟨by decide +kernel, rfl⟩
theorem d_X_state_71 : DC b_X_state 71 (.invokevirtual 204) 3 74 := ⟨by decide +kernel, rfl⟩
theorem d_X_state_74 : decode b_X_state 74 = .ok (.ireturn, 1) := by decide +kernel
theorem w_X_state_b36 {X : Ctx} {Y : Lay} (hY : IsX Y) (C : Cx X Y b_X_state 6 (some .int) "TopYard" 7) {N : Nat} {r : Int32 × Mem} (x2 : Int32) (x3 : Int32) (o4 : Option Nat) (xs0 : Int32) (μ : Mem) (g4 : ∀ b, o4 = some b → b < yn Y ∧ ykd Y b = 7) (hf : f_X_state_b36 N x2 x3 o4 xs0 μ = some r) : J X Y (some (.int r.1)) r.2 6 36 [(0, .ref (yad Y 0)), (2, .int x2), (3, .int x3), (4, va_rf (Option.map (yad Y) o4))] [.int xs0] μ := by
  unfold f_X_state_b36 at hf
  refine j_istore (lvf := [(0, .ref (yad Y 0)), (2, .int x2), (3, .int x3), (4, va_rf (Option.map (yad Y) o4))]) C d_X_state_36 (by decide) (by simp [rf_cat]) ?_
  refine j_aloado C d_X_state_38 4 rfl ?_
  cases o4 with
  | none =>
    refine j_nul_t C d_X_state_40 ?_
    refine j_ldc (v := (-2147483648)) C d_X_state_59 wd_15 ?_
    obtain rfl := Option.some.inj hf
    exact j_iret C d_X_state_61
  | some e1 =>
    refine j_nul_f C d_X_state_40 ?_
    refine j_iload C d_X_state_43 0 rfl ?_
    refine j_if_eq C d_X_state_45 hf (fun hf => ?_) (fun hf => ?_)
    · refine j_ldc (v := (-2147483648)) C d_X_state_59 wd_15 ?_
      obtain rfl := Option.some.inj hf
      exact j_iret C d_X_state_61
    · refine j_aload_n C d_X_state_48 1 rfl ?_
      refine j_gS (b := 5) C fl_X_33 (kX hY rfl) (nX hY (by decide)) rfl hY.2.2.2.1 rfl (sX hY rfl) d_X_state_49 ?_
      refine j_gI C fl_X_175 (kX hY rfl) (nX hY (by decide)) rfl d_X_state_52 ?_
      refine j_iconst (v := 2) C d_X_state_55 (by decide) ?_
      refine j_icmp_ge C d_X_state_56 hf (fun hf => ?_) (fun hf => ?_)
      · refine j_aload_n C d_X_state_62 1 rfl ?_
        refine j_iload_n C d_X_state_63 2 rfl ?_
        refine bd2 hf (fun v2 μ3 hc6 hf => ?_)
        refine j_cV (rest := []) C lk_X_187 (c_X_spinBout hY hc6) rfl (kX hY rfl) (nX hY (by decide)) (by decide) rfl rfl (by decide) rfl (Nat.le_of_ble_eq_true rfl) d_X_state_64 ?_
        refine j_pop C d_X_state_67 rfl ?_
        refine j_aload C d_X_state_68 4 rfl ?_
        refine j_iload_n C d_X_state_70 3 rfl ?_
        refine bd hf (fun v4 hc5 hf => ?_)
        refine j_cV (rest := []) C lk_X_204 (c_Sp_figure hY ⟨(g4 e1 rfl).2, (g4 e1 rfl).1⟩ hc5) rfl (g4 e1 rfl).2 (g4 e1 rfl).1 (by decide) rfl rfl (by decide) rfl (Nat.le_of_ble_eq_true rfl) d_X_state_71 ?_
        obtain rfl := Option.some.inj hf
        exact j_iret C d_X_state_74
      · refine j_ldc (v := (-2147483648)) C d_X_state_59 wd_15 ?_
        obtain rfl := Option.some.inj hf
        exact j_iret C d_X_state_61
theorem w_X_state_b35 {X : Ctx} {Y : Lay} (hY : IsX Y) (C : Cx X Y b_X_state 6 (some .int) "TopYard" 7) {N : Nat} {r : Int32 × Mem} (x2 : Int32) (x3 : Int32) (o4 : Option Nat) (μ : Mem) (g4 : ∀ b, o4 = some b → b < yn Y ∧ ykd Y b = 7) (hf : f_X_state_b35 N x2 x3 o4 μ = some r) : J X Y (some (.int r.1)) r.2 6 35 [(0, .ref (yad Y 0)), (2, .int x2), (3, .int x3), (4, va_rf (Option.map (yad Y) o4))] [] μ := by
  unfold f_X_state_b35 at hf
  refine j_iconst (v := 0) C d_X_state_35 (by decide) ?_
  refine j_sub [0, 1, 2, 3] rfl ?_
  exact w_X_state_b36 hY C x2 x3 o4 0 μ g4 hf
theorem c_X_state {l : Launch} {Y : Lay} (hY : IsX Y) {N : Nat} {μ : Mem} {x1 : Int32} {x2 : Int32} {x3 : Int32} {r : Int32 × Mem} (hf : f_X_state N μ x1 x2 x3 = some r) : Ct l Y y_X_state b_X_state 6 (some .int) 7 [.ref (yad Y 0), .int x1, .int x2, .int x3] (some (.int r.1)) μ r.2 := by
  refine ct_of (own := "TopYard") (lv := [(0, .ref (yad Y 0)), (1, .int x1), (2, .int x2), (3, .int x3)]) (by decide +kernel) rfl (Nat.le_of_ble_eq_true rfl) rfl (fun X hl C => ?_)
  subst hl
  unfold f_X_state at hf
  refine j_aload_n C d_X_state_0 0 rfl ?_
  refine j_gS (b := 5) C fl_X_33 (kX hY rfl) (nX hY (by decide)) rfl hY.2.2.2.1 rfl (sX hY rfl) d_X_state_1 ?_
  refine j_iload_n C d_X_state_4 1 rfl ?_
  refine bd hf (fun u1 hc6 hf => ?_)
  refine j_wt (fun hT hSt => ?_)
  have hu1 := rt_Bt_at hY hT hc6 ⟨(kX hY rfl), (nX hY (by decide))⟩
  refine j_cV (rest := []) C lk_X_200 (c_Bt_at hY ⟨(kX hY rfl), (nX hY (by decide))⟩ hc6) rfl (kX hY rfl) (nX hY (by decide)) (by decide) rfl rfl (by decide) rfl (Nat.le_of_ble_eq_true rfl) d_X_state_5 ?_
  refine j_astoreo (lvf := [(0, .ref (yad Y 0)), (1, .int x1), (2, .int x2), (3, .int x3)]) C d_X_state_8 (by decide) rfl ?_
  refine j_iload_n C d_X_state_10 3 rfl ?_
  refine j_iconst (v := 0) C d_X_state_11 (by decide) ?_
  refine j_sipush (v := 400) C d_X_state_12 (by decide) ?_
  refine bd hf (fun v2 hc5 hf => ?_)
  refine j_cS (rest := []) C lk_X_90 (c_X_within hY hc5) rfl (by decide) rfl (Nat.le_of_ble_eq_true rfl) d_X_state_15 ?_
  refine j_if_eq C d_X_state_18 hf (fun hf => ?_) (fun hf => ?_)
  · refine j_sub [1, 3, 4, 0] rfl ?_
    exact w_X_state_b35 hY C x2 x3 u1 μ hu1 hf
  · refine j_iload_n C d_X_state_21 4 rfl ?_
    refine j_iconst (v := 0) C d_X_state_22 (by decide) ?_
    refine j_bipush (v := 7) C d_X_state_23 (by decide) ?_
    refine bd hf (fun v3 hc4 hf => ?_)
    refine j_cS (rest := []) C lk_X_90 (c_X_within hY hc4) rfl (by decide) rfl (Nat.le_of_ble_eq_true rfl) d_X_state_25 ?_
    refine j_if_eq C d_X_state_28 hf (fun hf => ?_) (fun hf => ?_)
    · refine j_sub [1, 3, 4, 0] rfl ?_
      exact w_X_state_b35 hY C x2 x3 u1 μ hu1 hf
    · refine j_iconst (v := 1) C d_X_state_31 (by decide) ?_
      refine j_goto C d_X_state_32 ?_
      refine j_sub [1, 3, 4, 0] rfl ?_
      exact w_X_state_b36 hY C x2 x3 u1 1 μ hu1 hf
theorem d_Ch_begin_0 : DC b_Ch_begin 0 (.aload_n 0) 1 1 := ⟨by decide +kernel, rfl⟩
theorem d_Ch_begin_1 : DC b_Ch_begin 1 (.iconst 0) 1 2 := ⟨by decide +kernel, rfl⟩
theorem d_Ch_begin_2 : DC b_Ch_begin 2 (.putfield 11) 3 5 := ⟨by decide +kernel, rfl⟩
theorem d_Ch_begin_5 : DC b_Ch_begin 5 (.aload_n 0) 1 6 := ⟨by decide +kernel, rfl⟩
theorem d_Ch_begin_6 : DC b_Ch_begin 6 (.iconst 0) 1 7 := ⟨by decide +kernel, rfl⟩
theorem d_Ch_begin_7 : DC b_Ch_begin 7 (.putfield 15) 3 10 := ⟨by decide +kernel, rfl⟩
theorem d_Ch_begin_10 : DC b_Ch_begin 10 (.iconst 0) 1 11 := ⟨by decide +kernel, rfl⟩
theorem d_Ch_begin_11 : DC b_Ch_begin 11 (.istore_n 1) 1 12 := ⟨by decide +kernel, rfl⟩
theorem d_Ch_begin_12 : DC b_Ch_begin 12 (.iload_n 1) 1 13 := ⟨by decide +kernel, rfl⟩
theorem d_Ch_begin_13 : DC b_Ch_begin 13 (.iconst 4) 1 14 := ⟨by decide +kernel, rfl⟩
theorem d_Ch_begin_14 : DB b_Ch_begin 14 (.if_icmp .ge 19) 19 33 17 := ⟨by decide +kernel, by decide, rfl⟩
theorem d_Ch_begin_17 : DC b_Ch_begin 17 (.aload_n 0) 1 18 := ⟨by decide +kernel, rfl⟩
theorem d_Ch_begin_18 : DC b_Ch_begin 18 (.getfield 27) 3 21 := ⟨by decide +kernel, rfl⟩
theorem d_Ch_begin_21 : DC b_Ch_begin 21 (.iload_n 1) 1 22 := ⟨by decide +kernel, rfl⟩
theorem d_Ch_begin_22 : DC b_Ch_begin 22 (.aaload) 1 23 := ⟨by decide +kernel, rfl⟩
theorem d_Ch_begin_23 : DC b_Ch_begin 23 (.iconst 0) 1 24 := ⟨by decide +kernel, rfl⟩
theorem d_Ch_begin_24 : DC b_Ch_begin 24 (.invokestatic 47) 3 27 := ⟨by decide +kernel, rfl⟩
theorem d_Ch_begin_27 : DC b_Ch_begin 27 (.iinc 1 1) 3 30 := ⟨by decide +kernel, rfl⟩
theorem d_Ch_begin_30 : DB b_Ch_begin 30 (.goto (-18)) (-18) 12 33 := ⟨by decide +kernel, by decide, rfl⟩
theorem d_Ch_begin_33 : decode b_Ch_begin 33 = .ok (.return_, 1) := by decide +kernel
theorem w_Ch_begin_l12 {X : Ctx} {Y : Lay} (hY : IsX Y) (C : Cx X Y b_Ch_begin 2 none "TopYard$Choice" 2) {N : Nat} {r : Mem} : ∀ (n : Nat) (x1 : Int32) (μ : Mem), f_Ch_begin_l12 N n x1 μ = some r → J X Y none r 2 12 [(0, .ref (yad Y 23)), (1, .int x1)] [] μ := by
  intro n
  induction n with
  | zero => intro x1 μ hf; rw [f_Ch_begin_l12] at hf; cases hf
  | succ n ih =>
    intro x1 μ hf
    rw [f_Ch_begin_l12] at hf
    refine j_iload_n C d_Ch_begin_12 1 rfl ?_
    refine j_iconst (v := 4) C d_Ch_begin_13 (by decide) ?_
    refine j_icmp_ge C d_Ch_begin_14 hf (fun hf => ?_) (fun hf => ?_)
    · obtain rfl := Option.some.inj hf
      exact j_vret C d_Ch_begin_33
    · refine j_aload_n C d_Ch_begin_17 0 rfl ?_
      refine j_gS (b := 26) C fl_Ch_27 (kX hY rfl) (nX hY (by decide)) rfl hY.2.2.2.1 rfl (sX hY rfl) d_Ch_begin_18 ?_
      refine j_iload_n C d_Ch_begin_21 1 rfl ?_
      refine ck hf (fun hi1 hf => ?_)
      refine j_aldS C (kX hY rfl) (by decide) rfl rfl (nX hY (by decide)) (lX hY rfl) hi1 hY.2.2.2.1 rfl (sX hY rfl) d_Ch_begin_22 ?_
      refine j_iconst (v := 0) C d_Ch_begin_23 (by decide) ?_
      refine bd hf (fun μ2 hc4 hf => ?_)
      refine j_cS (rest := []) C lk_Ch_47 (c_JA_fill hY ⟨(teX_16 hY (kX hY rfl) (ibl hi1)).1, (teX_16 hY (kX hY rfl) (ibl hi1)).2.1⟩ hc4) rfl (by decide) rfl (Nat.le_of_ble_eq_true rfl) d_Ch_begin_24 ?_
      refine j_iinc (lvf := [(0, .ref (yad Y 23))]) (v := 1) C d_Ch_begin_27 1 rfl (by decide) (by decide) rfl hf (fun v3 hf => ?_)
      refine j_goto C d_Ch_begin_30 ?_
      refine j_sub [1, 0] rfl ?_
      exact ih v3 μ2 hf
theorem c_Ch_begin {l : Launch} {Y : Lay} (hY : IsX Y) {N : Nat} {μ : Mem} {r : Mem} (hf : f_Ch_begin N μ = some r) : Ct l Y y_Ch_begin b_Ch_begin 2 none 2 [.ref (yad Y 23)] none μ r := by
  refine ct_of (own := "TopYard$Choice") (lv := [(0, .ref (yad Y 23))]) (by decide +kernel) rfl (Nat.le_of_ble_eq_true rfl) rfl (fun X hl C => ?_)
  subst hl
  unfold f_Ch_begin at hf
  refine j_aload_n C d_Ch_begin_0 0 rfl ?_
  refine j_iconst (v := 0) C d_Ch_begin_1 (by decide) ?_
  refine j_pI C fl_Ch_11 (kX hY rfl) (nX hY (by decide)) rfl rfl rfl d_Ch_begin_2 hf (fun μ1 hf => ?_)
  refine j_aload_n C d_Ch_begin_5 0 rfl ?_
  refine j_iconst (v := 0) C d_Ch_begin_6 (by decide) ?_
  refine j_pI C fl_Ch_15 (kX hY rfl) (nX hY (by decide)) rfl rfl rfl d_Ch_begin_7 hf (fun μ2 hf => ?_)
  refine j_iconst (v := 0) C d_Ch_begin_10 (by decide) ?_
  refine j_istore_n (lvf := [(0, .ref (yad Y 23))]) C d_Ch_begin_11 (by decide) rfl ?_
  refine j_sub [1, 0] rfl ?_
  exact w_Ch_begin_l12 hY C N 0 μ2 hf
theorem d_X_choose_0 : DC b_X_choose 0 (.aload_n 0) 1 1 := ⟨by decide +kernel, rfl⟩
theorem d_X_choose_1 : DC b_X_choose 1 (.getfield 43) 3 4 := ⟨by decide +kernel, rfl⟩
theorem d_X_choose_4 : DC b_X_choose 4 (.getfield 207) 3 7 := ⟨by decide +kernel, rfl⟩
theorem d_X_choose_7 : DC b_X_choose 7 (.aload_n 0) 1 8 := ⟨by decide +kernel, rfl⟩
theorem d_X_choose_8 : DC b_X_choose 8 (.getfield 43) 3 11 := ⟨by decide +kernel, rfl⟩
theorem d_X_choose_11 : DC b_X_choose 11 (.getfield 210) 3 14 := ⟨by decide +kernel, rfl⟩
theorem d_X_choose_14 : DC b_X_choose 14 (.iadd) 1 15 := ⟨by decide +kernel, rfl⟩
theorem d_X_choose_15 : DC b_X_choose 15 (.istore_n 1) 1 16 := ⟨by decide +kernel, rfl⟩
theorem d_X_choose_16 : DC b_X_choose 16 (.aload_n 0) 1 17 := ⟨by decide +kernel, rfl⟩
theorem d_X_choose_17 : DC b_X_choose 17 (.getfield 43) 3 20 := ⟨by decide +kernel, rfl⟩
theorem d_X_choose_20 : DC b_X_choose 20 (.invokevirtual 213) 3 23 := ⟨by decide +kernel, rfl⟩
theorem d_X_choose_23 : DC b_X_choose 23 (.iload_n 1) 1 24 := ⟨by decide +kernel, rfl⟩
theorem d_X_choose_24 : decode b_X_choose 24 = .ok (.ireturn, 1) := by decide +kernel
theorem c_X_choose {l : Launch} {Y : Lay} (hY : IsX Y) {N : Nat} {μ : Mem} {r : Int32 × Mem} (hf : f_X_choose N μ = some r) : Ct l Y y_X_choose b_X_choose 2 (some .int) 3 [.ref (yad Y 0)] (some (.int r.1)) μ r.2 := by
  refine ct_of (own := "TopYard") (lv := [(0, .ref (yad Y 0))]) (by decide +kernel) rfl (Nat.le_of_ble_eq_true rfl) rfl (fun X hl C => ?_)
  subst hl
  unfold f_X_choose at hf
  refine j_aload_n C d_X_choose_0 0 rfl ?_
  refine j_gS (b := 23) C fl_X_43 (kX hY rfl) (nX hY (by decide)) rfl hY.2.2.2.1 rfl (sX hY rfl) d_X_choose_1 ?_
  refine j_gI C fl_X_207 (kX hY rfl) (nX hY (by decide)) rfl d_X_choose_4 ?_
  refine j_aload_n C d_X_choose_7 0 rfl ?_
  refine j_gS (b := 23) C fl_X_43 (kX hY rfl) (nX hY (by decide)) rfl hY.2.2.2.1 rfl (sX hY rfl) d_X_choose_8 ?_
  refine j_gI C fl_X_210 (kX hY rfl) (nX hY (by decide)) rfl d_X_choose_11 ?_
  refine j_iadd C d_X_choose_14 ?_
  refine j_istore_nN (lvf := [(0, .ref (yad Y 0))]) C d_X_choose_15 (by decide) rfl hf (fun v1 hf => ?_)
  refine j_aload_n C d_X_choose_16 1 rfl ?_
  refine j_gS (b := 23) C fl_X_43 (kX hY rfl) (nX hY (by decide)) rfl hY.2.2.2.1 rfl (sX hY rfl) d_X_choose_17 ?_
  refine bd hf (fun μ2 hc3 hf => ?_)
  refine j_cV (rest := []) C lk_X_213 (c_Ch_begin hY hc3) rfl (kX hY rfl) (nX hY (by decide)) (by decide) rfl rfl (by decide) rfl (Nat.le_of_ble_eq_true rfl) d_X_choose_20 ?_
  refine j_iload_n C d_X_choose_23 0 rfl ?_
  obtain rfl := Option.some.inj hf
  exact j_iret C d_X_choose_24
theorem d_Ch_addRow_0 : DC b_Ch_addRow 0 (.aload_n 0) 1 1 := ⟨by decide +kernel, rfl⟩
theorem d_Ch_addRow_1 : DC b_Ch_addRow 1 (.getfield 11) 3 4 := ⟨by decide +kernel, rfl⟩
theorem d_Ch_addRow_4 : DC b_Ch_addRow 4 (.iconst 4) 1 5 := ⟨by decide +kernel, rfl⟩
theorem d_Ch_addRow_5 : DB b_Ch_addRow 5 (.if_icmp .lt 6) 6 11 8 := ⟨by decide +kernel, by decide, rfl⟩
theorem d_Ch_addRow_8 : DC b_Ch_addRow 8 (.bipush (-4)) 2 10 := ⟨by decide +kernel, rfl⟩
theorem d_Ch_addRow_10 : decode b_Ch_addRow 10 = .ok (.ireturn, 1) := by decide +kernel
theorem d_Ch_addRow_11 : DC b_Ch_addRow 11 (.aload_n 0) 1 12 := ⟨by decide +kernel, rfl⟩
theorem d_Ch_addRow_12 : DC b_Ch_addRow 12 (.getfield 18) 3 15 := ⟨by decide +kernel, rfl⟩
theorem d_Ch_addRow_15 : DC b_Ch_addRow 15 (.aload_n 0) 1 16 := ⟨by decide +kernel, rfl⟩
theorem d_Ch_addRow_16 : DC b_Ch_addRow 16 (.getfield 11) 3 19 := ⟨by decide +kernel, rfl⟩
theorem d_Ch_addRow_19 : DC b_Ch_addRow 19 (.iload_n 1) 1 20 := ⟨by decide +kernel, rfl⟩
theorem d_Ch_addRow_20 : DC b_Ch_addRow 20 (.iastore) 1 21 := ⟨by decide +kernel, rfl⟩
theorem d_Ch_addRow_21 : DC b_Ch_addRow 21 (.aload_n 0) 1 22 := ⟨by decide +kernel, rfl⟩
theorem d_Ch_addRow_22 : DC b_Ch_addRow 22 (.dup) 1 23 := ⟨by decide +kernel, rfl⟩
theorem d_Ch_addRow_23 : DC b_Ch_addRow 23 (.getfield 11) 3 26 := ⟨by decide +kernel, rfl⟩
theorem d_Ch_addRow_26 : DC b_Ch_addRow 26 (.iconst 1) 1 27 := ⟨by decide +kernel, rfl⟩
theorem d_Ch_addRow_27 : DC b_Ch_addRow 27 (.iadd) 1 28 := ⟨by decide +kernel, rfl⟩
theorem d_Ch_addRow_28 : DC b_Ch_addRow 28 (.putfield 11) 3 31 := ⟨by decide +kernel, rfl⟩
theorem d_Ch_addRow_31 : DC b_Ch_addRow 31 (.aload_n 0) 1 32 := ⟨by decide +kernel, rfl⟩
theorem d_Ch_addRow_32 : DC b_Ch_addRow 32 (.getfield 11) 3 35 := ⟨by decide +kernel, rfl⟩
theorem d_Ch_addRow_35 : decode b_Ch_addRow 35 = .ok (.ireturn, 1) := by decide +kernel
theorem c_Ch_addRow {l : Launch} {Y : Lay} (hY : IsX Y) {μ : Mem} {x1 : Int32} {r : Int32 × Mem} (hf : f_Ch_addRow μ x1 = some r) : Ct l Y y_Ch_addRow b_Ch_addRow 2 (some .int) 1 [.ref (yad Y 23), .int x1] (some (.int r.1)) μ r.2 := by
  refine ct_of (own := "TopYard$Choice") (lv := [(0, .ref (yad Y 23)), (1, .int x1)]) (by decide +kernel) rfl (Nat.le_of_ble_eq_true rfl) rfl (fun X hl C => ?_)
  subst hl
  unfold f_Ch_addRow at hf
  refine j_aload_n C d_Ch_addRow_0 0 rfl ?_
  refine j_gI C fl_Ch_11 (kX hY rfl) (nX hY (by decide)) rfl d_Ch_addRow_1 ?_
  refine j_iconst (v := 4) C d_Ch_addRow_4 (by decide) ?_
  refine j_icmp_lt C d_Ch_addRow_5 hf (fun hf => ?_) (fun hf => ?_)
  · refine j_aload_n C d_Ch_addRow_11 0 rfl ?_
    refine j_gS (b := 24) C fl_Ch_18 (kX hY rfl) (nX hY (by decide)) rfl hY.2.2.2.1 rfl (sX hY rfl) d_Ch_addRow_12 ?_
    refine j_aload_n C d_Ch_addRow_15 0 rfl ?_
    refine j_gI C fl_Ch_11 (kX hY rfl) (nX hY (by decide)) rfl d_Ch_addRow_16 ?_
    refine j_iload_n C d_Ch_addRow_19 1 rfl ?_
    refine ck hf (fun hi1 hf => ?_)
    refine j_iast C (kX hY rfl) (nX hY (by decide)) (lX hY rfl) hi1 d_Ch_addRow_20 hf (fun μ2 hf => ?_)
    refine j_aload_n C d_Ch_addRow_21 0 rfl ?_
    refine j_dup C d_Ch_addRow_22 rfl ?_
    refine j_gI C fl_Ch_11 (kX hY rfl) (nX hY (by decide)) rfl d_Ch_addRow_23 ?_
    refine j_iconst (v := 1) C d_Ch_addRow_26 (by decide) ?_
    refine j_iadd C d_Ch_addRow_27 ?_
    refine j_pI C fl_Ch_11 (kX hY rfl) (nX hY (by decide)) rfl rfl rfl d_Ch_addRow_28 hf (fun μ3 hf => ?_)
    refine j_aload_n C d_Ch_addRow_31 0 rfl ?_
    refine j_gI C fl_Ch_11 (kX hY rfl) (nX hY (by decide)) rfl d_Ch_addRow_32 ?_
    obtain rfl := Option.some.inj hf
    exact j_iret C d_Ch_addRow_35
  · refine j_bipush (v := (-4)) C d_Ch_addRow_8 (by decide) ?_
    obtain rfl := Option.some.inj hf
    exact j_iret C d_Ch_addRow_10
theorem d_Ch_addColumn_0 : DC b_Ch_addColumn 0 (.aload_n 0) 1 1 := ⟨by decide +kernel, rfl⟩
theorem d_Ch_addColumn_1 : DC b_Ch_addColumn 1 (.getfield 15) 3 4 := ⟨by decide +kernel, rfl⟩
theorem d_Ch_addColumn_4 : DC b_Ch_addColumn 4 (.iconst 4) 1 5 := ⟨by decide +kernel, rfl⟩
theorem d_Ch_addColumn_5 : DB b_Ch_addColumn 5 (.if_icmp .lt 6) 6 11 8 := ⟨by decide +kernel, by decide, rfl⟩
theorem d_Ch_addColumn_8 : DC b_Ch_addColumn 8 (.bipush (-4)) 2 10 := ⟨by decide +kernel, rfl⟩
theorem d_Ch_addColumn_10 : decode b_Ch_addColumn 10 = .ok (.ireturn, 1) := by decide +kernel
theorem d_Ch_addColumn_11 : DC b_Ch_addColumn 11 (.aload_n 0) 1 12 := ⟨by decide +kernel, rfl⟩
theorem d_Ch_addColumn_12 : DC b_Ch_addColumn 12 (.getfield 22) 3 15 := ⟨by decide +kernel, rfl⟩
theorem d_Ch_addColumn_15 : DC b_Ch_addColumn 15 (.aload_n 0) 1 16 := ⟨by decide +kernel, rfl⟩
theorem d_Ch_addColumn_16 : DC b_Ch_addColumn 16 (.getfield 15) 3 19 := ⟨by decide +kernel, rfl⟩
theorem d_Ch_addColumn_19 : DC b_Ch_addColumn 19 (.iload_n 1) 1 20 := ⟨by decide +kernel, rfl⟩
theorem d_Ch_addColumn_20 : DC b_Ch_addColumn 20 (.iastore) 1 21 := ⟨by decide +kernel, rfl⟩
theorem d_Ch_addColumn_21 : DC b_Ch_addColumn 21 (.aload_n 0) 1 22 := ⟨by decide +kernel, rfl⟩
theorem d_Ch_addColumn_22 : DC b_Ch_addColumn 22 (.dup) 1 23 := ⟨by decide +kernel, rfl⟩
theorem d_Ch_addColumn_23 : DC b_Ch_addColumn 23 (.getfield 15) 3 26 := ⟨by decide +kernel, rfl⟩
theorem d_Ch_addColumn_26 : DC b_Ch_addColumn 26 (.iconst 1) 1 27 := ⟨by decide +kernel, rfl⟩
theorem d_Ch_addColumn_27 : DC b_Ch_addColumn 27 (.iadd) 1 28 := ⟨by decide +kernel, rfl⟩
theorem d_Ch_addColumn_28 : DC b_Ch_addColumn 28 (.putfield 15) 3 31 := ⟨by decide +kernel, rfl⟩
theorem d_Ch_addColumn_31 : DC b_Ch_addColumn 31 (.aload_n 0) 1 32 := ⟨by decide +kernel, rfl⟩
theorem d_Ch_addColumn_32 : DC b_Ch_addColumn 32 (.getfield 15) 3 35 := ⟨by decide +kernel, rfl⟩
theorem d_Ch_addColumn_35 : decode b_Ch_addColumn 35 = .ok (.ireturn, 1) := by decide +kernel
theorem c_Ch_addColumn {l : Launch} {Y : Lay} (hY : IsX Y) {μ : Mem} {x1 : Int32} {r : Int32 × Mem} (hf : f_Ch_addColumn μ x1 = some r) : Ct l Y y_Ch_addColumn b_Ch_addColumn 2 (some .int) 1 [.ref (yad Y 23), .int x1] (some (.int r.1)) μ r.2 := by
  refine ct_of (own := "TopYard$Choice") (lv := [(0, .ref (yad Y 23)), (1, .int x1)]) (by decide +kernel) rfl (Nat.le_of_ble_eq_true rfl) rfl (fun X hl C => ?_)
  subst hl
  unfold f_Ch_addColumn at hf
  refine j_aload_n C d_Ch_addColumn_0 0 rfl ?_
  refine j_gI C fl_Ch_15 (kX hY rfl) (nX hY (by decide)) rfl d_Ch_addColumn_1 ?_
  refine j_iconst (v := 4) C d_Ch_addColumn_4 (by decide) ?_
  refine j_icmp_lt C d_Ch_addColumn_5 hf (fun hf => ?_) (fun hf => ?_)
  · refine j_aload_n C d_Ch_addColumn_11 0 rfl ?_
    refine j_gS (b := 25) C fl_Ch_22 (kX hY rfl) (nX hY (by decide)) rfl hY.2.2.2.1 rfl (sX hY rfl) d_Ch_addColumn_12 ?_
    refine j_aload_n C d_Ch_addColumn_15 0 rfl ?_
    refine j_gI C fl_Ch_15 (kX hY rfl) (nX hY (by decide)) rfl d_Ch_addColumn_16 ?_
    refine j_iload_n C d_Ch_addColumn_19 1 rfl ?_
    refine ck hf (fun hi1 hf => ?_)
    refine j_iast C (kX hY rfl) (nX hY (by decide)) (lX hY rfl) hi1 d_Ch_addColumn_20 hf (fun μ2 hf => ?_)
    refine j_aload_n C d_Ch_addColumn_21 0 rfl ?_
    refine j_dup C d_Ch_addColumn_22 rfl ?_
    refine j_gI C fl_Ch_15 (kX hY rfl) (nX hY (by decide)) rfl d_Ch_addColumn_23 ?_
    refine j_iconst (v := 1) C d_Ch_addColumn_26 (by decide) ?_
    refine j_iadd C d_Ch_addColumn_27 ?_
    refine j_pI C fl_Ch_15 (kX hY rfl) (nX hY (by decide)) rfl rfl rfl d_Ch_addColumn_28 hf (fun μ3 hf => ?_)
    refine j_aload_n C d_Ch_addColumn_31 0 rfl ?_
    refine j_gI C fl_Ch_15 (kX hY rfl) (nX hY (by decide)) rfl d_Ch_addColumn_32 ?_
    obtain rfl := Option.some.inj hf
    exact j_iret C d_Ch_addColumn_35
  · refine j_bipush (v := (-4)) C d_Ch_addColumn_8 (by decide) ?_
    obtain rfl := Option.some.inj hf
    exact j_iret C d_Ch_addColumn_10
theorem d_X_among_0 : DC b_X_among 0 (.iload_n 1) 1 1 := ⟨by decide +kernel, rfl⟩
theorem d_X_among_1 : DC b_X_among 1 (.iconst 0) 1 2 := ⟨by decide +kernel, rfl⟩
theorem d_X_among_2 : DC b_X_among 2 (.iconst 1) 1 3 := ⟨by decide +kernel, rfl⟩
theorem d_X_among_3 : DC b_X_among 3 (.invokestatic 90) 3 6 := ⟨by decide +kernel, rfl⟩
theorem d_X_among_6 : DB b_X_among 6 (.ifCond .eq 11) 11 17 9 := ⟨by decide +kernel, by decide, rfl⟩
theorem d_X_among_9 : DC b_X_among 9 (.aload_n 0) 1 10 := ⟨by decide +kernel, rfl⟩
theorem d_X_among_10 : DC b_X_among 10 (.iload_n 2) 1 11 := ⟨by decide +kernel, rfl⟩
theorem d_X_among_11 : DC b_X_among 11 (.invokevirtual 110) 3 14 := ⟨by decide +kernel, rfl⟩
theorem d_X_among_14 : DB b_X_among 14 (.ifnonnull 6) 6 20 17 := ⟨by decide +kernel, by decide, rfl⟩
theorem d_X_among_17 : DC b_X_among 17 (.bipush (-2)) 2 19 := ⟨by decide +kernel, rfl⟩
theorem d_X_among_19 : decode b_X_among 19 = .ok (.ireturn, 1) := by decide +kernel
theorem d_X_among_20 : DC b_X_among 20 (.iload_n 1) 1 21 := ⟨by decide +kernel, rfl⟩
theorem d_X_among_21 : DB b_X_among 21 (.ifCond .ne 14) 14 35 24 := ⟨by decide +kernel, by decide, rfl⟩
theorem d_X_among_24 : DC b_X_among 24 (.aload_n 0) 1 25 := ⟨by decide +kernel, rfl⟩
theorem d_X_among_25 : DC b_X_among 25 (.getfield 43) 3 28 := ⟨by decide +kernel, rfl⟩
theorem d_X_among_28 : DC b_X_among 28 (.iload_n 2) 1 29 := ⟨by decide +kernel, rfl⟩
theorem d_X_among_29 : DC b_X_among 29 (.invokevirtual 216) 3 32 := ⟨by decide +kernel, rfl⟩
theorem d_X_among_32 : DB b_X_among 32 (.goto 11) 11 43 35 := ⟨by decide +kernel, by decide, rfl⟩
theorem d_X_among_35 : DC b_X_among 35 (.aload_n 0) 1 36 := ⟨by decide +kernel, rfl⟩
theorem d_X_among_36 : DC b_X_among 36 (.getfield 43) 3 39 := ⟨by decide +kernel, rfl⟩
theorem d_X_among_39 : DC b_X_among 39 (.iload_n 2) 1 40 := ⟨by decide +kernel, rfl⟩
theorem d_X_among_40 : DC b_X_among 40 (.invokevirtual 219) 3 43 := ⟨by decide +kernel, rfl⟩
theorem d_X_among_43 : decode b_X_among 43 = .ok (.ireturn, 1) := by decide +kernel
theorem c_X_among {l : Launch} {Y : Lay} (hY : IsX Y) {μ : Mem} {x1 : Int32} {x2 : Int32} {r : Int32 × Mem} (hf : f_X_among μ x1 x2 = some r) : Ct l Y y_X_among b_X_among 3 (some .int) 2 [.ref (yad Y 0), .int x1, .int x2] (some (.int r.1)) μ r.2 := by
  refine ct_of (own := "TopYard") (lv := [(0, .ref (yad Y 0)), (1, .int x1), (2, .int x2)]) (by decide +kernel) rfl (Nat.le_of_ble_eq_true rfl) rfl (fun X hl C => ?_)
  subst hl
  unfold f_X_among at hf
  refine j_iload_n C d_X_among_0 1 rfl ?_
  refine j_iconst (v := 0) C d_X_among_1 (by decide) ?_
  refine j_iconst (v := 1) C d_X_among_2 (by decide) ?_
  refine bd hf (fun v1 hc11 hf => ?_)
  refine j_cS (rest := []) C lk_X_90 (c_X_within hY hc11) rfl (by decide) rfl (Nat.le_of_ble_eq_true rfl) d_X_among_3 ?_
  refine j_if_eq C d_X_among_6 hf (fun hf => ?_) (fun hf => ?_)
  · refine j_bipush (v := (-2)) C d_X_among_17 (by decide) ?_
    obtain rfl := Option.some.inj hf
    exact j_iret C d_X_among_19
  · refine j_aload_n C d_X_among_9 0 rfl ?_
    refine j_iload_n C d_X_among_10 2 rfl ?_
    refine bd hf (fun u2 hc10 hf => ?_)
    refine j_wt (fun hT hSt => ?_)
    have hu2 := rt_X_topAt hY hT hc10
    refine j_cV (rest := []) C lk_X_110 (c_X_topAt hY hc10) rfl (kX hY rfl) (nX hY (by decide)) (by decide) rfl rfl (by decide) rfl (Nat.le_of_ble_eq_true rfl) d_X_among_11 ?_
    cases u2 with
    | none =>
      refine j_nnul_f C d_X_among_14 ?_
      refine j_bipush (v := (-2)) C d_X_among_17 (by decide) ?_
      obtain rfl := Option.some.inj hf
      exact j_iret C d_X_among_19
    | some e3 =>
      refine j_nnul_t C d_X_among_14 ?_
      refine j_iload_n C d_X_among_20 1 rfl ?_
      refine j_if_ne C d_X_among_21 hf (fun hf => ?_) (fun hf => ?_)
      · refine j_aload_n C d_X_among_35 0 rfl ?_
        refine j_gS (b := 23) C fl_X_43 (kX hY rfl) (nX hY (by decide)) rfl hY.2.2.2.1 rfl (sX hY rfl) d_X_among_36 ?_
        refine j_iload_n C d_X_among_39 2 rfl ?_
        refine bd2 hf (fun v4 μ5 hc6 hf => ?_)
        refine j_cV (rest := []) C lk_X_219 (c_Ch_addColumn hY hc6) rfl (kX hY rfl) (nX hY (by decide)) (by decide) rfl rfl (by decide) rfl (Nat.le_of_ble_eq_true rfl) d_X_among_40 ?_
        obtain rfl := Option.some.inj hf
        exact j_iret C d_X_among_43
      · refine j_aload_n C d_X_among_24 0 rfl ?_
        refine j_gS (b := 23) C fl_X_43 (kX hY rfl) (nX hY (by decide)) rfl hY.2.2.2.1 rfl (sX hY rfl) d_X_among_25 ?_
        refine j_iload_n C d_X_among_28 2 rfl ?_
        refine bd2 hf (fun v7 μ8 hc9 hf => ?_)
        refine j_cV (rest := []) C lk_X_216 (c_Ch_addRow hY hc9) rfl (kX hY rfl) (nX hY (by decide)) (by decide) rfl rfl (by decide) rfl (Nat.le_of_ble_eq_true rfl) d_X_among_29 ?_
        refine j_goto C d_X_among_32 ?_
        obtain rfl := Option.some.inj hf
        exact j_iret C d_X_among_43
theorem d_Ch_has_0 : DC b_Ch_has 0 (.iload_n 1) 1 1 := ⟨by decide +kernel, rfl⟩
theorem d_Ch_has_1 : DB b_Ch_has 1 (.ifCond .lt 27) 27 28 4 := ⟨by decide +kernel, by decide, rfl⟩
theorem d_Ch_has_4 : DC b_Ch_has 4 (.iload_n 1) 1 5 := ⟨by decide +kernel, rfl⟩
theorem d_Ch_has_5 : DC b_Ch_has 5 (.aload_n 0) 1 6 := ⟨by decide +kernel, rfl⟩
theorem d_Ch_has_6 : DC b_Ch_has 6 (.getfield 11) 3 9 := ⟨by decide +kernel, rfl⟩
theorem d_Ch_has_9 : DB b_Ch_has 9 (.if_icmp .ge 19) 19 28 12 := ⟨by decide +kernel, by decide, rfl⟩
theorem d_Ch_has_12 : DC b_Ch_has 12 (.iload_n 2) 1 13 := ⟨by decide +kernel, rfl⟩
theorem d_Ch_has_13 : DB b_Ch_has 13 (.ifCond .lt 15) 15 28 16 := ⟨by decide +kernel, by decide, rfl⟩
theorem d_Ch_has_16 : DC b_Ch_has 16 (.iload_n 2) 1 17 := ⟨by decide +kernel, rfl⟩
theorem d_Ch_has_17 : DC b_Ch_has 17 (.aload_n 0) 1 18 := ⟨by decide +kernel, rfl⟩
theorem d_Ch_has_18 : DC b_Ch_has 18 (.getfield 15) 3 21 := ⟨by decide +kernel, rfl⟩
theorem d_Ch_has_21 : DB b_Ch_has 21 (.if_icmp .ge 7) 7 28 24 := ⟨by decide +kernel, by decide, rfl⟩
theorem d_Ch_has_24 : DC b_Ch_has 24 (.iconst 1) 1 25 := ⟨by decide +kernel, rfl⟩
theorem d_Ch_has_25 : DB b_Ch_has 25 (.goto 4) 4 29 28 := ⟨by decide +kernel, by decide, rfl⟩
theorem d_Ch_has_28 : DC b_Ch_has 28 (.iconst 0) 1 29 := ⟨by decide +kernel, rfl⟩
theorem d_Ch_has_29 : decode b_Ch_has 29 = .ok (.ireturn, 1) := by decide +kernel
theorem c_Ch_has {l : Launch} {Y : Lay} (hY : IsX Y) {μ : Mem} {x1 : Int32} {x2 : Int32} {r : Int32} (hf : f_Ch_has μ x1 x2 = some r) : Ct l Y y_Ch_has b_Ch_has 3 (some .boolean) 1 [.ref (yad Y 23), .int x1, .int x2] (some (.int r)) μ μ := by
  refine ct_of (own := "TopYard$Choice") (lv := [(0, .ref (yad Y 23)), (1, .int x1), (2, .int x2)]) (by decide +kernel) rfl (Nat.le_of_ble_eq_true rfl) rfl (fun X hl C => ?_)
  subst hl
  unfold f_Ch_has at hf
  refine j_iload_n C d_Ch_has_0 1 rfl ?_
  refine j_if_lt C d_Ch_has_1 hf (fun hf => ?_) (fun hf => ?_)
  · refine j_iconst (v := 0) C d_Ch_has_28 (by decide) ?_
    obtain rfl := Option.some.inj hf
    exact j_zret C (Or.inl rfl) d_Ch_has_29
  · refine j_iload_n C d_Ch_has_4 1 rfl ?_
    refine j_aload_n C d_Ch_has_5 0 rfl ?_
    refine j_gI C fl_Ch_11 (kX hY rfl) (nX hY (by decide)) rfl d_Ch_has_6 ?_
    refine j_icmp_ge C d_Ch_has_9 hf (fun hf => ?_) (fun hf => ?_)
    · refine j_iconst (v := 0) C d_Ch_has_28 (by decide) ?_
      obtain rfl := Option.some.inj hf
      exact j_zret C (Or.inl rfl) d_Ch_has_29
    · refine j_iload_n C d_Ch_has_12 2 rfl ?_
      refine j_if_lt C d_Ch_has_13 hf (fun hf => ?_) (fun hf => ?_)
      · refine j_iconst (v := 0) C d_Ch_has_28 (by decide) ?_
        obtain rfl := Option.some.inj hf
        exact j_zret C (Or.inl rfl) d_Ch_has_29
      · refine j_iload_n C d_Ch_has_16 2 rfl ?_
        refine j_aload_n C d_Ch_has_17 0 rfl ?_
        refine j_gI C fl_Ch_15 (kX hY rfl) (nX hY (by decide)) rfl d_Ch_has_18 ?_
        refine j_icmp_ge C d_Ch_has_21 hf (fun hf => ?_) (fun hf => ?_)
        · refine j_iconst (v := 0) C d_Ch_has_28 (by decide) ?_
          obtain rfl := Option.some.inj hf
          exact j_zret C (Or.inl rfl) d_Ch_has_29
        · refine j_iconst (v := 1) C d_Ch_has_24 (by decide) ?_
          refine j_goto C d_Ch_has_25 ?_
          obtain rfl := Option.some.inj hf
          exact j_zret C (Or.inr rfl) d_Ch_has_29
theorem d_X_pay_0 : DC b_X_pay 0 (.aload_n 0) 1 1 := ⟨by decide +kernel, rfl⟩
theorem d_X_pay_1 : DC b_X_pay 1 (.getfield 43) 3 4 := ⟨by decide +kernel, rfl⟩
theorem d_X_pay_4 : DC b_X_pay 4 (.iload_n 1) 1 5 := ⟨by decide +kernel, rfl⟩
theorem d_X_pay_5 : DC b_X_pay 5 (.iload_n 2) 1 6 := ⟨by decide +kernel, rfl⟩
theorem d_X_pay_6 : DC b_X_pay 6 (.invokevirtual 222) 3 9 := ⟨by decide +kernel, rfl⟩
theorem d_X_pay_9 : DB b_X_pay 9 (.ifCond .eq 14) 14 23 12 := ⟨by decide +kernel, by decide, rfl⟩
theorem d_X_pay_12 : DC b_X_pay 12 (.iload_n 3) 1 13 := ⟨by decide +kernel, rfl⟩
theorem d_X_pay_13 : DC b_X_pay 13 (.bipush (-9)) 2 15 := ⟨by decide +kernel, rfl⟩
theorem d_X_pay_15 : DC b_X_pay 15 (.bipush 9) 2 17 := ⟨by decide +kernel, rfl⟩
theorem d_X_pay_17 : DC b_X_pay 17 (.invokestatic 90) 3 20 := ⟨by decide +kernel, rfl⟩
theorem d_X_pay_20 : DB b_X_pay 20 (.ifCond .ne 6) 6 26 23 := ⟨by decide +kernel, by decide, rfl⟩
theorem d_X_pay_23 : DC b_X_pay 23 (.bipush (-100)) 2 25 := ⟨by decide +kernel, rfl⟩
theorem d_X_pay_25 : decode b_X_pay 25 = .ok (.ireturn, 1) := by decide +kernel
theorem d_X_pay_26 : DC b_X_pay 26 (.aload_n 0) 1 27 := ⟨by decide +kernel, rfl⟩
theorem d_X_pay_27 : DC b_X_pay 27 (.getfield 43) 3 30 := ⟨by decide +kernel, rfl⟩
theorem d_X_pay_30 : DC b_X_pay 30 (.getfield 225) 3 33 := ⟨by decide +kernel, rfl⟩
theorem d_X_pay_33 : DC b_X_pay 33 (.iload_n 1) 1 34 := ⟨by decide +kernel, rfl⟩
theorem d_X_pay_34 : DC b_X_pay 34 (.aaload) 1 35 := ⟨by decide +kernel, rfl⟩
theorem d_X_pay_35 : DC b_X_pay 35 (.iload_n 2) 1 36 := ⟨by decide +kernel, rfl⟩
theorem d_X_pay_36 : DC b_X_pay 36 (.iaload) 1 37 := ⟨by decide +kernel, rfl⟩
theorem d_X_pay_37 : DC b_X_pay 37 (.istore 4) 2 39 := ⟨by decide +kernel, rfl⟩
theorem d_X_pay_39 : DC b_X_pay 39 (.aload_n 0) 1 40 := ⟨by decide +kernel, rfl⟩
theorem d_X_pay_40 : DC b_X_pay 40 (.getfield 43) 3 43 := ⟨by decide +kernel, rfl⟩
theorem d_X_pay_43 : DC b_X_pay 43 (.getfield 225) 3 46 := ⟨by decide +kernel, rfl⟩
theorem d_X_pay_46 : DC b_X_pay 46 (.iload_n 1) 1 47 := ⟨by decide +kernel, rfl⟩
theorem d_X_pay_47 : DC b_X_pay 47 (.aaload) 1 48 := ⟨by decide +kernel, rfl⟩
theorem d_X_pay_48 : DC b_X_pay 48 (.iload_n 2) 1 49 := ⟨by decide +kernel, rfl⟩
theorem d_X_pay_49 : DC b_X_pay 49 (.iload_n 3) 1 50 := ⟨by decide +kernel, rfl⟩
theorem d_X_pay_50 : DC b_X_pay 50 (.iastore) 1 51 := ⟨by decide +kernel, rfl⟩
theorem d_X_pay_51 : DC b_X_pay 51 (.iload 4) 2 53 := ⟨by decide +kernel, rfl⟩
theorem d_X_pay_53 : decode b_X_pay 53 = .ok (.ireturn, 1) := by decide +kernel
theorem c_X_pay {l : Launch} {Y : Lay} (hY : IsX Y) {μ : Mem} {x1 : Int32} {x2 : Int32} {x3 : Int32} {r : Int32 × Mem} (hf : f_X_pay μ x1 x2 x3 = some r) : Ct l Y y_X_pay b_X_pay 5 (some .int) 2 [.ref (yad Y 0), .int x1, .int x2, .int x3] (some (.int r.1)) μ r.2 := by
  refine ct_of (own := "TopYard") (lv := [(0, .ref (yad Y 0)), (1, .int x1), (2, .int x2), (3, .int x3)]) (by decide +kernel) rfl (Nat.le_of_ble_eq_true rfl) rfl (fun X hl C => ?_)
  subst hl
  unfold f_X_pay at hf
  refine j_aload_n C d_X_pay_0 0 rfl ?_
  refine j_gS (b := 23) C fl_X_43 (kX hY rfl) (nX hY (by decide)) rfl hY.2.2.2.1 rfl (sX hY rfl) d_X_pay_1 ?_
  refine j_iload_n C d_X_pay_4 1 rfl ?_
  refine j_iload_n C d_X_pay_5 2 rfl ?_
  refine bd hf (fun v1 hc10 hf => ?_)
  refine j_cV (rest := []) C lk_X_222 (c_Ch_has hY hc10) rfl (kX hY rfl) (nX hY (by decide)) (by decide) rfl rfl (by decide) rfl (Nat.le_of_ble_eq_true rfl) d_X_pay_6 ?_
  refine j_if_eq C d_X_pay_9 hf (fun hf => ?_) (fun hf => ?_)
  · refine j_bipush (v := (-100)) C d_X_pay_23 (by decide) ?_
    obtain rfl := Option.some.inj hf
    exact j_iret C d_X_pay_25
  · refine j_iload_n C d_X_pay_12 3 rfl ?_
    refine j_bipush (v := (-9)) C d_X_pay_13 (by decide) ?_
    refine j_bipush (v := 9) C d_X_pay_15 (by decide) ?_
    refine bd hf (fun v2 hc9 hf => ?_)
    refine j_cS (rest := []) C lk_X_90 (c_X_within hY hc9) rfl (by decide) rfl (Nat.le_of_ble_eq_true rfl) d_X_pay_17 ?_
    refine j_if_ne C d_X_pay_20 hf (fun hf => ?_) (fun hf => ?_)
    · refine j_aload_n C d_X_pay_26 0 rfl ?_
      refine j_gS (b := 23) C fl_X_43 (kX hY rfl) (nX hY (by decide)) rfl hY.2.2.2.1 rfl (sX hY rfl) d_X_pay_27 ?_
      refine j_gS (b := 26) C fl_X_225 (kX hY rfl) (nX hY (by decide)) rfl hY.2.2.2.1 rfl (sX hY rfl) d_X_pay_30 ?_
      refine j_iload_n C d_X_pay_33 1 rfl ?_
      refine ck hf (fun hi3 hf => ?_)
      refine j_aldS C (kX hY rfl) (by decide) rfl rfl (nX hY (by decide)) (lX hY rfl) hi3 hY.2.2.2.1 rfl (sX hY rfl) d_X_pay_34 ?_
      refine j_iload_n C d_X_pay_35 2 rfl ?_
      refine ck hf (fun hi4 hf => ?_)
      refine j_iald C (teX_16 hY (kX hY rfl) (ibl hi3)).1 (teX_16 hY (kX hY rfl) (ibl hi3)).2.1 (teX_16 hY (kX hY rfl) (ibl hi3)).2.2 hi4 d_X_pay_36 ?_
      refine j_istoreN (lvf := [(0, .ref (yad Y 0)), (1, .int x1), (2, .int x2), (3, .int x3)]) C d_X_pay_37 (by decide) rfl hf (fun v5 hf => ?_)
      refine j_aload_n C d_X_pay_39 1 rfl ?_
      refine j_gS (b := 23) C fl_X_43 (kX hY rfl) (nX hY (by decide)) rfl hY.2.2.2.1 rfl (sX hY rfl) d_X_pay_40 ?_
      refine j_gS (b := 26) C fl_X_225 (kX hY rfl) (nX hY (by decide)) rfl hY.2.2.2.1 rfl (sX hY rfl) d_X_pay_43 ?_
      refine j_iload_n C d_X_pay_46 2 rfl ?_
      refine ck hf (fun hi6 hf => ?_)
      refine j_aldS C (kX hY rfl) (by decide) rfl rfl (nX hY (by decide)) (lX hY rfl) hi6 hY.2.2.2.1 rfl (sX hY rfl) d_X_pay_47 ?_
      refine j_iload_n C d_X_pay_48 3 rfl ?_
      refine j_iload_n C d_X_pay_49 4 rfl ?_
      refine ck hf (fun hi7 hf => ?_)
      refine j_iast C (teX_16 hY (kX hY rfl) (ibl hi6)).1 (teX_16 hY (kX hY rfl) (ibl hi6)).2.1 (teX_16 hY (kX hY rfl) (ibl hi6)).2.2 hi7 d_X_pay_50 hf (fun μ8 hf => ?_)
      refine j_iload C d_X_pay_51 0 rfl ?_
      obtain rfl := Option.some.inj hf
      exact j_iret C d_X_pay_53
    · refine j_bipush (v := (-100)) C d_X_pay_23 (by decide) ?_
      obtain rfl := Option.some.inj hf
      exact j_iret C d_X_pay_25
theorem d_X_pays_0 : DC b_X_pays 0 (.aload_n 0) 1 1 := ⟨by decide +kernel, rfl⟩
theorem d_X_pays_1 : DC b_X_pays 1 (.getfield 43) 3 4 := ⟨by decide +kernel, rfl⟩
theorem d_X_pays_4 : DC b_X_pays 4 (.iload_n 1) 1 5 := ⟨by decide +kernel, rfl⟩
theorem d_X_pays_5 : DC b_X_pays 5 (.iload_n 2) 1 6 := ⟨by decide +kernel, rfl⟩
theorem d_X_pays_6 : DC b_X_pays 6 (.invokevirtual 222) 3 9 := ⟨by decide +kernel, rfl⟩
theorem d_X_pays_9 : DB b_X_pays 9 (.ifCond .eq 17) 17 26 12 := ⟨by decide +kernel, by decide, rfl⟩
theorem d_X_pays_12 : DC b_X_pays 12 (.aload_n 0) 1 13 := ⟨by decide +kernel, rfl⟩
theorem d_X_pays_13 : DC b_X_pays 13 (.getfield 43) 3 16 := ⟨by decide +kernel, rfl⟩
theorem d_X_pays_16 : DC b_X_pays 16 (.getfield 225) 3 19 := ⟨by decide +kernel, rfl⟩
theorem d_X_pays_19 : DC b_X_pays 19 (.iload_n 1) 1 20 := ⟨by decide +kernel, rfl⟩
theorem d_X_pays_20 : DC b_X_pays 20 (.aaload) 1 21 := ⟨by decide +kernel, rfl⟩
theorem d_X_pays_21 : DC b_X_pays 21 (.iload_n 2) 1 22 := ⟨by decide +kernel, rfl⟩
theorem d_X_pays_22 : DC b_X_pays 22 (.iaload) 1 23 := ⟨by decide +kernel, rfl⟩
theorem d_X_pays_23 : DB b_X_pays 23 (.goto 5) 5 28 26 := ⟨by decide +kernel, by decide, rfl⟩
theorem d_X_pays_26 : DC b_X_pays 26 (.bipush (-100)) 2 28 := ⟨by decide +kernel, rfl⟩
theorem d_X_pays_28 : decode b_X_pays 28 = .ok (.ireturn, 1) := by decide +kernel
theorem c_X_pays {l : Launch} {Y : Lay} (hY : IsX Y) {μ : Mem} {x1 : Int32} {x2 : Int32} {r : Int32} (hf : f_X_pays μ x1 x2 = some r) : Ct l Y y_X_pays b_X_pays 3 (some .int) 2 [.ref (yad Y 0), .int x1, .int x2] (some (.int r)) μ μ := by
  refine ct_of (own := "TopYard") (lv := [(0, .ref (yad Y 0)), (1, .int x1), (2, .int x2)]) (by decide +kernel) rfl (Nat.le_of_ble_eq_true rfl) rfl (fun X hl C => ?_)
  subst hl
  unfold f_X_pays at hf
  refine j_aload_n C d_X_pays_0 0 rfl ?_
  refine j_gS (b := 23) C fl_X_43 (kX hY rfl) (nX hY (by decide)) rfl hY.2.2.2.1 rfl (sX hY rfl) d_X_pays_1 ?_
  refine j_iload_n C d_X_pays_4 1 rfl ?_
  refine j_iload_n C d_X_pays_5 2 rfl ?_
  refine bd hf (fun v1 hc4 hf => ?_)
  refine j_cV (rest := []) C lk_X_222 (c_Ch_has hY hc4) rfl (kX hY rfl) (nX hY (by decide)) (by decide) rfl rfl (by decide) rfl (Nat.le_of_ble_eq_true rfl) d_X_pays_6 ?_
  refine j_if_eq C d_X_pays_9 hf (fun hf => ?_) (fun hf => ?_)
  · refine j_bipush (v := (-100)) C d_X_pays_26 (by decide) ?_
    obtain rfl := Option.some.inj hf
    exact j_iret C d_X_pays_28
  · refine j_aload_n C d_X_pays_12 0 rfl ?_
    refine j_gS (b := 23) C fl_X_43 (kX hY rfl) (nX hY (by decide)) rfl hY.2.2.2.1 rfl (sX hY rfl) d_X_pays_13 ?_
    refine j_gS (b := 26) C fl_X_225 (kX hY rfl) (nX hY (by decide)) rfl hY.2.2.2.1 rfl (sX hY rfl) d_X_pays_16 ?_
    refine j_iload_n C d_X_pays_19 1 rfl ?_
    refine ck hf (fun hi2 hf => ?_)
    refine j_aldS C (kX hY rfl) (by decide) rfl rfl (nX hY (by decide)) (lX hY rfl) hi2 hY.2.2.2.1 rfl (sX hY rfl) d_X_pays_20 ?_
    refine j_iload_n C d_X_pays_21 2 rfl ?_
    refine ck hf (fun hi3 hf => ?_)
    refine j_iald C (teX_16 hY (kX hY rfl) (ibl hi2)).1 (teX_16 hY (kX hY rfl) (ibl hi2)).2.1 (teX_16 hY (kX hY rfl) (ibl hi2)).2.2 hi3 d_X_pays_22 ?_
    refine j_goto C d_X_pays_23 ?_
    obtain rfl := Option.some.inj hf
    exact j_iret C d_X_pays_28
theorem d_Ch_isOpen_0 : DC b_Ch_isOpen 0 (.aload_n 0) 1 1 := ⟨by decide +kernel, rfl⟩
theorem d_Ch_isOpen_1 : DC b_Ch_isOpen 1 (.getfield 11) 3 4 := ⟨by decide +kernel, rfl⟩
theorem d_Ch_isOpen_4 : DB b_Ch_isOpen 4 (.ifCond .eq 10) 10 14 7 := ⟨by decide +kernel, by decide, rfl⟩
theorem d_Ch_isOpen_7 : DC b_Ch_isOpen 7 (.aload_n 0) 1 8 := ⟨by decide +kernel, rfl⟩
theorem d_Ch_isOpen_8 : DC b_Ch_isOpen 8 (.getfield 15) 3 11 := ⟨by decide +kernel, rfl⟩
theorem d_Ch_isOpen_11 : DB b_Ch_isOpen 11 (.ifCond .ne 7) 7 18 14 := ⟨by decide +kernel, by decide, rfl⟩
theorem d_Ch_isOpen_14 : DC b_Ch_isOpen 14 (.iconst 1) 1 15 := ⟨by decide +kernel, rfl⟩
theorem d_Ch_isOpen_15 : DB b_Ch_isOpen 15 (.goto 4) 4 19 18 := ⟨by decide +kernel, by decide, rfl⟩
theorem d_Ch_isOpen_18 : DC b_Ch_isOpen 18 (.iconst 0) 1 19 := ⟨by decide +kernel, rfl⟩
theorem d_Ch_isOpen_19 : decode b_Ch_isOpen 19 = .ok (.ireturn, 1) := by decide +kernel
theorem w_Ch_isOpen_b14 {X : Ctx} {Y : Lay} (hY : IsX Y) (C : Cx X Y b_Ch_isOpen 1 (some .boolean) "TopYard$Choice" 1) {μ : Mem} {r : Int32} (hf : f_Ch_isOpen_b14 μ = some r) : J X Y (some (.int r)) μ 1 14 [] [] μ := by
  unfold f_Ch_isOpen_b14 at hf
  refine j_iconst (v := 1) C d_Ch_isOpen_14 (by decide) ?_
  refine j_goto C d_Ch_isOpen_15 ?_
  obtain rfl := Option.some.inj hf
  exact j_zret C (Or.inr rfl) d_Ch_isOpen_19
theorem c_Ch_isOpen {l : Launch} {Y : Lay} (hY : IsX Y) {μ : Mem} {r : Int32} (hf : f_Ch_isOpen μ = some r) : Ct l Y y_Ch_isOpen b_Ch_isOpen 1 (some .boolean) 1 [.ref (yad Y 23)] (some (.int r)) μ μ := by
  refine ct_of (own := "TopYard$Choice") (lv := [(0, .ref (yad Y 23))]) (by decide +kernel) rfl (Nat.le_of_ble_eq_true rfl) rfl (fun X hl C => ?_)
  subst hl
  unfold f_Ch_isOpen at hf
  refine j_aload_n C d_Ch_isOpen_0 0 rfl ?_
  refine j_gI C fl_Ch_11 (kX hY rfl) (nX hY (by decide)) rfl d_Ch_isOpen_1 ?_
  refine j_if_eq C d_Ch_isOpen_4 hf (fun hf => ?_) (fun hf => ?_)
  · refine j_sub [] rfl ?_
    exact w_Ch_isOpen_b14 hY C hf
  · refine j_aload_n C d_Ch_isOpen_7 0 rfl ?_
    refine j_gI C fl_Ch_15 (kX hY rfl) (nX hY (by decide)) rfl d_Ch_isOpen_8 ?_
    refine j_if_ne C d_Ch_isOpen_11 hf (fun hf => ?_) (fun hf => ?_)
    · refine j_iconst (v := 0) C d_Ch_isOpen_18 (by decide) ?_
      obtain rfl := Option.some.inj hf
      exact j_zret C (Or.inl rfl) d_Ch_isOpen_19
    · refine j_sub [] rfl ?_
      exact w_Ch_isOpen_b14 hY C hf
theorem d_Sp_fellInRing_0 : DC b_Sp_fellInRing 0 (.aload_n 0) 1 1 := ⟨by decide +kernel, rfl⟩
theorem d_Sp_fellInRing_1 : DC b_Sp_fellInRing 1 (.getfield 34) 3 4 := ⟨by decide +kernel, rfl⟩
theorem d_Sp_fellInRing_4 : DC b_Sp_fellInRing 4 (.iconst 3) 1 5 := ⟨by decide +kernel, rfl⟩
theorem d_Sp_fellInRing_5 : DB b_Sp_fellInRing 5 (.if_icmp .ne 7) 7 12 8 := ⟨by decide +kernel, by decide, rfl⟩
theorem d_Sp_fellInRing_8 : DC b_Sp_fellInRing 8 (.iconst 1) 1 9 := ⟨by decide +kernel, rfl⟩
theorem d_Sp_fellInRing_9 : DB b_Sp_fellInRing 9 (.goto 4) 4 13 12 := ⟨by decide +kernel, by decide, rfl⟩
theorem d_Sp_fellInRing_12 : DC b_Sp_fellInRing 12 (.iconst 0) 1 13 := ⟨by decide +kernel, rfl⟩
theorem d_Sp_fellInRing_13 : decode b_Sp_fellInRing 13 = .ok (.ireturn, 1) := by decide +kernel
theorem c_Sp_fellInRing {l : Launch} {Y : Lay} (hY : IsX Y) {μ : Mem} {a0 : Nat} (g0 : ykd Y a0 = 7 ∧ a0 < yn Y) {r : Int32} (hf : f_Sp_fellInRing μ a0 = some r) : Ct l Y y_Sp_fellInRing b_Sp_fellInRing 1 (some .boolean) 1 [.ref (yad Y a0)] (some (.int r)) μ μ := by
  refine ct_of (own := "TopYard$Spinner") (lv := [(0, .ref (yad Y a0))]) (by decide +kernel) rfl (Nat.le_of_ble_eq_true rfl) rfl (fun X hl C => ?_)
  subst hl
  unfold f_Sp_fellInRing at hf
  refine j_aload_n C d_Sp_fellInRing_0 0 rfl ?_
  refine j_gI C fl_Sp_34 g0.1 g0.2 rfl d_Sp_fellInRing_1 ?_
  refine j_iconst (v := 3) C d_Sp_fellInRing_4 (by decide) ?_
  refine j_icmp_ne C d_Sp_fellInRing_5 hf (fun hf => ?_) (fun hf => ?_)
  · refine j_iconst (v := 0) C d_Sp_fellInRing_12 (by decide) ?_
    obtain rfl := Option.some.inj hf
    exact j_zret C (Or.inl rfl) d_Sp_fellInRing_13
  · refine j_iconst (v := 1) C d_Sp_fellInRing_8 (by decide) ?_
    refine j_goto C d_Sp_fellInRing_9 ?_
    obtain rfl := Option.some.inj hf
    exact j_zret C (Or.inr rfl) d_Sp_fellInRing_13
theorem d_X_duel_0 : DC b_X_duel 0 (.aload_n 0) 1 1 := ⟨by decide +kernel, rfl⟩
theorem d_X_duel_1 : DC b_X_duel 1 (.iload_n 1) 1 2 := ⟨by decide +kernel, rfl⟩
theorem d_X_duel_2 : DC b_X_duel 2 (.invokevirtual 110) 3 5 := ⟨by decide +kernel, rfl⟩
theorem d_X_duel_5 : DC b_X_duel 5 (.astore 5) 2 7 := ⟨by decide +kernel, rfl⟩
theorem d_X_duel_7 : DC b_X_duel 7 (.aload_n 0) 1 8 := ⟨by decide +kernel, rfl⟩
theorem d_X_duel_8 : DC b_X_duel 8 (.iload_n 2) 1 9 := ⟨by decide +kernel, rfl⟩
theorem d_X_duel_9 : DC b_X_duel 9 (.invokevirtual 110) 3 12 := ⟨by decide +kernel, rfl⟩
theorem d_X_duel_12 : DC b_X_duel 12 (.astore 6) 2 14 := ⟨by decide +kernel, rfl⟩
theorem d_X_duel_14 : DC b_X_duel 14 (.aload 5) 2 16 := ⟨by decide +kernel, rfl⟩
theorem d_X_duel_16 : DB b_X_duel 16 (.ifnull 13) 13 29 19 := ⟨by decide +kernel, by decide, rfl⟩
theorem d_X_duel_19 : DC b_X_duel 19 (.aload 6) 2 21 := ⟨by decide +kernel, rfl⟩
theorem d_X_duel_21 : DB b_X_duel 21 (.ifnull 8) 8 29 24 := ⟨by decide +kernel, by decide, rfl⟩
theorem d_X_duel_24 : DC b_X_duel 24 (.iload_n 1) 1 25 := ⟨by decide +kernel, rfl⟩
theorem d_X_duel_25 : DC b_X_duel 25 (.iload_n 2) 1 26 := ⟨by decide +kernel, rfl⟩
theorem d_X_duel_26 : DB b_X_duel 26 (.if_icmp .ne 5) 5 31 29 := ⟨by decide +kernel, by decide, rfl⟩
theorem d_X_duel_29 : DC b_X_duel 29 (.iconst 0) 1 30 := ⟨by decide +kernel, rfl⟩
theorem d_X_duel_30 : decode b_X_duel 30 = .ok (.ireturn, 1) := by decide +kernel
theorem d_X_duel_31 : DC b_X_duel 31 (.aload_n 0) 1 32 := ⟨by decide +kernel, rfl⟩
theorem d_X_duel_32 : DC b_X_duel 32 (.getfield 37) 3 35 := ⟨by decide +kernel, rfl⟩
theorem d_X_duel_35 : DC b_X_duel 35 (.invokevirtual 178) 3 38 := ⟨by decide +kernel, rfl⟩
theorem d_X_duel_38 : DC b_X_duel 38 (.aload_n 0) 1 39 := ⟨by decide +kernel, rfl⟩
theorem d_X_duel_39 : DC b_X_duel 39 (.getfield 37) 3 42 := ⟨by decide +kernel, rfl⟩
theorem d_X_duel_42 : DC b_X_duel 42 (.aload 5) 2 44 := ⟨by decide +kernel, rfl⟩
theorem d_X_duel_44 : DC b_X_duel 44 (.iload_n 1) 1 45 := ⟨by decide +kernel, rfl⟩
theorem d_X_duel_45 : DC b_X_duel 45 (.invokevirtual 165) 3 48 := ⟨by decide +kernel, rfl⟩
theorem d_X_duel_48 : DC b_X_duel 48 (.astore 7) 2 50 := ⟨by decide +kernel, rfl⟩
theorem d_X_duel_50 : DC b_X_duel 50 (.aload_n 0) 1 51 := ⟨by decide +kernel, rfl⟩
theorem d_X_duel_51 : DC b_X_duel 51 (.getfield 37) 3 54 := ⟨by decide +kernel, rfl⟩
theorem d_X_duel_54 : DC b_X_duel 54 (.aload 6) 2 56 := ⟨by decide +kernel, rfl⟩
theorem d_X_duel_56 : DC b_X_duel 56 (.iload_n 2) 1 57 := ⟨by decide +kernel, rfl⟩
theorem d_X_duel_57 : DC b_X_duel 57 (.invokevirtual 165) 3 60 := ⟨by decide +kernel, rfl⟩
theorem d_X_duel_60 : DC b_X_duel 60 (.astore 8) 2 62 := ⟨by decide +kernel, rfl⟩
theorem d_X_duel_62 : DC b_X_duel 62 (.aload 7) 2 64 := ⟨by decide +kernel, rfl⟩
theorem d_X_duel_64 : DB b_X_duel 64 (.ifnull 8) 8 72 67 := ⟨by decide +kernel, by decide, rfl⟩
theorem d_X_duel_67 : DC b_X_duel 67 (.aload 8) 2 69 := ⟨by decide +kernel, rfl⟩
theorem d_X_duel_69 : DB b_X_duel 69 (.ifnonnull 5) 5 74 72 := ⟨by decide +kernel, by decide, rfl⟩
theorem d_X_duel_72 : DC b_X_duel 72 (.iconst 0) 1 73 := ⟨by decide +kernel, rfl⟩
theorem d_X_duel_73 : decode b_X_duel 73 = .ok (.ireturn, 1) := by decide +kernel
theorem d_X_duel_74 : DC b_X_duel 74 (.aload 7) 2 76 := ⟨by decide +kernel, rfl⟩
theorem d_X_duel_76 : DC b_X_duel 76 (.aload_n 0) 1 77 := ⟨by decide +kernel, rfl⟩
theorem d_X_duel_77 : DC b_X_duel 77 (.getfield 22) 3 80 := ⟨by decide +kernel, rfl⟩
theorem d_X_duel_80 : DC b_X_duel 80 (.getfield 132) 3 83 := ⟨by decide +kernel, rfl⟩
theorem d_X_duel_83 : DC b_X_duel 83 (.iconst 2) 1 84 := ⟨by decide +kernel, rfl⟩
theorem d_X_duel_84 : DC b_X_duel 84 (.idiv) 1 85 := ⟨by decide +kernel, rfl⟩
theorem d_X_duel_85 : DC b_X_duel 85 (.ineg) 1 86 := ⟨by decide +kernel, rfl⟩
theorem d_X_duel_86 : DC b_X_duel 86 (.iconst 0) 1 87 := ⟨by decide +kernel, rfl⟩
theorem d_X_duel_87 : DC b_X_duel 87 (.bipush 9) 2 89 := ⟨by decide +kernel, rfl⟩
theorem d_X_duel_89 : DC b_X_duel 89 (.iload_n 3) 1 90 := ⟨by decide +kernel, rfl⟩
theorem d_X_duel_90 : DC b_X_duel 90 (.invokevirtual 169) 3 93 := ⟨by decide +kernel, rfl⟩
theorem d_X_duel_93 : DC b_X_duel 93 (.aload 8) 2 95 := ⟨by decide +kernel, rfl⟩
theorem d_X_duel_95 : DC b_X_duel 95 (.aload_n 0) 1 96 := ⟨by decide +kernel, rfl⟩
theorem d_X_duel_96 : DC b_X_duel 96 (.getfield 22) 3 99 := ⟨by decide +kernel, rfl⟩
theorem d_X_duel_99 : DC b_X_duel 99 (.getfield 132) 3 102 := ⟨by decide +kernel, rfl⟩
theorem d_X_duel_102 : DC b_X_duel 102 (.iconst 2) 1 103 := ⟨by decide +kernel, rfl⟩
theorem d_X_duel_103 : DC b_X_duel 103 (.idiv) 1 104 := ⟨by decide +kernel, rfl⟩
theorem d_X_duel_104 : DC b_X_duel 104 (.iconst 0) 1 105 := ⟨by decide +kernel, rfl⟩
theorem d_X_duel_105 : DC b_X_duel 105 (.bipush 27) 2 107 := ⟨by decide +kernel, rfl⟩
theorem d_X_duel_107 : DC b_X_duel 107 (.iload_n 3) 1 108 := ⟨by decide +kernel, rfl⟩
theorem d_X_duel_108 : DC b_X_duel 108 (.invokevirtual 169) 3 111 := ⟨by decide +kernel, rfl⟩
theorem d_X_duel_111 : DC b_X_duel 111 (.aload_n 0) 1 112 := ⟨by decide +kernel, rfl⟩
theorem d_X_duel_112 : DC b_X_duel 112 (.getfield 37) 3 115 := ⟨by decide +kernel, rfl⟩
theorem d_X_duel_115 : DC b_X_duel 115 (.aload_n 0) 1 116 := ⟨by decide +kernel, rfl⟩
theorem d_X_duel_116 : DC b_X_duel 116 (.getfield 22) 3 119 := ⟨by decide +kernel, rfl⟩
theorem d_X_duel_119 : DC b_X_duel 119 (.aload_n 0) 1 120 := ⟨by decide +kernel, rfl⟩
theorem d_X_duel_120 : DC b_X_duel 120 (.getfield 26) 3 123 := ⟨by decide +kernel, rfl⟩
theorem d_X_duel_123 : DC b_X_duel 123 (.iload 4) 2 125 := ⟨by decide +kernel, rfl⟩
theorem d_X_duel_125 : DC b_X_duel 125 (.sipush 400) 3 128 := ⟨by decide +kernel, rfl⟩
theorem d_X_duel_128 : DC b_X_duel 128 (.invokevirtual 393) 3 131 := ⟨by decide +kernel, rfl⟩
theorem d_X_duel_131 : DC b_X_duel 131 (.pop) 1 132 := ⟨by decide +kernel, rfl⟩
theorem d_X_duel_132 : DC b_X_duel 132 (.aload_n 0) 1 133 := ⟨by decide +kernel, rfl⟩
theorem d_X_duel_133 : DC b_X_duel 133 (.getfield 37) 3 136 := ⟨by decide +kernel, rfl⟩
theorem d_X_duel_136 : DC b_X_duel 136 (.invokevirtual 190) 3 139 := ⟨by decide +kernel, rfl⟩
theorem d_X_duel_139 : DC b_X_duel 139 (.istore 9) 2 141 := ⟨by decide +kernel, rfl⟩
theorem d_X_duel_141 : DC b_X_duel 141 (.iload 9) 2 143 := ⟨by decide +kernel, rfl⟩
theorem d_X_duel_143 : DC b_X_duel 143 (.iconst (-1)) 1 144 := ⟨by decide +kernel, rfl⟩
theorem d_X_duel_144 : DB b_X_duel 144 (.if_icmp .eq 14) 14 158 147 := ⟨by decide +kernel, by decide, rfl⟩
theorem d_X_duel_147 : DC b_X_duel 147 (.iload 9) 2 149 := ⟨by decide +kernel, rfl⟩
theorem d_X_duel_149 : DB b_X_duel 149 (.ifCond .ne 7) 7 156 152 := ⟨by decide +kernel, by decide, rfl⟩
theorem d_X_duel_152 : DC b_X_duel 152 (.iconst 1) 1 153 := ⟨by decide +kernel, rfl⟩
theorem d_X_duel_153 : DB b_X_duel 153 (.goto 4) 4 157 156 := ⟨by decide +kernel, by decide, rfl⟩
theorem d_X_duel_156 : DC b_X_duel 156 (.iconst (-1)) 1 157 := ⟨by decide +kernel, rfl⟩
theorem d_X_duel_157 : decode b_X_duel 157 = .ok (.ireturn, 1) := by decide +kernel
theorem d_X_duel_158 : DC b_X_duel 158 (.aload 7) 2 160 := ⟨by decide +kernel, rfl⟩
theorem d_X_duel_160 : DC b_X_duel 160 (.invokevirtual 397) 3 163 := ⟨by decide +kernel, rfl⟩
theorem d_X_duel_163 : DB b_X_duel 163 (.ifCond .eq 7) 7 170 166 := ⟨by decide +kernel, by decide, rfl⟩
theorem d_X_duel_166 : DC b_X_duel 166 (.iconst 1) 1 167 := ⟨by decide +kernel, rfl⟩
theorem d_X_duel_167 : DB b_X_duel 167 (.goto 4) 4 171 170 := ⟨by decide +kernel, by decide, rfl⟩
theorem d_X_duel_170 : DC b_X_duel 170 (.iconst 0) 1 171 := ⟨by decide +kernel, rfl⟩
theorem d_X_duel_171 : DC b_X_duel 171 (.aload 8) 2 173 := ⟨by decide +kernel, rfl⟩
theorem d_X_duel_173 : DC b_X_duel 173 (.invokevirtual 397) 3 176 := ⟨by decide +kernel, rfl⟩
theorem d_X_duel_176 : DB b_X_duel 176 (.ifCond .eq 7) 7 183 179 := ⟨by decide +kernel, by decide, rfl⟩
theorem d_X_duel_179 : DC b_X_duel 179 (.iconst 1) 1 180 := ⟨by decide +kernel, rfl⟩
theorem d_X_duel_180 : DB b_X_duel 180 (.goto 4) 4 184 183 := ⟨by decide +kernel, by decide, rfl⟩
theorem d_X_duel_183 : DC b_X_duel 183 (.iconst 0) 1 184 := ⟨by decide +kernel, rfl⟩
theorem d_X_duel_184 : DC b_X_duel 184 (.isub) 1 185 := ⟨by decide +kernel, rfl⟩
theorem d_X_duel_185 : decode b_X_duel 185 = .ok (.ireturn, 1) := by decide +kernel
theorem w_X_duel_b171 {X : Ctx} {Y : Lay} (hY : IsX Y) (C : Cx X Y b_X_duel 10 (some .int) "TopYard" 6) {N : Nat} {r : Int32 × Mem} (a8 : Nat) (xs0 : Int32) (μ : Mem) (g8 : ykd Y a8 = 7 ∧ a8 < yn Y) (hf : f_X_duel_b171 N a8 xs0 μ = some r) : J X Y (some (.int r.1)) r.2 10 171 [(8, .ref (yad Y a8))] [.int xs0] μ := by
  unfold f_X_duel_b171 at hf
  refine j_aload C d_X_duel_171 0 rfl ?_
  refine bd hf (fun v1 hc2 hf => ?_)
  refine j_cV (rest := [.int xs0]) C lk_X_397 (c_Sp_fellInRing hY ⟨g8.1, g8.2⟩ hc2) rfl g8.1 g8.2 (by decide) rfl rfl (by decide) rfl (Nat.le_of_ble_eq_true rfl) d_X_duel_173 ?_
  refine j_if_eq C d_X_duel_176 hf (fun hf => ?_) (fun hf => ?_)
  · refine j_iconst (v := 0) C d_X_duel_183 (by decide) ?_
    refine j_isub C d_X_duel_184 ?_
    obtain rfl := Option.some.inj hf
    exact j_iret C d_X_duel_185
  · refine j_iconst (v := 1) C d_X_duel_179 (by decide) ?_
    refine j_goto C d_X_duel_180 ?_
    refine j_isub C d_X_duel_184 ?_
    obtain rfl := Option.some.inj hf
    exact j_iret C d_X_duel_185
theorem c_X_duel {l : Launch} {Y : Lay} (hY : IsX Y) {N : Nat} {μ : Mem} {x1 : Int32} {x2 : Int32} {x3 : Int32} {x4 : Int32} {r : Int32 × Mem} (hf : f_X_duel N μ x1 x2 x3 x4 = some r) : Ct l Y y_X_duel b_X_duel 10 (some .int) 6 [.ref (yad Y 0), .int x1, .int x2, .int x3, .int x4] (some (.int r.1)) μ r.2 := by
  refine ct_of (own := "TopYard") (lv := [(0, .ref (yad Y 0)), (1, .int x1), (2, .int x2), (3, .int x3), (4, .int x4)]) (by decide +kernel) rfl (Nat.le_of_ble_eq_true rfl) rfl (fun X hl C => ?_)
  subst hl
  unfold f_X_duel at hf
  refine j_aload_n C d_X_duel_0 0 rfl ?_
  refine j_iload_n C d_X_duel_1 1 rfl ?_
  refine bd hf (fun u1 hc27 hf => ?_)
  refine j_wt (fun hT hSt => ?_)
  have hu1 := rt_X_topAt hY hT hc27
  refine j_cV (rest := []) C lk_X_110 (c_X_topAt hY hc27) rfl (kX hY rfl) (nX hY (by decide)) (by decide) rfl rfl (by decide) rfl (Nat.le_of_ble_eq_true rfl) d_X_duel_2 ?_
  refine j_astoreo (lvf := [(0, .ref (yad Y 0)), (1, .int x1), (2, .int x2), (3, .int x3), (4, .int x4)]) C d_X_duel_5 (by decide) rfl ?_
  refine j_aload_n C d_X_duel_7 1 rfl ?_
  refine j_iload_n C d_X_duel_8 3 rfl ?_
  refine bd hf (fun u2 hc26 hf => ?_)
  refine j_wt (fun hT hSt => ?_)
  have hu2 := rt_X_topAt hY hT hc26
  refine j_cV (rest := []) C lk_X_110 (c_X_topAt hY hc26) rfl (kX hY rfl) (nX hY (by decide)) (by decide) rfl rfl (by decide) rfl (Nat.le_of_ble_eq_true rfl) d_X_duel_9 ?_
  refine j_astoreo (lvf := [(5, va_rf (Option.map (yad Y) u1)), (0, .ref (yad Y 0)), (1, .int x1), (2, .int x2), (3, .int x3), (4, .int x4)]) C d_X_duel_12 (by decide) (by simp [rf_cat]) ?_
  refine j_aloado C d_X_duel_14 1 rfl ?_
  cases u1 with
  | none =>
    refine j_nul_t C d_X_duel_16 ?_
    refine j_iconst (v := 0) C d_X_duel_29 (by decide) ?_
    obtain rfl := Option.some.inj hf
    exact j_iret C d_X_duel_30
  | some e3 =>
    refine j_nul_f C d_X_duel_16 ?_
    refine j_aloado C d_X_duel_19 0 rfl ?_
    cases u2 with
    | none =>
      refine j_nul_t C d_X_duel_21 ?_
      refine j_iconst (v := 0) C d_X_duel_29 (by decide) ?_
      obtain rfl := Option.some.inj hf
      exact j_iret C d_X_duel_30
    | some e4 =>
      refine j_nul_f C d_X_duel_21 ?_
      refine j_iload_n C d_X_duel_24 3 rfl ?_
      refine j_iload_n C d_X_duel_25 4 rfl ?_
      refine j_icmp_ne C d_X_duel_26 hf (fun hf => ?_) (fun hf => ?_)
      · refine j_aload_n C d_X_duel_31 2 rfl ?_
        refine j_gS (b := 14) C fl_X_37 (kX hY rfl) (nX hY (by decide)) rfl hY.2.2.2.1 rfl (sX hY rfl) d_X_duel_32 ?_
        refine bd hf (fun μ5 hc25 hf => ?_)
        refine j_cV (rest := []) C lk_X_178 (c_Bt_empty hY ⟨(kX hY rfl), (nX hY (by decide))⟩ hc25) rfl (kX hY rfl) (nX hY (by decide)) (by decide) rfl rfl (by decide) rfl (Nat.le_of_ble_eq_true rfl) d_X_duel_35 ?_
        refine j_aload_n C d_X_duel_38 2 rfl ?_
        refine j_gS (b := 14) C fl_X_37 (kX hY rfl) (nX hY (by decide)) rfl hY.2.2.2.1 rfl (sX hY rfl) d_X_duel_39 ?_
        refine j_aload C d_X_duel_42 1 rfl ?_
        refine j_iload_n C d_X_duel_44 3 rfl ?_
        refine bd2 hf (fun u6 μ7 hc24 hf => ?_)
        refine j_wt (fun hT hSt => ?_)
        have hu6 := rt_Bt_addSpinner hY hT hc24 ⟨(kX hY rfl), (nX hY (by decide))⟩ ⟨(hu1 e3 rfl).2, (hu1 e3 rfl).1⟩
        refine j_cV (rest := []) C lk_X_165 (c_Bt_addSpinner hY ⟨(kX hY rfl), (nX hY (by decide))⟩ ⟨(hu1 e3 rfl).2, (hu1 e3 rfl).1⟩ hc24) rfl (kX hY rfl) (nX hY (by decide)) (by decide) rfl rfl (by decide) rfl (Nat.le_of_ble_eq_true rfl) d_X_duel_45 ?_
        refine j_astoreo (lvf := [(6, .ref (yad Y e4)), (5, .ref (yad Y e3)), (0, .ref (yad Y 0)), (1, .int x1), (2, .int x2), (3, .int x3), (4, .int x4)]) C d_X_duel_48 (by decide) rfl ?_
        refine j_aload_n C d_X_duel_50 3 rfl ?_
        refine j_gS (b := 14) C fl_X_37 (kX hY rfl) (nX hY (by decide)) rfl hY.2.2.2.1 rfl (sX hY rfl) d_X_duel_51 ?_
        refine j_aload C d_X_duel_54 1 rfl ?_
        refine j_iload_n C d_X_duel_56 5 rfl ?_
        refine bd2 hf (fun u8 μ9 hc23 hf => ?_)
        refine j_wt (fun hT hSt => ?_)
        have hu8 := rt_Bt_addSpinner hY hT hc23 ⟨(kX hY rfl), (nX hY (by decide))⟩ ⟨(hu2 e4 rfl).2, (hu2 e4 rfl).1⟩
        refine j_cV (rest := []) C lk_X_165 (c_Bt_addSpinner hY ⟨(kX hY rfl), (nX hY (by decide))⟩ ⟨(hu2 e4 rfl).2, (hu2 e4 rfl).1⟩ hc23) rfl (kX hY rfl) (nX hY (by decide)) (by decide) rfl rfl (by decide) rfl (Nat.le_of_ble_eq_true rfl) d_X_duel_57 ?_
        refine j_astoreo (lvf := [(7, va_rf (Option.map (yad Y) u6)), (6, .ref (yad Y e4)), (5, .ref (yad Y e3)), (0, .ref (yad Y 0)), (1, .int x1), (2, .int x2), (3, .int x3), (4, .int x4)]) C d_X_duel_60 (by decide) (by simp [rf_cat]) ?_
        refine j_aloado C d_X_duel_62 1 rfl ?_
        cases u6 with
        | none =>
          refine j_nul_t C d_X_duel_64 ?_
          refine j_iconst (v := 0) C d_X_duel_72 (by decide) ?_
          obtain rfl := Option.some.inj hf
          exact j_iret C d_X_duel_73
        | some e10 =>
          refine j_nul_f C d_X_duel_64 ?_
          refine j_aloado C d_X_duel_67 0 rfl ?_
          cases u8 with
          | none =>
            refine j_nnul_f C d_X_duel_69 ?_
            refine j_iconst (v := 0) C d_X_duel_72 (by decide) ?_
            obtain rfl := Option.some.inj hf
            exact j_iret C d_X_duel_73
          | some e11 =>
            refine j_nnul_t C d_X_duel_69 ?_
            refine j_aload C d_X_duel_74 1 rfl ?_
            refine j_aload_n C d_X_duel_76 4 rfl ?_
            refine j_gS (b := 2) C fl_X_22 (kX hY rfl) (nX hY (by decide)) rfl hY.2.2.2.1 rfl (sX hY rfl) d_X_duel_77 ?_
            refine j_gI C fl_X_132 (kX hY rfl) (nX hY (by decide)) rfl d_X_duel_80 ?_
            refine j_iconst (v := 2) C d_X_duel_83 (by decide) ?_
            refine j_idiv C d_X_duel_84 (by decide) ?_
            refine j_ineg C d_X_duel_85 ?_
            refine j_iconst (v := 0) C d_X_duel_86 (by decide) ?_
            refine j_bipush (v := 9) C d_X_duel_87 (by decide) ?_
            refine j_iload_n C d_X_duel_89 7 rfl ?_
            refine bd hf (fun μ12 hc22 hf => ?_)
            refine j_cV (rest := []) C lk_X_169 (c_Sp_set hY ⟨(hu6 e10 rfl).2, (hu6 e10 rfl).1⟩ hc22) rfl (hu6 e10 rfl).2 (hu6 e10 rfl).1 (by decide) rfl rfl (by decide) rfl (Nat.le_of_ble_eq_true rfl) d_X_duel_90 ?_
            refine j_aload C d_X_duel_93 0 rfl ?_
            refine j_aload_n C d_X_duel_95 4 rfl ?_
            refine j_gS (b := 2) C fl_X_22 (kX hY rfl) (nX hY (by decide)) rfl hY.2.2.2.1 rfl (sX hY rfl) d_X_duel_96 ?_
            refine j_gI C fl_X_132 (kX hY rfl) (nX hY (by decide)) rfl d_X_duel_99 ?_
            refine j_iconst (v := 2) C d_X_duel_102 (by decide) ?_
            refine j_idiv C d_X_duel_103 (by decide) ?_
            refine j_iconst (v := 0) C d_X_duel_104 (by decide) ?_
            refine j_bipush (v := 27) C d_X_duel_105 (by decide) ?_
            refine j_iload_n C d_X_duel_107 7 rfl ?_
            refine bd hf (fun μ13 hc21 hf => ?_)
            refine j_cV (rest := []) C lk_X_169 (c_Sp_set hY ⟨(hu8 e11 rfl).2, (hu8 e11 rfl).1⟩ hc21) rfl (hu8 e11 rfl).2 (hu8 e11 rfl).1 (by decide) rfl rfl (by decide) rfl (Nat.le_of_ble_eq_true rfl) d_X_duel_108 ?_
            refine j_aload_n C d_X_duel_111 4 rfl ?_
            refine j_gS (b := 14) C fl_X_37 (kX hY rfl) (nX hY (by decide)) rfl hY.2.2.2.1 rfl (sX hY rfl) d_X_duel_112 ?_
            refine j_aload_n C d_X_duel_115 4 rfl ?_
            refine j_gS (b := 2) C fl_X_22 (kX hY rfl) (nX hY (by decide)) rfl hY.2.2.2.1 rfl (sX hY rfl) d_X_duel_116 ?_
            refine j_aload_n C d_X_duel_119 4 rfl ?_
            refine j_gS (b := 4) C fl_X_26 (kX hY rfl) (nX hY (by decide)) rfl hY.2.2.2.1 rfl (sX hY rfl) d_X_duel_120 ?_
            refine j_iload C d_X_duel_123 8 rfl ?_
            refine j_sipush (v := 400) C d_X_duel_125 (by decide) ?_
            refine bd2 hf (fun v14 μ15 hc20 hf => ?_)
            refine j_cV (rest := []) C lk_X_393 (c_Bt_spinUntil hY ⟨(kX hY rfl), (nX hY (by decide))⟩ hc20) rfl (kX hY rfl) (nX hY (by decide)) (by decide) rfl rfl (by decide) rfl (Nat.le_of_ble_eq_true rfl) d_X_duel_128 ?_
            refine j_pop C d_X_duel_131 rfl ?_
            refine j_aload_n C d_X_duel_132 4 rfl ?_
            refine j_gS (b := 14) C fl_X_37 (kX hY rfl) (nX hY (by decide)) rfl hY.2.2.2.1 rfl (sX hY rfl) d_X_duel_133 ?_
            refine bd hf (fun v16 hc19 hf => ?_)
            refine j_cV (rest := []) C lk_X_190 (c_Bt_lonePlace hY ⟨(kX hY rfl), (nX hY (by decide))⟩ hc19) rfl (kX hY rfl) (nX hY (by decide)) (by decide) rfl rfl (by decide) rfl (Nat.le_of_ble_eq_true rfl) d_X_duel_136 ?_
            refine j_istore (lvf := [(8, .ref (yad Y e11)), (7, .ref (yad Y e10)), (6, .ref (yad Y e4)), (5, .ref (yad Y e3)), (0, .ref (yad Y 0)), (1, .int x1), (2, .int x2), (3, .int x3), (4, .int x4)]) C d_X_duel_139 (by decide) rfl ?_
            refine j_iload C d_X_duel_141 0 rfl ?_
            refine j_iconst (v := (-1)) C d_X_duel_143 (by decide) ?_
            refine j_icmp_eq C d_X_duel_144 hf (fun hf => ?_) (fun hf => ?_)
            · refine j_aload C d_X_duel_158 2 rfl ?_
              refine bd hf (fun v17 hc18 hf => ?_)
              refine j_cV (rest := []) C lk_X_397 (c_Sp_fellInRing hY ⟨(hu6 e10 rfl).2, (hu6 e10 rfl).1⟩ hc18) rfl (hu6 e10 rfl).2 (hu6 e10 rfl).1 (by decide) rfl rfl (by decide) rfl (Nat.le_of_ble_eq_true rfl) d_X_duel_160 ?_
              refine j_if_eq C d_X_duel_163 hf (fun hf => ?_) (fun hf => ?_)
              · refine j_iconst (v := 0) C d_X_duel_170 (by decide) ?_
                refine j_sub [1] rfl ?_
                exact w_X_duel_b171 hY C e11 0 μ15 ⟨(hu8 e11 rfl).2, (hu8 e11 rfl).1⟩ hf
              · refine j_iconst (v := 1) C d_X_duel_166 (by decide) ?_
                refine j_goto C d_X_duel_167 ?_
                refine j_sub [1] rfl ?_
                exact w_X_duel_b171 hY C e11 1 μ15 ⟨(hu8 e11 rfl).2, (hu8 e11 rfl).1⟩ hf
            · refine j_iload C d_X_duel_147 0 rfl ?_
              refine j_if_ne C d_X_duel_149 hf (fun hf => ?_) (fun hf => ?_)
              · refine j_iconst (v := (-1)) C d_X_duel_156 (by decide) ?_
                obtain rfl := Option.some.inj hf
                exact j_iret C d_X_duel_157
              · refine j_iconst (v := 1) C d_X_duel_152 (by decide) ?_
                refine j_goto C d_X_duel_153 ?_
                obtain rfl := Option.some.inj hf
                exact j_iret C d_X_duel_157
      · refine j_iconst (v := 0) C d_X_duel_29 (by decide) ?_
        obtain rfl := Option.some.inj hf
        exact j_iret C d_X_duel_30
theorem d_X_fill_0 : DC b_X_fill 0 (.aload_n 0) 1 1 := ⟨by decide +kernel, rfl⟩
theorem d_X_fill_1 : DC b_X_fill 1 (.getfield 43) 3 4 := ⟨by decide +kernel, rfl⟩
theorem d_X_fill_4 : DC b_X_fill 4 (.invokevirtual 229) 3 7 := ⟨by decide +kernel, rfl⟩
theorem d_X_fill_7 : DB b_X_fill 7 (.ifCond .eq 6) 6 13 10 := ⟨by decide +kernel, by decide, rfl⟩
theorem d_X_fill_10 : DC b_X_fill 10 (.bipush (-3)) 2 12 := ⟨by decide +kernel, rfl⟩
theorem d_X_fill_12 : decode b_X_fill 12 = .ok (.ireturn, 1) := by decide +kernel
theorem d_X_fill_13 : DC b_X_fill 13 (.iconst 0) 1 14 := ⟨by decide +kernel, rfl⟩
theorem d_X_fill_14 : DC b_X_fill 14 (.istore_n 1) 1 15 := ⟨by decide +kernel, rfl⟩
theorem d_X_fill_15 : DC b_X_fill 15 (.iconst 0) 1 16 := ⟨by decide +kernel, rfl⟩
theorem d_X_fill_16 : DC b_X_fill 16 (.istore_n 2) 1 17 := ⟨by decide +kernel, rfl⟩
theorem d_X_fill_17 : DC b_X_fill 17 (.iload_n 2) 1 18 := ⟨by decide +kernel, rfl⟩
theorem d_X_fill_18 : DC b_X_fill 18 (.aload_n 0) 1 19 := ⟨by decide +kernel, rfl⟩
theorem d_X_fill_19 : DC b_X_fill 19 (.getfield 43) 3 22 := ⟨by decide +kernel, rfl⟩
theorem d_X_fill_22 : DC b_X_fill 22 (.getfield 207) 3 25 := ⟨by decide +kernel, rfl⟩
theorem d_X_fill_25 : DB b_X_fill 25 (.if_icmp .ge 81) 81 106 28 := ⟨by decide +kernel, by decide, rfl⟩
theorem d_X_fill_28 : DC b_X_fill 28 (.iconst 0) 1 29 := ⟨by decide +kernel, rfl⟩
theorem d_X_fill_29 : DC b_X_fill 29 (.istore_n 3) 1 30 := ⟨by decide +kernel, rfl⟩
theorem d_X_fill_30 : DC b_X_fill 30 (.iload_n 3) 1 31 := ⟨by decide +kernel, rfl⟩
theorem d_X_fill_31 : DC b_X_fill 31 (.aload_n 0) 1 32 := ⟨by decide +kernel, rfl⟩
theorem d_X_fill_32 : DC b_X_fill 32 (.getfield 43) 3 35 := ⟨by decide +kernel, rfl⟩
theorem d_X_fill_35 : DC b_X_fill 35 (.getfield 210) 3 38 := ⟨by decide +kernel, rfl⟩
theorem d_X_fill_38 : DB b_X_fill 38 (.if_icmp .ge 62) 62 100 41 := ⟨by decide +kernel, by decide, rfl⟩
theorem d_X_fill_41 : DC b_X_fill 41 (.aload_n 0) 1 42 := ⟨by decide +kernel, rfl⟩
theorem d_X_fill_42 : DC b_X_fill 42 (.aload_n 0) 1 43 := ⟨by decide +kernel, rfl⟩
theorem d_X_fill_43 : DC b_X_fill 43 (.getfield 43) 3 46 := ⟨by decide +kernel, rfl⟩
theorem d_X_fill_46 : DC b_X_fill 46 (.getfield 233) 3 49 := ⟨by decide +kernel, rfl⟩
theorem d_X_fill_49 : DC b_X_fill 49 (.iload_n 2) 1 50 := ⟨by decide +kernel, rfl⟩
theorem d_X_fill_50 : DC b_X_fill 50 (.iaload) 1 51 := ⟨by decide +kernel, rfl⟩
theorem d_X_fill_51 : DC b_X_fill 51 (.aload_n 0) 1 52 := ⟨by decide +kernel, rfl⟩
theorem d_X_fill_52 : DC b_X_fill 52 (.getfield 43) 3 55 := ⟨by decide +kernel, rfl⟩
theorem d_X_fill_55 : DC b_X_fill 55 (.getfield 236) 3 58 := ⟨by decide +kernel, rfl⟩
theorem d_X_fill_58 : DC b_X_fill 58 (.iload_n 3) 1 59 := ⟨by decide +kernel, rfl⟩
theorem d_X_fill_59 : DC b_X_fill 59 (.iaload) 1 60 := ⟨by decide +kernel, rfl⟩
theorem d_X_fill_60 : DC b_X_fill 60 (.bipush 30) 2 62 := ⟨by decide +kernel, rfl⟩
theorem d_X_fill_62 : DC b_X_fill 62 (.iconst (-1)) 1 63 := ⟨by decide +kernel, rfl⟩
theorem d_X_fill_63 : DC b_X_fill 63 (.invokevirtual 239) 3 66 := ⟨by decide +kernel, rfl⟩
theorem d_X_fill_66 : DC b_X_fill 66 (.istore 4) 2 68 := ⟨by decide +kernel, rfl⟩
theorem d_X_fill_68 : DC b_X_fill 68 (.aload_n 0) 1 69 := ⟨by decide +kernel, rfl⟩
theorem d_X_fill_69 : DC b_X_fill 69 (.getfield 43) 3 72 := ⟨by decide +kernel, rfl⟩
theorem d_X_fill_72 : DC b_X_fill 72 (.getfield 225) 3 75 := ⟨by decide +kernel, rfl⟩
theorem d_X_fill_75 : DC b_X_fill 75 (.iload_n 2) 1 76 := ⟨by decide +kernel, rfl⟩
theorem d_X_fill_76 : DC b_X_fill 76 (.aaload) 1 77 := ⟨by decide +kernel, rfl⟩
theorem d_X_fill_77 : DC b_X_fill 77 (.iload_n 3) 1 78 := ⟨by decide +kernel, rfl⟩
theorem d_X_fill_78 : DC b_X_fill 78 (.iload 4) 2 80 := ⟨by decide +kernel, rfl⟩
theorem d_X_fill_80 : DC b_X_fill 80 (.iastore) 1 81 := ⟨by decide +kernel, rfl⟩
theorem d_X_fill_81 : DC b_X_fill 81 (.iload_n 1) 1 82 := ⟨by decide +kernel, rfl⟩
theorem d_X_fill_82 : DC b_X_fill 82 (.iload 4) 2 84 := ⟨by decide +kernel, rfl⟩
theorem d_X_fill_84 : DB b_X_fill 84 (.ifCond .ne 7) 7 91 87 := ⟨by decide +kernel, by decide, rfl⟩
theorem d_X_fill_87 : DC b_X_fill 87 (.iconst 0) 1 88 := ⟨by decide +kernel, rfl⟩
theorem d_X_fill_88 : DB b_X_fill 88 (.goto 4) 4 92 91 := ⟨by decide +kernel, by decide, rfl⟩
theorem d_X_fill_91 : DC b_X_fill 91 (.iconst 1) 1 92 := ⟨by decide +kernel, rfl⟩
theorem d_X_fill_92 : DC b_X_fill 92 (.iadd) 1 93 := ⟨by decide +kernel, rfl⟩
theorem d_X_fill_93 : DC b_X_fill 93 (.istore_n 1) 1 94 := ⟨by decide +kernel, rfl⟩
theorem d_X_fill_94 : DC b_X_fill 94 (.iinc 3 1) 3 97 := ⟨by decide +kernel, rfl⟩
theorem d_X_fill_97 : DB b_X_fill 97 (.goto (-67)) (-67) 30 100 := ⟨by decide +kernel, by decide, rfl⟩
theorem d_X_fill_100 : DC b_X_fill 100 (.iinc 2 1) 3 103 := ⟨by decide +kernel, rfl⟩
theorem d_X_fill_103 : DB b_X_fill 103 (.goto (-86)) (-86) 17 106 := ⟨by decide +kernel, by decide, rfl⟩
theorem d_X_fill_106 : DC b_X_fill 106 (.iload_n 1) 1 107 := ⟨by decide +kernel, rfl⟩
theorem d_X_fill_107 : decode b_X_fill 107 = .ok (.ireturn, 1) := by decide +kernel
theorem w_X_fill_b92 {X : Ctx} {Y : Lay} (hY : IsX Y) (C : Cx X Y b_X_fill 5 (some .int) "TopYard" 7) {N : Nat} {r : Int32 × Mem} (k17 : Int32 → Int32 → Mem → Option (Int32 × Mem)) (k30 : Int32 → Int32 → Int32 → Mem → Option (Int32 × Mem)) (hk17 : ∀ (x1 : Int32) (x2 : Int32) (ν : Mem), k17 x1 x2 ν = some r → J X Y (some (.int r.1)) r.2 5 17 [(0, .ref (yad Y 0)), (1, .int x1), (2, .int x2)] [] ν) (hk30 : ∀ (x1 : Int32) (x2 : Int32) (x3 : Int32) (ν : Mem), k30 x1 x2 x3 ν = some r → J X Y (some (.int r.1)) r.2 5 30 [(0, .ref (yad Y 0)), (1, .int x1), (2, .int x2), (3, .int x3)] [] ν) (x2 : Int32) (x3 : Int32) (xs0 : Int32) (xs1 : Int32) (μ : Mem) (hf : f_X_fill_b92 N k17 k30 x2 x3 xs0 xs1 μ = some r) : J X Y (some (.int r.1)) r.2 5 92 [(0, .ref (yad Y 0)), (2, .int x2), (3, .int x3)] [.int xs0, .int xs1] μ := by
  unfold f_X_fill_b92 at hf
  refine j_iadd C d_X_fill_92 ?_
  refine j_istore_nN (lvf := [(0, .ref (yad Y 0)), (2, .int x2), (3, .int x3)]) C d_X_fill_93 (by decide) rfl hf (fun v1 hf => ?_)
  refine j_iinc (lvf := [(1, .int v1), (0, .ref (yad Y 0)), (2, .int x2)]) (v := 1) C d_X_fill_94 3 rfl (by decide) (by decide) rfl hf (fun v2 hf => ?_)
  refine j_goto C d_X_fill_97 ?_
  refine j_sub [2, 1, 3, 0] rfl ?_
  exact hk30 v1 x2 v2 μ hf
theorem w_X_fill_l30 {X : Ctx} {Y : Lay} (hY : IsX Y) (C : Cx X Y b_X_fill 5 (some .int) "TopYard" 7) {N : Nat} {r : Int32 × Mem} (k17 : Int32 → Int32 → Mem → Option (Int32 × Mem)) (hk17 : ∀ (x1 : Int32) (x2 : Int32) (ν : Mem), k17 x1 x2 ν = some r → J X Y (some (.int r.1)) r.2 5 17 [(0, .ref (yad Y 0)), (1, .int x1), (2, .int x2)] [] ν) : ∀ (n : Nat) (x1 : Int32) (x2 : Int32) (x3 : Int32) (μ : Mem), f_X_fill_l30 N k17 n x1 x2 x3 μ = some r → J X Y (some (.int r.1)) r.2 5 30 [(0, .ref (yad Y 0)), (1, .int x1), (2, .int x2), (3, .int x3)] [] μ := by
  intro n
  induction n with
  | zero => intro x1 x2 x3 μ hf; rw [f_X_fill_l30] at hf; cases hf
  | succ n ih =>
    intro x1 x2 x3 μ hf
    rw [f_X_fill_l30] at hf
    refine j_iload_n C d_X_fill_30 3 rfl ?_
    refine j_aload_n C d_X_fill_31 0 rfl ?_
    refine j_gS (b := 23) C fl_X_43 (kX hY rfl) (nX hY (by decide)) rfl hY.2.2.2.1 rfl (sX hY rfl) d_X_fill_32 ?_
    refine j_gI C fl_X_210 (kX hY rfl) (nX hY (by decide)) rfl d_X_fill_35 ?_
    refine j_icmp_ge C d_X_fill_38 hf (fun hf => ?_) (fun hf => ?_)
    · refine j_iinc (lvf := [(0, .ref (yad Y 0)), (1, .int x1), (3, .int x3)]) (v := 1) C d_X_fill_100 2 rfl (by decide) (by decide) rfl hf (fun v1 hf => ?_)
      refine j_goto C d_X_fill_103 ?_
      refine j_sub [1, 2, 0] rfl ?_
      exact hk17 x1 v1 μ hf
    · refine j_aload_n C d_X_fill_41 0 rfl ?_
      refine j_aload_n C d_X_fill_42 0 rfl ?_
      refine j_gS (b := 23) C fl_X_43 (kX hY rfl) (nX hY (by decide)) rfl hY.2.2.2.1 rfl (sX hY rfl) d_X_fill_43 ?_
      refine j_gS (b := 24) C fl_X_233 (kX hY rfl) (nX hY (by decide)) rfl hY.2.2.2.1 rfl (sX hY rfl) d_X_fill_46 ?_
      refine j_iload_n C d_X_fill_49 2 rfl ?_
      refine ck hf (fun hi2 hf => ?_)
      refine j_iald C (kX hY rfl) (nX hY (by decide)) (lX hY rfl) hi2 d_X_fill_50 ?_
      refine j_aload_n C d_X_fill_51 0 rfl ?_
      refine j_gS (b := 23) C fl_X_43 (kX hY rfl) (nX hY (by decide)) rfl hY.2.2.2.1 rfl (sX hY rfl) d_X_fill_52 ?_
      refine j_gS (b := 25) C fl_X_236 (kX hY rfl) (nX hY (by decide)) rfl hY.2.2.2.1 rfl (sX hY rfl) d_X_fill_55 ?_
      refine j_iload_n C d_X_fill_58 3 rfl ?_
      refine ck hf (fun hi3 hf => ?_)
      refine j_iald C (kX hY rfl) (nX hY (by decide)) (lX hY rfl) hi3 d_X_fill_59 ?_
      refine j_bipush (v := 30) C d_X_fill_60 (by decide) ?_
      refine j_iconst (v := (-1)) C d_X_fill_62 (by decide) ?_
      refine bd2 hf (fun v4 μ5 hc9 hf => ?_)
      refine j_cV (rest := []) C lk_X_239 (c_X_duel hY hc9) rfl (kX hY rfl) (nX hY (by decide)) (by decide) rfl rfl (by decide) rfl (Nat.le_of_ble_eq_true rfl) d_X_fill_63 ?_
      refine j_istore (lvf := [(0, .ref (yad Y 0)), (1, .int x1), (2, .int x2), (3, .int x3)]) C d_X_fill_66 (by decide) rfl ?_
      refine j_aload_n C d_X_fill_68 1 rfl ?_
      refine j_gS (b := 23) C fl_X_43 (kX hY rfl) (nX hY (by decide)) rfl hY.2.2.2.1 rfl (sX hY rfl) d_X_fill_69 ?_
      refine j_gS (b := 26) C fl_X_225 (kX hY rfl) (nX hY (by decide)) rfl hY.2.2.2.1 rfl (sX hY rfl) d_X_fill_72 ?_
      refine j_iload_n C d_X_fill_75 3 rfl ?_
      refine ck hf (fun hi6 hf => ?_)
      refine j_aldS C (kX hY rfl) (by decide) rfl rfl (nX hY (by decide)) (lX hY rfl) hi6 hY.2.2.2.1 rfl (sX hY rfl) d_X_fill_76 ?_
      refine j_iload_n C d_X_fill_77 4 rfl ?_
      refine j_iload C d_X_fill_78 0 rfl ?_
      refine ck hf (fun hi7 hf => ?_)
      refine j_iast C (teX_16 hY (kX hY rfl) (ibl hi6)).1 (teX_16 hY (kX hY rfl) (ibl hi6)).2.1 (teX_16 hY (kX hY rfl) (ibl hi6)).2.2 hi7 d_X_fill_80 hf (fun μ8 hf => ?_)
      refine j_iload_n C d_X_fill_81 2 rfl ?_
      refine j_iload C d_X_fill_82 0 rfl ?_
      refine j_if_ne C d_X_fill_84 hf (fun hf => ?_) (fun hf => ?_)
      · refine j_iconst (v := 1) C d_X_fill_91 (by decide) ?_
        refine j_sub [1, 3, 4] rfl ?_
        exact w_X_fill_b92 hY C k17 (f_X_fill_l30 N k17 n) hk17 ih x2 x3 1 x1 μ8 hf
      · refine j_iconst (v := 0) C d_X_fill_87 (by decide) ?_
        refine j_goto C d_X_fill_88 ?_
        refine j_sub [1, 3, 4] rfl ?_
        exact w_X_fill_b92 hY C k17 (f_X_fill_l30 N k17 n) hk17 ih x2 x3 0 x1 μ8 hf
theorem w_X_fill_l17 {X : Ctx} {Y : Lay} (hY : IsX Y) (C : Cx X Y b_X_fill 5 (some .int) "TopYard" 7) {N : Nat} {r : Int32 × Mem} : ∀ (n : Nat) (x1 : Int32) (x2 : Int32) (μ : Mem), f_X_fill_l17 N n x1 x2 μ = some r → J X Y (some (.int r.1)) r.2 5 17 [(0, .ref (yad Y 0)), (1, .int x1), (2, .int x2)] [] μ := by
  intro n
  induction n with
  | zero => intro x1 x2 μ hf; rw [f_X_fill_l17] at hf; cases hf
  | succ n ih =>
    intro x1 x2 μ hf
    rw [f_X_fill_l17] at hf
    refine j_iload_n C d_X_fill_17 2 rfl ?_
    refine j_aload_n C d_X_fill_18 0 rfl ?_
    refine j_gS (b := 23) C fl_X_43 (kX hY rfl) (nX hY (by decide)) rfl hY.2.2.2.1 rfl (sX hY rfl) d_X_fill_19 ?_
    refine j_gI C fl_X_207 (kX hY rfl) (nX hY (by decide)) rfl d_X_fill_22 ?_
    refine j_icmp_ge C d_X_fill_25 hf (fun hf => ?_) (fun hf => ?_)
    · refine j_iload_n C d_X_fill_106 1 rfl ?_
      obtain rfl := Option.some.inj hf
      exact j_iret C d_X_fill_107
    · refine j_iconst (v := 0) C d_X_fill_28 (by decide) ?_
      refine j_istore_n (lvf := [(0, .ref (yad Y 0)), (1, .int x1), (2, .int x2)]) C d_X_fill_29 (by decide) rfl ?_
      refine j_sub [1, 2, 3, 0] rfl ?_
      exact w_X_fill_l30 hY C (f_X_fill_l17 N n) ih N x1 x2 0 μ hf
theorem c_X_fill {l : Launch} {Y : Lay} (hY : IsX Y) {N : Nat} {μ : Mem} {r : Int32 × Mem} (hf : f_X_fill N μ = some r) : Ct l Y y_X_fill b_X_fill 5 (some .int) 7 [.ref (yad Y 0)] (some (.int r.1)) μ r.2 := by
  refine ct_of (own := "TopYard") (lv := [(0, .ref (yad Y 0))]) (by decide +kernel) rfl (Nat.le_of_ble_eq_true rfl) rfl (fun X hl C => ?_)
  subst hl
  unfold f_X_fill at hf
  refine j_aload_n C d_X_fill_0 0 rfl ?_
  refine j_gS (b := 23) C fl_X_43 (kX hY rfl) (nX hY (by decide)) rfl hY.2.2.2.1 rfl (sX hY rfl) d_X_fill_1 ?_
  refine bd hf (fun v1 hc2 hf => ?_)
  refine j_cV (rest := []) C lk_X_229 (c_Ch_isOpen hY hc2) rfl (kX hY rfl) (nX hY (by decide)) (by decide) rfl rfl (by decide) rfl (Nat.le_of_ble_eq_true rfl) d_X_fill_4 ?_
  refine j_if_eq C d_X_fill_7 hf (fun hf => ?_) (fun hf => ?_)
  · refine j_iconst (v := 0) C d_X_fill_13 (by decide) ?_
    refine j_istore_n (lvf := [(0, .ref (yad Y 0))]) C d_X_fill_14 (by decide) rfl ?_
    refine j_iconst (v := 0) C d_X_fill_15 (by decide) ?_
    refine j_istore_n (lvf := [(1, .int 0), (0, .ref (yad Y 0))]) C d_X_fill_16 (by decide) rfl ?_
    refine j_sub [2, 1, 0] rfl ?_
    exact w_X_fill_l17 hY C N 0 0 μ hf
  · refine j_bipush (v := (-3)) C d_X_fill_10 (by decide) ?_
    obtain rfl := Option.some.inj hf
    exact j_iret C d_X_fill_12
theorem d_JI_bitCount_0 : DC b_JI_bitCount 0 (.iload_n 0) 1 1 := ⟨by decide +kernel, rfl⟩
theorem d_JI_bitCount_1 : DC b_JI_bitCount 1 (.iload_n 0) 1 2 := ⟨by decide +kernel, rfl⟩
theorem d_JI_bitCount_2 : DC b_JI_bitCount 2 (.iconst 1) 1 3 := ⟨by decide +kernel, rfl⟩
theorem d_JI_bitCount_3 : DC b_JI_bitCount 3 (.iushr) 1 4 := ⟨by decide +kernel, rfl⟩
theorem d_JI_bitCount_4 : DC b_JI_bitCount 4 (.ldc_w 265) 3 7 := ⟨by decide +kernel, rfl⟩
theorem d_JI_bitCount_7 : DC b_JI_bitCount 7 (.iand) 1 8 := ⟨by decide +kernel, rfl⟩
theorem d_JI_bitCount_8 : DC b_JI_bitCount 8 (.isub) 1 9 := ⟨by decide +kernel, rfl⟩
theorem d_JI_bitCount_9 : DC b_JI_bitCount 9 (.istore_n 0) 1 10 := ⟨by decide +kernel, rfl⟩
theorem d_JI_bitCount_10 : DC b_JI_bitCount 10 (.iload_n 0) 1 11 := ⟨by decide +kernel, rfl⟩
theorem d_JI_bitCount_11 : DC b_JI_bitCount 11 (.ldc_w 266) 3 14 := ⟨by decide +kernel, rfl⟩
theorem d_JI_bitCount_14 : DC b_JI_bitCount 14 (.iand) 1 15 := ⟨by decide +kernel, rfl⟩
theorem d_JI_bitCount_15 : DC b_JI_bitCount 15 (.iload_n 0) 1 16 := ⟨by decide +kernel, rfl⟩
theorem d_JI_bitCount_16 : DC b_JI_bitCount 16 (.iconst 2) 1 17 := ⟨by decide +kernel, rfl⟩
theorem d_JI_bitCount_17 : DC b_JI_bitCount 17 (.iushr) 1 18 := ⟨by decide +kernel, rfl⟩
theorem d_JI_bitCount_18 : DC b_JI_bitCount 18 (.ldc_w 266) 3 21 := ⟨by decide +kernel, rfl⟩
theorem d_JI_bitCount_21 : DC b_JI_bitCount 21 (.iand) 1 22 := ⟨by decide +kernel, rfl⟩
theorem d_JI_bitCount_22 : DC b_JI_bitCount 22 (.iadd) 1 23 := ⟨by decide +kernel, rfl⟩
theorem d_JI_bitCount_23 : DC b_JI_bitCount 23 (.istore_n 0) 1 24 := ⟨by decide +kernel, rfl⟩
theorem d_JI_bitCount_24 : DC b_JI_bitCount 24 (.iload_n 0) 1 25 := ⟨by decide +kernel, rfl⟩
theorem d_JI_bitCount_25 : DC b_JI_bitCount 25 (.iload_n 0) 1 26 := ⟨by decide +kernel, rfl⟩
theorem d_JI_bitCount_26 : DC b_JI_bitCount 26 (.iconst 4) 1 27 := ⟨by decide +kernel, rfl⟩
theorem d_JI_bitCount_27 : DC b_JI_bitCount 27 (.iushr) 1 28 := ⟨by decide +kernel, rfl⟩
theorem d_JI_bitCount_28 : DC b_JI_bitCount 28 (.iadd) 1 29 := ⟨by decide +kernel, rfl⟩
theorem d_JI_bitCount_29 : DC b_JI_bitCount 29 (.ldc_w 267) 3 32 := ⟨by decide +kernel, rfl⟩
theorem d_JI_bitCount_32 : DC b_JI_bitCount 32 (.iand) 1 33 := ⟨by decide +kernel, rfl⟩
theorem d_JI_bitCount_33 : DC b_JI_bitCount 33 (.istore_n 0) 1 34 := ⟨by decide +kernel, rfl⟩
theorem d_JI_bitCount_34 : DC b_JI_bitCount 34 (.iload_n 0) 1 35 := ⟨by decide +kernel, rfl⟩
theorem d_JI_bitCount_35 : DC b_JI_bitCount 35 (.iload_n 0) 1 36 := ⟨by decide +kernel, rfl⟩
theorem d_JI_bitCount_36 : DC b_JI_bitCount 36 (.bipush 8) 2 38 := ⟨by decide +kernel, rfl⟩
theorem d_JI_bitCount_38 : DC b_JI_bitCount 38 (.iushr) 1 39 := ⟨by decide +kernel, rfl⟩
theorem d_JI_bitCount_39 : DC b_JI_bitCount 39 (.iadd) 1 40 := ⟨by decide +kernel, rfl⟩
theorem d_JI_bitCount_40 : DC b_JI_bitCount 40 (.istore_n 0) 1 41 := ⟨by decide +kernel, rfl⟩
theorem d_JI_bitCount_41 : DC b_JI_bitCount 41 (.iload_n 0) 1 42 := ⟨by decide +kernel, rfl⟩
theorem d_JI_bitCount_42 : DC b_JI_bitCount 42 (.iload_n 0) 1 43 := ⟨by decide +kernel, rfl⟩
theorem d_JI_bitCount_43 : DC b_JI_bitCount 43 (.bipush 16) 2 45 := ⟨by decide +kernel, rfl⟩
theorem d_JI_bitCount_45 : DC b_JI_bitCount 45 (.iushr) 1 46 := ⟨by decide +kernel, rfl⟩
theorem d_JI_bitCount_46 : DC b_JI_bitCount 46 (.iadd) 1 47 := ⟨by decide +kernel, rfl⟩
theorem d_JI_bitCount_47 : DC b_JI_bitCount 47 (.istore_n 0) 1 48 := ⟨by decide +kernel, rfl⟩
theorem d_JI_bitCount_48 : DC b_JI_bitCount 48 (.iload_n 0) 1 49 := ⟨by decide +kernel, rfl⟩
theorem d_JI_bitCount_49 : DC b_JI_bitCount 49 (.bipush 63) 2 51 := ⟨by decide +kernel, rfl⟩
theorem d_JI_bitCount_51 : DC b_JI_bitCount 51 (.iand) 1 52 := ⟨by decide +kernel, rfl⟩
theorem d_JI_bitCount_52 : decode b_JI_bitCount 52 = .ok (.ireturn, 1) := by decide +kernel
theorem c_JI_bitCount {l : Launch} {Y : Lay} (hY : IsX Y) {μ : Mem} {x0 : Int32} {r : Int32} (hf : f_JI_bitCount x0 = some r) : Ct l Y y_JI_bitCount b_JI_bitCount 1 (some .int) 1 [.int x0] (some (.int r)) μ μ := by
  refine ct_of (own := "java/lang/Integer") (lv := [(0, .int x0)]) (by decide +kernel) rfl (Nat.le_of_ble_eq_true rfl) rfl (fun X hl C => ?_)
  subst hl
  unfold f_JI_bitCount at hf
  refine j_iload_n C d_JI_bitCount_0 0 rfl ?_
  refine j_iload_n C d_JI_bitCount_1 0 rfl ?_
  refine j_iconst (v := 1) C d_JI_bitCount_2 (by decide) ?_
  refine j_iushr C d_JI_bitCount_3 ?_
  refine j_ldcw (v := 1431655765) C d_JI_bitCount_4 wd_82 ?_
  refine j_iand C d_JI_bitCount_7 ?_
  refine j_isub C d_JI_bitCount_8 ?_
  refine j_istore_nN (lvf := []) C d_JI_bitCount_9 (by decide) rfl hf (fun v1 hf => ?_)
  refine j_iload_n C d_JI_bitCount_10 0 rfl ?_
  refine j_ldcw (v := 858993459) C d_JI_bitCount_11 wd_83 ?_
  refine j_iand C d_JI_bitCount_14 ?_
  refine j_iload_n C d_JI_bitCount_15 0 rfl ?_
  refine j_iconst (v := 2) C d_JI_bitCount_16 (by decide) ?_
  refine j_iushr C d_JI_bitCount_17 ?_
  refine j_ldcw (v := 858993459) C d_JI_bitCount_18 wd_83 ?_
  refine j_iand C d_JI_bitCount_21 ?_
  refine j_iadd C d_JI_bitCount_22 ?_
  refine j_istore_nN (lvf := []) C d_JI_bitCount_23 (by decide) rfl hf (fun v2 hf => ?_)
  refine j_iload_n C d_JI_bitCount_24 0 rfl ?_
  refine j_iload_n C d_JI_bitCount_25 0 rfl ?_
  refine j_iconst (v := 4) C d_JI_bitCount_26 (by decide) ?_
  refine j_iushr C d_JI_bitCount_27 ?_
  refine j_iadd C d_JI_bitCount_28 ?_
  refine j_ldcw (v := 252645135) C d_JI_bitCount_29 wd_84 ?_
  refine j_iand C d_JI_bitCount_32 ?_
  refine j_istore_nN (lvf := []) C d_JI_bitCount_33 (by decide) rfl hf (fun v3 hf => ?_)
  refine j_iload_n C d_JI_bitCount_34 0 rfl ?_
  refine j_iload_n C d_JI_bitCount_35 0 rfl ?_
  refine j_bipush (v := 8) C d_JI_bitCount_36 (by decide) ?_
  refine j_iushr C d_JI_bitCount_38 ?_
  refine j_iadd C d_JI_bitCount_39 ?_
  refine j_istore_nN (lvf := []) C d_JI_bitCount_40 (by decide) rfl hf (fun v4 hf => ?_)
  refine j_iload_n C d_JI_bitCount_41 0 rfl ?_
  refine j_iload_n C d_JI_bitCount_42 0 rfl ?_
  refine j_bipush (v := 16) C d_JI_bitCount_43 (by decide) ?_
  refine j_iushr C d_JI_bitCount_45 ?_
  refine j_iadd C d_JI_bitCount_46 ?_
  refine j_istore_nN (lvf := []) C d_JI_bitCount_47 (by decide) rfl hf (fun v5 hf => ?_)
  refine j_iload_n C d_JI_bitCount_48 0 rfl ?_
  refine j_bipush (v := 63) C d_JI_bitCount_49 (by decide) ?_
  refine j_iand C d_JI_bitCount_51 ?_
  obtain rfl := Option.some.inj hf
  exact j_iret C d_JI_bitCount_52
theorem d_JI_numberOfTrailingZeros_0 : DC b_JI_numberOfTrailingZeros 0 (.iload_n 0) 1 1 := ⟨by decide +kernel, rfl⟩
theorem d_JI_numberOfTrailingZeros_1 : DC b_JI_numberOfTrailingZeros 1 (.iconst (-1)) 1 2 := ⟨by decide +kernel, rfl⟩
theorem d_JI_numberOfTrailingZeros_2 : DC b_JI_numberOfTrailingZeros 2 (.ixor) 1 3 := ⟨by decide +kernel, rfl⟩
theorem d_JI_numberOfTrailingZeros_3 : DC b_JI_numberOfTrailingZeros 3 (.iload_n 0) 1 4 := ⟨by decide +kernel, rfl⟩
theorem d_JI_numberOfTrailingZeros_4 : DC b_JI_numberOfTrailingZeros 4 (.iconst 1) 1 5 := ⟨by decide +kernel, rfl⟩
theorem d_JI_numberOfTrailingZeros_5 : DC b_JI_numberOfTrailingZeros 5 (.isub) 1 6 := ⟨by decide +kernel, rfl⟩
theorem d_JI_numberOfTrailingZeros_6 : DC b_JI_numberOfTrailingZeros 6 (.iand) 1 7 := ⟨by decide +kernel, rfl⟩
theorem d_JI_numberOfTrailingZeros_7 : DC b_JI_numberOfTrailingZeros 7 (.istore_n 0) 1 8 := ⟨by decide +kernel, rfl⟩
theorem d_JI_numberOfTrailingZeros_8 : DC b_JI_numberOfTrailingZeros 8 (.iload_n 0) 1 9 := ⟨by decide +kernel, rfl⟩
theorem d_JI_numberOfTrailingZeros_9 : DB b_JI_numberOfTrailingZeros 9 (.ifCond .gt 8) 8 17 12 := ⟨by decide +kernel, by decide, rfl⟩
theorem d_JI_numberOfTrailingZeros_12 : DC b_JI_numberOfTrailingZeros 12 (.iload_n 0) 1 13 := ⟨by decide +kernel, rfl⟩
theorem d_JI_numberOfTrailingZeros_13 : DC b_JI_numberOfTrailingZeros 13 (.bipush 32) 2 15 := ⟨by decide +kernel, rfl⟩
theorem d_JI_numberOfTrailingZeros_15 : DC b_JI_numberOfTrailingZeros 15 (.iand) 1 16 := ⟨by decide +kernel, rfl⟩
theorem d_JI_numberOfTrailingZeros_16 : decode b_JI_numberOfTrailingZeros 16 = .ok (.ireturn, 1) := by decide +kernel
theorem d_JI_numberOfTrailingZeros_17 : DC b_JI_numberOfTrailingZeros 17 (.iconst 1) 1 18 := ⟨by decide +kernel, rfl⟩
theorem d_JI_numberOfTrailingZeros_18 : DC b_JI_numberOfTrailingZeros 18 (.istore_n 1) 1 19 := ⟨by decide +kernel, rfl⟩
theorem d_JI_numberOfTrailingZeros_19 : DC b_JI_numberOfTrailingZeros 19 (.iload_n 0) 1 20 := ⟨by decide +kernel, rfl⟩
theorem d_JI_numberOfTrailingZeros_20 : DC b_JI_numberOfTrailingZeros 20 (.ldc_w 264) 3 23 := ⟨by decide +kernel, rfl⟩
theorem d_JI_numberOfTrailingZeros_23 : DB b_JI_numberOfTrailingZeros 23 (.if_icmp .le 11) 11 34 26 := ⟨by decide +kernel, by decide, rfl⟩
theorem d_JI_numberOfTrailingZeros_26 : DC b_JI_numberOfTrailingZeros 26 (.iinc 1 16) 3 29 := ⟨by decide +kernel, rfl⟩
theorem d_JI_numberOfTrailingZeros_29 : DC b_JI_numberOfTrailingZeros 29 (.iload_n 0) 1 30 := ⟨by decide +kernel, rfl⟩
theorem d_JI_numberOfTrailingZeros_30 : DC b_JI_numberOfTrailingZeros 30 (.bipush 16) 2 32 := ⟨by decide +kernel, rfl⟩
theorem d_JI_numberOfTrailingZeros_32 : DC b_JI_numberOfTrailingZeros 32 (.iushr) 1 33 := ⟨by decide +kernel, rfl⟩
theorem d_JI_numberOfTrailingZeros_33 : DC b_JI_numberOfTrailingZeros 33 (.istore_n 0) 1 34 := ⟨by decide +kernel, rfl⟩
theorem d_JI_numberOfTrailingZeros_34 : DC b_JI_numberOfTrailingZeros 34 (.iload_n 0) 1 35 := ⟨by decide +kernel, rfl⟩
theorem d_JI_numberOfTrailingZeros_35 : DC b_JI_numberOfTrailingZeros 35 (.sipush 256) 3 38 := ⟨by decide +kernel, rfl⟩
theorem d_JI_numberOfTrailingZeros_38 : DB b_JI_numberOfTrailingZeros 38 (.if_icmp .le 11) 11 49 41 := ⟨by decide +kernel, by decide, rfl⟩
theorem d_JI_numberOfTrailingZeros_41 : DC b_JI_numberOfTrailingZeros 41 (.iinc 1 8) 3 44 := ⟨by decide +kernel, rfl⟩
theorem d_JI_numberOfTrailingZeros_44 : DC b_JI_numberOfTrailingZeros 44 (.iload_n 0) 1 45 := ⟨by decide +kernel, rfl⟩
theorem d_JI_numberOfTrailingZeros_45 : DC b_JI_numberOfTrailingZeros 45 (.bipush 8) 2 47 := ⟨by decide +kernel, rfl⟩
theorem d_JI_numberOfTrailingZeros_47 : DC b_JI_numberOfTrailingZeros 47 (.iushr) 1 48 := ⟨by decide +kernel, rfl⟩
theorem d_JI_numberOfTrailingZeros_48 : DC b_JI_numberOfTrailingZeros 48 (.istore_n 0) 1 49 := ⟨by decide +kernel, rfl⟩
theorem d_JI_numberOfTrailingZeros_49 : DC b_JI_numberOfTrailingZeros 49 (.iload_n 0) 1 50 := ⟨by decide +kernel, rfl⟩
theorem d_JI_numberOfTrailingZeros_50 : DC b_JI_numberOfTrailingZeros 50 (.bipush 16) 2 52 := ⟨by decide +kernel, rfl⟩
theorem d_JI_numberOfTrailingZeros_52 : DB b_JI_numberOfTrailingZeros 52 (.if_icmp .le 10) 10 62 55 := ⟨by decide +kernel, by decide, rfl⟩
theorem d_JI_numberOfTrailingZeros_55 : DC b_JI_numberOfTrailingZeros 55 (.iinc 1 4) 3 58 := ⟨by decide +kernel, rfl⟩
theorem d_JI_numberOfTrailingZeros_58 : DC b_JI_numberOfTrailingZeros 58 (.iload_n 0) 1 59 := ⟨by decide +kernel, rfl⟩
theorem d_JI_numberOfTrailingZeros_59 : DC b_JI_numberOfTrailingZeros 59 (.iconst 4) 1 60 := ⟨by decide +kernel, rfl⟩
theorem d_JI_numberOfTrailingZeros_60 : DC b_JI_numberOfTrailingZeros 60 (.iushr) 1 61 := ⟨by decide +kernel, rfl⟩
theorem d_JI_numberOfTrailingZeros_61 : DC b_JI_numberOfTrailingZeros 61 (.istore_n 0) 1 62 := ⟨by decide +kernel, rfl⟩
theorem d_JI_numberOfTrailingZeros_62 : DC b_JI_numberOfTrailingZeros 62 (.iload_n 0) 1 63 := ⟨by decide +kernel, rfl⟩
theorem d_JI_numberOfTrailingZeros_63 : DC b_JI_numberOfTrailingZeros 63 (.iconst 4) 1 64 := ⟨by decide +kernel, rfl⟩
theorem d_JI_numberOfTrailingZeros_64 : DB b_JI_numberOfTrailingZeros 64 (.if_icmp .le 10) 10 74 67 := ⟨by decide +kernel, by decide, rfl⟩
theorem d_JI_numberOfTrailingZeros_67 : DC b_JI_numberOfTrailingZeros 67 (.iinc 1 2) 3 70 := ⟨by decide +kernel, rfl⟩
theorem d_JI_numberOfTrailingZeros_70 : DC b_JI_numberOfTrailingZeros 70 (.iload_n 0) 1 71 := ⟨by decide +kernel, rfl⟩
theorem d_JI_numberOfTrailingZeros_71 : DC b_JI_numberOfTrailingZeros 71 (.iconst 2) 1 72 := ⟨by decide +kernel, rfl⟩
theorem d_JI_numberOfTrailingZeros_72 : DC b_JI_numberOfTrailingZeros 72 (.iushr) 1 73 := ⟨by decide +kernel, rfl⟩
theorem d_JI_numberOfTrailingZeros_73 : DC b_JI_numberOfTrailingZeros 73 (.istore_n 0) 1 74 := ⟨by decide +kernel, rfl⟩
theorem d_JI_numberOfTrailingZeros_74 : DC b_JI_numberOfTrailingZeros 74 (.iload_n 1) 1 75 := ⟨by decide +kernel, rfl⟩
theorem d_JI_numberOfTrailingZeros_75 : DC b_JI_numberOfTrailingZeros 75 (.iload_n 0) 1 76 := ⟨by decide +kernel, rfl⟩
theorem d_JI_numberOfTrailingZeros_76 : DC b_JI_numberOfTrailingZeros 76 (.iconst 1) 1 77 := ⟨by decide +kernel, rfl⟩
theorem d_JI_numberOfTrailingZeros_77 : DC b_JI_numberOfTrailingZeros 77 (.iushr) 1 78 := ⟨by decide +kernel, rfl⟩
theorem d_JI_numberOfTrailingZeros_78 : DC b_JI_numberOfTrailingZeros 78 (.iadd) 1 79 := ⟨by decide +kernel, rfl⟩
theorem d_JI_numberOfTrailingZeros_79 : decode b_JI_numberOfTrailingZeros 79 = .ok (.ireturn, 1) := by decide +kernel
theorem w_JI_numberOfTrailingZeros_b74 {X : Ctx} {Y : Lay} (hY : IsX Y) (C : Cx X Y b_JI_numberOfTrailingZeros 2 (some .int) "java/lang/Integer" 1) {μ : Mem} {r : Int32} (x0 : Int32) (x1 : Int32) (hf : f_JI_numberOfTrailingZeros_b74 x0 x1 = some r) : J X Y (some (.int r)) μ 2 74 [(0, .int x0), (1, .int x1)] [] μ := by
  unfold f_JI_numberOfTrailingZeros_b74 at hf
  refine j_iload_n C d_JI_numberOfTrailingZeros_74 1 rfl ?_
  refine j_iload_n C d_JI_numberOfTrailingZeros_75 0 rfl ?_
  refine j_iconst (v := 1) C d_JI_numberOfTrailingZeros_76 (by decide) ?_
  refine j_iushr C d_JI_numberOfTrailingZeros_77 ?_
  refine j_iadd C d_JI_numberOfTrailingZeros_78 ?_
  obtain rfl := Option.some.inj hf
  exact j_iret C d_JI_numberOfTrailingZeros_79
theorem w_JI_numberOfTrailingZeros_b62 {X : Ctx} {Y : Lay} (hY : IsX Y) (C : Cx X Y b_JI_numberOfTrailingZeros 2 (some .int) "java/lang/Integer" 1) {μ : Mem} {r : Int32} (x0 : Int32) (x1 : Int32) (hf : f_JI_numberOfTrailingZeros_b62 x0 x1 = some r) : J X Y (some (.int r)) μ 2 62 [(0, .int x0), (1, .int x1)] [] μ := by
  unfold f_JI_numberOfTrailingZeros_b62 at hf
  refine j_iload_n C d_JI_numberOfTrailingZeros_62 0 rfl ?_
  refine j_iconst (v := 4) C d_JI_numberOfTrailingZeros_63 (by decide) ?_
  refine j_icmp_le C d_JI_numberOfTrailingZeros_64 hf (fun hf => ?_) (fun hf => ?_)
  · refine j_sub [0, 1] rfl ?_
    exact w_JI_numberOfTrailingZeros_b74 hY C x0 x1 hf
  · refine j_iinc (lvf := [(0, .int x0)]) (v := 2) C d_JI_numberOfTrailingZeros_67 1 rfl (by decide) (by decide) rfl hf (fun v1 hf => ?_)
    refine j_iload_n C d_JI_numberOfTrailingZeros_70 1 rfl ?_
    refine j_iconst (v := 2) C d_JI_numberOfTrailingZeros_71 (by decide) ?_
    refine j_iushr C d_JI_numberOfTrailingZeros_72 ?_
    refine j_istore_nN (lvf := [(1, .int v1)]) C d_JI_numberOfTrailingZeros_73 (by decide) rfl hf (fun v2 hf => ?_)
    refine j_sub [0, 1] rfl ?_
    exact w_JI_numberOfTrailingZeros_b74 hY C v2 v1 hf
theorem w_JI_numberOfTrailingZeros_b49 {X : Ctx} {Y : Lay} (hY : IsX Y) (C : Cx X Y b_JI_numberOfTrailingZeros 2 (some .int) "java/lang/Integer" 1) {μ : Mem} {r : Int32} (x0 : Int32) (x1 : Int32) (hf : f_JI_numberOfTrailingZeros_b49 x0 x1 = some r) : J X Y (some (.int r)) μ 2 49 [(0, .int x0), (1, .int x1)] [] μ := by
  unfold f_JI_numberOfTrailingZeros_b49 at hf
  refine j_iload_n C d_JI_numberOfTrailingZeros_49 0 rfl ?_
  refine j_bipush (v := 16) C d_JI_numberOfTrailingZeros_50 (by decide) ?_
  refine j_icmp_le C d_JI_numberOfTrailingZeros_52 hf (fun hf => ?_) (fun hf => ?_)
  · refine j_sub [0, 1] rfl ?_
    exact w_JI_numberOfTrailingZeros_b62 hY C x0 x1 hf
  · refine j_iinc (lvf := [(0, .int x0)]) (v := 4) C d_JI_numberOfTrailingZeros_55 1 rfl (by decide) (by decide) rfl hf (fun v1 hf => ?_)
    refine j_iload_n C d_JI_numberOfTrailingZeros_58 1 rfl ?_
    refine j_iconst (v := 4) C d_JI_numberOfTrailingZeros_59 (by decide) ?_
    refine j_iushr C d_JI_numberOfTrailingZeros_60 ?_
    refine j_istore_nN (lvf := [(1, .int v1)]) C d_JI_numberOfTrailingZeros_61 (by decide) rfl hf (fun v2 hf => ?_)
    refine j_sub [0, 1] rfl ?_
    exact w_JI_numberOfTrailingZeros_b62 hY C v2 v1 hf
theorem w_JI_numberOfTrailingZeros_b34 {X : Ctx} {Y : Lay} (hY : IsX Y) (C : Cx X Y b_JI_numberOfTrailingZeros 2 (some .int) "java/lang/Integer" 1) {μ : Mem} {r : Int32} (x0 : Int32) (x1 : Int32) (hf : f_JI_numberOfTrailingZeros_b34 x0 x1 = some r) : J X Y (some (.int r)) μ 2 34 [(0, .int x0), (1, .int x1)] [] μ := by
  unfold f_JI_numberOfTrailingZeros_b34 at hf
  refine j_iload_n C d_JI_numberOfTrailingZeros_34 0 rfl ?_
  refine j_sipush (v := 256) C d_JI_numberOfTrailingZeros_35 (by decide) ?_
  refine j_icmp_le C d_JI_numberOfTrailingZeros_38 hf (fun hf => ?_) (fun hf => ?_)
  · refine j_sub [0, 1] rfl ?_
    exact w_JI_numberOfTrailingZeros_b49 hY C x0 x1 hf
  · refine j_iinc (lvf := [(0, .int x0)]) (v := 8) C d_JI_numberOfTrailingZeros_41 1 rfl (by decide) (by decide) rfl hf (fun v1 hf => ?_)
    refine j_iload_n C d_JI_numberOfTrailingZeros_44 1 rfl ?_
    refine j_bipush (v := 8) C d_JI_numberOfTrailingZeros_45 (by decide) ?_
    refine j_iushr C d_JI_numberOfTrailingZeros_47 ?_
    refine j_istore_nN (lvf := [(1, .int v1)]) C d_JI_numberOfTrailingZeros_48 (by decide) rfl hf (fun v2 hf => ?_)
    refine j_sub [0, 1] rfl ?_
    exact w_JI_numberOfTrailingZeros_b49 hY C v2 v1 hf
theorem c_JI_numberOfTrailingZeros {l : Launch} {Y : Lay} (hY : IsX Y) {μ : Mem} {x0 : Int32} {r : Int32} (hf : f_JI_numberOfTrailingZeros x0 = some r) : Ct l Y y_JI_numberOfTrailingZeros b_JI_numberOfTrailingZeros 2 (some .int) 1 [.int x0] (some (.int r)) μ μ := by
  refine ct_of (own := "java/lang/Integer") (lv := [(0, .int x0)]) (by decide +kernel) rfl (Nat.le_of_ble_eq_true rfl) rfl (fun X hl C => ?_)
  subst hl
  unfold f_JI_numberOfTrailingZeros at hf
  refine j_iload_n C d_JI_numberOfTrailingZeros_0 0 rfl ?_
  refine j_iconst (v := (-1)) C d_JI_numberOfTrailingZeros_1 (by decide) ?_
  refine j_ixor C d_JI_numberOfTrailingZeros_2 ?_
  refine j_iload_n C d_JI_numberOfTrailingZeros_3 0 rfl ?_
  refine j_iconst (v := 1) C d_JI_numberOfTrailingZeros_4 (by decide) ?_
  refine j_isub C d_JI_numberOfTrailingZeros_5 ?_
  refine j_iand C d_JI_numberOfTrailingZeros_6 ?_
  refine j_istore_nN (lvf := []) C d_JI_numberOfTrailingZeros_7 (by decide) rfl hf (fun v1 hf => ?_)
  refine j_iload_n C d_JI_numberOfTrailingZeros_8 0 rfl ?_
  refine j_if_gt C d_JI_numberOfTrailingZeros_9 hf (fun hf => ?_) (fun hf => ?_)
  · refine j_iconst (v := 1) C d_JI_numberOfTrailingZeros_17 (by decide) ?_
    refine j_istore_n (lvf := [(0, .int v1)]) C d_JI_numberOfTrailingZeros_18 (by decide) rfl ?_
    refine j_iload_n C d_JI_numberOfTrailingZeros_19 1 rfl ?_
    refine j_ldcw (v := 65536) C d_JI_numberOfTrailingZeros_20 wd_85 ?_
    refine j_icmp_le C d_JI_numberOfTrailingZeros_23 hf (fun hf => ?_) (fun hf => ?_)
    · refine j_sub [1, 0] rfl ?_
      exact w_JI_numberOfTrailingZeros_b34 hY C v1 1 hf
    · refine j_iinc (lvf := [(0, .int v1)]) (v := 16) C d_JI_numberOfTrailingZeros_26 0 rfl (by decide) (by decide) rfl hf (fun v2 hf => ?_)
      refine j_iload_n C d_JI_numberOfTrailingZeros_29 1 rfl ?_
      refine j_bipush (v := 16) C d_JI_numberOfTrailingZeros_30 (by decide) ?_
      refine j_iushr C d_JI_numberOfTrailingZeros_32 ?_
      refine j_istore_nN (lvf := [(1, .int v2)]) C d_JI_numberOfTrailingZeros_33 (by decide) rfl hf (fun v3 hf => ?_)
      refine j_sub [0, 1] rfl ?_
      exact w_JI_numberOfTrailingZeros_b34 hY C v3 v2 hf
  · refine j_iload_n C d_JI_numberOfTrailingZeros_12 0 rfl ?_
    refine j_bipush (v := 32) C d_JI_numberOfTrailingZeros_13 (by decide) ?_
    refine j_iand C d_JI_numberOfTrailingZeros_15 ?_
    obtain rfl := Option.some.inj hf
    exact j_iret C d_JI_numberOfTrailingZeros_16
theorem d_Ch_minor_0 : DC b_Ch_minor 0 (.iload_n 1) 1 1 := ⟨by decide +kernel, rfl⟩
theorem d_Ch_minor_1 : DC b_Ch_minor 1 (.iconst 1) 1 2 := ⟨by decide +kernel, rfl⟩
theorem d_Ch_minor_2 : DC b_Ch_minor 2 (.iload_n 3) 1 3 := ⟨by decide +kernel, rfl⟩
theorem d_Ch_minor_3 : DC b_Ch_minor 3 (.ishl) 1 4 := ⟨by decide +kernel, rfl⟩
theorem d_Ch_minor_4 : DC b_Ch_minor 4 (.iconst (-1)) 1 5 := ⟨by decide +kernel, rfl⟩
theorem d_Ch_minor_5 : DC b_Ch_minor 5 (.ixor) 1 6 := ⟨by decide +kernel, rfl⟩
theorem d_Ch_minor_6 : DC b_Ch_minor 6 (.iand) 1 7 := ⟨by decide +kernel, rfl⟩
theorem d_Ch_minor_7 : DC b_Ch_minor 7 (.bipush 16) 2 9 := ⟨by decide +kernel, rfl⟩
theorem d_Ch_minor_9 : DC b_Ch_minor 9 (.imul) 1 10 := ⟨by decide +kernel, rfl⟩
theorem d_Ch_minor_10 : DC b_Ch_minor 10 (.iload_n 2) 1 11 := ⟨by decide +kernel, rfl⟩
theorem d_Ch_minor_11 : DC b_Ch_minor 11 (.iconst 1) 1 12 := ⟨by decide +kernel, rfl⟩
theorem d_Ch_minor_12 : DC b_Ch_minor 12 (.iload 4) 2 14 := ⟨by decide +kernel, rfl⟩
theorem d_Ch_minor_14 : DC b_Ch_minor 14 (.ishl) 1 15 := ⟨by decide +kernel, rfl⟩
theorem d_Ch_minor_15 : DC b_Ch_minor 15 (.iconst (-1)) 1 16 := ⟨by decide +kernel, rfl⟩
theorem d_Ch_minor_16 : DC b_Ch_minor 16 (.ixor) 1 17 := ⟨by decide +kernel, rfl⟩
theorem d_Ch_minor_17 : DC b_Ch_minor 17 (.iand) 1 18 := ⟨by decide +kernel, rfl⟩
theorem d_Ch_minor_18 : DC b_Ch_minor 18 (.iadd) 1 19 := ⟨by decide +kernel, rfl⟩
theorem d_Ch_minor_19 : DC b_Ch_minor 19 (.istore 5) 2 21 := ⟨by decide +kernel, rfl⟩
theorem d_Ch_minor_21 : DC b_Ch_minor 21 (.iload 5) 2 23 := ⟨by decide +kernel, rfl⟩
theorem d_Ch_minor_23 : DB b_Ch_minor 23 (.ifCond .lt 23) 23 46 26 := ⟨by decide +kernel, by decide, rfl⟩
theorem d_Ch_minor_26 : DC b_Ch_minor 26 (.iload 5) 2 28 := ⟨by decide +kernel, rfl⟩
theorem d_Ch_minor_28 : DC b_Ch_minor 28 (.aload_n 0) 1 29 := ⟨by decide +kernel, rfl⟩
theorem d_Ch_minor_29 : DC b_Ch_minor 29 (.getfield 37) 3 32 := ⟨by decide +kernel, rfl⟩
theorem d_Ch_minor_32 : DC b_Ch_minor 32 (.arraylength) 1 33 := ⟨by decide +kernel, rfl⟩
theorem d_Ch_minor_33 : DB b_Ch_minor 33 (.if_icmp .ge 13) 13 46 36 := ⟨by decide +kernel, by decide, rfl⟩
theorem d_Ch_minor_36 : DC b_Ch_minor 36 (.aload_n 0) 1 37 := ⟨by decide +kernel, rfl⟩
theorem d_Ch_minor_37 : DC b_Ch_minor 37 (.getfield 37) 3 40 := ⟨by decide +kernel, rfl⟩
theorem d_Ch_minor_40 : DC b_Ch_minor 40 (.iload 5) 2 42 := ⟨by decide +kernel, rfl⟩
theorem d_Ch_minor_42 : DC b_Ch_minor 42 (.laload) 1 43 := ⟨by decide +kernel, rfl⟩
theorem d_Ch_minor_43 : DB b_Ch_minor 43 (.goto 4) 4 47 46 := ⟨by decide +kernel, by decide, rfl⟩
theorem d_Ch_minor_46 : DC b_Ch_minor 46 (.lconst 0) 1 47 := ⟨by decide +kernel, rfl⟩
theorem d_Ch_minor_47 : decode b_Ch_minor 47 = .ok (.lreturn, 1) := by decide +kernel
theorem c_Ch_minor {l : Launch} {Y : Lay} (hY : IsX Y) {μ : Mem} {x1 : Int32} {x2 : Int32} {x3 : Int32} {x4 : Int32} {r : Int64} (hf : f_Ch_minor μ x1 x2 x3 x4 = some r) : Ct l Y y_Ch_minor b_Ch_minor 6 (some .long) 1 [.ref (yad Y 23), .int x1, .int x2, .int x3, .int x4] (some (.long r)) μ μ := by
  refine ct_of (own := "TopYard$Choice") (lv := [(0, .ref (yad Y 23)), (1, .int x1), (2, .int x2), (3, .int x3), (4, .int x4)]) (by decide +kernel) rfl (Nat.le_of_ble_eq_true rfl) rfl (fun X hl C => ?_)
  subst hl
  unfold f_Ch_minor at hf
  refine j_iload_n C d_Ch_minor_0 1 rfl ?_
  refine j_iconst (v := 1) C d_Ch_minor_1 (by decide) ?_
  refine j_iload_n C d_Ch_minor_2 3 rfl ?_
  refine j_ishl C d_Ch_minor_3 ?_
  refine j_iconst (v := (-1)) C d_Ch_minor_4 (by decide) ?_
  refine j_ixor C d_Ch_minor_5 ?_
  refine j_iand C d_Ch_minor_6 ?_
  refine j_bipush (v := 16) C d_Ch_minor_7 (by decide) ?_
  refine j_imul C d_Ch_minor_9 ?_
  refine j_iload_n C d_Ch_minor_10 2 rfl ?_
  refine j_iconst (v := 1) C d_Ch_minor_11 (by decide) ?_
  refine j_iload C d_Ch_minor_12 4 rfl ?_
  refine j_ishl C d_Ch_minor_14 ?_
  refine j_iconst (v := (-1)) C d_Ch_minor_15 (by decide) ?_
  refine j_ixor C d_Ch_minor_16 ?_
  refine j_iand C d_Ch_minor_17 ?_
  refine j_iadd C d_Ch_minor_18 ?_
  refine j_istoreN (lvf := [(0, .ref (yad Y 23)), (1, .int x1), (2, .int x2), (3, .int x3), (4, .int x4)]) C d_Ch_minor_19 (by decide) rfl hf (fun v1 hf => ?_)
  refine j_iload C d_Ch_minor_21 0 rfl ?_
  refine j_if_lt C d_Ch_minor_23 hf (fun hf => ?_) (fun hf => ?_)
  · refine j_lconst (v := 0) C d_Ch_minor_46 (by decide) ?_
    obtain rfl := Option.some.inj hf
    exact j_lret C d_Ch_minor_47
  · refine j_iload C d_Ch_minor_26 0 rfl ?_
    refine j_aload_n C d_Ch_minor_28 1 rfl ?_
    refine j_gS (b := 33) C fl_Ch_37 (kX hY rfl) (nX hY (by decide)) rfl hY.2.2.2.1 rfl (sX hY rfl) d_Ch_minor_29 ?_
    refine j_alenL C (kX hY rfl) (nX hY (by decide)) (lX hY rfl) d_Ch_minor_32 ?_
    refine j_icmp_ge C d_Ch_minor_33 hf (fun hf => ?_) (fun hf => ?_)
    · refine j_lconst (v := 0) C d_Ch_minor_46 (by decide) ?_
      obtain rfl := Option.some.inj hf
      exact j_lret C d_Ch_minor_47
    · refine j_aload_n C d_Ch_minor_36 1 rfl ?_
      refine j_gS (b := 33) C fl_Ch_37 (kX hY rfl) (nX hY (by decide)) rfl hY.2.2.2.1 rfl (sX hY rfl) d_Ch_minor_37 ?_
      refine j_iload C d_Ch_minor_40 0 rfl ?_
      refine ck hf (fun hi2 hf => ?_)
      refine j_lald C (kX hY rfl) (nX hY (by decide)) (lX hY rfl) hi2 d_Ch_minor_42 ?_
      refine j_goto C d_Ch_minor_43 ?_
      obtain rfl := Option.some.inj hf
      exact j_lret C d_Ch_minor_47
theorem d_Ch_expand_0 : DC b_Ch_expand 0 (.iload_n 1) 1 1 := ⟨by decide +kernel, rfl⟩
theorem d_Ch_expand_1 : DC b_Ch_expand 1 (.invokestatic 84) 3 4 := ⟨by decide +kernel, rfl⟩
theorem d_Ch_expand_4 : DC b_Ch_expand 4 (.istore_n 3) 1 5 := ⟨by decide +kernel, rfl⟩
theorem d_Ch_expand_5 : DC b_Ch_expand 5 (.lconst 0) 1 6 := ⟨by decide +kernel, rfl⟩
theorem d_Ch_expand_6 : DC b_Ch_expand 6 (.lstore 4) 2 8 := ⟨by decide +kernel, rfl⟩
theorem d_Ch_expand_8 : DC b_Ch_expand 8 (.lconst 1) 1 9 := ⟨by decide +kernel, rfl⟩
theorem d_Ch_expand_9 : DC b_Ch_expand 9 (.lstore 6) 2 11 := ⟨by decide +kernel, rfl⟩
theorem d_Ch_expand_11 : DC b_Ch_expand 11 (.iconst 0) 1 12 := ⟨by decide +kernel, rfl⟩
theorem d_Ch_expand_12 : DC b_Ch_expand 12 (.istore 8) 2 14 := ⟨by decide +kernel, rfl⟩
theorem d_Ch_expand_14 : DC b_Ch_expand 14 (.iload 8) 2 16 := ⟨by decide +kernel, rfl⟩
theorem d_Ch_expand_16 : DC b_Ch_expand 16 (.iconst 4) 1 17 := ⟨by decide +kernel, rfl⟩
theorem d_Ch_expand_17 : DB b_Ch_expand 17 (.if_icmp .ge 59) 59 76 20 := ⟨by decide +kernel, by decide, rfl⟩
theorem d_Ch_expand_20 : DC b_Ch_expand 20 (.iload_n 3) 1 21 := ⟨by decide +kernel, rfl⟩
theorem d_Ch_expand_21 : DC b_Ch_expand 21 (.iconst 4) 1 22 := ⟨by decide +kernel, rfl⟩
theorem d_Ch_expand_22 : DB b_Ch_expand 22 (.if_icmp .ge 54) 54 76 25 := ⟨by decide +kernel, by decide, rfl⟩
theorem d_Ch_expand_25 : DC b_Ch_expand 25 (.iload_n 2) 1 26 := ⟨by decide +kernel, rfl⟩
theorem d_Ch_expand_26 : DC b_Ch_expand 26 (.iload 8) 2 28 := ⟨by decide +kernel, rfl⟩
theorem d_Ch_expand_28 : DC b_Ch_expand 28 (.ishr) 1 29 := ⟨by decide +kernel, rfl⟩
theorem d_Ch_expand_29 : DC b_Ch_expand 29 (.iconst 1) 1 30 := ⟨by decide +kernel, rfl⟩
theorem d_Ch_expand_30 : DC b_Ch_expand 30 (.iand) 1 31 := ⟨by decide +kernel, rfl⟩
theorem d_Ch_expand_31 : DB b_Ch_expand 31 (.ifCond .eq 39) 39 70 34 := ⟨by decide +kernel, by decide, rfl⟩
theorem d_Ch_expand_34 : DC b_Ch_expand 34 (.lload 4) 2 36 := ⟨by decide +kernel, rfl⟩
theorem d_Ch_expand_36 : DC b_Ch_expand 36 (.lload 6) 2 38 := ⟨by decide +kernel, rfl⟩
theorem d_Ch_expand_38 : DC b_Ch_expand 38 (.aload_n 0) 1 39 := ⟨by decide +kernel, rfl⟩
theorem d_Ch_expand_39 : DC b_Ch_expand 39 (.getfield 27) 3 42 := ⟨by decide +kernel, rfl⟩
theorem d_Ch_expand_42 : DC b_Ch_expand 42 (.iload_n 3) 1 43 := ⟨by decide +kernel, rfl⟩
theorem d_Ch_expand_43 : DC b_Ch_expand 43 (.aaload) 1 44 := ⟨by decide +kernel, rfl⟩
theorem d_Ch_expand_44 : DC b_Ch_expand 44 (.iload 8) 2 46 := ⟨by decide +kernel, rfl⟩
theorem d_Ch_expand_46 : DC b_Ch_expand 46 (.iaload) 1 47 := ⟨by decide +kernel, rfl⟩
theorem d_Ch_expand_47 : DC b_Ch_expand 47 (.bipush 20) 2 49 := ⟨by decide +kernel, rfl⟩
theorem d_Ch_expand_49 : DC b_Ch_expand 49 (.iadd) 1 50 := ⟨by decide +kernel, rfl⟩
theorem d_Ch_expand_50 : DC b_Ch_expand 50 (.i2l) 1 51 := ⟨by decide +kernel, rfl⟩
theorem d_Ch_expand_51 : DC b_Ch_expand 51 (.lmul) 1 52 := ⟨by decide +kernel, rfl⟩
theorem d_Ch_expand_52 : DC b_Ch_expand 52 (.aload_n 0) 1 53 := ⟨by decide +kernel, rfl⟩
theorem d_Ch_expand_53 : DC b_Ch_expand 53 (.iload_n 1) 1 54 := ⟨by decide +kernel, rfl⟩
theorem d_Ch_expand_54 : DC b_Ch_expand 54 (.iload_n 2) 1 55 := ⟨by decide +kernel, rfl⟩
theorem d_Ch_expand_55 : DC b_Ch_expand 55 (.iload_n 3) 1 56 := ⟨by decide +kernel, rfl⟩
theorem d_Ch_expand_56 : DC b_Ch_expand 56 (.iload 8) 2 58 := ⟨by decide +kernel, rfl⟩
theorem d_Ch_expand_58 : DC b_Ch_expand 58 (.invokevirtual 87) 3 61 := ⟨by decide +kernel, rfl⟩
theorem d_Ch_expand_61 : DC b_Ch_expand 61 (.lmul) 1 62 := ⟨by decide +kernel, rfl⟩
theorem d_Ch_expand_62 : DC b_Ch_expand 62 (.ladd) 1 63 := ⟨by decide +kernel, rfl⟩
theorem d_Ch_expand_63 : DC b_Ch_expand 63 (.lstore 4) 2 65 := ⟨by decide +kernel, rfl⟩
theorem d_Ch_expand_65 : DC b_Ch_expand 65 (.lload 6) 2 67 := ⟨by decide +kernel, rfl⟩
theorem d_Ch_expand_67 : DC b_Ch_expand 67 (.lneg) 1 68 := ⟨by decide +kernel, rfl⟩
theorem d_Ch_expand_68 : DC b_Ch_expand 68 (.lstore 6) 2 70 := ⟨by decide +kernel, rfl⟩
theorem d_Ch_expand_70 : DC b_Ch_expand 70 (.iinc 8 1) 3 73 := ⟨by decide +kernel, rfl⟩
theorem d_Ch_expand_73 : DB b_Ch_expand 73 (.goto (-59)) (-59) 14 76 := ⟨by decide +kernel, by decide, rfl⟩
theorem d_Ch_expand_76 : DC b_Ch_expand 76 (.lload 4) 2 78 := ⟨by decide +kernel, rfl⟩
theorem d_Ch_expand_78 : decode b_Ch_expand 78 = .ok (.lreturn, 1) := by decide +kernel
theorem w_Ch_expand_b70 {X : Ctx} {Y : Lay} (hY : IsX Y) (C : Cx X Y b_Ch_expand 9 (some .long) "TopYard$Choice" 2) {N : Nat} {μ : Mem} {r : Int64} (k14 : Int32 → Int32 → Int32 → Int64 → Int64 → Int32 → Option (Int64)) (hk14 : ∀ (x1 : Int32) (x2 : Int32) (x3 : Int32) (x4 : Int64) (x6 : Int64) (x8 : Int32), k14 x1 x2 x3 x4 x6 x8 = some r → J X Y (some (.long r)) μ 9 14 [(0, .ref (yad Y 23)), (1, .int x1), (2, .int x2), (3, .int x3), (4, .long x4), (6, .long x6), (8, .int x8)] [] μ) (x1 : Int32) (x2 : Int32) (x3 : Int32) (x4 : Int64) (x6 : Int64) (x8 : Int32) (hf : f_Ch_expand_b70 N μ k14 x1 x2 x3 x4 x6 x8 = some r) : J X Y (some (.long r)) μ 9 70 [(0, .ref (yad Y 23)), (1, .int x1), (2, .int x2), (3, .int x3), (4, .long x4), (6, .long x6), (8, .int x8)] [] μ := by
  unfold f_Ch_expand_b70 at hf
  refine j_iinc (lvf := [(0, .ref (yad Y 23)), (1, .int x1), (2, .int x2), (3, .int x3), (4, .long x4), (6, .long x6)]) (v := 1) C d_Ch_expand_70 6 rfl (by decide) (by decide) rfl hf (fun v1 hf => ?_)
  refine j_goto C d_Ch_expand_73 ?_
  refine j_sub [1, 2, 3, 4, 5, 6, 0] rfl ?_
  exact hk14 x1 x2 x3 x4 x6 v1 hf
theorem w_Ch_expand_l14 {X : Ctx} {Y : Lay} (hY : IsX Y) (C : Cx X Y b_Ch_expand 9 (some .long) "TopYard$Choice" 2) {N : Nat} {μ : Mem} {r : Int64} : ∀ (n : Nat) (x1 : Int32) (x2 : Int32) (x3 : Int32) (x4 : Int64) (x6 : Int64) (x8 : Int32), f_Ch_expand_l14 N μ n x1 x2 x3 x4 x6 x8 = some r → J X Y (some (.long r)) μ 9 14 [(0, .ref (yad Y 23)), (1, .int x1), (2, .int x2), (3, .int x3), (4, .long x4), (6, .long x6), (8, .int x8)] [] μ := by
  intro n
  induction n with
  | zero => intro x1 x2 x3 x4 x6 x8 hf; rw [f_Ch_expand_l14] at hf; cases hf
  | succ n ih =>
    intro x1 x2 x3 x4 x6 x8 hf
    rw [f_Ch_expand_l14] at hf
    refine j_iload C d_Ch_expand_14 6 rfl ?_
    refine j_iconst (v := 4) C d_Ch_expand_16 (by decide) ?_
    refine j_icmp_ge C d_Ch_expand_17 hf (fun hf => ?_) (fun hf => ?_)
    · refine j_lload C d_Ch_expand_76 4 rfl ?_
      obtain rfl := Option.some.inj hf
      exact j_lret C d_Ch_expand_78
    · refine j_iload_n C d_Ch_expand_20 3 rfl ?_
      refine j_iconst (v := 4) C d_Ch_expand_21 (by decide) ?_
      refine j_icmp_ge C d_Ch_expand_22 hf (fun hf => ?_) (fun hf => ?_)
      · refine j_lload C d_Ch_expand_76 4 rfl ?_
        obtain rfl := Option.some.inj hf
        exact j_lret C d_Ch_expand_78
      · refine j_iload_n C d_Ch_expand_25 2 rfl ?_
        refine j_iload C d_Ch_expand_26 6 rfl ?_
        refine j_ishr C d_Ch_expand_28 ?_
        refine j_iconst (v := 1) C d_Ch_expand_29 (by decide) ?_
        refine j_iand C d_Ch_expand_30 ?_
        refine j_if_eq C d_Ch_expand_31 hf (fun hf => ?_) (fun hf => ?_)
        · refine j_sub [0, 1, 2, 3, 4, 5, 6] rfl ?_
          exact w_Ch_expand_b70 hY C (f_Ch_expand_l14 N μ n) ih x1 x2 x3 x4 x6 x8 hf
        · refine j_lload C d_Ch_expand_34 4 rfl ?_
          refine j_lload C d_Ch_expand_36 5 rfl ?_
          refine j_aload_n C d_Ch_expand_38 0 rfl ?_
          refine j_gS (b := 26) C fl_Ch_27 (kX hY rfl) (nX hY (by decide)) rfl hY.2.2.2.1 rfl (sX hY rfl) d_Ch_expand_39 ?_
          refine j_iload_n C d_Ch_expand_42 3 rfl ?_
          refine ck hf (fun hi1 hf => ?_)
          refine j_aldS C (kX hY rfl) (by decide) rfl rfl (nX hY (by decide)) (lX hY rfl) hi1 hY.2.2.2.1 rfl (sX hY rfl) d_Ch_expand_43 ?_
          refine j_iload C d_Ch_expand_44 6 rfl ?_
          refine ck hf (fun hi2 hf => ?_)
          refine j_iald C (teX_16 hY (kX hY rfl) (ibl hi1)).1 (teX_16 hY (kX hY rfl) (ibl hi1)).2.1 (teX_16 hY (kX hY rfl) (ibl hi1)).2.2 hi2 d_Ch_expand_46 ?_
          refine j_bipush (v := 20) C d_Ch_expand_47 (by decide) ?_
          refine j_iadd C d_Ch_expand_49 ?_
          refine j_i2l C d_Ch_expand_50 ?_
          refine j_lmul C d_Ch_expand_51 ?_
          refine j_aload_n C d_Ch_expand_52 0 rfl ?_
          refine j_iload_n C d_Ch_expand_53 1 rfl ?_
          refine j_iload_n C d_Ch_expand_54 2 rfl ?_
          refine j_iload_n C d_Ch_expand_55 3 rfl ?_
          refine j_iload C d_Ch_expand_56 6 rfl ?_
          refine bd hf (fun v3 hc6 hf => ?_)
          refine j_cV (rest := [.long (x6 * ((gI μ (srX 26 (ix x3)) (ix x8)) + 20).toInt64), .long x4]) C lk_Ch_87 (c_Ch_minor hY hc6) rfl (kX hY rfl) (nX hY (by decide)) (by decide) rfl rfl (by decide) rfl (Nat.le_of_ble_eq_true rfl) d_Ch_expand_58 ?_
          refine j_lmul C d_Ch_expand_61 ?_
          refine j_ladd C d_Ch_expand_62 ?_
          refine j_lstoreN (lvf := [(0, .ref (yad Y 23)), (1, .int x1), (2, .int x2), (3, .int x3), (6, .long x6), (8, .int x8)]) C d_Ch_expand_63 (by decide) rfl hf (fun v4 hf => ?_)
          refine j_lload C d_Ch_expand_65 5 rfl ?_
          refine j_lneg C d_Ch_expand_67 ?_
          refine j_lstoreN (lvf := [(4, .long v4), (0, .ref (yad Y 23)), (1, .int x1), (2, .int x2), (3, .int x3), (8, .int x8)]) C d_Ch_expand_68 (by decide) rfl hf (fun v5 hf => ?_)
          refine j_sub [2, 3, 4, 5, 1, 0, 6] rfl ?_
          exact w_Ch_expand_b70 hY C (f_Ch_expand_l14 N μ n) ih x1 x2 x3 v4 v5 x8 hf
theorem c_Ch_expand {l : Launch} {Y : Lay} (hY : IsX Y) {N : Nat} {μ : Mem} {x1 : Int32} {x2 : Int32} {r : Int64} (hf : f_Ch_expand N μ x1 x2 = some r) : Ct l Y y_Ch_expand b_Ch_expand 9 (some .long) 2 [.ref (yad Y 23), .int x1, .int x2] (some (.long r)) μ μ := by
  refine ct_of (own := "TopYard$Choice") (lv := [(0, .ref (yad Y 23)), (1, .int x1), (2, .int x2)]) (by decide +kernel) rfl (Nat.le_of_ble_eq_true rfl) rfl (fun X hl C => ?_)
  subst hl
  unfold f_Ch_expand at hf
  refine j_iload_n C d_Ch_expand_0 1 rfl ?_
  refine bd hf (fun v1 hc2 hf => ?_)
  refine j_cS (rest := []) C lk_Ch_84 (c_JI_numberOfTrailingZeros hY hc2) rfl (by decide) rfl (Nat.le_of_ble_eq_true rfl) d_Ch_expand_1 ?_
  refine j_istore_n (lvf := [(0, .ref (yad Y 23)), (1, .int x1), (2, .int x2)]) C d_Ch_expand_4 (by decide) rfl ?_
  refine j_lconst (v := 0) C d_Ch_expand_5 (by decide) ?_
  refine j_lstore (lvf := [(3, .int v1), (0, .ref (yad Y 23)), (1, .int x1), (2, .int x2)]) C d_Ch_expand_6 (by decide) rfl ?_
  refine j_lconst (v := 1) C d_Ch_expand_8 (by decide) ?_
  refine j_lstore (lvf := [(4, .long 0), (3, .int v1), (0, .ref (yad Y 23)), (1, .int x1), (2, .int x2)]) C d_Ch_expand_9 (by decide) rfl ?_
  refine j_iconst (v := 0) C d_Ch_expand_11 (by decide) ?_
  refine j_istore (lvf := [(6, .long 1), (4, .long 0), (3, .int v1), (0, .ref (yad Y 23)), (1, .int x1), (2, .int x2)]) C d_Ch_expand_12 (by decide) rfl ?_
  refine j_sub [4, 5, 6, 3, 2, 1, 0] rfl ?_
  exact w_Ch_expand_l14 hY C N x1 x2 v1 0 1 0 hf
theorem d_Ch_findDeterminants_0 : DC b_Ch_findDeterminants 0 (.aload_n 0) 1 1 := ⟨by decide +kernel, rfl⟩
theorem d_Ch_findDeterminants_1 : DC b_Ch_findDeterminants 1 (.getfield 37) 3 4 := ⟨by decide +kernel, rfl⟩
theorem d_Ch_findDeterminants_4 : DC b_Ch_findDeterminants 4 (.iconst 0) 1 5 := ⟨by decide +kernel, rfl⟩
theorem d_Ch_findDeterminants_5 : DC b_Ch_findDeterminants 5 (.lconst 1) 1 6 := ⟨by decide +kernel, rfl⟩
theorem d_Ch_findDeterminants_6 : DC b_Ch_findDeterminants 6 (.lastore) 1 7 := ⟨by decide +kernel, rfl⟩
theorem d_Ch_findDeterminants_7 : DC b_Ch_findDeterminants 7 (.iconst 1) 1 8 := ⟨by decide +kernel, rfl⟩
theorem d_Ch_findDeterminants_8 : DC b_Ch_findDeterminants 8 (.istore_n 1) 1 9 := ⟨by decide +kernel, rfl⟩
theorem d_Ch_findDeterminants_9 : DC b_Ch_findDeterminants 9 (.iload_n 1) 1 10 := ⟨by decide +kernel, rfl⟩
theorem d_Ch_findDeterminants_10 : DC b_Ch_findDeterminants 10 (.bipush 16) 2 12 := ⟨by decide +kernel, rfl⟩
theorem d_Ch_findDeterminants_12 : DB b_Ch_findDeterminants 12 (.if_icmp .ge 51) 51 63 15 := ⟨by decide +kernel, by decide, rfl⟩
theorem d_Ch_findDeterminants_15 : DC b_Ch_findDeterminants 15 (.iconst 1) 1 16 := ⟨by decide +kernel, rfl⟩
theorem d_Ch_findDeterminants_16 : DC b_Ch_findDeterminants 16 (.istore_n 2) 1 17 := ⟨by decide +kernel, rfl⟩
theorem d_Ch_findDeterminants_17 : DC b_Ch_findDeterminants 17 (.iload_n 2) 1 18 := ⟨by decide +kernel, rfl⟩
theorem d_Ch_findDeterminants_18 : DC b_Ch_findDeterminants 18 (.bipush 16) 2 20 := ⟨by decide +kernel, rfl⟩
theorem d_Ch_findDeterminants_20 : DB b_Ch_findDeterminants 20 (.if_icmp .ge 37) 37 57 23 := ⟨by decide +kernel, by decide, rfl⟩
theorem d_Ch_findDeterminants_23 : DC b_Ch_findDeterminants 23 (.iload_n 1) 1 24 := ⟨by decide +kernel, rfl⟩
theorem d_Ch_findDeterminants_24 : DC b_Ch_findDeterminants 24 (.invokestatic 74) 3 27 := ⟨by decide +kernel, rfl⟩
theorem d_Ch_findDeterminants_27 : DC b_Ch_findDeterminants 27 (.iload_n 2) 1 28 := ⟨by decide +kernel, rfl⟩
theorem d_Ch_findDeterminants_28 : DC b_Ch_findDeterminants 28 (.invokestatic 74) 3 31 := ⟨by decide +kernel, rfl⟩
theorem d_Ch_findDeterminants_31 : DB b_Ch_findDeterminants 31 (.if_icmp .ne 20) 20 51 34 := ⟨by decide +kernel, by decide, rfl⟩
theorem d_Ch_findDeterminants_34 : DC b_Ch_findDeterminants 34 (.aload_n 0) 1 35 := ⟨by decide +kernel, rfl⟩
theorem d_Ch_findDeterminants_35 : DC b_Ch_findDeterminants 35 (.getfield 37) 3 38 := ⟨by decide +kernel, rfl⟩
theorem d_Ch_findDeterminants_38 : DC b_Ch_findDeterminants 38 (.iload_n 1) 1 39 := ⟨by decide +kernel, rfl⟩
theorem d_Ch_findDeterminants_39 : DC b_Ch_findDeterminants 39 (.bipush 16) 2 41 := ⟨by decide +kernel, rfl⟩
theorem d_Ch_findDeterminants_41 : DC b_Ch_findDeterminants 41 (.imul) 1 42 := ⟨by decide +kernel, rfl⟩
theorem d_Ch_findDeterminants_42 : DC b_Ch_findDeterminants 42 (.iload_n 2) 1 43 := ⟨by decide +kernel, rfl⟩
theorem d_Ch_findDeterminants_43 : DC b_Ch_findDeterminants 43 (.iadd) 1 44 := ⟨by decide +kernel, rfl⟩
theorem d_Ch_findDeterminants_44 : DC b_Ch_findDeterminants 44 (.aload_n 0) 1 45 := ⟨by decide +kernel, rfl⟩
theorem d_Ch_findDeterminants_45 : DC b_Ch_findDeterminants 45 (.iload_n 1) 1 46 := ⟨by decide +kernel, rfl⟩
theorem d_Ch_findDeterminants_46 : DC b_Ch_findDeterminants 46 (.iload_n 2) 1 47 := ⟨by decide +kernel, rfl⟩
theorem d_Ch_findDeterminants_47 : DC b_Ch_findDeterminants 47 (.invokevirtual 80) 3 50 := ⟨by decide +kernel, rfl⟩
theorem d_Ch_findDeterminants_50 : DC b_Ch_findDeterminants 50 (.lastore) 1 51 := ⟨by decide +kernel, rfl⟩
theorem d_Ch_findDeterminants_51 : DC b_Ch_findDeterminants 51 (.iinc 2 1) 3 54 := ⟨by decide +kernel, rfl⟩
theorem d_Ch_findDeterminants_54 : DB b_Ch_findDeterminants 54 (.goto (-37)) (-37) 17 57 := ⟨by decide +kernel, by decide, rfl⟩
theorem d_Ch_findDeterminants_57 : DC b_Ch_findDeterminants 57 (.iinc 1 1) 3 60 := ⟨by decide +kernel, rfl⟩
theorem d_Ch_findDeterminants_60 : DB b_Ch_findDeterminants 60 (.goto (-51)) (-51) 9 63 := ⟨by decide +kernel, by decide, rfl⟩
theorem d_Ch_findDeterminants_63 : decode b_Ch_findDeterminants 63 = .ok (.return_, 1) := by decide +kernel
theorem w_Ch_findDeterminants_b51 {X : Ctx} {Y : Lay} (hY : IsX Y) (C : Cx X Y b_Ch_findDeterminants 3 none "TopYard$Choice" 3) {N : Nat} {r : Mem} (k9 : Int32 → Mem → Option (Mem)) (k17 : Int32 → Int32 → Mem → Option (Mem)) (hk9 : ∀ (x1 : Int32) (ν : Mem), k9 x1 ν = some r → J X Y none r 3 9 [(0, .ref (yad Y 23)), (1, .int x1)] [] ν) (hk17 : ∀ (x1 : Int32) (x2 : Int32) (ν : Mem), k17 x1 x2 ν = some r → J X Y none r 3 17 [(0, .ref (yad Y 23)), (1, .int x1), (2, .int x2)] [] ν) (x1 : Int32) (x2 : Int32) (μ : Mem) (hf : f_Ch_findDeterminants_b51 N k9 k17 x1 x2 μ = some r) : J X Y none r 3 51 [(0, .ref (yad Y 23)), (1, .int x1), (2, .int x2)] [] μ := by
  unfold f_Ch_findDeterminants_b51 at hf
  refine j_iinc (lvf := [(0, .ref (yad Y 23)), (1, .int x1)]) (v := 1) C d_Ch_findDeterminants_51 2 rfl (by decide) (by decide) rfl hf (fun v1 hf => ?_)
  refine j_goto C d_Ch_findDeterminants_54 ?_
  refine j_sub [1, 2, 0] rfl ?_
  exact hk17 x1 v1 μ hf
theorem w_Ch_findDeterminants_l17 {X : Ctx} {Y : Lay} (hY : IsX Y) (C : Cx X Y b_Ch_findDeterminants 3 none "TopYard$Choice" 3) {N : Nat} {r : Mem} (k9 : Int32 → Mem → Option (Mem)) (hk9 : ∀ (x1 : Int32) (ν : Mem), k9 x1 ν = some r → J X Y none r 3 9 [(0, .ref (yad Y 23)), (1, .int x1)] [] ν) : ∀ (n : Nat) (x1 : Int32) (x2 : Int32) (μ : Mem), f_Ch_findDeterminants_l17 N k9 n x1 x2 μ = some r → J X Y none r 3 17 [(0, .ref (yad Y 23)), (1, .int x1), (2, .int x2)] [] μ := by
  intro n
  induction n with
  | zero => intro x1 x2 μ hf; rw [f_Ch_findDeterminants_l17] at hf; cases hf
  | succ n ih =>
    intro x1 x2 μ hf
    rw [f_Ch_findDeterminants_l17] at hf
    refine j_iload_n C d_Ch_findDeterminants_17 2 rfl ?_
    refine j_bipush (v := 16) C d_Ch_findDeterminants_18 (by decide) ?_
    refine j_icmp_ge C d_Ch_findDeterminants_20 hf (fun hf => ?_) (fun hf => ?_)
    · refine j_iinc (lvf := [(0, .ref (yad Y 23)), (2, .int x2)]) (v := 1) C d_Ch_findDeterminants_57 1 rfl (by decide) (by decide) rfl hf (fun v1 hf => ?_)
      refine j_goto C d_Ch_findDeterminants_60 ?_
      refine j_sub [1, 0] rfl ?_
      exact hk9 v1 μ hf
    · refine j_iload_n C d_Ch_findDeterminants_23 1 rfl ?_
      refine bd hf (fun v2 hc9 hf => ?_)
      refine j_cS (rest := []) C lk_Ch_74 (c_JI_bitCount hY hc9) rfl (by decide) rfl (Nat.le_of_ble_eq_true rfl) d_Ch_findDeterminants_24 ?_
      refine j_iload_n C d_Ch_findDeterminants_27 2 rfl ?_
      refine bd hf (fun v3 hc8 hf => ?_)
      refine j_cS (rest := [.int v2]) C lk_Ch_74 (c_JI_bitCount hY hc8) rfl (by decide) rfl (Nat.le_of_ble_eq_true rfl) d_Ch_findDeterminants_28 ?_
      refine j_icmp_ne C d_Ch_findDeterminants_31 hf (fun hf => ?_) (fun hf => ?_)
      · refine j_sub [0, 1, 2] rfl ?_
        exact w_Ch_findDeterminants_b51 hY C k9 (f_Ch_findDeterminants_l17 N k9 n) hk9 ih x1 x2 μ hf
      · refine j_aload_n C d_Ch_findDeterminants_34 0 rfl ?_
        refine j_gS (b := 33) C fl_Ch_37 (kX hY rfl) (nX hY (by decide)) rfl hY.2.2.2.1 rfl (sX hY rfl) d_Ch_findDeterminants_35 ?_
        refine j_iload_n C d_Ch_findDeterminants_38 1 rfl ?_
        refine j_bipush (v := 16) C d_Ch_findDeterminants_39 (by decide) ?_
        refine j_imul C d_Ch_findDeterminants_41 ?_
        refine j_iload_n C d_Ch_findDeterminants_42 2 rfl ?_
        refine j_iadd C d_Ch_findDeterminants_43 ?_
        refine j_aload_n C d_Ch_findDeterminants_44 0 rfl ?_
        refine j_iload_n C d_Ch_findDeterminants_45 1 rfl ?_
        refine j_iload_n C d_Ch_findDeterminants_46 2 rfl ?_
        refine bd hf (fun v4 hc7 hf => ?_)
        refine j_cV (rest := [.int ((x1 * 16) + x2), .ref (yad Y 33)]) C lk_Ch_80 (c_Ch_expand hY hc7) rfl (kX hY rfl) (nX hY (by decide)) (by decide) rfl rfl (by decide) rfl (Nat.le_of_ble_eq_true rfl) d_Ch_findDeterminants_47 ?_
        refine ck hf (fun hi5 hf => ?_)
        refine j_last C (kX hY rfl) (nX hY (by decide)) (lX hY rfl) hi5 d_Ch_findDeterminants_50 hf (fun μ6 hf => ?_)
        refine j_sub [0, 1, 2] rfl ?_
        exact w_Ch_findDeterminants_b51 hY C k9 (f_Ch_findDeterminants_l17 N k9 n) hk9 ih x1 x2 μ6 hf
theorem w_Ch_findDeterminants_l9 {X : Ctx} {Y : Lay} (hY : IsX Y) (C : Cx X Y b_Ch_findDeterminants 3 none "TopYard$Choice" 3) {N : Nat} {r : Mem} : ∀ (n : Nat) (x1 : Int32) (μ : Mem), f_Ch_findDeterminants_l9 N n x1 μ = some r → J X Y none r 3 9 [(0, .ref (yad Y 23)), (1, .int x1)] [] μ := by
  intro n
  induction n with
  | zero => intro x1 μ hf; rw [f_Ch_findDeterminants_l9] at hf; cases hf
  | succ n ih =>
    intro x1 μ hf
    rw [f_Ch_findDeterminants_l9] at hf
    refine j_iload_n C d_Ch_findDeterminants_9 1 rfl ?_
    refine j_bipush (v := 16) C d_Ch_findDeterminants_10 (by decide) ?_
    refine j_icmp_ge C d_Ch_findDeterminants_12 hf (fun hf => ?_) (fun hf => ?_)
    · obtain rfl := Option.some.inj hf
      exact j_vret C d_Ch_findDeterminants_63
    · refine j_iconst (v := 1) C d_Ch_findDeterminants_15 (by decide) ?_
      refine j_istore_n (lvf := [(0, .ref (yad Y 23)), (1, .int x1)]) C d_Ch_findDeterminants_16 (by decide) rfl ?_
      refine j_sub [1, 2, 0] rfl ?_
      exact w_Ch_findDeterminants_l17 hY C (f_Ch_findDeterminants_l9 N n) ih N x1 1 μ hf
theorem c_Ch_findDeterminants {l : Launch} {Y : Lay} (hY : IsX Y) {N : Nat} {μ : Mem} {r : Mem} (hf : f_Ch_findDeterminants N μ = some r) : Ct l Y y_Ch_findDeterminants b_Ch_findDeterminants 3 none 3 [.ref (yad Y 23)] none μ r := by
  refine ct_of (own := "TopYard$Choice") (lv := [(0, .ref (yad Y 23))]) (by decide +kernel) rfl (Nat.le_of_ble_eq_true rfl) rfl (fun X hl C => ?_)
  subst hl
  unfold f_Ch_findDeterminants at hf
  refine j_aload_n C d_Ch_findDeterminants_0 0 rfl ?_
  refine j_gS (b := 33) C fl_Ch_37 (kX hY rfl) (nX hY (by decide)) rfl hY.2.2.2.1 rfl (sX hY rfl) d_Ch_findDeterminants_1 ?_
  refine j_iconst (v := 0) C d_Ch_findDeterminants_4 (by decide) ?_
  refine j_lconst (v := 1) C d_Ch_findDeterminants_5 (by decide) ?_
  refine ck hf (fun hi1 hf => ?_)
  refine j_last C (kX hY rfl) (nX hY (by decide)) (lX hY rfl) hi1 d_Ch_findDeterminants_6 hf (fun μ2 hf => ?_)
  refine j_iconst (v := 1) C d_Ch_findDeterminants_7 (by decide) ?_
  refine j_istore_n (lvf := [(0, .ref (yad Y 23))]) C d_Ch_findDeterminants_8 (by decide) rfl ?_
  refine j_sub [1, 0] rfl ?_
  exact w_Ch_findDeterminants_l9 hY C N 1 μ2 hf

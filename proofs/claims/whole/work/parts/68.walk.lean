theorem d_M_expectedOf_0 : DC b_M_expectedOf 0 (.aload_n 0) 1 1 := ⟨by decide +kernel, rfl⟩
theorem d_M_expectedOf_1 : DC b_M_expectedOf 1 (.iload_n 1) 1 2 := ⟨by decide +kernel, rfl⟩
theorem d_M_expectedOf_2 : DC b_M_expectedOf 2 (.iload_n 2) 1 3 := ⟨by decide +kernel, rfl⟩
theorem d_M_expectedOf_3 : DC b_M_expectedOf 3 (.bipush 30) 2 5 := ⟨by decide +kernel, rfl⟩
theorem d_M_expectedOf_5 : DC b_M_expectedOf 5 (.iconst (-1)) 1 6 := ⟨by decide +kernel, rfl⟩
theorem d_M_expectedOf_6 : DC b_M_expectedOf 6 (.invokevirtual 298) 3 9 := ⟨by decide +kernel, rfl⟩
theorem d_M_expectedOf_9 : decode b_M_expectedOf 9 = .ok (.ireturn, 1) := by decide +kernel
theorem c_M_expectedOf {l : Launch} {Y : Lay} (hY : IsM Y) {N : Nat} {μ : Mem} {x1 : Int32} {x2 : Int32} {r : Int32 × Mem} (hf : f_M_expectedOf N μ x1 x2 = some r) : Ct l Y y_M_expectedOf b_M_expectedOf 3 (some .int) 7 [.ref (yad Y 0), .int x1, .int x2] (some (.int r.1)) μ r.2 := by
  refine ct_of (own := "TopYardModel") (lv := [(0, .ref (yad Y 0)), (1, .int x1), (2, .int x2)]) (by decide +kernel) rfl (Nat.le_of_ble_eq_true rfl) rfl (fun X hl C => ?_)
  subst hl
  unfold f_M_expectedOf at hf
  refine j_aload_n C d_M_expectedOf_0 0 rfl ?_
  refine j_iload_n C d_M_expectedOf_1 1 rfl ?_
  refine j_iload_n C d_M_expectedOf_2 2 rfl ?_
  refine j_bipush (v := 30) C d_M_expectedOf_3 (by decide) ?_
  refine j_iconst (v := (-1)) C d_M_expectedOf_5 (by decide) ?_
  refine bd2 hf (fun v1 μ2 hc3 hf => ?_)
  refine j_cV (rest := []) C lk_M_298 (c_M_comesTo hY hc3) rfl (kM hY rfl) (nM hY (by decide)) (by decide) rfl rfl (by decide) rfl (Nat.le_of_ble_eq_true rfl) d_M_expectedOf_6 ?_
  obtain rfl := Option.some.inj hf
  exact j_iret C d_M_expectedOf_9
theorem d_M_expected_0 : DC b_M_expected 0 (.aload_n 0) 1 1 := ⟨by decide +kernel, rfl⟩
theorem d_M_expected_1 : DC b_M_expected 1 (.iload_n 1) 1 2 := ⟨by decide +kernel, rfl⟩
theorem d_M_expected_2 : DC b_M_expected 2 (.invokevirtual 190) 3 5 := ⟨by decide +kernel, rfl⟩
theorem d_M_expected_5 : DB b_M_expected 5 (.ifCond .eq 20) 20 25 8 := ⟨by decide +kernel, by decide, rfl⟩
theorem d_M_expected_8 : DC b_M_expected 8 (.aload_n 0) 1 9 := ⟨by decide +kernel, rfl⟩
theorem d_M_expected_9 : DC b_M_expected 9 (.iload_n 2) 1 10 := ⟨by decide +kernel, rfl⟩
theorem d_M_expected_10 : DC b_M_expected 10 (.invokevirtual 190) 3 13 := ⟨by decide +kernel, rfl⟩
theorem d_M_expected_13 : DB b_M_expected 13 (.ifCond .eq 12) 12 25 16 := ⟨by decide +kernel, by decide, rfl⟩
theorem d_M_expected_16 : DC b_M_expected 16 (.aload_n 0) 1 17 := ⟨by decide +kernel, rfl⟩
theorem d_M_expected_17 : DC b_M_expected 17 (.iload_n 1) 1 18 := ⟨by decide +kernel, rfl⟩
theorem d_M_expected_18 : DC b_M_expected 18 (.iload_n 2) 1 19 := ⟨by decide +kernel, rfl⟩
theorem d_M_expected_19 : DC b_M_expected 19 (.invokevirtual 302) 3 22 := ⟨by decide +kernel, rfl⟩
theorem d_M_expected_22 : DB b_M_expected 22 (.goto 5) 5 27 25 := ⟨by decide +kernel, by decide, rfl⟩
theorem d_M_expected_25 : DC b_M_expected 25 (.bipush (-100)) 2 27 := ⟨by decide +kernel, rfl⟩
theorem d_M_expected_27 : decode b_M_expected 27 = .ok (.ireturn, 1) := by decide +kernel
theorem c_M_expected {l : Launch} {Y : Lay} (hY : IsM Y) {N : Nat} {μ : Mem} {x1 : Int32} {x2 : Int32} {r : Int32 × Mem} (hf : f_M_expected N μ x1 x2 = some r) : Ct l Y y_M_expected b_M_expected 3 (some .int) 8 [.ref (yad Y 0), .int x1, .int x2] (some (.int r.1)) μ r.2 := by
  refine ct_of (own := "TopYardModel") (lv := [(0, .ref (yad Y 0)), (1, .int x1), (2, .int x2)]) (by decide +kernel) rfl (Nat.le_of_ble_eq_true rfl) rfl (fun X hl C => ?_)
  subst hl
  unfold f_M_expected at hf
  refine j_aload_n C d_M_expected_0 0 rfl ?_
  refine j_iload_n C d_M_expected_1 1 rfl ?_
  refine bd hf (fun v1 hc7 hf => ?_)
  refine j_cV (rest := []) C lk_M_190 (c_M_isTop hY hc7) rfl (kM hY rfl) (nM hY (by decide)) (by decide) rfl rfl (by decide) rfl (Nat.le_of_ble_eq_true rfl) d_M_expected_2 ?_
  refine j_if_eq C d_M_expected_5 hf (fun hf => ?_) (fun hf => ?_)
  · refine j_bipush (v := (-100)) C d_M_expected_25 (by decide) ?_
    obtain rfl := Option.some.inj hf
    exact j_iret C d_M_expected_27
  · refine j_aload_n C d_M_expected_8 0 rfl ?_
    refine j_iload_n C d_M_expected_9 2 rfl ?_
    refine bd hf (fun v2 hc6 hf => ?_)
    refine j_cV (rest := []) C lk_M_190 (c_M_isTop hY hc6) rfl (kM hY rfl) (nM hY (by decide)) (by decide) rfl rfl (by decide) rfl (Nat.le_of_ble_eq_true rfl) d_M_expected_10 ?_
    refine j_if_eq C d_M_expected_13 hf (fun hf => ?_) (fun hf => ?_)
    · refine j_bipush (v := (-100)) C d_M_expected_25 (by decide) ?_
      obtain rfl := Option.some.inj hf
      exact j_iret C d_M_expected_27
    · refine j_aload_n C d_M_expected_16 0 rfl ?_
      refine j_iload_n C d_M_expected_17 1 rfl ?_
      refine j_iload_n C d_M_expected_18 2 rfl ?_
      refine bd2 hf (fun v3 μ4 hc5 hf => ?_)
      refine j_cV (rest := []) C lk_M_302 (c_M_expectedOf hY hc5) rfl (kM hY rfl) (nM hY (by decide)) (by decide) rfl rfl (by decide) rfl (Nat.le_of_ble_eq_true rfl) d_M_expected_19 ?_
      refine j_goto C d_M_expected_22 ?_
      obtain rfl := Option.some.inj hf
      exact j_iret C d_M_expected_27
theorem d_M_choose_0 : DC b_M_choose 0 (.aload_n 0) 1 1 := ⟨by decide +kernel, rfl⟩
theorem d_M_choose_1 : DC b_M_choose 1 (.getfield 305) 3 4 := ⟨by decide +kernel, rfl⟩
theorem d_M_choose_4 : DC b_M_choose 4 (.aload_n 0) 1 5 := ⟨by decide +kernel, rfl⟩
theorem d_M_choose_5 : DC b_M_choose 5 (.getfield 308) 3 8 := ⟨by decide +kernel, rfl⟩
theorem d_M_choose_8 : DC b_M_choose 8 (.iadd) 1 9 := ⟨by decide +kernel, rfl⟩
theorem d_M_choose_9 : DC b_M_choose 9 (.istore_n 1) 1 10 := ⟨by decide +kernel, rfl⟩
theorem d_M_choose_10 : DC b_M_choose 10 (.aload_n 0) 1 11 := ⟨by decide +kernel, rfl⟩
theorem d_M_choose_11 : DC b_M_choose 11 (.iconst 0) 1 12 := ⟨by decide +kernel, rfl⟩
theorem d_M_choose_12 : DC b_M_choose 12 (.putfield 305) 3 15 := ⟨by decide +kernel, rfl⟩
theorem d_M_choose_15 : DC b_M_choose 15 (.aload_n 0) 1 16 := ⟨by decide +kernel, rfl⟩
theorem d_M_choose_16 : DC b_M_choose 16 (.iconst 0) 1 17 := ⟨by decide +kernel, rfl⟩
theorem d_M_choose_17 : DC b_M_choose 17 (.putfield 308) 3 20 := ⟨by decide +kernel, rfl⟩
theorem d_M_choose_20 : DC b_M_choose 20 (.iload_n 1) 1 21 := ⟨by decide +kernel, rfl⟩
theorem d_M_choose_21 : decode b_M_choose 21 = .ok (.ireturn, 1) := by decide +kernel
theorem c_M_choose {l : Launch} {Y : Lay} (hY : IsM Y) {μ : Mem} {r : Int32 × Mem} (hf : f_M_choose μ = some r) : Ct l Y y_M_choose b_M_choose 2 (some .int) 1 [.ref (yad Y 0)] (some (.int r.1)) μ r.2 := by
  refine ct_of (own := "TopYardModel") (lv := [(0, .ref (yad Y 0))]) (by decide +kernel) rfl (Nat.le_of_ble_eq_true rfl) rfl (fun X hl C => ?_)
  subst hl
  unfold f_M_choose at hf
  refine j_aload_n C d_M_choose_0 0 rfl ?_
  refine j_gI C fl_M_305 (kM hY rfl) (nM hY (by decide)) rfl d_M_choose_1 ?_
  refine j_aload_n C d_M_choose_4 0 rfl ?_
  refine j_gI C fl_M_308 (kM hY rfl) (nM hY (by decide)) rfl d_M_choose_5 ?_
  refine j_iadd C d_M_choose_8 ?_
  refine j_istore_nN (lvf := [(0, .ref (yad Y 0))]) C d_M_choose_9 (by decide) rfl hf (fun v1 hf => ?_)
  refine j_aload_n C d_M_choose_10 1 rfl ?_
  refine j_iconst (v := 0) C d_M_choose_11 (by decide) ?_
  refine j_pI C fl_M_305 (kM hY rfl) (nM hY (by decide)) rfl rfl rfl d_M_choose_12 hf (fun μ2 hf => ?_)
  refine j_aload_n C d_M_choose_15 1 rfl ?_
  refine j_iconst (v := 0) C d_M_choose_16 (by decide) ?_
  refine j_pI C fl_M_308 (kM hY rfl) (nM hY (by decide)) rfl rfl rfl d_M_choose_17 hf (fun μ3 hf => ?_)
  refine j_iload_n C d_M_choose_20 0 rfl ?_
  obtain rfl := Option.some.inj hf
  exact j_iret C d_M_choose_21
theorem d_M_among_0 : DC b_M_among 0 (.iload_n 1) 1 1 := ⟨by decide +kernel, rfl⟩
theorem d_M_among_1 : DC b_M_among 1 (.i2l) 1 2 := ⟨by decide +kernel, rfl⟩
theorem d_M_among_2 : DC b_M_among 2 (.lconst 0) 1 3 := ⟨by decide +kernel, rfl⟩
theorem d_M_among_3 : DC b_M_among 3 (.lconst 1) 1 4 := ⟨by decide +kernel, rfl⟩
theorem d_M_among_4 : DC b_M_among 4 (.invokestatic 164) 3 7 := ⟨by decide +kernel, rfl⟩
theorem d_M_among_7 : DB b_M_among 7 (.ifCond .eq 11) 11 18 10 := ⟨by decide +kernel, by decide, rfl⟩
theorem d_M_among_10 : DC b_M_among 10 (.aload_n 0) 1 11 := ⟨by decide +kernel, rfl⟩
theorem d_M_among_11 : DC b_M_among 11 (.iload_n 2) 1 12 := ⟨by decide +kernel, rfl⟩
theorem d_M_among_12 : DC b_M_among 12 (.invokevirtual 190) 3 15 := ⟨by decide +kernel, rfl⟩
theorem d_M_among_15 : DB b_M_among 15 (.ifCond .ne 6) 6 21 18 := ⟨by decide +kernel, by decide, rfl⟩
theorem d_M_among_18 : DC b_M_among 18 (.bipush (-2)) 2 20 := ⟨by decide +kernel, rfl⟩
theorem d_M_among_20 : decode b_M_among 20 = .ok (.ireturn, 1) := by decide +kernel
theorem d_M_among_21 : DC b_M_among 21 (.iload_n 1) 1 22 := ⟨by decide +kernel, rfl⟩
theorem d_M_among_22 : DB b_M_among 22 (.ifCond .ne 10) 10 32 25 := ⟨by decide +kernel, by decide, rfl⟩
theorem d_M_among_25 : DC b_M_among 25 (.aload_n 0) 1 26 := ⟨by decide +kernel, rfl⟩
theorem d_M_among_26 : DC b_M_among 26 (.getfield 305) 3 29 := ⟨by decide +kernel, rfl⟩
theorem d_M_among_29 : DB b_M_among 29 (.goto 7) 7 36 32 := ⟨by decide +kernel, by decide, rfl⟩
theorem d_M_among_32 : DC b_M_among 32 (.aload_n 0) 1 33 := ⟨by decide +kernel, rfl⟩
theorem d_M_among_33 : DC b_M_among 33 (.getfield 308) 3 36 := ⟨by decide +kernel, rfl⟩
theorem d_M_among_36 : DC b_M_among 36 (.istore_n 3) 1 37 := ⟨by decide +kernel, rfl⟩
theorem d_M_among_37 : DC b_M_among 37 (.iload_n 3) 1 38 := ⟨by decide +kernel, rfl⟩
theorem d_M_among_38 : DC b_M_among 38 (.iconst 4) 1 39 := ⟨by decide +kernel, rfl⟩
theorem d_M_among_39 : DB b_M_among 39 (.if_icmp .ne 6) 6 45 42 := ⟨by decide +kernel, by decide, rfl⟩
theorem d_M_among_42 : DC b_M_among 42 (.bipush (-4)) 2 44 := ⟨by decide +kernel, rfl⟩
theorem d_M_among_44 : decode b_M_among 44 = .ok (.ireturn, 1) := by decide +kernel
theorem d_M_among_45 : DC b_M_among 45 (.iconst 0) 1 46 := ⟨by decide +kernel, rfl⟩
theorem d_M_among_46 : DC b_M_among 46 (.istore 4) 2 48 := ⟨by decide +kernel, rfl⟩
theorem d_M_among_48 : DC b_M_among 48 (.iload 4) 2 50 := ⟨by decide +kernel, rfl⟩
theorem d_M_among_50 : DC b_M_among 50 (.iconst 4) 1 51 := ⟨by decide +kernel, rfl⟩
theorem d_M_among_51 : DB b_M_among 51 (.if_icmp .ge 34) 34 85 54 := ⟨by decide +kernel, by decide, rfl⟩
theorem d_M_among_54 : DC b_M_among 54 (.aload_n 0) 1 55 := ⟨by decide +kernel, rfl⟩
theorem d_M_among_55 : DC b_M_among 55 (.getfield 108) 3 58 := ⟨by decide +kernel, rfl⟩
theorem d_M_among_58 : DC b_M_among 58 (.iload_n 1) 1 59 := ⟨by decide +kernel, rfl⟩
theorem d_M_among_59 : DB b_M_among 59 (.ifCond .ne 12) 12 71 62 := ⟨by decide +kernel, by decide, rfl⟩
theorem d_M_among_62 : DC b_M_among 62 (.iconst 4) 1 63 := ⟨by decide +kernel, rfl⟩
theorem d_M_among_63 : DC b_M_among 63 (.iload_n 3) 1 64 := ⟨by decide +kernel, rfl⟩
theorem d_M_among_64 : DC b_M_among 64 (.imul) 1 65 := ⟨by decide +kernel, rfl⟩
theorem d_M_among_65 : DC b_M_among 65 (.iload 4) 2 67 := ⟨by decide +kernel, rfl⟩
theorem d_M_among_67 : DC b_M_among 67 (.iadd) 1 68 := ⟨by decide +kernel, rfl⟩
theorem d_M_among_68 : DB b_M_among 68 (.goto 9) 9 77 71 := ⟨by decide +kernel, by decide, rfl⟩
theorem d_M_among_71 : DC b_M_among 71 (.iconst 4) 1 72 := ⟨by decide +kernel, rfl⟩
theorem d_M_among_72 : DC b_M_among 72 (.iload 4) 2 74 := ⟨by decide +kernel, rfl⟩
theorem d_M_among_74 : DC b_M_among 74 (.imul) 1 75 := ⟨by decide +kernel, rfl⟩
theorem d_M_among_75 : DC b_M_among 75 (.iload_n 3) 1 76 := ⟨by decide +kernel, rfl⟩
theorem d_M_among_76 : DC b_M_among 76 (.iadd) 1 77 := ⟨by decide +kernel, rfl⟩
theorem d_M_among_77 : DC b_M_among 77 (.iconst 0) 1 78 := ⟨by decide +kernel, rfl⟩
theorem d_M_among_78 : DC b_M_among 78 (.iastore) 1 79 := ⟨by decide +kernel, rfl⟩
theorem d_M_among_79 : DC b_M_among 79 (.iinc 4 1) 3 82 := ⟨by decide +kernel, rfl⟩
theorem d_M_among_82 : DB b_M_among 82 (.goto (-34)) (-34) 48 85 := ⟨by decide +kernel, by decide, rfl⟩
theorem d_M_among_85 : DC b_M_among 85 (.iload_n 1) 1 86 := ⟨by decide +kernel, rfl⟩
theorem d_M_among_86 : DB b_M_among 86 (.ifCond .ne 23) 23 109 89 := ⟨by decide +kernel, by decide, rfl⟩
theorem d_M_among_89 : DC b_M_among 89 (.aload_n 0) 1 90 := ⟨by decide +kernel, rfl⟩
theorem d_M_among_90 : DC b_M_among 90 (.getfield 102) 3 93 := ⟨by decide +kernel, rfl⟩
theorem d_M_among_93 : DC b_M_among 93 (.iload_n 3) 1 94 := ⟨by decide +kernel, rfl⟩
theorem d_M_among_94 : DC b_M_among 94 (.iload_n 2) 1 95 := ⟨by decide +kernel, rfl⟩
theorem d_M_among_95 : DC b_M_among 95 (.iastore) 1 96 := ⟨by decide +kernel, rfl⟩
theorem d_M_among_96 : DC b_M_among 96 (.aload_n 0) 1 97 := ⟨by decide +kernel, rfl⟩
theorem d_M_among_97 : DC b_M_among 97 (.dup) 1 98 := ⟨by decide +kernel, rfl⟩
theorem d_M_among_98 : DC b_M_among 98 (.getfield 305) 3 101 := ⟨by decide +kernel, rfl⟩
theorem d_M_among_101 : DC b_M_among 101 (.iconst 1) 1 102 := ⟨by decide +kernel, rfl⟩
theorem d_M_among_102 : DC b_M_among 102 (.iadd) 1 103 := ⟨by decide +kernel, rfl⟩
theorem d_M_among_103 : DC b_M_among 103 (.putfield 305) 3 106 := ⟨by decide +kernel, rfl⟩
theorem d_M_among_106 : DB b_M_among 106 (.goto 20) 20 126 109 := ⟨by decide +kernel, by decide, rfl⟩
theorem d_M_among_109 : DC b_M_among 109 (.aload_n 0) 1 110 := ⟨by decide +kernel, rfl⟩
theorem d_M_among_110 : DC b_M_among 110 (.getfield 105) 3 113 := ⟨by decide +kernel, rfl⟩
theorem d_M_among_113 : DC b_M_among 113 (.iload_n 3) 1 114 := ⟨by decide +kernel, rfl⟩
theorem d_M_among_114 : DC b_M_among 114 (.iload_n 2) 1 115 := ⟨by decide +kernel, rfl⟩
theorem d_M_among_115 : DC b_M_among 115 (.iastore) 1 116 := ⟨by decide +kernel, rfl⟩
theorem d_M_among_116 : DC b_M_among 116 (.aload_n 0) 1 117 := ⟨by decide +kernel, rfl⟩
theorem d_M_among_117 : DC b_M_among 117 (.dup) 1 118 := ⟨by decide +kernel, rfl⟩
theorem d_M_among_118 : DC b_M_among 118 (.getfield 308) 3 121 := ⟨by decide +kernel, rfl⟩
theorem d_M_among_121 : DC b_M_among 121 (.iconst 1) 1 122 := ⟨by decide +kernel, rfl⟩
theorem d_M_among_122 : DC b_M_among 122 (.iadd) 1 123 := ⟨by decide +kernel, rfl⟩
theorem d_M_among_123 : DC b_M_among 123 (.putfield 308) 3 126 := ⟨by decide +kernel, rfl⟩
theorem d_M_among_126 : DC b_M_among 126 (.iload_n 3) 1 127 := ⟨by decide +kernel, rfl⟩
theorem d_M_among_127 : DC b_M_among 127 (.iconst 1) 1 128 := ⟨by decide +kernel, rfl⟩
theorem d_M_among_128 : DC b_M_among 128 (.iadd) 1 129 := ⟨by decide +kernel, rfl⟩
theorem d_M_among_129 : decode b_M_among 129 = .ok (.ireturn, 1) := by decide +kernel
theorem w_M_among_b77 {X : Ctx} {Y : Lay} (hY : IsM Y) (C : Cx X Y b_M_among 5 (some .int) "TopYardModel" 3) {N : Nat} {r : Int32 × Mem} (k48 : Int32 → Int32 → Int32 → Int32 → Mem → Option (Int32 × Mem)) (hk48 : ∀ (x1 : Int32) (x2 : Int32) (x3 : Int32) (x4 : Int32) (ν : Mem), k48 x1 x2 x3 x4 ν = some r → J X Y (some (.int r.1)) r.2 5 48 [(0, .ref (yad Y 0)), (1, .int x1), (2, .int x2), (3, .int x3), (4, .int x4)] [] ν) (x1 : Int32) (x2 : Int32) (x3 : Int32) (x4 : Int32) (xs0 : Int32) (μ : Mem) (hf : f_M_among_b77 N k48 x1 x2 x3 x4 xs0 μ = some r) : J X Y (some (.int r.1)) r.2 5 77 [(0, .ref (yad Y 0)), (1, .int x1), (2, .int x2), (3, .int x3), (4, .int x4)] [.int xs0, .ref (yad Y 31)] μ := by
  unfold f_M_among_b77 at hf
  refine j_iconst (v := 0) C d_M_among_77 (by decide) ?_
  refine ck hf (fun hi1 hf => ?_)
  refine j_iast C (kM hY rfl) (nM hY (by decide)) (lM hY rfl) hi1 d_M_among_78 hf (fun μ2 hf => ?_)
  refine j_iinc (lvf := [(0, .ref (yad Y 0)), (1, .int x1), (2, .int x2), (3, .int x3)]) (v := 1) C d_M_among_79 4 rfl (by decide) (by decide) rfl hf (fun v3 hf => ?_)
  refine j_goto C d_M_among_82 ?_
  refine j_sub [1, 2, 3, 4, 0] rfl ?_
  exact hk48 x1 x2 x3 v3 μ2 hf
theorem w_M_among_l48 {X : Ctx} {Y : Lay} (hY : IsM Y) (C : Cx X Y b_M_among 5 (some .int) "TopYardModel" 3) {N : Nat} {r : Int32 × Mem} : ∀ (n : Nat) (x1 : Int32) (x2 : Int32) (x3 : Int32) (x4 : Int32) (μ : Mem), f_M_among_l48 N n x1 x2 x3 x4 μ = some r → J X Y (some (.int r.1)) r.2 5 48 [(0, .ref (yad Y 0)), (1, .int x1), (2, .int x2), (3, .int x3), (4, .int x4)] [] μ := by
  intro n
  induction n with
  | zero => intro x1 x2 x3 x4 μ hf; rw [f_M_among_l48] at hf; cases hf
  | succ n ih =>
    intro x1 x2 x3 x4 μ hf
    rw [f_M_among_l48] at hf
    refine j_iload C d_M_among_48 4 rfl ?_
    refine j_iconst (v := 4) C d_M_among_50 (by decide) ?_
    refine j_icmp_ge C d_M_among_51 hf (fun hf => ?_) (fun hf => ?_)
    · refine j_iload_n C d_M_among_85 1 rfl ?_
      refine j_if_ne C d_M_among_86 hf (fun hf => ?_) (fun hf => ?_)
      · refine j_aload_n C d_M_among_109 0 rfl ?_
        refine j_gS (b := 30) C fl_M_105 (kM hY rfl) (nM hY (by decide)) rfl hY.2.2.2.1 rfl (sM hY rfl) d_M_among_110 ?_
        refine j_iload_n C d_M_among_113 3 rfl ?_
        refine j_iload_n C d_M_among_114 2 rfl ?_
        refine ck hf (fun hi1 hf => ?_)
        refine j_iast C (kM hY rfl) (nM hY (by decide)) (lM hY rfl) hi1 d_M_among_115 hf (fun μ2 hf => ?_)
        refine j_aload_n C d_M_among_116 0 rfl ?_
        refine j_dup C d_M_among_117 rfl ?_
        refine j_gI C fl_M_308 (kM hY rfl) (nM hY (by decide)) rfl d_M_among_118 ?_
        refine j_iconst (v := 1) C d_M_among_121 (by decide) ?_
        refine j_iadd C d_M_among_122 ?_
        refine j_pI C fl_M_308 (kM hY rfl) (nM hY (by decide)) rfl rfl rfl d_M_among_123 hf (fun μ3 hf => ?_)
        refine j_iload_n C d_M_among_126 3 rfl ?_
        refine j_iconst (v := 1) C d_M_among_127 (by decide) ?_
        refine j_iadd C d_M_among_128 ?_
        obtain rfl := Option.some.inj hf
        exact j_iret C d_M_among_129
      · refine j_aload_n C d_M_among_89 0 rfl ?_
        refine j_gS (b := 29) C fl_M_102 (kM hY rfl) (nM hY (by decide)) rfl hY.2.2.2.1 rfl (sM hY rfl) d_M_among_90 ?_
        refine j_iload_n C d_M_among_93 3 rfl ?_
        refine j_iload_n C d_M_among_94 2 rfl ?_
        refine ck hf (fun hi4 hf => ?_)
        refine j_iast C (kM hY rfl) (nM hY (by decide)) (lM hY rfl) hi4 d_M_among_95 hf (fun μ5 hf => ?_)
        refine j_aload_n C d_M_among_96 0 rfl ?_
        refine j_dup C d_M_among_97 rfl ?_
        refine j_gI C fl_M_305 (kM hY rfl) (nM hY (by decide)) rfl d_M_among_98 ?_
        refine j_iconst (v := 1) C d_M_among_101 (by decide) ?_
        refine j_iadd C d_M_among_102 ?_
        refine j_pI C fl_M_305 (kM hY rfl) (nM hY (by decide)) rfl rfl rfl d_M_among_103 hf (fun μ6 hf => ?_)
        refine j_goto C d_M_among_106 ?_
        refine j_iload_n C d_M_among_126 3 rfl ?_
        refine j_iconst (v := 1) C d_M_among_127 (by decide) ?_
        refine j_iadd C d_M_among_128 ?_
        obtain rfl := Option.some.inj hf
        exact j_iret C d_M_among_129
    · refine j_aload_n C d_M_among_54 0 rfl ?_
      refine j_gS (b := 31) C fl_M_108 (kM hY rfl) (nM hY (by decide)) rfl hY.2.2.2.1 rfl (sM hY rfl) d_M_among_55 ?_
      refine j_iload_n C d_M_among_58 1 rfl ?_
      refine j_if_ne C d_M_among_59 hf (fun hf => ?_) (fun hf => ?_)
      · refine j_iconst (v := 4) C d_M_among_71 (by decide) ?_
        refine j_iload C d_M_among_72 4 rfl ?_
        refine j_imul C d_M_among_74 ?_
        refine j_iload_n C d_M_among_75 3 rfl ?_
        refine j_iadd C d_M_among_76 ?_
        refine j_sub [0, 1, 2, 3, 4] rfl ?_
        exact w_M_among_b77 hY C (f_M_among_l48 N n) ih x1 x2 x3 x4 (((4 : Int32) * x4) + x3) μ hf
      · refine j_iconst (v := 4) C d_M_among_62 (by decide) ?_
        refine j_iload_n C d_M_among_63 3 rfl ?_
        refine j_imul C d_M_among_64 ?_
        refine j_iload C d_M_among_65 4 rfl ?_
        refine j_iadd C d_M_among_67 ?_
        refine j_goto C d_M_among_68 ?_
        refine j_sub [0, 1, 2, 3, 4] rfl ?_
        exact w_M_among_b77 hY C (f_M_among_l48 N n) ih x1 x2 x3 x4 (((4 : Int32) * x3) + x4) μ hf
theorem w_M_among_b36 {X : Ctx} {Y : Lay} (hY : IsM Y) (C : Cx X Y b_M_among 5 (some .int) "TopYardModel" 3) {N : Nat} {r : Int32 × Mem} (x1 : Int32) (x2 : Int32) (xs0 : Int32) (μ : Mem) (hf : f_M_among_b36 N x1 x2 xs0 μ = some r) : J X Y (some (.int r.1)) r.2 5 36 [(0, .ref (yad Y 0)), (1, .int x1), (2, .int x2)] [.int xs0] μ := by
  unfold f_M_among_b36 at hf
  refine j_istore_n (lvf := [(0, .ref (yad Y 0)), (1, .int x1), (2, .int x2)]) C d_M_among_36 (by decide) rfl ?_
  refine j_iload_n C d_M_among_37 0 rfl ?_
  refine j_iconst (v := 4) C d_M_among_38 (by decide) ?_
  refine j_icmp_ne C d_M_among_39 hf (fun hf => ?_) (fun hf => ?_)
  · refine j_iconst (v := 0) C d_M_among_45 (by decide) ?_
    refine j_istore (lvf := [(3, .int xs0), (0, .ref (yad Y 0)), (1, .int x1), (2, .int x2)]) C d_M_among_46 (by decide) rfl ?_
    refine j_sub [2, 3, 4, 1, 0] rfl ?_
    exact w_M_among_l48 hY C N x1 x2 xs0 0 μ hf
  · refine j_bipush (v := (-4)) C d_M_among_42 (by decide) ?_
    obtain rfl := Option.some.inj hf
    exact j_iret C d_M_among_44
theorem c_M_among {l : Launch} {Y : Lay} (hY : IsM Y) {N : Nat} {μ : Mem} {x1 : Int32} {x2 : Int32} {r : Int32 × Mem} (hf : f_M_among N μ x1 x2 = some r) : Ct l Y y_M_among b_M_among 5 (some .int) 3 [.ref (yad Y 0), .int x1, .int x2] (some (.int r.1)) μ r.2 := by
  refine ct_of (own := "TopYardModel") (lv := [(0, .ref (yad Y 0)), (1, .int x1), (2, .int x2)]) (by decide +kernel) rfl (Nat.le_of_ble_eq_true rfl) rfl (fun X hl C => ?_)
  subst hl
  unfold f_M_among at hf
  refine j_iload_n C d_M_among_0 1 rfl ?_
  refine j_i2l C d_M_among_1 ?_
  refine j_lconst (v := 0) C d_M_among_2 (by decide) ?_
  refine j_lconst (v := 1) C d_M_among_3 (by decide) ?_
  refine bd hf (fun v1 hc4 hf => ?_)
  refine j_cS (rest := []) C lk_M_164 (c_M_in hY hc4) rfl (by decide) rfl (Nat.le_of_ble_eq_true rfl) d_M_among_4 ?_
  refine j_if_eq C d_M_among_7 hf (fun hf => ?_) (fun hf => ?_)
  · refine j_bipush (v := (-2)) C d_M_among_18 (by decide) ?_
    obtain rfl := Option.some.inj hf
    exact j_iret C d_M_among_20
  · refine j_aload_n C d_M_among_10 0 rfl ?_
    refine j_iload_n C d_M_among_11 2 rfl ?_
    refine bd hf (fun v2 hc3 hf => ?_)
    refine j_cV (rest := []) C lk_M_190 (c_M_isTop hY hc3) rfl (kM hY rfl) (nM hY (by decide)) (by decide) rfl rfl (by decide) rfl (Nat.le_of_ble_eq_true rfl) d_M_among_12 ?_
    refine j_if_ne C d_M_among_15 hf (fun hf => ?_) (fun hf => ?_)
    · refine j_iload_n C d_M_among_21 1 rfl ?_
      refine j_if_ne C d_M_among_22 hf (fun hf => ?_) (fun hf => ?_)
      · refine j_aload_n C d_M_among_32 0 rfl ?_
        refine j_gI C fl_M_308 (kM hY rfl) (nM hY (by decide)) rfl d_M_among_33 ?_
        refine j_sub [0, 1, 2] rfl ?_
        exact w_M_among_b36 hY C x1 x2 (gI μ 0 38) μ hf
      · refine j_aload_n C d_M_among_25 0 rfl ?_
        refine j_gI C fl_M_305 (kM hY rfl) (nM hY (by decide)) rfl d_M_among_26 ?_
        refine j_goto C d_M_among_29 ?_
        refine j_sub [0, 1, 2] rfl ?_
        exact w_M_among_b36 hY C x1 x2 (gI μ 0 37) μ hf
    · refine j_bipush (v := (-2)) C d_M_among_18 (by decide) ?_
      obtain rfl := Option.some.inj hf
      exact j_iret C d_M_among_20
theorem d_M_isPay_0 : DC b_M_isPay 0 (.iload_n 1) 1 1 := ⟨by decide +kernel, rfl⟩
theorem d_M_isPay_1 : DC b_M_isPay 1 (.i2l) 1 2 := ⟨by decide +kernel, rfl⟩
theorem d_M_isPay_2 : DC b_M_isPay 2 (.lconst 0) 1 3 := ⟨by decide +kernel, rfl⟩
theorem d_M_isPay_3 : DC b_M_isPay 3 (.aload_n 0) 1 4 := ⟨by decide +kernel, rfl⟩
theorem d_M_isPay_4 : DC b_M_isPay 4 (.getfield 305) 3 7 := ⟨by decide +kernel, rfl⟩
theorem d_M_isPay_7 : DC b_M_isPay 7 (.iconst 1) 1 8 := ⟨by decide +kernel, rfl⟩
theorem d_M_isPay_8 : DC b_M_isPay 8 (.isub) 1 9 := ⟨by decide +kernel, rfl⟩
theorem d_M_isPay_9 : DC b_M_isPay 9 (.i2l) 1 10 := ⟨by decide +kernel, rfl⟩
theorem d_M_isPay_10 : DC b_M_isPay 10 (.invokestatic 164) 3 13 := ⟨by decide +kernel, rfl⟩
theorem d_M_isPay_13 : DB b_M_isPay 13 (.ifCond .eq 23) 23 36 16 := ⟨by decide +kernel, by decide, rfl⟩
theorem d_M_isPay_16 : DC b_M_isPay 16 (.iload_n 2) 1 17 := ⟨by decide +kernel, rfl⟩
theorem d_M_isPay_17 : DC b_M_isPay 17 (.i2l) 1 18 := ⟨by decide +kernel, rfl⟩
theorem d_M_isPay_18 : DC b_M_isPay 18 (.lconst 0) 1 19 := ⟨by decide +kernel, rfl⟩
theorem d_M_isPay_19 : DC b_M_isPay 19 (.aload_n 0) 1 20 := ⟨by decide +kernel, rfl⟩
theorem d_M_isPay_20 : DC b_M_isPay 20 (.getfield 308) 3 23 := ⟨by decide +kernel, rfl⟩
theorem d_M_isPay_23 : DC b_M_isPay 23 (.iconst 1) 1 24 := ⟨by decide +kernel, rfl⟩
theorem d_M_isPay_24 : DC b_M_isPay 24 (.isub) 1 25 := ⟨by decide +kernel, rfl⟩
theorem d_M_isPay_25 : DC b_M_isPay 25 (.i2l) 1 26 := ⟨by decide +kernel, rfl⟩
theorem d_M_isPay_26 : DC b_M_isPay 26 (.invokestatic 164) 3 29 := ⟨by decide +kernel, rfl⟩
theorem d_M_isPay_29 : DB b_M_isPay 29 (.ifCond .eq 7) 7 36 32 := ⟨by decide +kernel, by decide, rfl⟩
theorem d_M_isPay_32 : DC b_M_isPay 32 (.iconst 1) 1 33 := ⟨by decide +kernel, rfl⟩
theorem d_M_isPay_33 : DB b_M_isPay 33 (.goto 4) 4 37 36 := ⟨by decide +kernel, by decide, rfl⟩
theorem d_M_isPay_36 : DC b_M_isPay 36 (.iconst 0) 1 37 := ⟨by decide +kernel, rfl⟩
theorem d_M_isPay_37 : decode b_M_isPay 37 = .ok (.ireturn, 1) := by decide +kernel
theorem c_M_isPay {l : Launch} {Y : Lay} (hY : IsM Y) {μ : Mem} {x1 : Int32} {x2 : Int32} {r : Int32} (hf : f_M_isPay μ x1 x2 = some r) : Ct l Y y_M_isPay b_M_isPay 3 (some .boolean) 2 [.ref (yad Y 0), .int x1, .int x2] (some (.int r)) μ μ := by
  refine ct_of (own := "TopYardModel") (lv := [(0, .ref (yad Y 0)), (1, .int x1), (2, .int x2)]) (by decide +kernel) rfl (Nat.le_of_ble_eq_true rfl) rfl (fun X hl C => ?_)
  subst hl
  unfold f_M_isPay at hf
  refine j_iload_n C d_M_isPay_0 1 rfl ?_
  refine j_i2l C d_M_isPay_1 ?_
  refine j_lconst (v := 0) C d_M_isPay_2 (by decide) ?_
  refine j_aload_n C d_M_isPay_3 0 rfl ?_
  refine j_gI C fl_M_305 (kM hY rfl) (nM hY (by decide)) rfl d_M_isPay_4 ?_
  refine j_iconst (v := 1) C d_M_isPay_7 (by decide) ?_
  refine j_isub C d_M_isPay_8 ?_
  refine j_i2l C d_M_isPay_9 ?_
  refine bd hf (fun v1 hc4 hf => ?_)
  refine j_cS (rest := []) C lk_M_164 (c_M_in hY hc4) rfl (by decide) rfl (Nat.le_of_ble_eq_true rfl) d_M_isPay_10 ?_
  refine j_if_eq C d_M_isPay_13 hf (fun hf => ?_) (fun hf => ?_)
  · refine j_iconst (v := 0) C d_M_isPay_36 (by decide) ?_
    obtain rfl := Option.some.inj hf
    exact j_zret C (Or.inl rfl) d_M_isPay_37
  · refine j_iload_n C d_M_isPay_16 2 rfl ?_
    refine j_i2l C d_M_isPay_17 ?_
    refine j_lconst (v := 0) C d_M_isPay_18 (by decide) ?_
    refine j_aload_n C d_M_isPay_19 0 rfl ?_
    refine j_gI C fl_M_308 (kM hY rfl) (nM hY (by decide)) rfl d_M_isPay_20 ?_
    refine j_iconst (v := 1) C d_M_isPay_23 (by decide) ?_
    refine j_isub C d_M_isPay_24 ?_
    refine j_i2l C d_M_isPay_25 ?_
    refine bd hf (fun v2 hc3 hf => ?_)
    refine j_cS (rest := []) C lk_M_164 (c_M_in hY hc3) rfl (by decide) rfl (Nat.le_of_ble_eq_true rfl) d_M_isPay_26 ?_
    refine j_if_eq C d_M_isPay_29 hf (fun hf => ?_) (fun hf => ?_)
    · refine j_iconst (v := 0) C d_M_isPay_36 (by decide) ?_
      obtain rfl := Option.some.inj hf
      exact j_zret C (Or.inl rfl) d_M_isPay_37
    · refine j_iconst (v := 1) C d_M_isPay_32 (by decide) ?_
      refine j_goto C d_M_isPay_33 ?_
      obtain rfl := Option.some.inj hf
      exact j_zret C (Or.inr rfl) d_M_isPay_37
theorem d_M_pay_0 : DC b_M_pay 0 (.aload_n 0) 1 1 := ⟨by decide +kernel, rfl⟩
theorem d_M_pay_1 : DC b_M_pay 1 (.iload_n 1) 1 2 := ⟨by decide +kernel, rfl⟩
theorem d_M_pay_2 : DC b_M_pay 2 (.iload_n 2) 1 3 := ⟨by decide +kernel, rfl⟩
theorem d_M_pay_3 : DC b_M_pay 3 (.invokevirtual 311) 3 6 := ⟨by decide +kernel, rfl⟩
theorem d_M_pay_6 : DB b_M_pay 6 (.ifCond .eq 17) 17 23 9 := ⟨by decide +kernel, by decide, rfl⟩
theorem d_M_pay_9 : DC b_M_pay 9 (.iload_n 3) 1 10 := ⟨by decide +kernel, rfl⟩
theorem d_M_pay_10 : DC b_M_pay 10 (.i2l) 1 11 := ⟨by decide +kernel, rfl⟩
theorem d_M_pay_11 : DC b_M_pay 11 (.ldc2_w 315) 3 14 := ⟨by decide +kernel, rfl⟩
theorem d_M_pay_14 : DC b_M_pay 14 (.ldc2_w 184) 3 17 := ⟨by decide +kernel, rfl⟩
theorem d_M_pay_17 : DC b_M_pay 17 (.invokestatic 164) 3 20 := ⟨by decide +kernel, rfl⟩
theorem d_M_pay_20 : DB b_M_pay 20 (.ifCond .ne 6) 6 26 23 := ⟨by decide +kernel, by decide, rfl⟩
theorem d_M_pay_23 : DC b_M_pay 23 (.bipush (-100)) 2 25 := ⟨by decide +kernel, rfl⟩
theorem d_M_pay_25 : decode b_M_pay 25 = .ok (.ireturn, 1) := by decide +kernel
theorem d_M_pay_26 : DC b_M_pay 26 (.aload_n 0) 1 27 := ⟨by decide +kernel, rfl⟩
theorem d_M_pay_27 : DC b_M_pay 27 (.getfield 108) 3 30 := ⟨by decide +kernel, rfl⟩
theorem d_M_pay_30 : DC b_M_pay 30 (.iconst 4) 1 31 := ⟨by decide +kernel, rfl⟩
theorem d_M_pay_31 : DC b_M_pay 31 (.iload_n 1) 1 32 := ⟨by decide +kernel, rfl⟩
theorem d_M_pay_32 : DC b_M_pay 32 (.imul) 1 33 := ⟨by decide +kernel, rfl⟩
theorem d_M_pay_33 : DC b_M_pay 33 (.iload_n 2) 1 34 := ⟨by decide +kernel, rfl⟩
theorem d_M_pay_34 : DC b_M_pay 34 (.iadd) 1 35 := ⟨by decide +kernel, rfl⟩
theorem d_M_pay_35 : DC b_M_pay 35 (.iaload) 1 36 := ⟨by decide +kernel, rfl⟩
theorem d_M_pay_36 : DC b_M_pay 36 (.istore 4) 2 38 := ⟨by decide +kernel, rfl⟩
theorem d_M_pay_38 : DC b_M_pay 38 (.aload_n 0) 1 39 := ⟨by decide +kernel, rfl⟩
theorem d_M_pay_39 : DC b_M_pay 39 (.getfield 108) 3 42 := ⟨by decide +kernel, rfl⟩
theorem d_M_pay_42 : DC b_M_pay 42 (.iconst 4) 1 43 := ⟨by decide +kernel, rfl⟩
theorem d_M_pay_43 : DC b_M_pay 43 (.iload_n 1) 1 44 := ⟨by decide +kernel, rfl⟩
theorem d_M_pay_44 : DC b_M_pay 44 (.imul) 1 45 := ⟨by decide +kernel, rfl⟩
theorem d_M_pay_45 : DC b_M_pay 45 (.iload_n 2) 1 46 := ⟨by decide +kernel, rfl⟩
theorem d_M_pay_46 : DC b_M_pay 46 (.iadd) 1 47 := ⟨by decide +kernel, rfl⟩
theorem d_M_pay_47 : DC b_M_pay 47 (.iload_n 3) 1 48 := ⟨by decide +kernel, rfl⟩
theorem d_M_pay_48 : DC b_M_pay 48 (.iastore) 1 49 := ⟨by decide +kernel, rfl⟩
theorem d_M_pay_49 : DC b_M_pay 49 (.iload 4) 2 51 := ⟨by decide +kernel, rfl⟩
theorem d_M_pay_51 : decode b_M_pay 51 = .ok (.ireturn, 1) := by decide +kernel
theorem c_M_pay {l : Launch} {Y : Lay} (hY : IsM Y) {μ : Mem} {x1 : Int32} {x2 : Int32} {x3 : Int32} {r : Int32 × Mem} (hf : f_M_pay μ x1 x2 x3 = some r) : Ct l Y y_M_pay b_M_pay 5 (some .int) 3 [.ref (yad Y 0), .int x1, .int x2, .int x3] (some (.int r.1)) μ r.2 := by
  refine ct_of (own := "TopYardModel") (lv := [(0, .ref (yad Y 0)), (1, .int x1), (2, .int x2), (3, .int x3)]) (by decide +kernel) rfl (Nat.le_of_ble_eq_true rfl) rfl (fun X hl C => ?_)
  subst hl
  unfold f_M_pay at hf
  refine j_aload_n C d_M_pay_0 0 rfl ?_
  refine j_iload_n C d_M_pay_1 1 rfl ?_
  refine j_iload_n C d_M_pay_2 2 rfl ?_
  refine bd hf (fun v1 hc8 hf => ?_)
  refine j_cV (rest := []) C lk_M_311 (c_M_isPay hY hc8) rfl (kM hY rfl) (nM hY (by decide)) (by decide) rfl rfl (by decide) rfl (Nat.le_of_ble_eq_true rfl) d_M_pay_3 ?_
  refine j_if_eq C d_M_pay_6 hf (fun hf => ?_) (fun hf => ?_)
  · refine j_bipush (v := (-100)) C d_M_pay_23 (by decide) ?_
    obtain rfl := Option.some.inj hf
    exact j_iret C d_M_pay_25
  · refine j_iload_n C d_M_pay_9 3 rfl ?_
    refine j_i2l C d_M_pay_10 ?_
    refine j_ldc2 (v := (-9)) C d_M_pay_11 wd_212 ?_
    refine j_ldc2 (v := 9) C d_M_pay_14 wd_150 ?_
    refine bd hf (fun v2 hc7 hf => ?_)
    refine j_cS (rest := []) C lk_M_164 (c_M_in hY hc7) rfl (by decide) rfl (Nat.le_of_ble_eq_true rfl) d_M_pay_17 ?_
    refine j_if_ne C d_M_pay_20 hf (fun hf => ?_) (fun hf => ?_)
    · refine j_aload_n C d_M_pay_26 0 rfl ?_
      refine j_gS (b := 31) C fl_M_108 (kM hY rfl) (nM hY (by decide)) rfl hY.2.2.2.1 rfl (sM hY rfl) d_M_pay_27 ?_
      refine j_iconst (v := 4) C d_M_pay_30 (by decide) ?_
      refine j_iload_n C d_M_pay_31 1 rfl ?_
      refine j_imul C d_M_pay_32 ?_
      refine j_iload_n C d_M_pay_33 2 rfl ?_
      refine j_iadd C d_M_pay_34 ?_
      refine ck hf (fun hi3 hf => ?_)
      refine j_iald C (kM hY rfl) (nM hY (by decide)) (lM hY rfl) hi3 d_M_pay_35 ?_
      refine j_istoreN (lvf := [(0, .ref (yad Y 0)), (1, .int x1), (2, .int x2), (3, .int x3)]) C d_M_pay_36 (by decide) rfl hf (fun v4 hf => ?_)
      refine j_aload_n C d_M_pay_38 1 rfl ?_
      refine j_gS (b := 31) C fl_M_108 (kM hY rfl) (nM hY (by decide)) rfl hY.2.2.2.1 rfl (sM hY rfl) d_M_pay_39 ?_
      refine j_iconst (v := 4) C d_M_pay_42 (by decide) ?_
      refine j_iload_n C d_M_pay_43 2 rfl ?_
      refine j_imul C d_M_pay_44 ?_
      refine j_iload_n C d_M_pay_45 3 rfl ?_
      refine j_iadd C d_M_pay_46 ?_
      refine j_iload_n C d_M_pay_47 4 rfl ?_
      refine ck hf (fun hi5 hf => ?_)
      refine j_iast C (kM hY rfl) (nM hY (by decide)) (lM hY rfl) hi5 d_M_pay_48 hf (fun μ6 hf => ?_)
      refine j_iload C d_M_pay_49 0 rfl ?_
      obtain rfl := Option.some.inj hf
      exact j_iret C d_M_pay_51
    · refine j_bipush (v := (-100)) C d_M_pay_23 (by decide) ?_
      obtain rfl := Option.some.inj hf
      exact j_iret C d_M_pay_25
theorem d_M_pays_0 : DC b_M_pays 0 (.aload_n 0) 1 1 := ⟨by decide +kernel, rfl⟩
theorem d_M_pays_1 : DC b_M_pays 1 (.iload_n 1) 1 2 := ⟨by decide +kernel, rfl⟩
theorem d_M_pays_2 : DC b_M_pays 2 (.iload_n 2) 1 3 := ⟨by decide +kernel, rfl⟩
theorem d_M_pays_3 : DC b_M_pays 3 (.invokevirtual 311) 3 6 := ⟨by decide +kernel, rfl⟩
theorem d_M_pays_6 : DB b_M_pays 6 (.ifCond .eq 16) 16 22 9 := ⟨by decide +kernel, by decide, rfl⟩
theorem d_M_pays_9 : DC b_M_pays 9 (.aload_n 0) 1 10 := ⟨by decide +kernel, rfl⟩
theorem d_M_pays_10 : DC b_M_pays 10 (.getfield 108) 3 13 := ⟨by decide +kernel, rfl⟩
theorem d_M_pays_13 : DC b_M_pays 13 (.iconst 4) 1 14 := ⟨by decide +kernel, rfl⟩
theorem d_M_pays_14 : DC b_M_pays 14 (.iload_n 1) 1 15 := ⟨by decide +kernel, rfl⟩
theorem d_M_pays_15 : DC b_M_pays 15 (.imul) 1 16 := ⟨by decide +kernel, rfl⟩
theorem d_M_pays_16 : DC b_M_pays 16 (.iload_n 2) 1 17 := ⟨by decide +kernel, rfl⟩
theorem d_M_pays_17 : DC b_M_pays 17 (.iadd) 1 18 := ⟨by decide +kernel, rfl⟩
theorem d_M_pays_18 : DC b_M_pays 18 (.iaload) 1 19 := ⟨by decide +kernel, rfl⟩
theorem d_M_pays_19 : DB b_M_pays 19 (.goto 5) 5 24 22 := ⟨by decide +kernel, by decide, rfl⟩
theorem d_M_pays_22 : DC b_M_pays 22 (.bipush (-100)) 2 24 := ⟨by decide +kernel, rfl⟩
theorem d_M_pays_24 : decode b_M_pays 24 = .ok (.ireturn, 1) := by decide +kernel
theorem c_M_pays {l : Launch} {Y : Lay} (hY : IsM Y) {μ : Mem} {x1 : Int32} {x2 : Int32} {r : Int32} (hf : f_M_pays μ x1 x2 = some r) : Ct l Y y_M_pays b_M_pays 3 (some .int) 3 [.ref (yad Y 0), .int x1, .int x2] (some (.int r)) μ μ := by
  refine ct_of (own := "TopYardModel") (lv := [(0, .ref (yad Y 0)), (1, .int x1), (2, .int x2)]) (by decide +kernel) rfl (Nat.le_of_ble_eq_true rfl) rfl (fun X hl C => ?_)
  subst hl
  unfold f_M_pays at hf
  refine j_aload_n C d_M_pays_0 0 rfl ?_
  refine j_iload_n C d_M_pays_1 1 rfl ?_
  refine j_iload_n C d_M_pays_2 2 rfl ?_
  refine bd hf (fun v1 hc3 hf => ?_)
  refine j_cV (rest := []) C lk_M_311 (c_M_isPay hY hc3) rfl (kM hY rfl) (nM hY (by decide)) (by decide) rfl rfl (by decide) rfl (Nat.le_of_ble_eq_true rfl) d_M_pays_3 ?_
  refine j_if_eq C d_M_pays_6 hf (fun hf => ?_) (fun hf => ?_)
  · refine j_bipush (v := (-100)) C d_M_pays_22 (by decide) ?_
    obtain rfl := Option.some.inj hf
    exact j_iret C d_M_pays_24
  · refine j_aload_n C d_M_pays_9 0 rfl ?_
    refine j_gS (b := 31) C fl_M_108 (kM hY rfl) (nM hY (by decide)) rfl hY.2.2.2.1 rfl (sM hY rfl) d_M_pays_10 ?_
    refine j_iconst (v := 4) C d_M_pays_13 (by decide) ?_
    refine j_iload_n C d_M_pays_14 1 rfl ?_
    refine j_imul C d_M_pays_15 ?_
    refine j_iload_n C d_M_pays_16 2 rfl ?_
    refine j_iadd C d_M_pays_17 ?_
    refine ck hf (fun hi2 hf => ?_)
    refine j_iald C (kM hY rfl) (nM hY (by decide)) (lM hY rfl) hi2 d_M_pays_18 ?_
    refine j_goto C d_M_pays_19 ?_
    obtain rfl := Option.some.inj hf
    exact j_iret C d_M_pays_24
theorem d_M_fill_0 : DC b_M_fill 0 (.aload_n 0) 1 1 := ⟨by decide +kernel, rfl⟩
theorem d_M_fill_1 : DC b_M_fill 1 (.getfield 305) 3 4 := ⟨by decide +kernel, rfl⟩
theorem d_M_fill_4 : DB b_M_fill 4 (.ifCond .eq 10) 10 14 7 := ⟨by decide +kernel, by decide, rfl⟩
theorem d_M_fill_7 : DC b_M_fill 7 (.aload_n 0) 1 8 := ⟨by decide +kernel, rfl⟩
theorem d_M_fill_8 : DC b_M_fill 8 (.getfield 308) 3 11 := ⟨by decide +kernel, rfl⟩
theorem d_M_fill_11 : DB b_M_fill 11 (.ifCond .ne 6) 6 17 14 := ⟨by decide +kernel, by decide, rfl⟩
theorem d_M_fill_14 : DC b_M_fill 14 (.bipush (-3)) 2 16 := ⟨by decide +kernel, rfl⟩
theorem d_M_fill_16 : decode b_M_fill 16 = .ok (.ireturn, 1) := by decide +kernel
theorem d_M_fill_17 : DC b_M_fill 17 (.iconst 0) 1 18 := ⟨by decide +kernel, rfl⟩
theorem d_M_fill_18 : DC b_M_fill 18 (.istore_n 1) 1 19 := ⟨by decide +kernel, rfl⟩
theorem d_M_fill_19 : DC b_M_fill 19 (.iconst 0) 1 20 := ⟨by decide +kernel, rfl⟩
theorem d_M_fill_20 : DC b_M_fill 20 (.istore_n 2) 1 21 := ⟨by decide +kernel, rfl⟩
theorem d_M_fill_21 : DC b_M_fill 21 (.iload_n 2) 1 22 := ⟨by decide +kernel, rfl⟩
theorem d_M_fill_22 : DC b_M_fill 22 (.aload_n 0) 1 23 := ⟨by decide +kernel, rfl⟩
theorem d_M_fill_23 : DC b_M_fill 23 (.getfield 305) 3 26 := ⟨by decide +kernel, rfl⟩
theorem d_M_fill_26 : DB b_M_fill 26 (.if_icmp .ge 72) 72 98 29 := ⟨by decide +kernel, by decide, rfl⟩
theorem d_M_fill_29 : DC b_M_fill 29 (.iconst 0) 1 30 := ⟨by decide +kernel, rfl⟩
theorem d_M_fill_30 : DC b_M_fill 30 (.istore_n 3) 1 31 := ⟨by decide +kernel, rfl⟩
theorem d_M_fill_31 : DC b_M_fill 31 (.iload_n 3) 1 32 := ⟨by decide +kernel, rfl⟩
theorem d_M_fill_32 : DC b_M_fill 32 (.aload_n 0) 1 33 := ⟨by decide +kernel, rfl⟩
theorem d_M_fill_33 : DC b_M_fill 33 (.getfield 308) 3 36 := ⟨by decide +kernel, rfl⟩
theorem d_M_fill_36 : DB b_M_fill 36 (.if_icmp .ge 56) 56 92 39 := ⟨by decide +kernel, by decide, rfl⟩
theorem d_M_fill_39 : DC b_M_fill 39 (.aload_n 0) 1 40 := ⟨by decide +kernel, rfl⟩
theorem d_M_fill_40 : DC b_M_fill 40 (.getfield 108) 3 43 := ⟨by decide +kernel, rfl⟩
theorem d_M_fill_43 : DC b_M_fill 43 (.iconst 4) 1 44 := ⟨by decide +kernel, rfl⟩
theorem d_M_fill_44 : DC b_M_fill 44 (.iload_n 2) 1 45 := ⟨by decide +kernel, rfl⟩
theorem d_M_fill_45 : DC b_M_fill 45 (.imul) 1 46 := ⟨by decide +kernel, rfl⟩
theorem d_M_fill_46 : DC b_M_fill 46 (.iload_n 3) 1 47 := ⟨by decide +kernel, rfl⟩
theorem d_M_fill_47 : DC b_M_fill 47 (.iadd) 1 48 := ⟨by decide +kernel, rfl⟩
theorem d_M_fill_48 : DC b_M_fill 48 (.aload_n 0) 1 49 := ⟨by decide +kernel, rfl⟩
theorem d_M_fill_49 : DC b_M_fill 49 (.aload_n 0) 1 50 := ⟨by decide +kernel, rfl⟩
theorem d_M_fill_50 : DC b_M_fill 50 (.getfield 102) 3 53 := ⟨by decide +kernel, rfl⟩
theorem d_M_fill_53 : DC b_M_fill 53 (.iload_n 2) 1 54 := ⟨by decide +kernel, rfl⟩
theorem d_M_fill_54 : DC b_M_fill 54 (.iaload) 1 55 := ⟨by decide +kernel, rfl⟩
theorem d_M_fill_55 : DC b_M_fill 55 (.aload_n 0) 1 56 := ⟨by decide +kernel, rfl⟩
theorem d_M_fill_56 : DC b_M_fill 56 (.getfield 105) 3 59 := ⟨by decide +kernel, rfl⟩
theorem d_M_fill_59 : DC b_M_fill 59 (.iload_n 3) 1 60 := ⟨by decide +kernel, rfl⟩
theorem d_M_fill_60 : DC b_M_fill 60 (.iaload) 1 61 := ⟨by decide +kernel, rfl⟩
theorem d_M_fill_61 : DC b_M_fill 61 (.invokevirtual 302) 3 64 := ⟨by decide +kernel, rfl⟩
theorem d_M_fill_64 : DC b_M_fill 64 (.iastore) 1 65 := ⟨by decide +kernel, rfl⟩
theorem d_M_fill_65 : DC b_M_fill 65 (.iload_n 1) 1 66 := ⟨by decide +kernel, rfl⟩
theorem d_M_fill_66 : DC b_M_fill 66 (.aload_n 0) 1 67 := ⟨by decide +kernel, rfl⟩
theorem d_M_fill_67 : DC b_M_fill 67 (.getfield 108) 3 70 := ⟨by decide +kernel, rfl⟩
theorem d_M_fill_70 : DC b_M_fill 70 (.iconst 4) 1 71 := ⟨by decide +kernel, rfl⟩
theorem d_M_fill_71 : DC b_M_fill 71 (.iload_n 2) 1 72 := ⟨by decide +kernel, rfl⟩
theorem d_M_fill_72 : DC b_M_fill 72 (.imul) 1 73 := ⟨by decide +kernel, rfl⟩
theorem d_M_fill_73 : DC b_M_fill 73 (.iload_n 3) 1 74 := ⟨by decide +kernel, rfl⟩
theorem d_M_fill_74 : DC b_M_fill 74 (.iadd) 1 75 := ⟨by decide +kernel, rfl⟩
theorem d_M_fill_75 : DC b_M_fill 75 (.iaload) 1 76 := ⟨by decide +kernel, rfl⟩
theorem d_M_fill_76 : DB b_M_fill 76 (.ifCond .eq 7) 7 83 79 := ⟨by decide +kernel, by decide, rfl⟩
theorem d_M_fill_79 : DC b_M_fill 79 (.iconst 1) 1 80 := ⟨by decide +kernel, rfl⟩
theorem d_M_fill_80 : DB b_M_fill 80 (.goto 4) 4 84 83 := ⟨by decide +kernel, by decide, rfl⟩
theorem d_M_fill_83 : DC b_M_fill 83 (.iconst 0) 1 84 := ⟨by decide +kernel, rfl⟩
theorem d_M_fill_84 : DC b_M_fill 84 (.iadd) 1 85 := ⟨by decide +kernel, rfl⟩
theorem d_M_fill_85 : DC b_M_fill 85 (.istore_n 1) 1 86 := ⟨by decide +kernel, rfl⟩
theorem d_M_fill_86 : DC b_M_fill 86 (.iinc 3 1) 3 89 := ⟨by decide +kernel, rfl⟩
theorem d_M_fill_89 : DB b_M_fill 89 (.goto (-58)) (-58) 31 92 := ⟨by decide +kernel, by decide, rfl⟩
theorem d_M_fill_92 : DC b_M_fill 92 (.iinc 2 1) 3 95 := ⟨by decide +kernel, rfl⟩
theorem d_M_fill_95 : DB b_M_fill 95 (.goto (-74)) (-74) 21 98 := ⟨by decide +kernel, by decide, rfl⟩
theorem d_M_fill_98 : DC b_M_fill 98 (.iload_n 1) 1 99 := ⟨by decide +kernel, rfl⟩
theorem d_M_fill_99 : decode b_M_fill 99 = .ok (.ireturn, 1) := by decide +kernel
theorem w_M_fill_b84 {X : Ctx} {Y : Lay} (hY : IsM Y) (C : Cx X Y b_M_fill 4 (some .int) "TopYardModel" 8) {N : Nat} {r : Int32 × Mem} (k21 : Int32 → Int32 → Mem → Option (Int32 × Mem)) (k31 : Int32 → Int32 → Int32 → Mem → Option (Int32 × Mem)) (hk21 : ∀ (x1 : Int32) (x2 : Int32) (ν : Mem), k21 x1 x2 ν = some r → J X Y (some (.int r.1)) r.2 4 21 [(0, .ref (yad Y 0)), (1, .int x1), (2, .int x2)] [] ν) (hk31 : ∀ (x1 : Int32) (x2 : Int32) (x3 : Int32) (ν : Mem), k31 x1 x2 x3 ν = some r → J X Y (some (.int r.1)) r.2 4 31 [(0, .ref (yad Y 0)), (1, .int x1), (2, .int x2), (3, .int x3)] [] ν) (x2 : Int32) (x3 : Int32) (xs0 : Int32) (xs1 : Int32) (μ : Mem) (hf : f_M_fill_b84 N k21 k31 x2 x3 xs0 xs1 μ = some r) : J X Y (some (.int r.1)) r.2 4 84 [(0, .ref (yad Y 0)), (2, .int x2), (3, .int x3)] [.int xs0, .int xs1] μ := by
  unfold f_M_fill_b84 at hf
  refine j_iadd C d_M_fill_84 ?_
  refine j_istore_nN (lvf := [(0, .ref (yad Y 0)), (2, .int x2), (3, .int x3)]) C d_M_fill_85 (by decide) rfl hf (fun v1 hf => ?_)
  refine j_iinc (lvf := [(1, .int v1), (0, .ref (yad Y 0)), (2, .int x2)]) (v := 1) C d_M_fill_86 3 rfl (by decide) (by decide) rfl hf (fun v2 hf => ?_)
  refine j_goto C d_M_fill_89 ?_
  refine j_sub [2, 1, 3, 0] rfl ?_
  exact hk31 v1 x2 v2 μ hf
theorem w_M_fill_l31 {X : Ctx} {Y : Lay} (hY : IsM Y) (C : Cx X Y b_M_fill 4 (some .int) "TopYardModel" 8) {N : Nat} {r : Int32 × Mem} (k21 : Int32 → Int32 → Mem → Option (Int32 × Mem)) (hk21 : ∀ (x1 : Int32) (x2 : Int32) (ν : Mem), k21 x1 x2 ν = some r → J X Y (some (.int r.1)) r.2 4 21 [(0, .ref (yad Y 0)), (1, .int x1), (2, .int x2)] [] ν) : ∀ (n : Nat) (x1 : Int32) (x2 : Int32) (x3 : Int32) (μ : Mem), f_M_fill_l31 N k21 n x1 x2 x3 μ = some r → J X Y (some (.int r.1)) r.2 4 31 [(0, .ref (yad Y 0)), (1, .int x1), (2, .int x2), (3, .int x3)] [] μ := by
  intro n
  induction n with
  | zero => intro x1 x2 x3 μ hf; rw [f_M_fill_l31] at hf; cases hf
  | succ n ih =>
    intro x1 x2 x3 μ hf
    rw [f_M_fill_l31] at hf
    refine j_iload_n C d_M_fill_31 3 rfl ?_
    refine j_aload_n C d_M_fill_32 0 rfl ?_
    refine j_gI C fl_M_308 (kM hY rfl) (nM hY (by decide)) rfl d_M_fill_33 ?_
    refine j_icmp_ge C d_M_fill_36 hf (fun hf => ?_) (fun hf => ?_)
    · refine j_iinc (lvf := [(0, .ref (yad Y 0)), (1, .int x1), (3, .int x3)]) (v := 1) C d_M_fill_92 2 rfl (by decide) (by decide) rfl hf (fun v1 hf => ?_)
      refine j_goto C d_M_fill_95 ?_
      refine j_sub [1, 2, 0] rfl ?_
      exact hk21 x1 v1 μ hf
    · refine j_aload_n C d_M_fill_39 0 rfl ?_
      refine j_gS (b := 31) C fl_M_108 (kM hY rfl) (nM hY (by decide)) rfl hY.2.2.2.1 rfl (sM hY rfl) d_M_fill_40 ?_
      refine j_iconst (v := 4) C d_M_fill_43 (by decide) ?_
      refine j_iload_n C d_M_fill_44 2 rfl ?_
      refine j_imul C d_M_fill_45 ?_
      refine j_iload_n C d_M_fill_46 3 rfl ?_
      refine j_iadd C d_M_fill_47 ?_
      refine j_aload_n C d_M_fill_48 0 rfl ?_
      refine j_aload_n C d_M_fill_49 0 rfl ?_
      refine j_gS (b := 29) C fl_M_102 (kM hY rfl) (nM hY (by decide)) rfl hY.2.2.2.1 rfl (sM hY rfl) d_M_fill_50 ?_
      refine j_iload_n C d_M_fill_53 2 rfl ?_
      refine ck hf (fun hi2 hf => ?_)
      refine j_iald C (kM hY rfl) (nM hY (by decide)) (lM hY rfl) hi2 d_M_fill_54 ?_
      refine j_aload_n C d_M_fill_55 0 rfl ?_
      refine j_gS (b := 30) C fl_M_105 (kM hY rfl) (nM hY (by decide)) rfl hY.2.2.2.1 rfl (sM hY rfl) d_M_fill_56 ?_
      refine j_iload_n C d_M_fill_59 3 rfl ?_
      refine ck hf (fun hi3 hf => ?_)
      refine j_iald C (kM hY rfl) (nM hY (by decide)) (lM hY rfl) hi3 d_M_fill_60 ?_
      refine bd2 hf (fun v4 μ5 hc9 hf => ?_)
      refine j_cV (rest := [.int (((4 : Int32) * x2) + x3), .ref (yad Y 31)]) C lk_M_302 (c_M_expectedOf hY hc9) rfl (kM hY rfl) (nM hY (by decide)) (by decide) rfl rfl (by decide) rfl (Nat.le_of_ble_eq_true rfl) d_M_fill_61 ?_
      refine ck hf (fun hi6 hf => ?_)
      refine j_iast C (kM hY rfl) (nM hY (by decide)) (lM hY rfl) hi6 d_M_fill_64 hf (fun μ7 hf => ?_)
      refine j_iload_n C d_M_fill_65 1 rfl ?_
      refine j_aload_n C d_M_fill_66 0 rfl ?_
      refine j_gS (b := 31) C fl_M_108 (kM hY rfl) (nM hY (by decide)) rfl hY.2.2.2.1 rfl (sM hY rfl) d_M_fill_67 ?_
      refine j_iconst (v := 4) C d_M_fill_70 (by decide) ?_
      refine j_iload_n C d_M_fill_71 2 rfl ?_
      refine j_imul C d_M_fill_72 ?_
      refine j_iload_n C d_M_fill_73 3 rfl ?_
      refine j_iadd C d_M_fill_74 ?_
      refine ck hf (fun hi8 hf => ?_)
      refine j_iald C (kM hY rfl) (nM hY (by decide)) (lM hY rfl) hi8 d_M_fill_75 ?_
      refine j_if_eq C d_M_fill_76 hf (fun hf => ?_) (fun hf => ?_)
      · refine j_iconst (v := 0) C d_M_fill_83 (by decide) ?_
        refine j_sub [0, 2, 3] rfl ?_
        exact w_M_fill_b84 hY C k21 (f_M_fill_l31 N k21 n) hk21 ih x2 x3 0 x1 μ7 hf
      · refine j_iconst (v := 1) C d_M_fill_79 (by decide) ?_
        refine j_goto C d_M_fill_80 ?_
        refine j_sub [0, 2, 3] rfl ?_
        exact w_M_fill_b84 hY C k21 (f_M_fill_l31 N k21 n) hk21 ih x2 x3 1 x1 μ7 hf
theorem w_M_fill_l21 {X : Ctx} {Y : Lay} (hY : IsM Y) (C : Cx X Y b_M_fill 4 (some .int) "TopYardModel" 8) {N : Nat} {r : Int32 × Mem} : ∀ (n : Nat) (x1 : Int32) (x2 : Int32) (μ : Mem), f_M_fill_l21 N n x1 x2 μ = some r → J X Y (some (.int r.1)) r.2 4 21 [(0, .ref (yad Y 0)), (1, .int x1), (2, .int x2)] [] μ := by
  intro n
  induction n with
  | zero => intro x1 x2 μ hf; rw [f_M_fill_l21] at hf; cases hf
  | succ n ih =>
    intro x1 x2 μ hf
    rw [f_M_fill_l21] at hf
    refine j_iload_n C d_M_fill_21 2 rfl ?_
    refine j_aload_n C d_M_fill_22 0 rfl ?_
    refine j_gI C fl_M_305 (kM hY rfl) (nM hY (by decide)) rfl d_M_fill_23 ?_
    refine j_icmp_ge C d_M_fill_26 hf (fun hf => ?_) (fun hf => ?_)
    · refine j_iload_n C d_M_fill_98 1 rfl ?_
      obtain rfl := Option.some.inj hf
      exact j_iret C d_M_fill_99
    · refine j_iconst (v := 0) C d_M_fill_29 (by decide) ?_
      refine j_istore_n (lvf := [(0, .ref (yad Y 0)), (1, .int x1), (2, .int x2)]) C d_M_fill_30 (by decide) rfl ?_
      refine j_sub [1, 2, 3, 0] rfl ?_
      exact w_M_fill_l31 hY C (f_M_fill_l21 N n) ih N x1 x2 0 μ hf
theorem c_M_fill {l : Launch} {Y : Lay} (hY : IsM Y) {N : Nat} {μ : Mem} {r : Int32 × Mem} (hf : f_M_fill N μ = some r) : Ct l Y y_M_fill b_M_fill 4 (some .int) 8 [.ref (yad Y 0)] (some (.int r.1)) μ r.2 := by
  refine ct_of (own := "TopYardModel") (lv := [(0, .ref (yad Y 0))]) (by decide +kernel) rfl (Nat.le_of_ble_eq_true rfl) rfl (fun X hl C => ?_)
  subst hl
  unfold f_M_fill at hf
  refine j_aload_n C d_M_fill_0 0 rfl ?_
  refine j_gI C fl_M_305 (kM hY rfl) (nM hY (by decide)) rfl d_M_fill_1 ?_
  refine j_if_eq C d_M_fill_4 hf (fun hf => ?_) (fun hf => ?_)
  · refine j_bipush (v := (-3)) C d_M_fill_14 (by decide) ?_
    obtain rfl := Option.some.inj hf
    exact j_iret C d_M_fill_16
  · refine j_aload_n C d_M_fill_7 0 rfl ?_
    refine j_gI C fl_M_308 (kM hY rfl) (nM hY (by decide)) rfl d_M_fill_8 ?_
    refine j_if_ne C d_M_fill_11 hf (fun hf => ?_) (fun hf => ?_)
    · refine j_iconst (v := 0) C d_M_fill_17 (by decide) ?_
      refine j_istore_n (lvf := [(0, .ref (yad Y 0))]) C d_M_fill_18 (by decide) rfl ?_
      refine j_iconst (v := 0) C d_M_fill_19 (by decide) ?_
      refine j_istore_n (lvf := [(1, .int 0), (0, .ref (yad Y 0))]) C d_M_fill_20 (by decide) rfl ?_
      refine j_sub [2, 1, 0] rfl ?_
      exact w_M_fill_l21 hY C N 0 0 μ hf
    · refine j_bipush (v := (-3)) C d_M_fill_14 (by decide) ?_
      obtain rfl := Option.some.inj hf
      exact j_iret C d_M_fill_16
theorem d_M_ones_0 : DC b_M_ones 0 (.iconst 0) 1 1 := ⟨by decide +kernel, rfl⟩
theorem d_M_ones_1 : DC b_M_ones 1 (.istore_n 1) 1 2 := ⟨by decide +kernel, rfl⟩
theorem d_M_ones_2 : DC b_M_ones 2 (.iload_n 0) 1 3 := ⟨by decide +kernel, rfl⟩
theorem d_M_ones_3 : DC b_M_ones 3 (.istore_n 2) 1 4 := ⟨by decide +kernel, rfl⟩
theorem d_M_ones_4 : DC b_M_ones 4 (.iload_n 2) 1 5 := ⟨by decide +kernel, rfl⟩
theorem d_M_ones_5 : DB b_M_ones 5 (.ifCond .eq 15) 15 20 8 := ⟨by decide +kernel, by decide, rfl⟩
theorem d_M_ones_8 : DC b_M_ones 8 (.iinc 1 1) 3 11 := ⟨by decide +kernel, rfl⟩
theorem d_M_ones_11 : DC b_M_ones 11 (.iload_n 2) 1 12 := ⟨by decide +kernel, rfl⟩
theorem d_M_ones_12 : DC b_M_ones 12 (.iload_n 2) 1 13 := ⟨by decide +kernel, rfl⟩
theorem d_M_ones_13 : DC b_M_ones 13 (.iconst 1) 1 14 := ⟨by decide +kernel, rfl⟩
theorem d_M_ones_14 : DC b_M_ones 14 (.isub) 1 15 := ⟨by decide +kernel, rfl⟩
theorem d_M_ones_15 : DC b_M_ones 15 (.iand) 1 16 := ⟨by decide +kernel, rfl⟩
theorem d_M_ones_16 : DC b_M_ones 16 (.istore_n 2) 1 17 := ⟨by decide +kernel, rfl⟩
theorem d_M_ones_17 : DB b_M_ones 17 (.goto (-13)) (-13) 4 20 := ⟨by decide +kernel, by decide, rfl⟩
theorem d_M_ones_20 : DC b_M_ones 20 (.iload_n 1) 1 21 := ⟨by decide +kernel, rfl⟩
theorem d_M_ones_21 : decode b_M_ones 21 = .ok (.ireturn, 1) := by decide +kernel
theorem w_M_ones_l4 {X : Ctx} {Y : Lay} (hY : IsM Y) (C : Cx X Y b_M_ones 3 (some .int) "TopYardModel" 1) {N : Nat} {μ : Mem} {r : Int32} : ∀ (n : Nat) (x1 : Int32) (x2 : Int32), f_M_ones_l4 N n x1 x2 = some r → J X Y (some (.int r)) μ 3 4 [(1, .int x1), (2, .int x2)] [] μ := by
  intro n
  induction n with
  | zero => intro x1 x2 hf; rw [f_M_ones_l4] at hf; cases hf
  | succ n ih =>
    intro x1 x2 hf
    rw [f_M_ones_l4] at hf
    refine j_iload_n C d_M_ones_4 1 rfl ?_
    refine j_if_eq C d_M_ones_5 hf (fun hf => ?_) (fun hf => ?_)
    · refine j_iload_n C d_M_ones_20 0 rfl ?_
      obtain rfl := Option.some.inj hf
      exact j_iret C d_M_ones_21
    · refine j_iinc (lvf := [(2, .int x2)]) (v := 1) C d_M_ones_8 0 rfl (by decide) (by decide) rfl hf (fun v1 hf => ?_)
      refine j_iload_n C d_M_ones_11 1 rfl ?_
      refine j_iload_n C d_M_ones_12 1 rfl ?_
      refine j_iconst (v := 1) C d_M_ones_13 (by decide) ?_
      refine j_isub C d_M_ones_14 ?_
      refine j_iand C d_M_ones_15 ?_
      refine j_istore_nN (lvf := [(1, .int v1)]) C d_M_ones_16 (by decide) rfl hf (fun v2 hf => ?_)
      refine j_goto C d_M_ones_17 ?_
      refine j_sub [1, 0] rfl ?_
      exact ih v1 v2 hf
theorem c_M_ones {l : Launch} {Y : Lay} (hY : IsM Y) {N : Nat} {μ : Mem} {x0 : Int32} {r : Int32} (hf : f_M_ones N x0 = some r) : Ct l Y y_M_ones b_M_ones 3 (some .int) 1 [.int x0] (some (.int r)) μ μ := by
  refine ct_of (own := "TopYardModel") (lv := [(0, .int x0)]) (by decide +kernel) rfl (Nat.le_of_ble_eq_true rfl) rfl (fun X hl C => ?_)
  subst hl
  unfold f_M_ones at hf
  refine j_iconst (v := 0) C d_M_ones_0 (by decide) ?_
  refine j_istore_n (lvf := [(0, .int x0)]) C d_M_ones_1 (by decide) rfl ?_
  refine j_iload_n C d_M_ones_2 1 rfl ?_
  refine j_istore_n (lvf := [(1, .int 0), (0, .int x0)]) C d_M_ones_3 (by decide) rfl ?_
  refine j_sub [1, 0] rfl ?_
  exact w_M_ones_l4 hY C N 0 x0 hf
theorem d_M_det2_0 : DC b_M_det2 0 (.aload_n 0) 1 1 := ⟨by decide +kernel, rfl⟩
theorem d_M_det2_1 : DC b_M_det2 1 (.getfield 111) 3 4 := ⟨by decide +kernel, rfl⟩
theorem d_M_det2_4 : DC b_M_det2 4 (.iconst 4) 1 5 := ⟨by decide +kernel, rfl⟩
theorem d_M_det2_5 : DC b_M_det2 5 (.iload_n 1) 1 6 := ⟨by decide +kernel, rfl⟩
theorem d_M_det2_6 : DC b_M_det2 6 (.imul) 1 7 := ⟨by decide +kernel, rfl⟩
theorem d_M_det2_7 : DC b_M_det2 7 (.iload_n 3) 1 8 := ⟨by decide +kernel, rfl⟩
theorem d_M_det2_8 : DC b_M_det2 8 (.iadd) 1 9 := ⟨by decide +kernel, rfl⟩
theorem d_M_det2_9 : DC b_M_det2 9 (.laload) 1 10 := ⟨by decide +kernel, rfl⟩
theorem d_M_det2_10 : DC b_M_det2 10 (.aload_n 0) 1 11 := ⟨by decide +kernel, rfl⟩
theorem d_M_det2_11 : DC b_M_det2 11 (.getfield 111) 3 14 := ⟨by decide +kernel, rfl⟩
theorem d_M_det2_14 : DC b_M_det2 14 (.iconst 4) 1 15 := ⟨by decide +kernel, rfl⟩
theorem d_M_det2_15 : DC b_M_det2 15 (.iload_n 2) 1 16 := ⟨by decide +kernel, rfl⟩
theorem d_M_det2_16 : DC b_M_det2 16 (.imul) 1 17 := ⟨by decide +kernel, rfl⟩
theorem d_M_det2_17 : DC b_M_det2 17 (.iload 4) 2 19 := ⟨by decide +kernel, rfl⟩
theorem d_M_det2_19 : DC b_M_det2 19 (.iadd) 1 20 := ⟨by decide +kernel, rfl⟩
theorem d_M_det2_20 : DC b_M_det2 20 (.laload) 1 21 := ⟨by decide +kernel, rfl⟩
theorem d_M_det2_21 : DC b_M_det2 21 (.lmul) 1 22 := ⟨by decide +kernel, rfl⟩
theorem d_M_det2_22 : DC b_M_det2 22 (.aload_n 0) 1 23 := ⟨by decide +kernel, rfl⟩
theorem d_M_det2_23 : DC b_M_det2 23 (.getfield 111) 3 26 := ⟨by decide +kernel, rfl⟩
theorem d_M_det2_26 : DC b_M_det2 26 (.iconst 4) 1 27 := ⟨by decide +kernel, rfl⟩
theorem d_M_det2_27 : DC b_M_det2 27 (.iload_n 1) 1 28 := ⟨by decide +kernel, rfl⟩
theorem d_M_det2_28 : DC b_M_det2 28 (.imul) 1 29 := ⟨by decide +kernel, rfl⟩
theorem d_M_det2_29 : DC b_M_det2 29 (.iload 4) 2 31 := ⟨by decide +kernel, rfl⟩
theorem d_M_det2_31 : DC b_M_det2 31 (.iadd) 1 32 := ⟨by decide +kernel, rfl⟩
theorem d_M_det2_32 : DC b_M_det2 32 (.laload) 1 33 := ⟨by decide +kernel, rfl⟩
theorem d_M_det2_33 : DC b_M_det2 33 (.aload_n 0) 1 34 := ⟨by decide +kernel, rfl⟩
theorem d_M_det2_34 : DC b_M_det2 34 (.getfield 111) 3 37 := ⟨by decide +kernel, rfl⟩
theorem d_M_det2_37 : DC b_M_det2 37 (.iconst 4) 1 38 := ⟨by decide +kernel, rfl⟩
theorem d_M_det2_38 : DC b_M_det2 38 (.iload_n 2) 1 39 := ⟨by decide +kernel, rfl⟩
theorem d_M_det2_39 : DC b_M_det2 39 (.imul) 1 40 := ⟨by decide +kernel, rfl⟩
theorem d_M_det2_40 : DC b_M_det2 40 (.iload_n 3) 1 41 := ⟨by decide +kernel, rfl⟩
theorem d_M_det2_41 : DC b_M_det2 41 (.iadd) 1 42 := ⟨by decide +kernel, rfl⟩
theorem d_M_det2_42 : DC b_M_det2 42 (.laload) 1 43 := ⟨by decide +kernel, rfl⟩
theorem d_M_det2_43 : DC b_M_det2 43 (.lmul) 1 44 := ⟨by decide +kernel, rfl⟩
theorem d_M_det2_44 : DC b_M_det2 44 (.lsub) 1 45 := ⟨by decide +kernel, rfl⟩
theorem d_M_det2_45 : decode b_M_det2 45 = .ok (.lreturn, 1) := by decide +kernel
theorem c_M_det2 {l : Launch} {Y : Lay} (hY : IsM Y) {μ : Mem} {x1 : Int32} {x2 : Int32} {x3 : Int32} {x4 : Int32} {r : Int64} (hf : f_M_det2 μ x1 x2 x3 x4 = some r) : Ct l Y y_M_det2 b_M_det2 5 (some .long) 1 [.ref (yad Y 0), .int x1, .int x2, .int x3, .int x4] (some (.long r)) μ μ := by
  refine ct_of (own := "TopYardModel") (lv := [(0, .ref (yad Y 0)), (1, .int x1), (2, .int x2), (3, .int x3), (4, .int x4)]) (by decide +kernel) rfl (Nat.le_of_ble_eq_true rfl) rfl (fun X hl C => ?_)
  subst hl
  unfold f_M_det2 at hf
  refine j_aload_n C d_M_det2_0 0 rfl ?_
  refine j_gS (b := 32) C fl_M_111 (kM hY rfl) (nM hY (by decide)) rfl hY.2.2.2.1 rfl (sM hY rfl) d_M_det2_1 ?_
  refine j_iconst (v := 4) C d_M_det2_4 (by decide) ?_
  refine j_iload_n C d_M_det2_5 1 rfl ?_
  refine j_imul C d_M_det2_6 ?_
  refine j_iload_n C d_M_det2_7 3 rfl ?_
  refine j_iadd C d_M_det2_8 ?_
  refine ck hf (fun hi1 hf => ?_)
  refine j_lald C (kM hY rfl) (nM hY (by decide)) (lM hY rfl) hi1 d_M_det2_9 ?_
  refine j_aload_n C d_M_det2_10 0 rfl ?_
  refine j_gS (b := 32) C fl_M_111 (kM hY rfl) (nM hY (by decide)) rfl hY.2.2.2.1 rfl (sM hY rfl) d_M_det2_11 ?_
  refine j_iconst (v := 4) C d_M_det2_14 (by decide) ?_
  refine j_iload_n C d_M_det2_15 2 rfl ?_
  refine j_imul C d_M_det2_16 ?_
  refine j_iload C d_M_det2_17 4 rfl ?_
  refine j_iadd C d_M_det2_19 ?_
  refine ck hf (fun hi2 hf => ?_)
  refine j_lald C (kM hY rfl) (nM hY (by decide)) (lM hY rfl) hi2 d_M_det2_20 ?_
  refine j_lmul C d_M_det2_21 ?_
  refine j_aload_n C d_M_det2_22 0 rfl ?_
  refine j_gS (b := 32) C fl_M_111 (kM hY rfl) (nM hY (by decide)) rfl hY.2.2.2.1 rfl (sM hY rfl) d_M_det2_23 ?_
  refine j_iconst (v := 4) C d_M_det2_26 (by decide) ?_
  refine j_iload_n C d_M_det2_27 1 rfl ?_
  refine j_imul C d_M_det2_28 ?_
  refine j_iload C d_M_det2_29 4 rfl ?_
  refine j_iadd C d_M_det2_31 ?_
  refine ck hf (fun hi3 hf => ?_)
  refine j_lald C (kM hY rfl) (nM hY (by decide)) (lM hY rfl) hi3 d_M_det2_32 ?_
  refine j_aload_n C d_M_det2_33 0 rfl ?_
  refine j_gS (b := 32) C fl_M_111 (kM hY rfl) (nM hY (by decide)) rfl hY.2.2.2.1 rfl (sM hY rfl) d_M_det2_34 ?_
  refine j_iconst (v := 4) C d_M_det2_37 (by decide) ?_
  refine j_iload_n C d_M_det2_38 2 rfl ?_
  refine j_imul C d_M_det2_39 ?_
  refine j_iload_n C d_M_det2_40 3 rfl ?_
  refine j_iadd C d_M_det2_41 ?_
  refine ck hf (fun hi4 hf => ?_)
  refine j_lald C (kM hY rfl) (nM hY (by decide)) (lM hY rfl) hi4 d_M_det2_42 ?_
  refine j_lmul C d_M_det2_43 ?_
  refine j_lsub C d_M_det2_44 ?_
  obtain rfl := Option.some.inj hf
  exact j_lret C d_M_det2_45
theorem d_M_det3_0 : DC b_M_det3 0 (.aload_n 0) 1 1 := ⟨by decide +kernel, rfl⟩
theorem d_M_det3_1 : DC b_M_det3 1 (.getfield 111) 3 4 := ⟨by decide +kernel, rfl⟩
theorem d_M_det3_4 : DC b_M_det3 4 (.iconst 4) 1 5 := ⟨by decide +kernel, rfl⟩
theorem d_M_det3_5 : DC b_M_det3 5 (.iload_n 1) 1 6 := ⟨by decide +kernel, rfl⟩
theorem d_M_det3_6 : DC b_M_det3 6 (.imul) 1 7 := ⟨by decide +kernel, rfl⟩
theorem d_M_det3_7 : DC b_M_det3 7 (.iload 4) 2 9 := ⟨by decide +kernel, rfl⟩
theorem d_M_det3_9 : DC b_M_det3 9 (.iadd) 1 10 := ⟨by decide +kernel, rfl⟩
theorem d_M_det3_10 : DC b_M_det3 10 (.laload) 1 11 := ⟨by decide +kernel, rfl⟩
theorem d_M_det3_11 : DC b_M_det3 11 (.aload_n 0) 1 12 := ⟨by decide +kernel, rfl⟩
theorem d_M_det3_12 : DC b_M_det3 12 (.iload_n 2) 1 13 := ⟨by decide +kernel, rfl⟩
theorem d_M_det3_13 : DC b_M_det3 13 (.iload_n 3) 1 14 := ⟨by decide +kernel, rfl⟩
theorem d_M_det3_14 : DC b_M_det3 14 (.iload 5) 2 16 := ⟨by decide +kernel, rfl⟩
theorem d_M_det3_16 : DC b_M_det3 16 (.iload 6) 2 18 := ⟨by decide +kernel, rfl⟩
theorem d_M_det3_18 : DC b_M_det3 18 (.invokevirtual 317) 3 21 := ⟨by decide +kernel, rfl⟩
theorem d_M_det3_21 : DC b_M_det3 21 (.lmul) 1 22 := ⟨by decide +kernel, rfl⟩
theorem d_M_det3_22 : DC b_M_det3 22 (.aload_n 0) 1 23 := ⟨by decide +kernel, rfl⟩
theorem d_M_det3_23 : DC b_M_det3 23 (.getfield 111) 3 26 := ⟨by decide +kernel, rfl⟩
theorem d_M_det3_26 : DC b_M_det3 26 (.iconst 4) 1 27 := ⟨by decide +kernel, rfl⟩
theorem d_M_det3_27 : DC b_M_det3 27 (.iload_n 1) 1 28 := ⟨by decide +kernel, rfl⟩
theorem d_M_det3_28 : DC b_M_det3 28 (.imul) 1 29 := ⟨by decide +kernel, rfl⟩
theorem d_M_det3_29 : DC b_M_det3 29 (.iload 5) 2 31 := ⟨by decide +kernel, rfl⟩
theorem d_M_det3_31 : DC b_M_det3 31 (.iadd) 1 32 := ⟨by decide +kernel, rfl⟩
theorem d_M_det3_32 : DC b_M_det3 32 (.laload) 1 33 := ⟨by decide +kernel, rfl⟩
theorem d_M_det3_33 : DC b_M_det3 33 (.aload_n 0) 1 34 := ⟨by decide +kernel, rfl⟩
theorem d_M_det3_34 : DC b_M_det3 34 (.iload_n 2) 1 35 := ⟨by decide +kernel, rfl⟩
theorem d_M_det3_35 : DC b_M_det3 35 (.iload_n 3) 1 36 := ⟨by decide +kernel, rfl⟩
theorem d_M_det3_36 : DC b_M_det3 36 (.iload 4) 2 38 := ⟨by decide +kernel, rfl⟩
theorem d_M_det3_38 : DC b_M_det3 38 (.iload 6) 2 40 := ⟨by decide +kernel, rfl⟩
theorem d_M_det3_40 : DC b_M_det3 40 (.invokevirtual 317) 3 43 := ⟨by decide +kernel, rfl⟩
theorem d_M_det3_43 : DC b_M_det3 43 (.lmul) 1 44 := ⟨by decide +kernel, rfl⟩
theorem d_M_det3_44 : DC b_M_det3 44 (.lsub) 1 45 := ⟨by decide +kernel, rfl⟩
theorem d_M_det3_45 : DC b_M_det3 45 (.aload_n 0) 1 46 := ⟨by decide +kernel, rfl⟩
theorem d_M_det3_46 : DC b_M_det3 46 (.getfield 111) 3 49 := ⟨by decide +kernel, rfl⟩
theorem d_M_det3_49 : DC b_M_det3 49 (.iconst 4) 1 50 := ⟨by decide +kernel, rfl⟩
theorem d_M_det3_50 : DC b_M_det3 50 (.iload_n 1) 1 51 := ⟨by decide +kernel, rfl⟩
theorem d_M_det3_51 : DC b_M_det3 51 (.imul) 1 52 := ⟨by decide +kernel, rfl⟩
theorem d_M_det3_52 : DC b_M_det3 52 (.iload 6) 2 54 := ⟨by decide +kernel, rfl⟩
theorem d_M_det3_54 : DC b_M_det3 54 (.iadd) 1 55 := ⟨by decide +kernel, rfl⟩
theorem d_M_det3_55 : DC b_M_det3 55 (.laload) 1 56 := ⟨by decide +kernel, rfl⟩
theorem d_M_det3_56 : DC b_M_det3 56 (.aload_n 0) 1 57 := ⟨by decide +kernel, rfl⟩
theorem d_M_det3_57 : DC b_M_det3 57 (.iload_n 2) 1 58 := ⟨by decide +kernel, rfl⟩
theorem d_M_det3_58 : DC b_M_det3 58 (.iload_n 3) 1 59 := ⟨by decide +kernel, rfl⟩
theorem d_M_det3_59 : DC b_M_det3 59 (.iload 4) 2 61 := ⟨by decide +kernel, rfl⟩
theorem d_M_det3_61 : DC b_M_det3 61 (.iload 5) 2 63 := ⟨by decide +kernel, rfl⟩
theorem d_M_det3_63 : DC b_M_det3 63 (.invokevirtual 317) 3 66 := ⟨by decide +kernel, rfl⟩
theorem d_M_det3_66 : DC b_M_det3 66 (.lmul) 1 67 := ⟨by decide +kernel, rfl⟩
theorem d_M_det3_67 : DC b_M_det3 67 (.ladd) 1 68 := ⟨by decide +kernel, rfl⟩
theorem d_M_det3_68 : decode b_M_det3 68 = .ok (.lreturn, 1) := by decide +kernel
theorem c_M_det3 {l : Launch} {Y : Lay} (hY : IsM Y) {μ : Mem} {x1 : Int32} {x2 : Int32} {x3 : Int32} {x4 : Int32} {x5 : Int32} {x6 : Int32} {r : Int64} (hf : f_M_det3 μ x1 x2 x3 x4 x5 x6 = some r) : Ct l Y y_M_det3 b_M_det3 7 (some .long) 2 [.ref (yad Y 0), .int x1, .int x2, .int x3, .int x4, .int x5, .int x6] (some (.long r)) μ μ := by
  refine ct_of (own := "TopYardModel") (lv := [(0, .ref (yad Y 0)), (1, .int x1), (2, .int x2), (3, .int x3), (4, .int x4), (5, .int x5), (6, .int x6)]) (by decide +kernel) rfl (Nat.le_of_ble_eq_true rfl) rfl (fun X hl C => ?_)
  subst hl
  unfold f_M_det3 at hf
  refine j_aload_n C d_M_det3_0 0 rfl ?_
  refine j_gS (b := 32) C fl_M_111 (kM hY rfl) (nM hY (by decide)) rfl hY.2.2.2.1 rfl (sM hY rfl) d_M_det3_1 ?_
  refine j_iconst (v := 4) C d_M_det3_4 (by decide) ?_
  refine j_iload_n C d_M_det3_5 1 rfl ?_
  refine j_imul C d_M_det3_6 ?_
  refine j_iload C d_M_det3_7 4 rfl ?_
  refine j_iadd C d_M_det3_9 ?_
  refine ck hf (fun hi1 hf => ?_)
  refine j_lald C (kM hY rfl) (nM hY (by decide)) (lM hY rfl) hi1 d_M_det3_10 ?_
  refine j_aload_n C d_M_det3_11 0 rfl ?_
  refine j_iload_n C d_M_det3_12 2 rfl ?_
  refine j_iload_n C d_M_det3_13 3 rfl ?_
  refine j_iload C d_M_det3_14 5 rfl ?_
  refine j_iload C d_M_det3_16 6 rfl ?_
  refine bd hf (fun v2 hc9 hf => ?_)
  refine j_cV (rest := [.long (gL μ 32 (ix (((4 : Int32) * x1) + x4)))]) C lk_M_317 (c_M_det2 hY hc9) rfl (kM hY rfl) (nM hY (by decide)) (by decide) rfl rfl (by decide) rfl (Nat.le_of_ble_eq_true rfl) d_M_det3_18 ?_
  refine j_lmul C d_M_det3_21 ?_
  refine j_aload_n C d_M_det3_22 0 rfl ?_
  refine j_gS (b := 32) C fl_M_111 (kM hY rfl) (nM hY (by decide)) rfl hY.2.2.2.1 rfl (sM hY rfl) d_M_det3_23 ?_
  refine j_iconst (v := 4) C d_M_det3_26 (by decide) ?_
  refine j_iload_n C d_M_det3_27 1 rfl ?_
  refine j_imul C d_M_det3_28 ?_
  refine j_iload C d_M_det3_29 5 rfl ?_
  refine j_iadd C d_M_det3_31 ?_
  refine ck hf (fun hi3 hf => ?_)
  refine j_lald C (kM hY rfl) (nM hY (by decide)) (lM hY rfl) hi3 d_M_det3_32 ?_
  refine j_aload_n C d_M_det3_33 0 rfl ?_
  refine j_iload_n C d_M_det3_34 2 rfl ?_
  refine j_iload_n C d_M_det3_35 3 rfl ?_
  refine j_iload C d_M_det3_36 4 rfl ?_
  refine j_iload C d_M_det3_38 6 rfl ?_
  refine bd hf (fun v4 hc8 hf => ?_)
  refine j_cV (rest := [.long (gL μ 32 (ix (((4 : Int32) * x1) + x5))), .long ((gL μ 32 (ix (((4 : Int32) * x1) + x4))) * v2)]) C lk_M_317 (c_M_det2 hY hc8) rfl (kM hY rfl) (nM hY (by decide)) (by decide) rfl rfl (by decide) rfl (Nat.le_of_ble_eq_true rfl) d_M_det3_40 ?_
  refine j_lmul C d_M_det3_43 ?_
  refine j_lsub C d_M_det3_44 ?_
  refine j_aload_n C d_M_det3_45 0 rfl ?_
  refine j_gS (b := 32) C fl_M_111 (kM hY rfl) (nM hY (by decide)) rfl hY.2.2.2.1 rfl (sM hY rfl) d_M_det3_46 ?_
  refine j_iconst (v := 4) C d_M_det3_49 (by decide) ?_
  refine j_iload_n C d_M_det3_50 1 rfl ?_
  refine j_imul C d_M_det3_51 ?_
  refine j_iload C d_M_det3_52 6 rfl ?_
  refine j_iadd C d_M_det3_54 ?_
  refine ck hf (fun hi5 hf => ?_)
  refine j_lald C (kM hY rfl) (nM hY (by decide)) (lM hY rfl) hi5 d_M_det3_55 ?_
  refine j_aload_n C d_M_det3_56 0 rfl ?_
  refine j_iload_n C d_M_det3_57 2 rfl ?_
  refine j_iload_n C d_M_det3_58 3 rfl ?_
  refine j_iload C d_M_det3_59 4 rfl ?_
  refine j_iload C d_M_det3_61 5 rfl ?_
  refine bd hf (fun v6 hc7 hf => ?_)
  refine j_cV (rest := [.long (gL μ 32 (ix (((4 : Int32) * x1) + x6))), .long (((gL μ 32 (ix (((4 : Int32) * x1) + x4))) * v2) - ((gL μ 32 (ix (((4 : Int32) * x1) + x5))) * v4))]) C lk_M_317 (c_M_det2 hY hc7) rfl (kM hY rfl) (nM hY (by decide)) (by decide) rfl rfl (by decide) rfl (Nat.le_of_ble_eq_true rfl) d_M_det3_63 ?_
  refine j_lmul C d_M_det3_66 ?_
  refine j_ladd C d_M_det3_67 ?_
  obtain rfl := Option.some.inj hf
  exact j_lret C d_M_det3_68
theorem d_M_without_0 : DC b_M_without 0 (.iload_n 0) 1 1 := ⟨by decide +kernel, rfl⟩
theorem d_M_without_1 : DC b_M_without 1 (.iload_n 1) 1 2 := ⟨by decide +kernel, rfl⟩
theorem d_M_without_2 : DB b_M_without 2 (.if_icmp .ge 7) 7 9 5 := ⟨by decide +kernel, by decide, rfl⟩
theorem d_M_without_5 : DC b_M_without 5 (.iload_n 0) 1 6 := ⟨by decide +kernel, rfl⟩
theorem d_M_without_6 : DB b_M_without 6 (.goto 6) 6 12 9 := ⟨by decide +kernel, by decide, rfl⟩
theorem d_M_without_9 : DC b_M_without 9 (.iload_n 0) 1 10 := ⟨by decide +kernel, rfl⟩
theorem d_M_without_10 : DC b_M_without 10 (.iconst 1) 1 11 := ⟨by decide +kernel, rfl⟩
theorem d_M_without_11 : DC b_M_without 11 (.iadd) 1 12 := ⟨by decide +kernel, rfl⟩
theorem d_M_without_12 : decode b_M_without 12 = .ok (.ireturn, 1) := by decide +kernel
theorem c_M_without {l : Launch} {Y : Lay} (hY : IsM Y) {μ : Mem} {x0 : Int32} {x1 : Int32} {r : Int32} (hf : f_M_without x0 x1 = some r) : Ct l Y y_M_without b_M_without 2 (some .int) 1 [.int x0, .int x1] (some (.int r)) μ μ := by
  refine ct_of (own := "TopYardModel") (lv := [(0, .int x0), (1, .int x1)]) (by decide +kernel) rfl (Nat.le_of_ble_eq_true rfl) rfl (fun X hl C => ?_)
  subst hl
  unfold f_M_without at hf
  refine j_iload_n C d_M_without_0 0 rfl ?_
  refine j_iload_n C d_M_without_1 1 rfl ?_
  refine j_icmp_ge C d_M_without_2 hf (fun hf => ?_) (fun hf => ?_)
  · refine j_iload_n C d_M_without_9 0 rfl ?_
    refine j_iconst (v := 1) C d_M_without_10 (by decide) ?_
    refine j_iadd C d_M_without_11 ?_
    obtain rfl := Option.some.inj hf
    exact j_iret C d_M_without_12
  · refine j_iload_n C d_M_without_5 0 rfl ?_
    refine j_goto C d_M_without_6 ?_
    obtain rfl := Option.some.inj hf
    exact j_iret C d_M_without_12
theorem d_M_minor_0 : DC b_M_minor 0 (.iconst 0) 1 1 := ⟨by decide +kernel, rfl⟩
theorem d_M_minor_1 : DC b_M_minor 1 (.iload_n 2) 1 2 := ⟨by decide +kernel, rfl⟩
theorem d_M_minor_2 : DC b_M_minor 2 (.invokestatic 321) 3 5 := ⟨by decide +kernel, rfl⟩
theorem d_M_minor_5 : DC b_M_minor 5 (.istore 4) 2 7 := ⟨by decide +kernel, rfl⟩
theorem d_M_minor_7 : DC b_M_minor 7 (.iconst 1) 1 8 := ⟨by decide +kernel, rfl⟩
theorem d_M_minor_8 : DC b_M_minor 8 (.iload_n 2) 1 9 := ⟨by decide +kernel, rfl⟩
theorem d_M_minor_9 : DC b_M_minor 9 (.invokestatic 321) 3 12 := ⟨by decide +kernel, rfl⟩
theorem d_M_minor_12 : DC b_M_minor 12 (.istore 5) 2 14 := ⟨by decide +kernel, rfl⟩
theorem d_M_minor_14 : DC b_M_minor 14 (.iconst 0) 1 15 := ⟨by decide +kernel, rfl⟩
theorem d_M_minor_15 : DC b_M_minor 15 (.iload_n 3) 1 16 := ⟨by decide +kernel, rfl⟩
theorem d_M_minor_16 : DC b_M_minor 16 (.invokestatic 321) 3 19 := ⟨by decide +kernel, rfl⟩
theorem d_M_minor_19 : DC b_M_minor 19 (.istore 6) 2 21 := ⟨by decide +kernel, rfl⟩
theorem d_M_minor_21 : DC b_M_minor 21 (.iconst 1) 1 22 := ⟨by decide +kernel, rfl⟩
theorem d_M_minor_22 : DC b_M_minor 22 (.iload_n 3) 1 23 := ⟨by decide +kernel, rfl⟩
theorem d_M_minor_23 : DC b_M_minor 23 (.invokestatic 321) 3 26 := ⟨by decide +kernel, rfl⟩
theorem d_M_minor_26 : DC b_M_minor 26 (.istore 7) 2 28 := ⟨by decide +kernel, rfl⟩
theorem d_M_minor_28 : DC b_M_minor 28 (.iload_n 1) 1 29 := ⟨by decide +kernel, rfl⟩
theorem d_M_minor_29 : decode b_M_minor 29 = .ok (.tableswitch 55 1 3 #[27, 29, 42], 27) := by decide +kernel
theorem d_M_minor_56 : DC b_M_minor 56 (.lconst 1) 1 57 := ⟨by decide +kernel, rfl⟩
theorem d_M_minor_57 : decode b_M_minor 57 = .ok (.lreturn, 1) := by decide +kernel
theorem d_M_minor_58 : DC b_M_minor 58 (.aload_n 0) 1 59 := ⟨by decide +kernel, rfl⟩
theorem d_M_minor_59 : DC b_M_minor 59 (.getfield 111) 3 62 := ⟨by decide +kernel, rfl⟩
theorem d_M_minor_62 : DC b_M_minor 62 (.iconst 4) 1 63 := ⟨by decide +kernel, rfl⟩
theorem d_M_minor_63 : DC b_M_minor 63 (.iload 4) 2 65 := ⟨by decide +kernel, rfl⟩
theorem d_M_minor_65 : DC b_M_minor 65 (.imul) 1 66 := ⟨by decide +kernel, rfl⟩
theorem d_M_minor_66 : DC b_M_minor 66 (.iload 6) 2 68 := ⟨by decide +kernel, rfl⟩
theorem d_M_minor_68 : DC b_M_minor 68 (.iadd) 1 69 := ⟨by decide +kernel, rfl⟩
theorem d_M_minor_69 : DC b_M_minor 69 (.laload) 1 70 := ⟨by decide +kernel, rfl⟩
theorem d_M_minor_70 : decode b_M_minor 70 = .ok (.lreturn, 1) := by decide +kernel
theorem d_M_minor_71 : DC b_M_minor 71 (.aload_n 0) 1 72 := ⟨by decide +kernel, rfl⟩
theorem d_M_minor_72 : DC b_M_minor 72 (.iload 4) 2 74 := ⟨by decide +kernel, rfl⟩
theorem d_M_minor_74 : DC b_M_minor 74 (.iload 5) 2 76 := ⟨by decide +kernel, rfl⟩
theorem d_M_minor_76 : DC b_M_minor 76 (.iload 6) 2 78 := ⟨by decide +kernel, rfl⟩
theorem d_M_minor_78 : DC b_M_minor 78 (.iload 7) 2 80 := ⟨by decide +kernel, rfl⟩
theorem d_M_minor_80 : DC b_M_minor 80 (.invokevirtual 317) 3 83 := ⟨by decide +kernel, rfl⟩
theorem d_M_minor_83 : decode b_M_minor 83 = .ok (.lreturn, 1) := by decide +kernel
theorem d_M_minor_84 : DC b_M_minor 84 (.aload_n 0) 1 85 := ⟨by decide +kernel, rfl⟩
theorem d_M_minor_85 : DC b_M_minor 85 (.iload 4) 2 87 := ⟨by decide +kernel, rfl⟩
theorem d_M_minor_87 : DC b_M_minor 87 (.iload 5) 2 89 := ⟨by decide +kernel, rfl⟩
theorem d_M_minor_89 : DC b_M_minor 89 (.iconst 2) 1 90 := ⟨by decide +kernel, rfl⟩
theorem d_M_minor_90 : DC b_M_minor 90 (.iload_n 2) 1 91 := ⟨by decide +kernel, rfl⟩
theorem d_M_minor_91 : DC b_M_minor 91 (.invokestatic 321) 3 94 := ⟨by decide +kernel, rfl⟩
theorem d_M_minor_94 : DC b_M_minor 94 (.iload 6) 2 96 := ⟨by decide +kernel, rfl⟩
theorem d_M_minor_96 : DC b_M_minor 96 (.iload 7) 2 98 := ⟨by decide +kernel, rfl⟩
theorem d_M_minor_98 : DC b_M_minor 98 (.iconst 2) 1 99 := ⟨by decide +kernel, rfl⟩
theorem d_M_minor_99 : DC b_M_minor 99 (.iload_n 3) 1 100 := ⟨by decide +kernel, rfl⟩
theorem d_M_minor_100 : DC b_M_minor 100 (.invokestatic 321) 3 103 := ⟨by decide +kernel, rfl⟩
theorem d_M_minor_103 : DC b_M_minor 103 (.invokevirtual 324) 3 106 := ⟨by decide +kernel, rfl⟩
theorem d_M_minor_106 : decode b_M_minor 106 = .ok (.lreturn, 1) := by decide +kernel
theorem c_M_minor {l : Launch} {Y : Lay} (hY : IsM Y) {μ : Mem} {x1 : Int32} {x2 : Int32} {x3 : Int32} {r : Int64} (hf : f_M_minor μ x1 x2 x3 = some r) : Ct l Y y_M_minor b_M_minor 8 (some .long) 3 [.ref (yad Y 0), .int x1, .int x2, .int x3] (some (.long r)) μ μ := by
  refine ct_of (own := "TopYardModel") (lv := [(0, .ref (yad Y 0)), (1, .int x1), (2, .int x2), (3, .int x3)]) (by decide +kernel) rfl (Nat.le_of_ble_eq_true rfl) rfl (fun X hl C => ?_)
  subst hl
  unfold f_M_minor at hf
  refine j_iconst (v := 0) C d_M_minor_0 (by decide) ?_
  refine j_iload_n C d_M_minor_1 2 rfl ?_
  refine bd hf (fun v1 hc20 hf => ?_)
  refine j_cS (rest := []) C lk_M_321 (c_M_without hY hc20) rfl (by decide) rfl (Nat.le_of_ble_eq_true rfl) d_M_minor_2 ?_
  refine j_istore (lvf := [(0, .ref (yad Y 0)), (1, .int x1), (2, .int x2), (3, .int x3)]) C d_M_minor_5 (by decide) rfl ?_
  refine j_iconst (v := 1) C d_M_minor_7 (by decide) ?_
  refine j_iload_n C d_M_minor_8 3 rfl ?_
  refine bd hf (fun v2 hc19 hf => ?_)
  refine j_cS (rest := []) C lk_M_321 (c_M_without hY hc19) rfl (by decide) rfl (Nat.le_of_ble_eq_true rfl) d_M_minor_9 ?_
  refine j_istore (lvf := [(4, .int v1), (0, .ref (yad Y 0)), (1, .int x1), (2, .int x2), (3, .int x3)]) C d_M_minor_12 (by decide) rfl ?_
  refine j_iconst (v := 0) C d_M_minor_14 (by decide) ?_
  refine j_iload_n C d_M_minor_15 5 rfl ?_
  refine bd hf (fun v3 hc18 hf => ?_)
  refine j_cS (rest := []) C lk_M_321 (c_M_without hY hc18) rfl (by decide) rfl (Nat.le_of_ble_eq_true rfl) d_M_minor_16 ?_
  refine j_istore (lvf := [(5, .int v2), (4, .int v1), (0, .ref (yad Y 0)), (1, .int x1), (2, .int x2), (3, .int x3)]) C d_M_minor_19 (by decide) rfl ?_
  refine j_iconst (v := 1) C d_M_minor_21 (by decide) ?_
  refine j_iload_n C d_M_minor_22 6 rfl ?_
  refine bd hf (fun v4 hc17 hf => ?_)
  refine j_cS (rest := []) C lk_M_321 (c_M_without hY hc17) rfl (by decide) rfl (Nat.le_of_ble_eq_true rfl) d_M_minor_23 ?_
  refine j_istore (lvf := [(6, .int v3), (5, .int v2), (4, .int v1), (0, .ref (yad Y 0)), (1, .int x1), (2, .int x2), (3, .int x3)]) C d_M_minor_26 (by decide) rfl ?_
  refine j_iload_n C d_M_minor_28 5 rfl ?_
  refine j_key hf (fun hx5 hf => ?_) (fun hx5 hf => ?_)
  · refine j_tin (tgt' := 56) (off := 27) (v := 1) C d_M_minor_29 hx5 (by decide) (by decide) (by decide) (by decide) ?_
    refine j_lconst (v := 1) C d_M_minor_56 (by decide) ?_
    obtain rfl := Option.some.inj hf
    exact j_lret C d_M_minor_57
  · refine j_key hf (fun hx7 hf => ?_) (fun hx7 hf => ?_)
    · refine j_tin (tgt' := 58) (off := 29) (v := 2) C d_M_minor_29 hx7 (by decide) (by decide) (by decide) (by decide) ?_
      refine j_aload_n C d_M_minor_58 4 rfl ?_
      refine j_gS (b := 32) C fl_M_111 (kM hY rfl) (nM hY (by decide)) rfl hY.2.2.2.1 rfl (sM hY rfl) d_M_minor_59 ?_
      refine j_iconst (v := 4) C d_M_minor_62 (by decide) ?_
      refine j_iload C d_M_minor_63 3 rfl ?_
      refine j_imul C d_M_minor_65 ?_
      refine j_iload C d_M_minor_66 1 rfl ?_
      refine j_iadd C d_M_minor_68 ?_
      refine ck hf (fun hi6 hf => ?_)
      refine j_lald C (kM hY rfl) (nM hY (by decide)) (lM hY rfl) hi6 d_M_minor_69 ?_
      obtain rfl := Option.some.inj hf
      exact j_lret C d_M_minor_70
    · refine j_key hf (fun hx10 hf => ?_) (fun hx10 hf => ?_)
      · refine j_tin (tgt' := 71) (off := 42) (v := 3) C d_M_minor_29 hx10 (by decide) (by decide) (by decide) (by decide) ?_
        refine j_aload_n C d_M_minor_71 4 rfl ?_
        refine j_iload C d_M_minor_72 3 rfl ?_
        refine j_iload C d_M_minor_74 2 rfl ?_
        refine j_iload C d_M_minor_76 1 rfl ?_
        refine j_iload C d_M_minor_78 0 rfl ?_
        refine bd hf (fun v8 hc9 hf => ?_)
        refine j_cV (rest := []) C lk_M_317 (c_M_det2 hY hc9) rfl (kM hY rfl) (nM hY (by decide)) (by decide) rfl rfl (by decide) rfl (Nat.le_of_ble_eq_true rfl) d_M_minor_80 ?_
        obtain rfl := Option.some.inj hf
        exact j_lret C d_M_minor_83
      · refine j_tout (tgt' := 84) C d_M_minor_29 (by have qhx5 := sw_ne (z := 1) hx5 (by decide); have qhx7 := sw_ne (z := 2) hx7 (by decide); have qhx10 := sw_ne (z := 3) hx10 (by decide); omega) (by decide) ?_
        refine j_aload_n C d_M_minor_84 4 rfl ?_
        refine j_iload C d_M_minor_85 3 rfl ?_
        refine j_iload C d_M_minor_87 2 rfl ?_
        refine j_iconst (v := 2) C d_M_minor_89 (by decide) ?_
        refine j_iload_n C d_M_minor_90 6 rfl ?_
        refine bd hf (fun v11 hc16 hf => ?_)
        refine j_cS (rest := [.int v2, .int v1, .ref (yad Y 0)]) C lk_M_321 (c_M_without hY hc16) rfl (by decide) rfl (Nat.le_of_ble_eq_true rfl) d_M_minor_91 ?_
        refine j_iload C d_M_minor_94 1 rfl ?_
        refine j_iload C d_M_minor_96 0 rfl ?_
        refine j_iconst (v := 2) C d_M_minor_98 (by decide) ?_
        refine j_iload_n C d_M_minor_99 7 rfl ?_
        refine bd hf (fun v12 hc15 hf => ?_)
        refine j_cS (rest := [.int v4, .int v3, .int v11, .int v2, .int v1, .ref (yad Y 0)]) C lk_M_321 (c_M_without hY hc15) rfl (by decide) rfl (Nat.le_of_ble_eq_true rfl) d_M_minor_100 ?_
        refine bd hf (fun v13 hc14 hf => ?_)
        refine j_cV (rest := []) C lk_M_324 (c_M_det3 hY hc14) rfl (kM hY rfl) (nM hY (by decide)) (by decide) rfl rfl (by decide) rfl (Nat.le_of_ble_eq_true rfl) d_M_minor_103 ?_
        obtain rfl := Option.some.inj hf
        exact j_lret C d_M_minor_106
theorem d_M_takesPart_0 : DC b_M_takesPart 0 (.iconst 0) 1 1 := ⟨by decide +kernel, rfl⟩
theorem d_M_takesPart_1 : DC b_M_takesPart 1 (.istore_n 3) 1 2 := ⟨by decide +kernel, rfl⟩
theorem d_M_takesPart_2 : DC b_M_takesPart 2 (.iconst 0) 1 3 := ⟨by decide +kernel, rfl⟩
theorem d_M_takesPart_3 : DC b_M_takesPart 3 (.istore 4) 2 5 := ⟨by decide +kernel, rfl⟩
theorem d_M_takesPart_5 : DC b_M_takesPart 5 (.iload 4) 2 7 := ⟨by decide +kernel, rfl⟩
theorem d_M_takesPart_7 : DC b_M_takesPart 7 (.aload_n 0) 1 8 := ⟨by decide +kernel, rfl⟩
theorem d_M_takesPart_8 : DC b_M_takesPart 8 (.getfield 305) 3 11 := ⟨by decide +kernel, rfl⟩
theorem d_M_takesPart_11 : DB b_M_takesPart 11 (.if_icmp .ge 83) 83 94 14 := ⟨by decide +kernel, by decide, rfl⟩
theorem d_M_takesPart_14 : DC b_M_takesPart 14 (.iload_n 1) 1 15 := ⟨by decide +kernel, rfl⟩
theorem d_M_takesPart_15 : DC b_M_takesPart 15 (.iload 4) 2 17 := ⟨by decide +kernel, rfl⟩
theorem d_M_takesPart_17 : DC b_M_takesPart 17 (.ishr) 1 18 := ⟨by decide +kernel, rfl⟩
theorem d_M_takesPart_18 : DC b_M_takesPart 18 (.iconst 1) 1 19 := ⟨by decide +kernel, rfl⟩
theorem d_M_takesPart_19 : DC b_M_takesPart 19 (.iand) 1 20 := ⟨by decide +kernel, rfl⟩
theorem d_M_takesPart_20 : DC b_M_takesPart 20 (.iconst 1) 1 21 := ⟨by decide +kernel, rfl⟩
theorem d_M_takesPart_21 : DB b_M_takesPart 21 (.if_icmp .ne 67) 67 88 24 := ⟨by decide +kernel, by decide, rfl⟩
theorem d_M_takesPart_24 : DC b_M_takesPart 24 (.iconst 0) 1 25 := ⟨by decide +kernel, rfl⟩
theorem d_M_takesPart_25 : DC b_M_takesPart 25 (.istore 5) 2 27 := ⟨by decide +kernel, rfl⟩
theorem d_M_takesPart_27 : DC b_M_takesPart 27 (.iconst 0) 1 28 := ⟨by decide +kernel, rfl⟩
theorem d_M_takesPart_28 : DC b_M_takesPart 28 (.istore 6) 2 30 := ⟨by decide +kernel, rfl⟩
theorem d_M_takesPart_30 : DC b_M_takesPart 30 (.iload 6) 2 32 := ⟨by decide +kernel, rfl⟩
theorem d_M_takesPart_32 : DC b_M_takesPart 32 (.aload_n 0) 1 33 := ⟨by decide +kernel, rfl⟩
theorem d_M_takesPart_33 : DC b_M_takesPart 33 (.getfield 308) 3 36 := ⟨by decide +kernel, rfl⟩
theorem d_M_takesPart_36 : DB b_M_takesPart 36 (.if_icmp .ge 49) 49 85 39 := ⟨by decide +kernel, by decide, rfl⟩
theorem d_M_takesPart_39 : DC b_M_takesPart 39 (.iload_n 2) 1 40 := ⟨by decide +kernel, rfl⟩
theorem d_M_takesPart_40 : DC b_M_takesPart 40 (.iload 6) 2 42 := ⟨by decide +kernel, rfl⟩
theorem d_M_takesPart_42 : DC b_M_takesPart 42 (.ishr) 1 43 := ⟨by decide +kernel, rfl⟩
theorem d_M_takesPart_43 : DC b_M_takesPart 43 (.iconst 1) 1 44 := ⟨by decide +kernel, rfl⟩
theorem d_M_takesPart_44 : DC b_M_takesPart 44 (.iand) 1 45 := ⟨by decide +kernel, rfl⟩
theorem d_M_takesPart_45 : DC b_M_takesPart 45 (.iconst 1) 1 46 := ⟨by decide +kernel, rfl⟩
theorem d_M_takesPart_46 : DB b_M_takesPart 46 (.if_icmp .ne 33) 33 79 49 := ⟨by decide +kernel, by decide, rfl⟩
theorem d_M_takesPart_49 : DC b_M_takesPart 49 (.aload_n 0) 1 50 := ⟨by decide +kernel, rfl⟩
theorem d_M_takesPart_50 : DC b_M_takesPart 50 (.getfield 111) 3 53 := ⟨by decide +kernel, rfl⟩
theorem d_M_takesPart_53 : DC b_M_takesPart 53 (.iconst 4) 1 54 := ⟨by decide +kernel, rfl⟩
theorem d_M_takesPart_54 : DC b_M_takesPart 54 (.iload_n 3) 1 55 := ⟨by decide +kernel, rfl⟩
theorem d_M_takesPart_55 : DC b_M_takesPart 55 (.imul) 1 56 := ⟨by decide +kernel, rfl⟩
theorem d_M_takesPart_56 : DC b_M_takesPart 56 (.iload 5) 2 58 := ⟨by decide +kernel, rfl⟩
theorem d_M_takesPart_58 : DC b_M_takesPart 58 (.iadd) 1 59 := ⟨by decide +kernel, rfl⟩
theorem d_M_takesPart_59 : DC b_M_takesPart 59 (.aload_n 0) 1 60 := ⟨by decide +kernel, rfl⟩
theorem d_M_takesPart_60 : DC b_M_takesPart 60 (.getfield 108) 3 63 := ⟨by decide +kernel, rfl⟩
theorem d_M_takesPart_63 : DC b_M_takesPart 63 (.iconst 4) 1 64 := ⟨by decide +kernel, rfl⟩
theorem d_M_takesPart_64 : DC b_M_takesPart 64 (.iload 4) 2 66 := ⟨by decide +kernel, rfl⟩
theorem d_M_takesPart_66 : DC b_M_takesPart 66 (.imul) 1 67 := ⟨by decide +kernel, rfl⟩
theorem d_M_takesPart_67 : DC b_M_takesPart 67 (.iload 6) 2 69 := ⟨by decide +kernel, rfl⟩
theorem d_M_takesPart_69 : DC b_M_takesPart 69 (.iadd) 1 70 := ⟨by decide +kernel, rfl⟩
theorem d_M_takesPart_70 : DC b_M_takesPart 70 (.iaload) 1 71 := ⟨by decide +kernel, rfl⟩
theorem d_M_takesPart_71 : DC b_M_takesPart 71 (.bipush 20) 2 73 := ⟨by decide +kernel, rfl⟩
theorem d_M_takesPart_73 : DC b_M_takesPart 73 (.iadd) 1 74 := ⟨by decide +kernel, rfl⟩
theorem d_M_takesPart_74 : DC b_M_takesPart 74 (.i2l) 1 75 := ⟨by decide +kernel, rfl⟩
theorem d_M_takesPart_75 : DC b_M_takesPart 75 (.lastore) 1 76 := ⟨by decide +kernel, rfl⟩
theorem d_M_takesPart_76 : DC b_M_takesPart 76 (.iinc 5 1) 3 79 := ⟨by decide +kernel, rfl⟩
theorem d_M_takesPart_79 : DC b_M_takesPart 79 (.iinc 6 1) 3 82 := ⟨by decide +kernel, rfl⟩
theorem d_M_takesPart_82 : DB b_M_takesPart 82 (.goto (-52)) (-52) 30 85 := ⟨by decide +kernel, by decide, rfl⟩
theorem d_M_takesPart_85 : DC b_M_takesPart 85 (.iinc 3 1) 3 88 := ⟨by decide +kernel, rfl⟩
theorem d_M_takesPart_88 : DC b_M_takesPart 88 (.iinc 4 1) 3 91 := ⟨by decide +kernel, rfl⟩
theorem d_M_takesPart_91 : DB b_M_takesPart 91 (.goto (-86)) (-86) 5 94 := ⟨by decide +kernel, by decide, rfl⟩
theorem d_M_takesPart_94 : DC b_M_takesPart 94 (.aload_n 0) 1 95 := ⟨by decide +kernel, rfl⟩
theorem d_M_takesPart_95 : DC b_M_takesPart 95 (.lconst 0) 1 96 := ⟨by decide +kernel, rfl⟩
theorem d_M_takesPart_96 : DC b_M_takesPart 96 (.putfield 328) 3 99 := ⟨by decide +kernel, rfl⟩
theorem d_M_takesPart_99 : DC b_M_takesPart 99 (.aload_n 0) 1 100 := ⟨by decide +kernel, rfl⟩
theorem d_M_takesPart_100 : DC b_M_takesPart 100 (.lconst 0) 1 101 := ⟨by decide +kernel, rfl⟩
theorem d_M_takesPart_101 : DC b_M_takesPart 101 (.putfield 332) 3 104 := ⟨by decide +kernel, rfl⟩
theorem d_M_takesPart_104 : DC b_M_takesPart 104 (.iconst 0) 1 105 := ⟨by decide +kernel, rfl⟩
theorem d_M_takesPart_105 : DC b_M_takesPart 105 (.istore 4) 2 107 := ⟨by decide +kernel, rfl⟩
theorem d_M_takesPart_107 : DC b_M_takesPart 107 (.iload 4) 2 109 := ⟨by decide +kernel, rfl⟩
theorem d_M_takesPart_109 : DC b_M_takesPart 109 (.iload_n 3) 1 110 := ⟨by decide +kernel, rfl⟩
theorem d_M_takesPart_110 : DB b_M_takesPart 110 (.if_icmp .ge 86) 86 196 113 := ⟨by decide +kernel, by decide, rfl⟩
theorem d_M_takesPart_113 : DC b_M_takesPart 113 (.iconst 0) 1 114 := ⟨by decide +kernel, rfl⟩
theorem d_M_takesPart_114 : DC b_M_takesPart 114 (.istore 5) 2 116 := ⟨by decide +kernel, rfl⟩
theorem d_M_takesPart_116 : DC b_M_takesPart 116 (.iload 5) 2 118 := ⟨by decide +kernel, rfl⟩
theorem d_M_takesPart_118 : DC b_M_takesPart 118 (.iload_n 3) 1 119 := ⟨by decide +kernel, rfl⟩
theorem d_M_takesPart_119 : DB b_M_takesPart 119 (.if_icmp .ge 71) 71 190 122 := ⟨by decide +kernel, by decide, rfl⟩
theorem d_M_takesPart_122 : DC b_M_takesPart 122 (.aload_n 0) 1 123 := ⟨by decide +kernel, rfl⟩
theorem d_M_takesPart_123 : DC b_M_takesPart 123 (.iload_n 3) 1 124 := ⟨by decide +kernel, rfl⟩
theorem d_M_takesPart_124 : DC b_M_takesPart 124 (.iload 5) 2 126 := ⟨by decide +kernel, rfl⟩
theorem d_M_takesPart_126 : DC b_M_takesPart 126 (.iload 4) 2 128 := ⟨by decide +kernel, rfl⟩
theorem d_M_takesPart_128 : DC b_M_takesPart 128 (.invokevirtual 335) 3 131 := ⟨by decide +kernel, rfl⟩
theorem d_M_takesPart_131 : DC b_M_takesPart 131 (.lstore 6) 2 133 := ⟨by decide +kernel, rfl⟩
theorem d_M_takesPart_133 : DC b_M_takesPart 133 (.aload_n 0) 1 134 := ⟨by decide +kernel, rfl⟩
theorem d_M_takesPart_134 : DC b_M_takesPart 134 (.getfield 114) 3 137 := ⟨by decide +kernel, rfl⟩
theorem d_M_takesPart_137 : DC b_M_takesPart 137 (.iconst 4) 1 138 := ⟨by decide +kernel, rfl⟩
theorem d_M_takesPart_138 : DC b_M_takesPart 138 (.iload 4) 2 140 := ⟨by decide +kernel, rfl⟩
theorem d_M_takesPart_140 : DC b_M_takesPart 140 (.imul) 1 141 := ⟨by decide +kernel, rfl⟩
theorem d_M_takesPart_141 : DC b_M_takesPart 141 (.iload 5) 2 143 := ⟨by decide +kernel, rfl⟩
theorem d_M_takesPart_143 : DC b_M_takesPart 143 (.iadd) 1 144 := ⟨by decide +kernel, rfl⟩
theorem d_M_takesPart_144 : DC b_M_takesPart 144 (.iload 4) 2 146 := ⟨by decide +kernel, rfl⟩
theorem d_M_takesPart_146 : DC b_M_takesPart 146 (.iload 5) 2 148 := ⟨by decide +kernel, rfl⟩
theorem d_M_takesPart_148 : DC b_M_takesPart 148 (.iadd) 1 149 := ⟨by decide +kernel, rfl⟩
theorem d_M_takesPart_149 : DC b_M_takesPart 149 (.iconst 2) 1 150 := ⟨by decide +kernel, rfl⟩
theorem d_M_takesPart_150 : DC b_M_takesPart 150 (.irem) 1 151 := ⟨by decide +kernel, rfl⟩
theorem d_M_takesPart_151 : DB b_M_takesPart 151 (.ifCond .ne 8) 8 159 154 := ⟨by decide +kernel, by decide, rfl⟩
theorem d_M_takesPart_154 : DC b_M_takesPart 154 (.lload 6) 2 156 := ⟨by decide +kernel, rfl⟩
theorem d_M_takesPart_156 : DB b_M_takesPart 156 (.goto 6) 6 162 159 := ⟨by decide +kernel, by decide, rfl⟩
theorem d_M_takesPart_159 : DC b_M_takesPart 159 (.lload 6) 2 161 := ⟨by decide +kernel, rfl⟩
theorem d_M_takesPart_161 : DC b_M_takesPart 161 (.lneg) 1 162 := ⟨by decide +kernel, rfl⟩
theorem d_M_takesPart_162 : DC b_M_takesPart 162 (.lastore) 1 163 := ⟨by decide +kernel, rfl⟩
theorem d_M_takesPart_163 : DC b_M_takesPart 163 (.aload_n 0) 1 164 := ⟨by decide +kernel, rfl⟩
theorem d_M_takesPart_164 : DC b_M_takesPart 164 (.dup) 1 165 := ⟨by decide +kernel, rfl⟩
theorem d_M_takesPart_165 : DC b_M_takesPart 165 (.getfield 328) 3 168 := ⟨by decide +kernel, rfl⟩
theorem d_M_takesPart_168 : DC b_M_takesPart 168 (.aload_n 0) 1 169 := ⟨by decide +kernel, rfl⟩
theorem d_M_takesPart_169 : DC b_M_takesPart 169 (.getfield 114) 3 172 := ⟨by decide +kernel, rfl⟩
theorem d_M_takesPart_172 : DC b_M_takesPart 172 (.iconst 4) 1 173 := ⟨by decide +kernel, rfl⟩
theorem d_M_takesPart_173 : DC b_M_takesPart 173 (.iload 4) 2 175 := ⟨by decide +kernel, rfl⟩
theorem d_M_takesPart_175 : DC b_M_takesPart 175 (.imul) 1 176 := ⟨by decide +kernel, rfl⟩
theorem d_M_takesPart_176 : DC b_M_takesPart 176 (.iload 5) 2 178 := ⟨by decide +kernel, rfl⟩
theorem d_M_takesPart_178 : DC b_M_takesPart 178 (.iadd) 1 179 := ⟨by decide +kernel, rfl⟩
theorem d_M_takesPart_179 : DC b_M_takesPart 179 (.laload) 1 180 := ⟨by decide +kernel, rfl⟩
theorem d_M_takesPart_180 : DC b_M_takesPart 180 (.ladd) 1 181 := ⟨by decide +kernel, rfl⟩
theorem d_M_takesPart_181 : DC b_M_takesPart 181 (.putfield 328) 3 184 := ⟨by decide +kernel, rfl⟩
theorem d_M_takesPart_184 : DC b_M_takesPart 184 (.iinc 5 1) 3 187 := ⟨by decide +kernel, rfl⟩
theorem d_M_takesPart_187 : DB b_M_takesPart 187 (.goto (-71)) (-71) 116 190 := ⟨by decide +kernel, by decide, rfl⟩
theorem d_M_takesPart_190 : DC b_M_takesPart 190 (.iinc 4 1) 3 193 := ⟨by decide +kernel, rfl⟩
theorem d_M_takesPart_193 : DB b_M_takesPart 193 (.goto (-86)) (-86) 107 196 := ⟨by decide +kernel, by decide, rfl⟩
theorem d_M_takesPart_196 : DC b_M_takesPart 196 (.iconst 0) 1 197 := ⟨by decide +kernel, rfl⟩
theorem d_M_takesPart_197 : DC b_M_takesPart 197 (.istore 4) 2 199 := ⟨by decide +kernel, rfl⟩
theorem d_M_takesPart_199 : DC b_M_takesPart 199 (.iload 4) 2 201 := ⟨by decide +kernel, rfl⟩
theorem d_M_takesPart_201 : DC b_M_takesPart 201 (.iload_n 3) 1 202 := ⟨by decide +kernel, rfl⟩
theorem d_M_takesPart_202 : DB b_M_takesPart 202 (.if_icmp .ge 35) 35 237 205 := ⟨by decide +kernel, by decide, rfl⟩
theorem d_M_takesPart_205 : DC b_M_takesPart 205 (.aload_n 0) 1 206 := ⟨by decide +kernel, rfl⟩
theorem d_M_takesPart_206 : DC b_M_takesPart 206 (.dup) 1 207 := ⟨by decide +kernel, rfl⟩
theorem d_M_takesPart_207 : DC b_M_takesPart 207 (.getfield 332) 3 210 := ⟨by decide +kernel, rfl⟩
theorem d_M_takesPart_210 : DC b_M_takesPart 210 (.aload_n 0) 1 211 := ⟨by decide +kernel, rfl⟩
theorem d_M_takesPart_211 : DC b_M_takesPart 211 (.getfield 111) 3 214 := ⟨by decide +kernel, rfl⟩
theorem d_M_takesPart_214 : DC b_M_takesPart 214 (.iload 4) 2 216 := ⟨by decide +kernel, rfl⟩
theorem d_M_takesPart_216 : DC b_M_takesPart 216 (.laload) 1 217 := ⟨by decide +kernel, rfl⟩
theorem d_M_takesPart_217 : DC b_M_takesPart 217 (.aload_n 0) 1 218 := ⟨by decide +kernel, rfl⟩
theorem d_M_takesPart_218 : DC b_M_takesPart 218 (.getfield 114) 3 221 := ⟨by decide +kernel, rfl⟩
theorem d_M_takesPart_221 : DC b_M_takesPart 221 (.iconst 4) 1 222 := ⟨by decide +kernel, rfl⟩
theorem d_M_takesPart_222 : DC b_M_takesPart 222 (.iload 4) 2 224 := ⟨by decide +kernel, rfl⟩
theorem d_M_takesPart_224 : DC b_M_takesPart 224 (.imul) 1 225 := ⟨by decide +kernel, rfl⟩
theorem d_M_takesPart_225 : DC b_M_takesPart 225 (.laload) 1 226 := ⟨by decide +kernel, rfl⟩
theorem d_M_takesPart_226 : DC b_M_takesPart 226 (.lmul) 1 227 := ⟨by decide +kernel, rfl⟩
theorem d_M_takesPart_227 : DC b_M_takesPart 227 (.ladd) 1 228 := ⟨by decide +kernel, rfl⟩
theorem d_M_takesPart_228 : DC b_M_takesPart 228 (.putfield 332) 3 231 := ⟨by decide +kernel, rfl⟩
theorem d_M_takesPart_231 : DC b_M_takesPart 231 (.iinc 4 1) 3 234 := ⟨by decide +kernel, rfl⟩
theorem d_M_takesPart_234 : DB b_M_takesPart 234 (.goto (-35)) (-35) 199 237 := ⟨by decide +kernel, by decide, rfl⟩
theorem d_M_takesPart_237 : DC b_M_takesPart 237 (.iconst 0) 1 238 := ⟨by decide +kernel, rfl⟩
theorem d_M_takesPart_238 : DC b_M_takesPart 238 (.istore 4) 2 240 := ⟨by decide +kernel, rfl⟩
theorem d_M_takesPart_240 : DC b_M_takesPart 240 (.iconst 0) 1 241 := ⟨by decide +kernel, rfl⟩
theorem d_M_takesPart_241 : DC b_M_takesPart 241 (.istore 5) 2 243 := ⟨by decide +kernel, rfl⟩
theorem d_M_takesPart_243 : DC b_M_takesPart 243 (.iconst 0) 1 244 := ⟨by decide +kernel, rfl⟩
theorem d_M_takesPart_244 : DC b_M_takesPart 244 (.istore 6) 2 246 := ⟨by decide +kernel, rfl⟩
theorem d_M_takesPart_246 : DC b_M_takesPart 246 (.iload 6) 2 248 := ⟨by decide +kernel, rfl⟩
theorem d_M_takesPart_248 : DC b_M_takesPart 248 (.iconst 4) 1 249 := ⟨by decide +kernel, rfl⟩
theorem d_M_takesPart_249 : DB b_M_takesPart 249 (.if_icmp .ge 125) 125 374 252 := ⟨by decide +kernel, by decide, rfl⟩
theorem d_M_takesPart_252 : DC b_M_takesPart 252 (.aload_n 0) 1 253 := ⟨by decide +kernel, rfl⟩
theorem d_M_takesPart_253 : DC b_M_takesPart 253 (.getfield 117) 3 256 := ⟨by decide +kernel, rfl⟩
theorem d_M_takesPart_256 : DC b_M_takesPart 256 (.iload 6) 2 258 := ⟨by decide +kernel, rfl⟩
theorem d_M_takesPart_258 : DC b_M_takesPart 258 (.lconst 0) 1 259 := ⟨by decide +kernel, rfl⟩
theorem d_M_takesPart_259 : DC b_M_takesPart 259 (.lastore) 1 260 := ⟨by decide +kernel, rfl⟩
theorem d_M_takesPart_260 : DC b_M_takesPart 260 (.aload_n 0) 1 261 := ⟨by decide +kernel, rfl⟩
theorem d_M_takesPart_261 : DC b_M_takesPart 261 (.getfield 120) 3 264 := ⟨by decide +kernel, rfl⟩
theorem d_M_takesPart_264 : DC b_M_takesPart 264 (.iload 6) 2 266 := ⟨by decide +kernel, rfl⟩
theorem d_M_takesPart_266 : DC b_M_takesPart 266 (.lconst 0) 1 267 := ⟨by decide +kernel, rfl⟩
theorem d_M_takesPart_267 : DC b_M_takesPart 267 (.lastore) 1 268 := ⟨by decide +kernel, rfl⟩
theorem d_M_takesPart_268 : DC b_M_takesPart 268 (.iload_n 1) 1 269 := ⟨by decide +kernel, rfl⟩
theorem d_M_takesPart_269 : DC b_M_takesPart 269 (.iload 6) 2 271 := ⟨by decide +kernel, rfl⟩
theorem d_M_takesPart_271 : DC b_M_takesPart 271 (.ishr) 1 272 := ⟨by decide +kernel, rfl⟩
theorem d_M_takesPart_272 : DC b_M_takesPart 272 (.iconst 1) 1 273 := ⟨by decide +kernel, rfl⟩
theorem d_M_takesPart_273 : DC b_M_takesPart 273 (.iand) 1 274 := ⟨by decide +kernel, rfl⟩
theorem d_M_takesPart_274 : DC b_M_takesPart 274 (.iconst 1) 1 275 := ⟨by decide +kernel, rfl⟩
theorem d_M_takesPart_275 : DB b_M_takesPart 275 (.if_icmp .ne 43) 43 318 278 := ⟨by decide +kernel, by decide, rfl⟩
theorem d_M_takesPart_278 : DC b_M_takesPart 278 (.iconst 0) 1 279 := ⟨by decide +kernel, rfl⟩
theorem d_M_takesPart_279 : DC b_M_takesPart 279 (.istore 7) 2 281 := ⟨by decide +kernel, rfl⟩
theorem d_M_takesPart_281 : DC b_M_takesPart 281 (.iload 7) 2 283 := ⟨by decide +kernel, rfl⟩
theorem d_M_takesPart_283 : DC b_M_takesPart 283 (.iload_n 3) 1 284 := ⟨by decide +kernel, rfl⟩
theorem d_M_takesPart_284 : DB b_M_takesPart 284 (.if_icmp .ge 31) 31 315 287 := ⟨by decide +kernel, by decide, rfl⟩
theorem d_M_takesPart_287 : DC b_M_takesPart 287 (.aload_n 0) 1 288 := ⟨by decide +kernel, rfl⟩
theorem d_M_takesPart_288 : DC b_M_takesPart 288 (.getfield 117) 3 291 := ⟨by decide +kernel, rfl⟩
theorem d_M_takesPart_291 : DC b_M_takesPart 291 (.iload 6) 2 293 := ⟨by decide +kernel, rfl⟩
theorem d_M_takesPart_293 : DC b_M_takesPart 293 (.dup2) 1 294 := ⟨by decide +kernel, rfl⟩
theorem d_M_takesPart_294 : DC b_M_takesPart 294 (.laload) 1 295 := ⟨by decide +kernel, rfl⟩
theorem d_M_takesPart_295 : DC b_M_takesPart 295 (.aload_n 0) 1 296 := ⟨by decide +kernel, rfl⟩
theorem d_M_takesPart_296 : DC b_M_takesPart 296 (.getfield 114) 3 299 := ⟨by decide +kernel, rfl⟩
theorem d_M_takesPart_299 : DC b_M_takesPart 299 (.iconst 4) 1 300 := ⟨by decide +kernel, rfl⟩
theorem d_M_takesPart_300 : DC b_M_takesPart 300 (.iload 7) 2 302 := ⟨by decide +kernel, rfl⟩
theorem d_M_takesPart_302 : DC b_M_takesPart 302 (.imul) 1 303 := ⟨by decide +kernel, rfl⟩
theorem d_M_takesPart_303 : DC b_M_takesPart 303 (.iload 4) 2 305 := ⟨by decide +kernel, rfl⟩
theorem d_M_takesPart_305 : DC b_M_takesPart 305 (.iadd) 1 306 := ⟨by decide +kernel, rfl⟩
theorem d_M_takesPart_306 : DC b_M_takesPart 306 (.laload) 1 307 := ⟨by decide +kernel, rfl⟩
theorem d_M_takesPart_307 : DC b_M_takesPart 307 (.ladd) 1 308 := ⟨by decide +kernel, rfl⟩
theorem d_M_takesPart_308 : DC b_M_takesPart 308 (.lastore) 1 309 := ⟨by decide +kernel, rfl⟩
theorem d_M_takesPart_309 : DC b_M_takesPart 309 (.iinc 7 1) 3 312 := ⟨by decide +kernel, rfl⟩
theorem d_M_takesPart_312 : DB b_M_takesPart 312 (.goto (-31)) (-31) 281 315 := ⟨by decide +kernel, by decide, rfl⟩
theorem d_M_takesPart_315 : DC b_M_takesPart 315 (.iinc 4 1) 3 318 := ⟨by decide +kernel, rfl⟩
theorem d_M_takesPart_318 : DC b_M_takesPart 318 (.iload_n 2) 1 319 := ⟨by decide +kernel, rfl⟩
theorem d_M_takesPart_319 : DC b_M_takesPart 319 (.iload 6) 2 321 := ⟨by decide +kernel, rfl⟩
theorem d_M_takesPart_321 : DC b_M_takesPart 321 (.ishr) 1 322 := ⟨by decide +kernel, rfl⟩
theorem d_M_takesPart_322 : DC b_M_takesPart 322 (.iconst 1) 1 323 := ⟨by decide +kernel, rfl⟩
theorem d_M_takesPart_323 : DC b_M_takesPart 323 (.iand) 1 324 := ⟨by decide +kernel, rfl⟩
theorem d_M_takesPart_324 : DC b_M_takesPart 324 (.iconst 1) 1 325 := ⟨by decide +kernel, rfl⟩
theorem d_M_takesPart_325 : DB b_M_takesPart 325 (.if_icmp .ne 43) 43 368 328 := ⟨by decide +kernel, by decide, rfl⟩
theorem d_M_takesPart_328 : DC b_M_takesPart 328 (.iconst 0) 1 329 := ⟨by decide +kernel, rfl⟩
theorem d_M_takesPart_329 : DC b_M_takesPart 329 (.istore 7) 2 331 := ⟨by decide +kernel, rfl⟩
theorem d_M_takesPart_331 : DC b_M_takesPart 331 (.iload 7) 2 333 := ⟨by decide +kernel, rfl⟩
theorem d_M_takesPart_333 : DC b_M_takesPart 333 (.iload_n 3) 1 334 := ⟨by decide +kernel, rfl⟩
theorem d_M_takesPart_334 : DB b_M_takesPart 334 (.if_icmp .ge 31) 31 365 337 := ⟨by decide +kernel, by decide, rfl⟩
theorem d_M_takesPart_337 : DC b_M_takesPart 337 (.aload_n 0) 1 338 := ⟨by decide +kernel, rfl⟩
theorem d_M_takesPart_338 : DC b_M_takesPart 338 (.getfield 120) 3 341 := ⟨by decide +kernel, rfl⟩
theorem d_M_takesPart_341 : DC b_M_takesPart 341 (.iload 6) 2 343 := ⟨by decide +kernel, rfl⟩
theorem d_M_takesPart_343 : DC b_M_takesPart 343 (.dup2) 1 344 := ⟨by decide +kernel, rfl⟩
theorem d_M_takesPart_344 : DC b_M_takesPart 344 (.laload) 1 345 := ⟨by decide +kernel, rfl⟩
theorem d_M_takesPart_345 : DC b_M_takesPart 345 (.aload_n 0) 1 346 := ⟨by decide +kernel, rfl⟩
theorem d_M_takesPart_346 : DC b_M_takesPart 346 (.getfield 114) 3 349 := ⟨by decide +kernel, rfl⟩
theorem d_M_takesPart_349 : DC b_M_takesPart 349 (.iconst 4) 1 350 := ⟨by decide +kernel, rfl⟩
theorem d_M_takesPart_350 : DC b_M_takesPart 350 (.iload 5) 2 352 := ⟨by decide +kernel, rfl⟩
theorem d_M_takesPart_352 : DC b_M_takesPart 352 (.imul) 1 353 := ⟨by decide +kernel, rfl⟩
theorem d_M_takesPart_353 : DC b_M_takesPart 353 (.iload 7) 2 355 := ⟨by decide +kernel, rfl⟩
theorem d_M_takesPart_355 : DC b_M_takesPart 355 (.iadd) 1 356 := ⟨by decide +kernel, rfl⟩
theorem d_M_takesPart_356 : DC b_M_takesPart 356 (.laload) 1 357 := ⟨by decide +kernel, rfl⟩
theorem d_M_takesPart_357 : DC b_M_takesPart 357 (.ladd) 1 358 := ⟨by decide +kernel, rfl⟩
theorem d_M_takesPart_358 : DC b_M_takesPart 358 (.lastore) 1 359 := ⟨by decide +kernel, rfl⟩
theorem d_M_takesPart_359 : DC b_M_takesPart 359 (.iinc 7 1) 3 362 := ⟨by decide +kernel, rfl⟩
theorem d_M_takesPart_362 : DB b_M_takesPart 362 (.goto (-31)) (-31) 331 365 := ⟨by decide +kernel, by decide, rfl⟩
theorem d_M_takesPart_365 : DC b_M_takesPart 365 (.iinc 5 1) 3 368 := ⟨by decide +kernel, rfl⟩
theorem d_M_takesPart_368 : DC b_M_takesPart 368 (.iinc 6 1) 3 371 := ⟨by decide +kernel, rfl⟩
theorem d_M_takesPart_371 : DB b_M_takesPart 371 (.goto (-125)) (-125) 246 374 := ⟨by decide +kernel, by decide, rfl⟩
theorem d_M_takesPart_374 : DC b_M_takesPart 374 (.aload_n 0) 1 375 := ⟨by decide +kernel, rfl⟩
theorem d_M_takesPart_375 : DC b_M_takesPart 375 (.getfield 328) 3 378 := ⟨by decide +kernel, rfl⟩
theorem d_M_takesPart_378 : DC b_M_takesPart 378 (.lconst 0) 1 379 := ⟨by decide +kernel, rfl⟩
theorem d_M_takesPart_379 : DC b_M_takesPart 379 (.lcmp) 1 380 := ⟨by decide +kernel, rfl⟩
theorem d_M_takesPart_380 : DB b_M_takesPart 380 (.ifCond .ge 66) 66 446 383 := ⟨by decide +kernel, by decide, rfl⟩
theorem d_M_takesPart_383 : DC b_M_takesPart 383 (.aload_n 0) 1 384 := ⟨by decide +kernel, rfl⟩
theorem d_M_takesPart_384 : DC b_M_takesPart 384 (.aload_n 0) 1 385 := ⟨by decide +kernel, rfl⟩
theorem d_M_takesPart_385 : DC b_M_takesPart 385 (.getfield 328) 3 388 := ⟨by decide +kernel, rfl⟩
theorem d_M_takesPart_388 : DC b_M_takesPart 388 (.lneg) 1 389 := ⟨by decide +kernel, rfl⟩
theorem d_M_takesPart_389 : DC b_M_takesPart 389 (.putfield 328) 3 392 := ⟨by decide +kernel, rfl⟩
theorem d_M_takesPart_392 : DC b_M_takesPart 392 (.aload_n 0) 1 393 := ⟨by decide +kernel, rfl⟩
theorem d_M_takesPart_393 : DC b_M_takesPart 393 (.aload_n 0) 1 394 := ⟨by decide +kernel, rfl⟩
theorem d_M_takesPart_394 : DC b_M_takesPart 394 (.getfield 332) 3 397 := ⟨by decide +kernel, rfl⟩
theorem d_M_takesPart_397 : DC b_M_takesPart 397 (.lneg) 1 398 := ⟨by decide +kernel, rfl⟩
theorem d_M_takesPart_398 : DC b_M_takesPart 398 (.putfield 332) 3 401 := ⟨by decide +kernel, rfl⟩
theorem d_M_takesPart_401 : DC b_M_takesPart 401 (.iconst 0) 1 402 := ⟨by decide +kernel, rfl⟩
theorem d_M_takesPart_402 : DC b_M_takesPart 402 (.istore 6) 2 404 := ⟨by decide +kernel, rfl⟩
theorem d_M_takesPart_404 : DC b_M_takesPart 404 (.iload 6) 2 406 := ⟨by decide +kernel, rfl⟩
theorem d_M_takesPart_406 : DC b_M_takesPart 406 (.iconst 4) 1 407 := ⟨by decide +kernel, rfl⟩
theorem d_M_takesPart_407 : DB b_M_takesPart 407 (.if_icmp .ge 39) 39 446 410 := ⟨by decide +kernel, by decide, rfl⟩
theorem d_M_takesPart_410 : DC b_M_takesPart 410 (.aload_n 0) 1 411 := ⟨by decide +kernel, rfl⟩
theorem d_M_takesPart_411 : DC b_M_takesPart 411 (.getfield 117) 3 414 := ⟨by decide +kernel, rfl⟩
theorem d_M_takesPart_414 : DC b_M_takesPart 414 (.iload 6) 2 416 := ⟨by decide +kernel, rfl⟩
theorem d_M_takesPart_416 : DC b_M_takesPart 416 (.aload_n 0) 1 417 := ⟨by decide +kernel, rfl⟩
theorem d_M_takesPart_417 : DC b_M_takesPart 417 (.getfield 117) 3 420 := ⟨by decide +kernel, rfl⟩
theorem d_M_takesPart_420 : DC b_M_takesPart 420 (.iload 6) 2 422 := ⟨by decide +kernel, rfl⟩
theorem d_M_takesPart_422 : DC b_M_takesPart 422 (.laload) 1 423 := ⟨by decide +kernel, rfl⟩
theorem d_M_takesPart_423 : DC b_M_takesPart 423 (.lneg) 1 424 := ⟨by decide +kernel, rfl⟩
theorem d_M_takesPart_424 : DC b_M_takesPart 424 (.lastore) 1 425 := ⟨by decide +kernel, rfl⟩
theorem d_M_takesPart_425 : DC b_M_takesPart 425 (.aload_n 0) 1 426 := ⟨by decide +kernel, rfl⟩
theorem d_M_takesPart_426 : DC b_M_takesPart 426 (.getfield 120) 3 429 := ⟨by decide +kernel, rfl⟩
theorem d_M_takesPart_429 : DC b_M_takesPart 429 (.iload 6) 2 431 := ⟨by decide +kernel, rfl⟩
theorem d_M_takesPart_431 : DC b_M_takesPart 431 (.aload_n 0) 1 432 := ⟨by decide +kernel, rfl⟩
theorem d_M_takesPart_432 : DC b_M_takesPart 432 (.getfield 120) 3 435 := ⟨by decide +kernel, rfl⟩
theorem d_M_takesPart_435 : DC b_M_takesPart 435 (.iload 6) 2 437 := ⟨by decide +kernel, rfl⟩
theorem d_M_takesPart_437 : DC b_M_takesPart 437 (.laload) 1 438 := ⟨by decide +kernel, rfl⟩
theorem d_M_takesPart_438 : DC b_M_takesPart 438 (.lneg) 1 439 := ⟨by decide +kernel, rfl⟩
theorem d_M_takesPart_439 : DC b_M_takesPart 439 (.lastore) 1 440 := ⟨by decide +kernel, rfl⟩
theorem d_M_takesPart_440 : DC b_M_takesPart 440 (.iinc 6 1) 3 443 := ⟨by decide +kernel, rfl⟩
theorem d_M_takesPart_443 : DB b_M_takesPart 443 (.goto (-39)) (-39) 404 446 := ⟨by decide +kernel, by decide, rfl⟩
theorem d_M_takesPart_446 : decode b_M_takesPart 446 = .ok (.return_, 1) := by decide +kernel
theorem w_M_takesPart_b79 {X : Ctx} {Y : Lay} (hY : IsM Y) (C : Cx X Y b_M_takesPart 8 none "TopYardModel" 4) {N : Nat} {r : Mem} (k5 : Int32 → Int32 → Int32 → Int32 → Mem → Option (Mem)) (k30 : Int32 → Int32 → Int32 → Int32 → Int32 → Int32 → Mem → Option (Mem)) (hk5 : ∀ (x1 : Int32) (x2 : Int32) (x3 : Int32) (x4 : Int32) (ν : Mem), k5 x1 x2 x3 x4 ν = some r → J X Y none r 8 5 [(0, .ref (yad Y 0)), (1, .int x1), (2, .int x2), (3, .int x3), (4, .int x4)] [] ν) (hk30 : ∀ (x1 : Int32) (x2 : Int32) (x3 : Int32) (x4 : Int32) (x5 : Int32) (x6 : Int32) (ν : Mem), k30 x1 x2 x3 x4 x5 x6 ν = some r → J X Y none r 8 30 [(0, .ref (yad Y 0)), (1, .int x1), (2, .int x2), (3, .int x3), (4, .int x4), (5, .int x5), (6, .int x6)] [] ν) (x1 : Int32) (x2 : Int32) (x3 : Int32) (x4 : Int32) (x5 : Int32) (x6 : Int32) (μ : Mem) (hf : f_M_takesPart_b79 N k5 k30 x1 x2 x3 x4 x5 x6 μ = some r) : J X Y none r 8 79 [(0, .ref (yad Y 0)), (1, .int x1), (2, .int x2), (3, .int x3), (4, .int x4), (5, .int x5), (6, .int x6)] [] μ := by
  unfold f_M_takesPart_b79 at hf
  refine j_iinc (lvf := [(0, .ref (yad Y 0)), (1, .int x1), (2, .int x2), (3, .int x3), (4, .int x4), (5, .int x5)]) (v := 1) C d_M_takesPart_79 6 rfl (by decide) (by decide) rfl hf (fun v1 hf => ?_)
  refine j_goto C d_M_takesPart_82 ?_
  refine j_sub [1, 2, 3, 4, 5, 6, 0] rfl ?_
  exact hk30 x1 x2 x3 x4 x5 v1 μ hf
theorem w_M_takesPart_b88 {X : Ctx} {Y : Lay} (hY : IsM Y) (C : Cx X Y b_M_takesPart 8 none "TopYardModel" 4) {N : Nat} {r : Mem} (k5 : Int32 → Int32 → Int32 → Int32 → Mem → Option (Mem)) (hk5 : ∀ (x1 : Int32) (x2 : Int32) (x3 : Int32) (x4 : Int32) (ν : Mem), k5 x1 x2 x3 x4 ν = some r → J X Y none r 8 5 [(0, .ref (yad Y 0)), (1, .int x1), (2, .int x2), (3, .int x3), (4, .int x4)] [] ν) (x1 : Int32) (x2 : Int32) (x3 : Int32) (x4 : Int32) (μ : Mem) (hf : f_M_takesPart_b88 N k5 x1 x2 x3 x4 μ = some r) : J X Y none r 8 88 [(0, .ref (yad Y 0)), (1, .int x1), (2, .int x2), (3, .int x3), (4, .int x4)] [] μ := by
  unfold f_M_takesPart_b88 at hf
  refine j_iinc (lvf := [(0, .ref (yad Y 0)), (1, .int x1), (2, .int x2), (3, .int x3)]) (v := 1) C d_M_takesPart_88 4 rfl (by decide) (by decide) rfl hf (fun v1 hf => ?_)
  refine j_goto C d_M_takesPart_91 ?_
  refine j_sub [1, 2, 3, 4, 0] rfl ?_
  exact hk5 x1 x2 x3 v1 μ hf
theorem w_M_takesPart_l30 {X : Ctx} {Y : Lay} (hY : IsM Y) (C : Cx X Y b_M_takesPart 8 none "TopYardModel" 4) {N : Nat} {r : Mem} (k5 : Int32 → Int32 → Int32 → Int32 → Mem → Option (Mem)) (hk5 : ∀ (x1 : Int32) (x2 : Int32) (x3 : Int32) (x4 : Int32) (ν : Mem), k5 x1 x2 x3 x4 ν = some r → J X Y none r 8 5 [(0, .ref (yad Y 0)), (1, .int x1), (2, .int x2), (3, .int x3), (4, .int x4)] [] ν) : ∀ (n : Nat) (x1 : Int32) (x2 : Int32) (x3 : Int32) (x4 : Int32) (x5 : Int32) (x6 : Int32) (μ : Mem), f_M_takesPart_l30 N k5 n x1 x2 x3 x4 x5 x6 μ = some r → J X Y none r 8 30 [(0, .ref (yad Y 0)), (1, .int x1), (2, .int x2), (3, .int x3), (4, .int x4), (5, .int x5), (6, .int x6)] [] μ := by
  intro n
  induction n with
  | zero => intro x1 x2 x3 x4 x5 x6 μ hf; rw [f_M_takesPart_l30] at hf; cases hf
  | succ n ih =>
    intro x1 x2 x3 x4 x5 x6 μ hf
    rw [f_M_takesPart_l30] at hf
    refine j_iload C d_M_takesPart_30 6 rfl ?_
    refine j_aload_n C d_M_takesPart_32 0 rfl ?_
    refine j_gI C fl_M_308 (kM hY rfl) (nM hY (by decide)) rfl d_M_takesPart_33 ?_
    refine j_icmp_ge C d_M_takesPart_36 hf (fun hf => ?_) (fun hf => ?_)
    · refine j_iinc (lvf := [(0, .ref (yad Y 0)), (1, .int x1), (2, .int x2), (4, .int x4), (5, .int x5), (6, .int x6)]) (v := 1) C d_M_takesPart_85 3 rfl (by decide) (by decide) rfl hf (fun v1 hf => ?_)
      refine j_sub [1, 2, 3, 0, 4] rfl ?_
      exact w_M_takesPart_b88 hY C k5 hk5 x1 x2 v1 x4 μ hf
    · refine j_iload_n C d_M_takesPart_39 2 rfl ?_
      refine j_iload C d_M_takesPart_40 6 rfl ?_
      refine j_ishr C d_M_takesPart_42 ?_
      refine j_iconst (v := 1) C d_M_takesPart_43 (by decide) ?_
      refine j_iand C d_M_takesPart_44 ?_
      refine j_iconst (v := 1) C d_M_takesPart_45 (by decide) ?_
      refine j_icmp_ne C d_M_takesPart_46 hf (fun hf => ?_) (fun hf => ?_)
      · refine j_sub [0, 1, 2, 3, 4, 5, 6] rfl ?_
        exact w_M_takesPart_b79 hY C k5 (f_M_takesPart_l30 N k5 n) hk5 ih x1 x2 x3 x4 x5 x6 μ hf
      · refine j_aload_n C d_M_takesPart_49 0 rfl ?_
        refine j_gS (b := 32) C fl_M_111 (kM hY rfl) (nM hY (by decide)) rfl hY.2.2.2.1 rfl (sM hY rfl) d_M_takesPart_50 ?_
        refine j_iconst (v := 4) C d_M_takesPart_53 (by decide) ?_
        refine j_iload_n C d_M_takesPart_54 3 rfl ?_
        refine j_imul C d_M_takesPart_55 ?_
        refine j_iload C d_M_takesPart_56 5 rfl ?_
        refine j_iadd C d_M_takesPart_58 ?_
        refine j_aload_n C d_M_takesPart_59 0 rfl ?_
        refine j_gS (b := 31) C fl_M_108 (kM hY rfl) (nM hY (by decide)) rfl hY.2.2.2.1 rfl (sM hY rfl) d_M_takesPart_60 ?_
        refine j_iconst (v := 4) C d_M_takesPart_63 (by decide) ?_
        refine j_iload C d_M_takesPart_64 4 rfl ?_
        refine j_imul C d_M_takesPart_66 ?_
        refine j_iload C d_M_takesPart_67 6 rfl ?_
        refine j_iadd C d_M_takesPart_69 ?_
        refine ck hf (fun hi2 hf => ?_)
        refine j_iald C (kM hY rfl) (nM hY (by decide)) (lM hY rfl) hi2 d_M_takesPart_70 ?_
        refine j_bipush (v := 20) C d_M_takesPart_71 (by decide) ?_
        refine j_iadd C d_M_takesPart_73 ?_
        refine j_i2l C d_M_takesPart_74 ?_
        refine ck hf (fun hi3 hf => ?_)
        refine j_last C (kM hY rfl) (nM hY (by decide)) (lM hY rfl) hi3 d_M_takesPart_75 hf (fun μ4 hf => ?_)
        refine j_iinc (lvf := [(0, .ref (yad Y 0)), (1, .int x1), (2, .int x2), (3, .int x3), (4, .int x4), (6, .int x6)]) (v := 1) C d_M_takesPart_76 5 rfl (by decide) (by decide) rfl hf (fun v5 hf => ?_)
        refine j_sub [1, 2, 3, 4, 5, 0, 6] rfl ?_
        exact w_M_takesPart_b79 hY C k5 (f_M_takesPart_l30 N k5 n) hk5 ih x1 x2 x3 x4 v5 x6 μ4 hf
theorem w_M_takesPart_b162 {X : Ctx} {Y : Lay} (hY : IsM Y) (C : Cx X Y b_M_takesPart 8 none "TopYardModel" 4) {N : Nat} {r : Mem} (k107 : Int32 → Int32 → Int32 → Int32 → Mem → Option (Mem)) (k116 : Int32 → Int32 → Int32 → Int32 → Int32 → Mem → Option (Mem)) (hk107 : ∀ (x1 : Int32) (x2 : Int32) (x3 : Int32) (x4 : Int32) (ν : Mem), k107 x1 x2 x3 x4 ν = some r → J X Y none r 8 107 [(0, .ref (yad Y 0)), (1, .int x1), (2, .int x2), (3, .int x3), (4, .int x4)] [] ν) (hk116 : ∀ (x1 : Int32) (x2 : Int32) (x3 : Int32) (x4 : Int32) (x5 : Int32) (ν : Mem), k116 x1 x2 x3 x4 x5 ν = some r → J X Y none r 8 116 [(0, .ref (yad Y 0)), (1, .int x1), (2, .int x2), (3, .int x3), (4, .int x4), (5, .int x5)] [] ν) (x1 : Int32) (x2 : Int32) (x3 : Int32) (x4 : Int32) (x5 : Int32) (xs0 : Int64) (xs1 : Int32) (μ : Mem) (hf : f_M_takesPart_b162 N k107 k116 x1 x2 x3 x4 x5 xs0 xs1 μ = some r) : J X Y none r 8 162 [(0, .ref (yad Y 0)), (1, .int x1), (2, .int x2), (3, .int x3), (4, .int x4), (5, .int x5)] [.long xs0, .int xs1, .ref (yad Y 33)] μ := by
  unfold f_M_takesPart_b162 at hf
  refine ck hf (fun hi1 hf => ?_)
  refine j_last C (kM hY rfl) (nM hY (by decide)) (lM hY rfl) hi1 d_M_takesPart_162 hf (fun μ2 hf => ?_)
  refine j_aload_n C d_M_takesPart_163 0 rfl ?_
  refine j_dup C d_M_takesPart_164 rfl ?_
  refine j_gL C fl_M_328 (kM hY rfl) (nM hY (by decide)) rfl d_M_takesPart_165 ?_
  refine j_aload_n C d_M_takesPart_168 0 rfl ?_
  refine j_gS (b := 33) C fl_M_114 (kM hY rfl) (nM hY (by decide)) rfl hY.2.2.2.1 rfl (sM hY rfl) d_M_takesPart_169 ?_
  refine j_iconst (v := 4) C d_M_takesPart_172 (by decide) ?_
  refine j_iload C d_M_takesPart_173 4 rfl ?_
  refine j_imul C d_M_takesPart_175 ?_
  refine j_iload C d_M_takesPart_176 5 rfl ?_
  refine j_iadd C d_M_takesPart_178 ?_
  refine ck hf (fun hi3 hf => ?_)
  refine j_lald C (kM hY rfl) (nM hY (by decide)) (lM hY rfl) hi3 d_M_takesPart_179 ?_
  refine j_ladd C d_M_takesPart_180 ?_
  refine j_pL C fl_M_328 (kM hY rfl) (nM hY (by decide)) rfl rfl rfl d_M_takesPart_181 hf (fun μ4 hf => ?_)
  refine j_iinc (lvf := [(0, .ref (yad Y 0)), (1, .int x1), (2, .int x2), (3, .int x3), (4, .int x4)]) (v := 1) C d_M_takesPart_184 5 rfl (by decide) (by decide) rfl hf (fun v5 hf => ?_)
  refine j_goto C d_M_takesPart_187 ?_
  refine j_sub [1, 2, 3, 4, 5, 0] rfl ?_
  exact hk116 x1 x2 x3 x4 v5 μ4 hf
theorem w_M_takesPart_l116 {X : Ctx} {Y : Lay} (hY : IsM Y) (C : Cx X Y b_M_takesPart 8 none "TopYardModel" 4) {N : Nat} {r : Mem} (k107 : Int32 → Int32 → Int32 → Int32 → Mem → Option (Mem)) (hk107 : ∀ (x1 : Int32) (x2 : Int32) (x3 : Int32) (x4 : Int32) (ν : Mem), k107 x1 x2 x3 x4 ν = some r → J X Y none r 8 107 [(0, .ref (yad Y 0)), (1, .int x1), (2, .int x2), (3, .int x3), (4, .int x4)] [] ν) : ∀ (n : Nat) (x1 : Int32) (x2 : Int32) (x3 : Int32) (x4 : Int32) (x5 : Int32) (μ : Mem), f_M_takesPart_l116 N k107 n x1 x2 x3 x4 x5 μ = some r → J X Y none r 8 116 [(0, .ref (yad Y 0)), (1, .int x1), (2, .int x2), (3, .int x3), (4, .int x4), (5, .int x5)] [] μ := by
  intro n
  induction n with
  | zero => intro x1 x2 x3 x4 x5 μ hf; rw [f_M_takesPart_l116] at hf; cases hf
  | succ n ih =>
    intro x1 x2 x3 x4 x5 μ hf
    rw [f_M_takesPart_l116] at hf
    refine j_iload C d_M_takesPart_116 5 rfl ?_
    refine j_iload_n C d_M_takesPart_118 3 rfl ?_
    refine j_icmp_ge C d_M_takesPart_119 hf (fun hf => ?_) (fun hf => ?_)
    · refine j_iinc (lvf := [(0, .ref (yad Y 0)), (1, .int x1), (2, .int x2), (3, .int x3), (5, .int x5)]) (v := 1) C d_M_takesPart_190 4 rfl (by decide) (by decide) rfl hf (fun v1 hf => ?_)
      refine j_goto C d_M_takesPart_193 ?_
      refine j_sub [1, 2, 3, 4, 0] rfl ?_
      exact hk107 x1 x2 x3 v1 μ hf
    · refine j_aload_n C d_M_takesPart_122 0 rfl ?_
      refine j_iload_n C d_M_takesPart_123 3 rfl ?_
      refine j_iload C d_M_takesPart_124 5 rfl ?_
      refine j_iload C d_M_takesPart_126 4 rfl ?_
      refine bd hf (fun v2 hc3 hf => ?_)
      refine j_cV (rest := []) C lk_M_335 (c_M_minor hY hc3) rfl (kM hY rfl) (nM hY (by decide)) (by decide) rfl rfl (by decide) rfl (Nat.le_of_ble_eq_true rfl) d_M_takesPart_128 ?_
      refine j_lstore (lvf := [(0, .ref (yad Y 0)), (1, .int x1), (2, .int x2), (3, .int x3), (4, .int x4), (5, .int x5)]) C d_M_takesPart_131 (by decide) rfl ?_
      refine j_aload_n C d_M_takesPart_133 1 rfl ?_
      refine j_gS (b := 33) C fl_M_114 (kM hY rfl) (nM hY (by decide)) rfl hY.2.2.2.1 rfl (sM hY rfl) d_M_takesPart_134 ?_
      refine j_iconst (v := 4) C d_M_takesPart_137 (by decide) ?_
      refine j_iload C d_M_takesPart_138 5 rfl ?_
      refine j_imul C d_M_takesPart_140 ?_
      refine j_iload C d_M_takesPart_141 6 rfl ?_
      refine j_iadd C d_M_takesPart_143 ?_
      refine j_iload C d_M_takesPart_144 5 rfl ?_
      refine j_iload C d_M_takesPart_146 6 rfl ?_
      refine j_iadd C d_M_takesPart_148 ?_
      refine j_iconst (v := 2) C d_M_takesPart_149 (by decide) ?_
      refine j_irem C d_M_takesPart_150 (by decide) ?_
      refine j_if_ne C d_M_takesPart_151 hf (fun hf => ?_) (fun hf => ?_)
      · refine j_lload C d_M_takesPart_159 0 rfl ?_
        refine j_lneg C d_M_takesPart_161 ?_
        refine j_sub [1, 2, 3, 4, 5, 6] rfl ?_
        exact w_M_takesPart_b162 hY C k107 (f_M_takesPart_l116 N k107 n) hk107 ih x1 x2 x3 x4 x5 (-v2) (((4 : Int32) * x4) + x5) μ hf
      · refine j_lload C d_M_takesPart_154 0 rfl ?_
        refine j_goto C d_M_takesPart_156 ?_
        refine j_sub [1, 2, 3, 4, 5, 6] rfl ?_
        exact w_M_takesPart_b162 hY C k107 (f_M_takesPart_l116 N k107 n) hk107 ih x1 x2 x3 x4 x5 v2 (((4 : Int32) * x4) + x5) μ hf
theorem w_M_takesPart_b368 {X : Ctx} {Y : Lay} (hY : IsM Y) (C : Cx X Y b_M_takesPart 8 none "TopYardModel" 4) {N : Nat} {r : Mem} (k246 : Int32 → Int32 → Int32 → Int32 → Int32 → Int32 → Mem → Option (Mem)) (hk246 : ∀ (x1 : Int32) (x2 : Int32) (x3 : Int32) (x4 : Int32) (x5 : Int32) (x6 : Int32) (ν : Mem), k246 x1 x2 x3 x4 x5 x6 ν = some r → J X Y none r 8 246 [(0, .ref (yad Y 0)), (1, .int x1), (2, .int x2), (3, .int x3), (4, .int x4), (5, .int x5), (6, .int x6)] [] ν) (x1 : Int32) (x2 : Int32) (x3 : Int32) (x4 : Int32) (x5 : Int32) (x6 : Int32) (μ : Mem) (hf : f_M_takesPart_b368 N k246 x1 x2 x3 x4 x5 x6 μ = some r) : J X Y none r 8 368 [(0, .ref (yad Y 0)), (1, .int x1), (2, .int x2), (3, .int x3), (4, .int x4), (5, .int x5), (6, .int x6)] [] μ := by
  unfold f_M_takesPart_b368 at hf
  refine j_iinc (lvf := [(0, .ref (yad Y 0)), (1, .int x1), (2, .int x2), (3, .int x3), (4, .int x4), (5, .int x5)]) (v := 1) C d_M_takesPart_368 6 rfl (by decide) (by decide) rfl hf (fun v1 hf => ?_)
  refine j_goto C d_M_takesPart_371 ?_
  refine j_sub [1, 2, 3, 4, 5, 6, 0] rfl ?_
  exact hk246 x1 x2 x3 x4 x5 v1 μ hf
theorem w_M_takesPart_l331 {X : Ctx} {Y : Lay} (hY : IsM Y) (C : Cx X Y b_M_takesPart 8 none "TopYardModel" 4) {N : Nat} {r : Mem} (k246 : Int32 → Int32 → Int32 → Int32 → Int32 → Int32 → Mem → Option (Mem)) (hk246 : ∀ (x1 : Int32) (x2 : Int32) (x3 : Int32) (x4 : Int32) (x5 : Int32) (x6 : Int32) (ν : Mem), k246 x1 x2 x3 x4 x5 x6 ν = some r → J X Y none r 8 246 [(0, .ref (yad Y 0)), (1, .int x1), (2, .int x2), (3, .int x3), (4, .int x4), (5, .int x5), (6, .int x6)] [] ν) : ∀ (n : Nat) (x1 : Int32) (x2 : Int32) (x3 : Int32) (x4 : Int32) (x5 : Int32) (x6 : Int32) (x7 : Int32) (μ : Mem), f_M_takesPart_l331 N k246 n x1 x2 x3 x4 x5 x6 x7 μ = some r → J X Y none r 8 331 [(0, .ref (yad Y 0)), (1, .int x1), (2, .int x2), (3, .int x3), (4, .int x4), (5, .int x5), (6, .int x6), (7, .int x7)] [] μ := by
  intro n
  induction n with
  | zero => intro x1 x2 x3 x4 x5 x6 x7 μ hf; rw [f_M_takesPart_l331] at hf; cases hf
  | succ n ih =>
    intro x1 x2 x3 x4 x5 x6 x7 μ hf
    rw [f_M_takesPart_l331] at hf
    refine j_iload C d_M_takesPart_331 7 rfl ?_
    refine j_iload_n C d_M_takesPart_333 3 rfl ?_
    refine j_icmp_ge C d_M_takesPart_334 hf (fun hf => ?_) (fun hf => ?_)
    · refine j_iinc (lvf := [(0, .ref (yad Y 0)), (1, .int x1), (2, .int x2), (3, .int x3), (4, .int x4), (6, .int x6), (7, .int x7)]) (v := 1) C d_M_takesPart_365 5 rfl (by decide) (by decide) rfl hf (fun v1 hf => ?_)
      refine j_sub [1, 2, 3, 4, 5, 0, 6] rfl ?_
      exact w_M_takesPart_b368 hY C k246 hk246 x1 x2 x3 x4 v1 x6 μ hf
    · refine j_aload_n C d_M_takesPart_337 0 rfl ?_
      refine j_gS (b := 35) C fl_M_120 (kM hY rfl) (nM hY (by decide)) rfl hY.2.2.2.1 rfl (sM hY rfl) d_M_takesPart_338 ?_
      refine j_iload C d_M_takesPart_341 6 rfl ?_
      refine j_dup2 C d_M_takesPart_343 rfl rfl ?_
      refine ck hf (fun hi2 hf => ?_)
      refine j_lald C (kM hY rfl) (nM hY (by decide)) (lM hY rfl) hi2 d_M_takesPart_344 ?_
      refine j_aload_n C d_M_takesPart_345 0 rfl ?_
      refine j_gS (b := 33) C fl_M_114 (kM hY rfl) (nM hY (by decide)) rfl hY.2.2.2.1 rfl (sM hY rfl) d_M_takesPart_346 ?_
      refine j_iconst (v := 4) C d_M_takesPart_349 (by decide) ?_
      refine j_iload C d_M_takesPart_350 5 rfl ?_
      refine j_imul C d_M_takesPart_352 ?_
      refine j_iload C d_M_takesPart_353 7 rfl ?_
      refine j_iadd C d_M_takesPart_355 ?_
      refine ck hf (fun hi3 hf => ?_)
      refine j_lald C (kM hY rfl) (nM hY (by decide)) (lM hY rfl) hi3 d_M_takesPart_356 ?_
      refine j_ladd C d_M_takesPart_357 ?_
      refine ck hf (fun hi4 hf => ?_)
      refine j_last C (kM hY rfl) (nM hY (by decide)) (lM hY rfl) hi4 d_M_takesPart_358 hf (fun μ5 hf => ?_)
      refine j_iinc (lvf := [(0, .ref (yad Y 0)), (1, .int x1), (2, .int x2), (3, .int x3), (4, .int x4), (5, .int x5), (6, .int x6)]) (v := 1) C d_M_takesPart_359 7 rfl (by decide) (by decide) rfl hf (fun v6 hf => ?_)
      refine j_goto C d_M_takesPart_362 ?_
      refine j_sub [1, 2, 3, 4, 5, 6, 7, 0] rfl ?_
      exact ih x1 x2 x3 x4 x5 x6 v6 μ5 hf
theorem w_M_takesPart_b318 {X : Ctx} {Y : Lay} (hY : IsM Y) (C : Cx X Y b_M_takesPart 8 none "TopYardModel" 4) {N : Nat} {r : Mem} (k246 : Int32 → Int32 → Int32 → Int32 → Int32 → Int32 → Mem → Option (Mem)) (hk246 : ∀ (x1 : Int32) (x2 : Int32) (x3 : Int32) (x4 : Int32) (x5 : Int32) (x6 : Int32) (ν : Mem), k246 x1 x2 x3 x4 x5 x6 ν = some r → J X Y none r 8 246 [(0, .ref (yad Y 0)), (1, .int x1), (2, .int x2), (3, .int x3), (4, .int x4), (5, .int x5), (6, .int x6)] [] ν) (x1 : Int32) (x2 : Int32) (x3 : Int32) (x4 : Int32) (x5 : Int32) (x6 : Int32) (μ : Mem) (hf : f_M_takesPart_b318 N k246 x1 x2 x3 x4 x5 x6 μ = some r) : J X Y none r 8 318 [(0, .ref (yad Y 0)), (1, .int x1), (2, .int x2), (3, .int x3), (4, .int x4), (5, .int x5), (6, .int x6)] [] μ := by
  unfold f_M_takesPart_b318 at hf
  refine j_iload_n C d_M_takesPart_318 2 rfl ?_
  refine j_iload C d_M_takesPart_319 6 rfl ?_
  refine j_ishr C d_M_takesPart_321 ?_
  refine j_iconst (v := 1) C d_M_takesPart_322 (by decide) ?_
  refine j_iand C d_M_takesPart_323 ?_
  refine j_iconst (v := 1) C d_M_takesPart_324 (by decide) ?_
  refine j_icmp_ne C d_M_takesPart_325 hf (fun hf => ?_) (fun hf => ?_)
  · refine j_sub [0, 1, 2, 3, 4, 5, 6] rfl ?_
    exact w_M_takesPart_b368 hY C k246 hk246 x1 x2 x3 x4 x5 x6 μ hf
  · refine j_iconst (v := 0) C d_M_takesPart_328 (by decide) ?_
    refine j_istore (lvf := [(0, .ref (yad Y 0)), (1, .int x1), (2, .int x2), (3, .int x3), (4, .int x4), (5, .int x5), (6, .int x6)]) C d_M_takesPart_329 (by decide) rfl ?_
    refine j_sub [1, 2, 3, 4, 5, 6, 7, 0] rfl ?_
    exact w_M_takesPart_l331 hY C k246 hk246 N x1 x2 x3 x4 x5 x6 0 μ hf
theorem w_M_takesPart_l281 {X : Ctx} {Y : Lay} (hY : IsM Y) (C : Cx X Y b_M_takesPart 8 none "TopYardModel" 4) {N : Nat} {r : Mem} (k246 : Int32 → Int32 → Int32 → Int32 → Int32 → Int32 → Mem → Option (Mem)) (hk246 : ∀ (x1 : Int32) (x2 : Int32) (x3 : Int32) (x4 : Int32) (x5 : Int32) (x6 : Int32) (ν : Mem), k246 x1 x2 x3 x4 x5 x6 ν = some r → J X Y none r 8 246 [(0, .ref (yad Y 0)), (1, .int x1), (2, .int x2), (3, .int x3), (4, .int x4), (5, .int x5), (6, .int x6)] [] ν) : ∀ (n : Nat) (x1 : Int32) (x2 : Int32) (x3 : Int32) (x4 : Int32) (x5 : Int32) (x6 : Int32) (x7 : Int32) (μ : Mem), f_M_takesPart_l281 N k246 n x1 x2 x3 x4 x5 x6 x7 μ = some r → J X Y none r 8 281 [(0, .ref (yad Y 0)), (1, .int x1), (2, .int x2), (3, .int x3), (4, .int x4), (5, .int x5), (6, .int x6), (7, .int x7)] [] μ := by
  intro n
  induction n with
  | zero => intro x1 x2 x3 x4 x5 x6 x7 μ hf; rw [f_M_takesPart_l281] at hf; cases hf
  | succ n ih =>
    intro x1 x2 x3 x4 x5 x6 x7 μ hf
    rw [f_M_takesPart_l281] at hf
    refine j_iload C d_M_takesPart_281 7 rfl ?_
    refine j_iload_n C d_M_takesPart_283 3 rfl ?_
    refine j_icmp_ge C d_M_takesPart_284 hf (fun hf => ?_) (fun hf => ?_)
    · refine j_iinc (lvf := [(0, .ref (yad Y 0)), (1, .int x1), (2, .int x2), (3, .int x3), (5, .int x5), (6, .int x6), (7, .int x7)]) (v := 1) C d_M_takesPart_315 4 rfl (by decide) (by decide) rfl hf (fun v1 hf => ?_)
      refine j_sub [1, 2, 3, 4, 0, 5, 6] rfl ?_
      exact w_M_takesPart_b318 hY C k246 hk246 x1 x2 x3 v1 x5 x6 μ hf
    · refine j_aload_n C d_M_takesPart_287 0 rfl ?_
      refine j_gS (b := 34) C fl_M_117 (kM hY rfl) (nM hY (by decide)) rfl hY.2.2.2.1 rfl (sM hY rfl) d_M_takesPart_288 ?_
      refine j_iload C d_M_takesPart_291 6 rfl ?_
      refine j_dup2 C d_M_takesPart_293 rfl rfl ?_
      refine ck hf (fun hi2 hf => ?_)
      refine j_lald C (kM hY rfl) (nM hY (by decide)) (lM hY rfl) hi2 d_M_takesPart_294 ?_
      refine j_aload_n C d_M_takesPart_295 0 rfl ?_
      refine j_gS (b := 33) C fl_M_114 (kM hY rfl) (nM hY (by decide)) rfl hY.2.2.2.1 rfl (sM hY rfl) d_M_takesPart_296 ?_
      refine j_iconst (v := 4) C d_M_takesPart_299 (by decide) ?_
      refine j_iload C d_M_takesPart_300 7 rfl ?_
      refine j_imul C d_M_takesPart_302 ?_
      refine j_iload C d_M_takesPart_303 4 rfl ?_
      refine j_iadd C d_M_takesPart_305 ?_
      refine ck hf (fun hi3 hf => ?_)
      refine j_lald C (kM hY rfl) (nM hY (by decide)) (lM hY rfl) hi3 d_M_takesPart_306 ?_
      refine j_ladd C d_M_takesPart_307 ?_
      refine ck hf (fun hi4 hf => ?_)
      refine j_last C (kM hY rfl) (nM hY (by decide)) (lM hY rfl) hi4 d_M_takesPart_308 hf (fun μ5 hf => ?_)
      refine j_iinc (lvf := [(0, .ref (yad Y 0)), (1, .int x1), (2, .int x2), (3, .int x3), (4, .int x4), (5, .int x5), (6, .int x6)]) (v := 1) C d_M_takesPart_309 7 rfl (by decide) (by decide) rfl hf (fun v6 hf => ?_)
      refine j_goto C d_M_takesPart_312 ?_
      refine j_sub [1, 2, 3, 4, 5, 6, 7, 0] rfl ?_
      exact ih x1 x2 x3 x4 x5 x6 v6 μ5 hf
theorem w_M_takesPart_l404 {X : Ctx} {Y : Lay} (hY : IsM Y) (C : Cx X Y b_M_takesPart 8 none "TopYardModel" 4) {N : Nat} {r : Mem} : ∀ (n : Nat) (x6 : Int32) (μ : Mem), f_M_takesPart_l404 N n x6 μ = some r → J X Y none r 8 404 [(0, .ref (yad Y 0)), (6, .int x6)] [] μ := by
  intro n
  induction n with
  | zero => intro x6 μ hf; rw [f_M_takesPart_l404] at hf; cases hf
  | succ n ih =>
    intro x6 μ hf
    rw [f_M_takesPart_l404] at hf
    refine j_iload C d_M_takesPart_404 1 rfl ?_
    refine j_iconst (v := 4) C d_M_takesPart_406 (by decide) ?_
    refine j_icmp_ge C d_M_takesPart_407 hf (fun hf => ?_) (fun hf => ?_)
    · obtain rfl := Option.some.inj hf
      exact j_vret C d_M_takesPart_446
    · refine j_aload_n C d_M_takesPart_410 0 rfl ?_
      refine j_gS (b := 34) C fl_M_117 (kM hY rfl) (nM hY (by decide)) rfl hY.2.2.2.1 rfl (sM hY rfl) d_M_takesPart_411 ?_
      refine j_iload C d_M_takesPart_414 1 rfl ?_
      refine j_aload_n C d_M_takesPart_416 0 rfl ?_
      refine j_gS (b := 34) C fl_M_117 (kM hY rfl) (nM hY (by decide)) rfl hY.2.2.2.1 rfl (sM hY rfl) d_M_takesPart_417 ?_
      refine j_iload C d_M_takesPart_420 1 rfl ?_
      refine ck hf (fun hi1 hf => ?_)
      refine j_lald C (kM hY rfl) (nM hY (by decide)) (lM hY rfl) hi1 d_M_takesPart_422 ?_
      refine j_lneg C d_M_takesPart_423 ?_
      refine ck hf (fun hi2 hf => ?_)
      refine j_last C (kM hY rfl) (nM hY (by decide)) (lM hY rfl) hi2 d_M_takesPart_424 hf (fun μ3 hf => ?_)
      refine j_aload_n C d_M_takesPart_425 0 rfl ?_
      refine j_gS (b := 35) C fl_M_120 (kM hY rfl) (nM hY (by decide)) rfl hY.2.2.2.1 rfl (sM hY rfl) d_M_takesPart_426 ?_
      refine j_iload C d_M_takesPart_429 1 rfl ?_
      refine j_aload_n C d_M_takesPart_431 0 rfl ?_
      refine j_gS (b := 35) C fl_M_120 (kM hY rfl) (nM hY (by decide)) rfl hY.2.2.2.1 rfl (sM hY rfl) d_M_takesPart_432 ?_
      refine j_iload C d_M_takesPart_435 1 rfl ?_
      refine ck hf (fun hi4 hf => ?_)
      refine j_lald C (kM hY rfl) (nM hY (by decide)) (lM hY rfl) hi4 d_M_takesPart_437 ?_
      refine j_lneg C d_M_takesPart_438 ?_
      refine ck hf (fun hi5 hf => ?_)
      refine j_last C (kM hY rfl) (nM hY (by decide)) (lM hY rfl) hi5 d_M_takesPart_439 hf (fun μ6 hf => ?_)
      refine j_iinc (lvf := [(0, .ref (yad Y 0))]) (v := 1) C d_M_takesPart_440 1 rfl (by decide) (by decide) rfl hf (fun v7 hf => ?_)
      refine j_goto C d_M_takesPart_443 ?_
      refine j_sub [1, 0] rfl ?_
      exact ih v7 μ6 hf
theorem w_M_takesPart_l246 {X : Ctx} {Y : Lay} (hY : IsM Y) (C : Cx X Y b_M_takesPart 8 none "TopYardModel" 4) {N : Nat} {r : Mem} : ∀ (n : Nat) (x1 : Int32) (x2 : Int32) (x3 : Int32) (x4 : Int32) (x5 : Int32) (x6 : Int32) (μ : Mem), f_M_takesPart_l246 N n x1 x2 x3 x4 x5 x6 μ = some r → J X Y none r 8 246 [(0, .ref (yad Y 0)), (1, .int x1), (2, .int x2), (3, .int x3), (4, .int x4), (5, .int x5), (6, .int x6)] [] μ := by
  intro n
  induction n with
  | zero => intro x1 x2 x3 x4 x5 x6 μ hf; rw [f_M_takesPart_l246] at hf; cases hf
  | succ n ih =>
    intro x1 x2 x3 x4 x5 x6 μ hf
    rw [f_M_takesPart_l246] at hf
    refine j_iload C d_M_takesPart_246 6 rfl ?_
    refine j_iconst (v := 4) C d_M_takesPart_248 (by decide) ?_
    refine j_icmp_ge C d_M_takesPart_249 hf (fun hf => ?_) (fun hf => ?_)
    · refine j_aload_n C d_M_takesPart_374 0 rfl ?_
      refine j_gL C fl_M_328 (kM hY rfl) (nM hY (by decide)) rfl d_M_takesPart_375 ?_
      refine j_lconst (v := 0) C d_M_takesPart_378 (by decide) ?_
      refine j_lcmp_ge C d_M_takesPart_379 d_M_takesPart_380 hf (fun hf => ?_) (fun hf => ?_)
      · obtain rfl := Option.some.inj hf
        exact j_vret C d_M_takesPart_446
      · refine j_aload_n C d_M_takesPart_383 0 rfl ?_
        refine j_aload_n C d_M_takesPart_384 0 rfl ?_
        refine j_gL C fl_M_328 (kM hY rfl) (nM hY (by decide)) rfl d_M_takesPart_385 ?_
        refine j_lneg C d_M_takesPart_388 ?_
        refine j_pL C fl_M_328 (kM hY rfl) (nM hY (by decide)) rfl rfl rfl d_M_takesPart_389 hf (fun μ1 hf => ?_)
        refine j_aload_n C d_M_takesPart_392 0 rfl ?_
        refine j_aload_n C d_M_takesPart_393 0 rfl ?_
        refine j_gL C fl_M_332 (kM hY rfl) (nM hY (by decide)) rfl d_M_takesPart_394 ?_
        refine j_lneg C d_M_takesPart_397 ?_
        refine j_pL C fl_M_332 (kM hY rfl) (nM hY (by decide)) rfl rfl rfl d_M_takesPart_398 hf (fun μ2 hf => ?_)
        refine j_iconst (v := 0) C d_M_takesPart_401 (by decide) ?_
        refine j_istore (lvf := [(0, .ref (yad Y 0)), (1, .int x1), (2, .int x2), (3, .int x3), (4, .int x4), (5, .int x5)]) C d_M_takesPart_402 (by decide) rfl ?_
        refine j_sub [1, 0] rfl ?_
        exact w_M_takesPart_l404 hY C N 0 μ2 hf
    · refine j_aload_n C d_M_takesPart_252 0 rfl ?_
      refine j_gS (b := 34) C fl_M_117 (kM hY rfl) (nM hY (by decide)) rfl hY.2.2.2.1 rfl (sM hY rfl) d_M_takesPart_253 ?_
      refine j_iload C d_M_takesPart_256 6 rfl ?_
      refine j_lconst (v := 0) C d_M_takesPart_258 (by decide) ?_
      refine ck hf (fun hi3 hf => ?_)
      refine j_last C (kM hY rfl) (nM hY (by decide)) (lM hY rfl) hi3 d_M_takesPart_259 hf (fun μ4 hf => ?_)
      refine j_aload_n C d_M_takesPart_260 0 rfl ?_
      refine j_gS (b := 35) C fl_M_120 (kM hY rfl) (nM hY (by decide)) rfl hY.2.2.2.1 rfl (sM hY rfl) d_M_takesPart_261 ?_
      refine j_iload C d_M_takesPart_264 6 rfl ?_
      refine j_lconst (v := 0) C d_M_takesPart_266 (by decide) ?_
      refine ck hf (fun hi5 hf => ?_)
      refine j_last C (kM hY rfl) (nM hY (by decide)) (lM hY rfl) hi5 d_M_takesPart_267 hf (fun μ6 hf => ?_)
      refine j_iload_n C d_M_takesPart_268 1 rfl ?_
      refine j_iload C d_M_takesPart_269 6 rfl ?_
      refine j_ishr C d_M_takesPart_271 ?_
      refine j_iconst (v := 1) C d_M_takesPart_272 (by decide) ?_
      refine j_iand C d_M_takesPart_273 ?_
      refine j_iconst (v := 1) C d_M_takesPart_274 (by decide) ?_
      refine j_icmp_ne C d_M_takesPart_275 hf (fun hf => ?_) (fun hf => ?_)
      · refine j_sub [0, 1, 2, 3, 4, 5, 6] rfl ?_
        exact w_M_takesPart_b318 hY C (f_M_takesPart_l246 N n) ih x1 x2 x3 x4 x5 x6 μ6 hf
      · refine j_iconst (v := 0) C d_M_takesPart_278 (by decide) ?_
        refine j_istore (lvf := [(0, .ref (yad Y 0)), (1, .int x1), (2, .int x2), (3, .int x3), (4, .int x4), (5, .int x5), (6, .int x6)]) C d_M_takesPart_279 (by decide) rfl ?_
        refine j_sub [1, 2, 3, 4, 5, 6, 7, 0] rfl ?_
        exact w_M_takesPart_l281 hY C (f_M_takesPart_l246 N n) ih N x1 x2 x3 x4 x5 x6 0 μ6 hf
theorem w_M_takesPart_l199 {X : Ctx} {Y : Lay} (hY : IsM Y) (C : Cx X Y b_M_takesPart 8 none "TopYardModel" 4) {N : Nat} {r : Mem} : ∀ (n : Nat) (x1 : Int32) (x2 : Int32) (x3 : Int32) (x4 : Int32) (μ : Mem), f_M_takesPart_l199 N n x1 x2 x3 x4 μ = some r → J X Y none r 8 199 [(0, .ref (yad Y 0)), (1, .int x1), (2, .int x2), (3, .int x3), (4, .int x4)] [] μ := by
  intro n
  induction n with
  | zero => intro x1 x2 x3 x4 μ hf; rw [f_M_takesPart_l199] at hf; cases hf
  | succ n ih =>
    intro x1 x2 x3 x4 μ hf
    rw [f_M_takesPart_l199] at hf
    refine j_iload C d_M_takesPart_199 4 rfl ?_
    refine j_iload_n C d_M_takesPart_201 3 rfl ?_
    refine j_icmp_ge C d_M_takesPart_202 hf (fun hf => ?_) (fun hf => ?_)
    · refine j_iconst (v := 0) C d_M_takesPart_237 (by decide) ?_
      refine j_istore (lvf := [(0, .ref (yad Y 0)), (1, .int x1), (2, .int x2), (3, .int x3)]) C d_M_takesPart_238 (by decide) rfl ?_
      refine j_iconst (v := 0) C d_M_takesPart_240 (by decide) ?_
      refine j_istore (lvf := [(4, .int 0), (0, .ref (yad Y 0)), (1, .int x1), (2, .int x2), (3, .int x3)]) C d_M_takesPart_241 (by decide) rfl ?_
      refine j_iconst (v := 0) C d_M_takesPart_243 (by decide) ?_
      refine j_istore (lvf := [(5, .int 0), (4, .int 0), (0, .ref (yad Y 0)), (1, .int x1), (2, .int x2), (3, .int x3)]) C d_M_takesPart_244 (by decide) rfl ?_
      refine j_sub [3, 4, 5, 6, 2, 1, 0] rfl ?_
      exact w_M_takesPart_l246 hY C N x1 x2 x3 0 0 0 μ hf
    · refine j_aload_n C d_M_takesPart_205 0 rfl ?_
      refine j_dup C d_M_takesPart_206 rfl ?_
      refine j_gL C fl_M_332 (kM hY rfl) (nM hY (by decide)) rfl d_M_takesPart_207 ?_
      refine j_aload_n C d_M_takesPart_210 0 rfl ?_
      refine j_gS (b := 32) C fl_M_111 (kM hY rfl) (nM hY (by decide)) rfl hY.2.2.2.1 rfl (sM hY rfl) d_M_takesPart_211 ?_
      refine j_iload C d_M_takesPart_214 4 rfl ?_
      refine ck hf (fun hi1 hf => ?_)
      refine j_lald C (kM hY rfl) (nM hY (by decide)) (lM hY rfl) hi1 d_M_takesPart_216 ?_
      refine j_aload_n C d_M_takesPart_217 0 rfl ?_
      refine j_gS (b := 33) C fl_M_114 (kM hY rfl) (nM hY (by decide)) rfl hY.2.2.2.1 rfl (sM hY rfl) d_M_takesPart_218 ?_
      refine j_iconst (v := 4) C d_M_takesPart_221 (by decide) ?_
      refine j_iload C d_M_takesPart_222 4 rfl ?_
      refine j_imul C d_M_takesPart_224 ?_
      refine ck hf (fun hi2 hf => ?_)
      refine j_lald C (kM hY rfl) (nM hY (by decide)) (lM hY rfl) hi2 d_M_takesPart_225 ?_
      refine j_lmul C d_M_takesPart_226 ?_
      refine j_ladd C d_M_takesPart_227 ?_
      refine j_pL C fl_M_332 (kM hY rfl) (nM hY (by decide)) rfl rfl rfl d_M_takesPart_228 hf (fun μ3 hf => ?_)
      refine j_iinc (lvf := [(0, .ref (yad Y 0)), (1, .int x1), (2, .int x2), (3, .int x3)]) (v := 1) C d_M_takesPart_231 4 rfl (by decide) (by decide) rfl hf (fun v4 hf => ?_)
      refine j_goto C d_M_takesPart_234 ?_
      refine j_sub [1, 2, 3, 4, 0] rfl ?_
      exact ih x1 x2 x3 v4 μ3 hf
theorem w_M_takesPart_l107 {X : Ctx} {Y : Lay} (hY : IsM Y) (C : Cx X Y b_M_takesPart 8 none "TopYardModel" 4) {N : Nat} {r : Mem} : ∀ (n : Nat) (x1 : Int32) (x2 : Int32) (x3 : Int32) (x4 : Int32) (μ : Mem), f_M_takesPart_l107 N n x1 x2 x3 x4 μ = some r → J X Y none r 8 107 [(0, .ref (yad Y 0)), (1, .int x1), (2, .int x2), (3, .int x3), (4, .int x4)] [] μ := by
  intro n
  induction n with
  | zero => intro x1 x2 x3 x4 μ hf; rw [f_M_takesPart_l107] at hf; cases hf
  | succ n ih =>
    intro x1 x2 x3 x4 μ hf
    rw [f_M_takesPart_l107] at hf
    refine j_iload C d_M_takesPart_107 4 rfl ?_
    refine j_iload_n C d_M_takesPart_109 3 rfl ?_
    refine j_icmp_ge C d_M_takesPart_110 hf (fun hf => ?_) (fun hf => ?_)
    · refine j_iconst (v := 0) C d_M_takesPart_196 (by decide) ?_
      refine j_istore (lvf := [(0, .ref (yad Y 0)), (1, .int x1), (2, .int x2), (3, .int x3)]) C d_M_takesPart_197 (by decide) rfl ?_
      refine j_sub [1, 2, 3, 4, 0] rfl ?_
      exact w_M_takesPart_l199 hY C N x1 x2 x3 0 μ hf
    · refine j_iconst (v := 0) C d_M_takesPart_113 (by decide) ?_
      refine j_istore (lvf := [(0, .ref (yad Y 0)), (1, .int x1), (2, .int x2), (3, .int x3), (4, .int x4)]) C d_M_takesPart_114 (by decide) rfl ?_
      refine j_sub [1, 2, 3, 4, 5, 0] rfl ?_
      exact w_M_takesPart_l116 hY C (f_M_takesPart_l107 N n) ih N x1 x2 x3 x4 0 μ hf
theorem w_M_takesPart_l5 {X : Ctx} {Y : Lay} (hY : IsM Y) (C : Cx X Y b_M_takesPart 8 none "TopYardModel" 4) {N : Nat} {r : Mem} : ∀ (n : Nat) (x1 : Int32) (x2 : Int32) (x3 : Int32) (x4 : Int32) (μ : Mem), f_M_takesPart_l5 N n x1 x2 x3 x4 μ = some r → J X Y none r 8 5 [(0, .ref (yad Y 0)), (1, .int x1), (2, .int x2), (3, .int x3), (4, .int x4)] [] μ := by
  intro n
  induction n with
  | zero => intro x1 x2 x3 x4 μ hf; rw [f_M_takesPart_l5] at hf; cases hf
  | succ n ih =>
    intro x1 x2 x3 x4 μ hf
    rw [f_M_takesPart_l5] at hf
    refine j_iload C d_M_takesPart_5 4 rfl ?_
    refine j_aload_n C d_M_takesPart_7 0 rfl ?_
    refine j_gI C fl_M_305 (kM hY rfl) (nM hY (by decide)) rfl d_M_takesPart_8 ?_
    refine j_icmp_ge C d_M_takesPart_11 hf (fun hf => ?_) (fun hf => ?_)
    · refine j_aload_n C d_M_takesPart_94 0 rfl ?_
      refine j_lconst (v := 0) C d_M_takesPart_95 (by decide) ?_
      refine j_pL C fl_M_328 (kM hY rfl) (nM hY (by decide)) rfl rfl rfl d_M_takesPart_96 hf (fun μ1 hf => ?_)
      refine j_aload_n C d_M_takesPart_99 0 rfl ?_
      refine j_lconst (v := 0) C d_M_takesPart_100 (by decide) ?_
      refine j_pL C fl_M_332 (kM hY rfl) (nM hY (by decide)) rfl rfl rfl d_M_takesPart_101 hf (fun μ2 hf => ?_)
      refine j_iconst (v := 0) C d_M_takesPart_104 (by decide) ?_
      refine j_istore (lvf := [(0, .ref (yad Y 0)), (1, .int x1), (2, .int x2), (3, .int x3)]) C d_M_takesPart_105 (by decide) rfl ?_
      refine j_sub [1, 2, 3, 4, 0] rfl ?_
      exact w_M_takesPart_l107 hY C N x1 x2 x3 0 μ2 hf
    · refine j_iload_n C d_M_takesPart_14 1 rfl ?_
      refine j_iload C d_M_takesPart_15 4 rfl ?_
      refine j_ishr C d_M_takesPart_17 ?_
      refine j_iconst (v := 1) C d_M_takesPart_18 (by decide) ?_
      refine j_iand C d_M_takesPart_19 ?_
      refine j_iconst (v := 1) C d_M_takesPart_20 (by decide) ?_
      refine j_icmp_ne C d_M_takesPart_21 hf (fun hf => ?_) (fun hf => ?_)
      · refine j_sub [0, 1, 2, 3, 4] rfl ?_
        exact w_M_takesPart_b88 hY C (f_M_takesPart_l5 N n) ih x1 x2 x3 x4 μ hf
      · refine j_iconst (v := 0) C d_M_takesPart_24 (by decide) ?_
        refine j_istore (lvf := [(0, .ref (yad Y 0)), (1, .int x1), (2, .int x2), (3, .int x3), (4, .int x4)]) C d_M_takesPart_25 (by decide) rfl ?_
        refine j_iconst (v := 0) C d_M_takesPart_27 (by decide) ?_
        refine j_istore (lvf := [(5, .int 0), (0, .ref (yad Y 0)), (1, .int x1), (2, .int x2), (3, .int x3), (4, .int x4)]) C d_M_takesPart_28 (by decide) rfl ?_
        refine j_sub [2, 3, 4, 5, 6, 1, 0] rfl ?_
        exact w_M_takesPart_l30 hY C (f_M_takesPart_l5 N n) ih N x1 x2 x3 x4 0 0 μ hf
theorem c_M_takesPart {l : Launch} {Y : Lay} (hY : IsM Y) {N : Nat} {μ : Mem} {x1 : Int32} {x2 : Int32} {r : Mem} (hf : f_M_takesPart N μ x1 x2 = some r) : Ct l Y y_M_takesPart b_M_takesPart 8 none 4 [.ref (yad Y 0), .int x1, .int x2] none μ r := by
  refine ct_of (own := "TopYardModel") (lv := [(0, .ref (yad Y 0)), (1, .int x1), (2, .int x2)]) (by decide +kernel) rfl (Nat.le_of_ble_eq_true rfl) rfl (fun X hl C => ?_)
  subst hl
  unfold f_M_takesPart at hf
  refine j_iconst (v := 0) C d_M_takesPart_0 (by decide) ?_
  refine j_istore_n (lvf := [(0, .ref (yad Y 0)), (1, .int x1), (2, .int x2)]) C d_M_takesPart_1 (by decide) rfl ?_
  refine j_iconst (v := 0) C d_M_takesPart_2 (by decide) ?_
  refine j_istore (lvf := [(3, .int 0), (0, .ref (yad Y 0)), (1, .int x1), (2, .int x2)]) C d_M_takesPart_3 (by decide) rfl ?_
  refine j_sub [2, 3, 4, 1, 0] rfl ?_
  exact w_M_takesPart_l5 hY C N x1 x2 0 0 μ hf
theorem d_M_isMix_0 : DC b_M_isMix 0 (.aload_n 0) 1 1 := ⟨by decide +kernel, rfl⟩
theorem d_M_isMix_1 : DC b_M_isMix 1 (.getfield 328) 3 4 := ⟨by decide +kernel, rfl⟩
theorem d_M_isMix_4 : DC b_M_isMix 4 (.lconst 0) 1 5 := ⟨by decide +kernel, rfl⟩
theorem d_M_isMix_5 : DC b_M_isMix 5 (.lcmp) 1 6 := ⟨by decide +kernel, rfl⟩
theorem d_M_isMix_6 : DB b_M_isMix 6 (.ifCond .le 7) 7 13 9 := ⟨by decide +kernel, by decide, rfl⟩
theorem d_M_isMix_9 : DC b_M_isMix 9 (.iconst 1) 1 10 := ⟨by decide +kernel, rfl⟩
theorem d_M_isMix_10 : DB b_M_isMix 10 (.goto 4) 4 14 13 := ⟨by decide +kernel, by decide, rfl⟩
theorem d_M_isMix_13 : DC b_M_isMix 13 (.iconst 0) 1 14 := ⟨by decide +kernel, rfl⟩
theorem d_M_isMix_14 : DC b_M_isMix 14 (.istore_n 1) 1 15 := ⟨by decide +kernel, rfl⟩
theorem d_M_isMix_15 : DC b_M_isMix 15 (.iconst 0) 1 16 := ⟨by decide +kernel, rfl⟩
theorem d_M_isMix_16 : DC b_M_isMix 16 (.istore_n 2) 1 17 := ⟨by decide +kernel, rfl⟩
theorem d_M_isMix_17 : DC b_M_isMix 17 (.iload_n 2) 1 18 := ⟨by decide +kernel, rfl⟩
theorem d_M_isMix_18 : DC b_M_isMix 18 (.iconst 4) 1 19 := ⟨by decide +kernel, rfl⟩
theorem d_M_isMix_19 : DB b_M_isMix 19 (.if_icmp .ge 41) 41 60 22 := ⟨by decide +kernel, by decide, rfl⟩
theorem d_M_isMix_22 : DC b_M_isMix 22 (.iload_n 1) 1 23 := ⟨by decide +kernel, rfl⟩
theorem d_M_isMix_23 : DB b_M_isMix 23 (.ifCond .eq 29) 29 52 26 := ⟨by decide +kernel, by decide, rfl⟩
theorem d_M_isMix_26 : DC b_M_isMix 26 (.aload_n 0) 1 27 := ⟨by decide +kernel, rfl⟩
theorem d_M_isMix_27 : DC b_M_isMix 27 (.getfield 117) 3 30 := ⟨by decide +kernel, rfl⟩
theorem d_M_isMix_30 : DC b_M_isMix 30 (.iload_n 2) 1 31 := ⟨by decide +kernel, rfl⟩
theorem d_M_isMix_31 : DC b_M_isMix 31 (.laload) 1 32 := ⟨by decide +kernel, rfl⟩
theorem d_M_isMix_32 : DC b_M_isMix 32 (.lconst 0) 1 33 := ⟨by decide +kernel, rfl⟩
theorem d_M_isMix_33 : DC b_M_isMix 33 (.lcmp) 1 34 := ⟨by decide +kernel, rfl⟩
theorem d_M_isMix_34 : DB b_M_isMix 34 (.ifCond .lt 18) 18 52 37 := ⟨by decide +kernel, by decide, rfl⟩
theorem d_M_isMix_37 : DC b_M_isMix 37 (.aload_n 0) 1 38 := ⟨by decide +kernel, rfl⟩
theorem d_M_isMix_38 : DC b_M_isMix 38 (.getfield 120) 3 41 := ⟨by decide +kernel, rfl⟩
theorem d_M_isMix_41 : DC b_M_isMix 41 (.iload_n 2) 1 42 := ⟨by decide +kernel, rfl⟩
theorem d_M_isMix_42 : DC b_M_isMix 42 (.laload) 1 43 := ⟨by decide +kernel, rfl⟩
theorem d_M_isMix_43 : DC b_M_isMix 43 (.lconst 0) 1 44 := ⟨by decide +kernel, rfl⟩
theorem d_M_isMix_44 : DC b_M_isMix 44 (.lcmp) 1 45 := ⟨by decide +kernel, rfl⟩
theorem d_M_isMix_45 : DB b_M_isMix 45 (.ifCond .lt 7) 7 52 48 := ⟨by decide +kernel, by decide, rfl⟩
theorem d_M_isMix_48 : DC b_M_isMix 48 (.iconst 1) 1 49 := ⟨by decide +kernel, rfl⟩
theorem d_M_isMix_49 : DB b_M_isMix 49 (.goto 4) 4 53 52 := ⟨by decide +kernel, by decide, rfl⟩
theorem d_M_isMix_52 : DC b_M_isMix 52 (.iconst 0) 1 53 := ⟨by decide +kernel, rfl⟩
theorem d_M_isMix_53 : DC b_M_isMix 53 (.istore_n 1) 1 54 := ⟨by decide +kernel, rfl⟩
theorem d_M_isMix_54 : DC b_M_isMix 54 (.iinc 2 1) 3 57 := ⟨by decide +kernel, rfl⟩
theorem d_M_isMix_57 : DB b_M_isMix 57 (.goto (-40)) (-40) 17 60 := ⟨by decide +kernel, by decide, rfl⟩
theorem d_M_isMix_60 : DC b_M_isMix 60 (.iconst 0) 1 61 := ⟨by decide +kernel, rfl⟩
theorem d_M_isMix_61 : DC b_M_isMix 61 (.istore_n 2) 1 62 := ⟨by decide +kernel, rfl⟩
theorem d_M_isMix_62 : DC b_M_isMix 62 (.iload_n 2) 1 63 := ⟨by decide +kernel, rfl⟩
theorem d_M_isMix_63 : DC b_M_isMix 63 (.aload_n 0) 1 64 := ⟨by decide +kernel, rfl⟩
theorem d_M_isMix_64 : DC b_M_isMix 64 (.getfield 308) 3 67 := ⟨by decide +kernel, rfl⟩
theorem d_M_isMix_67 : DB b_M_isMix 67 (.if_icmp .ge 74) 74 141 70 := ⟨by decide +kernel, by decide, rfl⟩
theorem d_M_isMix_70 : DC b_M_isMix 70 (.lconst 0) 1 71 := ⟨by decide +kernel, rfl⟩
theorem d_M_isMix_71 : DC b_M_isMix 71 (.lstore_n 3) 1 72 := ⟨by decide +kernel, rfl⟩
theorem d_M_isMix_72 : DC b_M_isMix 72 (.iconst 0) 1 73 := ⟨by decide +kernel, rfl⟩
theorem d_M_isMix_73 : DC b_M_isMix 73 (.istore 5) 2 75 := ⟨by decide +kernel, rfl⟩
theorem d_M_isMix_75 : DC b_M_isMix 75 (.iload 5) 2 77 := ⟨by decide +kernel, rfl⟩
theorem d_M_isMix_77 : DC b_M_isMix 77 (.aload_n 0) 1 78 := ⟨by decide +kernel, rfl⟩
theorem d_M_isMix_78 : DC b_M_isMix 78 (.getfield 305) 3 81 := ⟨by decide +kernel, rfl⟩
theorem d_M_isMix_81 : DB b_M_isMix 81 (.if_icmp .ge 35) 35 116 84 := ⟨by decide +kernel, by decide, rfl⟩
theorem d_M_isMix_84 : DC b_M_isMix 84 (.lload_n 3) 1 85 := ⟨by decide +kernel, rfl⟩
theorem d_M_isMix_85 : DC b_M_isMix 85 (.aload_n 0) 1 86 := ⟨by decide +kernel, rfl⟩
theorem d_M_isMix_86 : DC b_M_isMix 86 (.getfield 108) 3 89 := ⟨by decide +kernel, rfl⟩
theorem d_M_isMix_89 : DC b_M_isMix 89 (.iconst 4) 1 90 := ⟨by decide +kernel, rfl⟩
theorem d_M_isMix_90 : DC b_M_isMix 90 (.iload 5) 2 92 := ⟨by decide +kernel, rfl⟩
theorem d_M_isMix_92 : DC b_M_isMix 92 (.imul) 1 93 := ⟨by decide +kernel, rfl⟩
theorem d_M_isMix_93 : DC b_M_isMix 93 (.iload_n 2) 1 94 := ⟨by decide +kernel, rfl⟩
theorem d_M_isMix_94 : DC b_M_isMix 94 (.iadd) 1 95 := ⟨by decide +kernel, rfl⟩
theorem d_M_isMix_95 : DC b_M_isMix 95 (.iaload) 1 96 := ⟨by decide +kernel, rfl⟩
theorem d_M_isMix_96 : DC b_M_isMix 96 (.bipush 20) 2 98 := ⟨by decide +kernel, rfl⟩
theorem d_M_isMix_98 : DC b_M_isMix 98 (.iadd) 1 99 := ⟨by decide +kernel, rfl⟩
theorem d_M_isMix_99 : DC b_M_isMix 99 (.i2l) 1 100 := ⟨by decide +kernel, rfl⟩
theorem d_M_isMix_100 : DC b_M_isMix 100 (.aload_n 0) 1 101 := ⟨by decide +kernel, rfl⟩
theorem d_M_isMix_101 : DC b_M_isMix 101 (.getfield 117) 3 104 := ⟨by decide +kernel, rfl⟩
theorem d_M_isMix_104 : DC b_M_isMix 104 (.iload 5) 2 106 := ⟨by decide +kernel, rfl⟩
theorem d_M_isMix_106 : DC b_M_isMix 106 (.laload) 1 107 := ⟨by decide +kernel, rfl⟩
theorem d_M_isMix_107 : DC b_M_isMix 107 (.lmul) 1 108 := ⟨by decide +kernel, rfl⟩
theorem d_M_isMix_108 : DC b_M_isMix 108 (.ladd) 1 109 := ⟨by decide +kernel, rfl⟩
theorem d_M_isMix_109 : DC b_M_isMix 109 (.lstore_n 3) 1 110 := ⟨by decide +kernel, rfl⟩
theorem d_M_isMix_110 : DC b_M_isMix 110 (.iinc 5 1) 3 113 := ⟨by decide +kernel, rfl⟩
theorem d_M_isMix_113 : DB b_M_isMix 113 (.goto (-38)) (-38) 75 116 := ⟨by decide +kernel, by decide, rfl⟩
theorem d_M_isMix_116 : DC b_M_isMix 116 (.iload_n 1) 1 117 := ⟨by decide +kernel, rfl⟩
theorem d_M_isMix_117 : DB b_M_isMix 117 (.ifCond .eq 16) 16 133 120 := ⟨by decide +kernel, by decide, rfl⟩
theorem d_M_isMix_120 : DC b_M_isMix 120 (.lload_n 3) 1 121 := ⟨by decide +kernel, rfl⟩
theorem d_M_isMix_121 : DC b_M_isMix 121 (.aload_n 0) 1 122 := ⟨by decide +kernel, rfl⟩
theorem d_M_isMix_122 : DC b_M_isMix 122 (.getfield 332) 3 125 := ⟨by decide +kernel, rfl⟩
theorem d_M_isMix_125 : DC b_M_isMix 125 (.lcmp) 1 126 := ⟨by decide +kernel, rfl⟩
theorem d_M_isMix_126 : DB b_M_isMix 126 (.ifCond .lt 7) 7 133 129 := ⟨by decide +kernel, by decide, rfl⟩
theorem d_M_isMix_129 : DC b_M_isMix 129 (.iconst 1) 1 130 := ⟨by decide +kernel, rfl⟩
theorem d_M_isMix_130 : DB b_M_isMix 130 (.goto 4) 4 134 133 := ⟨by decide +kernel, by decide, rfl⟩
theorem d_M_isMix_133 : DC b_M_isMix 133 (.iconst 0) 1 134 := ⟨by decide +kernel, rfl⟩
theorem d_M_isMix_134 : DC b_M_isMix 134 (.istore_n 1) 1 135 := ⟨by decide +kernel, rfl⟩
theorem d_M_isMix_135 : DC b_M_isMix 135 (.iinc 2 1) 3 138 := ⟨by decide +kernel, rfl⟩
theorem d_M_isMix_138 : DB b_M_isMix 138 (.goto (-76)) (-76) 62 141 := ⟨by decide +kernel, by decide, rfl⟩
theorem d_M_isMix_141 : DC b_M_isMix 141 (.iconst 0) 1 142 := ⟨by decide +kernel, rfl⟩
theorem d_M_isMix_142 : DC b_M_isMix 142 (.istore_n 2) 1 143 := ⟨by decide +kernel, rfl⟩
theorem d_M_isMix_143 : DC b_M_isMix 143 (.iload_n 2) 1 144 := ⟨by decide +kernel, rfl⟩
theorem d_M_isMix_144 : DC b_M_isMix 144 (.aload_n 0) 1 145 := ⟨by decide +kernel, rfl⟩
theorem d_M_isMix_145 : DC b_M_isMix 145 (.getfield 305) 3 148 := ⟨by decide +kernel, rfl⟩
theorem d_M_isMix_148 : DB b_M_isMix 148 (.if_icmp .ge 74) 74 222 151 := ⟨by decide +kernel, by decide, rfl⟩
theorem d_M_isMix_151 : DC b_M_isMix 151 (.lconst 0) 1 152 := ⟨by decide +kernel, rfl⟩
theorem d_M_isMix_152 : DC b_M_isMix 152 (.lstore_n 3) 1 153 := ⟨by decide +kernel, rfl⟩
theorem d_M_isMix_153 : DC b_M_isMix 153 (.iconst 0) 1 154 := ⟨by decide +kernel, rfl⟩
theorem d_M_isMix_154 : DC b_M_isMix 154 (.istore 5) 2 156 := ⟨by decide +kernel, rfl⟩
theorem d_M_isMix_156 : DC b_M_isMix 156 (.iload 5) 2 158 := ⟨by decide +kernel, rfl⟩
theorem d_M_isMix_158 : DC b_M_isMix 158 (.aload_n 0) 1 159 := ⟨by decide +kernel, rfl⟩
theorem d_M_isMix_159 : DC b_M_isMix 159 (.getfield 308) 3 162 := ⟨by decide +kernel, rfl⟩
theorem d_M_isMix_162 : DB b_M_isMix 162 (.if_icmp .ge 35) 35 197 165 := ⟨by decide +kernel, by decide, rfl⟩
theorem d_M_isMix_165 : DC b_M_isMix 165 (.lload_n 3) 1 166 := ⟨by decide +kernel, rfl⟩
theorem d_M_isMix_166 : DC b_M_isMix 166 (.aload_n 0) 1 167 := ⟨by decide +kernel, rfl⟩
theorem d_M_isMix_167 : DC b_M_isMix 167 (.getfield 108) 3 170 := ⟨by decide +kernel, rfl⟩
theorem d_M_isMix_170 : DC b_M_isMix 170 (.iconst 4) 1 171 := ⟨by decide +kernel, rfl⟩
theorem d_M_isMix_171 : DC b_M_isMix 171 (.iload_n 2) 1 172 := ⟨by decide +kernel, rfl⟩
theorem d_M_isMix_172 : DC b_M_isMix 172 (.imul) 1 173 := ⟨by decide +kernel, rfl⟩
theorem d_M_isMix_173 : DC b_M_isMix 173 (.iload 5) 2 175 := ⟨by decide +kernel, rfl⟩
theorem d_M_isMix_175 : DC b_M_isMix 175 (.iadd) 1 176 := ⟨by decide +kernel, rfl⟩
theorem d_M_isMix_176 : DC b_M_isMix 176 (.iaload) 1 177 := ⟨by decide +kernel, rfl⟩
theorem d_M_isMix_177 : DC b_M_isMix 177 (.bipush 20) 2 179 := ⟨by decide +kernel, rfl⟩
theorem d_M_isMix_179 : DC b_M_isMix 179 (.iadd) 1 180 := ⟨by decide +kernel, rfl⟩
theorem d_M_isMix_180 : DC b_M_isMix 180 (.i2l) 1 181 := ⟨by decide +kernel, rfl⟩
theorem d_M_isMix_181 : DC b_M_isMix 181 (.aload_n 0) 1 182 := ⟨by decide +kernel, rfl⟩
theorem d_M_isMix_182 : DC b_M_isMix 182 (.getfield 120) 3 185 := ⟨by decide +kernel, rfl⟩
theorem d_M_isMix_185 : DC b_M_isMix 185 (.iload 5) 2 187 := ⟨by decide +kernel, rfl⟩
theorem d_M_isMix_187 : DC b_M_isMix 187 (.laload) 1 188 := ⟨by decide +kernel, rfl⟩
theorem d_M_isMix_188 : DC b_M_isMix 188 (.lmul) 1 189 := ⟨by decide +kernel, rfl⟩
theorem d_M_isMix_189 : DC b_M_isMix 189 (.ladd) 1 190 := ⟨by decide +kernel, rfl⟩
theorem d_M_isMix_190 : DC b_M_isMix 190 (.lstore_n 3) 1 191 := ⟨by decide +kernel, rfl⟩
theorem d_M_isMix_191 : DC b_M_isMix 191 (.iinc 5 1) 3 194 := ⟨by decide +kernel, rfl⟩
theorem d_M_isMix_194 : DB b_M_isMix 194 (.goto (-38)) (-38) 156 197 := ⟨by decide +kernel, by decide, rfl⟩
theorem d_M_isMix_197 : DC b_M_isMix 197 (.iload_n 1) 1 198 := ⟨by decide +kernel, rfl⟩
theorem d_M_isMix_198 : DB b_M_isMix 198 (.ifCond .eq 16) 16 214 201 := ⟨by decide +kernel, by decide, rfl⟩
theorem d_M_isMix_201 : DC b_M_isMix 201 (.lload_n 3) 1 202 := ⟨by decide +kernel, rfl⟩
theorem d_M_isMix_202 : DC b_M_isMix 202 (.aload_n 0) 1 203 := ⟨by decide +kernel, rfl⟩
theorem d_M_isMix_203 : DC b_M_isMix 203 (.getfield 332) 3 206 := ⟨by decide +kernel, rfl⟩
theorem d_M_isMix_206 : DC b_M_isMix 206 (.lcmp) 1 207 := ⟨by decide +kernel, rfl⟩
theorem d_M_isMix_207 : DB b_M_isMix 207 (.ifCond .gt 7) 7 214 210 := ⟨by decide +kernel, by decide, rfl⟩
theorem d_M_isMix_210 : DC b_M_isMix 210 (.iconst 1) 1 211 := ⟨by decide +kernel, rfl⟩
theorem d_M_isMix_211 : DB b_M_isMix 211 (.goto 4) 4 215 214 := ⟨by decide +kernel, by decide, rfl⟩
theorem d_M_isMix_214 : DC b_M_isMix 214 (.iconst 0) 1 215 := ⟨by decide +kernel, rfl⟩
theorem d_M_isMix_215 : DC b_M_isMix 215 (.istore_n 1) 1 216 := ⟨by decide +kernel, rfl⟩
theorem d_M_isMix_216 : DC b_M_isMix 216 (.iinc 2 1) 3 219 := ⟨by decide +kernel, rfl⟩
theorem d_M_isMix_219 : DB b_M_isMix 219 (.goto (-76)) (-76) 143 222 := ⟨by decide +kernel, by decide, rfl⟩
theorem d_M_isMix_222 : DC b_M_isMix 222 (.iload_n 1) 1 223 := ⟨by decide +kernel, rfl⟩
theorem d_M_isMix_223 : decode b_M_isMix 223 = .ok (.ireturn, 1) := by decide +kernel
theorem w_M_isMix_b53 {X : Ctx} {Y : Lay} (hY : IsM Y) (C : Cx X Y b_M_isMix 6 (some .boolean) "TopYardModel" 1) {N : Nat} {μ : Mem} {r : Int32} (k17 : Int32 → Int32 → Option (Int32)) (hk17 : ∀ (x1 : Int32) (x2 : Int32), k17 x1 x2 = some r → J X Y (some (.int r)) μ 6 17 [(0, .ref (yad Y 0)), (1, .int x1), (2, .int x2)] [] μ) (x2 : Int32) (xs0 : Int32) (hf : f_M_isMix_b53 N μ k17 x2 xs0 = some r) : J X Y (some (.int r)) μ 6 53 [(0, .ref (yad Y 0)), (2, .int x2)] [.int xs0] μ := by
  unfold f_M_isMix_b53 at hf
  refine j_istore_n (lvf := [(0, .ref (yad Y 0)), (2, .int x2)]) C d_M_isMix_53 (by decide) rfl ?_
  refine j_iinc (lvf := [(1, .int xs0), (0, .ref (yad Y 0))]) (v := 1) C d_M_isMix_54 2 rfl (by decide) (by decide) rfl hf (fun v1 hf => ?_)
  refine j_goto C d_M_isMix_57 ?_
  refine j_sub [2, 1, 0] rfl ?_
  exact hk17 xs0 v1 hf
theorem w_M_isMix_b52 {X : Ctx} {Y : Lay} (hY : IsM Y) (C : Cx X Y b_M_isMix 6 (some .boolean) "TopYardModel" 1) {N : Nat} {μ : Mem} {r : Int32} (k17 : Int32 → Int32 → Option (Int32)) (hk17 : ∀ (x1 : Int32) (x2 : Int32), k17 x1 x2 = some r → J X Y (some (.int r)) μ 6 17 [(0, .ref (yad Y 0)), (1, .int x1), (2, .int x2)] [] μ) (x2 : Int32) (hf : f_M_isMix_b52 N μ k17 x2 = some r) : J X Y (some (.int r)) μ 6 52 [(0, .ref (yad Y 0)), (2, .int x2)] [] μ := by
  unfold f_M_isMix_b52 at hf
  refine j_iconst (v := 0) C d_M_isMix_52 (by decide) ?_
  refine j_sub [0, 1] rfl ?_
  exact w_M_isMix_b53 hY C k17 hk17 x2 0 hf
theorem w_M_isMix_b134 {X : Ctx} {Y : Lay} (hY : IsM Y) (C : Cx X Y b_M_isMix 6 (some .boolean) "TopYardModel" 1) {N : Nat} {μ : Mem} {r : Int32} (k62 : Int32 → Int32 → Option (Int32)) (hk62 : ∀ (x1 : Int32) (x2 : Int32), k62 x1 x2 = some r → J X Y (some (.int r)) μ 6 62 [(0, .ref (yad Y 0)), (1, .int x1), (2, .int x2)] [] μ) (x2 : Int32) (xs0 : Int32) (hf : f_M_isMix_b134 N μ k62 x2 xs0 = some r) : J X Y (some (.int r)) μ 6 134 [(0, .ref (yad Y 0)), (2, .int x2)] [.int xs0] μ := by
  unfold f_M_isMix_b134 at hf
  refine j_istore_n (lvf := [(0, .ref (yad Y 0)), (2, .int x2)]) C d_M_isMix_134 (by decide) rfl ?_
  refine j_iinc (lvf := [(1, .int xs0), (0, .ref (yad Y 0))]) (v := 1) C d_M_isMix_135 2 rfl (by decide) (by decide) rfl hf (fun v1 hf => ?_)
  refine j_goto C d_M_isMix_138 ?_
  refine j_sub [2, 1, 0] rfl ?_
  exact hk62 xs0 v1 hf
theorem w_M_isMix_b133 {X : Ctx} {Y : Lay} (hY : IsM Y) (C : Cx X Y b_M_isMix 6 (some .boolean) "TopYardModel" 1) {N : Nat} {μ : Mem} {r : Int32} (k62 : Int32 → Int32 → Option (Int32)) (hk62 : ∀ (x1 : Int32) (x2 : Int32), k62 x1 x2 = some r → J X Y (some (.int r)) μ 6 62 [(0, .ref (yad Y 0)), (1, .int x1), (2, .int x2)] [] μ) (x2 : Int32) (hf : f_M_isMix_b133 N μ k62 x2 = some r) : J X Y (some (.int r)) μ 6 133 [(0, .ref (yad Y 0)), (2, .int x2)] [] μ := by
  unfold f_M_isMix_b133 at hf
  refine j_iconst (v := 0) C d_M_isMix_133 (by decide) ?_
  refine j_sub [0, 1] rfl ?_
  exact w_M_isMix_b134 hY C k62 hk62 x2 0 hf
theorem w_M_isMix_l75 {X : Ctx} {Y : Lay} (hY : IsM Y) (C : Cx X Y b_M_isMix 6 (some .boolean) "TopYardModel" 1) {N : Nat} {μ : Mem} {r : Int32} (k62 : Int32 → Int32 → Option (Int32)) (hk62 : ∀ (x1 : Int32) (x2 : Int32), k62 x1 x2 = some r → J X Y (some (.int r)) μ 6 62 [(0, .ref (yad Y 0)), (1, .int x1), (2, .int x2)] [] μ) : ∀ (n : Nat) (x1 : Int32) (x2 : Int32) (x3 : Int64) (x5 : Int32), f_M_isMix_l75 N μ k62 n x1 x2 x3 x5 = some r → J X Y (some (.int r)) μ 6 75 [(0, .ref (yad Y 0)), (1, .int x1), (2, .int x2), (3, .long x3), (5, .int x5)] [] μ := by
  intro n
  induction n with
  | zero => intro x1 x2 x3 x5 hf; rw [f_M_isMix_l75] at hf; cases hf
  | succ n ih =>
    intro x1 x2 x3 x5 hf
    rw [f_M_isMix_l75] at hf
    refine j_iload C d_M_isMix_75 4 rfl ?_
    refine j_aload_n C d_M_isMix_77 0 rfl ?_
    refine j_gI C fl_M_305 (kM hY rfl) (nM hY (by decide)) rfl d_M_isMix_78 ?_
    refine j_icmp_ge C d_M_isMix_81 hf (fun hf => ?_) (fun hf => ?_)
    · refine j_iload_n C d_M_isMix_116 1 rfl ?_
      refine j_if_eq C d_M_isMix_117 hf (fun hf => ?_) (fun hf => ?_)
      · refine j_sub [0, 2] rfl ?_
        exact w_M_isMix_b133 hY C k62 hk62 x2 hf
      · refine j_lload_n C d_M_isMix_120 3 rfl ?_
        refine j_aload_n C d_M_isMix_121 0 rfl ?_
        refine j_gL C fl_M_332 (kM hY rfl) (nM hY (by decide)) rfl d_M_isMix_122 ?_
        refine j_lcmp_lt C d_M_isMix_125 d_M_isMix_126 hf (fun hf => ?_) (fun hf => ?_)
        · refine j_sub [0, 2] rfl ?_
          exact w_M_isMix_b133 hY C k62 hk62 x2 hf
        · refine j_iconst (v := 1) C d_M_isMix_129 (by decide) ?_
          refine j_goto C d_M_isMix_130 ?_
          refine j_sub [0, 2] rfl ?_
          exact w_M_isMix_b134 hY C k62 hk62 x2 1 hf
    · refine j_lload_n C d_M_isMix_84 3 rfl ?_
      refine j_aload_n C d_M_isMix_85 0 rfl ?_
      refine j_gS (b := 31) C fl_M_108 (kM hY rfl) (nM hY (by decide)) rfl hY.2.2.2.1 rfl (sM hY rfl) d_M_isMix_86 ?_
      refine j_iconst (v := 4) C d_M_isMix_89 (by decide) ?_
      refine j_iload C d_M_isMix_90 4 rfl ?_
      refine j_imul C d_M_isMix_92 ?_
      refine j_iload_n C d_M_isMix_93 2 rfl ?_
      refine j_iadd C d_M_isMix_94 ?_
      refine ck hf (fun hi1 hf => ?_)
      refine j_iald C (kM hY rfl) (nM hY (by decide)) (lM hY rfl) hi1 d_M_isMix_95 ?_
      refine j_bipush (v := 20) C d_M_isMix_96 (by decide) ?_
      refine j_iadd C d_M_isMix_98 ?_
      refine j_i2l C d_M_isMix_99 ?_
      refine j_aload_n C d_M_isMix_100 0 rfl ?_
      refine j_gS (b := 34) C fl_M_117 (kM hY rfl) (nM hY (by decide)) rfl hY.2.2.2.1 rfl (sM hY rfl) d_M_isMix_101 ?_
      refine j_iload C d_M_isMix_104 4 rfl ?_
      refine ck hf (fun hi2 hf => ?_)
      refine j_lald C (kM hY rfl) (nM hY (by decide)) (lM hY rfl) hi2 d_M_isMix_106 ?_
      refine j_lmul C d_M_isMix_107 ?_
      refine j_ladd C d_M_isMix_108 ?_
      refine j_lstore_nN (lvf := [(0, .ref (yad Y 0)), (1, .int x1), (2, .int x2), (5, .int x5)]) C d_M_isMix_109 (by decide) rfl hf (fun v3 hf => ?_)
      refine j_iinc (lvf := [(3, .long v3), (0, .ref (yad Y 0)), (1, .int x1), (2, .int x2)]) (v := 1) C d_M_isMix_110 4 rfl (by decide) (by decide) rfl hf (fun v4 hf => ?_)
      refine j_goto C d_M_isMix_113 ?_
      refine j_sub [2, 3, 4, 1, 0] rfl ?_
      exact ih x1 x2 v3 v4 hf
theorem w_M_isMix_b215 {X : Ctx} {Y : Lay} (hY : IsM Y) (C : Cx X Y b_M_isMix 6 (some .boolean) "TopYardModel" 1) {N : Nat} {μ : Mem} {r : Int32} (k143 : Int32 → Int32 → Option (Int32)) (hk143 : ∀ (x1 : Int32) (x2 : Int32), k143 x1 x2 = some r → J X Y (some (.int r)) μ 6 143 [(0, .ref (yad Y 0)), (1, .int x1), (2, .int x2)] [] μ) (x2 : Int32) (xs0 : Int32) (hf : f_M_isMix_b215 N μ k143 x2 xs0 = some r) : J X Y (some (.int r)) μ 6 215 [(0, .ref (yad Y 0)), (2, .int x2)] [.int xs0] μ := by
  unfold f_M_isMix_b215 at hf
  refine j_istore_n (lvf := [(0, .ref (yad Y 0)), (2, .int x2)]) C d_M_isMix_215 (by decide) rfl ?_
  refine j_iinc (lvf := [(1, .int xs0), (0, .ref (yad Y 0))]) (v := 1) C d_M_isMix_216 2 rfl (by decide) (by decide) rfl hf (fun v1 hf => ?_)
  refine j_goto C d_M_isMix_219 ?_
  refine j_sub [2, 1, 0] rfl ?_
  exact hk143 xs0 v1 hf
theorem w_M_isMix_b214 {X : Ctx} {Y : Lay} (hY : IsM Y) (C : Cx X Y b_M_isMix 6 (some .boolean) "TopYardModel" 1) {N : Nat} {μ : Mem} {r : Int32} (k143 : Int32 → Int32 → Option (Int32)) (hk143 : ∀ (x1 : Int32) (x2 : Int32), k143 x1 x2 = some r → J X Y (some (.int r)) μ 6 143 [(0, .ref (yad Y 0)), (1, .int x1), (2, .int x2)] [] μ) (x2 : Int32) (hf : f_M_isMix_b214 N μ k143 x2 = some r) : J X Y (some (.int r)) μ 6 214 [(0, .ref (yad Y 0)), (2, .int x2)] [] μ := by
  unfold f_M_isMix_b214 at hf
  refine j_iconst (v := 0) C d_M_isMix_214 (by decide) ?_
  refine j_sub [0, 1] rfl ?_
  exact w_M_isMix_b215 hY C k143 hk143 x2 0 hf
theorem w_M_isMix_l156 {X : Ctx} {Y : Lay} (hY : IsM Y) (C : Cx X Y b_M_isMix 6 (some .boolean) "TopYardModel" 1) {N : Nat} {μ : Mem} {r : Int32} (k143 : Int32 → Int32 → Option (Int32)) (hk143 : ∀ (x1 : Int32) (x2 : Int32), k143 x1 x2 = some r → J X Y (some (.int r)) μ 6 143 [(0, .ref (yad Y 0)), (1, .int x1), (2, .int x2)] [] μ) : ∀ (n : Nat) (x1 : Int32) (x2 : Int32) (x3 : Int64) (x5 : Int32), f_M_isMix_l156 N μ k143 n x1 x2 x3 x5 = some r → J X Y (some (.int r)) μ 6 156 [(0, .ref (yad Y 0)), (1, .int x1), (2, .int x2), (3, .long x3), (5, .int x5)] [] μ := by
  intro n
  induction n with
  | zero => intro x1 x2 x3 x5 hf; rw [f_M_isMix_l156] at hf; cases hf
  | succ n ih =>
    intro x1 x2 x3 x5 hf
    rw [f_M_isMix_l156] at hf
    refine j_iload C d_M_isMix_156 4 rfl ?_
    refine j_aload_n C d_M_isMix_158 0 rfl ?_
    refine j_gI C fl_M_308 (kM hY rfl) (nM hY (by decide)) rfl d_M_isMix_159 ?_
    refine j_icmp_ge C d_M_isMix_162 hf (fun hf => ?_) (fun hf => ?_)
    · refine j_iload_n C d_M_isMix_197 1 rfl ?_
      refine j_if_eq C d_M_isMix_198 hf (fun hf => ?_) (fun hf => ?_)
      · refine j_sub [0, 2] rfl ?_
        exact w_M_isMix_b214 hY C k143 hk143 x2 hf
      · refine j_lload_n C d_M_isMix_201 3 rfl ?_
        refine j_aload_n C d_M_isMix_202 0 rfl ?_
        refine j_gL C fl_M_332 (kM hY rfl) (nM hY (by decide)) rfl d_M_isMix_203 ?_
        refine j_lcmp_gt C d_M_isMix_206 d_M_isMix_207 hf (fun hf => ?_) (fun hf => ?_)
        · refine j_sub [0, 2] rfl ?_
          exact w_M_isMix_b214 hY C k143 hk143 x2 hf
        · refine j_iconst (v := 1) C d_M_isMix_210 (by decide) ?_
          refine j_goto C d_M_isMix_211 ?_
          refine j_sub [0, 2] rfl ?_
          exact w_M_isMix_b215 hY C k143 hk143 x2 1 hf
    · refine j_lload_n C d_M_isMix_165 3 rfl ?_
      refine j_aload_n C d_M_isMix_166 0 rfl ?_
      refine j_gS (b := 31) C fl_M_108 (kM hY rfl) (nM hY (by decide)) rfl hY.2.2.2.1 rfl (sM hY rfl) d_M_isMix_167 ?_
      refine j_iconst (v := 4) C d_M_isMix_170 (by decide) ?_
      refine j_iload_n C d_M_isMix_171 2 rfl ?_
      refine j_imul C d_M_isMix_172 ?_
      refine j_iload C d_M_isMix_173 4 rfl ?_
      refine j_iadd C d_M_isMix_175 ?_
      refine ck hf (fun hi1 hf => ?_)
      refine j_iald C (kM hY rfl) (nM hY (by decide)) (lM hY rfl) hi1 d_M_isMix_176 ?_
      refine j_bipush (v := 20) C d_M_isMix_177 (by decide) ?_
      refine j_iadd C d_M_isMix_179 ?_
      refine j_i2l C d_M_isMix_180 ?_
      refine j_aload_n C d_M_isMix_181 0 rfl ?_
      refine j_gS (b := 35) C fl_M_120 (kM hY rfl) (nM hY (by decide)) rfl hY.2.2.2.1 rfl (sM hY rfl) d_M_isMix_182 ?_
      refine j_iload C d_M_isMix_185 4 rfl ?_
      refine ck hf (fun hi2 hf => ?_)
      refine j_lald C (kM hY rfl) (nM hY (by decide)) (lM hY rfl) hi2 d_M_isMix_187 ?_
      refine j_lmul C d_M_isMix_188 ?_
      refine j_ladd C d_M_isMix_189 ?_
      refine j_lstore_nN (lvf := [(0, .ref (yad Y 0)), (1, .int x1), (2, .int x2), (5, .int x5)]) C d_M_isMix_190 (by decide) rfl hf (fun v3 hf => ?_)
      refine j_iinc (lvf := [(3, .long v3), (0, .ref (yad Y 0)), (1, .int x1), (2, .int x2)]) (v := 1) C d_M_isMix_191 4 rfl (by decide) (by decide) rfl hf (fun v4 hf => ?_)
      refine j_goto C d_M_isMix_194 ?_
      refine j_sub [2, 3, 4, 1, 0] rfl ?_
      exact ih x1 x2 v3 v4 hf
theorem w_M_isMix_l143 {X : Ctx} {Y : Lay} (hY : IsM Y) (C : Cx X Y b_M_isMix 6 (some .boolean) "TopYardModel" 1) {N : Nat} {μ : Mem} {r : Int32} : ∀ (n : Nat) (x1 : Int32) (x2 : Int32), f_M_isMix_l143 N μ n x1 x2 = some r → J X Y (some (.int r)) μ 6 143 [(0, .ref (yad Y 0)), (1, .int x1), (2, .int x2)] [] μ := by
  intro n
  induction n with
  | zero => intro x1 x2 hf; rw [f_M_isMix_l143] at hf; cases hf
  | succ n ih =>
    intro x1 x2 hf
    rw [f_M_isMix_l143] at hf
    refine j_iload_n C d_M_isMix_143 2 rfl ?_
    refine j_aload_n C d_M_isMix_144 0 rfl ?_
    refine j_gI C fl_M_305 (kM hY rfl) (nM hY (by decide)) rfl d_M_isMix_145 ?_
    refine j_icmp_ge C d_M_isMix_148 hf (fun hf => ?_) (fun hf => ?_)
    · refine j_iload_n C d_M_isMix_222 1 rfl ?_
      refine ck hf (fun hb1 hf => ?_)
      obtain rfl := Option.some.inj hf
      exact j_zret C hb1 d_M_isMix_223
    · refine j_lconst (v := 0) C d_M_isMix_151 (by decide) ?_
      refine j_lstore_n (lvf := [(0, .ref (yad Y 0)), (1, .int x1), (2, .int x2)]) C d_M_isMix_152 (by decide) rfl ?_
      refine j_iconst (v := 0) C d_M_isMix_153 (by decide) ?_
      refine j_istore (lvf := [(3, .long 0), (0, .ref (yad Y 0)), (1, .int x1), (2, .int x2)]) C d_M_isMix_154 (by decide) rfl ?_
      refine j_sub [2, 3, 4, 1, 0] rfl ?_
      exact w_M_isMix_l156 hY C (f_M_isMix_l143 N μ n) ih N x1 x2 0 0 hf
theorem w_M_isMix_l62 {X : Ctx} {Y : Lay} (hY : IsM Y) (C : Cx X Y b_M_isMix 6 (some .boolean) "TopYardModel" 1) {N : Nat} {μ : Mem} {r : Int32} : ∀ (n : Nat) (x1 : Int32) (x2 : Int32), f_M_isMix_l62 N μ n x1 x2 = some r → J X Y (some (.int r)) μ 6 62 [(0, .ref (yad Y 0)), (1, .int x1), (2, .int x2)] [] μ := by
  intro n
  induction n with
  | zero => intro x1 x2 hf; rw [f_M_isMix_l62] at hf; cases hf
  | succ n ih =>
    intro x1 x2 hf
    rw [f_M_isMix_l62] at hf
    refine j_iload_n C d_M_isMix_62 2 rfl ?_
    refine j_aload_n C d_M_isMix_63 0 rfl ?_
    refine j_gI C fl_M_308 (kM hY rfl) (nM hY (by decide)) rfl d_M_isMix_64 ?_
    refine j_icmp_ge C d_M_isMix_67 hf (fun hf => ?_) (fun hf => ?_)
    · refine j_iconst (v := 0) C d_M_isMix_141 (by decide) ?_
      refine j_istore_n (lvf := [(0, .ref (yad Y 0)), (1, .int x1)]) C d_M_isMix_142 (by decide) rfl ?_
      refine j_sub [1, 2, 0] rfl ?_
      exact w_M_isMix_l143 hY C N x1 0 hf
    · refine j_lconst (v := 0) C d_M_isMix_70 (by decide) ?_
      refine j_lstore_n (lvf := [(0, .ref (yad Y 0)), (1, .int x1), (2, .int x2)]) C d_M_isMix_71 (by decide) rfl ?_
      refine j_iconst (v := 0) C d_M_isMix_72 (by decide) ?_
      refine j_istore (lvf := [(3, .long 0), (0, .ref (yad Y 0)), (1, .int x1), (2, .int x2)]) C d_M_isMix_73 (by decide) rfl ?_
      refine j_sub [2, 3, 4, 1, 0] rfl ?_
      exact w_M_isMix_l75 hY C (f_M_isMix_l62 N μ n) ih N x1 x2 0 0 hf
theorem w_M_isMix_l17 {X : Ctx} {Y : Lay} (hY : IsM Y) (C : Cx X Y b_M_isMix 6 (some .boolean) "TopYardModel" 1) {N : Nat} {μ : Mem} {r : Int32} : ∀ (n : Nat) (x1 : Int32) (x2 : Int32), f_M_isMix_l17 N μ n x1 x2 = some r → J X Y (some (.int r)) μ 6 17 [(0, .ref (yad Y 0)), (1, .int x1), (2, .int x2)] [] μ := by
  intro n
  induction n with
  | zero => intro x1 x2 hf; rw [f_M_isMix_l17] at hf; cases hf
  | succ n ih =>
    intro x1 x2 hf
    rw [f_M_isMix_l17] at hf
    refine j_iload_n C d_M_isMix_17 2 rfl ?_
    refine j_iconst (v := 4) C d_M_isMix_18 (by decide) ?_
    refine j_icmp_ge C d_M_isMix_19 hf (fun hf => ?_) (fun hf => ?_)
    · refine j_iconst (v := 0) C d_M_isMix_60 (by decide) ?_
      refine j_istore_n (lvf := [(0, .ref (yad Y 0)), (1, .int x1)]) C d_M_isMix_61 (by decide) rfl ?_
      refine j_sub [1, 2, 0] rfl ?_
      exact w_M_isMix_l62 hY C N x1 0 hf
    · refine j_iload_n C d_M_isMix_22 1 rfl ?_
      refine j_if_eq C d_M_isMix_23 hf (fun hf => ?_) (fun hf => ?_)
      · refine j_sub [0, 2] rfl ?_
        exact w_M_isMix_b52 hY C (f_M_isMix_l17 N μ n) ih x2 hf
      · refine j_aload_n C d_M_isMix_26 0 rfl ?_
        refine j_gS (b := 34) C fl_M_117 (kM hY rfl) (nM hY (by decide)) rfl hY.2.2.2.1 rfl (sM hY rfl) d_M_isMix_27 ?_
        refine j_iload_n C d_M_isMix_30 2 rfl ?_
        refine ck hf (fun hi1 hf => ?_)
        refine j_lald C (kM hY rfl) (nM hY (by decide)) (lM hY rfl) hi1 d_M_isMix_31 ?_
        refine j_lconst (v := 0) C d_M_isMix_32 (by decide) ?_
        refine j_lcmp_lt C d_M_isMix_33 d_M_isMix_34 hf (fun hf => ?_) (fun hf => ?_)
        · refine j_sub [0, 2] rfl ?_
          exact w_M_isMix_b52 hY C (f_M_isMix_l17 N μ n) ih x2 hf
        · refine j_aload_n C d_M_isMix_37 0 rfl ?_
          refine j_gS (b := 35) C fl_M_120 (kM hY rfl) (nM hY (by decide)) rfl hY.2.2.2.1 rfl (sM hY rfl) d_M_isMix_38 ?_
          refine j_iload_n C d_M_isMix_41 2 rfl ?_
          refine ck hf (fun hi2 hf => ?_)
          refine j_lald C (kM hY rfl) (nM hY (by decide)) (lM hY rfl) hi2 d_M_isMix_42 ?_
          refine j_lconst (v := 0) C d_M_isMix_43 (by decide) ?_
          refine j_lcmp_lt C d_M_isMix_44 d_M_isMix_45 hf (fun hf => ?_) (fun hf => ?_)
          · refine j_sub [0, 2] rfl ?_
            exact w_M_isMix_b52 hY C (f_M_isMix_l17 N μ n) ih x2 hf
          · refine j_iconst (v := 1) C d_M_isMix_48 (by decide) ?_
            refine j_goto C d_M_isMix_49 ?_
            refine j_sub [0, 2] rfl ?_
            exact w_M_isMix_b53 hY C (f_M_isMix_l17 N μ n) ih x2 1 hf
theorem w_M_isMix_b14 {X : Ctx} {Y : Lay} (hY : IsM Y) (C : Cx X Y b_M_isMix 6 (some .boolean) "TopYardModel" 1) {N : Nat} {μ : Mem} {r : Int32} (xs0 : Int32) (hf : f_M_isMix_b14 N μ xs0 = some r) : J X Y (some (.int r)) μ 6 14 [(0, .ref (yad Y 0))] [.int xs0] μ := by
  unfold f_M_isMix_b14 at hf
  refine j_istore_n (lvf := [(0, .ref (yad Y 0))]) C d_M_isMix_14 (by decide) rfl ?_
  refine j_iconst (v := 0) C d_M_isMix_15 (by decide) ?_
  refine j_istore_n (lvf := [(1, .int xs0), (0, .ref (yad Y 0))]) C d_M_isMix_16 (by decide) rfl ?_
  refine j_sub [2, 1, 0] rfl ?_
  exact w_M_isMix_l17 hY C N xs0 0 hf
theorem c_M_isMix {l : Launch} {Y : Lay} (hY : IsM Y) {N : Nat} {μ : Mem} {r : Int32} (hf : f_M_isMix N μ = some r) : Ct l Y y_M_isMix b_M_isMix 6 (some .boolean) 1 [.ref (yad Y 0)] (some (.int r)) μ μ := by
  refine ct_of (own := "TopYardModel") (lv := [(0, .ref (yad Y 0))]) (by decide +kernel) rfl (Nat.le_of_ble_eq_true rfl) rfl (fun X hl C => ?_)
  subst hl
  unfold f_M_isMix at hf
  refine j_aload_n C d_M_isMix_0 0 rfl ?_
  refine j_gL C fl_M_328 (kM hY rfl) (nM hY (by decide)) rfl d_M_isMix_1 ?_
  refine j_lconst (v := 0) C d_M_isMix_4 (by decide) ?_
  refine j_lcmp_le C d_M_isMix_5 d_M_isMix_6 hf (fun hf => ?_) (fun hf => ?_)
  · refine j_iconst (v := 0) C d_M_isMix_13 (by decide) ?_
    refine j_sub [0] rfl ?_
    exact w_M_isMix_b14 hY C 0 hf
  · refine j_iconst (v := 1) C d_M_isMix_9 (by decide) ?_
    refine j_goto C d_M_isMix_10 ?_
    refine j_sub [0] rfl ?_
    exact w_M_isMix_b14 hY C 1 hf
theorem d_M_findMix_0 : DC b_M_findMix 0 (.iconst 1) 1 1 := ⟨by decide +kernel, rfl⟩
theorem d_M_findMix_1 : DC b_M_findMix 1 (.istore_n 1) 1 2 := ⟨by decide +kernel, rfl⟩
theorem d_M_findMix_2 : DC b_M_findMix 2 (.iload_n 1) 1 3 := ⟨by decide +kernel, rfl⟩
theorem d_M_findMix_3 : DC b_M_findMix 3 (.iconst 5) 1 4 := ⟨by decide +kernel, rfl⟩
theorem d_M_findMix_4 : DB b_M_findMix 4 (.if_icmp .ge 76) 76 80 7 := ⟨by decide +kernel, by decide, rfl⟩
theorem d_M_findMix_7 : DC b_M_findMix 7 (.iconst 1) 1 8 := ⟨by decide +kernel, rfl⟩
theorem d_M_findMix_8 : DC b_M_findMix 8 (.istore_n 2) 1 9 := ⟨by decide +kernel, rfl⟩
theorem d_M_findMix_9 : DC b_M_findMix 9 (.iload_n 2) 1 10 := ⟨by decide +kernel, rfl⟩
theorem d_M_findMix_10 : DC b_M_findMix 10 (.iconst 1) 1 11 := ⟨by decide +kernel, rfl⟩
theorem d_M_findMix_11 : DC b_M_findMix 11 (.aload_n 0) 1 12 := ⟨by decide +kernel, rfl⟩
theorem d_M_findMix_12 : DC b_M_findMix 12 (.getfield 305) 3 15 := ⟨by decide +kernel, rfl⟩
theorem d_M_findMix_15 : DC b_M_findMix 15 (.ishl) 1 16 := ⟨by decide +kernel, rfl⟩
theorem d_M_findMix_16 : DB b_M_findMix 16 (.if_icmp .ge 58) 58 74 19 := ⟨by decide +kernel, by decide, rfl⟩
theorem d_M_findMix_19 : DC b_M_findMix 19 (.iconst 1) 1 20 := ⟨by decide +kernel, rfl⟩
theorem d_M_findMix_20 : DC b_M_findMix 20 (.istore_n 3) 1 21 := ⟨by decide +kernel, rfl⟩
theorem d_M_findMix_21 : DC b_M_findMix 21 (.iload_n 3) 1 22 := ⟨by decide +kernel, rfl⟩
theorem d_M_findMix_22 : DC b_M_findMix 22 (.iconst 1) 1 23 := ⟨by decide +kernel, rfl⟩
theorem d_M_findMix_23 : DC b_M_findMix 23 (.aload_n 0) 1 24 := ⟨by decide +kernel, rfl⟩
theorem d_M_findMix_24 : DC b_M_findMix 24 (.getfield 308) 3 27 := ⟨by decide +kernel, rfl⟩
theorem d_M_findMix_27 : DC b_M_findMix 27 (.ishl) 1 28 := ⟨by decide +kernel, rfl⟩
theorem d_M_findMix_28 : DB b_M_findMix 28 (.if_icmp .ge 40) 40 68 31 := ⟨by decide +kernel, by decide, rfl⟩
theorem d_M_findMix_31 : DC b_M_findMix 31 (.iload_n 2) 1 32 := ⟨by decide +kernel, rfl⟩
theorem d_M_findMix_32 : DC b_M_findMix 32 (.invokestatic 339) 3 35 := ⟨by decide +kernel, rfl⟩
theorem d_M_findMix_35 : DC b_M_findMix 35 (.iload_n 1) 1 36 := ⟨by decide +kernel, rfl⟩
theorem d_M_findMix_36 : DB b_M_findMix 36 (.if_icmp .ne 26) 26 62 39 := ⟨by decide +kernel, by decide, rfl⟩
theorem d_M_findMix_39 : DC b_M_findMix 39 (.iload_n 3) 1 40 := ⟨by decide +kernel, rfl⟩
theorem d_M_findMix_40 : DC b_M_findMix 40 (.invokestatic 339) 3 43 := ⟨by decide +kernel, rfl⟩
theorem d_M_findMix_43 : DC b_M_findMix 43 (.iload_n 1) 1 44 := ⟨by decide +kernel, rfl⟩
theorem d_M_findMix_44 : DB b_M_findMix 44 (.if_icmp .ne 18) 18 62 47 := ⟨by decide +kernel, by decide, rfl⟩
theorem d_M_findMix_47 : DC b_M_findMix 47 (.aload_n 0) 1 48 := ⟨by decide +kernel, rfl⟩
theorem d_M_findMix_48 : DC b_M_findMix 48 (.iload_n 2) 1 49 := ⟨by decide +kernel, rfl⟩
theorem d_M_findMix_49 : DC b_M_findMix 49 (.iload_n 3) 1 50 := ⟨by decide +kernel, rfl⟩
theorem d_M_findMix_50 : DC b_M_findMix 50 (.invokevirtual 342) 3 53 := ⟨by decide +kernel, rfl⟩
theorem d_M_findMix_53 : DC b_M_findMix 53 (.aload_n 0) 1 54 := ⟨by decide +kernel, rfl⟩
theorem d_M_findMix_54 : DC b_M_findMix 54 (.invokevirtual 345) 3 57 := ⟨by decide +kernel, rfl⟩
theorem d_M_findMix_57 : DB b_M_findMix 57 (.ifCond .eq 5) 5 62 60 := ⟨by decide +kernel, by decide, rfl⟩
theorem d_M_findMix_60 : DC b_M_findMix 60 (.iconst 1) 1 61 := ⟨by decide +kernel, rfl⟩
theorem d_M_findMix_61 : decode b_M_findMix 61 = .ok (.ireturn, 1) := by decide +kernel
theorem d_M_findMix_62 : DC b_M_findMix 62 (.iinc 3 1) 3 65 := ⟨by decide +kernel, rfl⟩
theorem d_M_findMix_65 : DB b_M_findMix 65 (.goto (-44)) (-44) 21 68 := ⟨by decide +kernel, by decide, rfl⟩
theorem d_M_findMix_68 : DC b_M_findMix 68 (.iinc 2 1) 3 71 := ⟨by decide +kernel, rfl⟩
theorem d_M_findMix_71 : DB b_M_findMix 71 (.goto (-62)) (-62) 9 74 := ⟨by decide +kernel, by decide, rfl⟩
theorem d_M_findMix_74 : DC b_M_findMix 74 (.iinc 1 1) 3 77 := ⟨by decide +kernel, rfl⟩
theorem d_M_findMix_77 : DB b_M_findMix 77 (.goto (-75)) (-75) 2 80 := ⟨by decide +kernel, by decide, rfl⟩
theorem d_M_findMix_80 : DC b_M_findMix 80 (.iconst 0) 1 81 := ⟨by decide +kernel, rfl⟩
theorem d_M_findMix_81 : decode b_M_findMix 81 = .ok (.ireturn, 1) := by decide +kernel
theorem w_M_findMix_b62 {X : Ctx} {Y : Lay} (hY : IsM Y) (C : Cx X Y b_M_findMix 4 (some .boolean) "TopYardModel" 5) {N : Nat} {r : Int32 × Mem} (k2 : Int32 → Mem → Option (Int32 × Mem)) (k9 : Int32 → Int32 → Mem → Option (Int32 × Mem)) (k21 : Int32 → Int32 → Int32 → Mem → Option (Int32 × Mem)) (hk2 : ∀ (x1 : Int32) (ν : Mem), k2 x1 ν = some r → J X Y (some (.int r.1)) r.2 4 2 [(0, .ref (yad Y 0)), (1, .int x1)] [] ν) (hk9 : ∀ (x1 : Int32) (x2 : Int32) (ν : Mem), k9 x1 x2 ν = some r → J X Y (some (.int r.1)) r.2 4 9 [(0, .ref (yad Y 0)), (1, .int x1), (2, .int x2)] [] ν) (hk21 : ∀ (x1 : Int32) (x2 : Int32) (x3 : Int32) (ν : Mem), k21 x1 x2 x3 ν = some r → J X Y (some (.int r.1)) r.2 4 21 [(0, .ref (yad Y 0)), (1, .int x1), (2, .int x2), (3, .int x3)] [] ν) (x1 : Int32) (x2 : Int32) (x3 : Int32) (μ : Mem) (hf : f_M_findMix_b62 N k2 k9 k21 x1 x2 x3 μ = some r) : J X Y (some (.int r.1)) r.2 4 62 [(0, .ref (yad Y 0)), (1, .int x1), (2, .int x2), (3, .int x3)] [] μ := by
  unfold f_M_findMix_b62 at hf
  refine j_iinc (lvf := [(0, .ref (yad Y 0)), (1, .int x1), (2, .int x2)]) (v := 1) C d_M_findMix_62 3 rfl (by decide) (by decide) rfl hf (fun v1 hf => ?_)
  refine j_goto C d_M_findMix_65 ?_
  refine j_sub [1, 2, 3, 0] rfl ?_
  exact hk21 x1 x2 v1 μ hf
theorem w_M_findMix_l21 {X : Ctx} {Y : Lay} (hY : IsM Y) (C : Cx X Y b_M_findMix 4 (some .boolean) "TopYardModel" 5) {N : Nat} {r : Int32 × Mem} (k2 : Int32 → Mem → Option (Int32 × Mem)) (k9 : Int32 → Int32 → Mem → Option (Int32 × Mem)) (hk2 : ∀ (x1 : Int32) (ν : Mem), k2 x1 ν = some r → J X Y (some (.int r.1)) r.2 4 2 [(0, .ref (yad Y 0)), (1, .int x1)] [] ν) (hk9 : ∀ (x1 : Int32) (x2 : Int32) (ν : Mem), k9 x1 x2 ν = some r → J X Y (some (.int r.1)) r.2 4 9 [(0, .ref (yad Y 0)), (1, .int x1), (2, .int x2)] [] ν) : ∀ (n : Nat) (x1 : Int32) (x2 : Int32) (x3 : Int32) (μ : Mem), f_M_findMix_l21 N k2 k9 n x1 x2 x3 μ = some r → J X Y (some (.int r.1)) r.2 4 21 [(0, .ref (yad Y 0)), (1, .int x1), (2, .int x2), (3, .int x3)] [] μ := by
  intro n
  induction n with
  | zero => intro x1 x2 x3 μ hf; rw [f_M_findMix_l21] at hf; cases hf
  | succ n ih =>
    intro x1 x2 x3 μ hf
    rw [f_M_findMix_l21] at hf
    refine j_iload_n C d_M_findMix_21 3 rfl ?_
    refine j_iconst (v := 1) C d_M_findMix_22 (by decide) ?_
    refine j_aload_n C d_M_findMix_23 0 rfl ?_
    refine j_gI C fl_M_308 (kM hY rfl) (nM hY (by decide)) rfl d_M_findMix_24 ?_
    refine j_ishl C d_M_findMix_27 ?_
    refine j_icmp_ge C d_M_findMix_28 hf (fun hf => ?_) (fun hf => ?_)
    · refine j_iinc (lvf := [(0, .ref (yad Y 0)), (1, .int x1), (3, .int x3)]) (v := 1) C d_M_findMix_68 2 rfl (by decide) (by decide) rfl hf (fun v1 hf => ?_)
      refine j_goto C d_M_findMix_71 ?_
      refine j_sub [1, 2, 0] rfl ?_
      exact hk9 x1 v1 μ hf
    · refine j_iload_n C d_M_findMix_31 2 rfl ?_
      refine bd hf (fun v2 hc9 hf => ?_)
      refine j_cS (rest := []) C lk_M_339 (c_M_ones hY hc9) rfl (by decide) rfl (Nat.le_of_ble_eq_true rfl) d_M_findMix_32 ?_
      refine j_iload_n C d_M_findMix_35 1 rfl ?_
      refine j_icmp_ne C d_M_findMix_36 hf (fun hf => ?_) (fun hf => ?_)
      · refine j_sub [0, 1, 2, 3] rfl ?_
        exact w_M_findMix_b62 hY C k2 k9 (f_M_findMix_l21 N k2 k9 n) hk2 hk9 ih x1 x2 x3 μ hf
      · refine j_iload_n C d_M_findMix_39 3 rfl ?_
        refine bd hf (fun v3 hc8 hf => ?_)
        refine j_cS (rest := []) C lk_M_339 (c_M_ones hY hc8) rfl (by decide) rfl (Nat.le_of_ble_eq_true rfl) d_M_findMix_40 ?_
        refine j_iload_n C d_M_findMix_43 1 rfl ?_
        refine j_icmp_ne C d_M_findMix_44 hf (fun hf => ?_) (fun hf => ?_)
        · refine j_sub [0, 1, 2, 3] rfl ?_
          exact w_M_findMix_b62 hY C k2 k9 (f_M_findMix_l21 N k2 k9 n) hk2 hk9 ih x1 x2 x3 μ hf
        · refine j_aload_n C d_M_findMix_47 0 rfl ?_
          refine j_iload_n C d_M_findMix_48 2 rfl ?_
          refine j_iload_n C d_M_findMix_49 3 rfl ?_
          refine bd hf (fun μ4 hc7 hf => ?_)
          refine j_cV (rest := []) C lk_M_342 (c_M_takesPart hY hc7) rfl (kM hY rfl) (nM hY (by decide)) (by decide) rfl rfl (by decide) rfl (Nat.le_of_ble_eq_true rfl) d_M_findMix_50 ?_
          refine j_aload_n C d_M_findMix_53 0 rfl ?_
          refine bd hf (fun v5 hc6 hf => ?_)
          refine j_cV (rest := []) C lk_M_345 (c_M_isMix hY hc6) rfl (kM hY rfl) (nM hY (by decide)) (by decide) rfl rfl (by decide) rfl (Nat.le_of_ble_eq_true rfl) d_M_findMix_54 ?_
          refine j_if_eq C d_M_findMix_57 hf (fun hf => ?_) (fun hf => ?_)
          · refine j_sub [0, 1, 2, 3] rfl ?_
            exact w_M_findMix_b62 hY C k2 k9 (f_M_findMix_l21 N k2 k9 n) hk2 hk9 ih x1 x2 x3 μ4 hf
          · refine j_iconst (v := 1) C d_M_findMix_60 (by decide) ?_
            obtain rfl := Option.some.inj hf
            exact j_zret C (Or.inr rfl) d_M_findMix_61
theorem w_M_findMix_l9 {X : Ctx} {Y : Lay} (hY : IsM Y) (C : Cx X Y b_M_findMix 4 (some .boolean) "TopYardModel" 5) {N : Nat} {r : Int32 × Mem} (k2 : Int32 → Mem → Option (Int32 × Mem)) (hk2 : ∀ (x1 : Int32) (ν : Mem), k2 x1 ν = some r → J X Y (some (.int r.1)) r.2 4 2 [(0, .ref (yad Y 0)), (1, .int x1)] [] ν) : ∀ (n : Nat) (x1 : Int32) (x2 : Int32) (μ : Mem), f_M_findMix_l9 N k2 n x1 x2 μ = some r → J X Y (some (.int r.1)) r.2 4 9 [(0, .ref (yad Y 0)), (1, .int x1), (2, .int x2)] [] μ := by
  intro n
  induction n with
  | zero => intro x1 x2 μ hf; rw [f_M_findMix_l9] at hf; cases hf
  | succ n ih =>
    intro x1 x2 μ hf
    rw [f_M_findMix_l9] at hf
    refine j_iload_n C d_M_findMix_9 2 rfl ?_
    refine j_iconst (v := 1) C d_M_findMix_10 (by decide) ?_
    refine j_aload_n C d_M_findMix_11 0 rfl ?_
    refine j_gI C fl_M_305 (kM hY rfl) (nM hY (by decide)) rfl d_M_findMix_12 ?_
    refine j_ishl C d_M_findMix_15 ?_
    refine j_icmp_ge C d_M_findMix_16 hf (fun hf => ?_) (fun hf => ?_)
    · refine j_iinc (lvf := [(0, .ref (yad Y 0)), (2, .int x2)]) (v := 1) C d_M_findMix_74 1 rfl (by decide) (by decide) rfl hf (fun v1 hf => ?_)
      refine j_goto C d_M_findMix_77 ?_
      refine j_sub [1, 0] rfl ?_
      exact hk2 v1 μ hf
    · refine j_iconst (v := 1) C d_M_findMix_19 (by decide) ?_
      refine j_istore_n (lvf := [(0, .ref (yad Y 0)), (1, .int x1), (2, .int x2)]) C d_M_findMix_20 (by decide) rfl ?_
      refine j_sub [1, 2, 3, 0] rfl ?_
      exact w_M_findMix_l21 hY C k2 (f_M_findMix_l9 N k2 n) hk2 ih N x1 x2 1 μ hf
theorem w_M_findMix_l2 {X : Ctx} {Y : Lay} (hY : IsM Y) (C : Cx X Y b_M_findMix 4 (some .boolean) "TopYardModel" 5) {N : Nat} {r : Int32 × Mem} : ∀ (n : Nat) (x1 : Int32) (μ : Mem), f_M_findMix_l2 N n x1 μ = some r → J X Y (some (.int r.1)) r.2 4 2 [(0, .ref (yad Y 0)), (1, .int x1)] [] μ := by
  intro n
  induction n with
  | zero => intro x1 μ hf; rw [f_M_findMix_l2] at hf; cases hf
  | succ n ih =>
    intro x1 μ hf
    rw [f_M_findMix_l2] at hf
    refine j_iload_n C d_M_findMix_2 1 rfl ?_
    refine j_iconst (v := 5) C d_M_findMix_3 (by decide) ?_
    refine j_icmp_ge C d_M_findMix_4 hf (fun hf => ?_) (fun hf => ?_)
    · refine j_iconst (v := 0) C d_M_findMix_80 (by decide) ?_
      obtain rfl := Option.some.inj hf
      exact j_zret C (Or.inl rfl) d_M_findMix_81
    · refine j_iconst (v := 1) C d_M_findMix_7 (by decide) ?_
      refine j_istore_n (lvf := [(0, .ref (yad Y 0)), (1, .int x1)]) C d_M_findMix_8 (by decide) rfl ?_
      refine j_sub [1, 2, 0] rfl ?_
      exact w_M_findMix_l9 hY C (f_M_findMix_l2 N n) ih N x1 1 μ hf
theorem c_M_findMix {l : Launch} {Y : Lay} (hY : IsM Y) {N : Nat} {μ : Mem} {r : Int32 × Mem} (hf : f_M_findMix N μ = some r) : Ct l Y y_M_findMix b_M_findMix 4 (some .boolean) 5 [.ref (yad Y 0)] (some (.int r.1)) μ r.2 := by
  refine ct_of (own := "TopYardModel") (lv := [(0, .ref (yad Y 0))]) (by decide +kernel) rfl (Nat.le_of_ble_eq_true rfl) rfl (fun X hl C => ?_)
  subst hl
  unfold f_M_findMix at hf
  refine j_iconst (v := 1) C d_M_findMix_0 (by decide) ?_
  refine j_istore_n (lvf := [(0, .ref (yad Y 0))]) C d_M_findMix_1 (by decide) rfl ?_
  refine j_sub [1, 0] rfl ?_
  exact w_M_findMix_l2 hY C N 1 μ hf
theorem d_M_value_0 : DC b_M_value 0 (.aload_n 0) 1 1 := ⟨by decide +kernel, rfl⟩
theorem d_M_value_1 : DC b_M_value 1 (.getfield 305) 3 4 := ⟨by decide +kernel, rfl⟩
theorem d_M_value_4 : DB b_M_value 4 (.ifCond .eq 17) 17 21 7 := ⟨by decide +kernel, by decide, rfl⟩
theorem d_M_value_7 : DC b_M_value 7 (.aload_n 0) 1 8 := ⟨by decide +kernel, rfl⟩
theorem d_M_value_8 : DC b_M_value 8 (.getfield 308) 3 11 := ⟨by decide +kernel, rfl⟩
theorem d_M_value_11 : DB b_M_value 11 (.ifCond .eq 10) 10 21 14 := ⟨by decide +kernel, by decide, rfl⟩
theorem d_M_value_14 : DC b_M_value 14 (.aload_n 0) 1 15 := ⟨by decide +kernel, rfl⟩
theorem d_M_value_15 : DC b_M_value 15 (.invokevirtual 349) 3 18 := ⟨by decide +kernel, rfl⟩
theorem d_M_value_18 : DB b_M_value 18 (.ifCond .ne 6) 6 24 21 := ⟨by decide +kernel, by decide, rfl⟩
theorem d_M_value_21 : DC b_M_value 21 (.ldc 218) 2 23 := ⟨by decide +kernel, rfl⟩
theorem d_M_value_23 : decode b_M_value 23 = .ok (.ireturn, 1) := by decide +kernel
theorem d_M_value_24 : DC b_M_value 24 (.ldc2_w 352) 3 27 := ⟨by decide +kernel, rfl⟩
theorem d_M_value_27 : DC b_M_value 27 (.aload_n 0) 1 28 := ⟨by decide +kernel, rfl⟩
theorem d_M_value_28 : DC b_M_value 28 (.getfield 332) 3 31 := ⟨by decide +kernel, rfl⟩
theorem d_M_value_31 : DC b_M_value 31 (.ldc2_w 203) 3 34 := ⟨by decide +kernel, rfl⟩
theorem d_M_value_34 : DC b_M_value 34 (.aload_n 0) 1 35 := ⟨by decide +kernel, rfl⟩
theorem d_M_value_35 : DC b_M_value 35 (.getfield 328) 3 38 := ⟨by decide +kernel, rfl⟩
theorem d_M_value_38 : DC b_M_value 38 (.lmul) 1 39 := ⟨by decide +kernel, rfl⟩
theorem d_M_value_39 : DC b_M_value 39 (.lsub) 1 40 := ⟨by decide +kernel, rfl⟩
theorem d_M_value_40 : DC b_M_value 40 (.lmul) 1 41 := ⟨by decide +kernel, rfl⟩
theorem d_M_value_41 : DC b_M_value 41 (.lstore_n 1) 1 42 := ⟨by decide +kernel, rfl⟩
theorem d_M_value_42 : DC b_M_value 42 (.lload_n 1) 1 43 := ⟨by decide +kernel, rfl⟩
theorem d_M_value_43 : DC b_M_value 43 (.aload_n 0) 1 44 := ⟨by decide +kernel, rfl⟩
theorem d_M_value_44 : DC b_M_value 44 (.getfield 328) 3 47 := ⟨by decide +kernel, rfl⟩
theorem d_M_value_47 : DC b_M_value 47 (.ldiv) 1 48 := ⟨by decide +kernel, rfl⟩
theorem d_M_value_48 : DC b_M_value 48 (.lstore_n 3) 1 49 := ⟨by decide +kernel, rfl⟩
theorem d_M_value_49 : DC b_M_value 49 (.lload_n 3) 1 50 := ⟨by decide +kernel, rfl⟩
theorem d_M_value_50 : DC b_M_value 50 (.aload_n 0) 1 51 := ⟨by decide +kernel, rfl⟩
theorem d_M_value_51 : DC b_M_value 51 (.getfield 328) 3 54 := ⟨by decide +kernel, rfl⟩
theorem d_M_value_54 : DC b_M_value 54 (.lmul) 1 55 := ⟨by decide +kernel, rfl⟩
theorem d_M_value_55 : DC b_M_value 55 (.lload_n 1) 1 56 := ⟨by decide +kernel, rfl⟩
theorem d_M_value_56 : DC b_M_value 56 (.lcmp) 1 57 := ⟨by decide +kernel, rfl⟩
theorem d_M_value_57 : DB b_M_value 57 (.ifCond .le 9) 9 66 60 := ⟨by decide +kernel, by decide, rfl⟩
theorem d_M_value_60 : DC b_M_value 60 (.lload_n 3) 1 61 := ⟨by decide +kernel, rfl⟩
theorem d_M_value_61 : DC b_M_value 61 (.lconst 1) 1 62 := ⟨by decide +kernel, rfl⟩
theorem d_M_value_62 : DC b_M_value 62 (.lsub) 1 63 := ⟨by decide +kernel, rfl⟩
theorem d_M_value_63 : DB b_M_value 63 (.goto 4) 4 67 66 := ⟨by decide +kernel, by decide, rfl⟩
theorem d_M_value_66 : DC b_M_value 66 (.lload_n 3) 1 67 := ⟨by decide +kernel, rfl⟩
theorem d_M_value_67 : DC b_M_value 67 (.l2i) 1 68 := ⟨by decide +kernel, rfl⟩
theorem d_M_value_68 : decode b_M_value 68 = .ok (.ireturn, 1) := by decide +kernel
theorem c_M_value {l : Launch} {Y : Lay} (hY : IsM Y) {N : Nat} {μ : Mem} {r : Int32 × Mem} (hf : f_M_value N μ = some r) : Ct l Y y_M_value b_M_value 5 (some .int) 6 [.ref (yad Y 0)] (some (.int r.1)) μ r.2 := by
  refine ct_of (own := "TopYardModel") (lv := [(0, .ref (yad Y 0))]) (by decide +kernel) rfl (Nat.le_of_ble_eq_true rfl) rfl (fun X hl C => ?_)
  subst hl
  unfold f_M_value at hf
  refine j_aload_n C d_M_value_0 0 rfl ?_
  refine j_gI C fl_M_305 (kM hY rfl) (nM hY (by decide)) rfl d_M_value_1 ?_
  refine j_if_eq C d_M_value_4 hf (fun hf => ?_) (fun hf => ?_)
  · refine j_ldc (v := (-2147483648)) C d_M_value_21 wd_171 ?_
    obtain rfl := Option.some.inj hf
    exact j_iret C d_M_value_23
  · refine j_aload_n C d_M_value_7 0 rfl ?_
    refine j_gI C fl_M_308 (kM hY rfl) (nM hY (by decide)) rfl d_M_value_8 ?_
    refine j_if_eq C d_M_value_11 hf (fun hf => ?_) (fun hf => ?_)
    · refine j_ldc (v := (-2147483648)) C d_M_value_21 wd_171 ?_
      obtain rfl := Option.some.inj hf
      exact j_iret C d_M_value_23
    · refine j_aload_n C d_M_value_14 0 rfl ?_
      refine bd2 hf (fun v1 μ2 hc6 hf => ?_)
      refine j_cV (rest := []) C lk_M_349 (c_M_findMix hY hc6) rfl (kM hY rfl) (nM hY (by decide)) (by decide) rfl rfl (by decide) rfl (Nat.le_of_ble_eq_true rfl) d_M_value_15 ?_
      refine j_if_ne C d_M_value_18 hf (fun hf => ?_) (fun hf => ?_)
      · refine j_ldc2 (v := 1000000) C d_M_value_24 wd_219 ?_
        refine j_aload_n C d_M_value_27 0 rfl ?_
        refine j_gL C fl_M_332 (kM hY rfl) (nM hY (by decide)) rfl d_M_value_28 ?_
        refine j_ldc2 (v := 20) C d_M_value_31 wd_164 ?_
        refine j_aload_n C d_M_value_34 0 rfl ?_
        refine j_gL C fl_M_328 (kM hY rfl) (nM hY (by decide)) rfl d_M_value_35 ?_
        refine j_lmul C d_M_value_38 ?_
        refine j_lsub C d_M_value_39 ?_
        refine j_lmul C d_M_value_40 ?_
        refine j_lstore_nN (lvf := [(0, .ref (yad Y 0))]) C d_M_value_41 (by decide) rfl hf (fun v3 hf => ?_)
        refine j_lload_n C d_M_value_42 0 rfl ?_
        refine j_aload_n C d_M_value_43 1 rfl ?_
        refine j_gL C fl_M_328 (kM hY rfl) (nM hY (by decide)) rfl d_M_value_44 ?_
        refine ckn hf (fun hz5 hf => ?_)
        refine j_ldiv C d_M_value_47 hz5 ?_
        refine j_lstore_nN (lvf := [(1, .long v3), (0, .ref (yad Y 0))]) C d_M_value_48 (by decide) rfl hf (fun v4 hf => ?_)
        refine j_lload_n C d_M_value_49 0 rfl ?_
        refine j_aload_n C d_M_value_50 2 rfl ?_
        refine j_gL C fl_M_328 (kM hY rfl) (nM hY (by decide)) rfl d_M_value_51 ?_
        refine j_lmul C d_M_value_54 ?_
        refine j_lload_n C d_M_value_55 1 rfl ?_
        refine j_lcmp_le C d_M_value_56 d_M_value_57 hf (fun hf => ?_) (fun hf => ?_)
        · refine j_lload_n C d_M_value_66 0 rfl ?_
          refine j_l2i C d_M_value_67 ?_
          obtain rfl := Option.some.inj hf
          exact j_iret C d_M_value_68
        · refine j_lload_n C d_M_value_60 0 rfl ?_
          refine j_lconst (v := 1) C d_M_value_61 (by decide) ?_
          refine j_lsub C d_M_value_62 ?_
          refine j_goto C d_M_value_63 ?_
          refine j_l2i C d_M_value_67 ?_
          obtain rfl := Option.some.inj hf
          exact j_iret C d_M_value_68
      · refine j_ldc (v := (-2147483648)) C d_M_value_21 wd_171 ?_
        obtain rfl := Option.some.inj hf
        exact j_iret C d_M_value_23
theorem d_M_mix_0 : DC b_M_mix 0 (.iload_n 1) 1 1 := ⟨by decide +kernel, rfl⟩
theorem d_M_mix_1 : DC b_M_mix 1 (.i2l) 1 2 := ⟨by decide +kernel, rfl⟩
theorem d_M_mix_2 : DC b_M_mix 2 (.lconst 0) 1 3 := ⟨by decide +kernel, rfl⟩
theorem d_M_mix_3 : DC b_M_mix 3 (.lconst 1) 1 4 := ⟨by decide +kernel, rfl⟩
theorem d_M_mix_4 : DC b_M_mix 4 (.invokestatic 164) 3 7 := ⟨by decide +kernel, rfl⟩
theorem d_M_mix_7 : DB b_M_mix 7 (.ifCond .eq 30) 30 37 10 := ⟨by decide +kernel, by decide, rfl⟩
theorem d_M_mix_10 : DC b_M_mix 10 (.iload_n 2) 1 11 := ⟨by decide +kernel, rfl⟩
theorem d_M_mix_11 : DC b_M_mix 11 (.i2l) 1 12 := ⟨by decide +kernel, rfl⟩
theorem d_M_mix_12 : DC b_M_mix 12 (.lconst 0) 1 13 := ⟨by decide +kernel, rfl⟩
theorem d_M_mix_13 : DC b_M_mix 13 (.iload_n 1) 1 14 := ⟨by decide +kernel, rfl⟩
theorem d_M_mix_14 : DB b_M_mix 14 (.ifCond .ne 10) 10 24 17 := ⟨by decide +kernel, by decide, rfl⟩
theorem d_M_mix_17 : DC b_M_mix 17 (.aload_n 0) 1 18 := ⟨by decide +kernel, rfl⟩
theorem d_M_mix_18 : DC b_M_mix 18 (.getfield 305) 3 21 := ⟨by decide +kernel, rfl⟩
theorem d_M_mix_21 : DB b_M_mix 21 (.goto 7) 7 28 24 := ⟨by decide +kernel, by decide, rfl⟩
theorem d_M_mix_24 : DC b_M_mix 24 (.aload_n 0) 1 25 := ⟨by decide +kernel, rfl⟩
theorem d_M_mix_25 : DC b_M_mix 25 (.getfield 308) 3 28 := ⟨by decide +kernel, rfl⟩
theorem d_M_mix_28 : DC b_M_mix 28 (.iconst 1) 1 29 := ⟨by decide +kernel, rfl⟩
theorem d_M_mix_29 : DC b_M_mix 29 (.isub) 1 30 := ⟨by decide +kernel, rfl⟩
theorem d_M_mix_30 : DC b_M_mix 30 (.i2l) 1 31 := ⟨by decide +kernel, rfl⟩
theorem d_M_mix_31 : DC b_M_mix 31 (.invokestatic 164) 3 34 := ⟨by decide +kernel, rfl⟩
theorem d_M_mix_34 : DB b_M_mix 34 (.ifCond .ne 6) 6 40 37 := ⟨by decide +kernel, by decide, rfl⟩
theorem d_M_mix_37 : DC b_M_mix 37 (.bipush (-2)) 2 39 := ⟨by decide +kernel, rfl⟩
theorem d_M_mix_39 : decode b_M_mix 39 = .ok (.ireturn, 1) := by decide +kernel
theorem d_M_mix_40 : DC b_M_mix 40 (.aload_n 0) 1 41 := ⟨by decide +kernel, rfl⟩
theorem d_M_mix_41 : DC b_M_mix 41 (.getfield 305) 3 44 := ⟨by decide +kernel, rfl⟩
theorem d_M_mix_44 : DB b_M_mix 44 (.ifCond .eq 17) 17 61 47 := ⟨by decide +kernel, by decide, rfl⟩
theorem d_M_mix_47 : DC b_M_mix 47 (.aload_n 0) 1 48 := ⟨by decide +kernel, rfl⟩
theorem d_M_mix_48 : DC b_M_mix 48 (.getfield 308) 3 51 := ⟨by decide +kernel, rfl⟩
theorem d_M_mix_51 : DB b_M_mix 51 (.ifCond .eq 10) 10 61 54 := ⟨by decide +kernel, by decide, rfl⟩
theorem d_M_mix_54 : DC b_M_mix 54 (.aload_n 0) 1 55 := ⟨by decide +kernel, rfl⟩
theorem d_M_mix_55 : DC b_M_mix 55 (.invokevirtual 349) 3 58 := ⟨by decide +kernel, rfl⟩
theorem d_M_mix_58 : DB b_M_mix 58 (.ifCond .ne 6) 6 64 61 := ⟨by decide +kernel, by decide, rfl⟩
theorem d_M_mix_61 : DC b_M_mix 61 (.bipush (-3)) 2 63 := ⟨by decide +kernel, rfl⟩
theorem d_M_mix_63 : decode b_M_mix 63 = .ok (.ireturn, 1) := by decide +kernel
theorem d_M_mix_64 : DC b_M_mix 64 (.ldc2_w 352) 3 67 := ⟨by decide +kernel, rfl⟩
theorem d_M_mix_67 : DC b_M_mix 67 (.iload_n 1) 1 68 := ⟨by decide +kernel, rfl⟩
theorem d_M_mix_68 : DB b_M_mix 68 (.ifCond .ne 12) 12 80 71 := ⟨by decide +kernel, by decide, rfl⟩
theorem d_M_mix_71 : DC b_M_mix 71 (.aload_n 0) 1 72 := ⟨by decide +kernel, rfl⟩
theorem d_M_mix_72 : DC b_M_mix 72 (.getfield 117) 3 75 := ⟨by decide +kernel, rfl⟩
theorem d_M_mix_75 : DC b_M_mix 75 (.iload_n 2) 1 76 := ⟨by decide +kernel, rfl⟩
theorem d_M_mix_76 : DC b_M_mix 76 (.laload) 1 77 := ⟨by decide +kernel, rfl⟩
theorem d_M_mix_77 : DB b_M_mix 77 (.goto 9) 9 86 80 := ⟨by decide +kernel, by decide, rfl⟩
theorem d_M_mix_80 : DC b_M_mix 80 (.aload_n 0) 1 81 := ⟨by decide +kernel, rfl⟩
theorem d_M_mix_81 : DC b_M_mix 81 (.getfield 120) 3 84 := ⟨by decide +kernel, rfl⟩
theorem d_M_mix_84 : DC b_M_mix 84 (.iload_n 2) 1 85 := ⟨by decide +kernel, rfl⟩
theorem d_M_mix_85 : DC b_M_mix 85 (.laload) 1 86 := ⟨by decide +kernel, rfl⟩
theorem d_M_mix_86 : DC b_M_mix 86 (.lmul) 1 87 := ⟨by decide +kernel, rfl⟩
theorem d_M_mix_87 : DC b_M_mix 87 (.aload_n 0) 1 88 := ⟨by decide +kernel, rfl⟩
theorem d_M_mix_88 : DC b_M_mix 88 (.getfield 328) 3 91 := ⟨by decide +kernel, rfl⟩
theorem d_M_mix_91 : DC b_M_mix 91 (.ldiv) 1 92 := ⟨by decide +kernel, rfl⟩
theorem d_M_mix_92 : DC b_M_mix 92 (.l2i) 1 93 := ⟨by decide +kernel, rfl⟩
theorem d_M_mix_93 : decode b_M_mix 93 = .ok (.ireturn, 1) := by decide +kernel
theorem w_M_mix_b86 {X : Ctx} {Y : Lay} (hY : IsM Y) (C : Cx X Y b_M_mix 3 (some .int) "TopYardModel" 6) {N : Nat} {r : Int32 × Mem} (xs0 : Int64) (xs1 : Int64) (μ : Mem) (hf : f_M_mix_b86 N xs0 xs1 μ = some r) : J X Y (some (.int r.1)) r.2 3 86 [(0, .ref (yad Y 0))] [.long xs0, .long xs1] μ := by
  unfold f_M_mix_b86 at hf
  refine j_lmul C d_M_mix_86 ?_
  refine j_aload_n C d_M_mix_87 0 rfl ?_
  refine j_gL C fl_M_328 (kM hY rfl) (nM hY (by decide)) rfl d_M_mix_88 ?_
  refine ckn hf (fun hz1 hf => ?_)
  refine j_ldiv C d_M_mix_91 hz1 ?_
  refine j_l2i C d_M_mix_92 ?_
  obtain rfl := Option.some.inj hf
  exact j_iret C d_M_mix_93
theorem w_M_mix_b28 {X : Ctx} {Y : Lay} (hY : IsM Y) (C : Cx X Y b_M_mix 3 (some .int) "TopYardModel" 6) {N : Nat} {r : Int32 × Mem} (x1 : Int32) (x2 : Int32) (xs0 : Int32) (xs1 : Int64) (xs2 : Int64) (μ : Mem) (hf : f_M_mix_b28 N x1 x2 xs0 xs1 xs2 μ = some r) : J X Y (some (.int r.1)) r.2 3 28 [(0, .ref (yad Y 0)), (1, .int x1), (2, .int x2)] [.int xs0, .long xs1, .long xs2] μ := by
  unfold f_M_mix_b28 at hf
  refine j_iconst (v := 1) C d_M_mix_28 (by decide) ?_
  refine j_isub C d_M_mix_29 ?_
  refine j_i2l C d_M_mix_30 ?_
  refine bd hf (fun v1 hc7 hf => ?_)
  refine j_cS (rest := []) C lk_M_164 (c_M_in hY hc7) rfl (by decide) rfl (Nat.le_of_ble_eq_true rfl) d_M_mix_31 ?_
  refine j_if_ne C d_M_mix_34 hf (fun hf => ?_) (fun hf => ?_)
  · refine j_aload_n C d_M_mix_40 0 rfl ?_
    refine j_gI C fl_M_305 (kM hY rfl) (nM hY (by decide)) rfl d_M_mix_41 ?_
    refine j_if_eq C d_M_mix_44 hf (fun hf => ?_) (fun hf => ?_)
    · refine j_bipush (v := (-3)) C d_M_mix_61 (by decide) ?_
      obtain rfl := Option.some.inj hf
      exact j_iret C d_M_mix_63
    · refine j_aload_n C d_M_mix_47 0 rfl ?_
      refine j_gI C fl_M_308 (kM hY rfl) (nM hY (by decide)) rfl d_M_mix_48 ?_
      refine j_if_eq C d_M_mix_51 hf (fun hf => ?_) (fun hf => ?_)
      · refine j_bipush (v := (-3)) C d_M_mix_61 (by decide) ?_
        obtain rfl := Option.some.inj hf
        exact j_iret C d_M_mix_63
      · refine j_aload_n C d_M_mix_54 0 rfl ?_
        refine bd2 hf (fun v2 μ3 hc6 hf => ?_)
        refine j_cV (rest := []) C lk_M_349 (c_M_findMix hY hc6) rfl (kM hY rfl) (nM hY (by decide)) (by decide) rfl rfl (by decide) rfl (Nat.le_of_ble_eq_true rfl) d_M_mix_55 ?_
        refine j_if_ne C d_M_mix_58 hf (fun hf => ?_) (fun hf => ?_)
        · refine j_ldc2 (v := 1000000) C d_M_mix_64 wd_219 ?_
          refine j_iload_n C d_M_mix_67 1 rfl ?_
          refine j_if_ne C d_M_mix_68 hf (fun hf => ?_) (fun hf => ?_)
          · refine j_aload_n C d_M_mix_80 0 rfl ?_
            refine j_gS (b := 35) C fl_M_120 (kM hY rfl) (nM hY (by decide)) rfl hY.2.2.2.1 rfl (sM hY rfl) d_M_mix_81 ?_
            refine j_iload_n C d_M_mix_84 2 rfl ?_
            refine ck hf (fun hi4 hf => ?_)
            refine j_lald C (kM hY rfl) (nM hY (by decide)) (lM hY rfl) hi4 d_M_mix_85 ?_
            refine j_sub [0] rfl ?_
            exact w_M_mix_b86 hY C (gL μ3 35 (ix x2)) 1000000 μ3 hf
          · refine j_aload_n C d_M_mix_71 0 rfl ?_
            refine j_gS (b := 34) C fl_M_117 (kM hY rfl) (nM hY (by decide)) rfl hY.2.2.2.1 rfl (sM hY rfl) d_M_mix_72 ?_
            refine j_iload_n C d_M_mix_75 2 rfl ?_
            refine ck hf (fun hi5 hf => ?_)
            refine j_lald C (kM hY rfl) (nM hY (by decide)) (lM hY rfl) hi5 d_M_mix_76 ?_
            refine j_goto C d_M_mix_77 ?_
            refine j_sub [0] rfl ?_
            exact w_M_mix_b86 hY C (gL μ3 34 (ix x2)) 1000000 μ3 hf
        · refine j_bipush (v := (-3)) C d_M_mix_61 (by decide) ?_
          obtain rfl := Option.some.inj hf
          exact j_iret C d_M_mix_63
  · refine j_bipush (v := (-2)) C d_M_mix_37 (by decide) ?_
    obtain rfl := Option.some.inj hf
    exact j_iret C d_M_mix_39
theorem c_M_mix {l : Launch} {Y : Lay} (hY : IsM Y) {N : Nat} {μ : Mem} {x1 : Int32} {x2 : Int32} {r : Int32 × Mem} (hf : f_M_mix N μ x1 x2 = some r) : Ct l Y y_M_mix b_M_mix 3 (some .int) 6 [.ref (yad Y 0), .int x1, .int x2] (some (.int r.1)) μ r.2 := by
  refine ct_of (own := "TopYardModel") (lv := [(0, .ref (yad Y 0)), (1, .int x1), (2, .int x2)]) (by decide +kernel) rfl (Nat.le_of_ble_eq_true rfl) rfl (fun X hl C => ?_)
  subst hl
  unfold f_M_mix at hf
  refine j_iload_n C d_M_mix_0 1 rfl ?_
  refine j_i2l C d_M_mix_1 ?_
  refine j_lconst (v := 0) C d_M_mix_2 (by decide) ?_
  refine j_lconst (v := 1) C d_M_mix_3 (by decide) ?_
  refine bd hf (fun v1 hc2 hf => ?_)
  refine j_cS (rest := []) C lk_M_164 (c_M_in hY hc2) rfl (by decide) rfl (Nat.le_of_ble_eq_true rfl) d_M_mix_4 ?_
  refine j_if_eq C d_M_mix_7 hf (fun hf => ?_) (fun hf => ?_)
  · refine j_bipush (v := (-2)) C d_M_mix_37 (by decide) ?_
    obtain rfl := Option.some.inj hf
    exact j_iret C d_M_mix_39
  · refine j_iload_n C d_M_mix_10 2 rfl ?_
    refine j_i2l C d_M_mix_11 ?_
    refine j_lconst (v := 0) C d_M_mix_12 (by decide) ?_
    refine j_iload_n C d_M_mix_13 1 rfl ?_
    refine j_if_ne C d_M_mix_14 hf (fun hf => ?_) (fun hf => ?_)
    · refine j_aload_n C d_M_mix_24 0 rfl ?_
      refine j_gI C fl_M_308 (kM hY rfl) (nM hY (by decide)) rfl d_M_mix_25 ?_
      refine j_sub [0, 1, 2] rfl ?_
      exact w_M_mix_b28 hY C x1 x2 (gI μ 0 38) 0 (x2.toInt64) μ hf
    · refine j_aload_n C d_M_mix_17 0 rfl ?_
      refine j_gI C fl_M_305 (kM hY rfl) (nM hY (by decide)) rfl d_M_mix_18 ?_
      refine j_goto C d_M_mix_21 ?_
      refine j_sub [0, 1, 2] rfl ?_
      exact w_M_mix_b28 hY C x1 x2 (gI μ 0 37) 0 (x2.toInt64) μ hf
theorem d_M_was_0 : DC b_M_was 0 (.aload_n 0) 1 1 := ⟨by decide +kernel, rfl⟩
theorem d_M_was_1 : DC b_M_was 1 (.iload_n 1) 1 2 := ⟨by decide +kernel, rfl⟩
theorem d_M_was_2 : DC b_M_was 2 (.invokevirtual 190) 3 5 := ⟨by decide +kernel, rfl⟩
theorem d_M_was_5 : DB b_M_was 5 (.ifCond .eq 30) 30 35 8 := ⟨by decide +kernel, by decide, rfl⟩
theorem d_M_was_8 : DC b_M_was 8 (.aload_n 0) 1 9 := ⟨by decide +kernel, rfl⟩
theorem d_M_was_9 : DC b_M_was 9 (.iload_n 2) 1 10 := ⟨by decide +kernel, rfl⟩
theorem d_M_was_10 : DC b_M_was 10 (.invokevirtual 190) 3 13 := ⟨by decide +kernel, rfl⟩
theorem d_M_was_13 : DB b_M_was 13 (.ifCond .eq 22) 22 35 16 := ⟨by decide +kernel, by decide, rfl⟩
theorem d_M_was_16 : DC b_M_was 16 (.iload_n 1) 1 17 := ⟨by decide +kernel, rfl⟩
theorem d_M_was_17 : DC b_M_was 17 (.iload_n 2) 1 18 := ⟨by decide +kernel, rfl⟩
theorem d_M_was_18 : DB b_M_was 18 (.if_icmp .eq 17) 17 35 21 := ⟨by decide +kernel, by decide, rfl⟩
theorem d_M_was_21 : DC b_M_was 21 (.iload_n 3) 1 22 := ⟨by decide +kernel, rfl⟩
theorem d_M_was_22 : DC b_M_was 22 (.i2l) 1 23 := ⟨by decide +kernel, rfl⟩
theorem d_M_was_23 : DC b_M_was 23 (.ldc2_w 354) 3 26 := ⟨by decide +kernel, rfl⟩
theorem d_M_was_26 : DC b_M_was 26 (.ldc2_w 216) 3 29 := ⟨by decide +kernel, rfl⟩
theorem d_M_was_29 : DC b_M_was 29 (.invokestatic 164) 3 32 := ⟨by decide +kernel, rfl⟩
theorem d_M_was_32 : DB b_M_was 32 (.ifCond .ne 6) 6 38 35 := ⟨by decide +kernel, by decide, rfl⟩
theorem d_M_was_35 : DC b_M_was 35 (.bipush (-2)) 2 37 := ⟨by decide +kernel, rfl⟩
theorem d_M_was_37 : decode b_M_was 37 = .ok (.ireturn, 1) := by decide +kernel
theorem d_M_was_38 : DC b_M_was 38 (.aload_n 0) 1 39 := ⟨by decide +kernel, rfl⟩
theorem d_M_was_39 : DC b_M_was 39 (.getfield 356) 3 42 := ⟨by decide +kernel, rfl⟩
theorem d_M_was_42 : DC b_M_was 42 (.bipush 40) 2 44 := ⟨by decide +kernel, rfl⟩
theorem d_M_was_44 : DB b_M_was 44 (.if_icmp .ne 6) 6 50 47 := ⟨by decide +kernel, by decide, rfl⟩
theorem d_M_was_47 : DC b_M_was 47 (.bipush (-4)) 2 49 := ⟨by decide +kernel, rfl⟩
theorem d_M_was_49 : decode b_M_was 49 = .ok (.ireturn, 1) := by decide +kernel
theorem d_M_was_50 : DC b_M_was 50 (.aload_n 0) 1 51 := ⟨by decide +kernel, rfl⟩
theorem d_M_was_51 : DC b_M_was 51 (.getfield 123) 3 54 := ⟨by decide +kernel, rfl⟩
theorem d_M_was_54 : DC b_M_was 54 (.aload_n 0) 1 55 := ⟨by decide +kernel, rfl⟩
theorem d_M_was_55 : DC b_M_was 55 (.getfield 356) 3 58 := ⟨by decide +kernel, rfl⟩
theorem d_M_was_58 : DC b_M_was 58 (.iload_n 1) 1 59 := ⟨by decide +kernel, rfl⟩
theorem d_M_was_59 : DC b_M_was 59 (.iastore) 1 60 := ⟨by decide +kernel, rfl⟩
theorem d_M_was_60 : DC b_M_was 60 (.aload_n 0) 1 61 := ⟨by decide +kernel, rfl⟩
theorem d_M_was_61 : DC b_M_was 61 (.getfield 126) 3 64 := ⟨by decide +kernel, rfl⟩
theorem d_M_was_64 : DC b_M_was 64 (.aload_n 0) 1 65 := ⟨by decide +kernel, rfl⟩
theorem d_M_was_65 : DC b_M_was 65 (.getfield 356) 3 68 := ⟨by decide +kernel, rfl⟩
theorem d_M_was_68 : DC b_M_was 68 (.iload_n 2) 1 69 := ⟨by decide +kernel, rfl⟩
theorem d_M_was_69 : DC b_M_was 69 (.iastore) 1 70 := ⟨by decide +kernel, rfl⟩
theorem d_M_was_70 : DC b_M_was 70 (.aload_n 0) 1 71 := ⟨by decide +kernel, rfl⟩
theorem d_M_was_71 : DC b_M_was 71 (.getfield 129) 3 74 := ⟨by decide +kernel, rfl⟩
theorem d_M_was_74 : DC b_M_was 74 (.aload_n 0) 1 75 := ⟨by decide +kernel, rfl⟩
theorem d_M_was_75 : DC b_M_was 75 (.getfield 356) 3 78 := ⟨by decide +kernel, rfl⟩
theorem d_M_was_78 : DC b_M_was 78 (.iload_n 3) 1 79 := ⟨by decide +kernel, rfl⟩
theorem d_M_was_79 : DC b_M_was 79 (.iastore) 1 80 := ⟨by decide +kernel, rfl⟩
theorem d_M_was_80 : DC b_M_was 80 (.aload_n 0) 1 81 := ⟨by decide +kernel, rfl⟩
theorem d_M_was_81 : DC b_M_was 81 (.dup) 1 82 := ⟨by decide +kernel, rfl⟩
theorem d_M_was_82 : DC b_M_was 82 (.getfield 356) 3 85 := ⟨by decide +kernel, rfl⟩
theorem d_M_was_85 : DC b_M_was 85 (.iconst 1) 1 86 := ⟨by decide +kernel, rfl⟩
theorem d_M_was_86 : DC b_M_was 86 (.iadd) 1 87 := ⟨by decide +kernel, rfl⟩
theorem d_M_was_87 : DC b_M_was 87 (.putfield 356) 3 90 := ⟨by decide +kernel, rfl⟩
theorem d_M_was_90 : DC b_M_was 90 (.aload_n 0) 1 91 := ⟨by decide +kernel, rfl⟩
theorem d_M_was_91 : DC b_M_was 91 (.getfield 356) 3 94 := ⟨by decide +kernel, rfl⟩
theorem d_M_was_94 : decode b_M_was 94 = .ok (.ireturn, 1) := by decide +kernel
theorem c_M_was {l : Launch} {Y : Lay} (hY : IsM Y) {μ : Mem} {x1 : Int32} {x2 : Int32} {x3 : Int32} {r : Int32 × Mem} (hf : f_M_was μ x1 x2 x3 = some r) : Ct l Y y_M_was b_M_was 4 (some .int) 3 [.ref (yad Y 0), .int x1, .int x2, .int x3] (some (.int r.1)) μ r.2 := by
  refine ct_of (own := "TopYardModel") (lv := [(0, .ref (yad Y 0)), (1, .int x1), (2, .int x2), (3, .int x3)]) (by decide +kernel) rfl (Nat.le_of_ble_eq_true rfl) rfl (fun X hl C => ?_)
  subst hl
  unfold f_M_was at hf
  refine j_aload_n C d_M_was_0 0 rfl ?_
  refine j_iload_n C d_M_was_1 1 rfl ?_
  refine bd hf (fun v1 hc13 hf => ?_)
  refine j_cV (rest := []) C lk_M_190 (c_M_isTop hY hc13) rfl (kM hY rfl) (nM hY (by decide)) (by decide) rfl rfl (by decide) rfl (Nat.le_of_ble_eq_true rfl) d_M_was_2 ?_
  refine j_if_eq C d_M_was_5 hf (fun hf => ?_) (fun hf => ?_)
  · refine j_bipush (v := (-2)) C d_M_was_35 (by decide) ?_
    obtain rfl := Option.some.inj hf
    exact j_iret C d_M_was_37
  · refine j_aload_n C d_M_was_8 0 rfl ?_
    refine j_iload_n C d_M_was_9 2 rfl ?_
    refine bd hf (fun v2 hc12 hf => ?_)
    refine j_cV (rest := []) C lk_M_190 (c_M_isTop hY hc12) rfl (kM hY rfl) (nM hY (by decide)) (by decide) rfl rfl (by decide) rfl (Nat.le_of_ble_eq_true rfl) d_M_was_10 ?_
    refine j_if_eq C d_M_was_13 hf (fun hf => ?_) (fun hf => ?_)
    · refine j_bipush (v := (-2)) C d_M_was_35 (by decide) ?_
      obtain rfl := Option.some.inj hf
      exact j_iret C d_M_was_37
    · refine j_iload_n C d_M_was_16 1 rfl ?_
      refine j_iload_n C d_M_was_17 2 rfl ?_
      refine j_icmp_eq C d_M_was_18 hf (fun hf => ?_) (fun hf => ?_)
      · refine j_bipush (v := (-2)) C d_M_was_35 (by decide) ?_
        obtain rfl := Option.some.inj hf
        exact j_iret C d_M_was_37
      · refine j_iload_n C d_M_was_21 3 rfl ?_
        refine j_i2l C d_M_was_22 ?_
        refine j_ldc2 (v := (-1)) C d_M_was_23 wd_220 ?_
        refine j_ldc2 (v := 2) C d_M_was_26 wd_172 ?_
        refine bd hf (fun v3 hc11 hf => ?_)
        refine j_cS (rest := []) C lk_M_164 (c_M_in hY hc11) rfl (by decide) rfl (Nat.le_of_ble_eq_true rfl) d_M_was_29 ?_
        refine j_if_ne C d_M_was_32 hf (fun hf => ?_) (fun hf => ?_)
        · refine j_aload_n C d_M_was_38 0 rfl ?_
          refine j_gI C fl_M_356 (kM hY rfl) (nM hY (by decide)) rfl d_M_was_39 ?_
          refine j_bipush (v := 40) C d_M_was_42 (by decide) ?_
          refine j_icmp_ne C d_M_was_44 hf (fun hf => ?_) (fun hf => ?_)
          · refine j_aload_n C d_M_was_50 0 rfl ?_
            refine j_gS (b := 36) C fl_M_123 (kM hY rfl) (nM hY (by decide)) rfl hY.2.2.2.1 rfl (sM hY rfl) d_M_was_51 ?_
            refine j_aload_n C d_M_was_54 0 rfl ?_
            refine j_gI C fl_M_356 (kM hY rfl) (nM hY (by decide)) rfl d_M_was_55 ?_
            refine j_iload_n C d_M_was_58 1 rfl ?_
            refine ck hf (fun hi4 hf => ?_)
            refine j_iast C (kM hY rfl) (nM hY (by decide)) (lM hY rfl) hi4 d_M_was_59 hf (fun μ5 hf => ?_)
            refine j_aload_n C d_M_was_60 0 rfl ?_
            refine j_gS (b := 37) C fl_M_126 (kM hY rfl) (nM hY (by decide)) rfl hY.2.2.2.1 rfl (sM hY rfl) d_M_was_61 ?_
            refine j_aload_n C d_M_was_64 0 rfl ?_
            refine j_gI C fl_M_356 (kM hY rfl) (nM hY (by decide)) rfl d_M_was_65 ?_
            refine j_iload_n C d_M_was_68 2 rfl ?_
            refine ck hf (fun hi6 hf => ?_)
            refine j_iast C (kM hY rfl) (nM hY (by decide)) (lM hY rfl) hi6 d_M_was_69 hf (fun μ7 hf => ?_)
            refine j_aload_n C d_M_was_70 0 rfl ?_
            refine j_gS (b := 38) C fl_M_129 (kM hY rfl) (nM hY (by decide)) rfl hY.2.2.2.1 rfl (sM hY rfl) d_M_was_71 ?_
            refine j_aload_n C d_M_was_74 0 rfl ?_
            refine j_gI C fl_M_356 (kM hY rfl) (nM hY (by decide)) rfl d_M_was_75 ?_
            refine j_iload_n C d_M_was_78 3 rfl ?_
            refine ck hf (fun hi8 hf => ?_)
            refine j_iast C (kM hY rfl) (nM hY (by decide)) (lM hY rfl) hi8 d_M_was_79 hf (fun μ9 hf => ?_)
            refine j_aload_n C d_M_was_80 0 rfl ?_
            refine j_dup C d_M_was_81 rfl ?_
            refine j_gI C fl_M_356 (kM hY rfl) (nM hY (by decide)) rfl d_M_was_82 ?_
            refine j_iconst (v := 1) C d_M_was_85 (by decide) ?_
            refine j_iadd C d_M_was_86 ?_
            refine j_pI C fl_M_356 (kM hY rfl) (nM hY (by decide)) rfl rfl rfl d_M_was_87 hf (fun μ10 hf => ?_)
            refine j_aload_n C d_M_was_90 0 rfl ?_
            refine j_gI C fl_M_356 (kM hY rfl) (nM hY (by decide)) rfl d_M_was_91 ?_
            obtain rfl := Option.some.inj hf
            exact j_iret C d_M_was_94
          · refine j_bipush (v := (-4)) C d_M_was_47 (by decide) ?_
            obtain rfl := Option.some.inj hf
            exact j_iret C d_M_was_49
        · refine j_bipush (v := (-2)) C d_M_was_35 (by decide) ?_
          obtain rfl := Option.some.inj hf
          exact j_iret C d_M_was_37
theorem d_M_forget_0 : DC b_M_forget 0 (.aload_n 0) 1 1 := ⟨by decide +kernel, rfl⟩
theorem d_M_forget_1 : DC b_M_forget 1 (.getfield 356) 3 4 := ⟨by decide +kernel, rfl⟩
theorem d_M_forget_4 : DC b_M_forget 4 (.istore_n 1) 1 5 := ⟨by decide +kernel, rfl⟩
theorem d_M_forget_5 : DC b_M_forget 5 (.aload_n 0) 1 6 := ⟨by decide +kernel, rfl⟩
theorem d_M_forget_6 : DC b_M_forget 6 (.iconst 0) 1 7 := ⟨by decide +kernel, rfl⟩
theorem d_M_forget_7 : DC b_M_forget 7 (.putfield 356) 3 10 := ⟨by decide +kernel, rfl⟩
theorem d_M_forget_10 : DC b_M_forget 10 (.iload_n 1) 1 11 := ⟨by decide +kernel, rfl⟩
theorem d_M_forget_11 : decode b_M_forget 11 = .ok (.ireturn, 1) := by decide +kernel
theorem c_M_forget {l : Launch} {Y : Lay} (hY : IsM Y) {μ : Mem} {r : Int32 × Mem} (hf : f_M_forget μ = some r) : Ct l Y y_M_forget b_M_forget 2 (some .int) 1 [.ref (yad Y 0)] (some (.int r.1)) μ r.2 := by
  refine ct_of (own := "TopYardModel") (lv := [(0, .ref (yad Y 0))]) (by decide +kernel) rfl (Nat.le_of_ble_eq_true rfl) rfl (fun X hl C => ?_)
  subst hl
  unfold f_M_forget at hf
  refine j_aload_n C d_M_forget_0 0 rfl ?_
  refine j_gI C fl_M_356 (kM hY rfl) (nM hY (by decide)) rfl d_M_forget_1 ?_
  refine j_istore_nN (lvf := [(0, .ref (yad Y 0))]) C d_M_forget_4 (by decide) rfl hf (fun v1 hf => ?_)
  refine j_aload_n C d_M_forget_5 1 rfl ?_
  refine j_iconst (v := 0) C d_M_forget_6 (by decide) ?_
  refine j_pI C fl_M_356 (kM hY rfl) (nM hY (by decide)) rfl rfl rfl d_M_forget_7 hf (fun μ2 hf => ?_)
  refine j_iload_n C d_M_forget_10 0 rfl ?_
  obtain rfl := Option.some.inj hf
  exact j_iret C d_M_forget_11
theorem d_M_isSheet_0 : DC b_M_isSheet 0 (.iload_n 0) 1 1 := ⟨by decide +kernel, rfl⟩
theorem d_M_isSheet_1 : DC b_M_isSheet 1 (.i2l) 1 2 := ⟨by decide +kernel, rfl⟩
theorem d_M_isSheet_2 : DC b_M_isSheet 2 (.lconst 0) 1 3 := ⟨by decide +kernel, rfl⟩
theorem d_M_isSheet_3 : DC b_M_isSheet 3 (.ldc2_w 237) 3 6 := ⟨by decide +kernel, rfl⟩
theorem d_M_isSheet_6 : DC b_M_isSheet 6 (.invokestatic 164) 3 9 := ⟨by decide +kernel, rfl⟩
theorem d_M_isSheet_9 : decode b_M_isSheet 9 = .ok (.ireturn, 1) := by decide +kernel
theorem c_M_isSheet {l : Launch} {Y : Lay} (hY : IsM Y) {μ : Mem} {x0 : Int32} {r : Int32} (hf : f_M_isSheet x0 = some r) : Ct l Y y_M_isSheet b_M_isSheet 1 (some .boolean) 2 [.int x0] (some (.int r)) μ μ := by
  refine ct_of (own := "TopYardModel") (lv := [(0, .int x0)]) (by decide +kernel) rfl (Nat.le_of_ble_eq_true rfl) rfl (fun X hl C => ?_)
  subst hl
  unfold f_M_isSheet at hf
  refine j_iload_n C d_M_isSheet_0 0 rfl ?_
  refine j_i2l C d_M_isSheet_1 ?_
  refine j_lconst (v := 0) C d_M_isSheet_2 (by decide) ?_
  refine j_ldc2 (v := 3) C d_M_isSheet_3 wd_184 ?_
  refine bd hf (fun v1 hc3 hf => ?_)
  refine j_cS (rest := []) C lk_M_164 (c_M_in hY hc3) rfl (by decide) rfl (Nat.le_of_ble_eq_true rfl) d_M_isSheet_6 ?_
  refine ck hf (fun hb2 hf => ?_)
  obtain rfl := Option.some.inj hf
  exact j_zret C hb2 d_M_isSheet_9
theorem d_M_met2_0 : DC b_M_met2 0 (.aload_n 0) 1 1 := ⟨by decide +kernel, rfl⟩
theorem d_M_met2_1 : DC b_M_met2 1 (.iload_n 1) 1 2 := ⟨by decide +kernel, rfl⟩
theorem d_M_met2_2 : DC b_M_met2 2 (.putfield 426) 3 5 := ⟨by decide +kernel, rfl⟩
theorem d_M_met2_5 : DC b_M_met2 5 (.bipush (-10)) 2 7 := ⟨by decide +kernel, rfl⟩
theorem d_M_met2_7 : DC b_M_met2 7 (.iload_n 1) 1 8 := ⟨by decide +kernel, rfl⟩
theorem d_M_met2_8 : DC b_M_met2 8 (.isub) 1 9 := ⟨by decide +kernel, rfl⟩
theorem d_M_met2_9 : decode b_M_met2 9 = .ok (.ireturn, 1) := by decide +kernel
theorem c_M_met2 {l : Launch} {Y : Lay} (hY : IsM Y) {μ : Mem} {x1 : Int32} {r : Int32 × Mem} (hf : f_M_met2 μ x1 = some r) : Ct l Y y_M_met2 b_M_met2 2 (some .int) 1 [.ref (yad Y 0), .int x1] (some (.int r.1)) μ r.2 := by
  refine ct_of (own := "TopYardModel") (lv := [(0, .ref (yad Y 0)), (1, .int x1)]) (by decide +kernel) rfl (Nat.le_of_ble_eq_true rfl) rfl (fun X hl C => ?_)
  subst hl
  unfold f_M_met2 at hf
  refine j_aload_n C d_M_met2_0 0 rfl ?_
  refine j_iload_n C d_M_met2_1 1 rfl ?_
  refine j_pI C fl_M_426 (kM hY rfl) (nM hY (by decide)) rfl rfl rfl d_M_met2_2 hf (fun μ1 hf => ?_)
  refine j_bipush (v := (-10)) C d_M_met2_5 (by decide) ?_
  refine j_iload_n C d_M_met2_7 1 rfl ?_
  refine j_isub C d_M_met2_8 ?_
  obtain rfl := Option.some.inj hf
  exact j_iret C d_M_met2_9
theorem d_M_read_0 : DC b_M_read 0 (.iload_n 1) 1 1 := ⟨by decide +kernel, rfl⟩
theorem d_M_read_1 : DC b_M_read 1 (.invokestatic 359) 3 4 := ⟨by decide +kernel, rfl⟩
theorem d_M_read_4 : DB b_M_read 4 (.ifCond .ne 6) 6 10 7 := ⟨by decide +kernel, by decide, rfl⟩
theorem d_M_read_7 : DC b_M_read 7 (.bipush (-2)) 2 9 := ⟨by decide +kernel, rfl⟩
theorem d_M_read_9 : decode b_M_read 9 = .ok (.ireturn, 1) := by decide +kernel
theorem d_M_read_10 : DC b_M_read 10 (.aload_n 0) 1 11 := ⟨by decide +kernel, rfl⟩
theorem d_M_read_11 : DC b_M_read 11 (.getfield 150) 3 14 := ⟨by decide +kernel, rfl⟩
theorem d_M_read_14 : DC b_M_read 14 (.iload_n 1) 1 15 := ⟨by decide +kernel, rfl⟩
theorem d_M_read_15 : DC b_M_read 15 (.iaload) 1 16 := ⟨by decide +kernel, rfl⟩
theorem d_M_read_16 : DB b_M_read 16 (.ifCond .ge 9) 9 25 19 := ⟨by decide +kernel, by decide, rfl⟩
theorem d_M_read_19 : DC b_M_read 19 (.aload_n 0) 1 20 := ⟨by decide +kernel, rfl⟩
theorem d_M_read_20 : DC b_M_read 20 (.iconst 1) 1 21 := ⟨by decide +kernel, rfl⟩
theorem d_M_read_21 : DC b_M_read 21 (.invokevirtual 362) 3 24 := ⟨by decide +kernel, rfl⟩
theorem d_M_read_24 : decode b_M_read 24 = .ok (.ireturn, 1) := by decide +kernel
theorem d_M_read_25 : DC b_M_read 25 (.iconst 0) 1 26 := ⟨by decide +kernel, rfl⟩
theorem d_M_read_26 : DC b_M_read 26 (.istore_n 2) 1 27 := ⟨by decide +kernel, rfl⟩
theorem d_M_read_27 : DC b_M_read 27 (.iconst 3) 1 28 := ⟨by decide +kernel, rfl⟩
theorem d_M_read_28 : DC b_M_read 28 (.iload_n 2) 1 29 := ⟨by decide +kernel, rfl⟩
theorem d_M_read_29 : DC b_M_read 29 (.imul) 1 30 := ⟨by decide +kernel, rfl⟩
theorem d_M_read_30 : DC b_M_read 30 (.iconst 2) 1 31 := ⟨by decide +kernel, rfl⟩
theorem d_M_read_31 : DC b_M_read 31 (.iadd) 1 32 := ⟨by decide +kernel, rfl⟩
theorem d_M_read_32 : DC b_M_read 32 (.aload_n 0) 1 33 := ⟨by decide +kernel, rfl⟩
theorem d_M_read_33 : DC b_M_read 33 (.getfield 153) 3 36 := ⟨by decide +kernel, rfl⟩
theorem d_M_read_36 : DC b_M_read 36 (.iload_n 1) 1 37 := ⟨by decide +kernel, rfl⟩
theorem d_M_read_37 : DC b_M_read 37 (.iaload) 1 38 := ⟨by decide +kernel, rfl⟩
theorem d_M_read_38 : DB b_M_read 38 (.if_icmp .ge 59) 59 97 41 := ⟨by decide +kernel, by decide, rfl⟩
theorem d_M_read_41 : DC b_M_read 41 (.aload_n 0) 1 42 := ⟨by decide +kernel, rfl⟩
theorem d_M_read_42 : DC b_M_read 42 (.aload_n 0) 1 43 := ⟨by decide +kernel, rfl⟩
theorem d_M_read_43 : DC b_M_read 43 (.getfield 156) 3 46 := ⟨by decide +kernel, rfl⟩
theorem d_M_read_46 : DC b_M_read 46 (.bipush 120) 2 48 := ⟨by decide +kernel, rfl⟩
theorem d_M_read_48 : DC b_M_read 48 (.iload_n 1) 1 49 := ⟨by decide +kernel, rfl⟩
theorem d_M_read_49 : DC b_M_read 49 (.imul) 1 50 := ⟨by decide +kernel, rfl⟩
theorem d_M_read_50 : DC b_M_read 50 (.iconst 3) 1 51 := ⟨by decide +kernel, rfl⟩
theorem d_M_read_51 : DC b_M_read 51 (.iload_n 2) 1 52 := ⟨by decide +kernel, rfl⟩
theorem d_M_read_52 : DC b_M_read 52 (.imul) 1 53 := ⟨by decide +kernel, rfl⟩
theorem d_M_read_53 : DC b_M_read 53 (.iadd) 1 54 := ⟨by decide +kernel, rfl⟩
theorem d_M_read_54 : DC b_M_read 54 (.iaload) 1 55 := ⟨by decide +kernel, rfl⟩
theorem d_M_read_55 : DC b_M_read 55 (.aload_n 0) 1 56 := ⟨by decide +kernel, rfl⟩
theorem d_M_read_56 : DC b_M_read 56 (.getfield 156) 3 59 := ⟨by decide +kernel, rfl⟩
theorem d_M_read_59 : DC b_M_read 59 (.bipush 120) 2 61 := ⟨by decide +kernel, rfl⟩
theorem d_M_read_61 : DC b_M_read 61 (.iload_n 1) 1 62 := ⟨by decide +kernel, rfl⟩
theorem d_M_read_62 : DC b_M_read 62 (.imul) 1 63 := ⟨by decide +kernel, rfl⟩
theorem d_M_read_63 : DC b_M_read 63 (.iconst 3) 1 64 := ⟨by decide +kernel, rfl⟩
theorem d_M_read_64 : DC b_M_read 64 (.iload_n 2) 1 65 := ⟨by decide +kernel, rfl⟩
theorem d_M_read_65 : DC b_M_read 65 (.imul) 1 66 := ⟨by decide +kernel, rfl⟩
theorem d_M_read_66 : DC b_M_read 66 (.iadd) 1 67 := ⟨by decide +kernel, rfl⟩
theorem d_M_read_67 : DC b_M_read 67 (.iconst 1) 1 68 := ⟨by decide +kernel, rfl⟩
theorem d_M_read_68 : DC b_M_read 68 (.iadd) 1 69 := ⟨by decide +kernel, rfl⟩
theorem d_M_read_69 : DC b_M_read 69 (.iaload) 1 70 := ⟨by decide +kernel, rfl⟩
theorem d_M_read_70 : DC b_M_read 70 (.aload_n 0) 1 71 := ⟨by decide +kernel, rfl⟩
theorem d_M_read_71 : DC b_M_read 71 (.getfield 156) 3 74 := ⟨by decide +kernel, rfl⟩
theorem d_M_read_74 : DC b_M_read 74 (.bipush 120) 2 76 := ⟨by decide +kernel, rfl⟩
theorem d_M_read_76 : DC b_M_read 76 (.iload_n 1) 1 77 := ⟨by decide +kernel, rfl⟩
theorem d_M_read_77 : DC b_M_read 77 (.imul) 1 78 := ⟨by decide +kernel, rfl⟩
theorem d_M_read_78 : DC b_M_read 78 (.iconst 3) 1 79 := ⟨by decide +kernel, rfl⟩
theorem d_M_read_79 : DC b_M_read 79 (.iload_n 2) 1 80 := ⟨by decide +kernel, rfl⟩
theorem d_M_read_80 : DC b_M_read 80 (.imul) 1 81 := ⟨by decide +kernel, rfl⟩
theorem d_M_read_81 : DC b_M_read 81 (.iadd) 1 82 := ⟨by decide +kernel, rfl⟩
theorem d_M_read_82 : DC b_M_read 82 (.iconst 2) 1 83 := ⟨by decide +kernel, rfl⟩
theorem d_M_read_83 : DC b_M_read 83 (.iadd) 1 84 := ⟨by decide +kernel, rfl⟩
theorem d_M_read_84 : DC b_M_read 84 (.iaload) 1 85 := ⟨by decide +kernel, rfl⟩
theorem d_M_read_85 : DC b_M_read 85 (.invokevirtual 365) 3 88 := ⟨by decide +kernel, rfl⟩
theorem d_M_read_88 : DB b_M_read 88 (.ifCond .le 9) 9 97 91 := ⟨by decide +kernel, by decide, rfl⟩
theorem d_M_read_91 : DC b_M_read 91 (.iinc 2 1) 3 94 := ⟨by decide +kernel, rfl⟩
theorem d_M_read_94 : DB b_M_read 94 (.goto (-67)) (-67) 27 97 := ⟨by decide +kernel, by decide, rfl⟩
theorem d_M_read_97 : DC b_M_read 97 (.iload_n 2) 1 98 := ⟨by decide +kernel, rfl⟩
theorem d_M_read_98 : decode b_M_read 98 = .ok (.ireturn, 1) := by decide +kernel
theorem w_M_read_l27 {X : Ctx} {Y : Lay} (hY : IsM Y) (C : Cx X Y b_M_read 3 (some .int) "TopYardModel" 4) {N : Nat} {r : Int32 × Mem} : ∀ (n : Nat) (x1 : Int32) (x2 : Int32) (μ : Mem), f_M_read_l27 N n x1 x2 μ = some r → J X Y (some (.int r.1)) r.2 3 27 [(0, .ref (yad Y 0)), (1, .int x1), (2, .int x2)] [] μ := by
  intro n
  induction n with
  | zero => intro x1 x2 μ hf; rw [f_M_read_l27] at hf; cases hf
  | succ n ih =>
    intro x1 x2 μ hf
    rw [f_M_read_l27] at hf
    refine j_iconst (v := 3) C d_M_read_27 (by decide) ?_
    refine j_iload_n C d_M_read_28 2 rfl ?_
    refine j_imul C d_M_read_29 ?_
    refine j_iconst (v := 2) C d_M_read_30 (by decide) ?_
    refine j_iadd C d_M_read_31 ?_
    refine j_aload_n C d_M_read_32 0 rfl ?_
    refine j_gS (b := 46) C fl_M_153 (kM hY rfl) (nM hY (by decide)) rfl hY.2.2.2.1 rfl (sM hY rfl) d_M_read_33 ?_
    refine j_iload_n C d_M_read_36 1 rfl ?_
    refine ck hf (fun hi1 hf => ?_)
    refine j_iald C (kM hY rfl) (nM hY (by decide)) (lM hY rfl) hi1 d_M_read_37 ?_
    refine j_icmp_ge C d_M_read_38 hf (fun hf => ?_) (fun hf => ?_)
    · refine j_iload_n C d_M_read_97 2 rfl ?_
      obtain rfl := Option.some.inj hf
      exact j_iret C d_M_read_98
    · refine j_aload_n C d_M_read_41 0 rfl ?_
      refine j_aload_n C d_M_read_42 0 rfl ?_
      refine j_gS (b := 47) C fl_M_156 (kM hY rfl) (nM hY (by decide)) rfl hY.2.2.2.1 rfl (sM hY rfl) d_M_read_43 ?_
      refine j_bipush (v := 120) C d_M_read_46 (by decide) ?_
      refine j_iload_n C d_M_read_48 1 rfl ?_
      refine j_imul C d_M_read_49 ?_
      refine j_iconst (v := 3) C d_M_read_50 (by decide) ?_
      refine j_iload_n C d_M_read_51 2 rfl ?_
      refine j_imul C d_M_read_52 ?_
      refine j_iadd C d_M_read_53 ?_
      refine ck hf (fun hi2 hf => ?_)
      refine j_iald C (kM hY rfl) (nM hY (by decide)) (lM hY rfl) hi2 d_M_read_54 ?_
      refine j_aload_n C d_M_read_55 0 rfl ?_
      refine j_gS (b := 47) C fl_M_156 (kM hY rfl) (nM hY (by decide)) rfl hY.2.2.2.1 rfl (sM hY rfl) d_M_read_56 ?_
      refine j_bipush (v := 120) C d_M_read_59 (by decide) ?_
      refine j_iload_n C d_M_read_61 1 rfl ?_
      refine j_imul C d_M_read_62 ?_
      refine j_iconst (v := 3) C d_M_read_63 (by decide) ?_
      refine j_iload_n C d_M_read_64 2 rfl ?_
      refine j_imul C d_M_read_65 ?_
      refine j_iadd C d_M_read_66 ?_
      refine j_iconst (v := 1) C d_M_read_67 (by decide) ?_
      refine j_iadd C d_M_read_68 ?_
      refine ck hf (fun hi3 hf => ?_)
      refine j_iald C (kM hY rfl) (nM hY (by decide)) (lM hY rfl) hi3 d_M_read_69 ?_
      refine j_aload_n C d_M_read_70 0 rfl ?_
      refine j_gS (b := 47) C fl_M_156 (kM hY rfl) (nM hY (by decide)) rfl hY.2.2.2.1 rfl (sM hY rfl) d_M_read_71 ?_
      refine j_bipush (v := 120) C d_M_read_74 (by decide) ?_
      refine j_iload_n C d_M_read_76 1 rfl ?_
      refine j_imul C d_M_read_77 ?_
      refine j_iconst (v := 3) C d_M_read_78 (by decide) ?_
      refine j_iload_n C d_M_read_79 2 rfl ?_
      refine j_imul C d_M_read_80 ?_
      refine j_iadd C d_M_read_81 ?_
      refine j_iconst (v := 2) C d_M_read_82 (by decide) ?_
      refine j_iadd C d_M_read_83 ?_
      refine ck hf (fun hi4 hf => ?_)
      refine j_iald C (kM hY rfl) (nM hY (by decide)) (lM hY rfl) hi4 d_M_read_84 ?_
      refine bd2 hf (fun v5 μ6 hc8 hf => ?_)
      refine j_cV (rest := []) C lk_M_365 (c_M_was hY hc8) rfl (kM hY rfl) (nM hY (by decide)) (by decide) rfl rfl (by decide) rfl (Nat.le_of_ble_eq_true rfl) d_M_read_85 ?_
      refine j_if_le C d_M_read_88 hf (fun hf => ?_) (fun hf => ?_)
      · refine j_iload_n C d_M_read_97 2 rfl ?_
        obtain rfl := Option.some.inj hf
        exact j_iret C d_M_read_98
      · refine j_iinc (lvf := [(0, .ref (yad Y 0)), (1, .int x1)]) (v := 1) C d_M_read_91 2 rfl (by decide) (by decide) rfl hf (fun v7 hf => ?_)
        refine j_goto C d_M_read_94 ?_
        refine j_sub [1, 2, 0] rfl ?_
        exact ih x1 v7 μ6 hf
theorem c_M_read {l : Launch} {Y : Lay} (hY : IsM Y) {N : Nat} {μ : Mem} {x1 : Int32} {r : Int32 × Mem} (hf : f_M_read N μ x1 = some r) : Ct l Y y_M_read b_M_read 3 (some .int) 4 [.ref (yad Y 0), .int x1] (some (.int r.1)) μ r.2 := by
  refine ct_of (own := "TopYardModel") (lv := [(0, .ref (yad Y 0)), (1, .int x1)]) (by decide +kernel) rfl (Nat.le_of_ble_eq_true rfl) rfl (fun X hl C => ?_)
  subst hl
  unfold f_M_read at hf
  refine j_iload_n C d_M_read_0 1 rfl ?_
  refine bd hf (fun v1 hc6 hf => ?_)
  refine j_cS (rest := []) C lk_M_359 (c_M_isSheet hY hc6) rfl (by decide) rfl (Nat.le_of_ble_eq_true rfl) d_M_read_1 ?_
  refine j_if_ne C d_M_read_4 hf (fun hf => ?_) (fun hf => ?_)
  · refine j_aload_n C d_M_read_10 0 rfl ?_
    refine j_gS (b := 45) C fl_M_150 (kM hY rfl) (nM hY (by decide)) rfl hY.2.2.2.1 rfl (sM hY rfl) d_M_read_11 ?_
    refine j_iload_n C d_M_read_14 1 rfl ?_
    refine ck hf (fun hi2 hf => ?_)
    refine j_iald C (kM hY rfl) (nM hY (by decide)) (lM hY rfl) hi2 d_M_read_15 ?_
    refine j_if_ge C d_M_read_16 hf (fun hf => ?_) (fun hf => ?_)
    · refine j_iconst (v := 0) C d_M_read_25 (by decide) ?_
      refine j_istore_n (lvf := [(0, .ref (yad Y 0)), (1, .int x1)]) C d_M_read_26 (by decide) rfl ?_
      refine j_sub [1, 2, 0] rfl ?_
      exact w_M_read_l27 hY C N x1 0 μ hf
    · refine j_aload_n C d_M_read_19 0 rfl ?_
      refine j_iconst (v := 1) C d_M_read_20 (by decide) ?_
      refine bd2 hf (fun v3 μ4 hc5 hf => ?_)
      refine j_cV (rest := []) C lk_M_362 (c_M_met2 hY hc5) rfl (kM hY rfl) (nM hY (by decide)) (by decide) rfl rfl (by decide) rfl (Nat.le_of_ble_eq_true rfl) d_M_read_21 ?_
      obtain rfl := Option.some.inj hf
      exact j_iret C d_M_read_24
  · refine j_bipush (v := (-2)) C d_M_read_7 (by decide) ?_
    obtain rfl := Option.some.inj hf
    exact j_iret C d_M_read_9
theorem d_M_isOf_0 : DC b_M_isOf 0 (.aload_n 0) 1 1 := ⟨by decide +kernel, rfl⟩
theorem d_M_isOf_1 : DC b_M_isOf 1 (.getfield 129) 3 4 := ⟨by decide +kernel, rfl⟩
theorem d_M_isOf_4 : DC b_M_isOf 4 (.iload_n 1) 1 5 := ⟨by decide +kernel, rfl⟩
theorem d_M_isOf_5 : DC b_M_isOf 5 (.iaload) 1 6 := ⟨by decide +kernel, rfl⟩
theorem d_M_isOf_6 : DC b_M_isOf 6 (.iconst 2) 1 7 := ⟨by decide +kernel, rfl⟩
theorem d_M_isOf_7 : DB b_M_isOf 7 (.if_icmp .eq 27) 27 34 10 := ⟨by decide +kernel, by decide, rfl⟩
theorem d_M_isOf_10 : DC b_M_isOf 10 (.aload_n 0) 1 11 := ⟨by decide +kernel, rfl⟩
theorem d_M_isOf_11 : DC b_M_isOf 11 (.getfield 123) 3 14 := ⟨by decide +kernel, rfl⟩
theorem d_M_isOf_14 : DC b_M_isOf 14 (.iload_n 1) 1 15 := ⟨by decide +kernel, rfl⟩
theorem d_M_isOf_15 : DC b_M_isOf 15 (.iaload) 1 16 := ⟨by decide +kernel, rfl⟩
theorem d_M_isOf_16 : DC b_M_isOf 16 (.iload_n 2) 1 17 := ⟨by decide +kernel, rfl⟩
theorem d_M_isOf_17 : DB b_M_isOf 17 (.if_icmp .eq 13) 13 30 20 := ⟨by decide +kernel, by decide, rfl⟩
theorem d_M_isOf_20 : DC b_M_isOf 20 (.aload_n 0) 1 21 := ⟨by decide +kernel, rfl⟩
theorem d_M_isOf_21 : DC b_M_isOf 21 (.getfield 126) 3 24 := ⟨by decide +kernel, rfl⟩
theorem d_M_isOf_24 : DC b_M_isOf 24 (.iload_n 1) 1 25 := ⟨by decide +kernel, rfl⟩
theorem d_M_isOf_25 : DC b_M_isOf 25 (.iaload) 1 26 := ⟨by decide +kernel, rfl⟩
theorem d_M_isOf_26 : DC b_M_isOf 26 (.iload_n 2) 1 27 := ⟨by decide +kernel, rfl⟩
theorem d_M_isOf_27 : DB b_M_isOf 27 (.if_icmp .ne 7) 7 34 30 := ⟨by decide +kernel, by decide, rfl⟩
theorem d_M_isOf_30 : DC b_M_isOf 30 (.iconst 1) 1 31 := ⟨by decide +kernel, rfl⟩
theorem d_M_isOf_31 : DB b_M_isOf 31 (.goto 4) 4 35 34 := ⟨by decide +kernel, by decide, rfl⟩
theorem d_M_isOf_34 : DC b_M_isOf 34 (.iconst 0) 1 35 := ⟨by decide +kernel, rfl⟩
theorem d_M_isOf_35 : decode b_M_isOf 35 = .ok (.ireturn, 1) := by decide +kernel
theorem w_M_isOf_b30 {X : Ctx} {Y : Lay} (hY : IsM Y) (C : Cx X Y b_M_isOf 3 (some .boolean) "TopYardModel" 1) {μ : Mem} {r : Int32} (hf : f_M_isOf_b30 μ = some r) : J X Y (some (.int r)) μ 3 30 [] [] μ := by
  unfold f_M_isOf_b30 at hf
  refine j_iconst (v := 1) C d_M_isOf_30 (by decide) ?_
  refine j_goto C d_M_isOf_31 ?_
  obtain rfl := Option.some.inj hf
  exact j_zret C (Or.inr rfl) d_M_isOf_35
theorem c_M_isOf {l : Launch} {Y : Lay} (hY : IsM Y) {μ : Mem} {x1 : Int32} {x2 : Int32} {r : Int32} (hf : f_M_isOf μ x1 x2 = some r) : Ct l Y y_M_isOf b_M_isOf 3 (some .boolean) 1 [.ref (yad Y 0), .int x1, .int x2] (some (.int r)) μ μ := by
  refine ct_of (own := "TopYardModel") (lv := [(0, .ref (yad Y 0)), (1, .int x1), (2, .int x2)]) (by decide +kernel) rfl (Nat.le_of_ble_eq_true rfl) rfl (fun X hl C => ?_)
  subst hl
  unfold f_M_isOf at hf
  refine j_aload_n C d_M_isOf_0 0 rfl ?_
  refine j_gS (b := 38) C fl_M_129 (kM hY rfl) (nM hY (by decide)) rfl hY.2.2.2.1 rfl (sM hY rfl) d_M_isOf_1 ?_
  refine j_iload_n C d_M_isOf_4 1 rfl ?_
  refine ck hf (fun hi1 hf => ?_)
  refine j_iald C (kM hY rfl) (nM hY (by decide)) (lM hY rfl) hi1 d_M_isOf_5 ?_
  refine j_iconst (v := 2) C d_M_isOf_6 (by decide) ?_
  refine j_icmp_eq C d_M_isOf_7 hf (fun hf => ?_) (fun hf => ?_)
  · refine j_iconst (v := 0) C d_M_isOf_34 (by decide) ?_
    obtain rfl := Option.some.inj hf
    exact j_zret C (Or.inl rfl) d_M_isOf_35
  · refine j_aload_n C d_M_isOf_10 0 rfl ?_
    refine j_gS (b := 36) C fl_M_123 (kM hY rfl) (nM hY (by decide)) rfl hY.2.2.2.1 rfl (sM hY rfl) d_M_isOf_11 ?_
    refine j_iload_n C d_M_isOf_14 1 rfl ?_
    refine ck hf (fun hi2 hf => ?_)
    refine j_iald C (kM hY rfl) (nM hY (by decide)) (lM hY rfl) hi2 d_M_isOf_15 ?_
    refine j_iload_n C d_M_isOf_16 2 rfl ?_
    refine j_icmp_eq C d_M_isOf_17 hf (fun hf => ?_) (fun hf => ?_)
    · refine j_sub [] rfl ?_
      exact w_M_isOf_b30 hY C hf
    · refine j_aload_n C d_M_isOf_20 0 rfl ?_
      refine j_gS (b := 37) C fl_M_126 (kM hY rfl) (nM hY (by decide)) rfl hY.2.2.2.1 rfl (sM hY rfl) d_M_isOf_21 ?_
      refine j_iload_n C d_M_isOf_24 1 rfl ?_
      refine ck hf (fun hi3 hf => ?_)
      refine j_iald C (kM hY rfl) (nM hY (by decide)) (lM hY rfl) hi3 d_M_isOf_25 ?_
      refine j_iload_n C d_M_isOf_26 2 rfl ?_
      refine j_icmp_ne C d_M_isOf_27 hf (fun hf => ?_) (fun hf => ?_)
      · refine j_iconst (v := 0) C d_M_isOf_34 (by decide) ?_
        obtain rfl := Option.some.inj hf
        exact j_zret C (Or.inl rfl) d_M_isOf_35
      · refine j_sub [] rfl ?_
        exact w_M_isOf_b30 hY C hf

theorem d_M_standing_0 : DC b_M_standing 0 (.iconst 0) 1 1 := ⟨by decide +kernel, rfl⟩
theorem d_M_standing_1 : DC b_M_standing 1 (.istore_n 1) 1 2 := ⟨by decide +kernel, rfl⟩
theorem d_M_standing_2 : DC b_M_standing 2 (.iconst 0) 1 3 := ⟨by decide +kernel, rfl⟩
theorem d_M_standing_3 : DC b_M_standing 3 (.istore_n 2) 1 4 := ⟨by decide +kernel, rfl⟩
theorem d_M_standing_4 : DC b_M_standing 4 (.iload_n 2) 1 5 := ⟨by decide +kernel, rfl⟩
theorem d_M_standing_5 : DC b_M_standing 5 (.aload_n 0) 1 6 := ⟨by decide +kernel, rfl⟩
theorem d_M_standing_6 : DC b_M_standing 6 (.getfield 245) 3 9 := ⟨by decide +kernel, rfl⟩
theorem d_M_standing_9 : DB b_M_standing 9 (.if_icmp .ge 26) 26 35 12 := ⟨by decide +kernel, by decide, rfl⟩
theorem d_M_standing_12 : DC b_M_standing 12 (.iload_n 1) 1 13 := ⟨by decide +kernel, rfl⟩
theorem d_M_standing_13 : DC b_M_standing 13 (.aload_n 0) 1 14 := ⟨by decide +kernel, rfl⟩
theorem d_M_standing_14 : DC b_M_standing 14 (.getfield 99) 3 17 := ⟨by decide +kernel, rfl⟩
theorem d_M_standing_17 : DC b_M_standing 17 (.iload_n 2) 1 18 := ⟨by decide +kernel, rfl⟩
theorem d_M_standing_18 : DC b_M_standing 18 (.iaload) 1 19 := ⟨by decide +kernel, rfl⟩
theorem d_M_standing_19 : DB b_M_standing 19 (.ifCond .ne 7) 7 26 22 := ⟨by decide +kernel, by decide, rfl⟩
theorem d_M_standing_22 : DC b_M_standing 22 (.iconst 1) 1 23 := ⟨by decide +kernel, rfl⟩
theorem d_M_standing_23 : DB b_M_standing 23 (.goto 4) 4 27 26 := ⟨by decide +kernel, by decide, rfl⟩
theorem d_M_standing_26 : DC b_M_standing 26 (.iconst 0) 1 27 := ⟨by decide +kernel, rfl⟩
theorem d_M_standing_27 : DC b_M_standing 27 (.iadd) 1 28 := ⟨by decide +kernel, rfl⟩
theorem d_M_standing_28 : DC b_M_standing 28 (.istore_n 1) 1 29 := ⟨by decide +kernel, rfl⟩
theorem d_M_standing_29 : DC b_M_standing 29 (.iinc 2 1) 3 32 := ⟨by decide +kernel, rfl⟩
theorem d_M_standing_32 : DB b_M_standing 32 (.goto (-28)) (-28) 4 35 := ⟨by decide +kernel, by decide, rfl⟩
theorem d_M_standing_35 : DC b_M_standing 35 (.iload_n 1) 1 36 := ⟨by decide +kernel, rfl⟩
theorem d_M_standing_36 : decode b_M_standing 36 = .ok (.ireturn, 1) := by decide +kernel
theorem w_M_standing_b27 {X : Ctx} {Y : Lay} (hY : IsM Y) (C : Cx X Y b_M_standing 3 (some .int) "TopYardModel" 1) {N : Nat} {μ : Mem} {r : Int32} (k4 : Int32 → Int32 → Option (Int32)) (hk4 : ∀ (x1 : Int32) (x2 : Int32), k4 x1 x2 = some r → J X Y (some (.int r)) μ 3 4 [(0, .ref (yad Y 0)), (1, .int x1), (2, .int x2)] [] μ) (x2 : Int32) (xs0 : Int32) (xs1 : Int32) (hf : f_M_standing_b27 N μ k4 x2 xs0 xs1 = some r) : J X Y (some (.int r)) μ 3 27 [(0, .ref (yad Y 0)), (2, .int x2)] [.int xs0, .int xs1] μ := by
  unfold f_M_standing_b27 at hf
  refine j_iadd C d_M_standing_27 ?_
  refine j_istore_nN (lvf := [(0, .ref (yad Y 0)), (2, .int x2)]) C d_M_standing_28 (by decide) rfl hf (fun v1 hf => ?_)
  refine j_iinc (lvf := [(1, .int v1), (0, .ref (yad Y 0))]) (v := 1) C d_M_standing_29 2 rfl (by decide) (by decide) rfl hf (fun v2 hf => ?_)
  refine j_goto C d_M_standing_32 ?_
  refine j_sub [2, 1, 0] rfl ?_
  exact hk4 v1 v2 hf
theorem w_M_standing_l4 {X : Ctx} {Y : Lay} (hY : IsM Y) (C : Cx X Y b_M_standing 3 (some .int) "TopYardModel" 1) {N : Nat} {μ : Mem} {r : Int32} : ∀ (n : Nat) (x1 : Int32) (x2 : Int32), f_M_standing_l4 N μ n x1 x2 = some r → J X Y (some (.int r)) μ 3 4 [(0, .ref (yad Y 0)), (1, .int x1), (2, .int x2)] [] μ := by
  intro n
  induction n with
  | zero => intro x1 x2 hf; rw [f_M_standing_l4] at hf; cases hf
  | succ n ih =>
    intro x1 x2 hf
    rw [f_M_standing_l4] at hf
    refine j_iload_n C d_M_standing_4 2 rfl ?_
    refine j_aload_n C d_M_standing_5 0 rfl ?_
    refine j_gI C fl_M_245 (kM hY rfl) (nM hY (by decide)) rfl d_M_standing_6 ?_
    refine j_icmp_ge C d_M_standing_9 hf (fun hf => ?_) (fun hf => ?_)
    · refine j_iload_n C d_M_standing_35 1 rfl ?_
      obtain rfl := Option.some.inj hf
      exact j_iret C d_M_standing_36
    · refine j_iload_n C d_M_standing_12 1 rfl ?_
      refine j_aload_n C d_M_standing_13 0 rfl ?_
      refine j_gS (b := 28) C fl_M_99 (kM hY rfl) (nM hY (by decide)) rfl hY.2.2.2.1 rfl (sM hY rfl) d_M_standing_14 ?_
      refine j_iload_n C d_M_standing_17 2 rfl ?_
      refine ck hf (fun hi1 hf => ?_)
      refine j_iald C (kM hY rfl) (nM hY (by decide)) (lM hY rfl) hi1 d_M_standing_18 ?_
      refine j_if_ne C d_M_standing_19 hf (fun hf => ?_) (fun hf => ?_)
      · refine j_iconst (v := 0) C d_M_standing_26 (by decide) ?_
        refine j_sub [0, 2] rfl ?_
        exact w_M_standing_b27 hY C (f_M_standing_l4 N μ n) ih x2 0 x1 hf
      · refine j_iconst (v := 1) C d_M_standing_22 (by decide) ?_
        refine j_goto C d_M_standing_23 ?_
        refine j_sub [0, 2] rfl ?_
        exact w_M_standing_b27 hY C (f_M_standing_l4 N μ n) ih x2 1 x1 hf
theorem c_M_standing {l : Launch} {Y : Lay} (hY : IsM Y) {N : Nat} {μ : Mem} {r : Int32} (hf : f_M_standing N μ = some r) : Ct l Y y_M_standing b_M_standing 3 (some .int) 1 [.ref (yad Y 0)] (some (.int r)) μ μ := by
  refine ct_of (own := "TopYardModel") (lv := [(0, .ref (yad Y 0))]) (by decide +kernel) rfl (Nat.le_of_ble_eq_true rfl) rfl (fun X hl C => ?_)
  subst hl
  unfold f_M_standing at hf
  refine j_iconst (v := 0) C d_M_standing_0 (by decide) ?_
  refine j_istore_n (lvf := [(0, .ref (yad Y 0))]) C d_M_standing_1 (by decide) rfl ?_
  refine j_iconst (v := 0) C d_M_standing_2 (by decide) ?_
  refine j_istore_n (lvf := [(1, .int 0), (0, .ref (yad Y 0))]) C d_M_standing_3 (by decide) rfl ?_
  refine j_sub [2, 1, 0] rfl ?_
  exact w_M_standing_l4 hY C N 0 0 hf
theorem d_M_floor65_0 : DC b_M_floor65 0 (.lload_n 0) 1 1 := ⟨by decide +kernel, rfl⟩
theorem d_M_floor65_1 : DC b_M_floor65 1 (.lconst 0) 1 2 := ⟨by decide +kernel, rfl⟩
theorem d_M_floor65_2 : DC b_M_floor65 2 (.lcmp) 1 3 := ⟨by decide +kernel, rfl⟩
theorem d_M_floor65_3 : DB b_M_floor65 3 (.ifCond .ge 16) 16 19 6 := ⟨by decide +kernel, by decide, rfl⟩
theorem d_M_floor65_6 : DC b_M_floor65 6 (.ldc2_w 248) 3 9 := ⟨by decide +kernel, rfl⟩
theorem d_M_floor65_9 : DC b_M_floor65 9 (.lload_n 0) 1 10 := ⟨by decide +kernel, rfl⟩
theorem d_M_floor65_10 : DC b_M_floor65 10 (.lsub) 1 11 := ⟨by decide +kernel, rfl⟩
theorem d_M_floor65_11 : DC b_M_floor65 11 (.ldc2_w 243) 3 14 := ⟨by decide +kernel, rfl⟩
theorem d_M_floor65_14 : DC b_M_floor65 14 (.ldiv) 1 15 := ⟨by decide +kernel, rfl⟩
theorem d_M_floor65_15 : DC b_M_floor65 15 (.lneg) 1 16 := ⟨by decide +kernel, rfl⟩
theorem d_M_floor65_16 : DB b_M_floor65 16 (.goto 8) 8 24 19 := ⟨by decide +kernel, by decide, rfl⟩
theorem d_M_floor65_19 : DC b_M_floor65 19 (.lload_n 0) 1 20 := ⟨by decide +kernel, rfl⟩
theorem d_M_floor65_20 : DC b_M_floor65 20 (.ldc2_w 243) 3 23 := ⟨by decide +kernel, rfl⟩
theorem d_M_floor65_23 : DC b_M_floor65 23 (.ldiv) 1 24 := ⟨by decide +kernel, rfl⟩
theorem d_M_floor65_24 : DC b_M_floor65 24 (.l2i) 1 25 := ⟨by decide +kernel, rfl⟩
theorem d_M_floor65_25 : decode b_M_floor65 25 = .ok (.ireturn, 1) := by decide +kernel
theorem c_M_floor65 {l : Launch} {Y : Lay} (hY : IsM Y) {μ : Mem} {x0 : Int64} {r : Int32} (hf : f_M_floor65 x0 = some r) : Ct l Y y_M_floor65 b_M_floor65 2 (some .int) 1 [.long x0] (some (.int r)) μ μ := by
  refine ct_of (own := "TopYardModel") (lv := [(0, .long x0)]) (by decide +kernel) rfl (Nat.le_of_ble_eq_true rfl) rfl (fun X hl C => ?_)
  subst hl
  unfold f_M_floor65 at hf
  refine j_lload_n C d_M_floor65_0 0 rfl ?_
  refine j_lconst (v := 0) C d_M_floor65_1 (by decide) ?_
  refine j_lcmp_ge C d_M_floor65_2 d_M_floor65_3 hf (fun hf => ?_) (fun hf => ?_)
  · refine j_lload_n C d_M_floor65_19 0 rfl ?_
    refine j_ldc2 (v := 65) C d_M_floor65_20 wd_192 ?_
    refine j_ldiv C d_M_floor65_23 (by decide) ?_
    refine j_l2i C d_M_floor65_24 ?_
    obtain rfl := Option.some.inj hf
    exact j_iret C d_M_floor65_25
  · refine j_ldc2 (v := 64) C d_M_floor65_6 wd_201 ?_
    refine j_lload_n C d_M_floor65_9 0 rfl ?_
    refine j_lsub C d_M_floor65_10 ?_
    refine j_ldc2 (v := 65) C d_M_floor65_11 wd_192 ?_
    refine j_ldiv C d_M_floor65_14 (by decide) ?_
    refine j_lneg C d_M_floor65_15 ?_
    refine j_goto C d_M_floor65_16 ?_
    refine j_l2i C d_M_floor65_24 ?_
    obtain rfl := Option.some.inj hf
    exact j_iret C d_M_floor65_25
theorem d_M_moves_0 : DC b_M_moves 0 (.iconst 0) 1 1 := ⟨by decide +kernel, rfl⟩
theorem d_M_moves_1 : DC b_M_moves 1 (.istore_n 1) 1 2 := ⟨by decide +kernel, rfl⟩
theorem d_M_moves_2 : DC b_M_moves 2 (.iload_n 1) 1 3 := ⟨by decide +kernel, rfl⟩
theorem d_M_moves_3 : DC b_M_moves 3 (.aload_n 0) 1 4 := ⟨by decide +kernel, rfl⟩
theorem d_M_moves_4 : DC b_M_moves 4 (.getfield 245) 3 7 := ⟨by decide +kernel, rfl⟩
theorem d_M_moves_7 : DB b_M_moves 7 (.if_icmp .ge 81) 81 88 10 := ⟨by decide +kernel, by decide, rfl⟩
theorem d_M_moves_10 : DC b_M_moves 10 (.aload_n 0) 1 11 := ⟨by decide +kernel, rfl⟩
theorem d_M_moves_11 : DC b_M_moves 11 (.getfield 99) 3 14 := ⟨by decide +kernel, rfl⟩
theorem d_M_moves_14 : DC b_M_moves 14 (.iload_n 1) 1 15 := ⟨by decide +kernel, rfl⟩
theorem d_M_moves_15 : DC b_M_moves 15 (.iaload) 1 16 := ⟨by decide +kernel, rfl⟩
theorem d_M_moves_16 : DB b_M_moves 16 (.ifCond .ne 66) 66 82 19 := ⟨by decide +kernel, by decide, rfl⟩
theorem d_M_moves_19 : DC b_M_moves 19 (.iconst 1) 1 20 := ⟨by decide +kernel, rfl⟩
theorem d_M_moves_20 : DC b_M_moves 20 (.aload_n 0) 1 21 := ⟨by decide +kernel, rfl⟩
theorem d_M_moves_21 : DC b_M_moves 21 (.getfield 19) 3 24 := ⟨by decide +kernel, rfl⟩
theorem d_M_moves_24 : DC b_M_moves 24 (.aload_n 0) 1 25 := ⟨by decide +kernel, rfl⟩
theorem d_M_moves_25 : DC b_M_moves 25 (.getfield 74) 3 28 := ⟨by decide +kernel, rfl⟩
theorem d_M_moves_28 : DC b_M_moves 28 (.iload_n 1) 1 29 := ⟨by decide +kernel, rfl⟩
theorem d_M_moves_29 : DC b_M_moves 29 (.iaload) 1 30 := ⟨by decide +kernel, rfl⟩
theorem d_M_moves_30 : DC b_M_moves 30 (.iaload) 1 31 := ⟨by decide +kernel, rfl⟩
theorem d_M_moves_31 : DC b_M_moves 31 (.aload_n 0) 1 32 := ⟨by decide +kernel, rfl⟩
theorem d_M_moves_32 : DC b_M_moves 32 (.getfield 28) 3 35 := ⟨by decide +kernel, rfl⟩
theorem d_M_moves_35 : DC b_M_moves 35 (.aload_n 0) 1 36 := ⟨by decide +kernel, rfl⟩
theorem d_M_moves_36 : DC b_M_moves 36 (.getfield 74) 3 39 := ⟨by decide +kernel, rfl⟩
theorem d_M_moves_39 : DC b_M_moves 39 (.iload_n 1) 1 40 := ⟨by decide +kernel, rfl⟩
theorem d_M_moves_40 : DC b_M_moves 40 (.iaload) 1 41 := ⟨by decide +kernel, rfl⟩
theorem d_M_moves_41 : DC b_M_moves 41 (.iaload) 1 42 := ⟨by decide +kernel, rfl⟩
theorem d_M_moves_42 : DC b_M_moves 42 (.iadd) 1 43 := ⟨by decide +kernel, rfl⟩
theorem d_M_moves_43 : DC b_M_moves 43 (.iconst 4) 1 44 := ⟨by decide +kernel, rfl⟩
theorem d_M_moves_44 : DC b_M_moves 44 (.idiv) 1 45 := ⟨by decide +kernel, rfl⟩
theorem d_M_moves_45 : DC b_M_moves 45 (.iadd) 1 46 := ⟨by decide +kernel, rfl⟩
theorem d_M_moves_46 : DC b_M_moves 46 (.aload_n 0) 1 47 := ⟨by decide +kernel, rfl⟩
theorem d_M_moves_47 : DC b_M_moves 47 (.getfield 96) 3 50 := ⟨by decide +kernel, rfl⟩
theorem d_M_moves_50 : DC b_M_moves 50 (.iload_n 1) 1 51 := ⟨by decide +kernel, rfl⟩
theorem d_M_moves_51 : DC b_M_moves 51 (.iaload) 1 52 := ⟨by decide +kernel, rfl⟩
theorem d_M_moves_52 : DC b_M_moves 52 (.iadd) 1 53 := ⟨by decide +kernel, rfl⟩
theorem d_M_moves_53 : DC b_M_moves 53 (.istore_n 2) 1 54 := ⟨by decide +kernel, rfl⟩
theorem d_M_moves_54 : DC b_M_moves 54 (.aload_n 0) 1 55 := ⟨by decide +kernel, rfl⟩
theorem d_M_moves_55 : DC b_M_moves 55 (.getfield 93) 3 58 := ⟨by decide +kernel, rfl⟩
theorem d_M_moves_58 : DC b_M_moves 58 (.iload_n 1) 1 59 := ⟨by decide +kernel, rfl⟩
theorem d_M_moves_59 : DC b_M_moves 59 (.aload_n 0) 1 60 := ⟨by decide +kernel, rfl⟩
theorem d_M_moves_60 : DC b_M_moves 60 (.getfield 93) 3 63 := ⟨by decide +kernel, rfl⟩
theorem d_M_moves_63 : DC b_M_moves 63 (.iload_n 1) 1 64 := ⟨by decide +kernel, rfl⟩
theorem d_M_moves_64 : DC b_M_moves 64 (.iaload) 1 65 := ⟨by decide +kernel, rfl⟩
theorem d_M_moves_65 : DC b_M_moves 65 (.iload_n 2) 1 66 := ⟨by decide +kernel, rfl⟩
theorem d_M_moves_66 : DB b_M_moves 66 (.if_icmp .le 14) 14 80 69 := ⟨by decide +kernel, by decide, rfl⟩
theorem d_M_moves_69 : DC b_M_moves 69 (.aload_n 0) 1 70 := ⟨by decide +kernel, rfl⟩
theorem d_M_moves_70 : DC b_M_moves 70 (.getfield 93) 3 73 := ⟨by decide +kernel, rfl⟩
theorem d_M_moves_73 : DC b_M_moves 73 (.iload_n 1) 1 74 := ⟨by decide +kernel, rfl⟩
theorem d_M_moves_74 : DC b_M_moves 74 (.iaload) 1 75 := ⟨by decide +kernel, rfl⟩
theorem d_M_moves_75 : DC b_M_moves 75 (.iload_n 2) 1 76 := ⟨by decide +kernel, rfl⟩
theorem d_M_moves_76 : DC b_M_moves 76 (.isub) 1 77 := ⟨by decide +kernel, rfl⟩
theorem d_M_moves_77 : DB b_M_moves 77 (.goto 4) 4 81 80 := ⟨by decide +kernel, by decide, rfl⟩
theorem d_M_moves_80 : DC b_M_moves 80 (.iconst 0) 1 81 := ⟨by decide +kernel, rfl⟩
theorem d_M_moves_81 : DC b_M_moves 81 (.iastore) 1 82 := ⟨by decide +kernel, rfl⟩
theorem d_M_moves_82 : DC b_M_moves 82 (.iinc 1 1) 3 85 := ⟨by decide +kernel, rfl⟩
theorem d_M_moves_85 : DB b_M_moves 85 (.goto (-83)) (-83) 2 88 := ⟨by decide +kernel, by decide, rfl⟩
theorem d_M_moves_88 : DC b_M_moves 88 (.iconst 0) 1 89 := ⟨by decide +kernel, rfl⟩
theorem d_M_moves_89 : DC b_M_moves 89 (.istore_n 1) 1 90 := ⟨by decide +kernel, rfl⟩
theorem d_M_moves_90 : DC b_M_moves 90 (.iload_n 1) 1 91 := ⟨by decide +kernel, rfl⟩
theorem d_M_moves_91 : DC b_M_moves 91 (.aload_n 0) 1 92 := ⟨by decide +kernel, rfl⟩
theorem d_M_moves_92 : DC b_M_moves 92 (.getfield 245) 3 95 := ⟨by decide +kernel, rfl⟩
theorem d_M_moves_95 : DB b_M_moves 95 (.if_icmp .ge 90) 90 185 98 := ⟨by decide +kernel, by decide, rfl⟩
theorem d_M_moves_98 : DC b_M_moves 98 (.aload_n 0) 1 99 := ⟨by decide +kernel, rfl⟩
theorem d_M_moves_99 : DC b_M_moves 99 (.getfield 99) 3 102 := ⟨by decide +kernel, rfl⟩
theorem d_M_moves_102 : DC b_M_moves 102 (.iload_n 1) 1 103 := ⟨by decide +kernel, rfl⟩
theorem d_M_moves_103 : DC b_M_moves 103 (.iaload) 1 104 := ⟨by decide +kernel, rfl⟩
theorem d_M_moves_104 : DB b_M_moves 104 (.ifCond .ne 75) 75 179 107 := ⟨by decide +kernel, by decide, rfl⟩
theorem d_M_moves_107 : DC b_M_moves 107 (.aload_n 0) 1 108 := ⟨by decide +kernel, rfl⟩
theorem d_M_moves_108 : DC b_M_moves 108 (.getfield 93) 3 111 := ⟨by decide +kernel, rfl⟩
theorem d_M_moves_111 : DC b_M_moves 111 (.iload_n 1) 1 112 := ⟨by decide +kernel, rfl⟩
theorem d_M_moves_112 : DC b_M_moves 112 (.iaload) 1 113 := ⟨by decide +kernel, rfl⟩
theorem d_M_moves_113 : DC b_M_moves 113 (.bipush 100) 2 115 := ⟨by decide +kernel, rfl⟩
theorem d_M_moves_115 : DC b_M_moves 115 (.bipush 10) 2 117 := ⟨by decide +kernel, rfl⟩
theorem d_M_moves_117 : DC b_M_moves 117 (.aload_n 0) 1 118 := ⟨by decide +kernel, rfl⟩
theorem d_M_moves_118 : DC b_M_moves 118 (.getfield 96) 3 121 := ⟨by decide +kernel, rfl⟩
theorem d_M_moves_121 : DC b_M_moves 121 (.iload_n 1) 1 122 := ⟨by decide +kernel, rfl⟩
theorem d_M_moves_122 : DC b_M_moves 122 (.iaload) 1 123 := ⟨by decide +kernel, rfl⟩
theorem d_M_moves_123 : DC b_M_moves 123 (.imul) 1 124 := ⟨by decide +kernel, rfl⟩
theorem d_M_moves_124 : DC b_M_moves 124 (.iadd) 1 125 := ⟨by decide +kernel, rfl⟩
theorem d_M_moves_125 : DB b_M_moves 125 (.if_icmp .lt 33) 33 158 128 := ⟨by decide +kernel, by decide, rfl⟩
theorem d_M_moves_128 : DC b_M_moves 128 (.aload_n 0) 1 129 := ⟨by decide +kernel, rfl⟩
theorem d_M_moves_129 : DC b_M_moves 129 (.getfield 96) 3 132 := ⟨by decide +kernel, rfl⟩
theorem d_M_moves_132 : DC b_M_moves 132 (.iload_n 1) 1 133 := ⟨by decide +kernel, rfl⟩
theorem d_M_moves_133 : DC b_M_moves 133 (.aload_n 0) 1 134 := ⟨by decide +kernel, rfl⟩
theorem d_M_moves_134 : DC b_M_moves 134 (.getfield 96) 3 137 := ⟨by decide +kernel, rfl⟩
theorem d_M_moves_137 : DC b_M_moves 137 (.iload_n 1) 1 138 := ⟨by decide +kernel, rfl⟩
theorem d_M_moves_138 : DC b_M_moves 138 (.iaload) 1 139 := ⟨by decide +kernel, rfl⟩
theorem d_M_moves_139 : DB b_M_moves 139 (.ifCond .le 14) 14 153 142 := ⟨by decide +kernel, by decide, rfl⟩
theorem d_M_moves_142 : DC b_M_moves 142 (.aload_n 0) 1 143 := ⟨by decide +kernel, rfl⟩
theorem d_M_moves_143 : DC b_M_moves 143 (.getfield 96) 3 146 := ⟨by decide +kernel, rfl⟩
theorem d_M_moves_146 : DC b_M_moves 146 (.iload_n 1) 1 147 := ⟨by decide +kernel, rfl⟩
theorem d_M_moves_147 : DC b_M_moves 147 (.iaload) 1 148 := ⟨by decide +kernel, rfl⟩
theorem d_M_moves_148 : DC b_M_moves 148 (.iconst 1) 1 149 := ⟨by decide +kernel, rfl⟩
theorem d_M_moves_149 : DC b_M_moves 149 (.isub) 1 150 := ⟨by decide +kernel, rfl⟩
theorem d_M_moves_150 : DB b_M_moves 150 (.goto 4) 4 154 153 := ⟨by decide +kernel, by decide, rfl⟩
theorem d_M_moves_153 : DC b_M_moves 153 (.iconst 0) 1 154 := ⟨by decide +kernel, rfl⟩
theorem d_M_moves_154 : DC b_M_moves 154 (.iastore) 1 155 := ⟨by decide +kernel, rfl⟩
theorem d_M_moves_155 : DB b_M_moves 155 (.goto 24) 24 179 158 := ⟨by decide +kernel, by decide, rfl⟩
theorem d_M_moves_158 : DC b_M_moves 158 (.aload_n 0) 1 159 := ⟨by decide +kernel, rfl⟩
theorem d_M_moves_159 : DC b_M_moves 159 (.getfield 93) 3 162 := ⟨by decide +kernel, rfl⟩
theorem d_M_moves_162 : DC b_M_moves 162 (.iload_n 1) 1 163 := ⟨by decide +kernel, rfl⟩
theorem d_M_moves_163 : DC b_M_moves 163 (.iaload) 1 164 := ⟨by decide +kernel, rfl⟩
theorem d_M_moves_164 : DC b_M_moves 164 (.bipush 50) 2 166 := ⟨by decide +kernel, rfl⟩
theorem d_M_moves_166 : DB b_M_moves 166 (.if_icmp .ge 13) 13 179 169 := ⟨by decide +kernel, by decide, rfl⟩
theorem d_M_moves_169 : DC b_M_moves 169 (.aload_n 0) 1 170 := ⟨by decide +kernel, rfl⟩
theorem d_M_moves_170 : DC b_M_moves 170 (.getfield 96) 3 173 := ⟨by decide +kernel, rfl⟩
theorem d_M_moves_173 : DC b_M_moves 173 (.iload_n 1) 1 174 := ⟨by decide +kernel, rfl⟩
theorem d_M_moves_174 : DC b_M_moves 174 (.dup2) 1 175 := ⟨by decide +kernel, rfl⟩
theorem d_M_moves_175 : DC b_M_moves 175 (.iaload) 1 176 := ⟨by decide +kernel, rfl⟩
theorem d_M_moves_176 : DC b_M_moves 176 (.iconst 1) 1 177 := ⟨by decide +kernel, rfl⟩
theorem d_M_moves_177 : DC b_M_moves 177 (.iadd) 1 178 := ⟨by decide +kernel, rfl⟩
theorem d_M_moves_178 : DC b_M_moves 178 (.iastore) 1 179 := ⟨by decide +kernel, rfl⟩
theorem d_M_moves_179 : DC b_M_moves 179 (.iinc 1 1) 3 182 := ⟨by decide +kernel, rfl⟩
theorem d_M_moves_182 : DB b_M_moves 182 (.goto (-92)) (-92) 90 185 := ⟨by decide +kernel, by decide, rfl⟩
theorem d_M_moves_185 : DC b_M_moves 185 (.iconst 0) 1 186 := ⟨by decide +kernel, rfl⟩
theorem d_M_moves_186 : DC b_M_moves 186 (.istore_n 1) 1 187 := ⟨by decide +kernel, rfl⟩
theorem d_M_moves_187 : DC b_M_moves 187 (.iload_n 1) 1 188 := ⟨by decide +kernel, rfl⟩
theorem d_M_moves_188 : DC b_M_moves 188 (.aload_n 0) 1 189 := ⟨by decide +kernel, rfl⟩
theorem d_M_moves_189 : DC b_M_moves 189 (.getfield 245) 3 192 := ⟨by decide +kernel, rfl⟩
theorem d_M_moves_192 : DB b_M_moves 192 (.if_icmp .ge 202) 202 394 195 := ⟨by decide +kernel, by decide, rfl⟩
theorem d_M_moves_195 : DC b_M_moves 195 (.aload_n 0) 1 196 := ⟨by decide +kernel, rfl⟩
theorem d_M_moves_196 : DC b_M_moves 196 (.getfield 99) 3 199 := ⟨by decide +kernel, rfl⟩
theorem d_M_moves_199 : DC b_M_moves 199 (.iload_n 1) 1 200 := ⟨by decide +kernel, rfl⟩
theorem d_M_moves_200 : DC b_M_moves 200 (.iaload) 1 201 := ⟨by decide +kernel, rfl⟩
theorem d_M_moves_201 : DB b_M_moves 201 (.ifCond .ne 187) 187 388 204 := ⟨by decide +kernel, by decide, rfl⟩
theorem d_M_moves_204 : DC b_M_moves 204 (.aload_n 0) 1 205 := ⟨by decide +kernel, rfl⟩
theorem d_M_moves_205 : DC b_M_moves 205 (.getfield 13) 3 208 := ⟨by decide +kernel, rfl⟩
theorem d_M_moves_208 : DC b_M_moves 208 (.aload_n 0) 1 209 := ⟨by decide +kernel, rfl⟩
theorem d_M_moves_209 : DC b_M_moves 209 (.getfield 74) 3 212 := ⟨by decide +kernel, rfl⟩
theorem d_M_moves_212 : DC b_M_moves 212 (.iload_n 1) 1 213 := ⟨by decide +kernel, rfl⟩
theorem d_M_moves_213 : DC b_M_moves 213 (.iaload) 1 214 := ⟨by decide +kernel, rfl⟩
theorem d_M_moves_214 : DC b_M_moves 214 (.iaload) 1 215 := ⟨by decide +kernel, rfl⟩
theorem d_M_moves_215 : DC b_M_moves 215 (.istore_n 2) 1 216 := ⟨by decide +kernel, rfl⟩
theorem d_M_moves_216 : DC b_M_moves 216 (.aload_n 0) 1 217 := ⟨by decide +kernel, rfl⟩
theorem d_M_moves_217 : DC b_M_moves 217 (.getfield 77) 3 220 := ⟨by decide +kernel, rfl⟩
theorem d_M_moves_220 : DC b_M_moves 220 (.iload_n 1) 1 221 := ⟨by decide +kernel, rfl⟩
theorem d_M_moves_221 : DC b_M_moves 221 (.laload) 1 222 := ⟨by decide +kernel, rfl⟩
theorem d_M_moves_222 : DC b_M_moves 222 (.invokestatic 250) 3 225 := ⟨by decide +kernel, rfl⟩
theorem d_M_moves_225 : DC b_M_moves 225 (.istore_n 3) 1 226 := ⟨by decide +kernel, rfl⟩
theorem d_M_moves_226 : DC b_M_moves 226 (.aload_n 0) 1 227 := ⟨by decide +kernel, rfl⟩
theorem d_M_moves_227 : DC b_M_moves 227 (.getfield 81) 3 230 := ⟨by decide +kernel, rfl⟩
theorem d_M_moves_230 : DC b_M_moves 230 (.iload_n 1) 1 231 := ⟨by decide +kernel, rfl⟩
theorem d_M_moves_231 : DC b_M_moves 231 (.laload) 1 232 := ⟨by decide +kernel, rfl⟩
theorem d_M_moves_232 : DC b_M_moves 232 (.invokestatic 250) 3 235 := ⟨by decide +kernel, rfl⟩
theorem d_M_moves_235 : DC b_M_moves 235 (.istore 4) 2 237 := ⟨by decide +kernel, rfl⟩
theorem d_M_moves_237 : DC b_M_moves 237 (.aload_n 0) 1 238 := ⟨by decide +kernel, rfl⟩
theorem d_M_moves_238 : DC b_M_moves 238 (.getfield 87) 3 241 := ⟨by decide +kernel, rfl⟩
theorem d_M_moves_241 : DC b_M_moves 241 (.iload_n 1) 1 242 := ⟨by decide +kernel, rfl⟩
theorem d_M_moves_242 : DC b_M_moves 242 (.dup2) 1 243 := ⟨by decide +kernel, rfl⟩
theorem d_M_moves_243 : DC b_M_moves 243 (.laload) 1 244 := ⟨by decide +kernel, rfl⟩
theorem d_M_moves_244 : DC b_M_moves 244 (.ldc2_w 216) 3 247 := ⟨by decide +kernel, rfl⟩
theorem d_M_moves_247 : DC b_M_moves 247 (.iload_n 2) 1 248 := ⟨by decide +kernel, rfl⟩
theorem d_M_moves_248 : DC b_M_moves 248 (.i2l) 1 249 := ⟨by decide +kernel, rfl⟩
theorem d_M_moves_249 : DC b_M_moves 249 (.lmul) 1 250 := ⟨by decide +kernel, rfl⟩
theorem d_M_moves_250 : DC b_M_moves 250 (.aload_n 0) 1 251 := ⟨by decide +kernel, rfl⟩
theorem d_M_moves_251 : DC b_M_moves 251 (.iload_n 3) 1 252 := ⟨by decide +kernel, rfl⟩
theorem d_M_moves_252 : DC b_M_moves 252 (.iload 4) 2 254 := ⟨by decide +kernel, rfl⟩
theorem d_M_moves_254 : DC b_M_moves 254 (.invokevirtual 219) 3 257 := ⟨by decide +kernel, rfl⟩
theorem d_M_moves_257 : DC b_M_moves 257 (.i2l) 1 258 := ⟨by decide +kernel, rfl⟩
theorem d_M_moves_258 : DC b_M_moves 258 (.lmul) 1 259 := ⟨by decide +kernel, rfl⟩
theorem d_M_moves_259 : DC b_M_moves 259 (.lsub) 1 260 := ⟨by decide +kernel, rfl⟩
theorem d_M_moves_260 : DC b_M_moves 260 (.lastore) 1 261 := ⟨by decide +kernel, rfl⟩
theorem d_M_moves_261 : DC b_M_moves 261 (.aload_n 0) 1 262 := ⟨by decide +kernel, rfl⟩
theorem d_M_moves_262 : DC b_M_moves 262 (.getfield 90) 3 265 := ⟨by decide +kernel, rfl⟩
theorem d_M_moves_265 : DC b_M_moves 265 (.iload_n 1) 1 266 := ⟨by decide +kernel, rfl⟩
theorem d_M_moves_266 : DC b_M_moves 266 (.dup2) 1 267 := ⟨by decide +kernel, rfl⟩
theorem d_M_moves_267 : DC b_M_moves 267 (.laload) 1 268 := ⟨by decide +kernel, rfl⟩
theorem d_M_moves_268 : DC b_M_moves 268 (.ldc2_w 216) 3 271 := ⟨by decide +kernel, rfl⟩
theorem d_M_moves_271 : DC b_M_moves 271 (.iload_n 2) 1 272 := ⟨by decide +kernel, rfl⟩
theorem d_M_moves_272 : DC b_M_moves 272 (.i2l) 1 273 := ⟨by decide +kernel, rfl⟩
theorem d_M_moves_273 : DC b_M_moves 273 (.lmul) 1 274 := ⟨by decide +kernel, rfl⟩
theorem d_M_moves_274 : DC b_M_moves 274 (.aload_n 0) 1 275 := ⟨by decide +kernel, rfl⟩
theorem d_M_moves_275 : DC b_M_moves 275 (.iload_n 3) 1 276 := ⟨by decide +kernel, rfl⟩
theorem d_M_moves_276 : DC b_M_moves 276 (.iload 4) 2 278 := ⟨by decide +kernel, rfl⟩
theorem d_M_moves_278 : DC b_M_moves 278 (.invokevirtual 222) 3 281 := ⟨by decide +kernel, rfl⟩
theorem d_M_moves_281 : DC b_M_moves 281 (.i2l) 1 282 := ⟨by decide +kernel, rfl⟩
theorem d_M_moves_282 : DC b_M_moves 282 (.lmul) 1 283 := ⟨by decide +kernel, rfl⟩
theorem d_M_moves_283 : DC b_M_moves 283 (.lsub) 1 284 := ⟨by decide +kernel, rfl⟩
theorem d_M_moves_284 : DC b_M_moves 284 (.lastore) 1 285 := ⟨by decide +kernel, rfl⟩
theorem d_M_moves_285 : DC b_M_moves 285 (.aload_n 0) 1 286 := ⟨by decide +kernel, rfl⟩
theorem d_M_moves_286 : DC b_M_moves 286 (.getfield 84) 3 289 := ⟨by decide +kernel, rfl⟩
theorem d_M_moves_289 : DC b_M_moves 289 (.iload_n 1) 1 290 := ⟨by decide +kernel, rfl⟩
theorem d_M_moves_290 : DC b_M_moves 290 (.aload_n 0) 1 291 := ⟨by decide +kernel, rfl⟩
theorem d_M_moves_291 : DC b_M_moves 291 (.getfield 84) 3 294 := ⟨by decide +kernel, rfl⟩
theorem d_M_moves_294 : DC b_M_moves 294 (.iload_n 1) 1 295 := ⟨by decide +kernel, rfl⟩
theorem d_M_moves_295 : DC b_M_moves 295 (.iaload) 1 296 := ⟨by decide +kernel, rfl⟩
theorem d_M_moves_296 : DC b_M_moves 296 (.aload_n 0) 1 297 := ⟨by decide +kernel, rfl⟩
theorem d_M_moves_297 : DC b_M_moves 297 (.getfield 22) 3 300 := ⟨by decide +kernel, rfl⟩
theorem d_M_moves_300 : DC b_M_moves 300 (.aload_n 0) 1 301 := ⟨by decide +kernel, rfl⟩
theorem d_M_moves_301 : DC b_M_moves 301 (.getfield 74) 3 304 := ⟨by decide +kernel, rfl⟩
theorem d_M_moves_304 : DC b_M_moves 304 (.iload_n 1) 1 305 := ⟨by decide +kernel, rfl⟩
theorem d_M_moves_305 : DC b_M_moves 305 (.iaload) 1 306 := ⟨by decide +kernel, rfl⟩
theorem d_M_moves_306 : DC b_M_moves 306 (.iaload) 1 307 := ⟨by decide +kernel, rfl⟩
theorem d_M_moves_307 : DC b_M_moves 307 (.iconst 1) 1 308 := ⟨by decide +kernel, rfl⟩
theorem d_M_moves_308 : DC b_M_moves 308 (.aload_n 0) 1 309 := ⟨by decide +kernel, rfl⟩
theorem d_M_moves_309 : DC b_M_moves 309 (.getfield 96) 3 312 := ⟨by decide +kernel, rfl⟩
theorem d_M_moves_312 : DC b_M_moves 312 (.iload_n 1) 1 313 := ⟨by decide +kernel, rfl⟩
theorem d_M_moves_313 : DC b_M_moves 313 (.iaload) 1 314 := ⟨by decide +kernel, rfl⟩
theorem d_M_moves_314 : DC b_M_moves 314 (.iadd) 1 315 := ⟨by decide +kernel, rfl⟩
theorem d_M_moves_315 : DC b_M_moves 315 (.imul) 1 316 := ⟨by decide +kernel, rfl⟩
theorem d_M_moves_316 : DC b_M_moves 316 (.iadd) 1 317 := ⟨by decide +kernel, rfl⟩
theorem d_M_moves_317 : DC b_M_moves 317 (.bipush 36) 2 319 := ⟨by decide +kernel, rfl⟩
theorem d_M_moves_319 : DC b_M_moves 319 (.iadd) 1 320 := ⟨by decide +kernel, rfl⟩
theorem d_M_moves_320 : DC b_M_moves 320 (.bipush 36) 2 322 := ⟨by decide +kernel, rfl⟩
theorem d_M_moves_322 : DC b_M_moves 322 (.irem) 1 323 := ⟨by decide +kernel, rfl⟩
theorem d_M_moves_323 : DC b_M_moves 323 (.iastore) 1 324 := ⟨by decide +kernel, rfl⟩
theorem d_M_moves_324 : DC b_M_moves 324 (.aload_n 0) 1 325 := ⟨by decide +kernel, rfl⟩
theorem d_M_moves_325 : DC b_M_moves 325 (.getfield 87) 3 328 := ⟨by decide +kernel, rfl⟩
theorem d_M_moves_328 : DC b_M_moves 328 (.iload_n 1) 1 329 := ⟨by decide +kernel, rfl⟩
theorem d_M_moves_329 : DC b_M_moves 329 (.dup2) 1 330 := ⟨by decide +kernel, rfl⟩
theorem d_M_moves_330 : DC b_M_moves 330 (.laload) 1 331 := ⟨by decide +kernel, rfl⟩
theorem d_M_moves_331 : DC b_M_moves 331 (.iload_n 2) 1 332 := ⟨by decide +kernel, rfl⟩
theorem d_M_moves_332 : DC b_M_moves 332 (.aload_n 0) 1 333 := ⟨by decide +kernel, rfl⟩
theorem d_M_moves_333 : DC b_M_moves 333 (.getfield 96) 3 336 := ⟨by decide +kernel, rfl⟩
theorem d_M_moves_336 : DC b_M_moves 336 (.iload_n 1) 1 337 := ⟨by decide +kernel, rfl⟩
theorem d_M_moves_337 : DC b_M_moves 337 (.iaload) 1 338 := ⟨by decide +kernel, rfl⟩
theorem d_M_moves_338 : DC b_M_moves 338 (.imul) 1 339 := ⟨by decide +kernel, rfl⟩
theorem d_M_moves_339 : DC b_M_moves 339 (.aload_n 0) 1 340 := ⟨by decide +kernel, rfl⟩
theorem d_M_moves_340 : DC b_M_moves 340 (.aload_n 0) 1 341 := ⟨by decide +kernel, rfl⟩
theorem d_M_moves_341 : DC b_M_moves 341 (.getfield 84) 3 344 := ⟨by decide +kernel, rfl⟩
theorem d_M_moves_344 : DC b_M_moves 344 (.iload_n 1) 1 345 := ⟨by decide +kernel, rfl⟩
theorem d_M_moves_345 : DC b_M_moves 345 (.iaload) 1 346 := ⟨by decide +kernel, rfl⟩
theorem d_M_moves_346 : DC b_M_moves 346 (.invokevirtual 168) 3 349 := ⟨by decide +kernel, rfl⟩
theorem d_M_moves_349 : DC b_M_moves 349 (.imul) 1 350 := ⟨by decide +kernel, rfl⟩
theorem d_M_moves_350 : DC b_M_moves 350 (.bipush 65) 2 352 := ⟨by decide +kernel, rfl⟩
theorem d_M_moves_352 : DC b_M_moves 352 (.idiv) 1 353 := ⟨by decide +kernel, rfl⟩
theorem d_M_moves_353 : DC b_M_moves 353 (.i2l) 1 354 := ⟨by decide +kernel, rfl⟩
theorem d_M_moves_354 : DC b_M_moves 354 (.ladd) 1 355 := ⟨by decide +kernel, rfl⟩
theorem d_M_moves_355 : DC b_M_moves 355 (.lastore) 1 356 := ⟨by decide +kernel, rfl⟩
theorem d_M_moves_356 : DC b_M_moves 356 (.aload_n 0) 1 357 := ⟨by decide +kernel, rfl⟩
theorem d_M_moves_357 : DC b_M_moves 357 (.getfield 90) 3 360 := ⟨by decide +kernel, rfl⟩
theorem d_M_moves_360 : DC b_M_moves 360 (.iload_n 1) 1 361 := ⟨by decide +kernel, rfl⟩
theorem d_M_moves_361 : DC b_M_moves 361 (.dup2) 1 362 := ⟨by decide +kernel, rfl⟩
theorem d_M_moves_362 : DC b_M_moves 362 (.laload) 1 363 := ⟨by decide +kernel, rfl⟩
theorem d_M_moves_363 : DC b_M_moves 363 (.iload_n 2) 1 364 := ⟨by decide +kernel, rfl⟩
theorem d_M_moves_364 : DC b_M_moves 364 (.aload_n 0) 1 365 := ⟨by decide +kernel, rfl⟩
theorem d_M_moves_365 : DC b_M_moves 365 (.getfield 96) 3 368 := ⟨by decide +kernel, rfl⟩
theorem d_M_moves_368 : DC b_M_moves 368 (.iload_n 1) 1 369 := ⟨by decide +kernel, rfl⟩
theorem d_M_moves_369 : DC b_M_moves 369 (.iaload) 1 370 := ⟨by decide +kernel, rfl⟩
theorem d_M_moves_370 : DC b_M_moves 370 (.imul) 1 371 := ⟨by decide +kernel, rfl⟩
theorem d_M_moves_371 : DC b_M_moves 371 (.aload_n 0) 1 372 := ⟨by decide +kernel, rfl⟩
theorem d_M_moves_372 : DC b_M_moves 372 (.aload_n 0) 1 373 := ⟨by decide +kernel, rfl⟩
theorem d_M_moves_373 : DC b_M_moves 373 (.getfield 84) 3 376 := ⟨by decide +kernel, rfl⟩
theorem d_M_moves_376 : DC b_M_moves 376 (.iload_n 1) 1 377 := ⟨by decide +kernel, rfl⟩
theorem d_M_moves_377 : DC b_M_moves 377 (.iaload) 1 378 := ⟨by decide +kernel, rfl⟩
theorem d_M_moves_378 : DC b_M_moves 378 (.invokevirtual 172) 3 381 := ⟨by decide +kernel, rfl⟩
theorem d_M_moves_381 : DC b_M_moves 381 (.imul) 1 382 := ⟨by decide +kernel, rfl⟩
theorem d_M_moves_382 : DC b_M_moves 382 (.bipush 65) 2 384 := ⟨by decide +kernel, rfl⟩
theorem d_M_moves_384 : DC b_M_moves 384 (.idiv) 1 385 := ⟨by decide +kernel, rfl⟩
theorem d_M_moves_385 : DC b_M_moves 385 (.i2l) 1 386 := ⟨by decide +kernel, rfl⟩
theorem d_M_moves_386 : DC b_M_moves 386 (.ladd) 1 387 := ⟨by decide +kernel, rfl⟩
theorem d_M_moves_387 : DC b_M_moves 387 (.lastore) 1 388 := ⟨by decide +kernel, rfl⟩
theorem d_M_moves_388 : DC b_M_moves 388 (.iinc 1 1) 3 391 := ⟨by decide +kernel, rfl⟩
theorem d_M_moves_391 : DB b_M_moves 391 (.goto (-204)) (-204) 187 394 := ⟨by decide +kernel, by decide, rfl⟩
theorem d_M_moves_394 : DC b_M_moves 394 (.iconst 0) 1 395 := ⟨by decide +kernel, rfl⟩
theorem d_M_moves_395 : DC b_M_moves 395 (.istore_n 1) 1 396 := ⟨by decide +kernel, rfl⟩
theorem d_M_moves_396 : DC b_M_moves 396 (.iload_n 1) 1 397 := ⟨by decide +kernel, rfl⟩
theorem d_M_moves_397 : DC b_M_moves 397 (.aload_n 0) 1 398 := ⟨by decide +kernel, rfl⟩
theorem d_M_moves_398 : DC b_M_moves 398 (.getfield 245) 3 401 := ⟨by decide +kernel, rfl⟩
theorem d_M_moves_401 : DB b_M_moves 401 (.if_icmp .ge 56) 56 457 404 := ⟨by decide +kernel, by decide, rfl⟩
theorem d_M_moves_404 : DC b_M_moves 404 (.aload_n 0) 1 405 := ⟨by decide +kernel, rfl⟩
theorem d_M_moves_405 : DC b_M_moves 405 (.getfield 99) 3 408 := ⟨by decide +kernel, rfl⟩
theorem d_M_moves_408 : DC b_M_moves 408 (.iload_n 1) 1 409 := ⟨by decide +kernel, rfl⟩
theorem d_M_moves_409 : DC b_M_moves 409 (.iaload) 1 410 := ⟨by decide +kernel, rfl⟩
theorem d_M_moves_410 : DB b_M_moves 410 (.ifCond .ne 41) 41 451 413 := ⟨by decide +kernel, by decide, rfl⟩
theorem d_M_moves_413 : DC b_M_moves 413 (.aload_n 0) 1 414 := ⟨by decide +kernel, rfl⟩
theorem d_M_moves_414 : DC b_M_moves 414 (.getfield 87) 3 417 := ⟨by decide +kernel, rfl⟩
theorem d_M_moves_417 : DC b_M_moves 417 (.iload_n 1) 1 418 := ⟨by decide +kernel, rfl⟩
theorem d_M_moves_418 : DC b_M_moves 418 (.dup2) 1 419 := ⟨by decide +kernel, rfl⟩
theorem d_M_moves_419 : DC b_M_moves 419 (.laload) 1 420 := ⟨by decide +kernel, rfl⟩
theorem d_M_moves_420 : DC b_M_moves 420 (.aload_n 0) 1 421 := ⟨by decide +kernel, rfl⟩
theorem d_M_moves_421 : DC b_M_moves 421 (.getfield 87) 3 424 := ⟨by decide +kernel, rfl⟩
theorem d_M_moves_424 : DC b_M_moves 424 (.iload_n 1) 1 425 := ⟨by decide +kernel, rfl⟩
theorem d_M_moves_425 : DC b_M_moves 425 (.laload) 1 426 := ⟨by decide +kernel, rfl⟩
theorem d_M_moves_426 : DC b_M_moves 426 (.ldc2_w 254) 3 429 := ⟨by decide +kernel, rfl⟩
theorem d_M_moves_429 : DC b_M_moves 429 (.ldiv) 1 430 := ⟨by decide +kernel, rfl⟩
theorem d_M_moves_430 : DC b_M_moves 430 (.lsub) 1 431 := ⟨by decide +kernel, rfl⟩
theorem d_M_moves_431 : DC b_M_moves 431 (.lastore) 1 432 := ⟨by decide +kernel, rfl⟩
theorem d_M_moves_432 : DC b_M_moves 432 (.aload_n 0) 1 433 := ⟨by decide +kernel, rfl⟩
theorem d_M_moves_433 : DC b_M_moves 433 (.getfield 90) 3 436 := ⟨by decide +kernel, rfl⟩
theorem d_M_moves_436 : DC b_M_moves 436 (.iload_n 1) 1 437 := ⟨by decide +kernel, rfl⟩
theorem d_M_moves_437 : DC b_M_moves 437 (.dup2) 1 438 := ⟨by decide +kernel, rfl⟩
theorem d_M_moves_438 : DC b_M_moves 438 (.laload) 1 439 := ⟨by decide +kernel, rfl⟩
theorem d_M_moves_439 : DC b_M_moves 439 (.aload_n 0) 1 440 := ⟨by decide +kernel, rfl⟩
theorem d_M_moves_440 : DC b_M_moves 440 (.getfield 90) 3 443 := ⟨by decide +kernel, rfl⟩
theorem d_M_moves_443 : DC b_M_moves 443 (.iload_n 1) 1 444 := ⟨by decide +kernel, rfl⟩
theorem d_M_moves_444 : DC b_M_moves 444 (.laload) 1 445 := ⟨by decide +kernel, rfl⟩
theorem d_M_moves_445 : DC b_M_moves 445 (.ldc2_w 254) 3 448 := ⟨by decide +kernel, rfl⟩
theorem d_M_moves_448 : DC b_M_moves 448 (.ldiv) 1 449 := ⟨by decide +kernel, rfl⟩
theorem d_M_moves_449 : DC b_M_moves 449 (.lsub) 1 450 := ⟨by decide +kernel, rfl⟩
theorem d_M_moves_450 : DC b_M_moves 450 (.lastore) 1 451 := ⟨by decide +kernel, rfl⟩
theorem d_M_moves_451 : DC b_M_moves 451 (.iinc 1 1) 3 454 := ⟨by decide +kernel, rfl⟩
theorem d_M_moves_454 : DB b_M_moves 454 (.goto (-58)) (-58) 396 457 := ⟨by decide +kernel, by decide, rfl⟩
theorem d_M_moves_457 : DC b_M_moves 457 (.iconst 0) 1 458 := ⟨by decide +kernel, rfl⟩
theorem d_M_moves_458 : DC b_M_moves 458 (.istore_n 1) 1 459 := ⟨by decide +kernel, rfl⟩
theorem d_M_moves_459 : DC b_M_moves 459 (.iload_n 1) 1 460 := ⟨by decide +kernel, rfl⟩
theorem d_M_moves_460 : DC b_M_moves 460 (.aload_n 0) 1 461 := ⟨by decide +kernel, rfl⟩
theorem d_M_moves_461 : DC b_M_moves 461 (.getfield 245) 3 464 := ⟨by decide +kernel, rfl⟩
theorem d_M_moves_464 : DB b_M_moves 464 (.if_icmp .ge 74) 74 538 467 := ⟨by decide +kernel, by decide, rfl⟩
theorem d_M_moves_467 : DC b_M_moves 467 (.aload_n 0) 1 468 := ⟨by decide +kernel, rfl⟩
theorem d_M_moves_468 : DC b_M_moves 468 (.getfield 99) 3 471 := ⟨by decide +kernel, rfl⟩
theorem d_M_moves_471 : DC b_M_moves 471 (.iload_n 1) 1 472 := ⟨by decide +kernel, rfl⟩
theorem d_M_moves_472 : DC b_M_moves 472 (.iaload) 1 473 := ⟨by decide +kernel, rfl⟩
theorem d_M_moves_473 : DB b_M_moves 473 (.ifCond .ne 59) 59 532 476 := ⟨by decide +kernel, by decide, rfl⟩
theorem d_M_moves_476 : DC b_M_moves 476 (.aload_n 0) 1 477 := ⟨by decide +kernel, rfl⟩
theorem d_M_moves_477 : DC b_M_moves 477 (.getfield 77) 3 480 := ⟨by decide +kernel, rfl⟩
theorem d_M_moves_480 : DC b_M_moves 480 (.iload_n 1) 1 481 := ⟨by decide +kernel, rfl⟩
theorem d_M_moves_481 : DC b_M_moves 481 (.dup2) 1 482 := ⟨by decide +kernel, rfl⟩
theorem d_M_moves_482 : DC b_M_moves 482 (.laload) 1 483 := ⟨by decide +kernel, rfl⟩
theorem d_M_moves_483 : DC b_M_moves 483 (.aload_n 0) 1 484 := ⟨by decide +kernel, rfl⟩
theorem d_M_moves_484 : DC b_M_moves 484 (.getfield 87) 3 487 := ⟨by decide +kernel, rfl⟩
theorem d_M_moves_487 : DC b_M_moves 487 (.iload_n 1) 1 488 := ⟨by decide +kernel, rfl⟩
theorem d_M_moves_488 : DC b_M_moves 488 (.laload) 1 489 := ⟨by decide +kernel, rfl⟩
theorem d_M_moves_489 : DC b_M_moves 489 (.aload_n 0) 1 490 := ⟨by decide +kernel, rfl⟩
theorem d_M_moves_490 : DC b_M_moves 490 (.getfield 13) 3 493 := ⟨by decide +kernel, rfl⟩
theorem d_M_moves_493 : DC b_M_moves 493 (.aload_n 0) 1 494 := ⟨by decide +kernel, rfl⟩
theorem d_M_moves_494 : DC b_M_moves 494 (.getfield 74) 3 497 := ⟨by decide +kernel, rfl⟩
theorem d_M_moves_497 : DC b_M_moves 497 (.iload_n 1) 1 498 := ⟨by decide +kernel, rfl⟩
theorem d_M_moves_498 : DC b_M_moves 498 (.iaload) 1 499 := ⟨by decide +kernel, rfl⟩
theorem d_M_moves_499 : DC b_M_moves 499 (.iaload) 1 500 := ⟨by decide +kernel, rfl⟩
theorem d_M_moves_500 : DC b_M_moves 500 (.i2l) 1 501 := ⟨by decide +kernel, rfl⟩
theorem d_M_moves_501 : DC b_M_moves 501 (.ldiv) 1 502 := ⟨by decide +kernel, rfl⟩
theorem d_M_moves_502 : DC b_M_moves 502 (.ladd) 1 503 := ⟨by decide +kernel, rfl⟩
theorem d_M_moves_503 : DC b_M_moves 503 (.lastore) 1 504 := ⟨by decide +kernel, rfl⟩
theorem d_M_moves_504 : DC b_M_moves 504 (.aload_n 0) 1 505 := ⟨by decide +kernel, rfl⟩
theorem d_M_moves_505 : DC b_M_moves 505 (.getfield 81) 3 508 := ⟨by decide +kernel, rfl⟩
theorem d_M_moves_508 : DC b_M_moves 508 (.iload_n 1) 1 509 := ⟨by decide +kernel, rfl⟩
theorem d_M_moves_509 : DC b_M_moves 509 (.dup2) 1 510 := ⟨by decide +kernel, rfl⟩
theorem d_M_moves_510 : DC b_M_moves 510 (.laload) 1 511 := ⟨by decide +kernel, rfl⟩
theorem d_M_moves_511 : DC b_M_moves 511 (.aload_n 0) 1 512 := ⟨by decide +kernel, rfl⟩
theorem d_M_moves_512 : DC b_M_moves 512 (.getfield 90) 3 515 := ⟨by decide +kernel, rfl⟩
theorem d_M_moves_515 : DC b_M_moves 515 (.iload_n 1) 1 516 := ⟨by decide +kernel, rfl⟩
theorem d_M_moves_516 : DC b_M_moves 516 (.laload) 1 517 := ⟨by decide +kernel, rfl⟩
theorem d_M_moves_517 : DC b_M_moves 517 (.aload_n 0) 1 518 := ⟨by decide +kernel, rfl⟩
theorem d_M_moves_518 : DC b_M_moves 518 (.getfield 13) 3 521 := ⟨by decide +kernel, rfl⟩
theorem d_M_moves_521 : DC b_M_moves 521 (.aload_n 0) 1 522 := ⟨by decide +kernel, rfl⟩
theorem d_M_moves_522 : DC b_M_moves 522 (.getfield 74) 3 525 := ⟨by decide +kernel, rfl⟩
theorem d_M_moves_525 : DC b_M_moves 525 (.iload_n 1) 1 526 := ⟨by decide +kernel, rfl⟩
theorem d_M_moves_526 : DC b_M_moves 526 (.iaload) 1 527 := ⟨by decide +kernel, rfl⟩
theorem d_M_moves_527 : DC b_M_moves 527 (.iaload) 1 528 := ⟨by decide +kernel, rfl⟩
theorem d_M_moves_528 : DC b_M_moves 528 (.i2l) 1 529 := ⟨by decide +kernel, rfl⟩
theorem d_M_moves_529 : DC b_M_moves 529 (.ldiv) 1 530 := ⟨by decide +kernel, rfl⟩
theorem d_M_moves_530 : DC b_M_moves 530 (.ladd) 1 531 := ⟨by decide +kernel, rfl⟩
theorem d_M_moves_531 : DC b_M_moves 531 (.lastore) 1 532 := ⟨by decide +kernel, rfl⟩
theorem d_M_moves_532 : DC b_M_moves 532 (.iinc 1 1) 3 535 := ⟨by decide +kernel, rfl⟩
theorem d_M_moves_535 : DB b_M_moves 535 (.goto (-76)) (-76) 459 538 := ⟨by decide +kernel, by decide, rfl⟩
theorem d_M_moves_538 : DC b_M_moves 538 (.iconst 0) 1 539 := ⟨by decide +kernel, rfl⟩
theorem d_M_moves_539 : DC b_M_moves 539 (.istore_n 1) 1 540 := ⟨by decide +kernel, rfl⟩
theorem d_M_moves_540 : DC b_M_moves 540 (.iload_n 1) 1 541 := ⟨by decide +kernel, rfl⟩
theorem d_M_moves_541 : DC b_M_moves 541 (.aload_n 0) 1 542 := ⟨by decide +kernel, rfl⟩
theorem d_M_moves_542 : DC b_M_moves 542 (.getfield 245) 3 545 := ⟨by decide +kernel, rfl⟩
theorem d_M_moves_545 : DB b_M_moves 545 (.if_icmp .ge 71) 71 616 548 := ⟨by decide +kernel, by decide, rfl⟩
theorem d_M_moves_548 : DC b_M_moves 548 (.aload_n 0) 1 549 := ⟨by decide +kernel, rfl⟩
theorem d_M_moves_549 : DC b_M_moves 549 (.getfield 99) 3 552 := ⟨by decide +kernel, rfl⟩
theorem d_M_moves_552 : DC b_M_moves 552 (.iload_n 1) 1 553 := ⟨by decide +kernel, rfl⟩
theorem d_M_moves_553 : DC b_M_moves 553 (.iaload) 1 554 := ⟨by decide +kernel, rfl⟩
theorem d_M_moves_554 : DB b_M_moves 554 (.ifCond .ne 56) 56 610 557 := ⟨by decide +kernel, by decide, rfl⟩
theorem d_M_moves_557 : DC b_M_moves 557 (.aload_n 0) 1 558 := ⟨by decide +kernel, rfl⟩
theorem d_M_moves_558 : DC b_M_moves 558 (.getfield 77) 3 561 := ⟨by decide +kernel, rfl⟩
theorem d_M_moves_561 : DC b_M_moves 561 (.iload_n 1) 1 562 := ⟨by decide +kernel, rfl⟩
theorem d_M_moves_562 : DC b_M_moves 562 (.laload) 1 563 := ⟨by decide +kernel, rfl⟩
theorem d_M_moves_563 : DC b_M_moves 563 (.aload_n 0) 1 564 := ⟨by decide +kernel, rfl⟩
theorem d_M_moves_564 : DC b_M_moves 564 (.getfield 77) 3 567 := ⟨by decide +kernel, rfl⟩
theorem d_M_moves_567 : DC b_M_moves 567 (.iload_n 1) 1 568 := ⟨by decide +kernel, rfl⟩
theorem d_M_moves_568 : DC b_M_moves 568 (.laload) 1 569 := ⟨by decide +kernel, rfl⟩
theorem d_M_moves_569 : DC b_M_moves 569 (.lmul) 1 570 := ⟨by decide +kernel, rfl⟩
theorem d_M_moves_570 : DC b_M_moves 570 (.aload_n 0) 1 571 := ⟨by decide +kernel, rfl⟩
theorem d_M_moves_571 : DC b_M_moves 571 (.getfield 81) 3 574 := ⟨by decide +kernel, rfl⟩
theorem d_M_moves_574 : DC b_M_moves 574 (.iload_n 1) 1 575 := ⟨by decide +kernel, rfl⟩
theorem d_M_moves_575 : DC b_M_moves 575 (.laload) 1 576 := ⟨by decide +kernel, rfl⟩
theorem d_M_moves_576 : DC b_M_moves 576 (.aload_n 0) 1 577 := ⟨by decide +kernel, rfl⟩
theorem d_M_moves_577 : DC b_M_moves 577 (.getfield 81) 3 580 := ⟨by decide +kernel, rfl⟩
theorem d_M_moves_580 : DC b_M_moves 580 (.iload_n 1) 1 581 := ⟨by decide +kernel, rfl⟩
theorem d_M_moves_581 : DC b_M_moves 581 (.laload) 1 582 := ⟨by decide +kernel, rfl⟩
theorem d_M_moves_582 : DC b_M_moves 582 (.lmul) 1 583 := ⟨by decide +kernel, rfl⟩
theorem d_M_moves_583 : DC b_M_moves 583 (.ladd) 1 584 := ⟨by decide +kernel, rfl⟩
theorem d_M_moves_584 : DC b_M_moves 584 (.ldc2_w 256) 3 587 := ⟨by decide +kernel, rfl⟩
theorem d_M_moves_587 : DC b_M_moves 587 (.aload_n 0) 1 588 := ⟨by decide +kernel, rfl⟩
theorem d_M_moves_588 : DC b_M_moves 588 (.getfield 34) 3 591 := ⟨by decide +kernel, rfl⟩
theorem d_M_moves_591 : DC b_M_moves 591 (.i2l) 1 592 := ⟨by decide +kernel, rfl⟩
theorem d_M_moves_592 : DC b_M_moves 592 (.lmul) 1 593 := ⟨by decide +kernel, rfl⟩
theorem d_M_moves_593 : DC b_M_moves 593 (.aload_n 0) 1 594 := ⟨by decide +kernel, rfl⟩
theorem d_M_moves_594 : DC b_M_moves 594 (.getfield 34) 3 597 := ⟨by decide +kernel, rfl⟩
theorem d_M_moves_597 : DC b_M_moves 597 (.i2l) 1 598 := ⟨by decide +kernel, rfl⟩
theorem d_M_moves_598 : DC b_M_moves 598 (.lmul) 1 599 := ⟨by decide +kernel, rfl⟩
theorem d_M_moves_599 : DC b_M_moves 599 (.lcmp) 1 600 := ⟨by decide +kernel, rfl⟩
theorem d_M_moves_600 : DB b_M_moves 600 (.ifCond .le 10) 10 610 603 := ⟨by decide +kernel, by decide, rfl⟩
theorem d_M_moves_603 : DC b_M_moves 603 (.aload_n 0) 1 604 := ⟨by decide +kernel, rfl⟩
theorem d_M_moves_604 : DC b_M_moves 604 (.getfield 99) 3 607 := ⟨by decide +kernel, rfl⟩
theorem d_M_moves_607 : DC b_M_moves 607 (.iload_n 1) 1 608 := ⟨by decide +kernel, rfl⟩
theorem d_M_moves_608 : DC b_M_moves 608 (.iconst 1) 1 609 := ⟨by decide +kernel, rfl⟩
theorem d_M_moves_609 : DC b_M_moves 609 (.iastore) 1 610 := ⟨by decide +kernel, rfl⟩
theorem d_M_moves_610 : DC b_M_moves 610 (.iinc 1 1) 3 613 := ⟨by decide +kernel, rfl⟩
theorem d_M_moves_613 : DB b_M_moves 613 (.goto (-73)) (-73) 540 616 := ⟨by decide +kernel, by decide, rfl⟩
theorem d_M_moves_616 : decode b_M_moves 616 = .ok (.return_, 1) := by decide +kernel
theorem w_M_moves_b82 {X : Ctx} {Y : Lay} (hY : IsM Y) (C : Cx X Y b_M_moves 5 none "TopYardModel" 3) {N : Nat} {r : Mem} (k2 : Int32 → Mem → Option (Mem)) (hk2 : ∀ (x1 : Int32) (ν : Mem), k2 x1 ν = some r → J X Y none r 5 2 [(0, .ref (yad Y 0)), (1, .int x1)] [] ν) (x1 : Int32) (μ : Mem) (hf : f_M_moves_b82 N k2 x1 μ = some r) : J X Y none r 5 82 [(0, .ref (yad Y 0)), (1, .int x1)] [] μ := by
  unfold f_M_moves_b82 at hf
  refine j_iinc (lvf := [(0, .ref (yad Y 0))]) (v := 1) C d_M_moves_82 1 rfl (by decide) (by decide) rfl hf (fun v1 hf => ?_)
  refine j_goto C d_M_moves_85 ?_
  refine j_sub [1, 0] rfl ?_
  exact hk2 v1 μ hf
theorem w_M_moves_b81 {X : Ctx} {Y : Lay} (hY : IsM Y) (C : Cx X Y b_M_moves 5 none "TopYardModel" 3) {N : Nat} {r : Mem} (k2 : Int32 → Mem → Option (Mem)) (hk2 : ∀ (x1 : Int32) (ν : Mem), k2 x1 ν = some r → J X Y none r 5 2 [(0, .ref (yad Y 0)), (1, .int x1)] [] ν) (x1 : Int32) (xs0 : Int32) (xs1 : Int32) (μ : Mem) (hf : f_M_moves_b81 N k2 x1 xs0 xs1 μ = some r) : J X Y none r 5 81 [(0, .ref (yad Y 0)), (1, .int x1)] [.int xs0, .int xs1, .ref (yad Y 26)] μ := by
  unfold f_M_moves_b81 at hf
  refine ck hf (fun hi1 hf => ?_)
  refine j_iast C (kM hY rfl) (nM hY (by decide)) (lM hY rfl) hi1 d_M_moves_81 hf (fun μ2 hf => ?_)
  refine j_sub [0, 1] rfl ?_
  exact w_M_moves_b82 hY C k2 hk2 x1 μ2 hf
theorem w_M_moves_b179 {X : Ctx} {Y : Lay} (hY : IsM Y) (C : Cx X Y b_M_moves 5 none "TopYardModel" 3) {N : Nat} {r : Mem} (k90 : Int32 → Mem → Option (Mem)) (hk90 : ∀ (x1 : Int32) (ν : Mem), k90 x1 ν = some r → J X Y none r 5 90 [(0, .ref (yad Y 0)), (1, .int x1)] [] ν) (x1 : Int32) (μ : Mem) (hf : f_M_moves_b179 N k90 x1 μ = some r) : J X Y none r 5 179 [(0, .ref (yad Y 0)), (1, .int x1)] [] μ := by
  unfold f_M_moves_b179 at hf
  refine j_iinc (lvf := [(0, .ref (yad Y 0))]) (v := 1) C d_M_moves_179 1 rfl (by decide) (by decide) rfl hf (fun v1 hf => ?_)
  refine j_goto C d_M_moves_182 ?_
  refine j_sub [1, 0] rfl ?_
  exact hk90 v1 μ hf
theorem w_M_moves_b154 {X : Ctx} {Y : Lay} (hY : IsM Y) (C : Cx X Y b_M_moves 5 none "TopYardModel" 3) {N : Nat} {r : Mem} (k90 : Int32 → Mem → Option (Mem)) (hk90 : ∀ (x1 : Int32) (ν : Mem), k90 x1 ν = some r → J X Y none r 5 90 [(0, .ref (yad Y 0)), (1, .int x1)] [] ν) (x1 : Int32) (xs0 : Int32) (xs1 : Int32) (μ : Mem) (hf : f_M_moves_b154 N k90 x1 xs0 xs1 μ = some r) : J X Y none r 5 154 [(0, .ref (yad Y 0)), (1, .int x1)] [.int xs0, .int xs1, .ref (yad Y 27)] μ := by
  unfold f_M_moves_b154 at hf
  refine ck hf (fun hi1 hf => ?_)
  refine j_iast C (kM hY rfl) (nM hY (by decide)) (lM hY rfl) hi1 d_M_moves_154 hf (fun μ2 hf => ?_)
  refine j_goto C d_M_moves_155 ?_
  refine j_sub [0, 1] rfl ?_
  exact w_M_moves_b179 hY C k90 hk90 x1 μ2 hf
theorem w_M_moves_b388 {X : Ctx} {Y : Lay} (hY : IsM Y) (C : Cx X Y b_M_moves 5 none "TopYardModel" 3) {N : Nat} {r : Mem} (k187 : Int32 → Mem → Option (Mem)) (hk187 : ∀ (x1 : Int32) (ν : Mem), k187 x1 ν = some r → J X Y none r 5 187 [(0, .ref (yad Y 0)), (1, .int x1)] [] ν) (x1 : Int32) (μ : Mem) (hf : f_M_moves_b388 N k187 x1 μ = some r) : J X Y none r 5 388 [(0, .ref (yad Y 0)), (1, .int x1)] [] μ := by
  unfold f_M_moves_b388 at hf
  refine j_iinc (lvf := [(0, .ref (yad Y 0))]) (v := 1) C d_M_moves_388 1 rfl (by decide) (by decide) rfl hf (fun v1 hf => ?_)
  refine j_goto C d_M_moves_391 ?_
  refine j_sub [1, 0] rfl ?_
  exact hk187 v1 μ hf
theorem w_M_moves_b451 {X : Ctx} {Y : Lay} (hY : IsM Y) (C : Cx X Y b_M_moves 5 none "TopYardModel" 3) {N : Nat} {r : Mem} (k396 : Int32 → Mem → Option (Mem)) (hk396 : ∀ (x1 : Int32) (ν : Mem), k396 x1 ν = some r → J X Y none r 5 396 [(0, .ref (yad Y 0)), (1, .int x1)] [] ν) (x1 : Int32) (μ : Mem) (hf : f_M_moves_b451 N k396 x1 μ = some r) : J X Y none r 5 451 [(0, .ref (yad Y 0)), (1, .int x1)] [] μ := by
  unfold f_M_moves_b451 at hf
  refine j_iinc (lvf := [(0, .ref (yad Y 0))]) (v := 1) C d_M_moves_451 1 rfl (by decide) (by decide) rfl hf (fun v1 hf => ?_)
  refine j_goto C d_M_moves_454 ?_
  refine j_sub [1, 0] rfl ?_
  exact hk396 v1 μ hf
theorem w_M_moves_b532 {X : Ctx} {Y : Lay} (hY : IsM Y) (C : Cx X Y b_M_moves 5 none "TopYardModel" 3) {N : Nat} {r : Mem} (k459 : Int32 → Mem → Option (Mem)) (hk459 : ∀ (x1 : Int32) (ν : Mem), k459 x1 ν = some r → J X Y none r 5 459 [(0, .ref (yad Y 0)), (1, .int x1)] [] ν) (x1 : Int32) (μ : Mem) (hf : f_M_moves_b532 N k459 x1 μ = some r) : J X Y none r 5 532 [(0, .ref (yad Y 0)), (1, .int x1)] [] μ := by
  unfold f_M_moves_b532 at hf
  refine j_iinc (lvf := [(0, .ref (yad Y 0))]) (v := 1) C d_M_moves_532 1 rfl (by decide) (by decide) rfl hf (fun v1 hf => ?_)
  refine j_goto C d_M_moves_535 ?_
  refine j_sub [1, 0] rfl ?_
  exact hk459 v1 μ hf
theorem w_M_moves_b610 {X : Ctx} {Y : Lay} (hY : IsM Y) (C : Cx X Y b_M_moves 5 none "TopYardModel" 3) {N : Nat} {r : Mem} (k540 : Int32 → Mem → Option (Mem)) (hk540 : ∀ (x1 : Int32) (ν : Mem), k540 x1 ν = some r → J X Y none r 5 540 [(0, .ref (yad Y 0)), (1, .int x1)] [] ν) (x1 : Int32) (μ : Mem) (hf : f_M_moves_b610 N k540 x1 μ = some r) : J X Y none r 5 610 [(0, .ref (yad Y 0)), (1, .int x1)] [] μ := by
  unfold f_M_moves_b610 at hf
  refine j_iinc (lvf := [(0, .ref (yad Y 0))]) (v := 1) C d_M_moves_610 1 rfl (by decide) (by decide) rfl hf (fun v1 hf => ?_)
  refine j_goto C d_M_moves_613 ?_
  refine j_sub [1, 0] rfl ?_
  exact hk540 v1 μ hf
theorem w_M_moves_l540 {X : Ctx} {Y : Lay} (hY : IsM Y) (C : Cx X Y b_M_moves 5 none "TopYardModel" 3) {N : Nat} {r : Mem} : ∀ (n : Nat) (x1 : Int32) (μ : Mem), f_M_moves_l540 N n x1 μ = some r → J X Y none r 5 540 [(0, .ref (yad Y 0)), (1, .int x1)] [] μ := by
  intro n
  induction n with
  | zero => intro x1 μ hf; rw [f_M_moves_l540] at hf; cases hf
  | succ n ih =>
    intro x1 μ hf
    rw [f_M_moves_l540] at hf
    refine j_iload_n C d_M_moves_540 1 rfl ?_
    refine j_aload_n C d_M_moves_541 0 rfl ?_
    refine j_gI C fl_M_245 (kM hY rfl) (nM hY (by decide)) rfl d_M_moves_542 ?_
    refine j_icmp_ge C d_M_moves_545 hf (fun hf => ?_) (fun hf => ?_)
    · obtain rfl := Option.some.inj hf
      exact j_vret C d_M_moves_616
    · refine j_aload_n C d_M_moves_548 0 rfl ?_
      refine j_gS (b := 28) C fl_M_99 (kM hY rfl) (nM hY (by decide)) rfl hY.2.2.2.1 rfl (sM hY rfl) d_M_moves_549 ?_
      refine j_iload_n C d_M_moves_552 1 rfl ?_
      refine ck hf (fun hi1 hf => ?_)
      refine j_iald C (kM hY rfl) (nM hY (by decide)) (lM hY rfl) hi1 d_M_moves_553 ?_
      refine j_if_ne C d_M_moves_554 hf (fun hf => ?_) (fun hf => ?_)
      · refine j_sub [0, 1] rfl ?_
        exact w_M_moves_b610 hY C (f_M_moves_l540 N n) ih x1 μ hf
      · refine j_aload_n C d_M_moves_557 0 rfl ?_
        refine j_gS (b := 21) C fl_M_77 (kM hY rfl) (nM hY (by decide)) rfl hY.2.2.2.1 rfl (sM hY rfl) d_M_moves_558 ?_
        refine j_iload_n C d_M_moves_561 1 rfl ?_
        refine ck hf (fun hi2 hf => ?_)
        refine j_lald C (kM hY rfl) (nM hY (by decide)) (lM hY rfl) hi2 d_M_moves_562 ?_
        refine j_aload_n C d_M_moves_563 0 rfl ?_
        refine j_gS (b := 21) C fl_M_77 (kM hY rfl) (nM hY (by decide)) rfl hY.2.2.2.1 rfl (sM hY rfl) d_M_moves_564 ?_
        refine j_iload_n C d_M_moves_567 1 rfl ?_
        refine ck hf (fun hi3 hf => ?_)
        refine j_lald C (kM hY rfl) (nM hY (by decide)) (lM hY rfl) hi3 d_M_moves_568 ?_
        refine j_lmul C d_M_moves_569 ?_
        refine j_aload_n C d_M_moves_570 0 rfl ?_
        refine j_gS (b := 22) C fl_M_81 (kM hY rfl) (nM hY (by decide)) rfl hY.2.2.2.1 rfl (sM hY rfl) d_M_moves_571 ?_
        refine j_iload_n C d_M_moves_574 1 rfl ?_
        refine ck hf (fun hi4 hf => ?_)
        refine j_lald C (kM hY rfl) (nM hY (by decide)) (lM hY rfl) hi4 d_M_moves_575 ?_
        refine j_aload_n C d_M_moves_576 0 rfl ?_
        refine j_gS (b := 22) C fl_M_81 (kM hY rfl) (nM hY (by decide)) rfl hY.2.2.2.1 rfl (sM hY rfl) d_M_moves_577 ?_
        refine j_iload_n C d_M_moves_580 1 rfl ?_
        refine ck hf (fun hi5 hf => ?_)
        refine j_lald C (kM hY rfl) (nM hY (by decide)) (lM hY rfl) hi5 d_M_moves_581 ?_
        refine j_lmul C d_M_moves_582 ?_
        refine j_ladd C d_M_moves_583 ?_
        refine j_ldc2 (v := 4225) C d_M_moves_584 wd_203 ?_
        refine j_aload_n C d_M_moves_587 0 rfl ?_
        refine j_gI C fl_M_34 (kM hY rfl) (nM hY (by decide)) rfl d_M_moves_588 ?_
        refine j_i2l C d_M_moves_591 ?_
        refine j_lmul C d_M_moves_592 ?_
        refine j_aload_n C d_M_moves_593 0 rfl ?_
        refine j_gI C fl_M_34 (kM hY rfl) (nM hY (by decide)) rfl d_M_moves_594 ?_
        refine j_i2l C d_M_moves_597 ?_
        refine j_lmul C d_M_moves_598 ?_
        refine j_lcmp_le C d_M_moves_599 d_M_moves_600 hf (fun hf => ?_) (fun hf => ?_)
        · refine j_sub [0, 1] rfl ?_
          exact w_M_moves_b610 hY C (f_M_moves_l540 N n) ih x1 μ hf
        · refine j_aload_n C d_M_moves_603 0 rfl ?_
          refine j_gS (b := 28) C fl_M_99 (kM hY rfl) (nM hY (by decide)) rfl hY.2.2.2.1 rfl (sM hY rfl) d_M_moves_604 ?_
          refine j_iload_n C d_M_moves_607 1 rfl ?_
          refine j_iconst (v := 1) C d_M_moves_608 (by decide) ?_
          refine ck hf (fun hi6 hf => ?_)
          refine j_iast C (kM hY rfl) (nM hY (by decide)) (lM hY rfl) hi6 d_M_moves_609 hf (fun μ7 hf => ?_)
          refine j_sub [0, 1] rfl ?_
          exact w_M_moves_b610 hY C (f_M_moves_l540 N n) ih x1 μ7 hf
theorem w_M_moves_l459 {X : Ctx} {Y : Lay} (hY : IsM Y) (C : Cx X Y b_M_moves 5 none "TopYardModel" 3) {N : Nat} {r : Mem} : ∀ (n : Nat) (x1 : Int32) (μ : Mem), f_M_moves_l459 N n x1 μ = some r → J X Y none r 5 459 [(0, .ref (yad Y 0)), (1, .int x1)] [] μ := by
  intro n
  induction n with
  | zero => intro x1 μ hf; rw [f_M_moves_l459] at hf; cases hf
  | succ n ih =>
    intro x1 μ hf
    rw [f_M_moves_l459] at hf
    refine j_iload_n C d_M_moves_459 1 rfl ?_
    refine j_aload_n C d_M_moves_460 0 rfl ?_
    refine j_gI C fl_M_245 (kM hY rfl) (nM hY (by decide)) rfl d_M_moves_461 ?_
    refine j_icmp_ge C d_M_moves_464 hf (fun hf => ?_) (fun hf => ?_)
    · refine j_iconst (v := 0) C d_M_moves_538 (by decide) ?_
      refine j_istore_n (lvf := [(0, .ref (yad Y 0))]) C d_M_moves_539 (by decide) rfl ?_
      refine j_sub [1, 0] rfl ?_
      exact w_M_moves_l540 hY C N 0 μ hf
    · refine j_aload_n C d_M_moves_467 0 rfl ?_
      refine j_gS (b := 28) C fl_M_99 (kM hY rfl) (nM hY (by decide)) rfl hY.2.2.2.1 rfl (sM hY rfl) d_M_moves_468 ?_
      refine j_iload_n C d_M_moves_471 1 rfl ?_
      refine ck hf (fun hi1 hf => ?_)
      refine j_iald C (kM hY rfl) (nM hY (by decide)) (lM hY rfl) hi1 d_M_moves_472 ?_
      refine j_if_ne C d_M_moves_473 hf (fun hf => ?_) (fun hf => ?_)
      · refine j_sub [0, 1] rfl ?_
        exact w_M_moves_b532 hY C (f_M_moves_l459 N n) ih x1 μ hf
      · refine j_aload_n C d_M_moves_476 0 rfl ?_
        refine j_gS (b := 21) C fl_M_77 (kM hY rfl) (nM hY (by decide)) rfl hY.2.2.2.1 rfl (sM hY rfl) d_M_moves_477 ?_
        refine j_iload_n C d_M_moves_480 1 rfl ?_
        refine j_dup2 C d_M_moves_481 rfl rfl ?_
        refine ck hf (fun hi2 hf => ?_)
        refine j_lald C (kM hY rfl) (nM hY (by decide)) (lM hY rfl) hi2 d_M_moves_482 ?_
        refine j_aload_n C d_M_moves_483 0 rfl ?_
        refine j_gS (b := 24) C fl_M_87 (kM hY rfl) (nM hY (by decide)) rfl hY.2.2.2.1 rfl (sM hY rfl) d_M_moves_484 ?_
        refine j_iload_n C d_M_moves_487 1 rfl ?_
        refine ck hf (fun hi3 hf => ?_)
        refine j_lald C (kM hY rfl) (nM hY (by decide)) (lM hY rfl) hi3 d_M_moves_488 ?_
        refine j_aload_n C d_M_moves_489 0 rfl ?_
        refine j_gS (b := 2) C fl_M_13 (kM hY rfl) (nM hY (by decide)) rfl hY.2.2.2.1 rfl (sM hY rfl) d_M_moves_490 ?_
        refine j_aload_n C d_M_moves_493 0 rfl ?_
        refine j_gS (b := 20) C fl_M_74 (kM hY rfl) (nM hY (by decide)) rfl hY.2.2.2.1 rfl (sM hY rfl) d_M_moves_494 ?_
        refine j_iload_n C d_M_moves_497 1 rfl ?_
        refine ck hf (fun hi4 hf => ?_)
        refine j_iald C (kM hY rfl) (nM hY (by decide)) (lM hY rfl) hi4 d_M_moves_498 ?_
        refine ck hf (fun hi5 hf => ?_)
        refine j_iald C (kM hY rfl) (nM hY (by decide)) (lM hY rfl) hi5 d_M_moves_499 ?_
        refine j_i2l C d_M_moves_500 ?_
        refine ckn hf (fun hz15 hf => ?_)
        refine j_ldiv C d_M_moves_501 hz15 ?_
        refine j_ladd C d_M_moves_502 ?_
        refine ck hf (fun hi6 hf => ?_)
        refine j_last C (kM hY rfl) (nM hY (by decide)) (lM hY rfl) hi6 d_M_moves_503 hf (fun μ7 hf => ?_)
        refine j_aload_n C d_M_moves_504 0 rfl ?_
        refine j_gS (b := 22) C fl_M_81 (kM hY rfl) (nM hY (by decide)) rfl hY.2.2.2.1 rfl (sM hY rfl) d_M_moves_505 ?_
        refine j_iload_n C d_M_moves_508 1 rfl ?_
        refine j_dup2 C d_M_moves_509 rfl rfl ?_
        refine ck hf (fun hi8 hf => ?_)
        refine j_lald C (kM hY rfl) (nM hY (by decide)) (lM hY rfl) hi8 d_M_moves_510 ?_
        refine j_aload_n C d_M_moves_511 0 rfl ?_
        refine j_gS (b := 25) C fl_M_90 (kM hY rfl) (nM hY (by decide)) rfl hY.2.2.2.1 rfl (sM hY rfl) d_M_moves_512 ?_
        refine j_iload_n C d_M_moves_515 1 rfl ?_
        refine ck hf (fun hi9 hf => ?_)
        refine j_lald C (kM hY rfl) (nM hY (by decide)) (lM hY rfl) hi9 d_M_moves_516 ?_
        refine j_aload_n C d_M_moves_517 0 rfl ?_
        refine j_gS (b := 2) C fl_M_13 (kM hY rfl) (nM hY (by decide)) rfl hY.2.2.2.1 rfl (sM hY rfl) d_M_moves_518 ?_
        refine j_aload_n C d_M_moves_521 0 rfl ?_
        refine j_gS (b := 20) C fl_M_74 (kM hY rfl) (nM hY (by decide)) rfl hY.2.2.2.1 rfl (sM hY rfl) d_M_moves_522 ?_
        refine j_iload_n C d_M_moves_525 1 rfl ?_
        refine ck hf (fun hi10 hf => ?_)
        refine j_iald C (kM hY rfl) (nM hY (by decide)) (lM hY rfl) hi10 d_M_moves_526 ?_
        refine ck hf (fun hi11 hf => ?_)
        refine j_iald C (kM hY rfl) (nM hY (by decide)) (lM hY rfl) hi11 d_M_moves_527 ?_
        refine j_i2l C d_M_moves_528 ?_
        refine ckn hf (fun hz14 hf => ?_)
        refine j_ldiv C d_M_moves_529 hz14 ?_
        refine j_ladd C d_M_moves_530 ?_
        refine ck hf (fun hi12 hf => ?_)
        refine j_last C (kM hY rfl) (nM hY (by decide)) (lM hY rfl) hi12 d_M_moves_531 hf (fun μ13 hf => ?_)
        refine j_sub [0, 1] rfl ?_
        exact w_M_moves_b532 hY C (f_M_moves_l459 N n) ih x1 μ13 hf
theorem w_M_moves_l396 {X : Ctx} {Y : Lay} (hY : IsM Y) (C : Cx X Y b_M_moves 5 none "TopYardModel" 3) {N : Nat} {r : Mem} : ∀ (n : Nat) (x1 : Int32) (μ : Mem), f_M_moves_l396 N n x1 μ = some r → J X Y none r 5 396 [(0, .ref (yad Y 0)), (1, .int x1)] [] μ := by
  intro n
  induction n with
  | zero => intro x1 μ hf; rw [f_M_moves_l396] at hf; cases hf
  | succ n ih =>
    intro x1 μ hf
    rw [f_M_moves_l396] at hf
    refine j_iload_n C d_M_moves_396 1 rfl ?_
    refine j_aload_n C d_M_moves_397 0 rfl ?_
    refine j_gI C fl_M_245 (kM hY rfl) (nM hY (by decide)) rfl d_M_moves_398 ?_
    refine j_icmp_ge C d_M_moves_401 hf (fun hf => ?_) (fun hf => ?_)
    · refine j_iconst (v := 0) C d_M_moves_457 (by decide) ?_
      refine j_istore_n (lvf := [(0, .ref (yad Y 0))]) C d_M_moves_458 (by decide) rfl ?_
      refine j_sub [1, 0] rfl ?_
      exact w_M_moves_l459 hY C N 0 μ hf
    · refine j_aload_n C d_M_moves_404 0 rfl ?_
      refine j_gS (b := 28) C fl_M_99 (kM hY rfl) (nM hY (by decide)) rfl hY.2.2.2.1 rfl (sM hY rfl) d_M_moves_405 ?_
      refine j_iload_n C d_M_moves_408 1 rfl ?_
      refine ck hf (fun hi1 hf => ?_)
      refine j_iald C (kM hY rfl) (nM hY (by decide)) (lM hY rfl) hi1 d_M_moves_409 ?_
      refine j_if_ne C d_M_moves_410 hf (fun hf => ?_) (fun hf => ?_)
      · refine j_sub [0, 1] rfl ?_
        exact w_M_moves_b451 hY C (f_M_moves_l396 N n) ih x1 μ hf
      · refine j_aload_n C d_M_moves_413 0 rfl ?_
        refine j_gS (b := 24) C fl_M_87 (kM hY rfl) (nM hY (by decide)) rfl hY.2.2.2.1 rfl (sM hY rfl) d_M_moves_414 ?_
        refine j_iload_n C d_M_moves_417 1 rfl ?_
        refine j_dup2 C d_M_moves_418 rfl rfl ?_
        refine ck hf (fun hi2 hf => ?_)
        refine j_lald C (kM hY rfl) (nM hY (by decide)) (lM hY rfl) hi2 d_M_moves_419 ?_
        refine j_aload_n C d_M_moves_420 0 rfl ?_
        refine j_gS (b := 24) C fl_M_87 (kM hY rfl) (nM hY (by decide)) rfl hY.2.2.2.1 rfl (sM hY rfl) d_M_moves_421 ?_
        refine j_iload_n C d_M_moves_424 1 rfl ?_
        refine ck hf (fun hi3 hf => ?_)
        refine j_lald C (kM hY rfl) (nM hY (by decide)) (lM hY rfl) hi3 d_M_moves_425 ?_
        refine j_ldc2 (v := 16) C d_M_moves_426 wd_202 ?_
        refine j_ldiv C d_M_moves_429 (by decide) ?_
        refine j_lsub C d_M_moves_430 ?_
        refine ck hf (fun hi4 hf => ?_)
        refine j_last C (kM hY rfl) (nM hY (by decide)) (lM hY rfl) hi4 d_M_moves_431 hf (fun μ5 hf => ?_)
        refine j_aload_n C d_M_moves_432 0 rfl ?_
        refine j_gS (b := 25) C fl_M_90 (kM hY rfl) (nM hY (by decide)) rfl hY.2.2.2.1 rfl (sM hY rfl) d_M_moves_433 ?_
        refine j_iload_n C d_M_moves_436 1 rfl ?_
        refine j_dup2 C d_M_moves_437 rfl rfl ?_
        refine ck hf (fun hi6 hf => ?_)
        refine j_lald C (kM hY rfl) (nM hY (by decide)) (lM hY rfl) hi6 d_M_moves_438 ?_
        refine j_aload_n C d_M_moves_439 0 rfl ?_
        refine j_gS (b := 25) C fl_M_90 (kM hY rfl) (nM hY (by decide)) rfl hY.2.2.2.1 rfl (sM hY rfl) d_M_moves_440 ?_
        refine j_iload_n C d_M_moves_443 1 rfl ?_
        refine ck hf (fun hi7 hf => ?_)
        refine j_lald C (kM hY rfl) (nM hY (by decide)) (lM hY rfl) hi7 d_M_moves_444 ?_
        refine j_ldc2 (v := 16) C d_M_moves_445 wd_202 ?_
        refine j_ldiv C d_M_moves_448 (by decide) ?_
        refine j_lsub C d_M_moves_449 ?_
        refine ck hf (fun hi8 hf => ?_)
        refine j_last C (kM hY rfl) (nM hY (by decide)) (lM hY rfl) hi8 d_M_moves_450 hf (fun μ9 hf => ?_)
        refine j_sub [0, 1] rfl ?_
        exact w_M_moves_b451 hY C (f_M_moves_l396 N n) ih x1 μ9 hf
theorem w_M_moves_l187 {X : Ctx} {Y : Lay} (hY : IsM Y) (C : Cx X Y b_M_moves 5 none "TopYardModel" 3) {N : Nat} {r : Mem} : ∀ (n : Nat) (x1 : Int32) (μ : Mem), f_M_moves_l187 N n x1 μ = some r → J X Y none r 5 187 [(0, .ref (yad Y 0)), (1, .int x1)] [] μ := by
  intro n
  induction n with
  | zero => intro x1 μ hf; rw [f_M_moves_l187] at hf; cases hf
  | succ n ih =>
    intro x1 μ hf
    rw [f_M_moves_l187] at hf
    refine j_iload_n C d_M_moves_187 1 rfl ?_
    refine j_aload_n C d_M_moves_188 0 rfl ?_
    refine j_gI C fl_M_245 (kM hY rfl) (nM hY (by decide)) rfl d_M_moves_189 ?_
    refine j_icmp_ge C d_M_moves_192 hf (fun hf => ?_) (fun hf => ?_)
    · refine j_iconst (v := 0) C d_M_moves_394 (by decide) ?_
      refine j_istore_n (lvf := [(0, .ref (yad Y 0))]) C d_M_moves_395 (by decide) rfl ?_
      refine j_sub [1, 0] rfl ?_
      exact w_M_moves_l396 hY C N 0 μ hf
    · refine j_aload_n C d_M_moves_195 0 rfl ?_
      refine j_gS (b := 28) C fl_M_99 (kM hY rfl) (nM hY (by decide)) rfl hY.2.2.2.1 rfl (sM hY rfl) d_M_moves_196 ?_
      refine j_iload_n C d_M_moves_199 1 rfl ?_
      refine ck hf (fun hi1 hf => ?_)
      refine j_iald C (kM hY rfl) (nM hY (by decide)) (lM hY rfl) hi1 d_M_moves_200 ?_
      refine j_if_ne C d_M_moves_201 hf (fun hf => ?_) (fun hf => ?_)
      · refine j_sub [0, 1] rfl ?_
        exact w_M_moves_b388 hY C (f_M_moves_l187 N n) ih x1 μ hf
      · refine j_aload_n C d_M_moves_204 0 rfl ?_
        refine j_gS (b := 2) C fl_M_13 (kM hY rfl) (nM hY (by decide)) rfl hY.2.2.2.1 rfl (sM hY rfl) d_M_moves_205 ?_
        refine j_aload_n C d_M_moves_208 0 rfl ?_
        refine j_gS (b := 20) C fl_M_74 (kM hY rfl) (nM hY (by decide)) rfl hY.2.2.2.1 rfl (sM hY rfl) d_M_moves_209 ?_
        refine j_iload_n C d_M_moves_212 1 rfl ?_
        refine ck hf (fun hi2 hf => ?_)
        refine j_iald C (kM hY rfl) (nM hY (by decide)) (lM hY rfl) hi2 d_M_moves_213 ?_
        refine ck hf (fun hi3 hf => ?_)
        refine j_iald C (kM hY rfl) (nM hY (by decide)) (lM hY rfl) hi3 d_M_moves_214 ?_
        refine j_istore_nN (lvf := [(0, .ref (yad Y 0)), (1, .int x1)]) C d_M_moves_215 (by decide) rfl hf (fun v4 hf => ?_)
        refine j_aload_n C d_M_moves_216 1 rfl ?_
        refine j_gS (b := 21) C fl_M_77 (kM hY rfl) (nM hY (by decide)) rfl hY.2.2.2.1 rfl (sM hY rfl) d_M_moves_217 ?_
        refine j_iload_n C d_M_moves_220 2 rfl ?_
        refine ck hf (fun hi5 hf => ?_)
        refine j_lald C (kM hY rfl) (nM hY (by decide)) (lM hY rfl) hi5 d_M_moves_221 ?_
        refine bd hf (fun v6 hc40 hf => ?_)
        refine j_cS (rest := []) C lk_M_250 (c_M_floor65 hY hc40) rfl (by decide) rfl (Nat.le_of_ble_eq_true rfl) d_M_moves_222 ?_
        refine j_istore_n (lvf := [(2, .int v4), (0, .ref (yad Y 0)), (1, .int x1)]) C d_M_moves_225 (by decide) rfl ?_
        refine j_aload_n C d_M_moves_226 2 rfl ?_
        refine j_gS (b := 22) C fl_M_81 (kM hY rfl) (nM hY (by decide)) rfl hY.2.2.2.1 rfl (sM hY rfl) d_M_moves_227 ?_
        refine j_iload_n C d_M_moves_230 3 rfl ?_
        refine ck hf (fun hi7 hf => ?_)
        refine j_lald C (kM hY rfl) (nM hY (by decide)) (lM hY rfl) hi7 d_M_moves_231 ?_
        refine bd hf (fun v8 hc39 hf => ?_)
        refine j_cS (rest := []) C lk_M_250 (c_M_floor65 hY hc39) rfl (by decide) rfl (Nat.le_of_ble_eq_true rfl) d_M_moves_232 ?_
        refine j_istore (lvf := [(3, .int v6), (2, .int v4), (0, .ref (yad Y 0)), (1, .int x1)]) C d_M_moves_235 (by decide) rfl ?_
        refine j_aload_n C d_M_moves_237 3 rfl ?_
        refine j_gS (b := 24) C fl_M_87 (kM hY rfl) (nM hY (by decide)) rfl hY.2.2.2.1 rfl (sM hY rfl) d_M_moves_238 ?_
        refine j_iload_n C d_M_moves_241 4 rfl ?_
        refine j_dup2 C d_M_moves_242 rfl rfl ?_
        refine ck hf (fun hi9 hf => ?_)
        refine j_lald C (kM hY rfl) (nM hY (by decide)) (lM hY rfl) hi9 d_M_moves_243 ?_
        refine j_ldc2 (v := 2) C d_M_moves_244 wd_172 ?_
        refine j_iload_n C d_M_moves_247 2 rfl ?_
        refine j_i2l C d_M_moves_248 ?_
        refine j_lmul C d_M_moves_249 ?_
        refine j_aload_n C d_M_moves_250 3 rfl ?_
        refine j_iload_n C d_M_moves_251 1 rfl ?_
        refine j_iload C d_M_moves_252 0 rfl ?_
        refine bd hf (fun v10 hc38 hf => ?_)
        refine j_cV (rest := [.long ((2 : Int64) * v4.toInt64), .long (gL μ 24 (ix x1)), .int x1, .ref (yad Y 24)]) C lk_M_219 (c_M_slopeX hY hc38) rfl (kM hY rfl) (nM hY (by decide)) (by decide) rfl rfl (by decide) rfl (Nat.le_of_ble_eq_true rfl) d_M_moves_254 ?_
        refine j_i2l C d_M_moves_257 ?_
        refine j_lmul C d_M_moves_258 ?_
        refine j_lsub C d_M_moves_259 ?_
        refine ck hf (fun hi11 hf => ?_)
        refine j_last C (kM hY rfl) (nM hY (by decide)) (lM hY rfl) hi11 d_M_moves_260 hf (fun μ12 hf => ?_)
        refine j_aload_n C d_M_moves_261 3 rfl ?_
        refine j_gS (b := 25) C fl_M_90 (kM hY rfl) (nM hY (by decide)) rfl hY.2.2.2.1 rfl (sM hY rfl) d_M_moves_262 ?_
        refine j_iload_n C d_M_moves_265 4 rfl ?_
        refine j_dup2 C d_M_moves_266 rfl rfl ?_
        refine ck hf (fun hi13 hf => ?_)
        refine j_lald C (kM hY rfl) (nM hY (by decide)) (lM hY rfl) hi13 d_M_moves_267 ?_
        refine j_ldc2 (v := 2) C d_M_moves_268 wd_172 ?_
        refine j_iload_n C d_M_moves_271 2 rfl ?_
        refine j_i2l C d_M_moves_272 ?_
        refine j_lmul C d_M_moves_273 ?_
        refine j_aload_n C d_M_moves_274 3 rfl ?_
        refine j_iload_n C d_M_moves_275 1 rfl ?_
        refine j_iload C d_M_moves_276 0 rfl ?_
        refine bd hf (fun v14 hc37 hf => ?_)
        refine j_cV (rest := [.long ((2 : Int64) * v4.toInt64), .long (gL μ12 25 (ix x1)), .int x1, .ref (yad Y 25)]) C lk_M_222 (c_M_slopeY hY hc37) rfl (kM hY rfl) (nM hY (by decide)) (by decide) rfl rfl (by decide) rfl (Nat.le_of_ble_eq_true rfl) d_M_moves_278 ?_
        refine j_i2l C d_M_moves_281 ?_
        refine j_lmul C d_M_moves_282 ?_
        refine j_lsub C d_M_moves_283 ?_
        refine ck hf (fun hi15 hf => ?_)
        refine j_last C (kM hY rfl) (nM hY (by decide)) (lM hY rfl) hi15 d_M_moves_284 hf (fun μ16 hf => ?_)
        refine j_aload_n C d_M_moves_285 3 rfl ?_
        refine j_gS (b := 23) C fl_M_84 (kM hY rfl) (nM hY (by decide)) rfl hY.2.2.2.1 rfl (sM hY rfl) d_M_moves_286 ?_
        refine j_iload_n C d_M_moves_289 4 rfl ?_
        refine j_aload_n C d_M_moves_290 3 rfl ?_
        refine j_gS (b := 23) C fl_M_84 (kM hY rfl) (nM hY (by decide)) rfl hY.2.2.2.1 rfl (sM hY rfl) d_M_moves_291 ?_
        refine j_iload_n C d_M_moves_294 4 rfl ?_
        refine ck hf (fun hi17 hf => ?_)
        refine j_iald C (kM hY rfl) (nM hY (by decide)) (lM hY rfl) hi17 d_M_moves_295 ?_
        refine j_aload_n C d_M_moves_296 3 rfl ?_
        refine j_gS (b := 5) C fl_M_22 (kM hY rfl) (nM hY (by decide)) rfl hY.2.2.2.1 rfl (sM hY rfl) d_M_moves_297 ?_
        refine j_aload_n C d_M_moves_300 3 rfl ?_
        refine j_gS (b := 20) C fl_M_74 (kM hY rfl) (nM hY (by decide)) rfl hY.2.2.2.1 rfl (sM hY rfl) d_M_moves_301 ?_
        refine j_iload_n C d_M_moves_304 4 rfl ?_
        refine ck hf (fun hi18 hf => ?_)
        refine j_iald C (kM hY rfl) (nM hY (by decide)) (lM hY rfl) hi18 d_M_moves_305 ?_
        refine ck hf (fun hi19 hf => ?_)
        refine j_iald C (kM hY rfl) (nM hY (by decide)) (lM hY rfl) hi19 d_M_moves_306 ?_
        refine j_iconst (v := 1) C d_M_moves_307 (by decide) ?_
        refine j_aload_n C d_M_moves_308 3 rfl ?_
        refine j_gS (b := 27) C fl_M_96 (kM hY rfl) (nM hY (by decide)) rfl hY.2.2.2.1 rfl (sM hY rfl) d_M_moves_309 ?_
        refine j_iload_n C d_M_moves_312 4 rfl ?_
        refine ck hf (fun hi20 hf => ?_)
        refine j_iald C (kM hY rfl) (nM hY (by decide)) (lM hY rfl) hi20 d_M_moves_313 ?_
        refine j_iadd C d_M_moves_314 ?_
        refine j_imul C d_M_moves_315 ?_
        refine j_iadd C d_M_moves_316 ?_
        refine j_bipush (v := 36) C d_M_moves_317 (by decide) ?_
        refine j_iadd C d_M_moves_319 ?_
        refine j_bipush (v := 36) C d_M_moves_320 (by decide) ?_
        refine j_irem C d_M_moves_322 (by decide) ?_
        refine ck hf (fun hi21 hf => ?_)
        refine j_iast C (kM hY rfl) (nM hY (by decide)) (lM hY rfl) hi21 d_M_moves_323 hf (fun μ22 hf => ?_)
        refine j_aload_n C d_M_moves_324 3 rfl ?_
        refine j_gS (b := 24) C fl_M_87 (kM hY rfl) (nM hY (by decide)) rfl hY.2.2.2.1 rfl (sM hY rfl) d_M_moves_325 ?_
        refine j_iload_n C d_M_moves_328 4 rfl ?_
        refine j_dup2 C d_M_moves_329 rfl rfl ?_
        refine ck hf (fun hi23 hf => ?_)
        refine j_lald C (kM hY rfl) (nM hY (by decide)) (lM hY rfl) hi23 d_M_moves_330 ?_
        refine j_iload_n C d_M_moves_331 2 rfl ?_
        refine j_aload_n C d_M_moves_332 3 rfl ?_
        refine j_gS (b := 27) C fl_M_96 (kM hY rfl) (nM hY (by decide)) rfl hY.2.2.2.1 rfl (sM hY rfl) d_M_moves_333 ?_
        refine j_iload_n C d_M_moves_336 4 rfl ?_
        refine ck hf (fun hi24 hf => ?_)
        refine j_iald C (kM hY rfl) (nM hY (by decide)) (lM hY rfl) hi24 d_M_moves_337 ?_
        refine j_imul C d_M_moves_338 ?_
        refine j_aload_n C d_M_moves_339 3 rfl ?_
        refine j_aload_n C d_M_moves_340 3 rfl ?_
        refine j_gS (b := 23) C fl_M_84 (kM hY rfl) (nM hY (by decide)) rfl hY.2.2.2.1 rfl (sM hY rfl) d_M_moves_341 ?_
        refine j_iload_n C d_M_moves_344 4 rfl ?_
        refine ck hf (fun hi25 hf => ?_)
        refine j_iald C (kM hY rfl) (nM hY (by decide)) (lM hY rfl) hi25 d_M_moves_345 ?_
        refine bd hf (fun v26 hc36 hf => ?_)
        refine j_cV (rest := [.int (v4 * (gI μ22 27 (ix x1))), .long (gL μ22 24 (ix x1)), .int x1, .ref (yad Y 24)]) C lk_M_168 (c_M_c hY hc36) rfl (kM hY rfl) (nM hY (by decide)) (by decide) rfl rfl (by decide) rfl (Nat.le_of_ble_eq_true rfl) d_M_moves_346 ?_
        refine j_imul C d_M_moves_349 ?_
        refine j_bipush (v := 65) C d_M_moves_350 (by decide) ?_
        refine j_idiv C d_M_moves_352 (by decide) ?_
        refine j_i2l C d_M_moves_353 ?_
        refine j_ladd C d_M_moves_354 ?_
        refine ck hf (fun hi27 hf => ?_)
        refine j_last C (kM hY rfl) (nM hY (by decide)) (lM hY rfl) hi27 d_M_moves_355 hf (fun μ28 hf => ?_)
        refine j_aload_n C d_M_moves_356 3 rfl ?_
        refine j_gS (b := 25) C fl_M_90 (kM hY rfl) (nM hY (by decide)) rfl hY.2.2.2.1 rfl (sM hY rfl) d_M_moves_357 ?_
        refine j_iload_n C d_M_moves_360 4 rfl ?_
        refine j_dup2 C d_M_moves_361 rfl rfl ?_
        refine ck hf (fun hi29 hf => ?_)
        refine j_lald C (kM hY rfl) (nM hY (by decide)) (lM hY rfl) hi29 d_M_moves_362 ?_
        refine j_iload_n C d_M_moves_363 2 rfl ?_
        refine j_aload_n C d_M_moves_364 3 rfl ?_
        refine j_gS (b := 27) C fl_M_96 (kM hY rfl) (nM hY (by decide)) rfl hY.2.2.2.1 rfl (sM hY rfl) d_M_moves_365 ?_
        refine j_iload_n C d_M_moves_368 4 rfl ?_
        refine ck hf (fun hi30 hf => ?_)
        refine j_iald C (kM hY rfl) (nM hY (by decide)) (lM hY rfl) hi30 d_M_moves_369 ?_
        refine j_imul C d_M_moves_370 ?_
        refine j_aload_n C d_M_moves_371 3 rfl ?_
        refine j_aload_n C d_M_moves_372 3 rfl ?_
        refine j_gS (b := 23) C fl_M_84 (kM hY rfl) (nM hY (by decide)) rfl hY.2.2.2.1 rfl (sM hY rfl) d_M_moves_373 ?_
        refine j_iload_n C d_M_moves_376 4 rfl ?_
        refine ck hf (fun hi31 hf => ?_)
        refine j_iald C (kM hY rfl) (nM hY (by decide)) (lM hY rfl) hi31 d_M_moves_377 ?_
        refine bd hf (fun v32 hc35 hf => ?_)
        refine j_cV (rest := [.int (v4 * (gI μ28 27 (ix x1))), .long (gL μ28 25 (ix x1)), .int x1, .ref (yad Y 25)]) C lk_M_172 (c_M_s hY hc35) rfl (kM hY rfl) (nM hY (by decide)) (by decide) rfl rfl (by decide) rfl (Nat.le_of_ble_eq_true rfl) d_M_moves_378 ?_
        refine j_imul C d_M_moves_381 ?_
        refine j_bipush (v := 65) C d_M_moves_382 (by decide) ?_
        refine j_idiv C d_M_moves_384 (by decide) ?_
        refine j_i2l C d_M_moves_385 ?_
        refine j_ladd C d_M_moves_386 ?_
        refine ck hf (fun hi33 hf => ?_)
        refine j_last C (kM hY rfl) (nM hY (by decide)) (lM hY rfl) hi33 d_M_moves_387 hf (fun μ34 hf => ?_)
        refine j_sub [3, 4] rfl ?_
        exact w_M_moves_b388 hY C (f_M_moves_l187 N n) ih x1 μ34 hf
theorem w_M_moves_l90 {X : Ctx} {Y : Lay} (hY : IsM Y) (C : Cx X Y b_M_moves 5 none "TopYardModel" 3) {N : Nat} {r : Mem} : ∀ (n : Nat) (x1 : Int32) (μ : Mem), f_M_moves_l90 N n x1 μ = some r → J X Y none r 5 90 [(0, .ref (yad Y 0)), (1, .int x1)] [] μ := by
  intro n
  induction n with
  | zero => intro x1 μ hf; rw [f_M_moves_l90] at hf; cases hf
  | succ n ih =>
    intro x1 μ hf
    rw [f_M_moves_l90] at hf
    refine j_iload_n C d_M_moves_90 1 rfl ?_
    refine j_aload_n C d_M_moves_91 0 rfl ?_
    refine j_gI C fl_M_245 (kM hY rfl) (nM hY (by decide)) rfl d_M_moves_92 ?_
    refine j_icmp_ge C d_M_moves_95 hf (fun hf => ?_) (fun hf => ?_)
    · refine j_iconst (v := 0) C d_M_moves_185 (by decide) ?_
      refine j_istore_n (lvf := [(0, .ref (yad Y 0))]) C d_M_moves_186 (by decide) rfl ?_
      refine j_sub [1, 0] rfl ?_
      exact w_M_moves_l187 hY C N 0 μ hf
    · refine j_aload_n C d_M_moves_98 0 rfl ?_
      refine j_gS (b := 28) C fl_M_99 (kM hY rfl) (nM hY (by decide)) rfl hY.2.2.2.1 rfl (sM hY rfl) d_M_moves_99 ?_
      refine j_iload_n C d_M_moves_102 1 rfl ?_
      refine ck hf (fun hi1 hf => ?_)
      refine j_iald C (kM hY rfl) (nM hY (by decide)) (lM hY rfl) hi1 d_M_moves_103 ?_
      refine j_if_ne C d_M_moves_104 hf (fun hf => ?_) (fun hf => ?_)
      · refine j_sub [0, 1] rfl ?_
        exact w_M_moves_b179 hY C (f_M_moves_l90 N n) ih x1 μ hf
      · refine j_aload_n C d_M_moves_107 0 rfl ?_
        refine j_gS (b := 26) C fl_M_93 (kM hY rfl) (nM hY (by decide)) rfl hY.2.2.2.1 rfl (sM hY rfl) d_M_moves_108 ?_
        refine j_iload_n C d_M_moves_111 1 rfl ?_
        refine ck hf (fun hi2 hf => ?_)
        refine j_iald C (kM hY rfl) (nM hY (by decide)) (lM hY rfl) hi2 d_M_moves_112 ?_
        refine j_bipush (v := 100) C d_M_moves_113 (by decide) ?_
        refine j_bipush (v := 10) C d_M_moves_115 (by decide) ?_
        refine j_aload_n C d_M_moves_117 0 rfl ?_
        refine j_gS (b := 27) C fl_M_96 (kM hY rfl) (nM hY (by decide)) rfl hY.2.2.2.1 rfl (sM hY rfl) d_M_moves_118 ?_
        refine j_iload_n C d_M_moves_121 1 rfl ?_
        refine ck hf (fun hi3 hf => ?_)
        refine j_iald C (kM hY rfl) (nM hY (by decide)) (lM hY rfl) hi3 d_M_moves_122 ?_
        refine j_imul C d_M_moves_123 ?_
        refine j_iadd C d_M_moves_124 ?_
        refine j_icmp_lt C d_M_moves_125 hf (fun hf => ?_) (fun hf => ?_)
        · refine j_aload_n C d_M_moves_158 0 rfl ?_
          refine j_gS (b := 26) C fl_M_93 (kM hY rfl) (nM hY (by decide)) rfl hY.2.2.2.1 rfl (sM hY rfl) d_M_moves_159 ?_
          refine j_iload_n C d_M_moves_162 1 rfl ?_
          refine ck hf (fun hi4 hf => ?_)
          refine j_iald C (kM hY rfl) (nM hY (by decide)) (lM hY rfl) hi4 d_M_moves_163 ?_
          refine j_bipush (v := 50) C d_M_moves_164 (by decide) ?_
          refine j_icmp_ge C d_M_moves_166 hf (fun hf => ?_) (fun hf => ?_)
          · refine j_sub [0, 1] rfl ?_
            exact w_M_moves_b179 hY C (f_M_moves_l90 N n) ih x1 μ hf
          · refine j_aload_n C d_M_moves_169 0 rfl ?_
            refine j_gS (b := 27) C fl_M_96 (kM hY rfl) (nM hY (by decide)) rfl hY.2.2.2.1 rfl (sM hY rfl) d_M_moves_170 ?_
            refine j_iload_n C d_M_moves_173 1 rfl ?_
            refine j_dup2 C d_M_moves_174 rfl rfl ?_
            refine ck hf (fun hi5 hf => ?_)
            refine j_iald C (kM hY rfl) (nM hY (by decide)) (lM hY rfl) hi5 d_M_moves_175 ?_
            refine j_iconst (v := 1) C d_M_moves_176 (by decide) ?_
            refine j_iadd C d_M_moves_177 ?_
            refine ck hf (fun hi6 hf => ?_)
            refine j_iast C (kM hY rfl) (nM hY (by decide)) (lM hY rfl) hi6 d_M_moves_178 hf (fun μ7 hf => ?_)
            refine j_sub [0, 1] rfl ?_
            exact w_M_moves_b179 hY C (f_M_moves_l90 N n) ih x1 μ7 hf
        · refine j_aload_n C d_M_moves_128 0 rfl ?_
          refine j_gS (b := 27) C fl_M_96 (kM hY rfl) (nM hY (by decide)) rfl hY.2.2.2.1 rfl (sM hY rfl) d_M_moves_129 ?_
          refine j_iload_n C d_M_moves_132 1 rfl ?_
          refine j_aload_n C d_M_moves_133 0 rfl ?_
          refine j_gS (b := 27) C fl_M_96 (kM hY rfl) (nM hY (by decide)) rfl hY.2.2.2.1 rfl (sM hY rfl) d_M_moves_134 ?_
          refine j_iload_n C d_M_moves_137 1 rfl ?_
          refine ck hf (fun hi8 hf => ?_)
          refine j_iald C (kM hY rfl) (nM hY (by decide)) (lM hY rfl) hi8 d_M_moves_138 ?_
          refine j_if_le C d_M_moves_139 hf (fun hf => ?_) (fun hf => ?_)
          · refine j_iconst (v := 0) C d_M_moves_153 (by decide) ?_
            refine j_sub [0, 1] rfl ?_
            exact w_M_moves_b154 hY C (f_M_moves_l90 N n) ih x1 0 x1 μ hf
          · refine j_aload_n C d_M_moves_142 0 rfl ?_
            refine j_gS (b := 27) C fl_M_96 (kM hY rfl) (nM hY (by decide)) rfl hY.2.2.2.1 rfl (sM hY rfl) d_M_moves_143 ?_
            refine j_iload_n C d_M_moves_146 1 rfl ?_
            refine ck hf (fun hi9 hf => ?_)
            refine j_iald C (kM hY rfl) (nM hY (by decide)) (lM hY rfl) hi9 d_M_moves_147 ?_
            refine j_iconst (v := 1) C d_M_moves_148 (by decide) ?_
            refine j_isub C d_M_moves_149 ?_
            refine j_goto C d_M_moves_150 ?_
            refine j_sub [0, 1] rfl ?_
            exact w_M_moves_b154 hY C (f_M_moves_l90 N n) ih x1 ((gI μ 27 (ix x1)) - 1) x1 μ hf
theorem w_M_moves_l2 {X : Ctx} {Y : Lay} (hY : IsM Y) (C : Cx X Y b_M_moves 5 none "TopYardModel" 3) {N : Nat} {r : Mem} : ∀ (n : Nat) (x1 : Int32) (μ : Mem), f_M_moves_l2 N n x1 μ = some r → J X Y none r 5 2 [(0, .ref (yad Y 0)), (1, .int x1)] [] μ := by
  intro n
  induction n with
  | zero => intro x1 μ hf; rw [f_M_moves_l2] at hf; cases hf
  | succ n ih =>
    intro x1 μ hf
    rw [f_M_moves_l2] at hf
    refine j_iload_n C d_M_moves_2 1 rfl ?_
    refine j_aload_n C d_M_moves_3 0 rfl ?_
    refine j_gI C fl_M_245 (kM hY rfl) (nM hY (by decide)) rfl d_M_moves_4 ?_
    refine j_icmp_ge C d_M_moves_7 hf (fun hf => ?_) (fun hf => ?_)
    · refine j_iconst (v := 0) C d_M_moves_88 (by decide) ?_
      refine j_istore_n (lvf := [(0, .ref (yad Y 0))]) C d_M_moves_89 (by decide) rfl ?_
      refine j_sub [1, 0] rfl ?_
      exact w_M_moves_l90 hY C N 0 μ hf
    · refine j_aload_n C d_M_moves_10 0 rfl ?_
      refine j_gS (b := 28) C fl_M_99 (kM hY rfl) (nM hY (by decide)) rfl hY.2.2.2.1 rfl (sM hY rfl) d_M_moves_11 ?_
      refine j_iload_n C d_M_moves_14 1 rfl ?_
      refine ck hf (fun hi1 hf => ?_)
      refine j_iald C (kM hY rfl) (nM hY (by decide)) (lM hY rfl) hi1 d_M_moves_15 ?_
      refine j_if_ne C d_M_moves_16 hf (fun hf => ?_) (fun hf => ?_)
      · refine j_sub [0, 1] rfl ?_
        exact w_M_moves_b82 hY C (f_M_moves_l2 N n) ih x1 μ hf
      · refine j_iconst (v := 1) C d_M_moves_19 (by decide) ?_
        refine j_aload_n C d_M_moves_20 0 rfl ?_
        refine j_gS (b := 4) C fl_M_19 (kM hY rfl) (nM hY (by decide)) rfl hY.2.2.2.1 rfl (sM hY rfl) d_M_moves_21 ?_
        refine j_aload_n C d_M_moves_24 0 rfl ?_
        refine j_gS (b := 20) C fl_M_74 (kM hY rfl) (nM hY (by decide)) rfl hY.2.2.2.1 rfl (sM hY rfl) d_M_moves_25 ?_
        refine j_iload_n C d_M_moves_28 1 rfl ?_
        refine ck hf (fun hi2 hf => ?_)
        refine j_iald C (kM hY rfl) (nM hY (by decide)) (lM hY rfl) hi2 d_M_moves_29 ?_
        refine ck hf (fun hi3 hf => ?_)
        refine j_iald C (kM hY rfl) (nM hY (by decide)) (lM hY rfl) hi3 d_M_moves_30 ?_
        refine j_aload_n C d_M_moves_31 0 rfl ?_
        refine j_gS (b := 7) C fl_M_28 (kM hY rfl) (nM hY (by decide)) rfl hY.2.2.2.1 rfl (sM hY rfl) d_M_moves_32 ?_
        refine j_aload_n C d_M_moves_35 0 rfl ?_
        refine j_gS (b := 20) C fl_M_74 (kM hY rfl) (nM hY (by decide)) rfl hY.2.2.2.1 rfl (sM hY rfl) d_M_moves_36 ?_
        refine j_iload_n C d_M_moves_39 1 rfl ?_
        refine ck hf (fun hi4 hf => ?_)
        refine j_iald C (kM hY rfl) (nM hY (by decide)) (lM hY rfl) hi4 d_M_moves_40 ?_
        refine ck hf (fun hi5 hf => ?_)
        refine j_iald C (kM hY rfl) (nM hY (by decide)) (lM hY rfl) hi5 d_M_moves_41 ?_
        refine j_iadd C d_M_moves_42 ?_
        refine j_iconst (v := 4) C d_M_moves_43 (by decide) ?_
        refine j_idiv C d_M_moves_44 (by decide) ?_
        refine j_iadd C d_M_moves_45 ?_
        refine j_aload_n C d_M_moves_46 0 rfl ?_
        refine j_gS (b := 27) C fl_M_96 (kM hY rfl) (nM hY (by decide)) rfl hY.2.2.2.1 rfl (sM hY rfl) d_M_moves_47 ?_
        refine j_iload_n C d_M_moves_50 1 rfl ?_
        refine ck hf (fun hi6 hf => ?_)
        refine j_iald C (kM hY rfl) (nM hY (by decide)) (lM hY rfl) hi6 d_M_moves_51 ?_
        refine j_iadd C d_M_moves_52 ?_
        refine j_istore_nN (lvf := [(0, .ref (yad Y 0)), (1, .int x1)]) C d_M_moves_53 (by decide) rfl hf (fun v7 hf => ?_)
        refine j_aload_n C d_M_moves_54 1 rfl ?_
        refine j_gS (b := 26) C fl_M_93 (kM hY rfl) (nM hY (by decide)) rfl hY.2.2.2.1 rfl (sM hY rfl) d_M_moves_55 ?_
        refine j_iload_n C d_M_moves_58 2 rfl ?_
        refine j_aload_n C d_M_moves_59 1 rfl ?_
        refine j_gS (b := 26) C fl_M_93 (kM hY rfl) (nM hY (by decide)) rfl hY.2.2.2.1 rfl (sM hY rfl) d_M_moves_60 ?_
        refine j_iload_n C d_M_moves_63 2 rfl ?_
        refine ck hf (fun hi8 hf => ?_)
        refine j_iald C (kM hY rfl) (nM hY (by decide)) (lM hY rfl) hi8 d_M_moves_64 ?_
        refine j_iload_n C d_M_moves_65 0 rfl ?_
        refine j_icmp_le C d_M_moves_66 hf (fun hf => ?_) (fun hf => ?_)
        · refine j_iconst (v := 0) C d_M_moves_80 (by decide) ?_
          refine j_sub [1, 2] rfl ?_
          exact w_M_moves_b81 hY C (f_M_moves_l2 N n) ih x1 0 x1 μ hf
        · refine j_aload_n C d_M_moves_69 1 rfl ?_
          refine j_gS (b := 26) C fl_M_93 (kM hY rfl) (nM hY (by decide)) rfl hY.2.2.2.1 rfl (sM hY rfl) d_M_moves_70 ?_
          refine j_iload_n C d_M_moves_73 2 rfl ?_
          refine ck hf (fun hi9 hf => ?_)
          refine j_iald C (kM hY rfl) (nM hY (by decide)) (lM hY rfl) hi9 d_M_moves_74 ?_
          refine j_iload_n C d_M_moves_75 0 rfl ?_
          refine j_isub C d_M_moves_76 ?_
          refine j_goto C d_M_moves_77 ?_
          refine j_sub [1, 2] rfl ?_
          exact w_M_moves_b81 hY C (f_M_moves_l2 N n) ih x1 ((gI μ 26 (ix x1)) - v7) x1 μ hf
theorem c_M_moves {l : Launch} {Y : Lay} (hY : IsM Y) {N : Nat} {μ : Mem} {r : Mem} (hf : f_M_moves N μ = some r) : Ct l Y y_M_moves b_M_moves 5 none 3 [.ref (yad Y 0)] none μ r := by
  refine ct_of (own := "TopYardModel") (lv := [(0, .ref (yad Y 0))]) (by decide +kernel) rfl (Nat.le_of_ble_eq_true rfl) rfl (fun X hl C => ?_)
  subst hl
  unfold f_M_moves at hf
  refine j_iconst (v := 0) C d_M_moves_0 (by decide) ?_
  refine j_istore_n (lvf := [(0, .ref (yad Y 0))]) C d_M_moves_1 (by decide) rfl ?_
  refine j_sub [1, 0] rfl ?_
  exact w_M_moves_l2 hY C N 0 μ hf
theorem d_M_knock_0 : DC b_M_knock 0 (.aload_n 0) 1 1 := ⟨by decide +kernel, rfl⟩
theorem d_M_knock_1 : DC b_M_knock 1 (.getfield 13) 3 4 := ⟨by decide +kernel, rfl⟩
theorem d_M_knock_4 : DC b_M_knock 4 (.aload_n 0) 1 5 := ⟨by decide +kernel, rfl⟩
theorem d_M_knock_5 : DC b_M_knock 5 (.getfield 74) 3 8 := ⟨by decide +kernel, rfl⟩
theorem d_M_knock_8 : DC b_M_knock 8 (.iload_n 1) 1 9 := ⟨by decide +kernel, rfl⟩
theorem d_M_knock_9 : DC b_M_knock 9 (.iaload) 1 10 := ⟨by decide +kernel, rfl⟩
theorem d_M_knock_10 : DC b_M_knock 10 (.iaload) 1 11 := ⟨by decide +kernel, rfl⟩
theorem d_M_knock_11 : DC b_M_knock 11 (.i2l) 1 12 := ⟨by decide +kernel, rfl⟩
theorem d_M_knock_12 : DC b_M_knock 12 (.lstore_n 3) 1 13 := ⟨by decide +kernel, rfl⟩
theorem d_M_knock_13 : DC b_M_knock 13 (.aload_n 0) 1 14 := ⟨by decide +kernel, rfl⟩
theorem d_M_knock_14 : DC b_M_knock 14 (.getfield 13) 3 17 := ⟨by decide +kernel, rfl⟩
theorem d_M_knock_17 : DC b_M_knock 17 (.aload_n 0) 1 18 := ⟨by decide +kernel, rfl⟩
theorem d_M_knock_18 : DC b_M_knock 18 (.getfield 74) 3 21 := ⟨by decide +kernel, rfl⟩
theorem d_M_knock_21 : DC b_M_knock 21 (.iload_n 2) 1 22 := ⟨by decide +kernel, rfl⟩
theorem d_M_knock_22 : DC b_M_knock 22 (.iaload) 1 23 := ⟨by decide +kernel, rfl⟩
theorem d_M_knock_23 : DC b_M_knock 23 (.iaload) 1 24 := ⟨by decide +kernel, rfl⟩
theorem d_M_knock_24 : DC b_M_knock 24 (.i2l) 1 25 := ⟨by decide +kernel, rfl⟩
theorem d_M_knock_25 : DC b_M_knock 25 (.lstore 5) 2 27 := ⟨by decide +kernel, rfl⟩
theorem d_M_knock_27 : DC b_M_knock 27 (.aload_n 0) 1 28 := ⟨by decide +kernel, rfl⟩
theorem d_M_knock_28 : DC b_M_knock 28 (.getfield 77) 3 31 := ⟨by decide +kernel, rfl⟩
theorem d_M_knock_31 : DC b_M_knock 31 (.iload_n 2) 1 32 := ⟨by decide +kernel, rfl⟩
theorem d_M_knock_32 : DC b_M_knock 32 (.laload) 1 33 := ⟨by decide +kernel, rfl⟩
theorem d_M_knock_33 : DC b_M_knock 33 (.aload_n 0) 1 34 := ⟨by decide +kernel, rfl⟩
theorem d_M_knock_34 : DC b_M_knock 34 (.getfield 77) 3 37 := ⟨by decide +kernel, rfl⟩
theorem d_M_knock_37 : DC b_M_knock 37 (.iload_n 1) 1 38 := ⟨by decide +kernel, rfl⟩
theorem d_M_knock_38 : DC b_M_knock 38 (.laload) 1 39 := ⟨by decide +kernel, rfl⟩
theorem d_M_knock_39 : DC b_M_knock 39 (.lsub) 1 40 := ⟨by decide +kernel, rfl⟩
theorem d_M_knock_40 : DC b_M_knock 40 (.lstore 7) 2 42 := ⟨by decide +kernel, rfl⟩
theorem d_M_knock_42 : DC b_M_knock 42 (.aload_n 0) 1 43 := ⟨by decide +kernel, rfl⟩
theorem d_M_knock_43 : DC b_M_knock 43 (.getfield 81) 3 46 := ⟨by decide +kernel, rfl⟩
theorem d_M_knock_46 : DC b_M_knock 46 (.iload_n 2) 1 47 := ⟨by decide +kernel, rfl⟩
theorem d_M_knock_47 : DC b_M_knock 47 (.laload) 1 48 := ⟨by decide +kernel, rfl⟩
theorem d_M_knock_48 : DC b_M_knock 48 (.aload_n 0) 1 49 := ⟨by decide +kernel, rfl⟩
theorem d_M_knock_49 : DC b_M_knock 49 (.getfield 81) 3 52 := ⟨by decide +kernel, rfl⟩
theorem d_M_knock_52 : DC b_M_knock 52 (.iload_n 1) 1 53 := ⟨by decide +kernel, rfl⟩
theorem d_M_knock_53 : DC b_M_knock 53 (.laload) 1 54 := ⟨by decide +kernel, rfl⟩
theorem d_M_knock_54 : DC b_M_knock 54 (.lsub) 1 55 := ⟨by decide +kernel, rfl⟩
theorem d_M_knock_55 : DC b_M_knock 55 (.lstore 9) 2 57 := ⟨by decide +kernel, rfl⟩
theorem d_M_knock_57 : DC b_M_knock 57 (.lload 7) 2 59 := ⟨by decide +kernel, rfl⟩
theorem d_M_knock_59 : DC b_M_knock 59 (.lconst 0) 1 60 := ⟨by decide +kernel, rfl⟩
theorem d_M_knock_60 : DC b_M_knock 60 (.lcmp) 1 61 := ⟨by decide +kernel, rfl⟩
theorem d_M_knock_61 : DB b_M_knock 61 (.ifCond .ne 15) 15 76 64 := ⟨by decide +kernel, by decide, rfl⟩
theorem d_M_knock_64 : DC b_M_knock 64 (.lload 9) 2 66 := ⟨by decide +kernel, rfl⟩
theorem d_M_knock_66 : DC b_M_knock 66 (.lconst 0) 1 67 := ⟨by decide +kernel, rfl⟩
theorem d_M_knock_67 : DC b_M_knock 67 (.lcmp) 1 68 := ⟨by decide +kernel, rfl⟩
theorem d_M_knock_68 : DB b_M_knock 68 (.ifCond .ne 8) 8 76 71 := ⟨by decide +kernel, by decide, rfl⟩
theorem d_M_knock_71 : DC b_M_knock 71 (.ldc2_w 243) 3 74 := ⟨by decide +kernel, rfl⟩
theorem d_M_knock_74 : DC b_M_knock 74 (.lstore 7) 2 76 := ⟨by decide +kernel, rfl⟩
theorem d_M_knock_76 : DC b_M_knock 76 (.lload 7) 2 78 := ⟨by decide +kernel, rfl⟩
theorem d_M_knock_78 : DC b_M_knock 78 (.lload 7) 2 80 := ⟨by decide +kernel, rfl⟩
theorem d_M_knock_80 : DC b_M_knock 80 (.lmul) 1 81 := ⟨by decide +kernel, rfl⟩
theorem d_M_knock_81 : DC b_M_knock 81 (.lload 9) 2 83 := ⟨by decide +kernel, rfl⟩
theorem d_M_knock_83 : DC b_M_knock 83 (.lload 9) 2 85 := ⟨by decide +kernel, rfl⟩
theorem d_M_knock_85 : DC b_M_knock 85 (.lmul) 1 86 := ⟨by decide +kernel, rfl⟩
theorem d_M_knock_86 : DC b_M_knock 86 (.ladd) 1 87 := ⟨by decide +kernel, rfl⟩
theorem d_M_knock_87 : DC b_M_knock 87 (.lstore 11) 2 89 := ⟨by decide +kernel, rfl⟩
theorem d_M_knock_89 : DC b_M_knock 89 (.ldc2_w 258) 3 92 := ⟨by decide +kernel, rfl⟩
theorem d_M_knock_92 : DC b_M_knock 92 (.aload_n 0) 1 93 := ⟨by decide +kernel, rfl⟩
theorem d_M_knock_93 : DC b_M_knock 93 (.getfield 16) 3 96 := ⟨by decide +kernel, rfl⟩
theorem d_M_knock_96 : DC b_M_knock 96 (.aload_n 0) 1 97 := ⟨by decide +kernel, rfl⟩
theorem d_M_knock_97 : DC b_M_knock 97 (.getfield 74) 3 100 := ⟨by decide +kernel, rfl⟩
theorem d_M_knock_100 : DC b_M_knock 100 (.iload_n 1) 1 101 := ⟨by decide +kernel, rfl⟩
theorem d_M_knock_101 : DC b_M_knock 101 (.iaload) 1 102 := ⟨by decide +kernel, rfl⟩
theorem d_M_knock_102 : DC b_M_knock 102 (.iaload) 1 103 := ⟨by decide +kernel, rfl⟩
theorem d_M_knock_103 : DC b_M_knock 103 (.aload_n 0) 1 104 := ⟨by decide +kernel, rfl⟩
theorem d_M_knock_104 : DC b_M_knock 104 (.getfield 16) 3 107 := ⟨by decide +kernel, rfl⟩
theorem d_M_knock_107 : DC b_M_knock 107 (.aload_n 0) 1 108 := ⟨by decide +kernel, rfl⟩
theorem d_M_knock_108 : DC b_M_knock 108 (.getfield 74) 3 111 := ⟨by decide +kernel, rfl⟩
theorem d_M_knock_111 : DC b_M_knock 111 (.iload_n 2) 1 112 := ⟨by decide +kernel, rfl⟩
theorem d_M_knock_112 : DC b_M_knock 112 (.iaload) 1 113 := ⟨by decide +kernel, rfl⟩
theorem d_M_knock_113 : DC b_M_knock 113 (.iaload) 1 114 := ⟨by decide +kernel, rfl⟩
theorem d_M_knock_114 : DC b_M_knock 114 (.iadd) 1 115 := ⟨by decide +kernel, rfl⟩
theorem d_M_knock_115 : DC b_M_knock 115 (.i2l) 1 116 := ⟨by decide +kernel, rfl⟩
theorem d_M_knock_116 : DC b_M_knock 116 (.lmul) 1 117 := ⟨by decide +kernel, rfl⟩
theorem d_M_knock_117 : DC b_M_knock 117 (.lstore 13) 2 119 := ⟨by decide +kernel, rfl⟩
theorem d_M_knock_119 : DC b_M_knock 119 (.aload_n 0) 1 120 := ⟨by decide +kernel, rfl⟩
theorem d_M_knock_120 : DC b_M_knock 120 (.getfield 87) 3 123 := ⟨by decide +kernel, rfl⟩
theorem d_M_knock_123 : DC b_M_knock 123 (.iload_n 2) 1 124 := ⟨by decide +kernel, rfl⟩
theorem d_M_knock_124 : DC b_M_knock 124 (.laload) 1 125 := ⟨by decide +kernel, rfl⟩
theorem d_M_knock_125 : DC b_M_knock 125 (.lload_n 3) 1 126 := ⟨by decide +kernel, rfl⟩
theorem d_M_knock_126 : DC b_M_knock 126 (.lmul) 1 127 := ⟨by decide +kernel, rfl⟩
theorem d_M_knock_127 : DC b_M_knock 127 (.aload_n 0) 1 128 := ⟨by decide +kernel, rfl⟩
theorem d_M_knock_128 : DC b_M_knock 128 (.getfield 87) 3 131 := ⟨by decide +kernel, rfl⟩
theorem d_M_knock_131 : DC b_M_knock 131 (.iload_n 1) 1 132 := ⟨by decide +kernel, rfl⟩
theorem d_M_knock_132 : DC b_M_knock 132 (.laload) 1 133 := ⟨by decide +kernel, rfl⟩
theorem d_M_knock_133 : DC b_M_knock 133 (.lload 5) 2 135 := ⟨by decide +kernel, rfl⟩
theorem d_M_knock_135 : DC b_M_knock 135 (.lmul) 1 136 := ⟨by decide +kernel, rfl⟩
theorem d_M_knock_136 : DC b_M_knock 136 (.lsub) 1 137 := ⟨by decide +kernel, rfl⟩
theorem d_M_knock_137 : DC b_M_knock 137 (.lload 7) 2 139 := ⟨by decide +kernel, rfl⟩
theorem d_M_knock_139 : DC b_M_knock 139 (.lmul) 1 140 := ⟨by decide +kernel, rfl⟩
theorem d_M_knock_140 : DC b_M_knock 140 (.aload_n 0) 1 141 := ⟨by decide +kernel, rfl⟩
theorem d_M_knock_141 : DC b_M_knock 141 (.getfield 90) 3 144 := ⟨by decide +kernel, rfl⟩
theorem d_M_knock_144 : DC b_M_knock 144 (.iload_n 2) 1 145 := ⟨by decide +kernel, rfl⟩
theorem d_M_knock_145 : DC b_M_knock 145 (.laload) 1 146 := ⟨by decide +kernel, rfl⟩
theorem d_M_knock_146 : DC b_M_knock 146 (.lload_n 3) 1 147 := ⟨by decide +kernel, rfl⟩
theorem d_M_knock_147 : DC b_M_knock 147 (.lmul) 1 148 := ⟨by decide +kernel, rfl⟩
theorem d_M_knock_148 : DC b_M_knock 148 (.aload_n 0) 1 149 := ⟨by decide +kernel, rfl⟩
theorem d_M_knock_149 : DC b_M_knock 149 (.getfield 90) 3 152 := ⟨by decide +kernel, rfl⟩
theorem d_M_knock_152 : DC b_M_knock 152 (.iload_n 1) 1 153 := ⟨by decide +kernel, rfl⟩
theorem d_M_knock_153 : DC b_M_knock 153 (.laload) 1 154 := ⟨by decide +kernel, rfl⟩
theorem d_M_knock_154 : DC b_M_knock 154 (.lload 5) 2 156 := ⟨by decide +kernel, rfl⟩
theorem d_M_knock_156 : DC b_M_knock 156 (.lmul) 1 157 := ⟨by decide +kernel, rfl⟩
theorem d_M_knock_157 : DC b_M_knock 157 (.lsub) 1 158 := ⟨by decide +kernel, rfl⟩
theorem d_M_knock_158 : DC b_M_knock 158 (.lload 9) 2 160 := ⟨by decide +kernel, rfl⟩
theorem d_M_knock_160 : DC b_M_knock 160 (.lmul) 1 161 := ⟨by decide +kernel, rfl⟩
theorem d_M_knock_161 : DC b_M_knock 161 (.ladd) 1 162 := ⟨by decide +kernel, rfl⟩
theorem d_M_knock_162 : DC b_M_knock 162 (.lstore 15) 2 164 := ⟨by decide +kernel, rfl⟩
theorem d_M_knock_164 : DC b_M_knock 164 (.lload 11) 2 166 := ⟨by decide +kernel, rfl⟩
theorem d_M_knock_166 : DC b_M_knock 166 (.lload 13) 2 168 := ⟨by decide +kernel, rfl⟩
theorem d_M_knock_168 : DC b_M_knock 168 (.lload 13) 2 170 := ⟨by decide +kernel, rfl⟩
theorem d_M_knock_170 : DC b_M_knock 170 (.lmul) 1 171 := ⟨by decide +kernel, rfl⟩
theorem d_M_knock_171 : DC b_M_knock 171 (.lcmp) 1 172 := ⟨by decide +kernel, rfl⟩
theorem d_M_knock_172 : DB b_M_knock 172 (.ifCond .gt 10) 10 182 175 := ⟨by decide +kernel, by decide, rfl⟩
theorem d_M_knock_175 : DC b_M_knock 175 (.lload 15) 2 177 := ⟨by decide +kernel, rfl⟩
theorem d_M_knock_177 : DC b_M_knock 177 (.lconst 0) 1 178 := ⟨by decide +kernel, rfl⟩
theorem d_M_knock_178 : DC b_M_knock 178 (.lcmp) 1 179 := ⟨by decide +kernel, rfl⟩
theorem d_M_knock_179 : DB b_M_knock 179 (.ifCond .lt 4) 4 183 182 := ⟨by decide +kernel, by decide, rfl⟩
theorem d_M_knock_182 : decode b_M_knock 182 = .ok (.return_, 1) := by decide +kernel
theorem d_M_knock_183 : DC b_M_knock 183 (.aload_n 0) 1 184 := ⟨by decide +kernel, rfl⟩
theorem d_M_knock_184 : DC b_M_knock 184 (.dup) 1 185 := ⟨by decide +kernel, rfl⟩
theorem d_M_knock_185 : DC b_M_knock 185 (.getfield 260) 3 188 := ⟨by decide +kernel, rfl⟩
theorem d_M_knock_188 : DC b_M_knock 188 (.iconst 1) 1 189 := ⟨by decide +kernel, rfl⟩
theorem d_M_knock_189 : DC b_M_knock 189 (.iadd) 1 190 := ⟨by decide +kernel, rfl⟩
theorem d_M_knock_190 : DC b_M_knock 190 (.putfield 260) 3 193 := ⟨by decide +kernel, rfl⟩
theorem d_M_knock_193 : DC b_M_knock 193 (.aload_n 0) 1 194 := ⟨by decide +kernel, rfl⟩
theorem d_M_knock_194 : DC b_M_knock 194 (.getfield 16) 3 197 := ⟨by decide +kernel, rfl⟩
theorem d_M_knock_197 : DC b_M_knock 197 (.aload_n 0) 1 198 := ⟨by decide +kernel, rfl⟩
theorem d_M_knock_198 : DC b_M_knock 198 (.getfield 74) 3 201 := ⟨by decide +kernel, rfl⟩
theorem d_M_knock_201 : DC b_M_knock 201 (.iload_n 1) 1 202 := ⟨by decide +kernel, rfl⟩
theorem d_M_knock_202 : DC b_M_knock 202 (.iaload) 1 203 := ⟨by decide +kernel, rfl⟩
theorem d_M_knock_203 : DC b_M_knock 203 (.iaload) 1 204 := ⟨by decide +kernel, rfl⟩
theorem d_M_knock_204 : DC b_M_knock 204 (.aload_n 0) 1 205 := ⟨by decide +kernel, rfl⟩
theorem d_M_knock_205 : DC b_M_knock 205 (.getfield 16) 3 208 := ⟨by decide +kernel, rfl⟩
theorem d_M_knock_208 : DC b_M_knock 208 (.aload_n 0) 1 209 := ⟨by decide +kernel, rfl⟩
theorem d_M_knock_209 : DC b_M_knock 209 (.getfield 74) 3 212 := ⟨by decide +kernel, rfl⟩
theorem d_M_knock_212 : DC b_M_knock 212 (.iload_n 2) 1 213 := ⟨by decide +kernel, rfl⟩
theorem d_M_knock_213 : DC b_M_knock 213 (.iaload) 1 214 := ⟨by decide +kernel, rfl⟩
theorem d_M_knock_214 : DC b_M_knock 214 (.iaload) 1 215 := ⟨by decide +kernel, rfl⟩
theorem d_M_knock_215 : DB b_M_knock 215 (.if_icmp .ne 106) 106 321 218 := ⟨by decide +kernel, by decide, rfl⟩
theorem d_M_knock_218 : DC b_M_knock 218 (.aload_n 0) 1 219 := ⟨by decide +kernel, rfl⟩
theorem d_M_knock_219 : DC b_M_knock 219 (.dup) 1 220 := ⟨by decide +kernel, rfl⟩
theorem d_M_knock_220 : DC b_M_knock 220 (.getfield 263) 3 223 := ⟨by decide +kernel, rfl⟩
theorem d_M_knock_223 : DC b_M_knock 223 (.iconst 1) 1 224 := ⟨by decide +kernel, rfl⟩
theorem d_M_knock_224 : DC b_M_knock 224 (.iadd) 1 225 := ⟨by decide +kernel, rfl⟩
theorem d_M_knock_225 : DC b_M_knock 225 (.putfield 263) 3 228 := ⟨by decide +kernel, rfl⟩
theorem d_M_knock_228 : DC b_M_knock 228 (.aload_n 0) 1 229 := ⟨by decide +kernel, rfl⟩
theorem d_M_knock_229 : DC b_M_knock 229 (.getfield 87) 3 232 := ⟨by decide +kernel, rfl⟩
theorem d_M_knock_232 : DC b_M_knock 232 (.iload_n 1) 1 233 := ⟨by decide +kernel, rfl⟩
theorem d_M_knock_233 : DC b_M_knock 233 (.laload) 1 234 := ⟨by decide +kernel, rfl⟩
theorem d_M_knock_234 : DC b_M_knock 234 (.aload_n 0) 1 235 := ⟨by decide +kernel, rfl⟩
theorem d_M_knock_235 : DC b_M_knock 235 (.getfield 87) 3 238 := ⟨by decide +kernel, rfl⟩
theorem d_M_knock_238 : DC b_M_knock 238 (.iload_n 2) 1 239 := ⟨by decide +kernel, rfl⟩
theorem d_M_knock_239 : DC b_M_knock 239 (.laload) 1 240 := ⟨by decide +kernel, rfl⟩
theorem d_M_knock_240 : DC b_M_knock 240 (.ladd) 1 241 := ⟨by decide +kernel, rfl⟩
theorem d_M_knock_241 : DC b_M_knock 241 (.lstore 17) 2 243 := ⟨by decide +kernel, rfl⟩
theorem d_M_knock_243 : DC b_M_knock 243 (.aload_n 0) 1 244 := ⟨by decide +kernel, rfl⟩
theorem d_M_knock_244 : DC b_M_knock 244 (.getfield 90) 3 247 := ⟨by decide +kernel, rfl⟩
theorem d_M_knock_247 : DC b_M_knock 247 (.iload_n 1) 1 248 := ⟨by decide +kernel, rfl⟩
theorem d_M_knock_248 : DC b_M_knock 248 (.laload) 1 249 := ⟨by decide +kernel, rfl⟩
theorem d_M_knock_249 : DC b_M_knock 249 (.aload_n 0) 1 250 := ⟨by decide +kernel, rfl⟩
theorem d_M_knock_250 : DC b_M_knock 250 (.getfield 90) 3 253 := ⟨by decide +kernel, rfl⟩
theorem d_M_knock_253 : DC b_M_knock 253 (.iload_n 2) 1 254 := ⟨by decide +kernel, rfl⟩
theorem d_M_knock_254 : DC b_M_knock 254 (.laload) 1 255 := ⟨by decide +kernel, rfl⟩
theorem d_M_knock_255 : DC b_M_knock 255 (.ladd) 1 256 := ⟨by decide +kernel, rfl⟩
theorem d_M_knock_256 : DC b_M_knock 256 (.lstore 19) 2 258 := ⟨by decide +kernel, rfl⟩
theorem d_M_knock_258 : DC b_M_knock 258 (.aload_n 0) 1 259 := ⟨by decide +kernel, rfl⟩
theorem d_M_knock_259 : DC b_M_knock 259 (.getfield 87) 3 262 := ⟨by decide +kernel, rfl⟩
theorem d_M_knock_262 : DC b_M_knock 262 (.iload_n 1) 1 263 := ⟨by decide +kernel, rfl⟩
theorem d_M_knock_263 : DC b_M_knock 263 (.lload 17) 2 265 := ⟨by decide +kernel, rfl⟩
theorem d_M_knock_265 : DC b_M_knock 265 (.lload_n 3) 1 266 := ⟨by decide +kernel, rfl⟩
theorem d_M_knock_266 : DC b_M_knock 266 (.lmul) 1 267 := ⟨by decide +kernel, rfl⟩
theorem d_M_knock_267 : DC b_M_knock 267 (.lload_n 3) 1 268 := ⟨by decide +kernel, rfl⟩
theorem d_M_knock_268 : DC b_M_knock 268 (.lload 5) 2 270 := ⟨by decide +kernel, rfl⟩
theorem d_M_knock_270 : DC b_M_knock 270 (.ladd) 1 271 := ⟨by decide +kernel, rfl⟩
theorem d_M_knock_271 : DC b_M_knock 271 (.ldiv) 1 272 := ⟨by decide +kernel, rfl⟩
theorem d_M_knock_272 : DC b_M_knock 272 (.lastore) 1 273 := ⟨by decide +kernel, rfl⟩
theorem d_M_knock_273 : DC b_M_knock 273 (.aload_n 0) 1 274 := ⟨by decide +kernel, rfl⟩
theorem d_M_knock_274 : DC b_M_knock 274 (.getfield 90) 3 277 := ⟨by decide +kernel, rfl⟩
theorem d_M_knock_277 : DC b_M_knock 277 (.iload_n 1) 1 278 := ⟨by decide +kernel, rfl⟩
theorem d_M_knock_278 : DC b_M_knock 278 (.lload 19) 2 280 := ⟨by decide +kernel, rfl⟩
theorem d_M_knock_280 : DC b_M_knock 280 (.lload_n 3) 1 281 := ⟨by decide +kernel, rfl⟩
theorem d_M_knock_281 : DC b_M_knock 281 (.lmul) 1 282 := ⟨by decide +kernel, rfl⟩
theorem d_M_knock_282 : DC b_M_knock 282 (.lload_n 3) 1 283 := ⟨by decide +kernel, rfl⟩
theorem d_M_knock_283 : DC b_M_knock 283 (.lload 5) 2 285 := ⟨by decide +kernel, rfl⟩
theorem d_M_knock_285 : DC b_M_knock 285 (.ladd) 1 286 := ⟨by decide +kernel, rfl⟩
theorem d_M_knock_286 : DC b_M_knock 286 (.ldiv) 1 287 := ⟨by decide +kernel, rfl⟩
theorem d_M_knock_287 : DC b_M_knock 287 (.lastore) 1 288 := ⟨by decide +kernel, rfl⟩
theorem d_M_knock_288 : DC b_M_knock 288 (.aload_n 0) 1 289 := ⟨by decide +kernel, rfl⟩
theorem d_M_knock_289 : DC b_M_knock 289 (.getfield 87) 3 292 := ⟨by decide +kernel, rfl⟩
theorem d_M_knock_292 : DC b_M_knock 292 (.iload_n 2) 1 293 := ⟨by decide +kernel, rfl⟩
theorem d_M_knock_293 : DC b_M_knock 293 (.lload 17) 2 295 := ⟨by decide +kernel, rfl⟩
theorem d_M_knock_295 : DC b_M_knock 295 (.aload_n 0) 1 296 := ⟨by decide +kernel, rfl⟩
theorem d_M_knock_296 : DC b_M_knock 296 (.getfield 87) 3 299 := ⟨by decide +kernel, rfl⟩
theorem d_M_knock_299 : DC b_M_knock 299 (.iload_n 1) 1 300 := ⟨by decide +kernel, rfl⟩
theorem d_M_knock_300 : DC b_M_knock 300 (.laload) 1 301 := ⟨by decide +kernel, rfl⟩
theorem d_M_knock_301 : DC b_M_knock 301 (.lsub) 1 302 := ⟨by decide +kernel, rfl⟩
theorem d_M_knock_302 : DC b_M_knock 302 (.lastore) 1 303 := ⟨by decide +kernel, rfl⟩
theorem d_M_knock_303 : DC b_M_knock 303 (.aload_n 0) 1 304 := ⟨by decide +kernel, rfl⟩
theorem d_M_knock_304 : DC b_M_knock 304 (.getfield 90) 3 307 := ⟨by decide +kernel, rfl⟩
theorem d_M_knock_307 : DC b_M_knock 307 (.iload_n 2) 1 308 := ⟨by decide +kernel, rfl⟩
theorem d_M_knock_308 : DC b_M_knock 308 (.lload 19) 2 310 := ⟨by decide +kernel, rfl⟩
theorem d_M_knock_310 : DC b_M_knock 310 (.aload_n 0) 1 311 := ⟨by decide +kernel, rfl⟩
theorem d_M_knock_311 : DC b_M_knock 311 (.getfield 90) 3 314 := ⟨by decide +kernel, rfl⟩
theorem d_M_knock_314 : DC b_M_knock 314 (.iload_n 1) 1 315 := ⟨by decide +kernel, rfl⟩
theorem d_M_knock_315 : DC b_M_knock 315 (.laload) 1 316 := ⟨by decide +kernel, rfl⟩
theorem d_M_knock_316 : DC b_M_knock 316 (.lsub) 1 317 := ⟨by decide +kernel, rfl⟩
theorem d_M_knock_317 : DC b_M_knock 317 (.lastore) 1 318 := ⟨by decide +kernel, rfl⟩
theorem d_M_knock_318 : DB b_M_knock 318 (.goto 85) 85 403 321 := ⟨by decide +kernel, by decide, rfl⟩
theorem d_M_knock_321 : DC b_M_knock 321 (.ldc2_w 216) 3 324 := ⟨by decide +kernel, rfl⟩
theorem d_M_knock_324 : DC b_M_knock 324 (.lload 15) 2 326 := ⟨by decide +kernel, rfl⟩
theorem d_M_knock_326 : DC b_M_knock 326 (.lmul) 1 327 := ⟨by decide +kernel, rfl⟩
theorem d_M_knock_327 : DC b_M_knock 327 (.lload 7) 2 329 := ⟨by decide +kernel, rfl⟩
theorem d_M_knock_329 : DC b_M_knock 329 (.lmul) 1 330 := ⟨by decide +kernel, rfl⟩
theorem d_M_knock_330 : DC b_M_knock 330 (.lload_n 3) 1 331 := ⟨by decide +kernel, rfl⟩
theorem d_M_knock_331 : DC b_M_knock 331 (.lload 5) 2 333 := ⟨by decide +kernel, rfl⟩
theorem d_M_knock_333 : DC b_M_knock 333 (.ladd) 1 334 := ⟨by decide +kernel, rfl⟩
theorem d_M_knock_334 : DC b_M_knock 334 (.lload 11) 2 336 := ⟨by decide +kernel, rfl⟩
theorem d_M_knock_336 : DC b_M_knock 336 (.lmul) 1 337 := ⟨by decide +kernel, rfl⟩
theorem d_M_knock_337 : DC b_M_knock 337 (.ldiv) 1 338 := ⟨by decide +kernel, rfl⟩
theorem d_M_knock_338 : DC b_M_knock 338 (.lstore 17) 2 340 := ⟨by decide +kernel, rfl⟩
theorem d_M_knock_340 : DC b_M_knock 340 (.ldc2_w 216) 3 343 := ⟨by decide +kernel, rfl⟩
theorem d_M_knock_343 : DC b_M_knock 343 (.lload 15) 2 345 := ⟨by decide +kernel, rfl⟩
theorem d_M_knock_345 : DC b_M_knock 345 (.lmul) 1 346 := ⟨by decide +kernel, rfl⟩
theorem d_M_knock_346 : DC b_M_knock 346 (.lload 9) 2 348 := ⟨by decide +kernel, rfl⟩
theorem d_M_knock_348 : DC b_M_knock 348 (.lmul) 1 349 := ⟨by decide +kernel, rfl⟩
theorem d_M_knock_349 : DC b_M_knock 349 (.lload_n 3) 1 350 := ⟨by decide +kernel, rfl⟩
theorem d_M_knock_350 : DC b_M_knock 350 (.lload 5) 2 352 := ⟨by decide +kernel, rfl⟩
theorem d_M_knock_352 : DC b_M_knock 352 (.ladd) 1 353 := ⟨by decide +kernel, rfl⟩
theorem d_M_knock_353 : DC b_M_knock 353 (.lload 11) 2 355 := ⟨by decide +kernel, rfl⟩
theorem d_M_knock_355 : DC b_M_knock 355 (.lmul) 1 356 := ⟨by decide +kernel, rfl⟩
theorem d_M_knock_356 : DC b_M_knock 356 (.ldiv) 1 357 := ⟨by decide +kernel, rfl⟩
theorem d_M_knock_357 : DC b_M_knock 357 (.lstore 19) 2 359 := ⟨by decide +kernel, rfl⟩
theorem d_M_knock_359 : DC b_M_knock 359 (.aload_n 0) 1 360 := ⟨by decide +kernel, rfl⟩
theorem d_M_knock_360 : DC b_M_knock 360 (.getfield 87) 3 363 := ⟨by decide +kernel, rfl⟩
theorem d_M_knock_363 : DC b_M_knock 363 (.iload_n 1) 1 364 := ⟨by decide +kernel, rfl⟩
theorem d_M_knock_364 : DC b_M_knock 364 (.dup2) 1 365 := ⟨by decide +kernel, rfl⟩
theorem d_M_knock_365 : DC b_M_knock 365 (.laload) 1 366 := ⟨by decide +kernel, rfl⟩
theorem d_M_knock_366 : DC b_M_knock 366 (.lload 17) 2 368 := ⟨by decide +kernel, rfl⟩
theorem d_M_knock_368 : DC b_M_knock 368 (.ladd) 1 369 := ⟨by decide +kernel, rfl⟩
theorem d_M_knock_369 : DC b_M_knock 369 (.lastore) 1 370 := ⟨by decide +kernel, rfl⟩
theorem d_M_knock_370 : DC b_M_knock 370 (.aload_n 0) 1 371 := ⟨by decide +kernel, rfl⟩
theorem d_M_knock_371 : DC b_M_knock 371 (.getfield 87) 3 374 := ⟨by decide +kernel, rfl⟩
theorem d_M_knock_374 : DC b_M_knock 374 (.iload_n 2) 1 375 := ⟨by decide +kernel, rfl⟩
theorem d_M_knock_375 : DC b_M_knock 375 (.dup2) 1 376 := ⟨by decide +kernel, rfl⟩
theorem d_M_knock_376 : DC b_M_knock 376 (.laload) 1 377 := ⟨by decide +kernel, rfl⟩
theorem d_M_knock_377 : DC b_M_knock 377 (.lload 17) 2 379 := ⟨by decide +kernel, rfl⟩
theorem d_M_knock_379 : DC b_M_knock 379 (.lsub) 1 380 := ⟨by decide +kernel, rfl⟩
theorem d_M_knock_380 : DC b_M_knock 380 (.lastore) 1 381 := ⟨by decide +kernel, rfl⟩
theorem d_M_knock_381 : DC b_M_knock 381 (.aload_n 0) 1 382 := ⟨by decide +kernel, rfl⟩
theorem d_M_knock_382 : DC b_M_knock 382 (.getfield 90) 3 385 := ⟨by decide +kernel, rfl⟩
theorem d_M_knock_385 : DC b_M_knock 385 (.iload_n 1) 1 386 := ⟨by decide +kernel, rfl⟩
theorem d_M_knock_386 : DC b_M_knock 386 (.dup2) 1 387 := ⟨by decide +kernel, rfl⟩
theorem d_M_knock_387 : DC b_M_knock 387 (.laload) 1 388 := ⟨by decide +kernel, rfl⟩
theorem d_M_knock_388 : DC b_M_knock 388 (.lload 19) 2 390 := ⟨by decide +kernel, rfl⟩
theorem d_M_knock_390 : DC b_M_knock 390 (.ladd) 1 391 := ⟨by decide +kernel, rfl⟩
theorem d_M_knock_391 : DC b_M_knock 391 (.lastore) 1 392 := ⟨by decide +kernel, rfl⟩
theorem d_M_knock_392 : DC b_M_knock 392 (.aload_n 0) 1 393 := ⟨by decide +kernel, rfl⟩
theorem d_M_knock_393 : DC b_M_knock 393 (.getfield 90) 3 396 := ⟨by decide +kernel, rfl⟩
theorem d_M_knock_396 : DC b_M_knock 396 (.iload_n 2) 1 397 := ⟨by decide +kernel, rfl⟩
theorem d_M_knock_397 : DC b_M_knock 397 (.dup2) 1 398 := ⟨by decide +kernel, rfl⟩
theorem d_M_knock_398 : DC b_M_knock 398 (.laload) 1 399 := ⟨by decide +kernel, rfl⟩
theorem d_M_knock_399 : DC b_M_knock 399 (.lload 19) 2 401 := ⟨by decide +kernel, rfl⟩
theorem d_M_knock_401 : DC b_M_knock 401 (.lsub) 1 402 := ⟨by decide +kernel, rfl⟩
theorem d_M_knock_402 : DC b_M_knock 402 (.lastore) 1 403 := ⟨by decide +kernel, rfl⟩
theorem d_M_knock_403 : DC b_M_knock 403 (.aload_n 0) 1 404 := ⟨by decide +kernel, rfl⟩
theorem d_M_knock_404 : DC b_M_knock 404 (.getfield 93) 3 407 := ⟨by decide +kernel, rfl⟩
theorem d_M_knock_407 : DC b_M_knock 407 (.iload_n 1) 1 408 := ⟨by decide +kernel, rfl⟩
theorem d_M_knock_408 : DC b_M_knock 408 (.iaload) 1 409 := ⟨by decide +kernel, rfl⟩
theorem d_M_knock_409 : DC b_M_knock 409 (.aload_n 0) 1 410 := ⟨by decide +kernel, rfl⟩
theorem d_M_knock_410 : DC b_M_knock 410 (.getfield 93) 3 413 := ⟨by decide +kernel, rfl⟩
theorem d_M_knock_413 : DC b_M_knock 413 (.iload_n 2) 1 414 := ⟨by decide +kernel, rfl⟩
theorem d_M_knock_414 : DC b_M_knock 414 (.iaload) 1 415 := ⟨by decide +kernel, rfl⟩
theorem d_M_knock_415 : DC b_M_knock 415 (.isub) 1 416 := ⟨by decide +kernel, rfl⟩
theorem d_M_knock_416 : DC b_M_knock 416 (.bipush 8) 2 418 := ⟨by decide +kernel, rfl⟩
theorem d_M_knock_418 : DC b_M_knock 418 (.idiv) 1 419 := ⟨by decide +kernel, rfl⟩
theorem d_M_knock_419 : DC b_M_knock 419 (.istore 17) 2 421 := ⟨by decide +kernel, rfl⟩
theorem d_M_knock_421 : DC b_M_knock 421 (.aload_n 0) 1 422 := ⟨by decide +kernel, rfl⟩
theorem d_M_knock_422 : DC b_M_knock 422 (.getfield 22) 3 425 := ⟨by decide +kernel, rfl⟩
theorem d_M_knock_425 : DC b_M_knock 425 (.aload_n 0) 1 426 := ⟨by decide +kernel, rfl⟩
theorem d_M_knock_426 : DC b_M_knock 426 (.getfield 74) 3 429 := ⟨by decide +kernel, rfl⟩
theorem d_M_knock_429 : DC b_M_knock 429 (.iload_n 1) 1 430 := ⟨by decide +kernel, rfl⟩
theorem d_M_knock_430 : DC b_M_knock 430 (.iaload) 1 431 := ⟨by decide +kernel, rfl⟩
theorem d_M_knock_431 : DC b_M_knock 431 (.iaload) 1 432 := ⟨by decide +kernel, rfl⟩
theorem d_M_knock_432 : DC b_M_knock 432 (.aload_n 0) 1 433 := ⟨by decide +kernel, rfl⟩
theorem d_M_knock_433 : DC b_M_knock 433 (.getfield 22) 3 436 := ⟨by decide +kernel, rfl⟩
theorem d_M_knock_436 : DC b_M_knock 436 (.aload_n 0) 1 437 := ⟨by decide +kernel, rfl⟩
theorem d_M_knock_437 : DC b_M_knock 437 (.getfield 74) 3 440 := ⟨by decide +kernel, rfl⟩
theorem d_M_knock_440 : DC b_M_knock 440 (.iload_n 2) 1 441 := ⟨by decide +kernel, rfl⟩
theorem d_M_knock_441 : DC b_M_knock 441 (.iaload) 1 442 := ⟨by decide +kernel, rfl⟩
theorem d_M_knock_442 : DC b_M_knock 442 (.iaload) 1 443 := ⟨by decide +kernel, rfl⟩
theorem d_M_knock_443 : DB b_M_knock 443 (.if_icmp .ne 7) 7 450 446 := ⟨by decide +kernel, by decide, rfl⟩
theorem d_M_knock_446 : DC b_M_knock 446 (.iconst 1) 1 447 := ⟨by decide +kernel, rfl⟩
theorem d_M_knock_447 : DB b_M_knock 447 (.goto 4) 4 451 450 := ⟨by decide +kernel, by decide, rfl⟩
theorem d_M_knock_450 : DC b_M_knock 450 (.iconst 3) 1 451 := ⟨by decide +kernel, rfl⟩
theorem d_M_knock_451 : DC b_M_knock 451 (.istore 18) 2 453 := ⟨by decide +kernel, rfl⟩
theorem d_M_knock_453 : DC b_M_knock 453 (.aload_n 0) 1 454 := ⟨by decide +kernel, rfl⟩
theorem d_M_knock_454 : DC b_M_knock 454 (.getfield 93) 3 457 := ⟨by decide +kernel, rfl⟩
theorem d_M_knock_457 : DC b_M_knock 457 (.iload_n 1) 1 458 := ⟨by decide +kernel, rfl⟩
theorem d_M_knock_458 : DC b_M_knock 458 (.iaload) 1 459 := ⟨by decide +kernel, rfl⟩
theorem d_M_knock_459 : DC b_M_knock 459 (.iload 17) 2 461 := ⟨by decide +kernel, rfl⟩
theorem d_M_knock_461 : DC b_M_knock 461 (.isub) 1 462 := ⟨by decide +kernel, rfl⟩
theorem d_M_knock_462 : DC b_M_knock 462 (.iload 18) 2 464 := ⟨by decide +kernel, rfl⟩
theorem d_M_knock_464 : DC b_M_knock 464 (.isub) 1 465 := ⟨by decide +kernel, rfl⟩
theorem d_M_knock_465 : DC b_M_knock 465 (.istore 19) 2 467 := ⟨by decide +kernel, rfl⟩
theorem d_M_knock_467 : DC b_M_knock 467 (.aload_n 0) 1 468 := ⟨by decide +kernel, rfl⟩
theorem d_M_knock_468 : DC b_M_knock 468 (.getfield 93) 3 471 := ⟨by decide +kernel, rfl⟩
theorem d_M_knock_471 : DC b_M_knock 471 (.iload_n 2) 1 472 := ⟨by decide +kernel, rfl⟩
theorem d_M_knock_472 : DC b_M_knock 472 (.iaload) 1 473 := ⟨by decide +kernel, rfl⟩
theorem d_M_knock_473 : DC b_M_knock 473 (.iload 17) 2 475 := ⟨by decide +kernel, rfl⟩
theorem d_M_knock_475 : DC b_M_knock 475 (.iadd) 1 476 := ⟨by decide +kernel, rfl⟩
theorem d_M_knock_476 : DC b_M_knock 476 (.iload 18) 2 478 := ⟨by decide +kernel, rfl⟩
theorem d_M_knock_478 : DC b_M_knock 478 (.isub) 1 479 := ⟨by decide +kernel, rfl⟩
theorem d_M_knock_479 : DC b_M_knock 479 (.istore 20) 2 481 := ⟨by decide +kernel, rfl⟩
theorem d_M_knock_481 : DC b_M_knock 481 (.aload_n 0) 1 482 := ⟨by decide +kernel, rfl⟩
theorem d_M_knock_482 : DC b_M_knock 482 (.getfield 93) 3 485 := ⟨by decide +kernel, rfl⟩
theorem d_M_knock_485 : DC b_M_knock 485 (.iload_n 1) 1 486 := ⟨by decide +kernel, rfl⟩
theorem d_M_knock_486 : DC b_M_knock 486 (.iload 19) 2 488 := ⟨by decide +kernel, rfl⟩
theorem d_M_knock_488 : DB b_M_knock 488 (.ifCond .le 8) 8 496 491 := ⟨by decide +kernel, by decide, rfl⟩
theorem d_M_knock_491 : DC b_M_knock 491 (.iload 19) 2 493 := ⟨by decide +kernel, rfl⟩
theorem d_M_knock_493 : DB b_M_knock 493 (.goto 4) 4 497 496 := ⟨by decide +kernel, by decide, rfl⟩
theorem d_M_knock_496 : DC b_M_knock 496 (.iconst 0) 1 497 := ⟨by decide +kernel, rfl⟩
theorem d_M_knock_497 : DC b_M_knock 497 (.iastore) 1 498 := ⟨by decide +kernel, rfl⟩
theorem d_M_knock_498 : DC b_M_knock 498 (.aload_n 0) 1 499 := ⟨by decide +kernel, rfl⟩
theorem d_M_knock_499 : DC b_M_knock 499 (.getfield 93) 3 502 := ⟨by decide +kernel, rfl⟩
theorem d_M_knock_502 : DC b_M_knock 502 (.iload_n 2) 1 503 := ⟨by decide +kernel, rfl⟩
theorem d_M_knock_503 : DC b_M_knock 503 (.iload 20) 2 505 := ⟨by decide +kernel, rfl⟩
theorem d_M_knock_505 : DB b_M_knock 505 (.ifCond .le 8) 8 513 508 := ⟨by decide +kernel, by decide, rfl⟩
theorem d_M_knock_508 : DC b_M_knock 508 (.iload 20) 2 510 := ⟨by decide +kernel, rfl⟩
theorem d_M_knock_510 : DB b_M_knock 510 (.goto 4) 4 514 513 := ⟨by decide +kernel, by decide, rfl⟩
theorem d_M_knock_513 : DC b_M_knock 513 (.iconst 0) 1 514 := ⟨by decide +kernel, rfl⟩
theorem d_M_knock_514 : DC b_M_knock 514 (.iastore) 1 515 := ⟨by decide +kernel, rfl⟩
theorem d_M_knock_515 : decode b_M_knock 515 = .ok (.return_, 1) := by decide +kernel
theorem w_M_knock_b514 {X : Ctx} {Y : Lay} (hY : IsM Y) (C : Cx X Y b_M_knock 21 none "TopYardModel" 1) {r : Mem} (xs0 : Int32) (xs1 : Int32) (μ : Mem) (hf : f_M_knock_b514 xs0 xs1 μ = some r) : J X Y none r 21 514 [] [.int xs0, .int xs1, .ref (yad Y 26)] μ := by
  unfold f_M_knock_b514 at hf
  refine ck hf (fun hi1 hf => ?_)
  refine j_iast C (kM hY rfl) (nM hY (by decide)) (lM hY rfl) hi1 d_M_knock_514 hf (fun μ2 hf => ?_)
  obtain rfl := Option.some.inj hf
  exact j_vret C d_M_knock_515
theorem w_M_knock_b497 {X : Ctx} {Y : Lay} (hY : IsM Y) (C : Cx X Y b_M_knock 21 none "TopYardModel" 1) {r : Mem} (x2 : Int32) (x20 : Int32) (xs0 : Int32) (xs1 : Int32) (μ : Mem) (hf : f_M_knock_b497 x2 x20 xs0 xs1 μ = some r) : J X Y none r 21 497 [(0, .ref (yad Y 0)), (2, .int x2), (20, .int x20)] [.int xs0, .int xs1, .ref (yad Y 26)] μ := by
  unfold f_M_knock_b497 at hf
  refine ck hf (fun hi1 hf => ?_)
  refine j_iast C (kM hY rfl) (nM hY (by decide)) (lM hY rfl) hi1 d_M_knock_497 hf (fun μ2 hf => ?_)
  refine j_aload_n C d_M_knock_498 0 rfl ?_
  refine j_gS (b := 26) C fl_M_93 (kM hY rfl) (nM hY (by decide)) rfl hY.2.2.2.1 rfl (sM hY rfl) d_M_knock_499 ?_
  refine j_iload_n C d_M_knock_502 1 rfl ?_
  refine j_iload C d_M_knock_503 2 rfl ?_
  refine j_if_le C d_M_knock_505 hf (fun hf => ?_) (fun hf => ?_)
  · refine j_iconst (v := 0) C d_M_knock_513 (by decide) ?_
    refine j_sub [] rfl ?_
    exact w_M_knock_b514 hY C 0 x2 μ2 hf
  · refine j_iload C d_M_knock_508 2 rfl ?_
    refine j_goto C d_M_knock_510 ?_
    refine j_sub [] rfl ?_
    exact w_M_knock_b514 hY C x20 x2 μ2 hf
theorem w_M_knock_b451 {X : Ctx} {Y : Lay} (hY : IsM Y) (C : Cx X Y b_M_knock 21 none "TopYardModel" 1) {r : Mem} (x1 : Int32) (x2 : Int32) (x17 : Int32) (xs0 : Int32) (μ : Mem) (hf : f_M_knock_b451 x1 x2 x17 xs0 μ = some r) : J X Y none r 21 451 [(0, .ref (yad Y 0)), (1, .int x1), (2, .int x2), (17, .int x17)] [.int xs0] μ := by
  unfold f_M_knock_b451 at hf
  refine j_istore (lvf := [(0, .ref (yad Y 0)), (1, .int x1), (2, .int x2), (17, .int x17)]) C d_M_knock_451 (by decide) rfl ?_
  refine j_aload_n C d_M_knock_453 1 rfl ?_
  refine j_gS (b := 26) C fl_M_93 (kM hY rfl) (nM hY (by decide)) rfl hY.2.2.2.1 rfl (sM hY rfl) d_M_knock_454 ?_
  refine j_iload_n C d_M_knock_457 2 rfl ?_
  refine ck hf (fun hi1 hf => ?_)
  refine j_iald C (kM hY rfl) (nM hY (by decide)) (lM hY rfl) hi1 d_M_knock_458 ?_
  refine j_iload C d_M_knock_459 4 rfl ?_
  refine j_isub C d_M_knock_461 ?_
  refine j_iload C d_M_knock_462 0 rfl ?_
  refine j_isub C d_M_knock_464 ?_
  refine j_istoreN (lvf := [(18, .int xs0), (0, .ref (yad Y 0)), (1, .int x1), (2, .int x2), (17, .int x17)]) C d_M_knock_465 (by decide) rfl hf (fun v2 hf => ?_)
  refine j_aload_n C d_M_knock_467 2 rfl ?_
  refine j_gS (b := 26) C fl_M_93 (kM hY rfl) (nM hY (by decide)) rfl hY.2.2.2.1 rfl (sM hY rfl) d_M_knock_468 ?_
  refine j_iload_n C d_M_knock_471 4 rfl ?_
  refine ck hf (fun hi3 hf => ?_)
  refine j_iald C (kM hY rfl) (nM hY (by decide)) (lM hY rfl) hi3 d_M_knock_472 ?_
  refine j_iload C d_M_knock_473 5 rfl ?_
  refine j_iadd C d_M_knock_475 ?_
  refine j_iload C d_M_knock_476 1 rfl ?_
  refine j_isub C d_M_knock_478 ?_
  refine j_istoreN (lvf := [(19, .int v2), (18, .int xs0), (0, .ref (yad Y 0)), (1, .int x1), (2, .int x2), (17, .int x17)]) C d_M_knock_479 (by decide) rfl hf (fun v4 hf => ?_)
  refine j_aload_n C d_M_knock_481 3 rfl ?_
  refine j_gS (b := 26) C fl_M_93 (kM hY rfl) (nM hY (by decide)) rfl hY.2.2.2.1 rfl (sM hY rfl) d_M_knock_482 ?_
  refine j_iload_n C d_M_knock_485 4 rfl ?_
  refine j_iload C d_M_knock_486 1 rfl ?_
  refine j_if_le C d_M_knock_488 hf (fun hf => ?_) (fun hf => ?_)
  · refine j_iconst (v := 0) C d_M_knock_496 (by decide) ?_
    refine j_sub [3, 5, 0] rfl ?_
    exact w_M_knock_b497 hY C x2 v4 0 x1 μ hf
  · refine j_iload C d_M_knock_491 1 rfl ?_
    refine j_goto C d_M_knock_493 ?_
    refine j_sub [3, 5, 0] rfl ?_
    exact w_M_knock_b497 hY C x2 v4 v2 x1 μ hf
theorem w_M_knock_b403 {X : Ctx} {Y : Lay} (hY : IsM Y) (C : Cx X Y b_M_knock 21 none "TopYardModel" 1) {r : Mem} (x1 : Int32) (x2 : Int32) (μ : Mem) (hf : f_M_knock_b403 x1 x2 μ = some r) : J X Y none r 21 403 [(0, .ref (yad Y 0)), (1, .int x1), (2, .int x2)] [] μ := by
  unfold f_M_knock_b403 at hf
  refine j_aload_n C d_M_knock_403 0 rfl ?_
  refine j_gS (b := 26) C fl_M_93 (kM hY rfl) (nM hY (by decide)) rfl hY.2.2.2.1 rfl (sM hY rfl) d_M_knock_404 ?_
  refine j_iload_n C d_M_knock_407 1 rfl ?_
  refine ck hf (fun hi1 hf => ?_)
  refine j_iald C (kM hY rfl) (nM hY (by decide)) (lM hY rfl) hi1 d_M_knock_408 ?_
  refine j_aload_n C d_M_knock_409 0 rfl ?_
  refine j_gS (b := 26) C fl_M_93 (kM hY rfl) (nM hY (by decide)) rfl hY.2.2.2.1 rfl (sM hY rfl) d_M_knock_410 ?_
  refine j_iload_n C d_M_knock_413 2 rfl ?_
  refine ck hf (fun hi2 hf => ?_)
  refine j_iald C (kM hY rfl) (nM hY (by decide)) (lM hY rfl) hi2 d_M_knock_414 ?_
  refine j_isub C d_M_knock_415 ?_
  refine j_bipush (v := 8) C d_M_knock_416 (by decide) ?_
  refine j_idiv C d_M_knock_418 (by decide) ?_
  refine j_istoreN (lvf := [(0, .ref (yad Y 0)), (1, .int x1), (2, .int x2)]) C d_M_knock_419 (by decide) rfl hf (fun v3 hf => ?_)
  refine j_aload_n C d_M_knock_421 1 rfl ?_
  refine j_gS (b := 5) C fl_M_22 (kM hY rfl) (nM hY (by decide)) rfl hY.2.2.2.1 rfl (sM hY rfl) d_M_knock_422 ?_
  refine j_aload_n C d_M_knock_425 1 rfl ?_
  refine j_gS (b := 20) C fl_M_74 (kM hY rfl) (nM hY (by decide)) rfl hY.2.2.2.1 rfl (sM hY rfl) d_M_knock_426 ?_
  refine j_iload_n C d_M_knock_429 2 rfl ?_
  refine ck hf (fun hi4 hf => ?_)
  refine j_iald C (kM hY rfl) (nM hY (by decide)) (lM hY rfl) hi4 d_M_knock_430 ?_
  refine ck hf (fun hi5 hf => ?_)
  refine j_iald C (kM hY rfl) (nM hY (by decide)) (lM hY rfl) hi5 d_M_knock_431 ?_
  refine j_aload_n C d_M_knock_432 1 rfl ?_
  refine j_gS (b := 5) C fl_M_22 (kM hY rfl) (nM hY (by decide)) rfl hY.2.2.2.1 rfl (sM hY rfl) d_M_knock_433 ?_
  refine j_aload_n C d_M_knock_436 1 rfl ?_
  refine j_gS (b := 20) C fl_M_74 (kM hY rfl) (nM hY (by decide)) rfl hY.2.2.2.1 rfl (sM hY rfl) d_M_knock_437 ?_
  refine j_iload_n C d_M_knock_440 3 rfl ?_
  refine ck hf (fun hi6 hf => ?_)
  refine j_iald C (kM hY rfl) (nM hY (by decide)) (lM hY rfl) hi6 d_M_knock_441 ?_
  refine ck hf (fun hi7 hf => ?_)
  refine j_iald C (kM hY rfl) (nM hY (by decide)) (lM hY rfl) hi7 d_M_knock_442 ?_
  refine j_icmp_ne C d_M_knock_443 hf (fun hf => ?_) (fun hf => ?_)
  · refine j_iconst (v := 3) C d_M_knock_450 (by decide) ?_
    refine j_sub [1, 2, 3, 0] rfl ?_
    exact w_M_knock_b451 hY C x1 x2 v3 3 μ hf
  · refine j_iconst (v := 1) C d_M_knock_446 (by decide) ?_
    refine j_goto C d_M_knock_447 ?_
    refine j_sub [1, 2, 3, 0] rfl ?_
    exact w_M_knock_b451 hY C x1 x2 v3 1 μ hf
theorem w_M_knock_b76 {X : Ctx} {Y : Lay} (hY : IsM Y) (C : Cx X Y b_M_knock 21 none "TopYardModel" 1) {r : Mem} (x1 : Int32) (x2 : Int32) (x3 : Int64) (x5 : Int64) (x7 : Int64) (x9 : Int64) (μ : Mem) (hf : f_M_knock_b76 x1 x2 x3 x5 x7 x9 μ = some r) : J X Y none r 21 76 [(0, .ref (yad Y 0)), (1, .int x1), (2, .int x2), (3, .long x3), (5, .long x5), (7, .long x7), (9, .long x9)] [] μ := by
  unfold f_M_knock_b76 at hf
  refine j_lload C d_M_knock_76 5 rfl ?_
  refine j_lload C d_M_knock_78 5 rfl ?_
  refine j_lmul C d_M_knock_80 ?_
  refine j_lload C d_M_knock_81 6 rfl ?_
  refine j_lload C d_M_knock_83 6 rfl ?_
  refine j_lmul C d_M_knock_85 ?_
  refine j_ladd C d_M_knock_86 ?_
  refine j_lstoreN (lvf := [(0, .ref (yad Y 0)), (1, .int x1), (2, .int x2), (3, .long x3), (5, .long x5), (7, .long x7), (9, .long x9)]) C d_M_knock_87 (by decide) rfl hf (fun v1 hf => ?_)
  refine j_ldc2 (v := 13) C d_M_knock_89 wd_204 ?_
  refine j_aload_n C d_M_knock_92 1 rfl ?_
  refine j_gS (b := 3) C fl_M_16 (kM hY rfl) (nM hY (by decide)) rfl hY.2.2.2.1 rfl (sM hY rfl) d_M_knock_93 ?_
  refine j_aload_n C d_M_knock_96 1 rfl ?_
  refine j_gS (b := 20) C fl_M_74 (kM hY rfl) (nM hY (by decide)) rfl hY.2.2.2.1 rfl (sM hY rfl) d_M_knock_97 ?_
  refine j_iload_n C d_M_knock_100 2 rfl ?_
  refine ck hf (fun hi2 hf => ?_)
  refine j_iald C (kM hY rfl) (nM hY (by decide)) (lM hY rfl) hi2 d_M_knock_101 ?_
  refine ck hf (fun hi3 hf => ?_)
  refine j_iald C (kM hY rfl) (nM hY (by decide)) (lM hY rfl) hi3 d_M_knock_102 ?_
  refine j_aload_n C d_M_knock_103 1 rfl ?_
  refine j_gS (b := 3) C fl_M_16 (kM hY rfl) (nM hY (by decide)) rfl hY.2.2.2.1 rfl (sM hY rfl) d_M_knock_104 ?_
  refine j_aload_n C d_M_knock_107 1 rfl ?_
  refine j_gS (b := 20) C fl_M_74 (kM hY rfl) (nM hY (by decide)) rfl hY.2.2.2.1 rfl (sM hY rfl) d_M_knock_108 ?_
  refine j_iload_n C d_M_knock_111 3 rfl ?_
  refine ck hf (fun hi4 hf => ?_)
  refine j_iald C (kM hY rfl) (nM hY (by decide)) (lM hY rfl) hi4 d_M_knock_112 ?_
  refine ck hf (fun hi5 hf => ?_)
  refine j_iald C (kM hY rfl) (nM hY (by decide)) (lM hY rfl) hi5 d_M_knock_113 ?_
  refine j_iadd C d_M_knock_114 ?_
  refine j_i2l C d_M_knock_115 ?_
  refine j_lmul C d_M_knock_116 ?_
  refine j_lstoreN (lvf := [(11, .long v1), (0, .ref (yad Y 0)), (1, .int x1), (2, .int x2), (3, .long x3), (5, .long x5), (7, .long x7), (9, .long x9)]) C d_M_knock_117 (by decide) rfl hf (fun v6 hf => ?_)
  refine j_aload_n C d_M_knock_119 2 rfl ?_
  refine j_gS (b := 24) C fl_M_87 (kM hY rfl) (nM hY (by decide)) rfl hY.2.2.2.1 rfl (sM hY rfl) d_M_knock_120 ?_
  refine j_iload_n C d_M_knock_123 4 rfl ?_
  refine ck hf (fun hi7 hf => ?_)
  refine j_lald C (kM hY rfl) (nM hY (by decide)) (lM hY rfl) hi7 d_M_knock_124 ?_
  refine j_lload_n C d_M_knock_125 5 rfl ?_
  refine j_lmul C d_M_knock_126 ?_
  refine j_aload_n C d_M_knock_127 2 rfl ?_
  refine j_gS (b := 24) C fl_M_87 (kM hY rfl) (nM hY (by decide)) rfl hY.2.2.2.1 rfl (sM hY rfl) d_M_knock_128 ?_
  refine j_iload_n C d_M_knock_131 3 rfl ?_
  refine ck hf (fun hi8 hf => ?_)
  refine j_lald C (kM hY rfl) (nM hY (by decide)) (lM hY rfl) hi8 d_M_knock_132 ?_
  refine j_lload C d_M_knock_133 6 rfl ?_
  refine j_lmul C d_M_knock_135 ?_
  refine j_lsub C d_M_knock_136 ?_
  refine j_lload C d_M_knock_137 7 rfl ?_
  refine j_lmul C d_M_knock_139 ?_
  refine j_aload_n C d_M_knock_140 2 rfl ?_
  refine j_gS (b := 25) C fl_M_90 (kM hY rfl) (nM hY (by decide)) rfl hY.2.2.2.1 rfl (sM hY rfl) d_M_knock_141 ?_
  refine j_iload_n C d_M_knock_144 4 rfl ?_
  refine ck hf (fun hi9 hf => ?_)
  refine j_lald C (kM hY rfl) (nM hY (by decide)) (lM hY rfl) hi9 d_M_knock_145 ?_
  refine j_lload_n C d_M_knock_146 5 rfl ?_
  refine j_lmul C d_M_knock_147 ?_
  refine j_aload_n C d_M_knock_148 2 rfl ?_
  refine j_gS (b := 25) C fl_M_90 (kM hY rfl) (nM hY (by decide)) rfl hY.2.2.2.1 rfl (sM hY rfl) d_M_knock_149 ?_
  refine j_iload_n C d_M_knock_152 3 rfl ?_
  refine ck hf (fun hi10 hf => ?_)
  refine j_lald C (kM hY rfl) (nM hY (by decide)) (lM hY rfl) hi10 d_M_knock_153 ?_
  refine j_lload C d_M_knock_154 6 rfl ?_
  refine j_lmul C d_M_knock_156 ?_
  refine j_lsub C d_M_knock_157 ?_
  refine j_lload C d_M_knock_158 8 rfl ?_
  refine j_lmul C d_M_knock_160 ?_
  refine j_ladd C d_M_knock_161 ?_
  refine j_lstoreN (lvf := [(13, .long v6), (11, .long v1), (0, .ref (yad Y 0)), (1, .int x1), (2, .int x2), (3, .long x3), (5, .long x5), (7, .long x7), (9, .long x9)]) C d_M_knock_162 (by decide) rfl hf (fun v11 hf => ?_)
  refine j_lload C d_M_knock_164 2 rfl ?_
  refine j_lload C d_M_knock_166 1 rfl ?_
  refine j_lload C d_M_knock_168 1 rfl ?_
  refine j_lmul C d_M_knock_170 ?_
  refine j_lcmp_gt C d_M_knock_171 d_M_knock_172 hf (fun hf => ?_) (fun hf => ?_)
  · obtain rfl := Option.some.inj hf
    exact j_vret C d_M_knock_182
  · refine j_lload C d_M_knock_175 0 rfl ?_
    refine j_lconst (v := 0) C d_M_knock_177 (by decide) ?_
    refine j_lcmp_lt C d_M_knock_178 d_M_knock_179 hf (fun hf => ?_) (fun hf => ?_)
    · refine j_aload_n C d_M_knock_183 3 rfl ?_
      refine j_dup C d_M_knock_184 rfl ?_
      refine j_gI C fl_M_260 (kM hY rfl) (nM hY (by decide)) rfl d_M_knock_185 ?_
      refine j_iconst (v := 1) C d_M_knock_188 (by decide) ?_
      refine j_iadd C d_M_knock_189 ?_
      refine j_pI C fl_M_260 (kM hY rfl) (nM hY (by decide)) rfl rfl rfl d_M_knock_190 hf (fun μ12 hf => ?_)
      refine j_aload_n C d_M_knock_193 3 rfl ?_
      refine j_gS (b := 3) C fl_M_16 (kM hY rfl) (nM hY (by decide)) rfl hY.2.2.2.1 rfl (sM hY rfl) d_M_knock_194 ?_
      refine j_aload_n C d_M_knock_197 3 rfl ?_
      refine j_gS (b := 20) C fl_M_74 (kM hY rfl) (nM hY (by decide)) rfl hY.2.2.2.1 rfl (sM hY rfl) d_M_knock_198 ?_
      refine j_iload_n C d_M_knock_201 4 rfl ?_
      refine ck hf (fun hi13 hf => ?_)
      refine j_iald C (kM hY rfl) (nM hY (by decide)) (lM hY rfl) hi13 d_M_knock_202 ?_
      refine ck hf (fun hi14 hf => ?_)
      refine j_iald C (kM hY rfl) (nM hY (by decide)) (lM hY rfl) hi14 d_M_knock_203 ?_
      refine j_aload_n C d_M_knock_204 3 rfl ?_
      refine j_gS (b := 3) C fl_M_16 (kM hY rfl) (nM hY (by decide)) rfl hY.2.2.2.1 rfl (sM hY rfl) d_M_knock_205 ?_
      refine j_aload_n C d_M_knock_208 3 rfl ?_
      refine j_gS (b := 20) C fl_M_74 (kM hY rfl) (nM hY (by decide)) rfl hY.2.2.2.1 rfl (sM hY rfl) d_M_knock_209 ?_
      refine j_iload_n C d_M_knock_212 5 rfl ?_
      refine ck hf (fun hi15 hf => ?_)
      refine j_iald C (kM hY rfl) (nM hY (by decide)) (lM hY rfl) hi15 d_M_knock_213 ?_
      refine ck hf (fun hi16 hf => ?_)
      refine j_iald C (kM hY rfl) (nM hY (by decide)) (lM hY rfl) hi16 d_M_knock_214 ?_
      refine j_icmp_ne C d_M_knock_215 hf (fun hf => ?_) (fun hf => ?_)
      · refine j_ldc2 (v := 2) C d_M_knock_321 wd_172 ?_
        refine j_lload C d_M_knock_324 0 rfl ?_
        refine j_lmul C d_M_knock_326 ?_
        refine j_lload C d_M_knock_327 8 rfl ?_
        refine j_lmul C d_M_knock_329 ?_
        refine j_lload_n C d_M_knock_330 6 rfl ?_
        refine j_lload C d_M_knock_331 7 rfl ?_
        refine j_ladd C d_M_knock_333 ?_
        refine j_lload C d_M_knock_334 2 rfl ?_
        refine j_lmul C d_M_knock_336 ?_
        refine ckn hf (fun hz32 hf => ?_)
        refine j_ldiv C d_M_knock_337 hz32 ?_
        refine j_lstoreN (lvf := [(15, .long v11), (13, .long v6), (11, .long v1), (0, .ref (yad Y 0)), (1, .int x1), (2, .int x2), (3, .long x3), (5, .long x5), (7, .long x7), (9, .long x9)]) C d_M_knock_338 (by decide) rfl hf (fun v17 hf => ?_)
        refine j_ldc2 (v := 2) C d_M_knock_340 wd_172 ?_
        refine j_lload C d_M_knock_343 1 rfl ?_
        refine j_lmul C d_M_knock_345 ?_
        refine j_lload C d_M_knock_346 10 rfl ?_
        refine j_lmul C d_M_knock_348 ?_
        refine j_lload_n C d_M_knock_349 7 rfl ?_
        refine j_lload C d_M_knock_350 8 rfl ?_
        refine j_ladd C d_M_knock_352 ?_
        refine j_lload C d_M_knock_353 3 rfl ?_
        refine j_lmul C d_M_knock_355 ?_
        refine ckn hf (fun hz31 hf => ?_)
        refine j_ldiv C d_M_knock_356 hz31 ?_
        refine j_lstoreN (lvf := [(17, .long v17), (15, .long v11), (13, .long v6), (11, .long v1), (0, .ref (yad Y 0)), (1, .int x1), (2, .int x2), (3, .long x3), (5, .long x5), (7, .long x7), (9, .long x9)]) C d_M_knock_357 (by decide) rfl hf (fun v18 hf => ?_)
        refine j_aload_n C d_M_knock_359 5 rfl ?_
        refine j_gS (b := 24) C fl_M_87 (kM hY rfl) (nM hY (by decide)) rfl hY.2.2.2.1 rfl (sM hY rfl) d_M_knock_360 ?_
        refine j_iload_n C d_M_knock_363 6 rfl ?_
        refine j_dup2 C d_M_knock_364 rfl rfl ?_
        refine ck hf (fun hi19 hf => ?_)
        refine j_lald C (kM hY rfl) (nM hY (by decide)) (lM hY rfl) hi19 d_M_knock_365 ?_
        refine j_lload C d_M_knock_366 1 rfl ?_
        refine j_ladd C d_M_knock_368 ?_
        refine ck hf (fun hi20 hf => ?_)
        refine j_last C (kM hY rfl) (nM hY (by decide)) (lM hY rfl) hi20 d_M_knock_369 hf (fun μ21 hf => ?_)
        refine j_aload_n C d_M_knock_370 5 rfl ?_
        refine j_gS (b := 24) C fl_M_87 (kM hY rfl) (nM hY (by decide)) rfl hY.2.2.2.1 rfl (sM hY rfl) d_M_knock_371 ?_
        refine j_iload_n C d_M_knock_374 7 rfl ?_
        refine j_dup2 C d_M_knock_375 rfl rfl ?_
        refine ck hf (fun hi22 hf => ?_)
        refine j_lald C (kM hY rfl) (nM hY (by decide)) (lM hY rfl) hi22 d_M_knock_376 ?_
        refine j_lload C d_M_knock_377 1 rfl ?_
        refine j_lsub C d_M_knock_379 ?_
        refine ck hf (fun hi23 hf => ?_)
        refine j_last C (kM hY rfl) (nM hY (by decide)) (lM hY rfl) hi23 d_M_knock_380 hf (fun μ24 hf => ?_)
        refine j_aload_n C d_M_knock_381 5 rfl ?_
        refine j_gS (b := 25) C fl_M_90 (kM hY rfl) (nM hY (by decide)) rfl hY.2.2.2.1 rfl (sM hY rfl) d_M_knock_382 ?_
        refine j_iload_n C d_M_knock_385 6 rfl ?_
        refine j_dup2 C d_M_knock_386 rfl rfl ?_
        refine ck hf (fun hi25 hf => ?_)
        refine j_lald C (kM hY rfl) (nM hY (by decide)) (lM hY rfl) hi25 d_M_knock_387 ?_
        refine j_lload C d_M_knock_388 0 rfl ?_
        refine j_ladd C d_M_knock_390 ?_
        refine ck hf (fun hi26 hf => ?_)
        refine j_last C (kM hY rfl) (nM hY (by decide)) (lM hY rfl) hi26 d_M_knock_391 hf (fun μ27 hf => ?_)
        refine j_aload_n C d_M_knock_392 5 rfl ?_
        refine j_gS (b := 25) C fl_M_90 (kM hY rfl) (nM hY (by decide)) rfl hY.2.2.2.1 rfl (sM hY rfl) d_M_knock_393 ?_
        refine j_iload_n C d_M_knock_396 7 rfl ?_
        refine j_dup2 C d_M_knock_397 rfl rfl ?_
        refine ck hf (fun hi28 hf => ?_)
        refine j_lald C (kM hY rfl) (nM hY (by decide)) (lM hY rfl) hi28 d_M_knock_398 ?_
        refine j_lload C d_M_knock_399 0 rfl ?_
        refine j_lsub C d_M_knock_401 ?_
        refine ck hf (fun hi29 hf => ?_)
        refine j_last C (kM hY rfl) (nM hY (by decide)) (lM hY rfl) hi29 d_M_knock_402 hf (fun μ30 hf => ?_)
        refine j_sub [5, 6, 7] rfl ?_
        exact w_M_knock_b403 hY C x1 x2 μ30 hf
      · refine j_aload_n C d_M_knock_218 3 rfl ?_
        refine j_dup C d_M_knock_219 rfl ?_
        refine j_gI C fl_M_263 (kM hY rfl) (nM hY (by decide)) rfl d_M_knock_220 ?_
        refine j_iconst (v := 1) C d_M_knock_223 (by decide) ?_
        refine j_iadd C d_M_knock_224 ?_
        refine j_pI C fl_M_263 (kM hY rfl) (nM hY (by decide)) rfl rfl rfl d_M_knock_225 hf (fun μ33 hf => ?_)
        refine j_aload_n C d_M_knock_228 3 rfl ?_
        refine j_gS (b := 24) C fl_M_87 (kM hY rfl) (nM hY (by decide)) rfl hY.2.2.2.1 rfl (sM hY rfl) d_M_knock_229 ?_
        refine j_iload_n C d_M_knock_232 4 rfl ?_
        refine ck hf (fun hi34 hf => ?_)
        refine j_lald C (kM hY rfl) (nM hY (by decide)) (lM hY rfl) hi34 d_M_knock_233 ?_
        refine j_aload_n C d_M_knock_234 3 rfl ?_
        refine j_gS (b := 24) C fl_M_87 (kM hY rfl) (nM hY (by decide)) rfl hY.2.2.2.1 rfl (sM hY rfl) d_M_knock_235 ?_
        refine j_iload_n C d_M_knock_238 5 rfl ?_
        refine ck hf (fun hi35 hf => ?_)
        refine j_lald C (kM hY rfl) (nM hY (by decide)) (lM hY rfl) hi35 d_M_knock_239 ?_
        refine j_ladd C d_M_knock_240 ?_
        refine j_lstoreN (lvf := [(15, .long v11), (13, .long v6), (11, .long v1), (0, .ref (yad Y 0)), (1, .int x1), (2, .int x2), (3, .long x3), (5, .long x5), (7, .long x7), (9, .long x9)]) C d_M_knock_241 (by decide) rfl hf (fun v36 hf => ?_)
        refine j_aload_n C d_M_knock_243 4 rfl ?_
        refine j_gS (b := 25) C fl_M_90 (kM hY rfl) (nM hY (by decide)) rfl hY.2.2.2.1 rfl (sM hY rfl) d_M_knock_244 ?_
        refine j_iload_n C d_M_knock_247 5 rfl ?_
        refine ck hf (fun hi37 hf => ?_)
        refine j_lald C (kM hY rfl) (nM hY (by decide)) (lM hY rfl) hi37 d_M_knock_248 ?_
        refine j_aload_n C d_M_knock_249 4 rfl ?_
        refine j_gS (b := 25) C fl_M_90 (kM hY rfl) (nM hY (by decide)) rfl hY.2.2.2.1 rfl (sM hY rfl) d_M_knock_250 ?_
        refine j_iload_n C d_M_knock_253 6 rfl ?_
        refine ck hf (fun hi38 hf => ?_)
        refine j_lald C (kM hY rfl) (nM hY (by decide)) (lM hY rfl) hi38 d_M_knock_254 ?_
        refine j_ladd C d_M_knock_255 ?_
        refine j_lstoreN (lvf := [(17, .long v36), (15, .long v11), (13, .long v6), (11, .long v1), (0, .ref (yad Y 0)), (1, .int x1), (2, .int x2), (3, .long x3), (5, .long x5), (7, .long x7), (9, .long x9)]) C d_M_knock_256 (by decide) rfl hf (fun v39 hf => ?_)
        refine j_aload_n C d_M_knock_258 5 rfl ?_
        refine j_gS (b := 24) C fl_M_87 (kM hY rfl) (nM hY (by decide)) rfl hY.2.2.2.1 rfl (sM hY rfl) d_M_knock_259 ?_
        refine j_iload_n C d_M_knock_262 6 rfl ?_
        refine j_lload C d_M_knock_263 1 rfl ?_
        refine j_lload_n C d_M_knock_265 8 rfl ?_
        refine j_lmul C d_M_knock_266 ?_
        refine j_lload_n C d_M_knock_267 8 rfl ?_
        refine j_lload C d_M_knock_268 9 rfl ?_
        refine j_ladd C d_M_knock_270 ?_
        refine ckn hf (fun hz51 hf => ?_)
        refine j_ldiv C d_M_knock_271 hz51 ?_
        refine ck hf (fun hi40 hf => ?_)
        refine j_last C (kM hY rfl) (nM hY (by decide)) (lM hY rfl) hi40 d_M_knock_272 hf (fun μ41 hf => ?_)
        refine j_aload_n C d_M_knock_273 5 rfl ?_
        refine j_gS (b := 25) C fl_M_90 (kM hY rfl) (nM hY (by decide)) rfl hY.2.2.2.1 rfl (sM hY rfl) d_M_knock_274 ?_
        refine j_iload_n C d_M_knock_277 6 rfl ?_
        refine j_lload C d_M_knock_278 0 rfl ?_
        refine j_lload_n C d_M_knock_280 8 rfl ?_
        refine j_lmul C d_M_knock_281 ?_
        refine j_lload_n C d_M_knock_282 8 rfl ?_
        refine j_lload C d_M_knock_283 9 rfl ?_
        refine j_ladd C d_M_knock_285 ?_
        refine ckn hf (fun hz50 hf => ?_)
        refine j_ldiv C d_M_knock_286 hz50 ?_
        refine ck hf (fun hi42 hf => ?_)
        refine j_last C (kM hY rfl) (nM hY (by decide)) (lM hY rfl) hi42 d_M_knock_287 hf (fun μ43 hf => ?_)
        refine j_aload_n C d_M_knock_288 5 rfl ?_
        refine j_gS (b := 24) C fl_M_87 (kM hY rfl) (nM hY (by decide)) rfl hY.2.2.2.1 rfl (sM hY rfl) d_M_knock_289 ?_
        refine j_iload_n C d_M_knock_292 7 rfl ?_
        refine j_lload C d_M_knock_293 1 rfl ?_
        refine j_aload_n C d_M_knock_295 5 rfl ?_
        refine j_gS (b := 24) C fl_M_87 (kM hY rfl) (nM hY (by decide)) rfl hY.2.2.2.1 rfl (sM hY rfl) d_M_knock_296 ?_
        refine j_iload_n C d_M_knock_299 6 rfl ?_
        refine ck hf (fun hi44 hf => ?_)
        refine j_lald C (kM hY rfl) (nM hY (by decide)) (lM hY rfl) hi44 d_M_knock_300 ?_
        refine j_lsub C d_M_knock_301 ?_
        refine ck hf (fun hi45 hf => ?_)
        refine j_last C (kM hY rfl) (nM hY (by decide)) (lM hY rfl) hi45 d_M_knock_302 hf (fun μ46 hf => ?_)
        refine j_aload_n C d_M_knock_303 5 rfl ?_
        refine j_gS (b := 25) C fl_M_90 (kM hY rfl) (nM hY (by decide)) rfl hY.2.2.2.1 rfl (sM hY rfl) d_M_knock_304 ?_
        refine j_iload_n C d_M_knock_307 7 rfl ?_
        refine j_lload C d_M_knock_308 0 rfl ?_
        refine j_aload_n C d_M_knock_310 5 rfl ?_
        refine j_gS (b := 25) C fl_M_90 (kM hY rfl) (nM hY (by decide)) rfl hY.2.2.2.1 rfl (sM hY rfl) d_M_knock_311 ?_
        refine j_iload_n C d_M_knock_314 6 rfl ?_
        refine ck hf (fun hi47 hf => ?_)
        refine j_lald C (kM hY rfl) (nM hY (by decide)) (lM hY rfl) hi47 d_M_knock_315 ?_
        refine j_lsub C d_M_knock_316 ?_
        refine ck hf (fun hi48 hf => ?_)
        refine j_last C (kM hY rfl) (nM hY (by decide)) (lM hY rfl) hi48 d_M_knock_317 hf (fun μ49 hf => ?_)
        refine j_goto C d_M_knock_318 ?_
        refine j_sub [5, 6, 7] rfl ?_
        exact w_M_knock_b403 hY C x1 x2 μ49 hf
    · obtain rfl := Option.some.inj hf
      exact j_vret C d_M_knock_182
theorem c_M_knock {l : Launch} {Y : Lay} (hY : IsM Y) {μ : Mem} {x1 : Int32} {x2 : Int32} {r : Mem} (hf : f_M_knock μ x1 x2 = some r) : Ct l Y y_M_knock b_M_knock 21 none 1 [.ref (yad Y 0), .int x1, .int x2] none μ r := by
  refine ct_of (own := "TopYardModel") (lv := [(0, .ref (yad Y 0)), (1, .int x1), (2, .int x2)]) (by decide +kernel) rfl (Nat.le_of_ble_eq_true rfl) rfl (fun X hl C => ?_)
  subst hl
  unfold f_M_knock at hf
  refine j_aload_n C d_M_knock_0 0 rfl ?_
  refine j_gS (b := 2) C fl_M_13 (kM hY rfl) (nM hY (by decide)) rfl hY.2.2.2.1 rfl (sM hY rfl) d_M_knock_1 ?_
  refine j_aload_n C d_M_knock_4 0 rfl ?_
  refine j_gS (b := 20) C fl_M_74 (kM hY rfl) (nM hY (by decide)) rfl hY.2.2.2.1 rfl (sM hY rfl) d_M_knock_5 ?_
  refine j_iload_n C d_M_knock_8 1 rfl ?_
  refine ck hf (fun hi1 hf => ?_)
  refine j_iald C (kM hY rfl) (nM hY (by decide)) (lM hY rfl) hi1 d_M_knock_9 ?_
  refine ck hf (fun hi2 hf => ?_)
  refine j_iald C (kM hY rfl) (nM hY (by decide)) (lM hY rfl) hi2 d_M_knock_10 ?_
  refine j_i2l C d_M_knock_11 ?_
  refine j_lstore_nN (lvf := [(0, .ref (yad Y 0)), (1, .int x1), (2, .int x2)]) C d_M_knock_12 (by decide) rfl hf (fun v3 hf => ?_)
  refine j_aload_n C d_M_knock_13 1 rfl ?_
  refine j_gS (b := 2) C fl_M_13 (kM hY rfl) (nM hY (by decide)) rfl hY.2.2.2.1 rfl (sM hY rfl) d_M_knock_14 ?_
  refine j_aload_n C d_M_knock_17 1 rfl ?_
  refine j_gS (b := 20) C fl_M_74 (kM hY rfl) (nM hY (by decide)) rfl hY.2.2.2.1 rfl (sM hY rfl) d_M_knock_18 ?_
  refine j_iload_n C d_M_knock_21 3 rfl ?_
  refine ck hf (fun hi4 hf => ?_)
  refine j_iald C (kM hY rfl) (nM hY (by decide)) (lM hY rfl) hi4 d_M_knock_22 ?_
  refine ck hf (fun hi5 hf => ?_)
  refine j_iald C (kM hY rfl) (nM hY (by decide)) (lM hY rfl) hi5 d_M_knock_23 ?_
  refine j_i2l C d_M_knock_24 ?_
  refine j_lstoreN (lvf := [(3, .long v3), (0, .ref (yad Y 0)), (1, .int x1), (2, .int x2)]) C d_M_knock_25 (by decide) rfl hf (fun v6 hf => ?_)
  refine j_aload_n C d_M_knock_27 2 rfl ?_
  refine j_gS (b := 21) C fl_M_77 (kM hY rfl) (nM hY (by decide)) rfl hY.2.2.2.1 rfl (sM hY rfl) d_M_knock_28 ?_
  refine j_iload_n C d_M_knock_31 4 rfl ?_
  refine ck hf (fun hi7 hf => ?_)
  refine j_lald C (kM hY rfl) (nM hY (by decide)) (lM hY rfl) hi7 d_M_knock_32 ?_
  refine j_aload_n C d_M_knock_33 2 rfl ?_
  refine j_gS (b := 21) C fl_M_77 (kM hY rfl) (nM hY (by decide)) rfl hY.2.2.2.1 rfl (sM hY rfl) d_M_knock_34 ?_
  refine j_iload_n C d_M_knock_37 3 rfl ?_
  refine ck hf (fun hi8 hf => ?_)
  refine j_lald C (kM hY rfl) (nM hY (by decide)) (lM hY rfl) hi8 d_M_knock_38 ?_
  refine j_lsub C d_M_knock_39 ?_
  refine j_lstoreN (lvf := [(5, .long v6), (3, .long v3), (0, .ref (yad Y 0)), (1, .int x1), (2, .int x2)]) C d_M_knock_40 (by decide) rfl hf (fun v9 hf => ?_)
  refine j_aload_n C d_M_knock_42 3 rfl ?_
  refine j_gS (b := 22) C fl_M_81 (kM hY rfl) (nM hY (by decide)) rfl hY.2.2.2.1 rfl (sM hY rfl) d_M_knock_43 ?_
  refine j_iload_n C d_M_knock_46 5 rfl ?_
  refine ck hf (fun hi10 hf => ?_)
  refine j_lald C (kM hY rfl) (nM hY (by decide)) (lM hY rfl) hi10 d_M_knock_47 ?_
  refine j_aload_n C d_M_knock_48 3 rfl ?_
  refine j_gS (b := 22) C fl_M_81 (kM hY rfl) (nM hY (by decide)) rfl hY.2.2.2.1 rfl (sM hY rfl) d_M_knock_49 ?_
  refine j_iload_n C d_M_knock_52 4 rfl ?_
  refine ck hf (fun hi11 hf => ?_)
  refine j_lald C (kM hY rfl) (nM hY (by decide)) (lM hY rfl) hi11 d_M_knock_53 ?_
  refine j_lsub C d_M_knock_54 ?_
  refine j_lstoreN (lvf := [(7, .long v9), (5, .long v6), (3, .long v3), (0, .ref (yad Y 0)), (1, .int x1), (2, .int x2)]) C d_M_knock_55 (by decide) rfl hf (fun v12 hf => ?_)
  refine j_lload C d_M_knock_57 1 rfl ?_
  refine j_lconst (v := 0) C d_M_knock_59 (by decide) ?_
  refine j_lcmp_ne C d_M_knock_60 d_M_knock_61 hf (fun hf => ?_) (fun hf => ?_)
  · refine j_sub [4, 5, 6, 3, 2, 1, 0] rfl ?_
    exact w_M_knock_b76 hY C x1 x2 v3 v6 v9 v12 μ hf
  · refine j_lload C d_M_knock_64 0 rfl ?_
    refine j_lconst (v := 0) C d_M_knock_66 (by decide) ?_
    refine j_lcmp_ne C d_M_knock_67 d_M_knock_68 hf (fun hf => ?_) (fun hf => ?_)
    · refine j_sub [4, 5, 6, 3, 2, 1, 0] rfl ?_
      exact w_M_knock_b76 hY C x1 x2 v3 v6 v9 v12 μ hf
    · refine j_ldc2 (v := 65) C d_M_knock_71 wd_192 ?_
      refine j_lstore (lvf := [(9, .long v12), (5, .long v6), (3, .long v3), (0, .ref (yad Y 0)), (1, .int x1), (2, .int x2)]) C d_M_knock_74 (by decide) rfl ?_
      refine j_sub [4, 5, 6, 3, 2, 0, 1] rfl ?_
      exact w_M_knock_b76 hY C x1 x2 v3 v6 65 v12 μ hf
theorem d_M_ticks_0 : DC b_M_ticks 0 (.iconst 0) 1 1 := ⟨by decide +kernel, rfl⟩
theorem d_M_ticks_1 : DC b_M_ticks 1 (.istore 4) 2 3 := ⟨by decide +kernel, rfl⟩
theorem d_M_ticks_3 : DC b_M_ticks 3 (.iload 4) 2 5 := ⟨by decide +kernel, rfl⟩
theorem d_M_ticks_5 : DC b_M_ticks 5 (.aload_n 0) 1 6 := ⟨by decide +kernel, rfl⟩
theorem d_M_ticks_6 : DC b_M_ticks 6 (.getfield 234) 3 9 := ⟨by decide +kernel, rfl⟩
theorem d_M_ticks_9 : DB b_M_ticks 9 (.if_icmp .ge 75) 75 84 12 := ⟨by decide +kernel, by decide, rfl⟩
theorem d_M_ticks_12 : DC b_M_ticks 12 (.iload_n 3) 1 13 := ⟨by decide +kernel, rfl⟩
theorem d_M_ticks_13 : DB b_M_ticks 13 (.ifCond .eq 71) 71 84 16 := ⟨by decide +kernel, by decide, rfl⟩
theorem d_M_ticks_16 : DC b_M_ticks 16 (.aload_n 0) 1 17 := ⟨by decide +kernel, rfl⟩
theorem d_M_ticks_17 : DC b_M_ticks 17 (.getfield 68) 3 20 := ⟨by decide +kernel, rfl⟩
theorem d_M_ticks_20 : DC b_M_ticks 20 (.iload 4) 2 22 := ⟨by decide +kernel, rfl⟩
theorem d_M_ticks_22 : DC b_M_ticks 22 (.iaload) 1 23 := ⟨by decide +kernel, rfl⟩
theorem d_M_ticks_23 : DC b_M_ticks 23 (.iload_n 1) 1 24 := ⟨by decide +kernel, rfl⟩
theorem d_M_ticks_24 : DB b_M_ticks 24 (.if_icmp .ne 54) 54 78 27 := ⟨by decide +kernel, by decide, rfl⟩
theorem d_M_ticks_27 : DC b_M_ticks 27 (.aload_n 0) 1 28 := ⟨by decide +kernel, rfl⟩
theorem d_M_ticks_28 : DC b_M_ticks 28 (.getfield 65) 3 31 := ⟨by decide +kernel, rfl⟩
theorem d_M_ticks_31 : DC b_M_ticks 31 (.iload 4) 2 33 := ⟨by decide +kernel, rfl⟩
theorem d_M_ticks_33 : DC b_M_ticks 33 (.iaload) 1 34 := ⟨by decide +kernel, rfl⟩
theorem d_M_ticks_34 : DC b_M_ticks 34 (.aload_n 0) 1 35 := ⟨by decide +kernel, rfl⟩
theorem d_M_ticks_35 : DC b_M_ticks 35 (.getfield 245) 3 38 := ⟨by decide +kernel, rfl⟩
theorem d_M_ticks_38 : DB b_M_ticks 38 (.if_icmp .ge 40) 40 78 41 := ⟨by decide +kernel, by decide, rfl⟩
theorem d_M_ticks_41 : DC b_M_ticks 41 (.aload_n 0) 1 42 := ⟨by decide +kernel, rfl⟩
theorem d_M_ticks_42 : DC b_M_ticks 42 (.getfield 99) 3 45 := ⟨by decide +kernel, rfl⟩
theorem d_M_ticks_45 : DC b_M_ticks 45 (.aload_n 0) 1 46 := ⟨by decide +kernel, rfl⟩
theorem d_M_ticks_46 : DC b_M_ticks 46 (.getfield 65) 3 49 := ⟨by decide +kernel, rfl⟩
theorem d_M_ticks_49 : DC b_M_ticks 49 (.iload 4) 2 51 := ⟨by decide +kernel, rfl⟩
theorem d_M_ticks_51 : DC b_M_ticks 51 (.iaload) 1 52 := ⟨by decide +kernel, rfl⟩
theorem d_M_ticks_52 : DC b_M_ticks 52 (.iaload) 1 53 := ⟨by decide +kernel, rfl⟩
theorem d_M_ticks_53 : DB b_M_ticks 53 (.ifCond .ne 25) 25 78 56 := ⟨by decide +kernel, by decide, rfl⟩
theorem d_M_ticks_56 : DC b_M_ticks 56 (.aload_n 0) 1 57 := ⟨by decide +kernel, rfl⟩
theorem d_M_ticks_57 : DC b_M_ticks 57 (.getfield 93) 3 60 := ⟨by decide +kernel, rfl⟩
theorem d_M_ticks_60 : DC b_M_ticks 60 (.aload_n 0) 1 61 := ⟨by decide +kernel, rfl⟩
theorem d_M_ticks_61 : DC b_M_ticks 61 (.getfield 65) 3 64 := ⟨by decide +kernel, rfl⟩
theorem d_M_ticks_64 : DC b_M_ticks 64 (.iload 4) 2 66 := ⟨by decide +kernel, rfl⟩
theorem d_M_ticks_66 : DC b_M_ticks 66 (.iaload) 1 67 := ⟨by decide +kernel, rfl⟩
theorem d_M_ticks_67 : DC b_M_ticks 67 (.dup2) 1 68 := ⟨by decide +kernel, rfl⟩
theorem d_M_ticks_68 : DC b_M_ticks 68 (.iaload) 1 69 := ⟨by decide +kernel, rfl⟩
theorem d_M_ticks_69 : DC b_M_ticks 69 (.aload_n 0) 1 70 := ⟨by decide +kernel, rfl⟩
theorem d_M_ticks_70 : DC b_M_ticks 70 (.getfield 71) 3 73 := ⟨by decide +kernel, rfl⟩
theorem d_M_ticks_73 : DC b_M_ticks 73 (.iload 4) 2 75 := ⟨by decide +kernel, rfl⟩
theorem d_M_ticks_75 : DC b_M_ticks 75 (.iaload) 1 76 := ⟨by decide +kernel, rfl⟩
theorem d_M_ticks_76 : DC b_M_ticks 76 (.iadd) 1 77 := ⟨by decide +kernel, rfl⟩
theorem d_M_ticks_77 : DC b_M_ticks 77 (.iastore) 1 78 := ⟨by decide +kernel, rfl⟩
theorem d_M_ticks_78 : DC b_M_ticks 78 (.iinc 4 1) 3 81 := ⟨by decide +kernel, rfl⟩
theorem d_M_ticks_81 : DB b_M_ticks 81 (.goto (-78)) (-78) 3 84 := ⟨by decide +kernel, by decide, rfl⟩
theorem d_M_ticks_84 : DC b_M_ticks 84 (.aload_n 0) 1 85 := ⟨by decide +kernel, rfl⟩
theorem d_M_ticks_85 : DC b_M_ticks 85 (.invokevirtual 266) 3 88 := ⟨by decide +kernel, rfl⟩
theorem d_M_ticks_88 : DC b_M_ticks 88 (.iconst 0) 1 89 := ⟨by decide +kernel, rfl⟩
theorem d_M_ticks_89 : DC b_M_ticks 89 (.istore 4) 2 91 := ⟨by decide +kernel, rfl⟩
theorem d_M_ticks_91 : DC b_M_ticks 91 (.iload 4) 2 93 := ⟨by decide +kernel, rfl⟩
theorem d_M_ticks_93 : DC b_M_ticks 93 (.aload_n 0) 1 94 := ⟨by decide +kernel, rfl⟩
theorem d_M_ticks_94 : DC b_M_ticks 94 (.getfield 245) 3 97 := ⟨by decide +kernel, rfl⟩
theorem d_M_ticks_97 : DB b_M_ticks 97 (.if_icmp .ge 58) 58 155 100 := ⟨by decide +kernel, by decide, rfl⟩
theorem d_M_ticks_100 : DC b_M_ticks 100 (.iload 4) 2 102 := ⟨by decide +kernel, rfl⟩
theorem d_M_ticks_102 : DC b_M_ticks 102 (.iconst 1) 1 103 := ⟨by decide +kernel, rfl⟩
theorem d_M_ticks_103 : DC b_M_ticks 103 (.iadd) 1 104 := ⟨by decide +kernel, rfl⟩
theorem d_M_ticks_104 : DC b_M_ticks 104 (.istore 5) 2 106 := ⟨by decide +kernel, rfl⟩
theorem d_M_ticks_106 : DC b_M_ticks 106 (.iload 5) 2 108 := ⟨by decide +kernel, rfl⟩
theorem d_M_ticks_108 : DC b_M_ticks 108 (.aload_n 0) 1 109 := ⟨by decide +kernel, rfl⟩
theorem d_M_ticks_109 : DC b_M_ticks 109 (.getfield 245) 3 112 := ⟨by decide +kernel, rfl⟩
theorem d_M_ticks_112 : DB b_M_ticks 112 (.if_icmp .ge 37) 37 149 115 := ⟨by decide +kernel, by decide, rfl⟩
theorem d_M_ticks_115 : DC b_M_ticks 115 (.aload_n 0) 1 116 := ⟨by decide +kernel, rfl⟩
theorem d_M_ticks_116 : DC b_M_ticks 116 (.getfield 99) 3 119 := ⟨by decide +kernel, rfl⟩
theorem d_M_ticks_119 : DC b_M_ticks 119 (.iload 4) 2 121 := ⟨by decide +kernel, rfl⟩
theorem d_M_ticks_121 : DC b_M_ticks 121 (.iaload) 1 122 := ⟨by decide +kernel, rfl⟩
theorem d_M_ticks_122 : DB b_M_ticks 122 (.ifCond .ne 21) 21 143 125 := ⟨by decide +kernel, by decide, rfl⟩
theorem d_M_ticks_125 : DC b_M_ticks 125 (.aload_n 0) 1 126 := ⟨by decide +kernel, rfl⟩
theorem d_M_ticks_126 : DC b_M_ticks 126 (.getfield 99) 3 129 := ⟨by decide +kernel, rfl⟩
theorem d_M_ticks_129 : DC b_M_ticks 129 (.iload 5) 2 131 := ⟨by decide +kernel, rfl⟩
theorem d_M_ticks_131 : DC b_M_ticks 131 (.iaload) 1 132 := ⟨by decide +kernel, rfl⟩
theorem d_M_ticks_132 : DB b_M_ticks 132 (.ifCond .ne 11) 11 143 135 := ⟨by decide +kernel, by decide, rfl⟩
theorem d_M_ticks_135 : DC b_M_ticks 135 (.aload_n 0) 1 136 := ⟨by decide +kernel, rfl⟩
theorem d_M_ticks_136 : DC b_M_ticks 136 (.iload 4) 2 138 := ⟨by decide +kernel, rfl⟩
theorem d_M_ticks_138 : DC b_M_ticks 138 (.iload 5) 2 140 := ⟨by decide +kernel, rfl⟩
theorem d_M_ticks_140 : DC b_M_ticks 140 (.invokevirtual 269) 3 143 := ⟨by decide +kernel, rfl⟩
theorem d_M_ticks_143 : DC b_M_ticks 143 (.iinc 5 1) 3 146 := ⟨by decide +kernel, rfl⟩
theorem d_M_ticks_146 : DB b_M_ticks 146 (.goto (-40)) (-40) 106 149 := ⟨by decide +kernel, by decide, rfl⟩
theorem d_M_ticks_149 : DC b_M_ticks 149 (.iinc 4 1) 3 152 := ⟨by decide +kernel, rfl⟩
theorem d_M_ticks_152 : DB b_M_ticks 152 (.goto (-61)) (-61) 91 155 := ⟨by decide +kernel, by decide, rfl⟩
theorem d_M_ticks_155 : DC b_M_ticks 155 (.iconst 0) 1 156 := ⟨by decide +kernel, rfl⟩
theorem d_M_ticks_156 : DC b_M_ticks 156 (.istore 4) 2 158 := ⟨by decide +kernel, rfl⟩
theorem d_M_ticks_158 : DC b_M_ticks 158 (.iload 4) 2 160 := ⟨by decide +kernel, rfl⟩
theorem d_M_ticks_160 : DC b_M_ticks 160 (.aload_n 0) 1 161 := ⟨by decide +kernel, rfl⟩
theorem d_M_ticks_161 : DC b_M_ticks 161 (.getfield 245) 3 164 := ⟨by decide +kernel, rfl⟩
theorem d_M_ticks_164 : DB b_M_ticks 164 (.if_icmp .ge 99) 99 263 167 := ⟨by decide +kernel, by decide, rfl⟩
theorem d_M_ticks_167 : DC b_M_ticks 167 (.aload_n 0) 1 168 := ⟨by decide +kernel, rfl⟩
theorem d_M_ticks_168 : DC b_M_ticks 168 (.getfield 99) 3 171 := ⟨by decide +kernel, rfl⟩
theorem d_M_ticks_171 : DC b_M_ticks 171 (.iload 4) 2 173 := ⟨by decide +kernel, rfl⟩
theorem d_M_ticks_173 : DC b_M_ticks 173 (.iaload) 1 174 := ⟨by decide +kernel, rfl⟩
theorem d_M_ticks_174 : DB b_M_ticks 174 (.ifCond .ne 83) 83 257 177 := ⟨by decide +kernel, by decide, rfl⟩
theorem d_M_ticks_177 : DC b_M_ticks 177 (.aload_n 0) 1 178 := ⟨by decide +kernel, rfl⟩
theorem d_M_ticks_178 : DC b_M_ticks 178 (.getfield 93) 3 181 := ⟨by decide +kernel, rfl⟩
theorem d_M_ticks_181 : DC b_M_ticks 181 (.iload 4) 2 183 := ⟨by decide +kernel, rfl⟩
theorem d_M_ticks_183 : DC b_M_ticks 183 (.iaload) 1 184 := ⟨by decide +kernel, rfl⟩
theorem d_M_ticks_184 : DC b_M_ticks 184 (.bipush 10) 2 186 := ⟨by decide +kernel, rfl⟩
theorem d_M_ticks_186 : DB b_M_ticks 186 (.if_icmp .lt 15) 15 201 189 := ⟨by decide +kernel, by decide, rfl⟩
theorem d_M_ticks_189 : DC b_M_ticks 189 (.aload_n 0) 1 190 := ⟨by decide +kernel, rfl⟩
theorem d_M_ticks_190 : DC b_M_ticks 190 (.getfield 96) 3 193 := ⟨by decide +kernel, rfl⟩
theorem d_M_ticks_193 : DC b_M_ticks 193 (.iload 4) 2 195 := ⟨by decide +kernel, rfl⟩
theorem d_M_ticks_195 : DC b_M_ticks 195 (.iaload) 1 196 := ⟨by decide +kernel, rfl⟩
theorem d_M_ticks_196 : DC b_M_ticks 196 (.bipush 8) 2 198 := ⟨by decide +kernel, rfl⟩
theorem d_M_ticks_198 : DB b_M_ticks 198 (.if_icmp .le 59) 59 257 201 := ⟨by decide +kernel, by decide, rfl⟩
theorem d_M_ticks_201 : DC b_M_ticks 201 (.aload_n 0) 1 202 := ⟨by decide +kernel, rfl⟩
theorem d_M_ticks_202 : DC b_M_ticks 202 (.getfield 99) 3 205 := ⟨by decide +kernel, rfl⟩
theorem d_M_ticks_205 : DC b_M_ticks 205 (.iload 4) 2 207 := ⟨by decide +kernel, rfl⟩
theorem d_M_ticks_207 : DC b_M_ticks 207 (.aload_n 0) 1 208 := ⟨by decide +kernel, rfl⟩
theorem d_M_ticks_208 : DC b_M_ticks 208 (.getfield 77) 3 211 := ⟨by decide +kernel, rfl⟩
theorem d_M_ticks_211 : DC b_M_ticks 211 (.iload 4) 2 213 := ⟨by decide +kernel, rfl⟩
theorem d_M_ticks_213 : DC b_M_ticks 213 (.laload) 1 214 := ⟨by decide +kernel, rfl⟩
theorem d_M_ticks_214 : DC b_M_ticks 214 (.aload_n 0) 1 215 := ⟨by decide +kernel, rfl⟩
theorem d_M_ticks_215 : DC b_M_ticks 215 (.getfield 77) 3 218 := ⟨by decide +kernel, rfl⟩
theorem d_M_ticks_218 : DC b_M_ticks 218 (.iload 4) 2 220 := ⟨by decide +kernel, rfl⟩
theorem d_M_ticks_220 : DC b_M_ticks 220 (.laload) 1 221 := ⟨by decide +kernel, rfl⟩
theorem d_M_ticks_221 : DC b_M_ticks 221 (.lmul) 1 222 := ⟨by decide +kernel, rfl⟩
theorem d_M_ticks_222 : DC b_M_ticks 222 (.aload_n 0) 1 223 := ⟨by decide +kernel, rfl⟩
theorem d_M_ticks_223 : DC b_M_ticks 223 (.getfield 81) 3 226 := ⟨by decide +kernel, rfl⟩
theorem d_M_ticks_226 : DC b_M_ticks 226 (.iload 4) 2 228 := ⟨by decide +kernel, rfl⟩
theorem d_M_ticks_228 : DC b_M_ticks 228 (.laload) 1 229 := ⟨by decide +kernel, rfl⟩
theorem d_M_ticks_229 : DC b_M_ticks 229 (.aload_n 0) 1 230 := ⟨by decide +kernel, rfl⟩
theorem d_M_ticks_230 : DC b_M_ticks 230 (.getfield 81) 3 233 := ⟨by decide +kernel, rfl⟩
theorem d_M_ticks_233 : DC b_M_ticks 233 (.iload 4) 2 235 := ⟨by decide +kernel, rfl⟩
theorem d_M_ticks_235 : DC b_M_ticks 235 (.laload) 1 236 := ⟨by decide +kernel, rfl⟩
theorem d_M_ticks_236 : DC b_M_ticks 236 (.lmul) 1 237 := ⟨by decide +kernel, rfl⟩
theorem d_M_ticks_237 : DC b_M_ticks 237 (.ladd) 1 238 := ⟨by decide +kernel, rfl⟩
theorem d_M_ticks_238 : DC b_M_ticks 238 (.ldc2_w 256) 3 241 := ⟨by decide +kernel, rfl⟩
theorem d_M_ticks_241 : DC b_M_ticks 241 (.iload_n 2) 1 242 := ⟨by decide +kernel, rfl⟩
theorem d_M_ticks_242 : DC b_M_ticks 242 (.i2l) 1 243 := ⟨by decide +kernel, rfl⟩
theorem d_M_ticks_243 : DC b_M_ticks 243 (.lmul) 1 244 := ⟨by decide +kernel, rfl⟩
theorem d_M_ticks_244 : DC b_M_ticks 244 (.iload_n 2) 1 245 := ⟨by decide +kernel, rfl⟩
theorem d_M_ticks_245 : DC b_M_ticks 245 (.i2l) 1 246 := ⟨by decide +kernel, rfl⟩
theorem d_M_ticks_246 : DC b_M_ticks 246 (.lmul) 1 247 := ⟨by decide +kernel, rfl⟩
theorem d_M_ticks_247 : DC b_M_ticks 247 (.lcmp) 1 248 := ⟨by decide +kernel, rfl⟩
theorem d_M_ticks_248 : DB b_M_ticks 248 (.ifCond .gt 7) 7 255 251 := ⟨by decide +kernel, by decide, rfl⟩
theorem d_M_ticks_251 : DC b_M_ticks 251 (.iconst 3) 1 252 := ⟨by decide +kernel, rfl⟩
theorem d_M_ticks_252 : DB b_M_ticks 252 (.goto 4) 4 256 255 := ⟨by decide +kernel, by decide, rfl⟩
theorem d_M_ticks_255 : DC b_M_ticks 255 (.iconst 2) 1 256 := ⟨by decide +kernel, rfl⟩
theorem d_M_ticks_256 : DC b_M_ticks 256 (.iastore) 1 257 := ⟨by decide +kernel, rfl⟩
theorem d_M_ticks_257 : DC b_M_ticks 257 (.iinc 4 1) 3 260 := ⟨by decide +kernel, rfl⟩
theorem d_M_ticks_260 : DB b_M_ticks 260 (.goto (-102)) (-102) 158 263 := ⟨by decide +kernel, by decide, rfl⟩
theorem d_M_ticks_263 : decode b_M_ticks 263 = .ok (.return_, 1) := by decide +kernel
theorem w_M_ticks_b78 {X : Ctx} {Y : Lay} (hY : IsM Y) (C : Cx X Y b_M_ticks 6 none "TopYardModel" 4) {N : Nat} {r : Mem} (k3 : Int32 → Int32 → Int32 → Int32 → Mem → Option (Mem)) (hk3 : ∀ (x1 : Int32) (x2 : Int32) (x3 : Int32) (x4 : Int32) (ν : Mem), k3 x1 x2 x3 x4 ν = some r → J X Y none r 6 3 [(0, .ref (yad Y 0)), (1, .int x1), (2, .int x2), (3, .int x3), (4, .int x4)] [] ν) (x1 : Int32) (x2 : Int32) (x3 : Int32) (x4 : Int32) (μ : Mem) (hf : f_M_ticks_b78 N k3 x1 x2 x3 x4 μ = some r) : J X Y none r 6 78 [(0, .ref (yad Y 0)), (1, .int x1), (2, .int x2), (3, .int x3), (4, .int x4)] [] μ := by
  unfold f_M_ticks_b78 at hf
  refine j_iinc (lvf := [(0, .ref (yad Y 0)), (1, .int x1), (2, .int x2), (3, .int x3)]) (v := 1) C d_M_ticks_78 4 rfl (by decide) (by decide) rfl hf (fun v1 hf => ?_)
  refine j_goto C d_M_ticks_81 ?_
  refine j_sub [1, 2, 3, 4, 0] rfl ?_
  exact hk3 x1 x2 x3 v1 μ hf
theorem w_M_ticks_b143 {X : Ctx} {Y : Lay} (hY : IsM Y) (C : Cx X Y b_M_ticks 6 none "TopYardModel" 4) {N : Nat} {r : Mem} (k91 : Int32 → Int32 → Mem → Option (Mem)) (k106 : Int32 → Int32 → Int32 → Mem → Option (Mem)) (hk91 : ∀ (x2 : Int32) (x4 : Int32) (ν : Mem), k91 x2 x4 ν = some r → J X Y none r 6 91 [(0, .ref (yad Y 0)), (2, .int x2), (4, .int x4)] [] ν) (hk106 : ∀ (x2 : Int32) (x4 : Int32) (x5 : Int32) (ν : Mem), k106 x2 x4 x5 ν = some r → J X Y none r 6 106 [(0, .ref (yad Y 0)), (2, .int x2), (4, .int x4), (5, .int x5)] [] ν) (x2 : Int32) (x4 : Int32) (x5 : Int32) (μ : Mem) (hf : f_M_ticks_b143 N k91 k106 x2 x4 x5 μ = some r) : J X Y none r 6 143 [(0, .ref (yad Y 0)), (2, .int x2), (4, .int x4), (5, .int x5)] [] μ := by
  unfold f_M_ticks_b143 at hf
  refine j_iinc (lvf := [(0, .ref (yad Y 0)), (2, .int x2), (4, .int x4)]) (v := 1) C d_M_ticks_143 3 rfl (by decide) (by decide) rfl hf (fun v1 hf => ?_)
  refine j_goto C d_M_ticks_146 ?_
  refine j_sub [1, 2, 3, 0] rfl ?_
  exact hk106 x2 x4 v1 μ hf
theorem w_M_ticks_l106 {X : Ctx} {Y : Lay} (hY : IsM Y) (C : Cx X Y b_M_ticks 6 none "TopYardModel" 4) {N : Nat} {r : Mem} (k91 : Int32 → Int32 → Mem → Option (Mem)) (hk91 : ∀ (x2 : Int32) (x4 : Int32) (ν : Mem), k91 x2 x4 ν = some r → J X Y none r 6 91 [(0, .ref (yad Y 0)), (2, .int x2), (4, .int x4)] [] ν) : ∀ (n : Nat) (x2 : Int32) (x4 : Int32) (x5 : Int32) (μ : Mem), f_M_ticks_l106 N k91 n x2 x4 x5 μ = some r → J X Y none r 6 106 [(0, .ref (yad Y 0)), (2, .int x2), (4, .int x4), (5, .int x5)] [] μ := by
  intro n
  induction n with
  | zero => intro x2 x4 x5 μ hf; rw [f_M_ticks_l106] at hf; cases hf
  | succ n ih =>
    intro x2 x4 x5 μ hf
    rw [f_M_ticks_l106] at hf
    refine j_iload C d_M_ticks_106 3 rfl ?_
    refine j_aload_n C d_M_ticks_108 0 rfl ?_
    refine j_gI C fl_M_245 (kM hY rfl) (nM hY (by decide)) rfl d_M_ticks_109 ?_
    refine j_icmp_ge C d_M_ticks_112 hf (fun hf => ?_) (fun hf => ?_)
    · refine j_iinc (lvf := [(0, .ref (yad Y 0)), (2, .int x2), (5, .int x5)]) (v := 1) C d_M_ticks_149 2 rfl (by decide) (by decide) rfl hf (fun v1 hf => ?_)
      refine j_goto C d_M_ticks_152 ?_
      refine j_sub [1, 2, 0] rfl ?_
      exact hk91 x2 v1 μ hf
    · refine j_aload_n C d_M_ticks_115 0 rfl ?_
      refine j_gS (b := 28) C fl_M_99 (kM hY rfl) (nM hY (by decide)) rfl hY.2.2.2.1 rfl (sM hY rfl) d_M_ticks_116 ?_
      refine j_iload C d_M_ticks_119 2 rfl ?_
      refine ck hf (fun hi2 hf => ?_)
      refine j_iald C (kM hY rfl) (nM hY (by decide)) (lM hY rfl) hi2 d_M_ticks_121 ?_
      refine j_if_ne C d_M_ticks_122 hf (fun hf => ?_) (fun hf => ?_)
      · refine j_sub [0, 1, 2, 3] rfl ?_
        exact w_M_ticks_b143 hY C k91 (f_M_ticks_l106 N k91 n) hk91 ih x2 x4 x5 μ hf
      · refine j_aload_n C d_M_ticks_125 0 rfl ?_
        refine j_gS (b := 28) C fl_M_99 (kM hY rfl) (nM hY (by decide)) rfl hY.2.2.2.1 rfl (sM hY rfl) d_M_ticks_126 ?_
        refine j_iload C d_M_ticks_129 3 rfl ?_
        refine ck hf (fun hi3 hf => ?_)
        refine j_iald C (kM hY rfl) (nM hY (by decide)) (lM hY rfl) hi3 d_M_ticks_131 ?_
        refine j_if_ne C d_M_ticks_132 hf (fun hf => ?_) (fun hf => ?_)
        · refine j_sub [0, 1, 2, 3] rfl ?_
          exact w_M_ticks_b143 hY C k91 (f_M_ticks_l106 N k91 n) hk91 ih x2 x4 x5 μ hf
        · refine j_aload_n C d_M_ticks_135 0 rfl ?_
          refine j_iload C d_M_ticks_136 2 rfl ?_
          refine j_iload C d_M_ticks_138 3 rfl ?_
          refine bd hf (fun μ4 hc5 hf => ?_)
          refine j_cV (rest := []) C lk_M_269 (c_M_knock hY hc5) rfl (kM hY rfl) (nM hY (by decide)) (by decide) rfl rfl (by decide) rfl (Nat.le_of_ble_eq_true rfl) d_M_ticks_140 ?_
          refine j_sub [0, 1, 2, 3] rfl ?_
          exact w_M_ticks_b143 hY C k91 (f_M_ticks_l106 N k91 n) hk91 ih x2 x4 x5 μ4 hf
theorem w_M_ticks_b257 {X : Ctx} {Y : Lay} (hY : IsM Y) (C : Cx X Y b_M_ticks 6 none "TopYardModel" 4) {N : Nat} {r : Mem} (k158 : Int32 → Int32 → Mem → Option (Mem)) (hk158 : ∀ (x2 : Int32) (x4 : Int32) (ν : Mem), k158 x2 x4 ν = some r → J X Y none r 6 158 [(0, .ref (yad Y 0)), (2, .int x2), (4, .int x4)] [] ν) (x2 : Int32) (x4 : Int32) (μ : Mem) (hf : f_M_ticks_b257 N k158 x2 x4 μ = some r) : J X Y none r 6 257 [(0, .ref (yad Y 0)), (2, .int x2), (4, .int x4)] [] μ := by
  unfold f_M_ticks_b257 at hf
  refine j_iinc (lvf := [(0, .ref (yad Y 0)), (2, .int x2)]) (v := 1) C d_M_ticks_257 2 rfl (by decide) (by decide) rfl hf (fun v1 hf => ?_)
  refine j_goto C d_M_ticks_260 ?_
  refine j_sub [1, 2, 0] rfl ?_
  exact hk158 x2 v1 μ hf
theorem w_M_ticks_b256 {X : Ctx} {Y : Lay} (hY : IsM Y) (C : Cx X Y b_M_ticks 6 none "TopYardModel" 4) {N : Nat} {r : Mem} (k158 : Int32 → Int32 → Mem → Option (Mem)) (hk158 : ∀ (x2 : Int32) (x4 : Int32) (ν : Mem), k158 x2 x4 ν = some r → J X Y none r 6 158 [(0, .ref (yad Y 0)), (2, .int x2), (4, .int x4)] [] ν) (x2 : Int32) (x4 : Int32) (xs0 : Int32) (xs1 : Int32) (μ : Mem) (hf : f_M_ticks_b256 N k158 x2 x4 xs0 xs1 μ = some r) : J X Y none r 6 256 [(0, .ref (yad Y 0)), (2, .int x2), (4, .int x4)] [.int xs0, .int xs1, .ref (yad Y 28)] μ := by
  unfold f_M_ticks_b256 at hf
  refine ck hf (fun hi1 hf => ?_)
  refine j_iast C (kM hY rfl) (nM hY (by decide)) (lM hY rfl) hi1 d_M_ticks_256 hf (fun μ2 hf => ?_)
  refine j_sub [0, 1, 2] rfl ?_
  exact w_M_ticks_b257 hY C k158 hk158 x2 x4 μ2 hf
theorem w_M_ticks_b201 {X : Ctx} {Y : Lay} (hY : IsM Y) (C : Cx X Y b_M_ticks 6 none "TopYardModel" 4) {N : Nat} {r : Mem} (k158 : Int32 → Int32 → Mem → Option (Mem)) (hk158 : ∀ (x2 : Int32) (x4 : Int32) (ν : Mem), k158 x2 x4 ν = some r → J X Y none r 6 158 [(0, .ref (yad Y 0)), (2, .int x2), (4, .int x4)] [] ν) (x2 : Int32) (x4 : Int32) (μ : Mem) (hf : f_M_ticks_b201 N k158 x2 x4 μ = some r) : J X Y none r 6 201 [(0, .ref (yad Y 0)), (2, .int x2), (4, .int x4)] [] μ := by
  unfold f_M_ticks_b201 at hf
  refine j_aload_n C d_M_ticks_201 0 rfl ?_
  refine j_gS (b := 28) C fl_M_99 (kM hY rfl) (nM hY (by decide)) rfl hY.2.2.2.1 rfl (sM hY rfl) d_M_ticks_202 ?_
  refine j_iload C d_M_ticks_205 2 rfl ?_
  refine j_aload_n C d_M_ticks_207 0 rfl ?_
  refine j_gS (b := 21) C fl_M_77 (kM hY rfl) (nM hY (by decide)) rfl hY.2.2.2.1 rfl (sM hY rfl) d_M_ticks_208 ?_
  refine j_iload C d_M_ticks_211 2 rfl ?_
  refine ck hf (fun hi1 hf => ?_)
  refine j_lald C (kM hY rfl) (nM hY (by decide)) (lM hY rfl) hi1 d_M_ticks_213 ?_
  refine j_aload_n C d_M_ticks_214 0 rfl ?_
  refine j_gS (b := 21) C fl_M_77 (kM hY rfl) (nM hY (by decide)) rfl hY.2.2.2.1 rfl (sM hY rfl) d_M_ticks_215 ?_
  refine j_iload C d_M_ticks_218 2 rfl ?_
  refine ck hf (fun hi2 hf => ?_)
  refine j_lald C (kM hY rfl) (nM hY (by decide)) (lM hY rfl) hi2 d_M_ticks_220 ?_
  refine j_lmul C d_M_ticks_221 ?_
  refine j_aload_n C d_M_ticks_222 0 rfl ?_
  refine j_gS (b := 22) C fl_M_81 (kM hY rfl) (nM hY (by decide)) rfl hY.2.2.2.1 rfl (sM hY rfl) d_M_ticks_223 ?_
  refine j_iload C d_M_ticks_226 2 rfl ?_
  refine ck hf (fun hi3 hf => ?_)
  refine j_lald C (kM hY rfl) (nM hY (by decide)) (lM hY rfl) hi3 d_M_ticks_228 ?_
  refine j_aload_n C d_M_ticks_229 0 rfl ?_
  refine j_gS (b := 22) C fl_M_81 (kM hY rfl) (nM hY (by decide)) rfl hY.2.2.2.1 rfl (sM hY rfl) d_M_ticks_230 ?_
  refine j_iload C d_M_ticks_233 2 rfl ?_
  refine ck hf (fun hi4 hf => ?_)
  refine j_lald C (kM hY rfl) (nM hY (by decide)) (lM hY rfl) hi4 d_M_ticks_235 ?_
  refine j_lmul C d_M_ticks_236 ?_
  refine j_ladd C d_M_ticks_237 ?_
  refine j_ldc2 (v := 4225) C d_M_ticks_238 wd_203 ?_
  refine j_iload_n C d_M_ticks_241 1 rfl ?_
  refine j_i2l C d_M_ticks_242 ?_
  refine j_lmul C d_M_ticks_243 ?_
  refine j_iload_n C d_M_ticks_244 1 rfl ?_
  refine j_i2l C d_M_ticks_245 ?_
  refine j_lmul C d_M_ticks_246 ?_
  refine j_lcmp_gt C d_M_ticks_247 d_M_ticks_248 hf (fun hf => ?_) (fun hf => ?_)
  · refine j_iconst (v := 2) C d_M_ticks_255 (by decide) ?_
    refine j_sub [0, 1, 2] rfl ?_
    exact w_M_ticks_b256 hY C k158 hk158 x2 x4 2 x4 μ hf
  · refine j_iconst (v := 3) C d_M_ticks_251 (by decide) ?_
    refine j_goto C d_M_ticks_252 ?_
    refine j_sub [0, 1, 2] rfl ?_
    exact w_M_ticks_b256 hY C k158 hk158 x2 x4 3 x4 μ hf
theorem w_M_ticks_l158 {X : Ctx} {Y : Lay} (hY : IsM Y) (C : Cx X Y b_M_ticks 6 none "TopYardModel" 4) {N : Nat} {r : Mem} : ∀ (n : Nat) (x2 : Int32) (x4 : Int32) (μ : Mem), f_M_ticks_l158 N n x2 x4 μ = some r → J X Y none r 6 158 [(0, .ref (yad Y 0)), (2, .int x2), (4, .int x4)] [] μ := by
  intro n
  induction n with
  | zero => intro x2 x4 μ hf; rw [f_M_ticks_l158] at hf; cases hf
  | succ n ih =>
    intro x2 x4 μ hf
    rw [f_M_ticks_l158] at hf
    refine j_iload C d_M_ticks_158 2 rfl ?_
    refine j_aload_n C d_M_ticks_160 0 rfl ?_
    refine j_gI C fl_M_245 (kM hY rfl) (nM hY (by decide)) rfl d_M_ticks_161 ?_
    refine j_icmp_ge C d_M_ticks_164 hf (fun hf => ?_) (fun hf => ?_)
    · obtain rfl := Option.some.inj hf
      exact j_vret C d_M_ticks_263
    · refine j_aload_n C d_M_ticks_167 0 rfl ?_
      refine j_gS (b := 28) C fl_M_99 (kM hY rfl) (nM hY (by decide)) rfl hY.2.2.2.1 rfl (sM hY rfl) d_M_ticks_168 ?_
      refine j_iload C d_M_ticks_171 2 rfl ?_
      refine ck hf (fun hi1 hf => ?_)
      refine j_iald C (kM hY rfl) (nM hY (by decide)) (lM hY rfl) hi1 d_M_ticks_173 ?_
      refine j_if_ne C d_M_ticks_174 hf (fun hf => ?_) (fun hf => ?_)
      · refine j_sub [0, 1, 2] rfl ?_
        exact w_M_ticks_b257 hY C (f_M_ticks_l158 N n) ih x2 x4 μ hf
      · refine j_aload_n C d_M_ticks_177 0 rfl ?_
        refine j_gS (b := 26) C fl_M_93 (kM hY rfl) (nM hY (by decide)) rfl hY.2.2.2.1 rfl (sM hY rfl) d_M_ticks_178 ?_
        refine j_iload C d_M_ticks_181 2 rfl ?_
        refine ck hf (fun hi2 hf => ?_)
        refine j_iald C (kM hY rfl) (nM hY (by decide)) (lM hY rfl) hi2 d_M_ticks_183 ?_
        refine j_bipush (v := 10) C d_M_ticks_184 (by decide) ?_
        refine j_icmp_lt C d_M_ticks_186 hf (fun hf => ?_) (fun hf => ?_)
        · refine j_sub [0, 1, 2] rfl ?_
          exact w_M_ticks_b201 hY C (f_M_ticks_l158 N n) ih x2 x4 μ hf
        · refine j_aload_n C d_M_ticks_189 0 rfl ?_
          refine j_gS (b := 27) C fl_M_96 (kM hY rfl) (nM hY (by decide)) rfl hY.2.2.2.1 rfl (sM hY rfl) d_M_ticks_190 ?_
          refine j_iload C d_M_ticks_193 2 rfl ?_
          refine ck hf (fun hi3 hf => ?_)
          refine j_iald C (kM hY rfl) (nM hY (by decide)) (lM hY rfl) hi3 d_M_ticks_195 ?_
          refine j_bipush (v := 8) C d_M_ticks_196 (by decide) ?_
          refine j_icmp_le C d_M_ticks_198 hf (fun hf => ?_) (fun hf => ?_)
          · refine j_sub [0, 1, 2] rfl ?_
            exact w_M_ticks_b257 hY C (f_M_ticks_l158 N n) ih x2 x4 μ hf
          · refine j_sub [0, 1, 2] rfl ?_
            exact w_M_ticks_b201 hY C (f_M_ticks_l158 N n) ih x2 x4 μ hf
theorem w_M_ticks_l91 {X : Ctx} {Y : Lay} (hY : IsM Y) (C : Cx X Y b_M_ticks 6 none "TopYardModel" 4) {N : Nat} {r : Mem} : ∀ (n : Nat) (x2 : Int32) (x4 : Int32) (μ : Mem), f_M_ticks_l91 N n x2 x4 μ = some r → J X Y none r 6 91 [(0, .ref (yad Y 0)), (2, .int x2), (4, .int x4)] [] μ := by
  intro n
  induction n with
  | zero => intro x2 x4 μ hf; rw [f_M_ticks_l91] at hf; cases hf
  | succ n ih =>
    intro x2 x4 μ hf
    rw [f_M_ticks_l91] at hf
    refine j_iload C d_M_ticks_91 2 rfl ?_
    refine j_aload_n C d_M_ticks_93 0 rfl ?_
    refine j_gI C fl_M_245 (kM hY rfl) (nM hY (by decide)) rfl d_M_ticks_94 ?_
    refine j_icmp_ge C d_M_ticks_97 hf (fun hf => ?_) (fun hf => ?_)
    · refine j_iconst (v := 0) C d_M_ticks_155 (by decide) ?_
      refine j_istore (lvf := [(0, .ref (yad Y 0)), (2, .int x2)]) C d_M_ticks_156 (by decide) rfl ?_
      refine j_sub [1, 2, 0] rfl ?_
      exact w_M_ticks_l158 hY C N x2 0 μ hf
    · refine j_iload C d_M_ticks_100 2 rfl ?_
      refine j_iconst (v := 1) C d_M_ticks_102 (by decide) ?_
      refine j_iadd C d_M_ticks_103 ?_
      refine j_istoreN (lvf := [(0, .ref (yad Y 0)), (2, .int x2), (4, .int x4)]) C d_M_ticks_104 (by decide) rfl hf (fun v1 hf => ?_)
      refine j_sub [1, 2, 3, 0] rfl ?_
      exact w_M_ticks_l106 hY C (f_M_ticks_l91 N n) ih N x2 x4 v1 μ hf
theorem w_M_ticks_b84 {X : Ctx} {Y : Lay} (hY : IsM Y) (C : Cx X Y b_M_ticks 6 none "TopYardModel" 4) {N : Nat} {r : Mem} (x2 : Int32) (μ : Mem) (hf : f_M_ticks_b84 N x2 μ = some r) : J X Y none r 6 84 [(0, .ref (yad Y 0)), (2, .int x2)] [] μ := by
  unfold f_M_ticks_b84 at hf
  refine j_aload_n C d_M_ticks_84 0 rfl ?_
  refine bd hf (fun μ1 hc2 hf => ?_)
  refine j_cV (rest := []) C lk_M_266 (c_M_moves hY hc2) rfl (kM hY rfl) (nM hY (by decide)) (by decide) rfl rfl (by decide) rfl (Nat.le_of_ble_eq_true rfl) d_M_ticks_85 ?_
  refine j_iconst (v := 0) C d_M_ticks_88 (by decide) ?_
  refine j_istore (lvf := [(0, .ref (yad Y 0)), (2, .int x2)]) C d_M_ticks_89 (by decide) rfl ?_
  refine j_sub [1, 2, 0] rfl ?_
  exact w_M_ticks_l91 hY C N x2 0 μ1 hf
theorem w_M_ticks_l3 {X : Ctx} {Y : Lay} (hY : IsM Y) (C : Cx X Y b_M_ticks 6 none "TopYardModel" 4) {N : Nat} {r : Mem} : ∀ (n : Nat) (x1 : Int32) (x2 : Int32) (x3 : Int32) (x4 : Int32) (μ : Mem), f_M_ticks_l3 N n x1 x2 x3 x4 μ = some r → J X Y none r 6 3 [(0, .ref (yad Y 0)), (1, .int x1), (2, .int x2), (3, .int x3), (4, .int x4)] [] μ := by
  intro n
  induction n with
  | zero => intro x1 x2 x3 x4 μ hf; rw [f_M_ticks_l3] at hf; cases hf
  | succ n ih =>
    intro x1 x2 x3 x4 μ hf
    rw [f_M_ticks_l3] at hf
    refine j_iload C d_M_ticks_3 4 rfl ?_
    refine j_aload_n C d_M_ticks_5 0 rfl ?_
    refine j_gI C fl_M_234 (kM hY rfl) (nM hY (by decide)) rfl d_M_ticks_6 ?_
    refine j_icmp_ge C d_M_ticks_9 hf (fun hf => ?_) (fun hf => ?_)
    · refine j_sub [0, 2] rfl ?_
      exact w_M_ticks_b84 hY C x2 μ hf
    · refine j_iload_n C d_M_ticks_12 3 rfl ?_
      refine j_if_eq C d_M_ticks_13 hf (fun hf => ?_) (fun hf => ?_)
      · refine j_sub [0, 2] rfl ?_
        exact w_M_ticks_b84 hY C x2 μ hf
      · refine j_aload_n C d_M_ticks_16 0 rfl ?_
        refine j_gS (b := 18) C fl_M_68 (kM hY rfl) (nM hY (by decide)) rfl hY.2.2.2.1 rfl (sM hY rfl) d_M_ticks_17 ?_
        refine j_iload C d_M_ticks_20 4 rfl ?_
        refine ck hf (fun hi1 hf => ?_)
        refine j_iald C (kM hY rfl) (nM hY (by decide)) (lM hY rfl) hi1 d_M_ticks_22 ?_
        refine j_iload_n C d_M_ticks_23 1 rfl ?_
        refine j_icmp_ne C d_M_ticks_24 hf (fun hf => ?_) (fun hf => ?_)
        · refine j_sub [0, 1, 2, 3, 4] rfl ?_
          exact w_M_ticks_b78 hY C (f_M_ticks_l3 N n) ih x1 x2 x3 x4 μ hf
        · refine j_aload_n C d_M_ticks_27 0 rfl ?_
          refine j_gS (b := 17) C fl_M_65 (kM hY rfl) (nM hY (by decide)) rfl hY.2.2.2.1 rfl (sM hY rfl) d_M_ticks_28 ?_
          refine j_iload C d_M_ticks_31 4 rfl ?_
          refine ck hf (fun hi2 hf => ?_)
          refine j_iald C (kM hY rfl) (nM hY (by decide)) (lM hY rfl) hi2 d_M_ticks_33 ?_
          refine j_aload_n C d_M_ticks_34 0 rfl ?_
          refine j_gI C fl_M_245 (kM hY rfl) (nM hY (by decide)) rfl d_M_ticks_35 ?_
          refine j_icmp_ge C d_M_ticks_38 hf (fun hf => ?_) (fun hf => ?_)
          · refine j_sub [0, 1, 2, 3, 4] rfl ?_
            exact w_M_ticks_b78 hY C (f_M_ticks_l3 N n) ih x1 x2 x3 x4 μ hf
          · refine j_aload_n C d_M_ticks_41 0 rfl ?_
            refine j_gS (b := 28) C fl_M_99 (kM hY rfl) (nM hY (by decide)) rfl hY.2.2.2.1 rfl (sM hY rfl) d_M_ticks_42 ?_
            refine j_aload_n C d_M_ticks_45 0 rfl ?_
            refine j_gS (b := 17) C fl_M_65 (kM hY rfl) (nM hY (by decide)) rfl hY.2.2.2.1 rfl (sM hY rfl) d_M_ticks_46 ?_
            refine j_iload C d_M_ticks_49 4 rfl ?_
            refine ck hf (fun hi3 hf => ?_)
            refine j_iald C (kM hY rfl) (nM hY (by decide)) (lM hY rfl) hi3 d_M_ticks_51 ?_
            refine ck hf (fun hi4 hf => ?_)
            refine j_iald C (kM hY rfl) (nM hY (by decide)) (lM hY rfl) hi4 d_M_ticks_52 ?_
            refine j_if_ne C d_M_ticks_53 hf (fun hf => ?_) (fun hf => ?_)
            · refine j_sub [0, 1, 2, 3, 4] rfl ?_
              exact w_M_ticks_b78 hY C (f_M_ticks_l3 N n) ih x1 x2 x3 x4 μ hf
            · refine j_aload_n C d_M_ticks_56 0 rfl ?_
              refine j_gS (b := 26) C fl_M_93 (kM hY rfl) (nM hY (by decide)) rfl hY.2.2.2.1 rfl (sM hY rfl) d_M_ticks_57 ?_
              refine j_aload_n C d_M_ticks_60 0 rfl ?_
              refine j_gS (b := 17) C fl_M_65 (kM hY rfl) (nM hY (by decide)) rfl hY.2.2.2.1 rfl (sM hY rfl) d_M_ticks_61 ?_
              refine j_iload C d_M_ticks_64 4 rfl ?_
              refine ck hf (fun hi5 hf => ?_)
              refine j_iald C (kM hY rfl) (nM hY (by decide)) (lM hY rfl) hi5 d_M_ticks_66 ?_
              refine j_dup2 C d_M_ticks_67 rfl rfl ?_
              refine ck hf (fun hi6 hf => ?_)
              refine j_iald C (kM hY rfl) (nM hY (by decide)) (lM hY rfl) hi6 d_M_ticks_68 ?_
              refine j_aload_n C d_M_ticks_69 0 rfl ?_
              refine j_gS (b := 19) C fl_M_71 (kM hY rfl) (nM hY (by decide)) rfl hY.2.2.2.1 rfl (sM hY rfl) d_M_ticks_70 ?_
              refine j_iload C d_M_ticks_73 4 rfl ?_
              refine ck hf (fun hi7 hf => ?_)
              refine j_iald C (kM hY rfl) (nM hY (by decide)) (lM hY rfl) hi7 d_M_ticks_75 ?_
              refine j_iadd C d_M_ticks_76 ?_
              refine ck hf (fun hi8 hf => ?_)
              refine j_iast C (kM hY rfl) (nM hY (by decide)) (lM hY rfl) hi8 d_M_ticks_77 hf (fun μ9 hf => ?_)
              refine j_sub [0, 1, 2, 3, 4] rfl ?_
              exact w_M_ticks_b78 hY C (f_M_ticks_l3 N n) ih x1 x2 x3 x4 μ9 hf
theorem c_M_ticks {l : Launch} {Y : Lay} (hY : IsM Y) {N : Nat} {μ : Mem} {x1 : Int32} {x2 : Int32} {x3 : Int32} {r : Mem} (hf : f_M_ticks N μ x1 x2 x3 = some r) : Ct l Y y_M_ticks b_M_ticks 6 none 4 [.ref (yad Y 0), .int x1, .int x2, .int x3] none μ r := by
  refine ct_of (own := "TopYardModel") (lv := [(0, .ref (yad Y 0)), (1, .int x1), (2, .int x2), (3, .int x3)]) (by decide +kernel) rfl (Nat.le_of_ble_eq_true rfl) rfl (fun X hl C => ?_)
  subst hl
  unfold f_M_ticks at hf
  refine j_iconst (v := 0) C d_M_ticks_0 (by decide) ?_
  refine j_istore (lvf := [(0, .ref (yad Y 0)), (1, .int x1), (2, .int x2), (3, .int x3)]) C d_M_ticks_1 (by decide) rfl ?_
  refine j_sub [1, 2, 3, 4, 0] rfl ?_
  exact w_M_ticks_l3 hY C N x1 x2 x3 0 μ hf
theorem d_M_runsTo_0 : DC b_M_runsTo 0 (.aload_n 0) 1 1 := ⟨by decide +kernel, rfl⟩
theorem d_M_runsTo_1 : DC b_M_runsTo 1 (.iconst 0) 1 2 := ⟨by decide +kernel, rfl⟩
theorem d_M_runsTo_2 : DC b_M_runsTo 2 (.putfield 260) 3 5 := ⟨by decide +kernel, rfl⟩
theorem d_M_runsTo_5 : DC b_M_runsTo 5 (.aload_n 0) 1 6 := ⟨by decide +kernel, rfl⟩
theorem d_M_runsTo_6 : DC b_M_runsTo 6 (.iconst 0) 1 7 := ⟨by decide +kernel, rfl⟩
theorem d_M_runsTo_7 : DC b_M_runsTo 7 (.putfield 263) 3 10 := ⟨by decide +kernel, rfl⟩
theorem d_M_runsTo_10 : DC b_M_runsTo 10 (.iconst 0) 1 11 := ⟨by decide +kernel, rfl⟩
theorem d_M_runsTo_11 : DC b_M_runsTo 11 (.istore 4) 2 13 := ⟨by decide +kernel, rfl⟩
theorem d_M_runsTo_13 : DC b_M_runsTo 13 (.iload 4) 2 15 := ⟨by decide +kernel, rfl⟩
theorem d_M_runsTo_15 : DC b_M_runsTo 15 (.iload_n 1) 1 16 := ⟨by decide +kernel, rfl⟩
theorem d_M_runsTo_16 : DB b_M_runsTo 16 (.if_icmp .ge 30) 30 46 19 := ⟨by decide +kernel, by decide, rfl⟩
theorem d_M_runsTo_19 : DC b_M_runsTo 19 (.iload 4) 2 21 := ⟨by decide +kernel, rfl⟩
theorem d_M_runsTo_21 : DB b_M_runsTo 21 (.ifCond .eq 11) 11 32 24 := ⟨by decide +kernel, by decide, rfl⟩
theorem d_M_runsTo_24 : DC b_M_runsTo 24 (.aload_n 0) 1 25 := ⟨by decide +kernel, rfl⟩
theorem d_M_runsTo_25 : DC b_M_runsTo 25 (.invokevirtual 273) 3 28 := ⟨by decide +kernel, rfl⟩
theorem d_M_runsTo_28 : DC b_M_runsTo 28 (.iconst 1) 1 29 := ⟨by decide +kernel, rfl⟩
theorem d_M_runsTo_29 : DB b_M_runsTo 29 (.if_icmp .le 17) 17 46 32 := ⟨by decide +kernel, by decide, rfl⟩
theorem d_M_runsTo_32 : DC b_M_runsTo 32 (.iinc 4 1) 3 35 := ⟨by decide +kernel, rfl⟩
theorem d_M_runsTo_35 : DC b_M_runsTo 35 (.aload_n 0) 1 36 := ⟨by decide +kernel, rfl⟩
theorem d_M_runsTo_36 : DC b_M_runsTo 36 (.iload 4) 2 38 := ⟨by decide +kernel, rfl⟩
theorem d_M_runsTo_38 : DC b_M_runsTo 38 (.iload_n 2) 1 39 := ⟨by decide +kernel, rfl⟩
theorem d_M_runsTo_39 : DC b_M_runsTo 39 (.iload_n 3) 1 40 := ⟨by decide +kernel, rfl⟩
theorem d_M_runsTo_40 : DC b_M_runsTo 40 (.invokevirtual 277) 3 43 := ⟨by decide +kernel, rfl⟩
theorem d_M_runsTo_43 : DB b_M_runsTo 43 (.goto (-30)) (-30) 13 46 := ⟨by decide +kernel, by decide, rfl⟩
theorem d_M_runsTo_46 : DC b_M_runsTo 46 (.iload 4) 2 48 := ⟨by decide +kernel, rfl⟩
theorem d_M_runsTo_48 : decode b_M_runsTo 48 = .ok (.ireturn, 1) := by decide +kernel
theorem w_M_runsTo_b32 {X : Ctx} {Y : Lay} (hY : IsM Y) (C : Cx X Y b_M_runsTo 5 (some .int) "TopYardModel" 5) {N : Nat} {r : Int32 × Mem} (k13 : Int32 → Int32 → Int32 → Int32 → Mem → Option (Int32 × Mem)) (hk13 : ∀ (x1 : Int32) (x2 : Int32) (x3 : Int32) (x4 : Int32) (ν : Mem), k13 x1 x2 x3 x4 ν = some r → J X Y (some (.int r.1)) r.2 5 13 [(0, .ref (yad Y 0)), (1, .int x1), (2, .int x2), (3, .int x3), (4, .int x4)] [] ν) (x1 : Int32) (x2 : Int32) (x3 : Int32) (x4 : Int32) (μ : Mem) (hf : f_M_runsTo_b32 N k13 x1 x2 x3 x4 μ = some r) : J X Y (some (.int r.1)) r.2 5 32 [(0, .ref (yad Y 0)), (1, .int x1), (2, .int x2), (3, .int x3), (4, .int x4)] [] μ := by
  unfold f_M_runsTo_b32 at hf
  refine j_iinc (lvf := [(0, .ref (yad Y 0)), (1, .int x1), (2, .int x2), (3, .int x3)]) (v := 1) C d_M_runsTo_32 4 rfl (by decide) (by decide) rfl hf (fun v1 hf => ?_)
  refine j_aload_n C d_M_runsTo_35 1 rfl ?_
  refine j_iload C d_M_runsTo_36 0 rfl ?_
  refine j_iload_n C d_M_runsTo_38 3 rfl ?_
  refine j_iload_n C d_M_runsTo_39 4 rfl ?_
  refine bd hf (fun μ2 hc3 hf => ?_)
  refine j_cV (rest := []) C lk_M_277 (c_M_ticks hY hc3) rfl (kM hY rfl) (nM hY (by decide)) (by decide) rfl rfl (by decide) rfl (Nat.le_of_ble_eq_true rfl) d_M_runsTo_40 ?_
  refine j_goto C d_M_runsTo_43 ?_
  refine j_sub [1, 2, 3, 4, 0] rfl ?_
  exact hk13 x1 x2 x3 v1 μ2 hf
theorem w_M_runsTo_l13 {X : Ctx} {Y : Lay} (hY : IsM Y) (C : Cx X Y b_M_runsTo 5 (some .int) "TopYardModel" 5) {N : Nat} {r : Int32 × Mem} : ∀ (n : Nat) (x1 : Int32) (x2 : Int32) (x3 : Int32) (x4 : Int32) (μ : Mem), f_M_runsTo_l13 N n x1 x2 x3 x4 μ = some r → J X Y (some (.int r.1)) r.2 5 13 [(0, .ref (yad Y 0)), (1, .int x1), (2, .int x2), (3, .int x3), (4, .int x4)] [] μ := by
  intro n
  induction n with
  | zero => intro x1 x2 x3 x4 μ hf; rw [f_M_runsTo_l13] at hf; cases hf
  | succ n ih =>
    intro x1 x2 x3 x4 μ hf
    rw [f_M_runsTo_l13] at hf
    refine j_iload C d_M_runsTo_13 4 rfl ?_
    refine j_iload_n C d_M_runsTo_15 1 rfl ?_
    refine j_icmp_ge C d_M_runsTo_16 hf (fun hf => ?_) (fun hf => ?_)
    · refine j_iload C d_M_runsTo_46 4 rfl ?_
      obtain rfl := Option.some.inj hf
      exact j_iret C d_M_runsTo_48
    · refine j_iload C d_M_runsTo_19 4 rfl ?_
      refine j_if_eq C d_M_runsTo_21 hf (fun hf => ?_) (fun hf => ?_)
      · refine j_sub [0, 1, 2, 3, 4] rfl ?_
        exact w_M_runsTo_b32 hY C (f_M_runsTo_l13 N n) ih x1 x2 x3 x4 μ hf
      · refine j_aload_n C d_M_runsTo_24 0 rfl ?_
        refine bd hf (fun v1 hc2 hf => ?_)
        refine j_cV (rest := []) C lk_M_273 (c_M_standing hY hc2) rfl (kM hY rfl) (nM hY (by decide)) (by decide) rfl rfl (by decide) rfl (Nat.le_of_ble_eq_true rfl) d_M_runsTo_25 ?_
        refine j_iconst (v := 1) C d_M_runsTo_28 (by decide) ?_
        refine j_icmp_le C d_M_runsTo_29 hf (fun hf => ?_) (fun hf => ?_)
        · refine j_iload C d_M_runsTo_46 4 rfl ?_
          obtain rfl := Option.some.inj hf
          exact j_iret C d_M_runsTo_48
        · refine j_sub [0, 1, 2, 3, 4] rfl ?_
          exact w_M_runsTo_b32 hY C (f_M_runsTo_l13 N n) ih x1 x2 x3 x4 μ hf
theorem c_M_runsTo {l : Launch} {Y : Lay} (hY : IsM Y) {N : Nat} {μ : Mem} {x1 : Int32} {x2 : Int32} {x3 : Int32} {r : Int32 × Mem} (hf : f_M_runsTo N μ x1 x2 x3 = some r) : Ct l Y y_M_runsTo b_M_runsTo 5 (some .int) 5 [.ref (yad Y 0), .int x1, .int x2, .int x3] (some (.int r.1)) μ r.2 := by
  refine ct_of (own := "TopYardModel") (lv := [(0, .ref (yad Y 0)), (1, .int x1), (2, .int x2), (3, .int x3)]) (by decide +kernel) rfl (Nat.le_of_ble_eq_true rfl) rfl (fun X hl C => ?_)
  subst hl
  unfold f_M_runsTo at hf
  refine j_aload_n C d_M_runsTo_0 0 rfl ?_
  refine j_iconst (v := 0) C d_M_runsTo_1 (by decide) ?_
  refine j_pI C fl_M_260 (kM hY rfl) (nM hY (by decide)) rfl rfl rfl d_M_runsTo_2 hf (fun μ1 hf => ?_)
  refine j_aload_n C d_M_runsTo_5 0 rfl ?_
  refine j_iconst (v := 0) C d_M_runsTo_6 (by decide) ?_
  refine j_pI C fl_M_263 (kM hY rfl) (nM hY (by decide)) rfl rfl rfl d_M_runsTo_7 hf (fun μ2 hf => ?_)
  refine j_iconst (v := 0) C d_M_runsTo_10 (by decide) ?_
  refine j_istore (lvf := [(0, .ref (yad Y 0)), (1, .int x1), (2, .int x2), (3, .int x3)]) C d_M_runsTo_11 (by decide) rfl ?_
  refine j_sub [1, 2, 3, 4, 0] rfl ?_
  exact w_M_runsTo_l13 hY C N x1 x2 x3 0 μ2 hf
theorem d_M_runsBout_0 : DC b_M_runsBout 0 (.aload_n 0) 1 1 := ⟨by decide +kernel, rfl⟩
theorem d_M_runsBout_1 : DC b_M_runsBout 1 (.aload_n 0) 1 2 := ⟨by decide +kernel, rfl⟩
theorem d_M_runsBout_2 : DC b_M_runsBout 2 (.getfield 231) 3 5 := ⟨by decide +kernel, rfl⟩
theorem d_M_runsBout_5 : DC b_M_runsBout 5 (.putfield 245) 3 8 := ⟨by decide +kernel, rfl⟩
theorem d_M_runsBout_8 : DC b_M_runsBout 8 (.iconst 0) 1 9 := ⟨by decide +kernel, rfl⟩
theorem d_M_runsBout_9 : DC b_M_runsBout 9 (.istore_n 2) 1 10 := ⟨by decide +kernel, rfl⟩
theorem d_M_runsBout_10 : DC b_M_runsBout 10 (.iload_n 2) 1 11 := ⟨by decide +kernel, rfl⟩
theorem d_M_runsBout_11 : DC b_M_runsBout 11 (.aload_n 0) 1 12 := ⟨by decide +kernel, rfl⟩
theorem d_M_runsBout_12 : DC b_M_runsBout 12 (.getfield 231) 3 15 := ⟨by decide +kernel, rfl⟩
theorem d_M_runsBout_15 : DB b_M_runsBout 15 (.if_icmp .ge 44) 44 59 18 := ⟨by decide +kernel, by decide, rfl⟩
theorem d_M_runsBout_18 : DC b_M_runsBout 18 (.aload_n 0) 1 19 := ⟨by decide +kernel, rfl⟩
theorem d_M_runsBout_19 : DC b_M_runsBout 19 (.iload_n 2) 1 20 := ⟨by decide +kernel, rfl⟩
theorem d_M_runsBout_20 : DC b_M_runsBout 20 (.aload_n 0) 1 21 := ⟨by decide +kernel, rfl⟩
theorem d_M_runsBout_21 : DC b_M_runsBout 21 (.getfield 50) 3 24 := ⟨by decide +kernel, rfl⟩
theorem d_M_runsBout_24 : DC b_M_runsBout 24 (.iload_n 2) 1 25 := ⟨by decide +kernel, rfl⟩
theorem d_M_runsBout_25 : DC b_M_runsBout 25 (.iaload) 1 26 := ⟨by decide +kernel, rfl⟩
theorem d_M_runsBout_26 : DC b_M_runsBout 26 (.aload_n 0) 1 27 := ⟨by decide +kernel, rfl⟩
theorem d_M_runsBout_27 : DC b_M_runsBout 27 (.getfield 53) 3 30 := ⟨by decide +kernel, rfl⟩
theorem d_M_runsBout_30 : DC b_M_runsBout 30 (.iload_n 2) 1 31 := ⟨by decide +kernel, rfl⟩
theorem d_M_runsBout_31 : DC b_M_runsBout 31 (.iaload) 1 32 := ⟨by decide +kernel, rfl⟩
theorem d_M_runsBout_32 : DC b_M_runsBout 32 (.aload_n 0) 1 33 := ⟨by decide +kernel, rfl⟩
theorem d_M_runsBout_33 : DC b_M_runsBout 33 (.getfield 56) 3 36 := ⟨by decide +kernel, rfl⟩
theorem d_M_runsBout_36 : DC b_M_runsBout 36 (.iload_n 2) 1 37 := ⟨by decide +kernel, rfl⟩
theorem d_M_runsBout_37 : DC b_M_runsBout 37 (.iaload) 1 38 := ⟨by decide +kernel, rfl⟩
theorem d_M_runsBout_38 : DC b_M_runsBout 38 (.aload_n 0) 1 39 := ⟨by decide +kernel, rfl⟩
theorem d_M_runsBout_39 : DC b_M_runsBout 39 (.getfield 59) 3 42 := ⟨by decide +kernel, rfl⟩
theorem d_M_runsBout_42 : DC b_M_runsBout 42 (.iload_n 2) 1 43 := ⟨by decide +kernel, rfl⟩
theorem d_M_runsBout_43 : DC b_M_runsBout 43 (.iaload) 1 44 := ⟨by decide +kernel, rfl⟩
theorem d_M_runsBout_44 : DC b_M_runsBout 44 (.aload_n 0) 1 45 := ⟨by decide +kernel, rfl⟩
theorem d_M_runsBout_45 : DC b_M_runsBout 45 (.getfield 62) 3 48 := ⟨by decide +kernel, rfl⟩
theorem d_M_runsBout_48 : DC b_M_runsBout 48 (.iload_n 2) 1 49 := ⟨by decide +kernel, rfl⟩
theorem d_M_runsBout_49 : DC b_M_runsBout 49 (.iaload) 1 50 := ⟨by decide +kernel, rfl⟩
theorem d_M_runsBout_50 : DC b_M_runsBout 50 (.invokevirtual 281) 3 53 := ⟨by decide +kernel, rfl⟩
theorem d_M_runsBout_53 : DC b_M_runsBout 53 (.iinc 2 1) 3 56 := ⟨by decide +kernel, rfl⟩
theorem d_M_runsBout_56 : DB b_M_runsBout 56 (.goto (-46)) (-46) 10 59 := ⟨by decide +kernel, by decide, rfl⟩
theorem d_M_runsBout_59 : DC b_M_runsBout 59 (.aload_n 0) 1 60 := ⟨by decide +kernel, rfl⟩
theorem d_M_runsBout_60 : DC b_M_runsBout 60 (.iload_n 1) 1 61 := ⟨by decide +kernel, rfl⟩
theorem d_M_runsBout_61 : DC b_M_runsBout 61 (.aload_n 0) 1 62 := ⟨by decide +kernel, rfl⟩
theorem d_M_runsBout_62 : DC b_M_runsBout 62 (.getfield 38) 3 65 := ⟨by decide +kernel, rfl⟩
theorem d_M_runsBout_65 : DC b_M_runsBout 65 (.iconst 1) 1 66 := ⟨by decide +kernel, rfl⟩
theorem d_M_runsBout_66 : DC b_M_runsBout 66 (.invokevirtual 285) 3 69 := ⟨by decide +kernel, rfl⟩
theorem d_M_runsBout_69 : decode b_M_runsBout 69 = .ok (.ireturn, 1) := by decide +kernel
theorem w_M_runsBout_l10 {X : Ctx} {Y : Lay} (hY : IsM Y) (C : Cx X Y b_M_runsBout 3 (some .int) "TopYardModel" 6) {N : Nat} {r : Int32 × Mem} : ∀ (n : Nat) (x1 : Int32) (x2 : Int32) (μ : Mem), f_M_runsBout_l10 N n x1 x2 μ = some r → J X Y (some (.int r.1)) r.2 3 10 [(0, .ref (yad Y 0)), (1, .int x1), (2, .int x2)] [] μ := by
  intro n
  induction n with
  | zero => intro x1 x2 μ hf; rw [f_M_runsBout_l10] at hf; cases hf
  | succ n ih =>
    intro x1 x2 μ hf
    rw [f_M_runsBout_l10] at hf
    refine j_iload_n C d_M_runsBout_10 2 rfl ?_
    refine j_aload_n C d_M_runsBout_11 0 rfl ?_
    refine j_gI C fl_M_231 (kM hY rfl) (nM hY (by decide)) rfl d_M_runsBout_12 ?_
    refine j_icmp_ge C d_M_runsBout_15 hf (fun hf => ?_) (fun hf => ?_)
    · refine j_aload_n C d_M_runsBout_59 0 rfl ?_
      refine j_iload_n C d_M_runsBout_60 1 rfl ?_
      refine j_aload_n C d_M_runsBout_61 0 rfl ?_
      refine j_gI C fl_M_38 (kM hY rfl) (nM hY (by decide)) rfl d_M_runsBout_62 ?_
      refine j_iconst (v := 1) C d_M_runsBout_65 (by decide) ?_
      refine bd2 hf (fun v1 μ2 hc3 hf => ?_)
      refine j_cV (rest := []) C lk_M_285 (c_M_runsTo hY hc3) rfl (kM hY rfl) (nM hY (by decide)) (by decide) rfl rfl (by decide) rfl (Nat.le_of_ble_eq_true rfl) d_M_runsBout_66 ?_
      obtain rfl := Option.some.inj hf
      exact j_iret C d_M_runsBout_69
    · refine j_aload_n C d_M_runsBout_18 0 rfl ?_
      refine j_iload_n C d_M_runsBout_19 2 rfl ?_
      refine j_aload_n C d_M_runsBout_20 0 rfl ?_
      refine j_gS (b := 12) C fl_M_50 (kM hY rfl) (nM hY (by decide)) rfl hY.2.2.2.1 rfl (sM hY rfl) d_M_runsBout_21 ?_
      refine j_iload_n C d_M_runsBout_24 2 rfl ?_
      refine ck hf (fun hi4 hf => ?_)
      refine j_iald C (kM hY rfl) (nM hY (by decide)) (lM hY rfl) hi4 d_M_runsBout_25 ?_
      refine j_aload_n C d_M_runsBout_26 0 rfl ?_
      refine j_gS (b := 13) C fl_M_53 (kM hY rfl) (nM hY (by decide)) rfl hY.2.2.2.1 rfl (sM hY rfl) d_M_runsBout_27 ?_
      refine j_iload_n C d_M_runsBout_30 2 rfl ?_
      refine ck hf (fun hi5 hf => ?_)
      refine j_iald C (kM hY rfl) (nM hY (by decide)) (lM hY rfl) hi5 d_M_runsBout_31 ?_
      refine j_aload_n C d_M_runsBout_32 0 rfl ?_
      refine j_gS (b := 14) C fl_M_56 (kM hY rfl) (nM hY (by decide)) rfl hY.2.2.2.1 rfl (sM hY rfl) d_M_runsBout_33 ?_
      refine j_iload_n C d_M_runsBout_36 2 rfl ?_
      refine ck hf (fun hi6 hf => ?_)
      refine j_iald C (kM hY rfl) (nM hY (by decide)) (lM hY rfl) hi6 d_M_runsBout_37 ?_
      refine j_aload_n C d_M_runsBout_38 0 rfl ?_
      refine j_gS (b := 15) C fl_M_59 (kM hY rfl) (nM hY (by decide)) rfl hY.2.2.2.1 rfl (sM hY rfl) d_M_runsBout_39 ?_
      refine j_iload_n C d_M_runsBout_42 2 rfl ?_
      refine ck hf (fun hi7 hf => ?_)
      refine j_iald C (kM hY rfl) (nM hY (by decide)) (lM hY rfl) hi7 d_M_runsBout_43 ?_
      refine j_aload_n C d_M_runsBout_44 0 rfl ?_
      refine j_gS (b := 16) C fl_M_62 (kM hY rfl) (nM hY (by decide)) rfl hY.2.2.2.1 rfl (sM hY rfl) d_M_runsBout_45 ?_
      refine j_iload_n C d_M_runsBout_48 2 rfl ?_
      refine ck hf (fun hi8 hf => ?_)
      refine j_iald C (kM hY rfl) (nM hY (by decide)) (lM hY rfl) hi8 d_M_runsBout_49 ?_
      refine bd hf (fun μ9 hc11 hf => ?_)
      refine j_cV (rest := []) C lk_M_281 (c_M_begins hY hc11) rfl (kM hY rfl) (nM hY (by decide)) (by decide) rfl rfl (by decide) rfl (Nat.le_of_ble_eq_true rfl) d_M_runsBout_50 ?_
      refine j_iinc (lvf := [(0, .ref (yad Y 0)), (1, .int x1)]) (v := 1) C d_M_runsBout_53 2 rfl (by decide) (by decide) rfl hf (fun v10 hf => ?_)
      refine j_goto C d_M_runsBout_56 ?_
      refine j_sub [1, 2, 0] rfl ?_
      exact ih x1 v10 μ9 hf
theorem c_M_runsBout {l : Launch} {Y : Lay} (hY : IsM Y) {N : Nat} {μ : Mem} {x1 : Int32} {r : Int32 × Mem} (hf : f_M_runsBout N μ x1 = some r) : Ct l Y y_M_runsBout b_M_runsBout 3 (some .int) 6 [.ref (yad Y 0), .int x1] (some (.int r.1)) μ r.2 := by
  refine ct_of (own := "TopYardModel") (lv := [(0, .ref (yad Y 0)), (1, .int x1)]) (by decide +kernel) rfl (Nat.le_of_ble_eq_true rfl) rfl (fun X hl C => ?_)
  subst hl
  unfold f_M_runsBout at hf
  refine j_aload_n C d_M_runsBout_0 0 rfl ?_
  refine j_aload_n C d_M_runsBout_1 0 rfl ?_
  refine j_gI C fl_M_231 (kM hY rfl) (nM hY (by decide)) rfl d_M_runsBout_2 ?_
  refine j_pI C fl_M_245 (kM hY rfl) (nM hY (by decide)) rfl rfl rfl d_M_runsBout_5 hf (fun μ1 hf => ?_)
  refine j_iconst (v := 0) C d_M_runsBout_8 (by decide) ?_
  refine j_istore_n (lvf := [(0, .ref (yad Y 0)), (1, .int x1)]) C d_M_runsBout_9 (by decide) rfl ?_
  refine j_sub [1, 2, 0] rfl ?_
  exact w_M_runsBout_l10 hY C N x1 0 μ1 hf
theorem d_M_alone_0 : DC b_M_alone 0 (.iconst (-1)) 1 1 := ⟨by decide +kernel, rfl⟩
theorem d_M_alone_1 : DC b_M_alone 1 (.istore_n 1) 1 2 := ⟨by decide +kernel, rfl⟩
theorem d_M_alone_2 : DC b_M_alone 2 (.iconst 0) 1 3 := ⟨by decide +kernel, rfl⟩
theorem d_M_alone_3 : DC b_M_alone 3 (.istore_n 2) 1 4 := ⟨by decide +kernel, rfl⟩
theorem d_M_alone_4 : DC b_M_alone 4 (.iload_n 2) 1 5 := ⟨by decide +kernel, rfl⟩
theorem d_M_alone_5 : DC b_M_alone 5 (.aload_n 0) 1 6 := ⟨by decide +kernel, rfl⟩
theorem d_M_alone_6 : DC b_M_alone 6 (.getfield 245) 3 9 := ⟨by decide +kernel, rfl⟩
theorem d_M_alone_9 : DB b_M_alone 9 (.if_icmp .ge 32) 32 41 12 := ⟨by decide +kernel, by decide, rfl⟩
theorem d_M_alone_12 : DC b_M_alone 12 (.aload_n 0) 1 13 := ⟨by decide +kernel, rfl⟩
theorem d_M_alone_13 : DC b_M_alone 13 (.invokevirtual 273) 3 16 := ⟨by decide +kernel, rfl⟩
theorem d_M_alone_16 : DC b_M_alone 16 (.iconst 1) 1 17 := ⟨by decide +kernel, rfl⟩
theorem d_M_alone_17 : DB b_M_alone 17 (.if_icmp .ne 24) 24 41 20 := ⟨by decide +kernel, by decide, rfl⟩
theorem d_M_alone_20 : DC b_M_alone 20 (.aload_n 0) 1 21 := ⟨by decide +kernel, rfl⟩
theorem d_M_alone_21 : DC b_M_alone 21 (.getfield 99) 3 24 := ⟨by decide +kernel, rfl⟩
theorem d_M_alone_24 : DC b_M_alone 24 (.iload_n 2) 1 25 := ⟨by decide +kernel, rfl⟩
theorem d_M_alone_25 : DC b_M_alone 25 (.iaload) 1 26 := ⟨by decide +kernel, rfl⟩
theorem d_M_alone_26 : DB b_M_alone 26 (.ifCond .ne 7) 7 33 29 := ⟨by decide +kernel, by decide, rfl⟩
theorem d_M_alone_29 : DC b_M_alone 29 (.iload_n 2) 1 30 := ⟨by decide +kernel, rfl⟩
theorem d_M_alone_30 : DB b_M_alone 30 (.goto 4) 4 34 33 := ⟨by decide +kernel, by decide, rfl⟩
theorem d_M_alone_33 : DC b_M_alone 33 (.iload_n 1) 1 34 := ⟨by decide +kernel, rfl⟩
theorem d_M_alone_34 : DC b_M_alone 34 (.istore_n 1) 1 35 := ⟨by decide +kernel, rfl⟩
theorem d_M_alone_35 : DC b_M_alone 35 (.iinc 2 1) 3 38 := ⟨by decide +kernel, rfl⟩
theorem d_M_alone_38 : DB b_M_alone 38 (.goto (-34)) (-34) 4 41 := ⟨by decide +kernel, by decide, rfl⟩
theorem d_M_alone_41 : DC b_M_alone 41 (.iload_n 1) 1 42 := ⟨by decide +kernel, rfl⟩
theorem d_M_alone_42 : decode b_M_alone 42 = .ok (.ireturn, 1) := by decide +kernel
theorem w_M_alone_b34 {X : Ctx} {Y : Lay} (hY : IsM Y) (C : Cx X Y b_M_alone 3 (some .int) "TopYardModel" 2) {N : Nat} {μ : Mem} {r : Int32} (k4 : Int32 → Int32 → Option (Int32)) (hk4 : ∀ (x1 : Int32) (x2 : Int32), k4 x1 x2 = some r → J X Y (some (.int r)) μ 3 4 [(0, .ref (yad Y 0)), (1, .int x1), (2, .int x2)] [] μ) (x2 : Int32) (xs0 : Int32) (hf : f_M_alone_b34 N μ k4 x2 xs0 = some r) : J X Y (some (.int r)) μ 3 34 [(0, .ref (yad Y 0)), (2, .int x2)] [.int xs0] μ := by
  unfold f_M_alone_b34 at hf
  refine j_istore_n (lvf := [(0, .ref (yad Y 0)), (2, .int x2)]) C d_M_alone_34 (by decide) rfl ?_
  refine j_iinc (lvf := [(1, .int xs0), (0, .ref (yad Y 0))]) (v := 1) C d_M_alone_35 2 rfl (by decide) (by decide) rfl hf (fun v1 hf => ?_)
  refine j_goto C d_M_alone_38 ?_
  refine j_sub [2, 1, 0] rfl ?_
  exact hk4 xs0 v1 hf
theorem w_M_alone_l4 {X : Ctx} {Y : Lay} (hY : IsM Y) (C : Cx X Y b_M_alone 3 (some .int) "TopYardModel" 2) {N : Nat} {μ : Mem} {r : Int32} : ∀ (n : Nat) (x1 : Int32) (x2 : Int32), f_M_alone_l4 N μ n x1 x2 = some r → J X Y (some (.int r)) μ 3 4 [(0, .ref (yad Y 0)), (1, .int x1), (2, .int x2)] [] μ := by
  intro n
  induction n with
  | zero => intro x1 x2 hf; rw [f_M_alone_l4] at hf; cases hf
  | succ n ih =>
    intro x1 x2 hf
    rw [f_M_alone_l4] at hf
    refine j_iload_n C d_M_alone_4 2 rfl ?_
    refine j_aload_n C d_M_alone_5 0 rfl ?_
    refine j_gI C fl_M_245 (kM hY rfl) (nM hY (by decide)) rfl d_M_alone_6 ?_
    refine j_icmp_ge C d_M_alone_9 hf (fun hf => ?_) (fun hf => ?_)
    · refine j_iload_n C d_M_alone_41 1 rfl ?_
      obtain rfl := Option.some.inj hf
      exact j_iret C d_M_alone_42
    · refine j_aload_n C d_M_alone_12 0 rfl ?_
      refine bd hf (fun v1 hc3 hf => ?_)
      refine j_cV (rest := []) C lk_M_273 (c_M_standing hY hc3) rfl (kM hY rfl) (nM hY (by decide)) (by decide) rfl rfl (by decide) rfl (Nat.le_of_ble_eq_true rfl) d_M_alone_13 ?_
      refine j_iconst (v := 1) C d_M_alone_16 (by decide) ?_
      refine j_icmp_ne C d_M_alone_17 hf (fun hf => ?_) (fun hf => ?_)
      · refine j_iload_n C d_M_alone_41 1 rfl ?_
        obtain rfl := Option.some.inj hf
        exact j_iret C d_M_alone_42
      · refine j_aload_n C d_M_alone_20 0 rfl ?_
        refine j_gS (b := 28) C fl_M_99 (kM hY rfl) (nM hY (by decide)) rfl hY.2.2.2.1 rfl (sM hY rfl) d_M_alone_21 ?_
        refine j_iload_n C d_M_alone_24 2 rfl ?_
        refine ck hf (fun hi2 hf => ?_)
        refine j_iald C (kM hY rfl) (nM hY (by decide)) (lM hY rfl) hi2 d_M_alone_25 ?_
        refine j_if_ne C d_M_alone_26 hf (fun hf => ?_) (fun hf => ?_)
        · refine j_iload_n C d_M_alone_33 1 rfl ?_
          refine j_sub [0, 2] rfl ?_
          exact w_M_alone_b34 hY C (f_M_alone_l4 N μ n) ih x2 x1 hf
        · refine j_iload_n C d_M_alone_29 2 rfl ?_
          refine j_goto C d_M_alone_30 ?_
          refine j_sub [0, 2] rfl ?_
          exact w_M_alone_b34 hY C (f_M_alone_l4 N μ n) ih x2 x2 hf
theorem c_M_alone {l : Launch} {Y : Lay} (hY : IsM Y) {N : Nat} {μ : Mem} {r : Int32} (hf : f_M_alone N μ = some r) : Ct l Y y_M_alone b_M_alone 3 (some .int) 2 [.ref (yad Y 0)] (some (.int r)) μ μ := by
  refine ct_of (own := "TopYardModel") (lv := [(0, .ref (yad Y 0))]) (by decide +kernel) rfl (Nat.le_of_ble_eq_true rfl) rfl (fun X hl C => ?_)
  subst hl
  unfold f_M_alone at hf
  refine j_iconst (v := (-1)) C d_M_alone_0 (by decide) ?_
  refine j_istore_n (lvf := [(0, .ref (yad Y 0))]) C d_M_alone_1 (by decide) rfl ?_
  refine j_iconst (v := 0) C d_M_alone_2 (by decide) ?_
  refine j_istore_n (lvf := [(1, .int (-1)), (0, .ref (yad Y 0))]) C d_M_alone_3 (by decide) rfl ?_
  refine j_sub [2, 1, 0] rfl ?_
  exact w_M_alone_l4 hY C N (-1) 0 hf
theorem d_M_run_0 : DC b_M_run 0 (.aload_n 0) 1 1 := ⟨by decide +kernel, rfl⟩
theorem d_M_run_1 : DC b_M_run 1 (.getfield 231) 3 4 := ⟨by decide +kernel, rfl⟩
theorem d_M_run_4 : DC b_M_run 4 (.iconst 2) 1 5 := ⟨by decide +kernel, rfl⟩
theorem d_M_run_5 : DB b_M_run 5 (.if_icmp .ge 8) 8 13 8 := ⟨by decide +kernel, by decide, rfl⟩
theorem d_M_run_8 : DC b_M_run 8 (.bipush (-3)) 2 10 := ⟨by decide +kernel, rfl⟩
theorem d_M_run_10 : DB b_M_run 10 (.goto 10) 10 20 13 := ⟨by decide +kernel, by decide, rfl⟩
theorem d_M_run_13 : DC b_M_run 13 (.aload_n 0) 1 14 := ⟨by decide +kernel, rfl⟩
theorem d_M_run_14 : DC b_M_run 14 (.sipush 400) 3 17 := ⟨by decide +kernel, rfl⟩
theorem d_M_run_17 : DC b_M_run 17 (.invokevirtual 289) 3 20 := ⟨by decide +kernel, rfl⟩
theorem d_M_run_20 : decode b_M_run 20 = .ok (.ireturn, 1) := by decide +kernel
theorem c_M_run {l : Launch} {Y : Lay} (hY : IsM Y) {N : Nat} {μ : Mem} {r : Int32 × Mem} (hf : f_M_run N μ = some r) : Ct l Y y_M_run b_M_run 1 (some .int) 7 [.ref (yad Y 0)] (some (.int r.1)) μ r.2 := by
  refine ct_of (own := "TopYardModel") (lv := [(0, .ref (yad Y 0))]) (by decide +kernel) rfl (Nat.le_of_ble_eq_true rfl) rfl (fun X hl C => ?_)
  subst hl
  unfold f_M_run at hf
  refine j_aload_n C d_M_run_0 0 rfl ?_
  refine j_gI C fl_M_231 (kM hY rfl) (nM hY (by decide)) rfl d_M_run_1 ?_
  refine j_iconst (v := 2) C d_M_run_4 (by decide) ?_
  refine j_icmp_ge C d_M_run_5 hf (fun hf => ?_) (fun hf => ?_)
  · refine j_aload_n C d_M_run_13 0 rfl ?_
    refine j_sipush (v := 400) C d_M_run_14 (by decide) ?_
    refine bd2 hf (fun v1 μ2 hc3 hf => ?_)
    refine j_cV (rest := []) C lk_M_289 (c_M_runsBout hY hc3) rfl (kM hY rfl) (nM hY (by decide)) (by decide) rfl rfl (by decide) rfl (Nat.le_of_ble_eq_true rfl) d_M_run_17 ?_
    obtain rfl := Option.some.inj hf
    exact j_iret C d_M_run_20
  · refine j_bipush (v := (-3)) C d_M_run_8 (by decide) ?_
    refine j_goto C d_M_run_10 ?_
    obtain rfl := Option.some.inj hf
    exact j_iret C d_M_run_20
theorem d_M_winner_0 : DC b_M_winner 0 (.aload_n 0) 1 1 := ⟨by decide +kernel, rfl⟩
theorem d_M_winner_1 : DC b_M_winner 1 (.getfield 231) 3 4 := ⟨by decide +kernel, rfl⟩
theorem d_M_winner_4 : DC b_M_winner 4 (.iconst 2) 1 5 := ⟨by decide +kernel, rfl⟩
theorem d_M_winner_5 : DB b_M_winner 5 (.if_icmp .ge 6) 6 11 8 := ⟨by decide +kernel, by decide, rfl⟩
theorem d_M_winner_8 : DC b_M_winner 8 (.bipush (-3)) 2 10 := ⟨by decide +kernel, rfl⟩
theorem d_M_winner_10 : decode b_M_winner 10 = .ok (.ireturn, 1) := by decide +kernel
theorem d_M_winner_11 : DC b_M_winner 11 (.aload_n 0) 1 12 := ⟨by decide +kernel, rfl⟩
theorem d_M_winner_12 : DC b_M_winner 12 (.sipush 400) 3 15 := ⟨by decide +kernel, rfl⟩
theorem d_M_winner_15 : DC b_M_winner 15 (.invokevirtual 289) 3 18 := ⟨by decide +kernel, rfl⟩
theorem d_M_winner_18 : DC b_M_winner 18 (.istore_n 1) 1 19 := ⟨by decide +kernel, rfl⟩
theorem d_M_winner_19 : DC b_M_winner 19 (.aload_n 0) 1 20 := ⟨by decide +kernel, rfl⟩
theorem d_M_winner_20 : DC b_M_winner 20 (.invokevirtual 292) 3 23 := ⟨by decide +kernel, rfl⟩
theorem d_M_winner_23 : decode b_M_winner 23 = .ok (.ireturn, 1) := by decide +kernel
theorem c_M_winner {l : Launch} {Y : Lay} (hY : IsM Y) {N : Nat} {μ : Mem} {r : Int32 × Mem} (hf : f_M_winner N μ = some r) : Ct l Y y_M_winner b_M_winner 2 (some .int) 7 [.ref (yad Y 0)] (some (.int r.1)) μ r.2 := by
  refine ct_of (own := "TopYardModel") (lv := [(0, .ref (yad Y 0))]) (by decide +kernel) rfl (Nat.le_of_ble_eq_true rfl) rfl (fun X hl C => ?_)
  subst hl
  unfold f_M_winner at hf
  refine j_aload_n C d_M_winner_0 0 rfl ?_
  refine j_gI C fl_M_231 (kM hY rfl) (nM hY (by decide)) rfl d_M_winner_1 ?_
  refine j_iconst (v := 2) C d_M_winner_4 (by decide) ?_
  refine j_icmp_ge C d_M_winner_5 hf (fun hf => ?_) (fun hf => ?_)
  · refine j_aload_n C d_M_winner_11 0 rfl ?_
    refine j_sipush (v := 400) C d_M_winner_12 (by decide) ?_
    refine bd2 hf (fun v1 μ2 hc5 hf => ?_)
    refine j_cV (rest := []) C lk_M_289 (c_M_runsBout hY hc5) rfl (kM hY rfl) (nM hY (by decide)) (by decide) rfl rfl (by decide) rfl (Nat.le_of_ble_eq_true rfl) d_M_winner_15 ?_
    refine j_istore_n (lvf := [(0, .ref (yad Y 0))]) C d_M_winner_18 (by decide) rfl ?_
    refine j_aload_n C d_M_winner_19 1 rfl ?_
    refine bd hf (fun v3 hc4 hf => ?_)
    refine j_cV (rest := []) C lk_M_292 (c_M_alone hY hc4) rfl (kM hY rfl) (nM hY (by decide)) (by decide) rfl rfl (by decide) rfl (Nat.le_of_ble_eq_true rfl) d_M_winner_20 ?_
    obtain rfl := Option.some.inj hf
    exact j_iret C d_M_winner_23
  · refine j_bipush (v := (-3)) C d_M_winner_8 (by decide) ?_
    obtain rfl := Option.some.inj hf
    exact j_iret C d_M_winner_10
theorem d_M_knocks_0 : DC b_M_knocks 0 (.iload_n 1) 1 1 := ⟨by decide +kernel, rfl⟩
theorem d_M_knocks_1 : DC b_M_knocks 1 (.i2l) 1 2 := ⟨by decide +kernel, rfl⟩
theorem d_M_knocks_2 : DC b_M_knocks 2 (.lconst 0) 1 3 := ⟨by decide +kernel, rfl⟩
theorem d_M_knocks_3 : DC b_M_knocks 3 (.lconst 1) 1 4 := ⟨by decide +kernel, rfl⟩
theorem d_M_knocks_4 : DC b_M_knocks 4 (.invokestatic 164) 3 7 := ⟨by decide +kernel, rfl⟩
theorem d_M_knocks_7 : DB b_M_knocks 7 (.ifCond .ne 6) 6 13 10 := ⟨by decide +kernel, by decide, rfl⟩
theorem d_M_knocks_10 : DC b_M_knocks 10 (.bipush (-2)) 2 12 := ⟨by decide +kernel, rfl⟩
theorem d_M_knocks_12 : decode b_M_knocks 12 = .ok (.ireturn, 1) := by decide +kernel
theorem d_M_knocks_13 : DC b_M_knocks 13 (.aload_n 0) 1 14 := ⟨by decide +kernel, rfl⟩
theorem d_M_knocks_14 : DC b_M_knocks 14 (.getfield 231) 3 17 := ⟨by decide +kernel, rfl⟩
theorem d_M_knocks_17 : DC b_M_knocks 17 (.iconst 2) 1 18 := ⟨by decide +kernel, rfl⟩
theorem d_M_knocks_18 : DB b_M_knocks 18 (.if_icmp .ge 6) 6 24 21 := ⟨by decide +kernel, by decide, rfl⟩
theorem d_M_knocks_21 : DC b_M_knocks 21 (.bipush (-3)) 2 23 := ⟨by decide +kernel, rfl⟩
theorem d_M_knocks_23 : decode b_M_knocks 23 = .ok (.ireturn, 1) := by decide +kernel
theorem d_M_knocks_24 : DC b_M_knocks 24 (.aload_n 0) 1 25 := ⟨by decide +kernel, rfl⟩
theorem d_M_knocks_25 : DC b_M_knocks 25 (.sipush 400) 3 28 := ⟨by decide +kernel, rfl⟩
theorem d_M_knocks_28 : DC b_M_knocks 28 (.invokevirtual 289) 3 31 := ⟨by decide +kernel, rfl⟩
theorem d_M_knocks_31 : DC b_M_knocks 31 (.istore_n 2) 1 32 := ⟨by decide +kernel, rfl⟩
theorem d_M_knocks_32 : DC b_M_knocks 32 (.iload_n 1) 1 33 := ⟨by decide +kernel, rfl⟩
theorem d_M_knocks_33 : DB b_M_knocks 33 (.ifCond .ne 10) 10 43 36 := ⟨by decide +kernel, by decide, rfl⟩
theorem d_M_knocks_36 : DC b_M_knocks 36 (.aload_n 0) 1 37 := ⟨by decide +kernel, rfl⟩
theorem d_M_knocks_37 : DC b_M_knocks 37 (.getfield 260) 3 40 := ⟨by decide +kernel, rfl⟩
theorem d_M_knocks_40 : DB b_M_knocks 40 (.goto 7) 7 47 43 := ⟨by decide +kernel, by decide, rfl⟩
theorem d_M_knocks_43 : DC b_M_knocks 43 (.aload_n 0) 1 44 := ⟨by decide +kernel, rfl⟩
theorem d_M_knocks_44 : DC b_M_knocks 44 (.getfield 263) 3 47 := ⟨by decide +kernel, rfl⟩
theorem d_M_knocks_47 : decode b_M_knocks 47 = .ok (.ireturn, 1) := by decide +kernel
theorem c_M_knocks {l : Launch} {Y : Lay} (hY : IsM Y) {N : Nat} {μ : Mem} {x1 : Int32} {r : Int32 × Mem} (hf : f_M_knocks N μ x1 = some r) : Ct l Y y_M_knocks b_M_knocks 3 (some .int) 7 [.ref (yad Y 0), .int x1] (some (.int r.1)) μ r.2 := by
  refine ct_of (own := "TopYardModel") (lv := [(0, .ref (yad Y 0)), (1, .int x1)]) (by decide +kernel) rfl (Nat.le_of_ble_eq_true rfl) rfl (fun X hl C => ?_)
  subst hl
  unfold f_M_knocks at hf
  refine j_iload_n C d_M_knocks_0 1 rfl ?_
  refine j_i2l C d_M_knocks_1 ?_
  refine j_lconst (v := 0) C d_M_knocks_2 (by decide) ?_
  refine j_lconst (v := 1) C d_M_knocks_3 (by decide) ?_
  refine bd hf (fun v1 hc5 hf => ?_)
  refine j_cS (rest := []) C lk_M_164 (c_M_in hY hc5) rfl (by decide) rfl (Nat.le_of_ble_eq_true rfl) d_M_knocks_4 ?_
  refine j_if_ne C d_M_knocks_7 hf (fun hf => ?_) (fun hf => ?_)
  · refine j_aload_n C d_M_knocks_13 0 rfl ?_
    refine j_gI C fl_M_231 (kM hY rfl) (nM hY (by decide)) rfl d_M_knocks_14 ?_
    refine j_iconst (v := 2) C d_M_knocks_17 (by decide) ?_
    refine j_icmp_ge C d_M_knocks_18 hf (fun hf => ?_) (fun hf => ?_)
    · refine j_aload_n C d_M_knocks_24 0 rfl ?_
      refine j_sipush (v := 400) C d_M_knocks_25 (by decide) ?_
      refine bd2 hf (fun v2 μ3 hc4 hf => ?_)
      refine j_cV (rest := []) C lk_M_289 (c_M_runsBout hY hc4) rfl (kM hY rfl) (nM hY (by decide)) (by decide) rfl rfl (by decide) rfl (Nat.le_of_ble_eq_true rfl) d_M_knocks_28 ?_
      refine j_istore_n (lvf := [(0, .ref (yad Y 0)), (1, .int x1)]) C d_M_knocks_31 (by decide) rfl ?_
      refine j_iload_n C d_M_knocks_32 2 rfl ?_
      refine j_if_ne C d_M_knocks_33 hf (fun hf => ?_) (fun hf => ?_)
      · refine j_aload_n C d_M_knocks_43 1 rfl ?_
        refine j_gI C fl_M_263 (kM hY rfl) (nM hY (by decide)) rfl d_M_knocks_44 ?_
        obtain rfl := Option.some.inj hf
        exact j_iret C d_M_knocks_47
      · refine j_aload_n C d_M_knocks_36 1 rfl ?_
        refine j_gI C fl_M_260 (kM hY rfl) (nM hY (by decide)) rfl d_M_knocks_37 ?_
        refine j_goto C d_M_knocks_40 ?_
        obtain rfl := Option.some.inj hf
        exact j_iret C d_M_knocks_47
    · refine j_bipush (v := (-3)) C d_M_knocks_21 (by decide) ?_
      obtain rfl := Option.some.inj hf
      exact j_iret C d_M_knocks_23
  · refine j_bipush (v := (-2)) C d_M_knocks_10 (by decide) ?_
    obtain rfl := Option.some.inj hf
    exact j_iret C d_M_knocks_12
theorem d_M_stateOf_0 : DC b_M_stateOf 0 (.iload_n 2) 1 1 := ⟨by decide +kernel, rfl⟩
theorem d_M_stateOf_1 : decode b_M_stateOf 1 = .ok (.tableswitch 96 0 6 #[43, 51, 59, 66, 74, 82, 89], 43) := by decide +kernel
theorem d_M_stateOf_44 : DC b_M_stateOf 44 (.aload_n 0) 1 45 := ⟨by decide +kernel, rfl⟩
theorem d_M_stateOf_45 : DC b_M_stateOf 45 (.getfield 77) 3 48 := ⟨by decide +kernel, rfl⟩
theorem d_M_stateOf_48 : DC b_M_stateOf 48 (.iload_n 1) 1 49 := ⟨by decide +kernel, rfl⟩
theorem d_M_stateOf_49 : DC b_M_stateOf 49 (.laload) 1 50 := ⟨by decide +kernel, rfl⟩
theorem d_M_stateOf_50 : DC b_M_stateOf 50 (.l2i) 1 51 := ⟨by decide +kernel, rfl⟩
theorem d_M_stateOf_51 : decode b_M_stateOf 51 = .ok (.ireturn, 1) := by decide +kernel
theorem d_M_stateOf_52 : DC b_M_stateOf 52 (.aload_n 0) 1 53 := ⟨by decide +kernel, rfl⟩
theorem d_M_stateOf_53 : DC b_M_stateOf 53 (.getfield 81) 3 56 := ⟨by decide +kernel, rfl⟩
theorem d_M_stateOf_56 : DC b_M_stateOf 56 (.iload_n 1) 1 57 := ⟨by decide +kernel, rfl⟩
theorem d_M_stateOf_57 : DC b_M_stateOf 57 (.laload) 1 58 := ⟨by decide +kernel, rfl⟩
theorem d_M_stateOf_58 : DC b_M_stateOf 58 (.l2i) 1 59 := ⟨by decide +kernel, rfl⟩
theorem d_M_stateOf_59 : decode b_M_stateOf 59 = .ok (.ireturn, 1) := by decide +kernel
theorem d_M_stateOf_60 : DC b_M_stateOf 60 (.aload_n 0) 1 61 := ⟨by decide +kernel, rfl⟩
theorem d_M_stateOf_61 : DC b_M_stateOf 61 (.getfield 84) 3 64 := ⟨by decide +kernel, rfl⟩
theorem d_M_stateOf_64 : DC b_M_stateOf 64 (.iload_n 1) 1 65 := ⟨by decide +kernel, rfl⟩
theorem d_M_stateOf_65 : DC b_M_stateOf 65 (.iaload) 1 66 := ⟨by decide +kernel, rfl⟩
theorem d_M_stateOf_66 : decode b_M_stateOf 66 = .ok (.ireturn, 1) := by decide +kernel
theorem d_M_stateOf_67 : DC b_M_stateOf 67 (.aload_n 0) 1 68 := ⟨by decide +kernel, rfl⟩
theorem d_M_stateOf_68 : DC b_M_stateOf 68 (.getfield 87) 3 71 := ⟨by decide +kernel, rfl⟩
theorem d_M_stateOf_71 : DC b_M_stateOf 71 (.iload_n 1) 1 72 := ⟨by decide +kernel, rfl⟩
theorem d_M_stateOf_72 : DC b_M_stateOf 72 (.laload) 1 73 := ⟨by decide +kernel, rfl⟩
theorem d_M_stateOf_73 : DC b_M_stateOf 73 (.l2i) 1 74 := ⟨by decide +kernel, rfl⟩
theorem d_M_stateOf_74 : decode b_M_stateOf 74 = .ok (.ireturn, 1) := by decide +kernel
theorem d_M_stateOf_75 : DC b_M_stateOf 75 (.aload_n 0) 1 76 := ⟨by decide +kernel, rfl⟩
theorem d_M_stateOf_76 : DC b_M_stateOf 76 (.getfield 90) 3 79 := ⟨by decide +kernel, rfl⟩
theorem d_M_stateOf_79 : DC b_M_stateOf 79 (.iload_n 1) 1 80 := ⟨by decide +kernel, rfl⟩
theorem d_M_stateOf_80 : DC b_M_stateOf 80 (.laload) 1 81 := ⟨by decide +kernel, rfl⟩
theorem d_M_stateOf_81 : DC b_M_stateOf 81 (.l2i) 1 82 := ⟨by decide +kernel, rfl⟩
theorem d_M_stateOf_82 : decode b_M_stateOf 82 = .ok (.ireturn, 1) := by decide +kernel
theorem d_M_stateOf_83 : DC b_M_stateOf 83 (.aload_n 0) 1 84 := ⟨by decide +kernel, rfl⟩
theorem d_M_stateOf_84 : DC b_M_stateOf 84 (.getfield 93) 3 87 := ⟨by decide +kernel, rfl⟩
theorem d_M_stateOf_87 : DC b_M_stateOf 87 (.iload_n 1) 1 88 := ⟨by decide +kernel, rfl⟩
theorem d_M_stateOf_88 : DC b_M_stateOf 88 (.iaload) 1 89 := ⟨by decide +kernel, rfl⟩
theorem d_M_stateOf_89 : decode b_M_stateOf 89 = .ok (.ireturn, 1) := by decide +kernel
theorem d_M_stateOf_90 : DC b_M_stateOf 90 (.aload_n 0) 1 91 := ⟨by decide +kernel, rfl⟩
theorem d_M_stateOf_91 : DC b_M_stateOf 91 (.getfield 96) 3 94 := ⟨by decide +kernel, rfl⟩
theorem d_M_stateOf_94 : DC b_M_stateOf 94 (.iload_n 1) 1 95 := ⟨by decide +kernel, rfl⟩
theorem d_M_stateOf_95 : DC b_M_stateOf 95 (.iaload) 1 96 := ⟨by decide +kernel, rfl⟩
theorem d_M_stateOf_96 : decode b_M_stateOf 96 = .ok (.ireturn, 1) := by decide +kernel
theorem d_M_stateOf_97 : DC b_M_stateOf 97 (.aload_n 0) 1 98 := ⟨by decide +kernel, rfl⟩
theorem d_M_stateOf_98 : DC b_M_stateOf 98 (.getfield 99) 3 101 := ⟨by decide +kernel, rfl⟩
theorem d_M_stateOf_101 : DC b_M_stateOf 101 (.iload_n 1) 1 102 := ⟨by decide +kernel, rfl⟩
theorem d_M_stateOf_102 : DC b_M_stateOf 102 (.iaload) 1 103 := ⟨by decide +kernel, rfl⟩
theorem d_M_stateOf_103 : decode b_M_stateOf 103 = .ok (.ireturn, 1) := by decide +kernel
theorem c_M_stateOf {l : Launch} {Y : Lay} (hY : IsM Y) {μ : Mem} {x1 : Int32} {x2 : Int32} {r : Int32} (hf : f_M_stateOf μ x1 x2 = some r) : Ct l Y y_M_stateOf b_M_stateOf 3 (some .int) 1 [.ref (yad Y 0), .int x1, .int x2] (some (.int r)) μ μ := by
  refine ct_of (own := "TopYardModel") (lv := [(0, .ref (yad Y 0)), (1, .int x1), (2, .int x2)]) (by decide +kernel) rfl (Nat.le_of_ble_eq_true rfl) rfl (fun X hl C => ?_)
  subst hl
  unfold f_M_stateOf at hf
  refine j_iload_n C d_M_stateOf_0 2 rfl ?_
  refine j_key hf (fun hx2 hf => ?_) (fun hx2 hf => ?_)
  · refine j_tin (tgt' := 44) (off := 43) (v := 0) C d_M_stateOf_1 hx2 (by decide) (by decide) (by decide) (by decide) ?_
    refine j_aload_n C d_M_stateOf_44 0 rfl ?_
    refine j_gS (b := 21) C fl_M_77 (kM hY rfl) (nM hY (by decide)) rfl hY.2.2.2.1 rfl (sM hY rfl) d_M_stateOf_45 ?_
    refine j_iload_n C d_M_stateOf_48 1 rfl ?_
    refine ck hf (fun hi1 hf => ?_)
    refine j_lald C (kM hY rfl) (nM hY (by decide)) (lM hY rfl) hi1 d_M_stateOf_49 ?_
    refine j_l2i C d_M_stateOf_50 ?_
    obtain rfl := Option.some.inj hf
    exact j_iret C d_M_stateOf_51
  · refine j_key hf (fun hx4 hf => ?_) (fun hx4 hf => ?_)
    · refine j_tin (tgt' := 52) (off := 51) (v := 1) C d_M_stateOf_1 hx4 (by decide) (by decide) (by decide) (by decide) ?_
      refine j_aload_n C d_M_stateOf_52 0 rfl ?_
      refine j_gS (b := 22) C fl_M_81 (kM hY rfl) (nM hY (by decide)) rfl hY.2.2.2.1 rfl (sM hY rfl) d_M_stateOf_53 ?_
      refine j_iload_n C d_M_stateOf_56 1 rfl ?_
      refine ck hf (fun hi3 hf => ?_)
      refine j_lald C (kM hY rfl) (nM hY (by decide)) (lM hY rfl) hi3 d_M_stateOf_57 ?_
      refine j_l2i C d_M_stateOf_58 ?_
      obtain rfl := Option.some.inj hf
      exact j_iret C d_M_stateOf_59
    · refine j_key hf (fun hx6 hf => ?_) (fun hx6 hf => ?_)
      · refine j_tin (tgt' := 60) (off := 59) (v := 2) C d_M_stateOf_1 hx6 (by decide) (by decide) (by decide) (by decide) ?_
        refine j_aload_n C d_M_stateOf_60 0 rfl ?_
        refine j_gS (b := 23) C fl_M_84 (kM hY rfl) (nM hY (by decide)) rfl hY.2.2.2.1 rfl (sM hY rfl) d_M_stateOf_61 ?_
        refine j_iload_n C d_M_stateOf_64 1 rfl ?_
        refine ck hf (fun hi5 hf => ?_)
        refine j_iald C (kM hY rfl) (nM hY (by decide)) (lM hY rfl) hi5 d_M_stateOf_65 ?_
        obtain rfl := Option.some.inj hf
        exact j_iret C d_M_stateOf_66
      · refine j_key hf (fun hx8 hf => ?_) (fun hx8 hf => ?_)
        · refine j_tin (tgt' := 67) (off := 66) (v := 3) C d_M_stateOf_1 hx8 (by decide) (by decide) (by decide) (by decide) ?_
          refine j_aload_n C d_M_stateOf_67 0 rfl ?_
          refine j_gS (b := 24) C fl_M_87 (kM hY rfl) (nM hY (by decide)) rfl hY.2.2.2.1 rfl (sM hY rfl) d_M_stateOf_68 ?_
          refine j_iload_n C d_M_stateOf_71 1 rfl ?_
          refine ck hf (fun hi7 hf => ?_)
          refine j_lald C (kM hY rfl) (nM hY (by decide)) (lM hY rfl) hi7 d_M_stateOf_72 ?_
          refine j_l2i C d_M_stateOf_73 ?_
          obtain rfl := Option.some.inj hf
          exact j_iret C d_M_stateOf_74
        · refine j_key hf (fun hx10 hf => ?_) (fun hx10 hf => ?_)
          · refine j_tin (tgt' := 75) (off := 74) (v := 4) C d_M_stateOf_1 hx10 (by decide) (by decide) (by decide) (by decide) ?_
            refine j_aload_n C d_M_stateOf_75 0 rfl ?_
            refine j_gS (b := 25) C fl_M_90 (kM hY rfl) (nM hY (by decide)) rfl hY.2.2.2.1 rfl (sM hY rfl) d_M_stateOf_76 ?_
            refine j_iload_n C d_M_stateOf_79 1 rfl ?_
            refine ck hf (fun hi9 hf => ?_)
            refine j_lald C (kM hY rfl) (nM hY (by decide)) (lM hY rfl) hi9 d_M_stateOf_80 ?_
            refine j_l2i C d_M_stateOf_81 ?_
            obtain rfl := Option.some.inj hf
            exact j_iret C d_M_stateOf_82
          · refine j_key hf (fun hx12 hf => ?_) (fun hx12 hf => ?_)
            · refine j_tin (tgt' := 83) (off := 82) (v := 5) C d_M_stateOf_1 hx12 (by decide) (by decide) (by decide) (by decide) ?_
              refine j_aload_n C d_M_stateOf_83 0 rfl ?_
              refine j_gS (b := 26) C fl_M_93 (kM hY rfl) (nM hY (by decide)) rfl hY.2.2.2.1 rfl (sM hY rfl) d_M_stateOf_84 ?_
              refine j_iload_n C d_M_stateOf_87 1 rfl ?_
              refine ck hf (fun hi11 hf => ?_)
              refine j_iald C (kM hY rfl) (nM hY (by decide)) (lM hY rfl) hi11 d_M_stateOf_88 ?_
              obtain rfl := Option.some.inj hf
              exact j_iret C d_M_stateOf_89
            · refine j_key hf (fun hx14 hf => ?_) (fun hx14 hf => ?_)
              · refine j_tin (tgt' := 90) (off := 89) (v := 6) C d_M_stateOf_1 hx14 (by decide) (by decide) (by decide) (by decide) ?_
                refine j_aload_n C d_M_stateOf_90 0 rfl ?_
                refine j_gS (b := 27) C fl_M_96 (kM hY rfl) (nM hY (by decide)) rfl hY.2.2.2.1 rfl (sM hY rfl) d_M_stateOf_91 ?_
                refine j_iload_n C d_M_stateOf_94 1 rfl ?_
                refine ck hf (fun hi13 hf => ?_)
                refine j_iald C (kM hY rfl) (nM hY (by decide)) (lM hY rfl) hi13 d_M_stateOf_95 ?_
                obtain rfl := Option.some.inj hf
                exact j_iret C d_M_stateOf_96
              · refine j_tout (tgt' := 97) C d_M_stateOf_1 (by have qhx2 := sw_ne (z := 0) hx2 (by decide); have qhx4 := sw_ne (z := 1) hx4 (by decide); have qhx6 := sw_ne (z := 2) hx6 (by decide); have qhx8 := sw_ne (z := 3) hx8 (by decide); have qhx10 := sw_ne (z := 4) hx10 (by decide); have qhx12 := sw_ne (z := 5) hx12 (by decide); have qhx14 := sw_ne (z := 6) hx14 (by decide); omega) (by decide) ?_
                refine j_aload_n C d_M_stateOf_97 0 rfl ?_
                refine j_gS (b := 28) C fl_M_99 (kM hY rfl) (nM hY (by decide)) rfl hY.2.2.2.1 rfl (sM hY rfl) d_M_stateOf_98 ?_
                refine j_iload_n C d_M_stateOf_101 1 rfl ?_
                refine ck hf (fun hi15 hf => ?_)
                refine j_iald C (kM hY rfl) (nM hY (by decide)) (lM hY rfl) hi15 d_M_stateOf_102 ?_
                obtain rfl := Option.some.inj hf
                exact j_iret C d_M_stateOf_103
theorem d_M_state_0 : DC b_M_state 0 (.iload_n 1) 1 1 := ⟨by decide +kernel, rfl⟩
theorem d_M_state_1 : DC b_M_state 1 (.i2l) 1 2 := ⟨by decide +kernel, rfl⟩
theorem d_M_state_2 : DC b_M_state 2 (.lconst 0) 1 3 := ⟨by decide +kernel, rfl⟩
theorem d_M_state_3 : DC b_M_state 3 (.aload_n 0) 1 4 := ⟨by decide +kernel, rfl⟩
theorem d_M_state_4 : DC b_M_state 4 (.getfield 231) 3 7 := ⟨by decide +kernel, rfl⟩
theorem d_M_state_7 : DC b_M_state 7 (.iconst 1) 1 8 := ⟨by decide +kernel, rfl⟩
theorem d_M_state_8 : DC b_M_state 8 (.isub) 1 9 := ⟨by decide +kernel, rfl⟩
theorem d_M_state_9 : DC b_M_state 9 (.i2l) 1 10 := ⟨by decide +kernel, rfl⟩
theorem d_M_state_10 : DC b_M_state 10 (.invokestatic 164) 3 13 := ⟨by decide +kernel, rfl⟩
theorem d_M_state_13 : DB b_M_state 13 (.ifCond .eq 35) 35 48 16 := ⟨by decide +kernel, by decide, rfl⟩
theorem d_M_state_16 : DC b_M_state 16 (.iload_n 2) 1 17 := ⟨by decide +kernel, rfl⟩
theorem d_M_state_17 : DC b_M_state 17 (.i2l) 1 18 := ⟨by decide +kernel, rfl⟩
theorem d_M_state_18 : DC b_M_state 18 (.lconst 0) 1 19 := ⟨by decide +kernel, rfl⟩
theorem d_M_state_19 : DC b_M_state 19 (.ldc2_w 239) 3 22 := ⟨by decide +kernel, rfl⟩
theorem d_M_state_22 : DC b_M_state 22 (.invokestatic 164) 3 25 := ⟨by decide +kernel, rfl⟩
theorem d_M_state_25 : DB b_M_state 25 (.ifCond .eq 23) 23 48 28 := ⟨by decide +kernel, by decide, rfl⟩
theorem d_M_state_28 : DC b_M_state 28 (.iload_n 3) 1 29 := ⟨by decide +kernel, rfl⟩
theorem d_M_state_29 : DC b_M_state 29 (.i2l) 1 30 := ⟨by decide +kernel, rfl⟩
theorem d_M_state_30 : DC b_M_state 30 (.lconst 0) 1 31 := ⟨by decide +kernel, rfl⟩
theorem d_M_state_31 : DC b_M_state 31 (.ldc2_w 178) 3 34 := ⟨by decide +kernel, rfl⟩
theorem d_M_state_34 : DC b_M_state 34 (.invokestatic 164) 3 37 := ⟨by decide +kernel, rfl⟩
theorem d_M_state_37 : DB b_M_state 37 (.ifCond .eq 11) 11 48 40 := ⟨by decide +kernel, by decide, rfl⟩
theorem d_M_state_40 : DC b_M_state 40 (.aload_n 0) 1 41 := ⟨by decide +kernel, rfl⟩
theorem d_M_state_41 : DC b_M_state 41 (.getfield 231) 3 44 := ⟨by decide +kernel, rfl⟩
theorem d_M_state_44 : DC b_M_state 44 (.iconst 2) 1 45 := ⟨by decide +kernel, rfl⟩
theorem d_M_state_45 : DB b_M_state 45 (.if_icmp .ge 6) 6 51 48 := ⟨by decide +kernel, by decide, rfl⟩
theorem d_M_state_48 : DC b_M_state 48 (.ldc 218) 2 50 := ⟨by decide +kernel, rfl⟩
theorem d_M_state_50 : decode b_M_state 50 = .ok (.ireturn, 1) := by decide +kernel
theorem d_M_state_51 : DC b_M_state 51 (.aload_n 0) 1 52 := ⟨by decide +kernel, rfl⟩
theorem d_M_state_52 : DC b_M_state 52 (.iload_n 2) 1 53 := ⟨by decide +kernel, rfl⟩
theorem d_M_state_53 : DC b_M_state 53 (.invokevirtual 289) 3 56 := ⟨by decide +kernel, rfl⟩
theorem d_M_state_56 : DC b_M_state 56 (.istore 4) 2 58 := ⟨by decide +kernel, rfl⟩
theorem d_M_state_58 : DC b_M_state 58 (.aload_n 0) 1 59 := ⟨by decide +kernel, rfl⟩
theorem d_M_state_59 : DC b_M_state 59 (.iload_n 1) 1 60 := ⟨by decide +kernel, rfl⟩
theorem d_M_state_60 : DC b_M_state 60 (.iload_n 3) 1 61 := ⟨by decide +kernel, rfl⟩
theorem d_M_state_61 : DC b_M_state 61 (.invokevirtual 295) 3 64 := ⟨by decide +kernel, rfl⟩
theorem d_M_state_64 : decode b_M_state 64 = .ok (.ireturn, 1) := by decide +kernel
theorem c_M_state {l : Launch} {Y : Lay} (hY : IsM Y) {N : Nat} {μ : Mem} {x1 : Int32} {x2 : Int32} {x3 : Int32} {r : Int32 × Mem} (hf : f_M_state N μ x1 x2 x3 = some r) : Ct l Y y_M_state b_M_state 5 (some .int) 7 [.ref (yad Y 0), .int x1, .int x2, .int x3] (some (.int r.1)) μ r.2 := by
  refine ct_of (own := "TopYardModel") (lv := [(0, .ref (yad Y 0)), (1, .int x1), (2, .int x2), (3, .int x3)]) (by decide +kernel) rfl (Nat.le_of_ble_eq_true rfl) rfl (fun X hl C => ?_)
  subst hl
  unfold f_M_state at hf
  refine j_iload_n C d_M_state_0 1 rfl ?_
  refine j_i2l C d_M_state_1 ?_
  refine j_lconst (v := 0) C d_M_state_2 (by decide) ?_
  refine j_aload_n C d_M_state_3 0 rfl ?_
  refine j_gI C fl_M_231 (kM hY rfl) (nM hY (by decide)) rfl d_M_state_4 ?_
  refine j_iconst (v := 1) C d_M_state_7 (by decide) ?_
  refine j_isub C d_M_state_8 ?_
  refine j_i2l C d_M_state_9 ?_
  refine bd hf (fun v1 hc11 hf => ?_)
  refine j_cS (rest := []) C lk_M_164 (c_M_in hY hc11) rfl (by decide) rfl (Nat.le_of_ble_eq_true rfl) d_M_state_10 ?_
  refine j_if_eq C d_M_state_13 hf (fun hf => ?_) (fun hf => ?_)
  · refine j_ldc (v := (-2147483648)) C d_M_state_48 wd_171 ?_
    obtain rfl := Option.some.inj hf
    exact j_iret C d_M_state_50
  · refine j_iload_n C d_M_state_16 2 rfl ?_
    refine j_i2l C d_M_state_17 ?_
    refine j_lconst (v := 0) C d_M_state_18 (by decide) ?_
    refine j_ldc2 (v := 400) C d_M_state_19 wd_185 ?_
    refine bd hf (fun v2 hc10 hf => ?_)
    refine j_cS (rest := []) C lk_M_164 (c_M_in hY hc10) rfl (by decide) rfl (Nat.le_of_ble_eq_true rfl) d_M_state_22 ?_
    refine j_if_eq C d_M_state_25 hf (fun hf => ?_) (fun hf => ?_)
    · refine j_ldc (v := (-2147483648)) C d_M_state_48 wd_171 ?_
      obtain rfl := Option.some.inj hf
      exact j_iret C d_M_state_50
    · refine j_iload_n C d_M_state_28 3 rfl ?_
      refine j_i2l C d_M_state_29 ?_
      refine j_lconst (v := 0) C d_M_state_30 (by decide) ?_
      refine j_ldc2 (v := 7) C d_M_state_31 wd_147 ?_
      refine bd hf (fun v3 hc9 hf => ?_)
      refine j_cS (rest := []) C lk_M_164 (c_M_in hY hc9) rfl (by decide) rfl (Nat.le_of_ble_eq_true rfl) d_M_state_34 ?_
      refine j_if_eq C d_M_state_37 hf (fun hf => ?_) (fun hf => ?_)
      · refine j_ldc (v := (-2147483648)) C d_M_state_48 wd_171 ?_
        obtain rfl := Option.some.inj hf
        exact j_iret C d_M_state_50
      · refine j_aload_n C d_M_state_40 0 rfl ?_
        refine j_gI C fl_M_231 (kM hY rfl) (nM hY (by decide)) rfl d_M_state_41 ?_
        refine j_iconst (v := 2) C d_M_state_44 (by decide) ?_
        refine j_icmp_ge C d_M_state_45 hf (fun hf => ?_) (fun hf => ?_)
        · refine j_aload_n C d_M_state_51 0 rfl ?_
          refine j_iload_n C d_M_state_52 2 rfl ?_
          refine bd2 hf (fun v4 μ5 hc8 hf => ?_)
          refine j_cV (rest := []) C lk_M_289 (c_M_runsBout hY hc8) rfl (kM hY rfl) (nM hY (by decide)) (by decide) rfl rfl (by decide) rfl (Nat.le_of_ble_eq_true rfl) d_M_state_53 ?_
          refine j_istore (lvf := [(0, .ref (yad Y 0)), (1, .int x1), (2, .int x2), (3, .int x3)]) C d_M_state_56 (by decide) rfl ?_
          refine j_aload_n C d_M_state_58 1 rfl ?_
          refine j_iload_n C d_M_state_59 2 rfl ?_
          refine j_iload_n C d_M_state_60 4 rfl ?_
          refine bd hf (fun v6 hc7 hf => ?_)
          refine j_cV (rest := []) C lk_M_295 (c_M_stateOf hY hc7) rfl (kM hY rfl) (nM hY (by decide)) (by decide) rfl rfl (by decide) rfl (Nat.le_of_ble_eq_true rfl) d_M_state_61 ?_
          obtain rfl := Option.some.inj hf
          exact j_iret C d_M_state_64
        · refine j_ldc (v := (-2147483648)) C d_M_state_48 wd_171 ?_
          obtain rfl := Option.some.inj hf
          exact j_iret C d_M_state_50
theorem d_M_comesTo_0 : DC b_M_comesTo 0 (.iload_n 1) 1 1 := ⟨by decide +kernel, rfl⟩
theorem d_M_comesTo_1 : DC b_M_comesTo 1 (.iload_n 2) 1 2 := ⟨by decide +kernel, rfl⟩
theorem d_M_comesTo_2 : DB b_M_comesTo 2 (.if_icmp .ne 5) 5 7 5 := ⟨by decide +kernel, by decide, rfl⟩
theorem d_M_comesTo_5 : DC b_M_comesTo 5 (.iconst 0) 1 6 := ⟨by decide +kernel, rfl⟩
theorem d_M_comesTo_6 : decode b_M_comesTo 6 = .ok (.ireturn, 1) := by decide +kernel
theorem d_M_comesTo_7 : DC b_M_comesTo 7 (.aload_n 0) 1 8 := ⟨by decide +kernel, rfl⟩
theorem d_M_comesTo_8 : DC b_M_comesTo 8 (.iconst 2) 1 9 := ⟨by decide +kernel, rfl⟩
theorem d_M_comesTo_9 : DC b_M_comesTo 9 (.putfield 245) 3 12 := ⟨by decide +kernel, rfl⟩
theorem d_M_comesTo_12 : DC b_M_comesTo 12 (.aload_n 0) 1 13 := ⟨by decide +kernel, rfl⟩
theorem d_M_comesTo_13 : DC b_M_comesTo 13 (.iconst 0) 1 14 := ⟨by decide +kernel, rfl⟩
theorem d_M_comesTo_14 : DC b_M_comesTo 14 (.iload_n 1) 1 15 := ⟨by decide +kernel, rfl⟩
theorem d_M_comesTo_15 : DC b_M_comesTo 15 (.aload_n 0) 1 16 := ⟨by decide +kernel, rfl⟩
theorem d_M_comesTo_16 : DC b_M_comesTo 16 (.getfield 34) 3 19 := ⟨by decide +kernel, rfl⟩
theorem d_M_comesTo_19 : DC b_M_comesTo 19 (.iconst 2) 1 20 := ⟨by decide +kernel, rfl⟩
theorem d_M_comesTo_20 : DC b_M_comesTo 20 (.idiv) 1 21 := ⟨by decide +kernel, rfl⟩
theorem d_M_comesTo_21 : DC b_M_comesTo 21 (.ineg) 1 22 := ⟨by decide +kernel, rfl⟩
theorem d_M_comesTo_22 : DC b_M_comesTo 22 (.iconst 0) 1 23 := ⟨by decide +kernel, rfl⟩
theorem d_M_comesTo_23 : DC b_M_comesTo 23 (.bipush 9) 2 25 := ⟨by decide +kernel, rfl⟩
theorem d_M_comesTo_25 : DC b_M_comesTo 25 (.iload_n 3) 1 26 := ⟨by decide +kernel, rfl⟩
theorem d_M_comesTo_26 : DC b_M_comesTo 26 (.invokevirtual 281) 3 29 := ⟨by decide +kernel, rfl⟩
theorem d_M_comesTo_29 : DC b_M_comesTo 29 (.aload_n 0) 1 30 := ⟨by decide +kernel, rfl⟩
theorem d_M_comesTo_30 : DC b_M_comesTo 30 (.iconst 1) 1 31 := ⟨by decide +kernel, rfl⟩
theorem d_M_comesTo_31 : DC b_M_comesTo 31 (.iload_n 2) 1 32 := ⟨by decide +kernel, rfl⟩
theorem d_M_comesTo_32 : DC b_M_comesTo 32 (.aload_n 0) 1 33 := ⟨by decide +kernel, rfl⟩
theorem d_M_comesTo_33 : DC b_M_comesTo 33 (.getfield 34) 3 36 := ⟨by decide +kernel, rfl⟩
theorem d_M_comesTo_36 : DC b_M_comesTo 36 (.iconst 2) 1 37 := ⟨by decide +kernel, rfl⟩
theorem d_M_comesTo_37 : DC b_M_comesTo 37 (.idiv) 1 38 := ⟨by decide +kernel, rfl⟩
theorem d_M_comesTo_38 : DC b_M_comesTo 38 (.iconst 0) 1 39 := ⟨by decide +kernel, rfl⟩
theorem d_M_comesTo_39 : DC b_M_comesTo 39 (.bipush 27) 2 41 := ⟨by decide +kernel, rfl⟩
theorem d_M_comesTo_41 : DC b_M_comesTo 41 (.iload_n 3) 1 42 := ⟨by decide +kernel, rfl⟩
theorem d_M_comesTo_42 : DC b_M_comesTo 42 (.invokevirtual 281) 3 45 := ⟨by decide +kernel, rfl⟩
theorem d_M_comesTo_45 : DC b_M_comesTo 45 (.aload_n 0) 1 46 := ⟨by decide +kernel, rfl⟩
theorem d_M_comesTo_46 : DC b_M_comesTo 46 (.sipush 400) 3 49 := ⟨by decide +kernel, rfl⟩
theorem d_M_comesTo_49 : DC b_M_comesTo 49 (.iload 4) 2 51 := ⟨by decide +kernel, rfl⟩
theorem d_M_comesTo_51 : DB b_M_comesTo 51 (.ifCond .ge 7) 7 58 54 := ⟨by decide +kernel, by decide, rfl⟩
theorem d_M_comesTo_54 : DC b_M_comesTo 54 (.iconst 0) 1 55 := ⟨by decide +kernel, rfl⟩
theorem d_M_comesTo_55 : DB b_M_comesTo 55 (.goto 5) 5 60 58 := ⟨by decide +kernel, by decide, rfl⟩
theorem d_M_comesTo_58 : DC b_M_comesTo 58 (.iload 4) 2 60 := ⟨by decide +kernel, rfl⟩
theorem d_M_comesTo_60 : DC b_M_comesTo 60 (.iconst 0) 1 61 := ⟨by decide +kernel, rfl⟩
theorem d_M_comesTo_61 : DC b_M_comesTo 61 (.invokevirtual 285) 3 64 := ⟨by decide +kernel, rfl⟩
theorem d_M_comesTo_64 : DC b_M_comesTo 64 (.istore 5) 2 66 := ⟨by decide +kernel, rfl⟩
theorem d_M_comesTo_66 : DC b_M_comesTo 66 (.aload_n 0) 1 67 := ⟨by decide +kernel, rfl⟩
theorem d_M_comesTo_67 : DC b_M_comesTo 67 (.invokevirtual 292) 3 70 := ⟨by decide +kernel, rfl⟩
theorem d_M_comesTo_70 : DC b_M_comesTo 70 (.istore 6) 2 72 := ⟨by decide +kernel, rfl⟩
theorem d_M_comesTo_72 : DC b_M_comesTo 72 (.iload 6) 2 74 := ⟨by decide +kernel, rfl⟩
theorem d_M_comesTo_74 : DC b_M_comesTo 74 (.iconst (-1)) 1 75 := ⟨by decide +kernel, rfl⟩
theorem d_M_comesTo_75 : DB b_M_comesTo 75 (.if_icmp .ne 58) 58 133 78 := ⟨by decide +kernel, by decide, rfl⟩
theorem d_M_comesTo_78 : DC b_M_comesTo 78 (.iload 4) 2 80 := ⟨by decide +kernel, rfl⟩
theorem d_M_comesTo_80 : DB b_M_comesTo 80 (.ifCond .lt 53) 53 133 83 := ⟨by decide +kernel, by decide, rfl⟩
theorem d_M_comesTo_83 : DC b_M_comesTo 83 (.aload_n 0) 1 84 := ⟨by decide +kernel, rfl⟩
theorem d_M_comesTo_84 : DC b_M_comesTo 84 (.getfield 99) 3 87 := ⟨by decide +kernel, rfl⟩
theorem d_M_comesTo_87 : DC b_M_comesTo 87 (.iconst 0) 1 88 := ⟨by decide +kernel, rfl⟩
theorem d_M_comesTo_88 : DC b_M_comesTo 88 (.iaload) 1 89 := ⟨by decide +kernel, rfl⟩
theorem d_M_comesTo_89 : DC b_M_comesTo 89 (.iconst 3) 1 90 := ⟨by decide +kernel, rfl⟩
theorem d_M_comesTo_90 : DB b_M_comesTo 90 (.if_icmp .ne 7) 7 97 93 := ⟨by decide +kernel, by decide, rfl⟩
theorem d_M_comesTo_93 : DC b_M_comesTo 93 (.iconst 1) 1 94 := ⟨by decide +kernel, rfl⟩
theorem d_M_comesTo_94 : DB b_M_comesTo 94 (.goto 4) 4 98 97 := ⟨by decide +kernel, by decide, rfl⟩
theorem d_M_comesTo_97 : DC b_M_comesTo 97 (.iconst 0) 1 98 := ⟨by decide +kernel, rfl⟩
theorem d_M_comesTo_98 : DC b_M_comesTo 98 (.aload_n 0) 1 99 := ⟨by decide +kernel, rfl⟩
theorem d_M_comesTo_99 : DC b_M_comesTo 99 (.getfield 99) 3 102 := ⟨by decide +kernel, rfl⟩
theorem d_M_comesTo_102 : DC b_M_comesTo 102 (.iconst 1) 1 103 := ⟨by decide +kernel, rfl⟩
theorem d_M_comesTo_103 : DC b_M_comesTo 103 (.iaload) 1 104 := ⟨by decide +kernel, rfl⟩
theorem d_M_comesTo_104 : DC b_M_comesTo 104 (.iconst 3) 1 105 := ⟨by decide +kernel, rfl⟩
theorem d_M_comesTo_105 : DB b_M_comesTo 105 (.if_icmp .ne 7) 7 112 108 := ⟨by decide +kernel, by decide, rfl⟩
theorem d_M_comesTo_108 : DC b_M_comesTo 108 (.iconst 1) 1 109 := ⟨by decide +kernel, rfl⟩
theorem d_M_comesTo_109 : DB b_M_comesTo 109 (.goto 4) 4 113 112 := ⟨by decide +kernel, by decide, rfl⟩
theorem d_M_comesTo_112 : DC b_M_comesTo 112 (.iconst 0) 1 113 := ⟨by decide +kernel, rfl⟩
theorem d_M_comesTo_113 : DB b_M_comesTo 113 (.if_icmp .eq 20) 20 133 116 := ⟨by decide +kernel, by decide, rfl⟩
theorem d_M_comesTo_116 : DC b_M_comesTo 116 (.aload_n 0) 1 117 := ⟨by decide +kernel, rfl⟩
theorem d_M_comesTo_117 : DC b_M_comesTo 117 (.getfield 99) 3 120 := ⟨by decide +kernel, rfl⟩
theorem d_M_comesTo_120 : DC b_M_comesTo 120 (.iconst 0) 1 121 := ⟨by decide +kernel, rfl⟩
theorem d_M_comesTo_121 : DC b_M_comesTo 121 (.iaload) 1 122 := ⟨by decide +kernel, rfl⟩
theorem d_M_comesTo_122 : DC b_M_comesTo 122 (.iconst 3) 1 123 := ⟨by decide +kernel, rfl⟩
theorem d_M_comesTo_123 : DB b_M_comesTo 123 (.if_icmp .ne 7) 7 130 126 := ⟨by decide +kernel, by decide, rfl⟩
theorem d_M_comesTo_126 : DC b_M_comesTo 126 (.iconst 0) 1 127 := ⟨by decide +kernel, rfl⟩
theorem d_M_comesTo_127 : DB b_M_comesTo 127 (.goto 4) 4 131 130 := ⟨by decide +kernel, by decide, rfl⟩
theorem d_M_comesTo_130 : DC b_M_comesTo 130 (.iconst 1) 1 131 := ⟨by decide +kernel, rfl⟩
theorem d_M_comesTo_131 : DC b_M_comesTo 131 (.istore 6) 2 133 := ⟨by decide +kernel, rfl⟩
theorem d_M_comesTo_133 : DC b_M_comesTo 133 (.iload 6) 2 135 := ⟨by decide +kernel, rfl⟩
theorem d_M_comesTo_135 : DB b_M_comesTo 135 (.ifCond .ne 7) 7 142 138 := ⟨by decide +kernel, by decide, rfl⟩
theorem d_M_comesTo_138 : DC b_M_comesTo 138 (.iconst 1) 1 139 := ⟨by decide +kernel, rfl⟩
theorem d_M_comesTo_139 : DB b_M_comesTo 139 (.goto 14) 14 153 142 := ⟨by decide +kernel, by decide, rfl⟩
theorem d_M_comesTo_142 : DC b_M_comesTo 142 (.iload 6) 2 144 := ⟨by decide +kernel, rfl⟩
theorem d_M_comesTo_144 : DC b_M_comesTo 144 (.iconst 1) 1 145 := ⟨by decide +kernel, rfl⟩
theorem d_M_comesTo_145 : DB b_M_comesTo 145 (.if_icmp .ne 7) 7 152 148 := ⟨by decide +kernel, by decide, rfl⟩
theorem d_M_comesTo_148 : DC b_M_comesTo 148 (.iconst (-1)) 1 149 := ⟨by decide +kernel, rfl⟩
theorem d_M_comesTo_149 : DB b_M_comesTo 149 (.goto 4) 4 153 152 := ⟨by decide +kernel, by decide, rfl⟩
theorem d_M_comesTo_152 : DC b_M_comesTo 152 (.iconst 0) 1 153 := ⟨by decide +kernel, rfl⟩
theorem d_M_comesTo_153 : decode b_M_comesTo 153 = .ok (.ireturn, 1) := by decide +kernel
theorem w_M_comesTo_b133 {X : Ctx} {Y : Lay} (hY : IsM Y) (C : Cx X Y b_M_comesTo 7 (some .int) "TopYardModel" 6) {N : Nat} {r : Int32 × Mem} (x6 : Int32) (μ : Mem) (hf : f_M_comesTo_b133 N x6 μ = some r) : J X Y (some (.int r.1)) r.2 7 133 [(6, .int x6)] [] μ := by
  unfold f_M_comesTo_b133 at hf
  refine j_iload C d_M_comesTo_133 0 rfl ?_
  refine j_if_ne C d_M_comesTo_135 hf (fun hf => ?_) (fun hf => ?_)
  · refine j_iload C d_M_comesTo_142 0 rfl ?_
    refine j_iconst (v := 1) C d_M_comesTo_144 (by decide) ?_
    refine j_icmp_ne C d_M_comesTo_145 hf (fun hf => ?_) (fun hf => ?_)
    · refine j_iconst (v := 0) C d_M_comesTo_152 (by decide) ?_
      obtain rfl := Option.some.inj hf
      exact j_iret C d_M_comesTo_153
    · refine j_iconst (v := (-1)) C d_M_comesTo_148 (by decide) ?_
      refine j_goto C d_M_comesTo_149 ?_
      obtain rfl := Option.some.inj hf
      exact j_iret C d_M_comesTo_153
  · refine j_iconst (v := 1) C d_M_comesTo_138 (by decide) ?_
    refine j_goto C d_M_comesTo_139 ?_
    obtain rfl := Option.some.inj hf
    exact j_iret C d_M_comesTo_153
theorem w_M_comesTo_b131 {X : Ctx} {Y : Lay} (hY : IsM Y) (C : Cx X Y b_M_comesTo 7 (some .int) "TopYardModel" 6) {N : Nat} {r : Int32 × Mem} (xs0 : Int32) (μ : Mem) (hf : f_M_comesTo_b131 N xs0 μ = some r) : J X Y (some (.int r.1)) r.2 7 131 [] [.int xs0] μ := by
  unfold f_M_comesTo_b131 at hf
  refine j_istore (lvf := []) C d_M_comesTo_131 (by decide) rfl ?_
  refine j_sub [0] rfl ?_
  exact w_M_comesTo_b133 hY C xs0 μ hf
theorem w_M_comesTo_b113 {X : Ctx} {Y : Lay} (hY : IsM Y) (C : Cx X Y b_M_comesTo 7 (some .int) "TopYardModel" 6) {N : Nat} {r : Int32 × Mem} (x6 : Int32) (xs0 : Int32) (xs1 : Int32) (μ : Mem) (hf : f_M_comesTo_b113 N x6 xs0 xs1 μ = some r) : J X Y (some (.int r.1)) r.2 7 113 [(0, .ref (yad Y 0)), (6, .int x6)] [.int xs0, .int xs1] μ := by
  unfold f_M_comesTo_b113 at hf
  refine j_icmp_eq C d_M_comesTo_113 hf (fun hf => ?_) (fun hf => ?_)
  · refine j_sub [1] rfl ?_
    exact w_M_comesTo_b133 hY C x6 μ hf
  · refine j_aload_n C d_M_comesTo_116 0 rfl ?_
    refine j_gS (b := 28) C fl_M_99 (kM hY rfl) (nM hY (by decide)) rfl hY.2.2.2.1 rfl (sM hY rfl) d_M_comesTo_117 ?_
    refine j_iconst (v := 0) C d_M_comesTo_120 (by decide) ?_
    refine ck hf (fun hi1 hf => ?_)
    refine j_iald C (kM hY rfl) (nM hY (by decide)) (lM hY rfl) hi1 d_M_comesTo_121 ?_
    refine j_iconst (v := 3) C d_M_comesTo_122 (by decide) ?_
    refine j_icmp_ne C d_M_comesTo_123 hf (fun hf => ?_) (fun hf => ?_)
    · refine j_iconst (v := 1) C d_M_comesTo_130 (by decide) ?_
      refine j_sub [] rfl ?_
      exact w_M_comesTo_b131 hY C 1 μ hf
    · refine j_iconst (v := 0) C d_M_comesTo_126 (by decide) ?_
      refine j_goto C d_M_comesTo_127 ?_
      refine j_sub [] rfl ?_
      exact w_M_comesTo_b131 hY C 0 μ hf
theorem w_M_comesTo_b98 {X : Ctx} {Y : Lay} (hY : IsM Y) (C : Cx X Y b_M_comesTo 7 (some .int) "TopYardModel" 6) {N : Nat} {r : Int32 × Mem} (x6 : Int32) (xs0 : Int32) (μ : Mem) (hf : f_M_comesTo_b98 N x6 xs0 μ = some r) : J X Y (some (.int r.1)) r.2 7 98 [(0, .ref (yad Y 0)), (6, .int x6)] [.int xs0] μ := by
  unfold f_M_comesTo_b98 at hf
  refine j_aload_n C d_M_comesTo_98 0 rfl ?_
  refine j_gS (b := 28) C fl_M_99 (kM hY rfl) (nM hY (by decide)) rfl hY.2.2.2.1 rfl (sM hY rfl) d_M_comesTo_99 ?_
  refine j_iconst (v := 1) C d_M_comesTo_102 (by decide) ?_
  refine ck hf (fun hi1 hf => ?_)
  refine j_iald C (kM hY rfl) (nM hY (by decide)) (lM hY rfl) hi1 d_M_comesTo_103 ?_
  refine j_iconst (v := 3) C d_M_comesTo_104 (by decide) ?_
  refine j_icmp_ne C d_M_comesTo_105 hf (fun hf => ?_) (fun hf => ?_)
  · refine j_iconst (v := 0) C d_M_comesTo_112 (by decide) ?_
    refine j_sub [0, 1] rfl ?_
    exact w_M_comesTo_b113 hY C x6 0 xs0 μ hf
  · refine j_iconst (v := 1) C d_M_comesTo_108 (by decide) ?_
    refine j_goto C d_M_comesTo_109 ?_
    refine j_sub [0, 1] rfl ?_
    exact w_M_comesTo_b113 hY C x6 1 xs0 μ hf
theorem w_M_comesTo_b60 {X : Ctx} {Y : Lay} (hY : IsM Y) (C : Cx X Y b_M_comesTo 7 (some .int) "TopYardModel" 6) {N : Nat} {r : Int32 × Mem} (x4 : Int32) (xs0 : Int32) (xs1 : Int32) (μ : Mem) (hf : f_M_comesTo_b60 N x4 xs0 xs1 μ = some r) : J X Y (some (.int r.1)) r.2 7 60 [(0, .ref (yad Y 0)), (4, .int x4)] [.int xs0, .int xs1, .ref (yad Y 0)] μ := by
  unfold f_M_comesTo_b60 at hf
  refine j_iconst (v := 0) C d_M_comesTo_60 (by decide) ?_
  refine bd2 hf (fun v1 μ2 hc6 hf => ?_)
  refine j_cV (rest := []) C lk_M_285 (c_M_runsTo hY hc6) rfl (kM hY rfl) (nM hY (by decide)) (by decide) rfl rfl (by decide) rfl (Nat.le_of_ble_eq_true rfl) d_M_comesTo_61 ?_
  refine j_istore (lvf := [(0, .ref (yad Y 0)), (4, .int x4)]) C d_M_comesTo_64 (by decide) rfl ?_
  refine j_aload_n C d_M_comesTo_66 1 rfl ?_
  refine bd hf (fun v3 hc5 hf => ?_)
  refine j_cV (rest := []) C lk_M_292 (c_M_alone hY hc5) rfl (kM hY rfl) (nM hY (by decide)) (by decide) rfl rfl (by decide) rfl (Nat.le_of_ble_eq_true rfl) d_M_comesTo_67 ?_
  refine j_istore (lvf := [(5, .int v1), (0, .ref (yad Y 0)), (4, .int x4)]) C d_M_comesTo_70 (by decide) rfl ?_
  refine j_iload C d_M_comesTo_72 0 rfl ?_
  refine j_iconst (v := (-1)) C d_M_comesTo_74 (by decide) ?_
  refine j_icmp_ne C d_M_comesTo_75 hf (fun hf => ?_) (fun hf => ?_)
  · refine j_sub [0] rfl ?_
    exact w_M_comesTo_b133 hY C v3 μ2 hf
  · refine j_iload C d_M_comesTo_78 3 rfl ?_
    refine j_if_lt C d_M_comesTo_80 hf (fun hf => ?_) (fun hf => ?_)
    · refine j_sub [0] rfl ?_
      exact w_M_comesTo_b133 hY C v3 μ2 hf
    · refine j_aload_n C d_M_comesTo_83 2 rfl ?_
      refine j_gS (b := 28) C fl_M_99 (kM hY rfl) (nM hY (by decide)) rfl hY.2.2.2.1 rfl (sM hY rfl) d_M_comesTo_84 ?_
      refine j_iconst (v := 0) C d_M_comesTo_87 (by decide) ?_
      refine ck hf (fun hi4 hf => ?_)
      refine j_iald C (kM hY rfl) (nM hY (by decide)) (lM hY rfl) hi4 d_M_comesTo_88 ?_
      refine j_iconst (v := 3) C d_M_comesTo_89 (by decide) ?_
      refine j_icmp_ne C d_M_comesTo_90 hf (fun hf => ?_) (fun hf => ?_)
      · refine j_iconst (v := 0) C d_M_comesTo_97 (by decide) ?_
        refine j_sub [2, 0] rfl ?_
        exact w_M_comesTo_b98 hY C v3 0 μ2 hf
      · refine j_iconst (v := 1) C d_M_comesTo_93 (by decide) ?_
        refine j_goto C d_M_comesTo_94 ?_
        refine j_sub [2, 0] rfl ?_
        exact w_M_comesTo_b98 hY C v3 1 μ2 hf
theorem c_M_comesTo {l : Launch} {Y : Lay} (hY : IsM Y) {N : Nat} {μ : Mem} {x1 : Int32} {x2 : Int32} {x3 : Int32} {x4 : Int32} {r : Int32 × Mem} (hf : f_M_comesTo N μ x1 x2 x3 x4 = some r) : Ct l Y y_M_comesTo b_M_comesTo 7 (some .int) 6 [.ref (yad Y 0), .int x1, .int x2, .int x3, .int x4] (some (.int r.1)) μ r.2 := by
  refine ct_of (own := "TopYardModel") (lv := [(0, .ref (yad Y 0)), (1, .int x1), (2, .int x2), (3, .int x3), (4, .int x4)]) (by decide +kernel) rfl (Nat.le_of_ble_eq_true rfl) rfl (fun X hl C => ?_)
  subst hl
  unfold f_M_comesTo at hf
  refine j_iload_n C d_M_comesTo_0 1 rfl ?_
  refine j_iload_n C d_M_comesTo_1 2 rfl ?_
  refine j_icmp_ne C d_M_comesTo_2 hf (fun hf => ?_) (fun hf => ?_)
  · refine j_aload_n C d_M_comesTo_7 0 rfl ?_
    refine j_iconst (v := 2) C d_M_comesTo_8 (by decide) ?_
    refine j_pI C fl_M_245 (kM hY rfl) (nM hY (by decide)) rfl rfl rfl d_M_comesTo_9 hf (fun μ1 hf => ?_)
    refine j_aload_n C d_M_comesTo_12 0 rfl ?_
    refine j_iconst (v := 0) C d_M_comesTo_13 (by decide) ?_
    refine j_iload_n C d_M_comesTo_14 1 rfl ?_
    refine j_aload_n C d_M_comesTo_15 0 rfl ?_
    refine j_gI C fl_M_34 (kM hY rfl) (nM hY (by decide)) rfl d_M_comesTo_16 ?_
    refine j_iconst (v := 2) C d_M_comesTo_19 (by decide) ?_
    refine j_idiv C d_M_comesTo_20 (by decide) ?_
    refine j_ineg C d_M_comesTo_21 ?_
    refine j_iconst (v := 0) C d_M_comesTo_22 (by decide) ?_
    refine j_bipush (v := 9) C d_M_comesTo_23 (by decide) ?_
    refine j_iload_n C d_M_comesTo_25 3 rfl ?_
    refine bd hf (fun μ2 hc5 hf => ?_)
    refine j_cV (rest := []) C lk_M_281 (c_M_begins hY hc5) rfl (kM hY rfl) (nM hY (by decide)) (by decide) rfl rfl (by decide) rfl (Nat.le_of_ble_eq_true rfl) d_M_comesTo_26 ?_
    refine j_aload_n C d_M_comesTo_29 0 rfl ?_
    refine j_iconst (v := 1) C d_M_comesTo_30 (by decide) ?_
    refine j_iload_n C d_M_comesTo_31 2 rfl ?_
    refine j_aload_n C d_M_comesTo_32 0 rfl ?_
    refine j_gI C fl_M_34 (kM hY rfl) (nM hY (by decide)) rfl d_M_comesTo_33 ?_
    refine j_iconst (v := 2) C d_M_comesTo_36 (by decide) ?_
    refine j_idiv C d_M_comesTo_37 (by decide) ?_
    refine j_iconst (v := 0) C d_M_comesTo_38 (by decide) ?_
    refine j_bipush (v := 27) C d_M_comesTo_39 (by decide) ?_
    refine j_iload_n C d_M_comesTo_41 3 rfl ?_
    refine bd hf (fun μ3 hc4 hf => ?_)
    refine j_cV (rest := []) C lk_M_281 (c_M_begins hY hc4) rfl (kM hY rfl) (nM hY (by decide)) (by decide) rfl rfl (by decide) rfl (Nat.le_of_ble_eq_true rfl) d_M_comesTo_42 ?_
    refine j_aload_n C d_M_comesTo_45 0 rfl ?_
    refine j_sipush (v := 400) C d_M_comesTo_46 (by decide) ?_
    refine j_iload C d_M_comesTo_49 4 rfl ?_
    refine j_if_ge C d_M_comesTo_51 hf (fun hf => ?_) (fun hf => ?_)
    · refine j_iload C d_M_comesTo_58 4 rfl ?_
      refine j_sub [0, 4] rfl ?_
      exact w_M_comesTo_b60 hY C x4 x4 400 μ3 hf
    · refine j_iconst (v := 0) C d_M_comesTo_54 (by decide) ?_
      refine j_goto C d_M_comesTo_55 ?_
      refine j_sub [0, 4] rfl ?_
      exact w_M_comesTo_b60 hY C x4 0 400 μ3 hf
  · refine j_iconst (v := 0) C d_M_comesTo_5 (by decide) ?_
    obtain rfl := Option.some.inj hf
    exact j_iret C d_M_comesTo_6

theorem d_M_findWorn_0 : DC b_M_findWorn 0 (.aload_n 0) 1 1 := ⟨by decide +kernel, rfl⟩
theorem d_M_findWorn_1 : DC b_M_findWorn 1 (.iconst 0) 1 2 := ⟨by decide +kernel, rfl⟩
theorem d_M_findWorn_2 : DC b_M_findWorn 2 (.putfield 369) 3 5 := ⟨by decide +kernel, rfl⟩
theorem d_M_findWorn_5 : DC b_M_findWorn 5 (.aload_n 0) 1 6 := ⟨by decide +kernel, rfl⟩
theorem d_M_findWorn_6 : DC b_M_findWorn 6 (.iconst 0) 1 7 := ⟨by decide +kernel, rfl⟩
theorem d_M_findWorn_7 : DC b_M_findWorn 7 (.putfield 372) 3 10 := ⟨by decide +kernel, rfl⟩
theorem d_M_findWorn_10 : DC b_M_findWorn 10 (.iconst 0) 1 11 := ⟨by decide +kernel, rfl⟩
theorem d_M_findWorn_11 : DC b_M_findWorn 11 (.istore_n 2) 1 12 := ⟨by decide +kernel, rfl⟩
theorem d_M_findWorn_12 : DC b_M_findWorn 12 (.iload_n 2) 1 13 := ⟨by decide +kernel, rfl⟩
theorem d_M_findWorn_13 : DC b_M_findWorn 13 (.aload_n 0) 1 14 := ⟨by decide +kernel, rfl⟩
theorem d_M_findWorn_14 : DC b_M_findWorn 14 (.getfield 356) 3 17 := ⟨by decide +kernel, rfl⟩
theorem d_M_findWorn_17 : DB b_M_findWorn 17 (.if_icmp .ge 101) 101 118 20 := ⟨by decide +kernel, by decide, rfl⟩
theorem d_M_findWorn_20 : DC b_M_findWorn 20 (.aload_n 0) 1 21 := ⟨by decide +kernel, rfl⟩
theorem d_M_findWorn_21 : DC b_M_findWorn 21 (.iload_n 2) 1 22 := ⟨by decide +kernel, rfl⟩
theorem d_M_findWorn_22 : DC b_M_findWorn 22 (.iload_n 1) 1 23 := ⟨by decide +kernel, rfl⟩
theorem d_M_findWorn_23 : DC b_M_findWorn 23 (.invokevirtual 375) 3 26 := ⟨by decide +kernel, rfl⟩
theorem d_M_findWorn_26 : DB b_M_findWorn 26 (.ifCond .eq 86) 86 112 29 := ⟨by decide +kernel, by decide, rfl⟩
theorem d_M_findWorn_29 : DC b_M_findWorn 29 (.aload_n 0) 1 30 := ⟨by decide +kernel, rfl⟩
theorem d_M_findWorn_30 : DC b_M_findWorn 30 (.getfield 123) 3 33 := ⟨by decide +kernel, rfl⟩
theorem d_M_findWorn_33 : DC b_M_findWorn 33 (.iload_n 2) 1 34 := ⟨by decide +kernel, rfl⟩
theorem d_M_findWorn_34 : DC b_M_findWorn 34 (.iaload) 1 35 := ⟨by decide +kernel, rfl⟩
theorem d_M_findWorn_35 : DC b_M_findWorn 35 (.iload_n 1) 1 36 := ⟨by decide +kernel, rfl⟩
theorem d_M_findWorn_36 : DB b_M_findWorn 36 (.if_icmp .ne 7) 7 43 39 := ⟨by decide +kernel, by decide, rfl⟩
theorem d_M_findWorn_39 : DC b_M_findWorn 39 (.iconst 1) 1 40 := ⟨by decide +kernel, rfl⟩
theorem d_M_findWorn_40 : DB b_M_findWorn 40 (.goto 4) 4 44 43 := ⟨by decide +kernel, by decide, rfl⟩
theorem d_M_findWorn_43 : DC b_M_findWorn 43 (.iconst (-1)) 1 44 := ⟨by decide +kernel, rfl⟩
theorem d_M_findWorn_44 : DC b_M_findWorn 44 (.istore_n 3) 1 45 := ⟨by decide +kernel, rfl⟩
theorem d_M_findWorn_45 : DC b_M_findWorn 45 (.iload_n 3) 1 46 := ⟨by decide +kernel, rfl⟩
theorem d_M_findWorn_46 : DC b_M_findWorn 46 (.aload_n 0) 1 47 := ⟨by decide +kernel, rfl⟩
theorem d_M_findWorn_47 : DC b_M_findWorn 47 (.aload_n 0) 1 48 := ⟨by decide +kernel, rfl⟩
theorem d_M_findWorn_48 : DC b_M_findWorn 48 (.getfield 123) 3 51 := ⟨by decide +kernel, rfl⟩
theorem d_M_findWorn_51 : DC b_M_findWorn 51 (.iload_n 2) 1 52 := ⟨by decide +kernel, rfl⟩
theorem d_M_findWorn_52 : DC b_M_findWorn 52 (.iaload) 1 53 := ⟨by decide +kernel, rfl⟩
theorem d_M_findWorn_53 : DC b_M_findWorn 53 (.aload_n 0) 1 54 := ⟨by decide +kernel, rfl⟩
theorem d_M_findWorn_54 : DC b_M_findWorn 54 (.getfield 126) 3 57 := ⟨by decide +kernel, rfl⟩
theorem d_M_findWorn_57 : DC b_M_findWorn 57 (.iload_n 2) 1 58 := ⟨by decide +kernel, rfl⟩
theorem d_M_findWorn_58 : DC b_M_findWorn 58 (.iaload) 1 59 := ⟨by decide +kernel, rfl⟩
theorem d_M_findWorn_59 : DC b_M_findWorn 59 (.invokevirtual 302) 3 62 := ⟨by decide +kernel, rfl⟩
theorem d_M_findWorn_62 : DC b_M_findWorn 62 (.imul) 1 63 := ⟨by decide +kernel, rfl⟩
theorem d_M_findWorn_63 : DC b_M_findWorn 63 (.istore 4) 2 65 := ⟨by decide +kernel, rfl⟩
theorem d_M_findWorn_65 : DC b_M_findWorn 65 (.aload_n 0) 1 66 := ⟨by decide +kernel, rfl⟩
theorem d_M_findWorn_66 : DC b_M_findWorn 66 (.dup) 1 67 := ⟨by decide +kernel, rfl⟩
theorem d_M_findWorn_67 : DC b_M_findWorn 67 (.getfield 369) 3 70 := ⟨by decide +kernel, rfl⟩
theorem d_M_findWorn_70 : DC b_M_findWorn 70 (.iload_n 3) 1 71 := ⟨by decide +kernel, rfl⟩
theorem d_M_findWorn_71 : DC b_M_findWorn 71 (.aload_n 0) 1 72 := ⟨by decide +kernel, rfl⟩
theorem d_M_findWorn_72 : DC b_M_findWorn 72 (.getfield 129) 3 75 := ⟨by decide +kernel, rfl⟩
theorem d_M_findWorn_75 : DC b_M_findWorn 75 (.iload_n 2) 1 76 := ⟨by decide +kernel, rfl⟩
theorem d_M_findWorn_76 : DC b_M_findWorn 76 (.iaload) 1 77 := ⟨by decide +kernel, rfl⟩
theorem d_M_findWorn_77 : DC b_M_findWorn 77 (.imul) 1 78 := ⟨by decide +kernel, rfl⟩
theorem d_M_findWorn_78 : DC b_M_findWorn 78 (.iload 4) 2 80 := ⟨by decide +kernel, rfl⟩
theorem d_M_findWorn_80 : DB b_M_findWorn 80 (.if_icmp .ge 7) 7 87 83 := ⟨by decide +kernel, by decide, rfl⟩
theorem d_M_findWorn_83 : DC b_M_findWorn 83 (.iconst 1) 1 84 := ⟨by decide +kernel, rfl⟩
theorem d_M_findWorn_84 : DB b_M_findWorn 84 (.goto 4) 4 88 87 := ⟨by decide +kernel, by decide, rfl⟩
theorem d_M_findWorn_87 : DC b_M_findWorn 87 (.iconst 0) 1 88 := ⟨by decide +kernel, rfl⟩
theorem d_M_findWorn_88 : DC b_M_findWorn 88 (.iadd) 1 89 := ⟨by decide +kernel, rfl⟩
theorem d_M_findWorn_89 : DC b_M_findWorn 89 (.putfield 369) 3 92 := ⟨by decide +kernel, rfl⟩
theorem d_M_findWorn_92 : DC b_M_findWorn 92 (.aload_n 0) 1 93 := ⟨by decide +kernel, rfl⟩
theorem d_M_findWorn_93 : DC b_M_findWorn 93 (.dup) 1 94 := ⟨by decide +kernel, rfl⟩
theorem d_M_findWorn_94 : DC b_M_findWorn 94 (.getfield 372) 3 97 := ⟨by decide +kernel, rfl⟩
theorem d_M_findWorn_97 : DC b_M_findWorn 97 (.iload 4) 2 99 := ⟨by decide +kernel, rfl⟩
theorem d_M_findWorn_99 : DC b_M_findWorn 99 (.iconst (-1)) 1 100 := ⟨by decide +kernel, rfl⟩
theorem d_M_findWorn_100 : DB b_M_findWorn 100 (.if_icmp .le 7) 7 107 103 := ⟨by decide +kernel, by decide, rfl⟩
theorem d_M_findWorn_103 : DC b_M_findWorn 103 (.iconst 1) 1 104 := ⟨by decide +kernel, rfl⟩
theorem d_M_findWorn_104 : DB b_M_findWorn 104 (.goto 4) 4 108 107 := ⟨by decide +kernel, by decide, rfl⟩
theorem d_M_findWorn_107 : DC b_M_findWorn 107 (.iconst 0) 1 108 := ⟨by decide +kernel, rfl⟩
theorem d_M_findWorn_108 : DC b_M_findWorn 108 (.iadd) 1 109 := ⟨by decide +kernel, rfl⟩
theorem d_M_findWorn_109 : DC b_M_findWorn 109 (.putfield 372) 3 112 := ⟨by decide +kernel, rfl⟩
theorem d_M_findWorn_112 : DC b_M_findWorn 112 (.iinc 2 1) 3 115 := ⟨by decide +kernel, rfl⟩
theorem d_M_findWorn_115 : DB b_M_findWorn 115 (.goto (-103)) (-103) 12 118 := ⟨by decide +kernel, by decide, rfl⟩
theorem d_M_findWorn_118 : decode b_M_findWorn 118 = .ok (.return_, 1) := by decide +kernel
theorem w_M_findWorn_b112 {X : Ctx} {Y : Lay} (hY : IsM Y) (C : Cx X Y b_M_findWorn 5 none "TopYardModel" 8) {N : Nat} {r : Mem} (k12 : Int32 → Int32 → Mem → Option (Mem)) (hk12 : ∀ (x1 : Int32) (x2 : Int32) (ν : Mem), k12 x1 x2 ν = some r → J X Y none r 5 12 [(0, .ref (yad Y 0)), (1, .int x1), (2, .int x2)] [] ν) (x1 : Int32) (x2 : Int32) (μ : Mem) (hf : f_M_findWorn_b112 N k12 x1 x2 μ = some r) : J X Y none r 5 112 [(0, .ref (yad Y 0)), (1, .int x1), (2, .int x2)] [] μ := by
  unfold f_M_findWorn_b112 at hf
  refine j_iinc (lvf := [(0, .ref (yad Y 0)), (1, .int x1)]) (v := 1) C d_M_findWorn_112 2 rfl (by decide) (by decide) rfl hf (fun v1 hf => ?_)
  refine j_goto C d_M_findWorn_115 ?_
  refine j_sub [1, 2, 0] rfl ?_
  exact hk12 x1 v1 μ hf
theorem w_M_findWorn_b108 {X : Ctx} {Y : Lay} (hY : IsM Y) (C : Cx X Y b_M_findWorn 5 none "TopYardModel" 8) {N : Nat} {r : Mem} (k12 : Int32 → Int32 → Mem → Option (Mem)) (hk12 : ∀ (x1 : Int32) (x2 : Int32) (ν : Mem), k12 x1 x2 ν = some r → J X Y none r 5 12 [(0, .ref (yad Y 0)), (1, .int x1), (2, .int x2)] [] ν) (x1 : Int32) (x2 : Int32) (xs0 : Int32) (xs1 : Int32) (μ : Mem) (hf : f_M_findWorn_b108 N k12 x1 x2 xs0 xs1 μ = some r) : J X Y none r 5 108 [(0, .ref (yad Y 0)), (1, .int x1), (2, .int x2)] [.int xs0, .int xs1, .ref (yad Y 0)] μ := by
  unfold f_M_findWorn_b108 at hf
  refine j_iadd C d_M_findWorn_108 ?_
  refine j_pI C fl_M_372 (kM hY rfl) (nM hY (by decide)) rfl rfl rfl d_M_findWorn_109 hf (fun μ1 hf => ?_)
  refine j_sub [0, 1, 2] rfl ?_
  exact w_M_findWorn_b112 hY C k12 hk12 x1 x2 μ1 hf
theorem w_M_findWorn_b88 {X : Ctx} {Y : Lay} (hY : IsM Y) (C : Cx X Y b_M_findWorn 5 none "TopYardModel" 8) {N : Nat} {r : Mem} (k12 : Int32 → Int32 → Mem → Option (Mem)) (hk12 : ∀ (x1 : Int32) (x2 : Int32) (ν : Mem), k12 x1 x2 ν = some r → J X Y none r 5 12 [(0, .ref (yad Y 0)), (1, .int x1), (2, .int x2)] [] ν) (x1 : Int32) (x2 : Int32) (x4 : Int32) (xs0 : Int32) (xs1 : Int32) (μ : Mem) (hf : f_M_findWorn_b88 N k12 x1 x2 x4 xs0 xs1 μ = some r) : J X Y none r 5 88 [(0, .ref (yad Y 0)), (1, .int x1), (2, .int x2), (4, .int x4)] [.int xs0, .int xs1, .ref (yad Y 0)] μ := by
  unfold f_M_findWorn_b88 at hf
  refine j_iadd C d_M_findWorn_88 ?_
  refine j_pI C fl_M_369 (kM hY rfl) (nM hY (by decide)) rfl rfl rfl d_M_findWorn_89 hf (fun μ1 hf => ?_)
  refine j_aload_n C d_M_findWorn_92 0 rfl ?_
  refine j_dup C d_M_findWorn_93 rfl ?_
  refine j_gI C fl_M_372 (kM hY rfl) (nM hY (by decide)) rfl d_M_findWorn_94 ?_
  refine j_iload C d_M_findWorn_97 3 rfl ?_
  refine j_iconst (v := (-1)) C d_M_findWorn_99 (by decide) ?_
  refine j_icmp_le C d_M_findWorn_100 hf (fun hf => ?_) (fun hf => ?_)
  · refine j_iconst (v := 0) C d_M_findWorn_107 (by decide) ?_
    refine j_sub [0, 1, 2] rfl ?_
    exact w_M_findWorn_b108 hY C k12 hk12 x1 x2 0 (gI μ1 0 53) μ1 hf
  · refine j_iconst (v := 1) C d_M_findWorn_103 (by decide) ?_
    refine j_goto C d_M_findWorn_104 ?_
    refine j_sub [0, 1, 2] rfl ?_
    exact w_M_findWorn_b108 hY C k12 hk12 x1 x2 1 (gI μ1 0 53) μ1 hf
theorem w_M_findWorn_b44 {X : Ctx} {Y : Lay} (hY : IsM Y) (C : Cx X Y b_M_findWorn 5 none "TopYardModel" 8) {N : Nat} {r : Mem} (k12 : Int32 → Int32 → Mem → Option (Mem)) (hk12 : ∀ (x1 : Int32) (x2 : Int32) (ν : Mem), k12 x1 x2 ν = some r → J X Y none r 5 12 [(0, .ref (yad Y 0)), (1, .int x1), (2, .int x2)] [] ν) (x1 : Int32) (x2 : Int32) (xs0 : Int32) (μ : Mem) (hf : f_M_findWorn_b44 N k12 x1 x2 xs0 μ = some r) : J X Y none r 5 44 [(0, .ref (yad Y 0)), (1, .int x1), (2, .int x2)] [.int xs0] μ := by
  unfold f_M_findWorn_b44 at hf
  refine j_istore_n (lvf := [(0, .ref (yad Y 0)), (1, .int x1), (2, .int x2)]) C d_M_findWorn_44 (by decide) rfl ?_
  refine j_iload_n C d_M_findWorn_45 0 rfl ?_
  refine j_aload_n C d_M_findWorn_46 1 rfl ?_
  refine j_aload_n C d_M_findWorn_47 1 rfl ?_
  refine j_gS (b := 36) C fl_M_123 (kM hY rfl) (nM hY (by decide)) rfl hY.2.2.2.1 rfl (sM hY rfl) d_M_findWorn_48 ?_
  refine j_iload_n C d_M_findWorn_51 3 rfl ?_
  refine ck hf (fun hi1 hf => ?_)
  refine j_iald C (kM hY rfl) (nM hY (by decide)) (lM hY rfl) hi1 d_M_findWorn_52 ?_
  refine j_aload_n C d_M_findWorn_53 1 rfl ?_
  refine j_gS (b := 37) C fl_M_126 (kM hY rfl) (nM hY (by decide)) rfl hY.2.2.2.1 rfl (sM hY rfl) d_M_findWorn_54 ?_
  refine j_iload_n C d_M_findWorn_57 3 rfl ?_
  refine ck hf (fun hi2 hf => ?_)
  refine j_iald C (kM hY rfl) (nM hY (by decide)) (lM hY rfl) hi2 d_M_findWorn_58 ?_
  refine bd2 hf (fun v3 μ4 hc7 hf => ?_)
  refine j_cV (rest := [.int xs0]) C lk_M_302 (c_M_expectedOf hY hc7) rfl (kM hY rfl) (nM hY (by decide)) (by decide) rfl rfl (by decide) rfl (Nat.le_of_ble_eq_true rfl) d_M_findWorn_59 ?_
  refine j_imul C d_M_findWorn_62 ?_
  refine j_istoreN (lvf := [(3, .int xs0), (0, .ref (yad Y 0)), (1, .int x1), (2, .int x2)]) C d_M_findWorn_63 (by decide) rfl hf (fun v5 hf => ?_)
  refine j_aload_n C d_M_findWorn_65 2 rfl ?_
  refine j_dup C d_M_findWorn_66 rfl ?_
  refine j_gI C fl_M_369 (kM hY rfl) (nM hY (by decide)) rfl d_M_findWorn_67 ?_
  refine j_iload_n C d_M_findWorn_70 1 rfl ?_
  refine j_aload_n C d_M_findWorn_71 2 rfl ?_
  refine j_gS (b := 38) C fl_M_129 (kM hY rfl) (nM hY (by decide)) rfl hY.2.2.2.1 rfl (sM hY rfl) d_M_findWorn_72 ?_
  refine j_iload_n C d_M_findWorn_75 4 rfl ?_
  refine ck hf (fun hi6 hf => ?_)
  refine j_iald C (kM hY rfl) (nM hY (by decide)) (lM hY rfl) hi6 d_M_findWorn_76 ?_
  refine j_imul C d_M_findWorn_77 ?_
  refine j_iload C d_M_findWorn_78 0 rfl ?_
  refine j_icmp_ge C d_M_findWorn_80 hf (fun hf => ?_) (fun hf => ?_)
  · refine j_iconst (v := 0) C d_M_findWorn_87 (by decide) ?_
    refine j_sub [2, 3, 4, 0] rfl ?_
    exact w_M_findWorn_b88 hY C k12 hk12 x1 x2 v5 0 (gI μ4 0 52) μ4 hf
  · refine j_iconst (v := 1) C d_M_findWorn_83 (by decide) ?_
    refine j_goto C d_M_findWorn_84 ?_
    refine j_sub [2, 3, 4, 0] rfl ?_
    exact w_M_findWorn_b88 hY C k12 hk12 x1 x2 v5 1 (gI μ4 0 52) μ4 hf
theorem w_M_findWorn_l12 {X : Ctx} {Y : Lay} (hY : IsM Y) (C : Cx X Y b_M_findWorn 5 none "TopYardModel" 8) {N : Nat} {r : Mem} : ∀ (n : Nat) (x1 : Int32) (x2 : Int32) (μ : Mem), f_M_findWorn_l12 N n x1 x2 μ = some r → J X Y none r 5 12 [(0, .ref (yad Y 0)), (1, .int x1), (2, .int x2)] [] μ := by
  intro n
  induction n with
  | zero => intro x1 x2 μ hf; rw [f_M_findWorn_l12] at hf; cases hf
  | succ n ih =>
    intro x1 x2 μ hf
    rw [f_M_findWorn_l12] at hf
    refine j_iload_n C d_M_findWorn_12 2 rfl ?_
    refine j_aload_n C d_M_findWorn_13 0 rfl ?_
    refine j_gI C fl_M_356 (kM hY rfl) (nM hY (by decide)) rfl d_M_findWorn_14 ?_
    refine j_icmp_ge C d_M_findWorn_17 hf (fun hf => ?_) (fun hf => ?_)
    · obtain rfl := Option.some.inj hf
      exact j_vret C d_M_findWorn_118
    · refine j_aload_n C d_M_findWorn_20 0 rfl ?_
      refine j_iload_n C d_M_findWorn_21 2 rfl ?_
      refine j_iload_n C d_M_findWorn_22 1 rfl ?_
      refine bd hf (fun v1 hc3 hf => ?_)
      refine j_cV (rest := []) C lk_M_375 (c_M_isOf hY hc3) rfl (kM hY rfl) (nM hY (by decide)) (by decide) rfl rfl (by decide) rfl (Nat.le_of_ble_eq_true rfl) d_M_findWorn_23 ?_
      refine j_if_eq C d_M_findWorn_26 hf (fun hf => ?_) (fun hf => ?_)
      · refine j_sub [0, 1, 2] rfl ?_
        exact w_M_findWorn_b112 hY C (f_M_findWorn_l12 N n) ih x1 x2 μ hf
      · refine j_aload_n C d_M_findWorn_29 0 rfl ?_
        refine j_gS (b := 36) C fl_M_123 (kM hY rfl) (nM hY (by decide)) rfl hY.2.2.2.1 rfl (sM hY rfl) d_M_findWorn_30 ?_
        refine j_iload_n C d_M_findWorn_33 2 rfl ?_
        refine ck hf (fun hi2 hf => ?_)
        refine j_iald C (kM hY rfl) (nM hY (by decide)) (lM hY rfl) hi2 d_M_findWorn_34 ?_
        refine j_iload_n C d_M_findWorn_35 1 rfl ?_
        refine j_icmp_ne C d_M_findWorn_36 hf (fun hf => ?_) (fun hf => ?_)
        · refine j_iconst (v := (-1)) C d_M_findWorn_43 (by decide) ?_
          refine j_sub [0, 1, 2] rfl ?_
          exact w_M_findWorn_b44 hY C (f_M_findWorn_l12 N n) ih x1 x2 (-1) μ hf
        · refine j_iconst (v := 1) C d_M_findWorn_39 (by decide) ?_
          refine j_goto C d_M_findWorn_40 ?_
          refine j_sub [0, 1, 2] rfl ?_
          exact w_M_findWorn_b44 hY C (f_M_findWorn_l12 N n) ih x1 x2 1 μ hf
theorem c_M_findWorn {l : Launch} {Y : Lay} (hY : IsM Y) {N : Nat} {μ : Mem} {x1 : Int32} {r : Mem} (hf : f_M_findWorn N μ x1 = some r) : Ct l Y y_M_findWorn b_M_findWorn 5 none 8 [.ref (yad Y 0), .int x1] none μ r := by
  refine ct_of (own := "TopYardModel") (lv := [(0, .ref (yad Y 0)), (1, .int x1)]) (by decide +kernel) rfl (Nat.le_of_ble_eq_true rfl) rfl (fun X hl C => ?_)
  subst hl
  unfold f_M_findWorn at hf
  refine j_aload_n C d_M_findWorn_0 0 rfl ?_
  refine j_iconst (v := 0) C d_M_findWorn_1 (by decide) ?_
  refine j_pI C fl_M_369 (kM hY rfl) (nM hY (by decide)) rfl rfl rfl d_M_findWorn_2 hf (fun μ1 hf => ?_)
  refine j_aload_n C d_M_findWorn_5 0 rfl ?_
  refine j_iconst (v := 0) C d_M_findWorn_6 (by decide) ?_
  refine j_pI C fl_M_372 (kM hY rfl) (nM hY (by decide)) rfl rfl rfl d_M_findWorn_7 hf (fun μ2 hf => ?_)
  refine j_iconst (v := 0) C d_M_findWorn_10 (by decide) ?_
  refine j_istore_n (lvf := [(0, .ref (yad Y 0)), (1, .int x1)]) C d_M_findWorn_11 (by decide) rfl ?_
  refine j_sub [1, 2, 0] rfl ?_
  exact w_M_findWorn_l12 hY C N x1 0 μ2 hf
theorem d_M_doubt_0 : DC b_M_doubt 0 (.lconst 1) 1 1 := ⟨by decide +kernel, rfl⟩
theorem d_M_doubt_1 : DC b_M_doubt 1 (.lstore_n 1) 1 2 := ⟨by decide +kernel, rfl⟩
theorem d_M_doubt_2 : DC b_M_doubt 2 (.lconst 0) 1 3 := ⟨by decide +kernel, rfl⟩
theorem d_M_doubt_3 : DC b_M_doubt 3 (.lstore_n 3) 1 4 := ⟨by decide +kernel, rfl⟩
theorem d_M_doubt_4 : DC b_M_doubt 4 (.iconst 0) 1 5 := ⟨by decide +kernel, rfl⟩
theorem d_M_doubt_5 : DC b_M_doubt 5 (.istore 5) 2 7 := ⟨by decide +kernel, rfl⟩
theorem d_M_doubt_7 : DC b_M_doubt 7 (.iload 5) 2 9 := ⟨by decide +kernel, rfl⟩
theorem d_M_doubt_9 : DC b_M_doubt 9 (.aload_n 0) 1 10 := ⟨by decide +kernel, rfl⟩
theorem d_M_doubt_10 : DC b_M_doubt 10 (.getfield 372) 3 13 := ⟨by decide +kernel, rfl⟩
theorem d_M_doubt_13 : DB b_M_doubt 13 (.if_icmp .gt 43) 43 56 16 := ⟨by decide +kernel, by decide, rfl⟩
theorem d_M_doubt_16 : DC b_M_doubt 16 (.lload_n 3) 1 17 := ⟨by decide +kernel, rfl⟩
theorem d_M_doubt_17 : DC b_M_doubt 17 (.iload 5) 2 19 := ⟨by decide +kernel, rfl⟩
theorem d_M_doubt_19 : DC b_M_doubt 19 (.aload_n 0) 1 20 := ⟨by decide +kernel, rfl⟩
theorem d_M_doubt_20 : DC b_M_doubt 20 (.getfield 369) 3 23 := ⟨by decide +kernel, rfl⟩
theorem d_M_doubt_23 : DB b_M_doubt 23 (.if_icmp .lt 7) 7 30 26 := ⟨by decide +kernel, by decide, rfl⟩
theorem d_M_doubt_26 : DC b_M_doubt 26 (.lload_n 1) 1 27 := ⟨by decide +kernel, rfl⟩
theorem d_M_doubt_27 : DB b_M_doubt 27 (.goto 4) 4 31 30 := ⟨by decide +kernel, by decide, rfl⟩
theorem d_M_doubt_30 : DC b_M_doubt 30 (.lconst 0) 1 31 := ⟨by decide +kernel, rfl⟩
theorem d_M_doubt_31 : DC b_M_doubt 31 (.ladd) 1 32 := ⟨by decide +kernel, rfl⟩
theorem d_M_doubt_32 : DC b_M_doubt 32 (.lstore_n 3) 1 33 := ⟨by decide +kernel, rfl⟩
theorem d_M_doubt_33 : DC b_M_doubt 33 (.lload_n 1) 1 34 := ⟨by decide +kernel, rfl⟩
theorem d_M_doubt_34 : DC b_M_doubt 34 (.aload_n 0) 1 35 := ⟨by decide +kernel, rfl⟩
theorem d_M_doubt_35 : DC b_M_doubt 35 (.getfield 372) 3 38 := ⟨by decide +kernel, rfl⟩
theorem d_M_doubt_38 : DC b_M_doubt 38 (.iload 5) 2 40 := ⟨by decide +kernel, rfl⟩
theorem d_M_doubt_40 : DC b_M_doubt 40 (.isub) 1 41 := ⟨by decide +kernel, rfl⟩
theorem d_M_doubt_41 : DC b_M_doubt 41 (.i2l) 1 42 := ⟨by decide +kernel, rfl⟩
theorem d_M_doubt_42 : DC b_M_doubt 42 (.lmul) 1 43 := ⟨by decide +kernel, rfl⟩
theorem d_M_doubt_43 : DC b_M_doubt 43 (.iload 5) 2 45 := ⟨by decide +kernel, rfl⟩
theorem d_M_doubt_45 : DC b_M_doubt 45 (.iconst 1) 1 46 := ⟨by decide +kernel, rfl⟩
theorem d_M_doubt_46 : DC b_M_doubt 46 (.iadd) 1 47 := ⟨by decide +kernel, rfl⟩
theorem d_M_doubt_47 : DC b_M_doubt 47 (.i2l) 1 48 := ⟨by decide +kernel, rfl⟩
theorem d_M_doubt_48 : DC b_M_doubt 48 (.ldiv) 1 49 := ⟨by decide +kernel, rfl⟩
theorem d_M_doubt_49 : DC b_M_doubt 49 (.lstore_n 1) 1 50 := ⟨by decide +kernel, rfl⟩
theorem d_M_doubt_50 : DC b_M_doubt 50 (.iinc 5 1) 3 53 := ⟨by decide +kernel, rfl⟩
theorem d_M_doubt_53 : DB b_M_doubt 53 (.goto (-46)) (-46) 7 56 := ⟨by decide +kernel, by decide, rfl⟩
theorem d_M_doubt_56 : DC b_M_doubt 56 (.ldc2_w 352) 3 59 := ⟨by decide +kernel, rfl⟩
theorem d_M_doubt_59 : DC b_M_doubt 59 (.lload_n 3) 1 60 := ⟨by decide +kernel, rfl⟩
theorem d_M_doubt_60 : DC b_M_doubt 60 (.lmul) 1 61 := ⟨by decide +kernel, rfl⟩
theorem d_M_doubt_61 : DC b_M_doubt 61 (.lconst 1) 1 62 := ⟨by decide +kernel, rfl⟩
theorem d_M_doubt_62 : DC b_M_doubt 62 (.aload_n 0) 1 63 := ⟨by decide +kernel, rfl⟩
theorem d_M_doubt_63 : DC b_M_doubt 63 (.getfield 372) 3 66 := ⟨by decide +kernel, rfl⟩
theorem d_M_doubt_66 : DC b_M_doubt 66 (.lshl) 1 67 := ⟨by decide +kernel, rfl⟩
theorem d_M_doubt_67 : DC b_M_doubt 67 (.ldiv) 1 68 := ⟨by decide +kernel, rfl⟩
theorem d_M_doubt_68 : DC b_M_doubt 68 (.l2i) 1 69 := ⟨by decide +kernel, rfl⟩
theorem d_M_doubt_69 : decode b_M_doubt 69 = .ok (.ireturn, 1) := by decide +kernel
theorem w_M_doubt_b31 {X : Ctx} {Y : Lay} (hY : IsM Y) (C : Cx X Y b_M_doubt 6 (some .int) "TopYardModel" 1) {N : Nat} {μ : Mem} {r : Int32} (k7 : Int64 → Int64 → Int32 → Option (Int32)) (hk7 : ∀ (x1 : Int64) (x3 : Int64) (x5 : Int32), k7 x1 x3 x5 = some r → J X Y (some (.int r)) μ 6 7 [(0, .ref (yad Y 0)), (1, .long x1), (3, .long x3), (5, .int x5)] [] μ) (x1 : Int64) (x5 : Int32) (xs0 : Int64) (xs1 : Int64) (hf : f_M_doubt_b31 N μ k7 x1 x5 xs0 xs1 = some r) : J X Y (some (.int r)) μ 6 31 [(0, .ref (yad Y 0)), (1, .long x1), (5, .int x5)] [.long xs0, .long xs1] μ := by
  unfold f_M_doubt_b31 at hf
  refine j_ladd C d_M_doubt_31 ?_
  refine j_lstore_nN (lvf := [(0, .ref (yad Y 0)), (1, .long x1), (5, .int x5)]) C d_M_doubt_32 (by decide) rfl hf (fun v1 hf => ?_)
  refine j_lload_n C d_M_doubt_33 2 rfl ?_
  refine j_aload_n C d_M_doubt_34 1 rfl ?_
  refine j_gI C fl_M_372 (kM hY rfl) (nM hY (by decide)) rfl d_M_doubt_35 ?_
  refine j_iload C d_M_doubt_38 3 rfl ?_
  refine j_isub C d_M_doubt_40 ?_
  refine j_i2l C d_M_doubt_41 ?_
  refine j_lmul C d_M_doubt_42 ?_
  refine j_iload C d_M_doubt_43 3 rfl ?_
  refine j_iconst (v := 1) C d_M_doubt_45 (by decide) ?_
  refine j_iadd C d_M_doubt_46 ?_
  refine j_i2l C d_M_doubt_47 ?_
  refine ckn hf (fun hz4 hf => ?_)
  refine j_ldiv C d_M_doubt_48 hz4 ?_
  refine j_lstore_nN (lvf := [(3, .long v1), (0, .ref (yad Y 0)), (5, .int x5)]) C d_M_doubt_49 (by decide) rfl hf (fun v2 hf => ?_)
  refine j_iinc (lvf := [(1, .long v2), (3, .long v1), (0, .ref (yad Y 0))]) (v := 1) C d_M_doubt_50 3 rfl (by decide) (by decide) rfl hf (fun v3 hf => ?_)
  refine j_goto C d_M_doubt_53 ?_
  refine j_sub [3, 1, 2, 0] rfl ?_
  exact hk7 v2 v1 v3 hf
theorem w_M_doubt_l7 {X : Ctx} {Y : Lay} (hY : IsM Y) (C : Cx X Y b_M_doubt 6 (some .int) "TopYardModel" 1) {N : Nat} {μ : Mem} {r : Int32} : ∀ (n : Nat) (x1 : Int64) (x3 : Int64) (x5 : Int32), f_M_doubt_l7 N μ n x1 x3 x5 = some r → J X Y (some (.int r)) μ 6 7 [(0, .ref (yad Y 0)), (1, .long x1), (3, .long x3), (5, .int x5)] [] μ := by
  intro n
  induction n with
  | zero => intro x1 x3 x5 hf; rw [f_M_doubt_l7] at hf; cases hf
  | succ n ih =>
    intro x1 x3 x5 hf
    rw [f_M_doubt_l7] at hf
    refine j_iload C d_M_doubt_7 3 rfl ?_
    refine j_aload_n C d_M_doubt_9 0 rfl ?_
    refine j_gI C fl_M_372 (kM hY rfl) (nM hY (by decide)) rfl d_M_doubt_10 ?_
    refine j_icmp_gt C d_M_doubt_13 hf (fun hf => ?_) (fun hf => ?_)
    · refine j_ldc2 (v := 1000000) C d_M_doubt_56 wd_219 ?_
      refine j_lload_n C d_M_doubt_59 2 rfl ?_
      refine j_lmul C d_M_doubt_60 ?_
      refine j_lconst (v := 1) C d_M_doubt_61 (by decide) ?_
      refine j_aload_n C d_M_doubt_62 0 rfl ?_
      refine j_gI C fl_M_372 (kM hY rfl) (nM hY (by decide)) rfl d_M_doubt_63 ?_
      refine j_lshl C d_M_doubt_66 ?_
      refine ckn hf (fun hz1 hf => ?_)
      refine j_ldiv C d_M_doubt_67 hz1 ?_
      refine j_l2i C d_M_doubt_68 ?_
      obtain rfl := Option.some.inj hf
      exact j_iret C d_M_doubt_69
    · refine j_lload_n C d_M_doubt_16 2 rfl ?_
      refine j_iload C d_M_doubt_17 3 rfl ?_
      refine j_aload_n C d_M_doubt_19 0 rfl ?_
      refine j_gI C fl_M_369 (kM hY rfl) (nM hY (by decide)) rfl d_M_doubt_20 ?_
      refine j_icmp_lt C d_M_doubt_23 hf (fun hf => ?_) (fun hf => ?_)
      · refine j_lconst (v := 0) C d_M_doubt_30 (by decide) ?_
        refine j_sub [0, 1, 3] rfl ?_
        exact w_M_doubt_b31 hY C (f_M_doubt_l7 N μ n) ih x1 x5 0 x3 hf
      · refine j_lload_n C d_M_doubt_26 1 rfl ?_
        refine j_goto C d_M_doubt_27 ?_
        refine j_sub [0, 1, 3] rfl ?_
        exact w_M_doubt_b31 hY C (f_M_doubt_l7 N μ n) ih x1 x5 x1 x3 hf
theorem c_M_doubt {l : Launch} {Y : Lay} (hY : IsM Y) {N : Nat} {μ : Mem} {r : Int32} (hf : f_M_doubt N μ = some r) : Ct l Y y_M_doubt b_M_doubt 6 (some .int) 1 [.ref (yad Y 0)] (some (.int r)) μ μ := by
  refine ct_of (own := "TopYardModel") (lv := [(0, .ref (yad Y 0))]) (by decide +kernel) rfl (Nat.le_of_ble_eq_true rfl) rfl (fun X hl C => ?_)
  subst hl
  unfold f_M_doubt at hf
  refine j_lconst (v := 1) C d_M_doubt_0 (by decide) ?_
  refine j_lstore_n (lvf := [(0, .ref (yad Y 0))]) C d_M_doubt_1 (by decide) rfl ?_
  refine j_lconst (v := 0) C d_M_doubt_2 (by decide) ?_
  refine j_lstore_n (lvf := [(1, .long 1), (0, .ref (yad Y 0))]) C d_M_doubt_3 (by decide) rfl ?_
  refine j_iconst (v := 0) C d_M_doubt_4 (by decide) ?_
  refine j_istore (lvf := [(3, .long 0), (1, .long 1), (0, .ref (yad Y 0))]) C d_M_doubt_5 (by decide) rfl ?_
  refine j_sub [3, 2, 1, 0] rfl ?_
  exact w_M_doubt_l7 hY C N 1 0 0 hf
theorem d_M_worn_0 : DC b_M_worn 0 (.aload_n 0) 1 1 := ⟨by decide +kernel, rfl⟩
theorem d_M_worn_1 : DC b_M_worn 1 (.iload_n 1) 1 2 := ⟨by decide +kernel, rfl⟩
theorem d_M_worn_2 : DC b_M_worn 2 (.invokevirtual 190) 3 5 := ⟨by decide +kernel, rfl⟩
theorem d_M_worn_5 : DB b_M_worn 5 (.ifCond .eq 15) 15 20 8 := ⟨by decide +kernel, by decide, rfl⟩
theorem d_M_worn_8 : DC b_M_worn 8 (.iload_n 2) 1 9 := ⟨by decide +kernel, rfl⟩
theorem d_M_worn_9 : DC b_M_worn 9 (.i2l) 1 10 := ⟨by decide +kernel, rfl⟩
theorem d_M_worn_10 : DC b_M_worn 10 (.lconst 0) 1 11 := ⟨by decide +kernel, rfl⟩
theorem d_M_worn_11 : DC b_M_worn 11 (.ldc2_w 216) 3 14 := ⟨by decide +kernel, rfl⟩
theorem d_M_worn_14 : DC b_M_worn 14 (.invokestatic 164) 3 17 := ⟨by decide +kernel, rfl⟩
theorem d_M_worn_17 : DB b_M_worn 17 (.ifCond .ne 6) 6 23 20 := ⟨by decide +kernel, by decide, rfl⟩
theorem d_M_worn_20 : DC b_M_worn 20 (.bipush (-2)) 2 22 := ⟨by decide +kernel, rfl⟩
theorem d_M_worn_22 : decode b_M_worn 22 = .ok (.ireturn, 1) := by decide +kernel
theorem d_M_worn_23 : DC b_M_worn 23 (.aload_n 0) 1 24 := ⟨by decide +kernel, rfl⟩
theorem d_M_worn_24 : DC b_M_worn 24 (.iload_n 1) 1 25 := ⟨by decide +kernel, rfl⟩
theorem d_M_worn_25 : DC b_M_worn 25 (.invokevirtual 378) 3 28 := ⟨by decide +kernel, rfl⟩
theorem d_M_worn_28 : DC b_M_worn 28 (.iload_n 2) 1 29 := ⟨by decide +kernel, rfl⟩
theorem d_M_worn_29 : DB b_M_worn 29 (.ifCond .ne 10) 10 39 32 := ⟨by decide +kernel, by decide, rfl⟩
theorem d_M_worn_32 : DC b_M_worn 32 (.aload_n 0) 1 33 := ⟨by decide +kernel, rfl⟩
theorem d_M_worn_33 : DC b_M_worn 33 (.getfield 369) 3 36 := ⟨by decide +kernel, rfl⟩
theorem d_M_worn_36 : DB b_M_worn 36 (.goto 19) 19 55 39 := ⟨by decide +kernel, by decide, rfl⟩
theorem d_M_worn_39 : DC b_M_worn 39 (.iload_n 2) 1 40 := ⟨by decide +kernel, rfl⟩
theorem d_M_worn_40 : DC b_M_worn 40 (.iconst 1) 1 41 := ⟨by decide +kernel, rfl⟩
theorem d_M_worn_41 : DB b_M_worn 41 (.if_icmp .ne 10) 10 51 44 := ⟨by decide +kernel, by decide, rfl⟩
theorem d_M_worn_44 : DC b_M_worn 44 (.aload_n 0) 1 45 := ⟨by decide +kernel, rfl⟩
theorem d_M_worn_45 : DC b_M_worn 45 (.getfield 372) 3 48 := ⟨by decide +kernel, rfl⟩
theorem d_M_worn_48 : DB b_M_worn 48 (.goto 7) 7 55 51 := ⟨by decide +kernel, by decide, rfl⟩
theorem d_M_worn_51 : DC b_M_worn 51 (.aload_n 0) 1 52 := ⟨by decide +kernel, rfl⟩
theorem d_M_worn_52 : DC b_M_worn 52 (.invokevirtual 382) 3 55 := ⟨by decide +kernel, rfl⟩
theorem d_M_worn_55 : decode b_M_worn 55 = .ok (.ireturn, 1) := by decide +kernel
theorem c_M_worn {l : Launch} {Y : Lay} (hY : IsM Y) {N : Nat} {μ : Mem} {x1 : Int32} {x2 : Int32} {r : Int32 × Mem} (hf : f_M_worn N μ x1 x2 = some r) : Ct l Y y_M_worn b_M_worn 3 (some .int) 9 [.ref (yad Y 0), .int x1, .int x2] (some (.int r.1)) μ r.2 := by
  refine ct_of (own := "TopYardModel") (lv := [(0, .ref (yad Y 0)), (1, .int x1), (2, .int x2)]) (by decide +kernel) rfl (Nat.le_of_ble_eq_true rfl) rfl (fun X hl C => ?_)
  subst hl
  unfold f_M_worn at hf
  refine j_aload_n C d_M_worn_0 0 rfl ?_
  refine j_iload_n C d_M_worn_1 1 rfl ?_
  refine bd hf (fun v1 hc8 hf => ?_)
  refine j_cV (rest := []) C lk_M_190 (c_M_isTop hY hc8) rfl (kM hY rfl) (nM hY (by decide)) (by decide) rfl rfl (by decide) rfl (Nat.le_of_ble_eq_true rfl) d_M_worn_2 ?_
  refine j_if_eq C d_M_worn_5 hf (fun hf => ?_) (fun hf => ?_)
  · refine j_bipush (v := (-2)) C d_M_worn_20 (by decide) ?_
    obtain rfl := Option.some.inj hf
    exact j_iret C d_M_worn_22
  · refine j_iload_n C d_M_worn_8 2 rfl ?_
    refine j_i2l C d_M_worn_9 ?_
    refine j_lconst (v := 0) C d_M_worn_10 (by decide) ?_
    refine j_ldc2 (v := 2) C d_M_worn_11 wd_172 ?_
    refine bd hf (fun v2 hc7 hf => ?_)
    refine j_cS (rest := []) C lk_M_164 (c_M_in hY hc7) rfl (by decide) rfl (Nat.le_of_ble_eq_true rfl) d_M_worn_14 ?_
    refine j_if_ne C d_M_worn_17 hf (fun hf => ?_) (fun hf => ?_)
    · refine j_aload_n C d_M_worn_23 0 rfl ?_
      refine j_iload_n C d_M_worn_24 1 rfl ?_
      refine bd hf (fun μ3 hc6 hf => ?_)
      refine j_cV (rest := []) C lk_M_378 (c_M_findWorn hY hc6) rfl (kM hY rfl) (nM hY (by decide)) (by decide) rfl rfl (by decide) rfl (Nat.le_of_ble_eq_true rfl) d_M_worn_25 ?_
      refine j_iload_n C d_M_worn_28 2 rfl ?_
      refine j_if_ne C d_M_worn_29 hf (fun hf => ?_) (fun hf => ?_)
      · refine j_iload_n C d_M_worn_39 2 rfl ?_
        refine j_iconst (v := 1) C d_M_worn_40 (by decide) ?_
        refine j_icmp_ne C d_M_worn_41 hf (fun hf => ?_) (fun hf => ?_)
        · refine j_aload_n C d_M_worn_51 0 rfl ?_
          refine bd hf (fun v4 hc5 hf => ?_)
          refine j_cV (rest := []) C lk_M_382 (c_M_doubt hY hc5) rfl (kM hY rfl) (nM hY (by decide)) (by decide) rfl rfl (by decide) rfl (Nat.le_of_ble_eq_true rfl) d_M_worn_52 ?_
          obtain rfl := Option.some.inj hf
          exact j_iret C d_M_worn_55
        · refine j_aload_n C d_M_worn_44 0 rfl ?_
          refine j_gI C fl_M_372 (kM hY rfl) (nM hY (by decide)) rfl d_M_worn_45 ?_
          refine j_goto C d_M_worn_48 ?_
          obtain rfl := Option.some.inj hf
          exact j_iret C d_M_worn_55
      · refine j_aload_n C d_M_worn_32 0 rfl ?_
        refine j_gI C fl_M_369 (kM hY rfl) (nM hY (by decide)) rfl d_M_worn_33 ?_
        refine j_goto C d_M_worn_36 ?_
        obtain rfl := Option.some.inj hf
        exact j_iret C d_M_worn_55
    · refine j_bipush (v := (-2)) C d_M_worn_20 (by decide) ?_
      obtain rfl := Option.some.inj hf
      exact j_iret C d_M_worn_22
theorem d_M_most_0 : DC b_M_most 0 (.iconst (-1)) 1 1 := ⟨by decide +kernel, rfl⟩
theorem d_M_most_1 : DC b_M_most 1 (.istore_n 1) 1 2 := ⟨by decide +kernel, rfl⟩
theorem d_M_most_2 : DC b_M_most 2 (.iconst 0) 1 3 := ⟨by decide +kernel, rfl⟩
theorem d_M_most_3 : DC b_M_most 3 (.istore_n 2) 1 4 := ⟨by decide +kernel, rfl⟩
theorem d_M_most_4 : DC b_M_most 4 (.iconst 0) 1 5 := ⟨by decide +kernel, rfl⟩
theorem d_M_most_5 : DC b_M_most 5 (.istore_n 3) 1 6 := ⟨by decide +kernel, rfl⟩
theorem d_M_most_6 : DC b_M_most 6 (.iload_n 3) 1 7 := ⟨by decide +kernel, rfl⟩
theorem d_M_most_7 : DC b_M_most 7 (.aload_n 0) 1 8 := ⟨by decide +kernel, rfl⟩
theorem d_M_most_8 : DC b_M_most 8 (.getfield 175) 3 11 := ⟨by decide +kernel, rfl⟩
theorem d_M_most_11 : DB b_M_most 11 (.if_icmp .ge 41) 41 52 14 := ⟨by decide +kernel, by decide, rfl⟩
theorem d_M_most_14 : DC b_M_most 14 (.aload_n 0) 1 15 := ⟨by decide +kernel, rfl⟩
theorem d_M_most_15 : DC b_M_most 15 (.iload_n 3) 1 16 := ⟨by decide +kernel, rfl⟩
theorem d_M_most_16 : DC b_M_most 16 (.invokevirtual 378) 3 19 := ⟨by decide +kernel, rfl⟩
theorem d_M_most_19 : DC b_M_most 19 (.aload_n 0) 1 20 := ⟨by decide +kernel, rfl⟩
theorem d_M_most_20 : DC b_M_most 20 (.getfield 372) 3 23 := ⟨by decide +kernel, rfl⟩
theorem d_M_most_23 : DB b_M_most 23 (.ifCond .le 23) 23 46 26 := ⟨by decide +kernel, by decide, rfl⟩
theorem d_M_most_26 : DC b_M_most 26 (.iload_n 1) 1 27 := ⟨by decide +kernel, rfl⟩
theorem d_M_most_27 : DC b_M_most 27 (.iconst (-1)) 1 28 := ⟨by decide +kernel, rfl⟩
theorem d_M_most_28 : DB b_M_most 28 (.if_icmp .eq 11) 11 39 31 := ⟨by decide +kernel, by decide, rfl⟩
theorem d_M_most_31 : DC b_M_most 31 (.aload_n 0) 1 32 := ⟨by decide +kernel, rfl⟩
theorem d_M_most_32 : DC b_M_most 32 (.invokevirtual 382) 3 35 := ⟨by decide +kernel, rfl⟩
theorem d_M_most_35 : DC b_M_most 35 (.iload_n 2) 1 36 := ⟨by decide +kernel, rfl⟩
theorem d_M_most_36 : DB b_M_most 36 (.if_icmp .ge 10) 10 46 39 := ⟨by decide +kernel, by decide, rfl⟩
theorem d_M_most_39 : DC b_M_most 39 (.iload_n 3) 1 40 := ⟨by decide +kernel, rfl⟩
theorem d_M_most_40 : DC b_M_most 40 (.istore_n 1) 1 41 := ⟨by decide +kernel, rfl⟩
theorem d_M_most_41 : DC b_M_most 41 (.aload_n 0) 1 42 := ⟨by decide +kernel, rfl⟩
theorem d_M_most_42 : DC b_M_most 42 (.invokevirtual 382) 3 45 := ⟨by decide +kernel, rfl⟩
theorem d_M_most_45 : DC b_M_most 45 (.istore_n 2) 1 46 := ⟨by decide +kernel, rfl⟩
theorem d_M_most_46 : DC b_M_most 46 (.iinc 3 1) 3 49 := ⟨by decide +kernel, rfl⟩
theorem d_M_most_49 : DB b_M_most 49 (.goto (-43)) (-43) 6 52 := ⟨by decide +kernel, by decide, rfl⟩
theorem d_M_most_52 : DC b_M_most 52 (.iload_n 1) 1 53 := ⟨by decide +kernel, rfl⟩
theorem d_M_most_53 : decode b_M_most 53 = .ok (.ireturn, 1) := by decide +kernel
theorem w_M_most_b46 {X : Ctx} {Y : Lay} (hY : IsM Y) (C : Cx X Y b_M_most 4 (some .int) "TopYardModel" 9) {N : Nat} {r : Int32 × Mem} (k6 : Int32 → Int32 → Int32 → Mem → Option (Int32 × Mem)) (hk6 : ∀ (x1 : Int32) (x2 : Int32) (x3 : Int32) (ν : Mem), k6 x1 x2 x3 ν = some r → J X Y (some (.int r.1)) r.2 4 6 [(0, .ref (yad Y 0)), (1, .int x1), (2, .int x2), (3, .int x3)] [] ν) (x1 : Int32) (x2 : Int32) (x3 : Int32) (μ : Mem) (hf : f_M_most_b46 N k6 x1 x2 x3 μ = some r) : J X Y (some (.int r.1)) r.2 4 46 [(0, .ref (yad Y 0)), (1, .int x1), (2, .int x2), (3, .int x3)] [] μ := by
  unfold f_M_most_b46 at hf
  refine j_iinc (lvf := [(0, .ref (yad Y 0)), (1, .int x1), (2, .int x2)]) (v := 1) C d_M_most_46 3 rfl (by decide) (by decide) rfl hf (fun v1 hf => ?_)
  refine j_goto C d_M_most_49 ?_
  refine j_sub [1, 2, 3, 0] rfl ?_
  exact hk6 x1 x2 v1 μ hf
theorem w_M_most_b39 {X : Ctx} {Y : Lay} (hY : IsM Y) (C : Cx X Y b_M_most 4 (some .int) "TopYardModel" 9) {N : Nat} {r : Int32 × Mem} (k6 : Int32 → Int32 → Int32 → Mem → Option (Int32 × Mem)) (hk6 : ∀ (x1 : Int32) (x2 : Int32) (x3 : Int32) (ν : Mem), k6 x1 x2 x3 ν = some r → J X Y (some (.int r.1)) r.2 4 6 [(0, .ref (yad Y 0)), (1, .int x1), (2, .int x2), (3, .int x3)] [] ν) (x3 : Int32) (μ : Mem) (hf : f_M_most_b39 N k6 x3 μ = some r) : J X Y (some (.int r.1)) r.2 4 39 [(0, .ref (yad Y 0)), (3, .int x3)] [] μ := by
  unfold f_M_most_b39 at hf
  refine j_iload_n C d_M_most_39 1 rfl ?_
  refine j_istore_n (lvf := [(0, .ref (yad Y 0)), (3, .int x3)]) C d_M_most_40 (by decide) rfl ?_
  refine j_aload_n C d_M_most_41 1 rfl ?_
  refine bd hf (fun v1 hc2 hf => ?_)
  refine j_cV (rest := []) C lk_M_382 (c_M_doubt hY hc2) rfl (kM hY rfl) (nM hY (by decide)) (by decide) rfl rfl (by decide) rfl (Nat.le_of_ble_eq_true rfl) d_M_most_42 ?_
  refine j_istore_n (lvf := [(1, .int x3), (0, .ref (yad Y 0)), (3, .int x3)]) C d_M_most_45 (by decide) rfl ?_
  refine j_sub [2, 1, 0, 3] rfl ?_
  exact w_M_most_b46 hY C k6 hk6 x3 v1 x3 μ hf
theorem w_M_most_l6 {X : Ctx} {Y : Lay} (hY : IsM Y) (C : Cx X Y b_M_most 4 (some .int) "TopYardModel" 9) {N : Nat} {r : Int32 × Mem} : ∀ (n : Nat) (x1 : Int32) (x2 : Int32) (x3 : Int32) (μ : Mem), f_M_most_l6 N n x1 x2 x3 μ = some r → J X Y (some (.int r.1)) r.2 4 6 [(0, .ref (yad Y 0)), (1, .int x1), (2, .int x2), (3, .int x3)] [] μ := by
  intro n
  induction n with
  | zero => intro x1 x2 x3 μ hf; rw [f_M_most_l6] at hf; cases hf
  | succ n ih =>
    intro x1 x2 x3 μ hf
    rw [f_M_most_l6] at hf
    refine j_iload_n C d_M_most_6 3 rfl ?_
    refine j_aload_n C d_M_most_7 0 rfl ?_
    refine j_gI C fl_M_175 (kM hY rfl) (nM hY (by decide)) rfl d_M_most_8 ?_
    refine j_icmp_ge C d_M_most_11 hf (fun hf => ?_) (fun hf => ?_)
    · refine j_iload_n C d_M_most_52 1 rfl ?_
      obtain rfl := Option.some.inj hf
      exact j_iret C d_M_most_53
    · refine j_aload_n C d_M_most_14 0 rfl ?_
      refine j_iload_n C d_M_most_15 3 rfl ?_
      refine bd hf (fun μ1 hc4 hf => ?_)
      refine j_cV (rest := []) C lk_M_378 (c_M_findWorn hY hc4) rfl (kM hY rfl) (nM hY (by decide)) (by decide) rfl rfl (by decide) rfl (Nat.le_of_ble_eq_true rfl) d_M_most_16 ?_
      refine j_aload_n C d_M_most_19 0 rfl ?_
      refine j_gI C fl_M_372 (kM hY rfl) (nM hY (by decide)) rfl d_M_most_20 ?_
      refine j_if_le C d_M_most_23 hf (fun hf => ?_) (fun hf => ?_)
      · refine j_sub [0, 1, 2, 3] rfl ?_
        exact w_M_most_b46 hY C (f_M_most_l6 N n) ih x1 x2 x3 μ1 hf
      · refine j_iload_n C d_M_most_26 1 rfl ?_
        refine j_iconst (v := (-1)) C d_M_most_27 (by decide) ?_
        refine j_icmp_eq C d_M_most_28 hf (fun hf => ?_) (fun hf => ?_)
        · refine j_sub [0, 3] rfl ?_
          exact w_M_most_b39 hY C (f_M_most_l6 N n) ih x3 μ1 hf
        · refine j_aload_n C d_M_most_31 0 rfl ?_
          refine bd hf (fun v2 hc3 hf => ?_)
          refine j_cV (rest := []) C lk_M_382 (c_M_doubt hY hc3) rfl (kM hY rfl) (nM hY (by decide)) (by decide) rfl rfl (by decide) rfl (Nat.le_of_ble_eq_true rfl) d_M_most_32 ?_
          refine j_iload_n C d_M_most_35 2 rfl ?_
          refine j_icmp_ge C d_M_most_36 hf (fun hf => ?_) (fun hf => ?_)
          · refine j_sub [0, 1, 2, 3] rfl ?_
            exact w_M_most_b46 hY C (f_M_most_l6 N n) ih x1 x2 x3 μ1 hf
          · refine j_sub [0, 3] rfl ?_
            exact w_M_most_b39 hY C (f_M_most_l6 N n) ih x3 μ1 hf
theorem c_M_most {l : Launch} {Y : Lay} (hY : IsM Y) {N : Nat} {μ : Mem} {r : Int32 × Mem} (hf : f_M_most N μ = some r) : Ct l Y y_M_most b_M_most 4 (some .int) 9 [.ref (yad Y 0)] (some (.int r.1)) μ r.2 := by
  refine ct_of (own := "TopYardModel") (lv := [(0, .ref (yad Y 0))]) (by decide +kernel) rfl (Nat.le_of_ble_eq_true rfl) rfl (fun X hl C => ?_)
  subst hl
  unfold f_M_most at hf
  refine j_iconst (v := (-1)) C d_M_most_0 (by decide) ?_
  refine j_istore_n (lvf := [(0, .ref (yad Y 0))]) C d_M_most_1 (by decide) rfl ?_
  refine j_iconst (v := 0) C d_M_most_2 (by decide) ?_
  refine j_istore_n (lvf := [(1, .int (-1)), (0, .ref (yad Y 0))]) C d_M_most_3 (by decide) rfl ?_
  refine j_iconst (v := 0) C d_M_most_4 (by decide) ?_
  refine j_istore_n (lvf := [(2, .int 0), (1, .int (-1)), (0, .ref (yad Y 0))]) C d_M_most_5 (by decide) rfl ?_
  refine j_sub [3, 2, 1, 0] rfl ?_
  exact w_M_most_l6 hY C N (-1) 0 0 μ hf
theorem d_M_explained_0 : DC b_M_explained 0 (.aload_n 0) 1 1 := ⟨by decide +kernel, rfl⟩
theorem d_M_explained_1 : DC b_M_explained 1 (.iload_n 1) 1 2 := ⟨by decide +kernel, rfl⟩
theorem d_M_explained_2 : DC b_M_explained 2 (.invokevirtual 190) 3 5 := ⟨by decide +kernel, rfl⟩
theorem d_M_explained_5 : DB b_M_explained 5 (.ifCond .eq 13) 13 18 8 := ⟨by decide +kernel, by decide, rfl⟩
theorem d_M_explained_8 : DC b_M_explained 8 (.iload_n 2) 1 9 := ⟨by decide +kernel, rfl⟩
theorem d_M_explained_9 : DC b_M_explained 9 (.i2l) 1 10 := ⟨by decide +kernel, rfl⟩
theorem d_M_explained_10 : DC b_M_explained 10 (.lconst 0) 1 11 := ⟨by decide +kernel, rfl⟩
theorem d_M_explained_11 : DC b_M_explained 11 (.lconst 1) 1 12 := ⟨by decide +kernel, rfl⟩
theorem d_M_explained_12 : DC b_M_explained 12 (.invokestatic 164) 3 15 := ⟨by decide +kernel, rfl⟩
theorem d_M_explained_15 : DB b_M_explained 15 (.ifCond .ne 6) 6 21 18 := ⟨by decide +kernel, by decide, rfl⟩
theorem d_M_explained_18 : DC b_M_explained 18 (.bipush (-2)) 2 20 := ⟨by decide +kernel, rfl⟩
theorem d_M_explained_20 : decode b_M_explained 20 = .ok (.ireturn, 1) := by decide +kernel
theorem d_M_explained_21 : DC b_M_explained 21 (.aload_n 0) 1 22 := ⟨by decide +kernel, rfl⟩
theorem d_M_explained_22 : DC b_M_explained 22 (.getfield 28) 3 25 := ⟨by decide +kernel, rfl⟩
theorem d_M_explained_25 : DC b_M_explained 25 (.iload_n 1) 1 26 := ⟨by decide +kernel, rfl⟩
theorem d_M_explained_26 : DC b_M_explained 26 (.iaload) 1 27 := ⟨by decide +kernel, rfl⟩
theorem d_M_explained_27 : DC b_M_explained 27 (.istore_n 3) 1 28 := ⟨by decide +kernel, rfl⟩
theorem d_M_explained_28 : DC b_M_explained 28 (.iconst 0) 1 29 := ⟨by decide +kernel, rfl⟩
theorem d_M_explained_29 : DC b_M_explained 29 (.istore 4) 2 31 := ⟨by decide +kernel, rfl⟩
theorem d_M_explained_31 : DC b_M_explained 31 (.iconst (-1)) 1 32 := ⟨by decide +kernel, rfl⟩
theorem d_M_explained_32 : DC b_M_explained 32 (.istore 5) 2 34 := ⟨by decide +kernel, rfl⟩
theorem d_M_explained_34 : DC b_M_explained 34 (.iconst 0) 1 35 := ⟨by decide +kernel, rfl⟩
theorem d_M_explained_35 : DC b_M_explained 35 (.istore 6) 2 37 := ⟨by decide +kernel, rfl⟩
theorem d_M_explained_37 : DC b_M_explained 37 (.iload 6) 2 39 := ⟨by decide +kernel, rfl⟩
theorem d_M_explained_39 : DC b_M_explained 39 (.bipush 10) 2 41 := ⟨by decide +kernel, rfl⟩
theorem d_M_explained_41 : DB b_M_explained 41 (.if_icmp .ge 101) 101 142 44 := ⟨by decide +kernel, by decide, rfl⟩
theorem d_M_explained_44 : DC b_M_explained 44 (.aload_n 0) 1 45 := ⟨by decide +kernel, rfl⟩
theorem d_M_explained_45 : DC b_M_explained 45 (.getfield 28) 3 48 := ⟨by decide +kernel, rfl⟩
theorem d_M_explained_48 : DC b_M_explained 48 (.iload_n 1) 1 49 := ⟨by decide +kernel, rfl⟩
theorem d_M_explained_49 : DC b_M_explained 49 (.iload 6) 2 51 := ⟨by decide +kernel, rfl⟩
theorem d_M_explained_51 : DC b_M_explained 51 (.iastore) 1 52 := ⟨by decide +kernel, rfl⟩
theorem d_M_explained_52 : DC b_M_explained 52 (.iconst 0) 1 53 := ⟨by decide +kernel, rfl⟩
theorem d_M_explained_53 : DC b_M_explained 53 (.istore 7) 2 55 := ⟨by decide +kernel, rfl⟩
theorem d_M_explained_55 : DC b_M_explained 55 (.iconst 0) 1 56 := ⟨by decide +kernel, rfl⟩
theorem d_M_explained_56 : DC b_M_explained 56 (.istore 8) 2 58 := ⟨by decide +kernel, rfl⟩
theorem d_M_explained_58 : DC b_M_explained 58 (.iload 8) 2 60 := ⟨by decide +kernel, rfl⟩
theorem d_M_explained_60 : DC b_M_explained 60 (.aload_n 0) 1 61 := ⟨by decide +kernel, rfl⟩
theorem d_M_explained_61 : DC b_M_explained 61 (.getfield 356) 3 64 := ⟨by decide +kernel, rfl⟩
theorem d_M_explained_64 : DB b_M_explained 64 (.if_icmp .ge 57) 57 121 67 := ⟨by decide +kernel, by decide, rfl⟩
theorem d_M_explained_67 : DC b_M_explained 67 (.iload 7) 2 69 := ⟨by decide +kernel, rfl⟩
theorem d_M_explained_69 : DC b_M_explained 69 (.aload_n 0) 1 70 := ⟨by decide +kernel, rfl⟩
theorem d_M_explained_70 : DC b_M_explained 70 (.iload 8) 2 72 := ⟨by decide +kernel, rfl⟩
theorem d_M_explained_72 : DC b_M_explained 72 (.iload_n 1) 1 73 := ⟨by decide +kernel, rfl⟩
theorem d_M_explained_73 : DC b_M_explained 73 (.invokevirtual 375) 3 76 := ⟨by decide +kernel, rfl⟩
theorem d_M_explained_76 : DB b_M_explained 76 (.ifCond .eq 35) 35 111 79 := ⟨by decide +kernel, by decide, rfl⟩
theorem d_M_explained_79 : DC b_M_explained 79 (.aload_n 0) 1 80 := ⟨by decide +kernel, rfl⟩
theorem d_M_explained_80 : DC b_M_explained 80 (.aload_n 0) 1 81 := ⟨by decide +kernel, rfl⟩
theorem d_M_explained_81 : DC b_M_explained 81 (.getfield 123) 3 84 := ⟨by decide +kernel, rfl⟩
theorem d_M_explained_84 : DC b_M_explained 84 (.iload 8) 2 86 := ⟨by decide +kernel, rfl⟩
theorem d_M_explained_86 : DC b_M_explained 86 (.iaload) 1 87 := ⟨by decide +kernel, rfl⟩
theorem d_M_explained_87 : DC b_M_explained 87 (.aload_n 0) 1 88 := ⟨by decide +kernel, rfl⟩
theorem d_M_explained_88 : DC b_M_explained 88 (.getfield 126) 3 91 := ⟨by decide +kernel, rfl⟩
theorem d_M_explained_91 : DC b_M_explained 91 (.iload 8) 2 93 := ⟨by decide +kernel, rfl⟩
theorem d_M_explained_93 : DC b_M_explained 93 (.iaload) 1 94 := ⟨by decide +kernel, rfl⟩
theorem d_M_explained_94 : DC b_M_explained 94 (.invokevirtual 302) 3 97 := ⟨by decide +kernel, rfl⟩
theorem d_M_explained_97 : DC b_M_explained 97 (.aload_n 0) 1 98 := ⟨by decide +kernel, rfl⟩
theorem d_M_explained_98 : DC b_M_explained 98 (.getfield 129) 3 101 := ⟨by decide +kernel, rfl⟩
theorem d_M_explained_101 : DC b_M_explained 101 (.iload 8) 2 103 := ⟨by decide +kernel, rfl⟩
theorem d_M_explained_103 : DC b_M_explained 103 (.iaload) 1 104 := ⟨by decide +kernel, rfl⟩
theorem d_M_explained_104 : DB b_M_explained 104 (.if_icmp .ne 7) 7 111 107 := ⟨by decide +kernel, by decide, rfl⟩
theorem d_M_explained_107 : DC b_M_explained 107 (.iconst 1) 1 108 := ⟨by decide +kernel, rfl⟩
theorem d_M_explained_108 : DB b_M_explained 108 (.goto 4) 4 112 111 := ⟨by decide +kernel, by decide, rfl⟩
theorem d_M_explained_111 : DC b_M_explained 111 (.iconst 0) 1 112 := ⟨by decide +kernel, rfl⟩
theorem d_M_explained_112 : DC b_M_explained 112 (.iadd) 1 113 := ⟨by decide +kernel, rfl⟩
theorem d_M_explained_113 : DC b_M_explained 113 (.istore 7) 2 115 := ⟨by decide +kernel, rfl⟩
theorem d_M_explained_115 : DC b_M_explained 115 (.iinc 8 1) 3 118 := ⟨by decide +kernel, rfl⟩
theorem d_M_explained_118 : DB b_M_explained 118 (.goto (-60)) (-60) 58 121 := ⟨by decide +kernel, by decide, rfl⟩
theorem d_M_explained_121 : DC b_M_explained 121 (.iload 7) 2 123 := ⟨by decide +kernel, rfl⟩
theorem d_M_explained_123 : DC b_M_explained 123 (.iload 5) 2 125 := ⟨by decide +kernel, rfl⟩
theorem d_M_explained_125 : DB b_M_explained 125 (.if_icmp .le 11) 11 136 128 := ⟨by decide +kernel, by decide, rfl⟩
theorem d_M_explained_128 : DC b_M_explained 128 (.iload 7) 2 130 := ⟨by decide +kernel, rfl⟩
theorem d_M_explained_130 : DC b_M_explained 130 (.istore 5) 2 132 := ⟨by decide +kernel, rfl⟩
theorem d_M_explained_132 : DC b_M_explained 132 (.iload 6) 2 134 := ⟨by decide +kernel, rfl⟩
theorem d_M_explained_134 : DC b_M_explained 134 (.istore 4) 2 136 := ⟨by decide +kernel, rfl⟩
theorem d_M_explained_136 : DC b_M_explained 136 (.iinc 6 1) 3 139 := ⟨by decide +kernel, rfl⟩
theorem d_M_explained_139 : DB b_M_explained 139 (.goto (-102)) (-102) 37 142 := ⟨by decide +kernel, by decide, rfl⟩
theorem d_M_explained_142 : DC b_M_explained 142 (.aload_n 0) 1 143 := ⟨by decide +kernel, rfl⟩
theorem d_M_explained_143 : DC b_M_explained 143 (.getfield 28) 3 146 := ⟨by decide +kernel, rfl⟩
theorem d_M_explained_146 : DC b_M_explained 146 (.iload_n 1) 1 147 := ⟨by decide +kernel, rfl⟩
theorem d_M_explained_147 : DC b_M_explained 147 (.iload_n 3) 1 148 := ⟨by decide +kernel, rfl⟩
theorem d_M_explained_148 : DC b_M_explained 148 (.iastore) 1 149 := ⟨by decide +kernel, rfl⟩
theorem d_M_explained_149 : DC b_M_explained 149 (.iload_n 2) 1 150 := ⟨by decide +kernel, rfl⟩
theorem d_M_explained_150 : DB b_M_explained 150 (.ifCond .ne 8) 8 158 153 := ⟨by decide +kernel, by decide, rfl⟩
theorem d_M_explained_153 : DC b_M_explained 153 (.iload 4) 2 155 := ⟨by decide +kernel, rfl⟩
theorem d_M_explained_155 : DB b_M_explained 155 (.goto 5) 5 160 158 := ⟨by decide +kernel, by decide, rfl⟩
theorem d_M_explained_158 : DC b_M_explained 158 (.iload 5) 2 160 := ⟨by decide +kernel, rfl⟩
theorem d_M_explained_160 : decode b_M_explained 160 = .ok (.ireturn, 1) := by decide +kernel
theorem w_M_explained_b112 {X : Ctx} {Y : Lay} (hY : IsM Y) (C : Cx X Y b_M_explained 9 (some .int) "TopYardModel" 8) {N : Nat} {r : Int32 × Mem} (k37 : Int32 → Int32 → Int32 → Int32 → Int32 → Int32 → Mem → Option (Int32 × Mem)) (k58 : Int32 → Int32 → Int32 → Int32 → Int32 → Int32 → Int32 → Int32 → Mem → Option (Int32 × Mem)) (hk37 : ∀ (x1 : Int32) (x2 : Int32) (x3 : Int32) (x4 : Int32) (x5 : Int32) (x6 : Int32) (ν : Mem), k37 x1 x2 x3 x4 x5 x6 ν = some r → J X Y (some (.int r.1)) r.2 9 37 [(0, .ref (yad Y 0)), (1, .int x1), (2, .int x2), (3, .int x3), (4, .int x4), (5, .int x5), (6, .int x6)] [] ν) (hk58 : ∀ (x1 : Int32) (x2 : Int32) (x3 : Int32) (x4 : Int32) (x5 : Int32) (x6 : Int32) (x7 : Int32) (x8 : Int32) (ν : Mem), k58 x1 x2 x3 x4 x5 x6 x7 x8 ν = some r → J X Y (some (.int r.1)) r.2 9 58 [(0, .ref (yad Y 0)), (1, .int x1), (2, .int x2), (3, .int x3), (4, .int x4), (5, .int x5), (6, .int x6), (7, .int x7), (8, .int x8)] [] ν) (x1 : Int32) (x2 : Int32) (x3 : Int32) (x4 : Int32) (x5 : Int32) (x6 : Int32) (x8 : Int32) (xs0 : Int32) (xs1 : Int32) (μ : Mem) (hf : f_M_explained_b112 N k37 k58 x1 x2 x3 x4 x5 x6 x8 xs0 xs1 μ = some r) : J X Y (some (.int r.1)) r.2 9 112 [(0, .ref (yad Y 0)), (1, .int x1), (2, .int x2), (3, .int x3), (4, .int x4), (5, .int x5), (6, .int x6), (8, .int x8)] [.int xs0, .int xs1] μ := by
  unfold f_M_explained_b112 at hf
  refine j_iadd C d_M_explained_112 ?_
  refine j_istoreN (lvf := [(0, .ref (yad Y 0)), (1, .int x1), (2, .int x2), (3, .int x3), (4, .int x4), (5, .int x5), (6, .int x6), (8, .int x8)]) C d_M_explained_113 (by decide) rfl hf (fun v1 hf => ?_)
  refine j_iinc (lvf := [(7, .int v1), (0, .ref (yad Y 0)), (1, .int x1), (2, .int x2), (3, .int x3), (4, .int x4), (5, .int x5), (6, .int x6)]) (v := 1) C d_M_explained_115 8 rfl (by decide) (by decide) rfl hf (fun v2 hf => ?_)
  refine j_goto C d_M_explained_118 ?_
  refine j_sub [2, 3, 4, 5, 6, 7, 8, 1, 0] rfl ?_
  exact hk58 x1 x2 x3 x4 x5 x6 v1 v2 μ hf
theorem w_M_explained_b111 {X : Ctx} {Y : Lay} (hY : IsM Y) (C : Cx X Y b_M_explained 9 (some .int) "TopYardModel" 8) {N : Nat} {r : Int32 × Mem} (k37 : Int32 → Int32 → Int32 → Int32 → Int32 → Int32 → Mem → Option (Int32 × Mem)) (k58 : Int32 → Int32 → Int32 → Int32 → Int32 → Int32 → Int32 → Int32 → Mem → Option (Int32 × Mem)) (hk37 : ∀ (x1 : Int32) (x2 : Int32) (x3 : Int32) (x4 : Int32) (x5 : Int32) (x6 : Int32) (ν : Mem), k37 x1 x2 x3 x4 x5 x6 ν = some r → J X Y (some (.int r.1)) r.2 9 37 [(0, .ref (yad Y 0)), (1, .int x1), (2, .int x2), (3, .int x3), (4, .int x4), (5, .int x5), (6, .int x6)] [] ν) (hk58 : ∀ (x1 : Int32) (x2 : Int32) (x3 : Int32) (x4 : Int32) (x5 : Int32) (x6 : Int32) (x7 : Int32) (x8 : Int32) (ν : Mem), k58 x1 x2 x3 x4 x5 x6 x7 x8 ν = some r → J X Y (some (.int r.1)) r.2 9 58 [(0, .ref (yad Y 0)), (1, .int x1), (2, .int x2), (3, .int x3), (4, .int x4), (5, .int x5), (6, .int x6), (7, .int x7), (8, .int x8)] [] ν) (x1 : Int32) (x2 : Int32) (x3 : Int32) (x4 : Int32) (x5 : Int32) (x6 : Int32) (x8 : Int32) (xs0 : Int32) (μ : Mem) (hf : f_M_explained_b111 N k37 k58 x1 x2 x3 x4 x5 x6 x8 xs0 μ = some r) : J X Y (some (.int r.1)) r.2 9 111 [(0, .ref (yad Y 0)), (1, .int x1), (2, .int x2), (3, .int x3), (4, .int x4), (5, .int x5), (6, .int x6), (8, .int x8)] [.int xs0] μ := by
  unfold f_M_explained_b111 at hf
  refine j_iconst (v := 0) C d_M_explained_111 (by decide) ?_
  refine j_sub [0, 1, 2, 3, 4, 5, 6, 7] rfl ?_
  exact w_M_explained_b112 hY C k37 k58 hk37 hk58 x1 x2 x3 x4 x5 x6 x8 0 xs0 μ hf
theorem w_M_explained_b136 {X : Ctx} {Y : Lay} (hY : IsM Y) (C : Cx X Y b_M_explained 9 (some .int) "TopYardModel" 8) {N : Nat} {r : Int32 × Mem} (k37 : Int32 → Int32 → Int32 → Int32 → Int32 → Int32 → Mem → Option (Int32 × Mem)) (hk37 : ∀ (x1 : Int32) (x2 : Int32) (x3 : Int32) (x4 : Int32) (x5 : Int32) (x6 : Int32) (ν : Mem), k37 x1 x2 x3 x4 x5 x6 ν = some r → J X Y (some (.int r.1)) r.2 9 37 [(0, .ref (yad Y 0)), (1, .int x1), (2, .int x2), (3, .int x3), (4, .int x4), (5, .int x5), (6, .int x6)] [] ν) (x1 : Int32) (x2 : Int32) (x3 : Int32) (x4 : Int32) (x5 : Int32) (x6 : Int32) (μ : Mem) (hf : f_M_explained_b136 N k37 x1 x2 x3 x4 x5 x6 μ = some r) : J X Y (some (.int r.1)) r.2 9 136 [(0, .ref (yad Y 0)), (1, .int x1), (2, .int x2), (3, .int x3), (4, .int x4), (5, .int x5), (6, .int x6)] [] μ := by
  unfold f_M_explained_b136 at hf
  refine j_iinc (lvf := [(0, .ref (yad Y 0)), (1, .int x1), (2, .int x2), (3, .int x3), (4, .int x4), (5, .int x5)]) (v := 1) C d_M_explained_136 6 rfl (by decide) (by decide) rfl hf (fun v1 hf => ?_)
  refine j_goto C d_M_explained_139 ?_
  refine j_sub [1, 2, 3, 4, 5, 6, 0] rfl ?_
  exact hk37 x1 x2 x3 x4 x5 v1 μ hf
theorem w_M_explained_l58 {X : Ctx} {Y : Lay} (hY : IsM Y) (C : Cx X Y b_M_explained 9 (some .int) "TopYardModel" 8) {N : Nat} {r : Int32 × Mem} (k37 : Int32 → Int32 → Int32 → Int32 → Int32 → Int32 → Mem → Option (Int32 × Mem)) (hk37 : ∀ (x1 : Int32) (x2 : Int32) (x3 : Int32) (x4 : Int32) (x5 : Int32) (x6 : Int32) (ν : Mem), k37 x1 x2 x3 x4 x5 x6 ν = some r → J X Y (some (.int r.1)) r.2 9 37 [(0, .ref (yad Y 0)), (1, .int x1), (2, .int x2), (3, .int x3), (4, .int x4), (5, .int x5), (6, .int x6)] [] ν) : ∀ (n : Nat) (x1 : Int32) (x2 : Int32) (x3 : Int32) (x4 : Int32) (x5 : Int32) (x6 : Int32) (x7 : Int32) (x8 : Int32) (μ : Mem), f_M_explained_l58 N k37 n x1 x2 x3 x4 x5 x6 x7 x8 μ = some r → J X Y (some (.int r.1)) r.2 9 58 [(0, .ref (yad Y 0)), (1, .int x1), (2, .int x2), (3, .int x3), (4, .int x4), (5, .int x5), (6, .int x6), (7, .int x7), (8, .int x8)] [] μ := by
  intro n
  induction n with
  | zero => intro x1 x2 x3 x4 x5 x6 x7 x8 μ hf; rw [f_M_explained_l58] at hf; cases hf
  | succ n ih =>
    intro x1 x2 x3 x4 x5 x6 x7 x8 μ hf
    rw [f_M_explained_l58] at hf
    refine j_iload C d_M_explained_58 8 rfl ?_
    refine j_aload_n C d_M_explained_60 0 rfl ?_
    refine j_gI C fl_M_356 (kM hY rfl) (nM hY (by decide)) rfl d_M_explained_61 ?_
    refine j_icmp_ge C d_M_explained_64 hf (fun hf => ?_) (fun hf => ?_)
    · refine j_iload C d_M_explained_121 7 rfl ?_
      refine j_iload C d_M_explained_123 5 rfl ?_
      refine j_icmp_le C d_M_explained_125 hf (fun hf => ?_) (fun hf => ?_)
      · refine j_sub [0, 1, 2, 3, 4, 5, 6] rfl ?_
        exact w_M_explained_b136 hY C k37 hk37 x1 x2 x3 x4 x5 x6 μ hf
      · refine j_iload C d_M_explained_128 7 rfl ?_
        refine j_istore (lvf := [(0, .ref (yad Y 0)), (1, .int x1), (2, .int x2), (3, .int x3), (4, .int x4), (6, .int x6), (7, .int x7), (8, .int x8)]) C d_M_explained_130 (by decide) rfl ?_
        refine j_iload C d_M_explained_132 6 rfl ?_
        refine j_istore (lvf := [(5, .int x7), (0, .ref (yad Y 0)), (1, .int x1), (2, .int x2), (3, .int x3), (6, .int x6), (7, .int x7), (8, .int x8)]) C d_M_explained_134 (by decide) rfl ?_
        refine j_sub [2, 3, 4, 5, 0, 1, 6] rfl ?_
        exact w_M_explained_b136 hY C k37 hk37 x1 x2 x3 x6 x7 x6 μ hf
    · refine j_iload C d_M_explained_67 7 rfl ?_
      refine j_aload_n C d_M_explained_69 0 rfl ?_
      refine j_iload C d_M_explained_70 8 rfl ?_
      refine j_iload_n C d_M_explained_72 1 rfl ?_
      refine bd hf (fun v1 hc8 hf => ?_)
      refine j_cV (rest := [.int x7]) C lk_M_375 (c_M_isOf hY hc8) rfl (kM hY rfl) (nM hY (by decide)) (by decide) rfl rfl (by decide) rfl (Nat.le_of_ble_eq_true rfl) d_M_explained_73 ?_
      refine j_if_eq C d_M_explained_76 hf (fun hf => ?_) (fun hf => ?_)
      · refine j_sub [0, 1, 2, 3, 4, 5, 6, 8] rfl ?_
        exact w_M_explained_b111 hY C k37 (f_M_explained_l58 N k37 n) hk37 ih x1 x2 x3 x4 x5 x6 x8 x7 μ hf
      · refine j_aload_n C d_M_explained_79 0 rfl ?_
        refine j_aload_n C d_M_explained_80 0 rfl ?_
        refine j_gS (b := 36) C fl_M_123 (kM hY rfl) (nM hY (by decide)) rfl hY.2.2.2.1 rfl (sM hY rfl) d_M_explained_81 ?_
        refine j_iload C d_M_explained_84 8 rfl ?_
        refine ck hf (fun hi2 hf => ?_)
        refine j_iald C (kM hY rfl) (nM hY (by decide)) (lM hY rfl) hi2 d_M_explained_86 ?_
        refine j_aload_n C d_M_explained_87 0 rfl ?_
        refine j_gS (b := 37) C fl_M_126 (kM hY rfl) (nM hY (by decide)) rfl hY.2.2.2.1 rfl (sM hY rfl) d_M_explained_88 ?_
        refine j_iload C d_M_explained_91 8 rfl ?_
        refine ck hf (fun hi3 hf => ?_)
        refine j_iald C (kM hY rfl) (nM hY (by decide)) (lM hY rfl) hi3 d_M_explained_93 ?_
        refine bd2 hf (fun v4 μ5 hc7 hf => ?_)
        refine j_cV (rest := [.int x7]) C lk_M_302 (c_M_expectedOf hY hc7) rfl (kM hY rfl) (nM hY (by decide)) (by decide) rfl rfl (by decide) rfl (Nat.le_of_ble_eq_true rfl) d_M_explained_94 ?_
        refine j_aload_n C d_M_explained_97 0 rfl ?_
        refine j_gS (b := 38) C fl_M_129 (kM hY rfl) (nM hY (by decide)) rfl hY.2.2.2.1 rfl (sM hY rfl) d_M_explained_98 ?_
        refine j_iload C d_M_explained_101 8 rfl ?_
        refine ck hf (fun hi6 hf => ?_)
        refine j_iald C (kM hY rfl) (nM hY (by decide)) (lM hY rfl) hi6 d_M_explained_103 ?_
        refine j_icmp_ne C d_M_explained_104 hf (fun hf => ?_) (fun hf => ?_)
        · refine j_sub [0, 1, 2, 3, 4, 5, 6, 8] rfl ?_
          exact w_M_explained_b111 hY C k37 (f_M_explained_l58 N k37 n) hk37 ih x1 x2 x3 x4 x5 x6 x8 x7 μ5 hf
        · refine j_iconst (v := 1) C d_M_explained_107 (by decide) ?_
          refine j_goto C d_M_explained_108 ?_
          refine j_sub [0, 1, 2, 3, 4, 5, 6, 8] rfl ?_
          exact w_M_explained_b112 hY C k37 (f_M_explained_l58 N k37 n) hk37 ih x1 x2 x3 x4 x5 x6 x8 1 x7 μ5 hf
theorem w_M_explained_l37 {X : Ctx} {Y : Lay} (hY : IsM Y) (C : Cx X Y b_M_explained 9 (some .int) "TopYardModel" 8) {N : Nat} {r : Int32 × Mem} : ∀ (n : Nat) (x1 : Int32) (x2 : Int32) (x3 : Int32) (x4 : Int32) (x5 : Int32) (x6 : Int32) (μ : Mem), f_M_explained_l37 N n x1 x2 x3 x4 x5 x6 μ = some r → J X Y (some (.int r.1)) r.2 9 37 [(0, .ref (yad Y 0)), (1, .int x1), (2, .int x2), (3, .int x3), (4, .int x4), (5, .int x5), (6, .int x6)] [] μ := by
  intro n
  induction n with
  | zero => intro x1 x2 x3 x4 x5 x6 μ hf; rw [f_M_explained_l37] at hf; cases hf
  | succ n ih =>
    intro x1 x2 x3 x4 x5 x6 μ hf
    rw [f_M_explained_l37] at hf
    refine j_iload C d_M_explained_37 6 rfl ?_
    refine j_bipush (v := 10) C d_M_explained_39 (by decide) ?_
    refine j_icmp_ge C d_M_explained_41 hf (fun hf => ?_) (fun hf => ?_)
    · refine j_aload_n C d_M_explained_142 0 rfl ?_
      refine j_gS (b := 7) C fl_M_28 (kM hY rfl) (nM hY (by decide)) rfl hY.2.2.2.1 rfl (sM hY rfl) d_M_explained_143 ?_
      refine j_iload_n C d_M_explained_146 1 rfl ?_
      refine j_iload_n C d_M_explained_147 3 rfl ?_
      refine ck hf (fun hi1 hf => ?_)
      refine j_iast C (kM hY rfl) (nM hY (by decide)) (lM hY rfl) hi1 d_M_explained_148 hf (fun μ2 hf => ?_)
      refine j_iload_n C d_M_explained_149 2 rfl ?_
      refine j_if_ne C d_M_explained_150 hf (fun hf => ?_) (fun hf => ?_)
      · refine j_iload C d_M_explained_158 5 rfl ?_
        obtain rfl := Option.some.inj hf
        exact j_iret C d_M_explained_160
      · refine j_iload C d_M_explained_153 4 rfl ?_
        refine j_goto C d_M_explained_155 ?_
        obtain rfl := Option.some.inj hf
        exact j_iret C d_M_explained_160
    · refine j_aload_n C d_M_explained_44 0 rfl ?_
      refine j_gS (b := 7) C fl_M_28 (kM hY rfl) (nM hY (by decide)) rfl hY.2.2.2.1 rfl (sM hY rfl) d_M_explained_45 ?_
      refine j_iload_n C d_M_explained_48 1 rfl ?_
      refine j_iload C d_M_explained_49 6 rfl ?_
      refine ck hf (fun hi3 hf => ?_)
      refine j_iast C (kM hY rfl) (nM hY (by decide)) (lM hY rfl) hi3 d_M_explained_51 hf (fun μ4 hf => ?_)
      refine j_iconst (v := 0) C d_M_explained_52 (by decide) ?_
      refine j_istore (lvf := [(0, .ref (yad Y 0)), (1, .int x1), (2, .int x2), (3, .int x3), (4, .int x4), (5, .int x5), (6, .int x6)]) C d_M_explained_53 (by decide) rfl ?_
      refine j_iconst (v := 0) C d_M_explained_55 (by decide) ?_
      refine j_istore (lvf := [(7, .int 0), (0, .ref (yad Y 0)), (1, .int x1), (2, .int x2), (3, .int x3), (4, .int x4), (5, .int x5), (6, .int x6)]) C d_M_explained_56 (by decide) rfl ?_
      refine j_sub [2, 3, 4, 5, 6, 7, 8, 1, 0] rfl ?_
      exact w_M_explained_l58 hY C (f_M_explained_l37 N n) ih N x1 x2 x3 x4 x5 x6 0 0 μ4 hf
theorem c_M_explained {l : Launch} {Y : Lay} (hY : IsM Y) {N : Nat} {μ : Mem} {x1 : Int32} {x2 : Int32} {r : Int32 × Mem} (hf : f_M_explained N μ x1 x2 = some r) : Ct l Y y_M_explained b_M_explained 9 (some .int) 8 [.ref (yad Y 0), .int x1, .int x2] (some (.int r.1)) μ r.2 := by
  refine ct_of (own := "TopYardModel") (lv := [(0, .ref (yad Y 0)), (1, .int x1), (2, .int x2)]) (by decide +kernel) rfl (Nat.le_of_ble_eq_true rfl) rfl (fun X hl C => ?_)
  subst hl
  unfold f_M_explained at hf
  refine j_aload_n C d_M_explained_0 0 rfl ?_
  refine j_iload_n C d_M_explained_1 1 rfl ?_
  refine bd hf (fun v1 hc6 hf => ?_)
  refine j_cV (rest := []) C lk_M_190 (c_M_isTop hY hc6) rfl (kM hY rfl) (nM hY (by decide)) (by decide) rfl rfl (by decide) rfl (Nat.le_of_ble_eq_true rfl) d_M_explained_2 ?_
  refine j_if_eq C d_M_explained_5 hf (fun hf => ?_) (fun hf => ?_)
  · refine j_bipush (v := (-2)) C d_M_explained_18 (by decide) ?_
    obtain rfl := Option.some.inj hf
    exact j_iret C d_M_explained_20
  · refine j_iload_n C d_M_explained_8 2 rfl ?_
    refine j_i2l C d_M_explained_9 ?_
    refine j_lconst (v := 0) C d_M_explained_10 (by decide) ?_
    refine j_lconst (v := 1) C d_M_explained_11 (by decide) ?_
    refine bd hf (fun v2 hc5 hf => ?_)
    refine j_cS (rest := []) C lk_M_164 (c_M_in hY hc5) rfl (by decide) rfl (Nat.le_of_ble_eq_true rfl) d_M_explained_12 ?_
    refine j_if_ne C d_M_explained_15 hf (fun hf => ?_) (fun hf => ?_)
    · refine j_aload_n C d_M_explained_21 0 rfl ?_
      refine j_gS (b := 7) C fl_M_28 (kM hY rfl) (nM hY (by decide)) rfl hY.2.2.2.1 rfl (sM hY rfl) d_M_explained_22 ?_
      refine j_iload_n C d_M_explained_25 1 rfl ?_
      refine ck hf (fun hi3 hf => ?_)
      refine j_iald C (kM hY rfl) (nM hY (by decide)) (lM hY rfl) hi3 d_M_explained_26 ?_
      refine j_istore_nN (lvf := [(0, .ref (yad Y 0)), (1, .int x1), (2, .int x2)]) C d_M_explained_27 (by decide) rfl hf (fun v4 hf => ?_)
      refine j_iconst (v := 0) C d_M_explained_28 (by decide) ?_
      refine j_istore (lvf := [(3, .int v4), (0, .ref (yad Y 0)), (1, .int x1), (2, .int x2)]) C d_M_explained_29 (by decide) rfl ?_
      refine j_iconst (v := (-1)) C d_M_explained_31 (by decide) ?_
      refine j_istore (lvf := [(4, .int 0), (3, .int v4), (0, .ref (yad Y 0)), (1, .int x1), (2, .int x2)]) C d_M_explained_32 (by decide) rfl ?_
      refine j_iconst (v := 0) C d_M_explained_34 (by decide) ?_
      refine j_istore (lvf := [(5, .int (-1)), (4, .int 0), (3, .int v4), (0, .ref (yad Y 0)), (1, .int x1), (2, .int x2)]) C d_M_explained_35 (by decide) rfl ?_
      refine j_sub [4, 5, 6, 3, 2, 1, 0] rfl ?_
      exact w_M_explained_l37 hY C N x1 x2 v4 0 (-1) 0 μ hf
    · refine j_bipush (v := (-2)) C d_M_explained_18 (by decide) ?_
      obtain rfl := Option.some.inj hf
      exact j_iret C d_M_explained_20
theorem d_M_type_0 : DC b_M_type 0 (.iload_n 1) 1 1 := ⟨by decide +kernel, rfl⟩
theorem d_M_type_1 : DC b_M_type 1 (.i2l) 1 2 := ⟨by decide +kernel, rfl⟩
theorem d_M_type_2 : DC b_M_type 2 (.lconst 0) 1 3 := ⟨by decide +kernel, rfl⟩
theorem d_M_type_3 : DC b_M_type 3 (.ldc2_w 385) 3 6 := ⟨by decide +kernel, rfl⟩
theorem d_M_type_6 : DC b_M_type 6 (.invokestatic 164) 3 9 := ⟨by decide +kernel, rfl⟩
theorem d_M_type_9 : DB b_M_type 9 (.ifCond .ne 6) 6 15 12 := ⟨by decide +kernel, by decide, rfl⟩
theorem d_M_type_12 : DC b_M_type 12 (.bipush (-2)) 2 14 := ⟨by decide +kernel, rfl⟩
theorem d_M_type_14 : decode b_M_type 14 = .ok (.ireturn, 1) := by decide +kernel
theorem d_M_type_15 : DC b_M_type 15 (.aload_n 0) 1 16 := ⟨by decide +kernel, rfl⟩
theorem d_M_type_16 : DC b_M_type 16 (.getfield 387) 3 19 := ⟨by decide +kernel, rfl⟩
theorem d_M_type_19 : DC b_M_type 19 (.bipush 40) 2 21 := ⟨by decide +kernel, rfl⟩
theorem d_M_type_21 : DB b_M_type 21 (.if_icmp .ne 6) 6 27 24 := ⟨by decide +kernel, by decide, rfl⟩
theorem d_M_type_24 : DC b_M_type 24 (.bipush (-4)) 2 26 := ⟨by decide +kernel, rfl⟩
theorem d_M_type_26 : decode b_M_type 26 = .ok (.ireturn, 1) := by decide +kernel
theorem d_M_type_27 : DC b_M_type 27 (.aload_n 0) 1 28 := ⟨by decide +kernel, rfl⟩
theorem d_M_type_28 : DC b_M_type 28 (.getfield 132) 3 31 := ⟨by decide +kernel, rfl⟩
theorem d_M_type_31 : DC b_M_type 31 (.aload_n 0) 1 32 := ⟨by decide +kernel, rfl⟩
theorem d_M_type_32 : DC b_M_type 32 (.getfield 387) 3 35 := ⟨by decide +kernel, rfl⟩
theorem d_M_type_35 : DC b_M_type 35 (.iload_n 1) 1 36 := ⟨by decide +kernel, rfl⟩
theorem d_M_type_36 : DC b_M_type 36 (.iastore) 1 37 := ⟨by decide +kernel, rfl⟩
theorem d_M_type_37 : DC b_M_type 37 (.aload_n 0) 1 38 := ⟨by decide +kernel, rfl⟩
theorem d_M_type_38 : DC b_M_type 38 (.dup) 1 39 := ⟨by decide +kernel, rfl⟩
theorem d_M_type_39 : DC b_M_type 39 (.getfield 387) 3 42 := ⟨by decide +kernel, rfl⟩
theorem d_M_type_42 : DC b_M_type 42 (.iconst 1) 1 43 := ⟨by decide +kernel, rfl⟩
theorem d_M_type_43 : DC b_M_type 43 (.iadd) 1 44 := ⟨by decide +kernel, rfl⟩
theorem d_M_type_44 : DC b_M_type 44 (.putfield 387) 3 47 := ⟨by decide +kernel, rfl⟩
theorem d_M_type_47 : DC b_M_type 47 (.aload_n 0) 1 48 := ⟨by decide +kernel, rfl⟩
theorem d_M_type_48 : DC b_M_type 48 (.getfield 387) 3 51 := ⟨by decide +kernel, rfl⟩
theorem d_M_type_51 : decode b_M_type 51 = .ok (.ireturn, 1) := by decide +kernel
theorem c_M_type {l : Launch} {Y : Lay} (hY : IsM Y) {μ : Mem} {x1 : Int32} {r : Int32 × Mem} (hf : f_M_type μ x1 = some r) : Ct l Y y_M_type b_M_type 2 (some .int) 2 [.ref (yad Y 0), .int x1] (some (.int r.1)) μ r.2 := by
  refine ct_of (own := "TopYardModel") (lv := [(0, .ref (yad Y 0)), (1, .int x1)]) (by decide +kernel) rfl (Nat.le_of_ble_eq_true rfl) rfl (fun X hl C => ?_)
  subst hl
  unfold f_M_type at hf
  refine j_iload_n C d_M_type_0 1 rfl ?_
  refine j_i2l C d_M_type_1 ?_
  refine j_lconst (v := 0) C d_M_type_2 (by decide) ?_
  refine j_ldc2 (v := 255) C d_M_type_3 wd_231 ?_
  refine bd hf (fun v1 hc5 hf => ?_)
  refine j_cS (rest := []) C lk_M_164 (c_M_in hY hc5) rfl (by decide) rfl (Nat.le_of_ble_eq_true rfl) d_M_type_6 ?_
  refine j_if_ne C d_M_type_9 hf (fun hf => ?_) (fun hf => ?_)
  · refine j_aload_n C d_M_type_15 0 rfl ?_
    refine j_gI C fl_M_387 (kM hY rfl) (nM hY (by decide)) rfl d_M_type_16 ?_
    refine j_bipush (v := 40) C d_M_type_19 (by decide) ?_
    refine j_icmp_ne C d_M_type_21 hf (fun hf => ?_) (fun hf => ?_)
    · refine j_aload_n C d_M_type_27 0 rfl ?_
      refine j_gS (b := 39) C fl_M_132 (kM hY rfl) (nM hY (by decide)) rfl hY.2.2.2.1 rfl (sM hY rfl) d_M_type_28 ?_
      refine j_aload_n C d_M_type_31 0 rfl ?_
      refine j_gI C fl_M_387 (kM hY rfl) (nM hY (by decide)) rfl d_M_type_32 ?_
      refine j_iload_n C d_M_type_35 1 rfl ?_
      refine ck hf (fun hi2 hf => ?_)
      refine j_iast C (kM hY rfl) (nM hY (by decide)) (lM hY rfl) hi2 d_M_type_36 hf (fun μ3 hf => ?_)
      refine j_aload_n C d_M_type_37 0 rfl ?_
      refine j_dup C d_M_type_38 rfl ?_
      refine j_gI C fl_M_387 (kM hY rfl) (nM hY (by decide)) rfl d_M_type_39 ?_
      refine j_iconst (v := 1) C d_M_type_42 (by decide) ?_
      refine j_iadd C d_M_type_43 ?_
      refine j_pI C fl_M_387 (kM hY rfl) (nM hY (by decide)) rfl rfl rfl d_M_type_44 hf (fun μ4 hf => ?_)
      refine j_aload_n C d_M_type_47 0 rfl ?_
      refine j_gI C fl_M_387 (kM hY rfl) (nM hY (by decide)) rfl d_M_type_48 ?_
      obtain rfl := Option.some.inj hf
      exact j_iret C d_M_type_51
    · refine j_bipush (v := (-4)) C d_M_type_24 (by decide) ?_
      obtain rfl := Option.some.inj hf
      exact j_iret C d_M_type_26
  · refine j_bipush (v := (-2)) C d_M_type_12 (by decide) ?_
    obtain rfl := Option.some.inj hf
    exact j_iret C d_M_type_14
theorem d_M_wipe_0 : DC b_M_wipe 0 (.aload_n 0) 1 1 := ⟨by decide +kernel, rfl⟩
theorem d_M_wipe_1 : DC b_M_wipe 1 (.getfield 387) 3 4 := ⟨by decide +kernel, rfl⟩
theorem d_M_wipe_4 : DC b_M_wipe 4 (.istore_n 1) 1 5 := ⟨by decide +kernel, rfl⟩
theorem d_M_wipe_5 : DC b_M_wipe 5 (.aload_n 0) 1 6 := ⟨by decide +kernel, rfl⟩
theorem d_M_wipe_6 : DC b_M_wipe 6 (.iconst 0) 1 7 := ⟨by decide +kernel, rfl⟩
theorem d_M_wipe_7 : DC b_M_wipe 7 (.putfield 387) 3 10 := ⟨by decide +kernel, rfl⟩
theorem d_M_wipe_10 : DC b_M_wipe 10 (.iload_n 1) 1 11 := ⟨by decide +kernel, rfl⟩
theorem d_M_wipe_11 : decode b_M_wipe 11 = .ok (.ireturn, 1) := by decide +kernel
theorem c_M_wipe {l : Launch} {Y : Lay} (hY : IsM Y) {μ : Mem} {r : Int32 × Mem} (hf : f_M_wipe μ = some r) : Ct l Y y_M_wipe b_M_wipe 2 (some .int) 1 [.ref (yad Y 0)] (some (.int r.1)) μ r.2 := by
  refine ct_of (own := "TopYardModel") (lv := [(0, .ref (yad Y 0))]) (by decide +kernel) rfl (Nat.le_of_ble_eq_true rfl) rfl (fun X hl C => ?_)
  subst hl
  unfold f_M_wipe at hf
  refine j_aload_n C d_M_wipe_0 0 rfl ?_
  refine j_gI C fl_M_387 (kM hY rfl) (nM hY (by decide)) rfl d_M_wipe_1 ?_
  refine j_istore_nN (lvf := [(0, .ref (yad Y 0))]) C d_M_wipe_4 (by decide) rfl hf (fun v1 hf => ?_)
  refine j_aload_n C d_M_wipe_5 1 rfl ?_
  refine j_iconst (v := 0) C d_M_wipe_6 (by decide) ?_
  refine j_pI C fl_M_387 (kM hY rfl) (nM hY (by decide)) rfl rfl rfl d_M_wipe_7 hf (fun μ2 hf => ?_)
  refine j_iload_n C d_M_wipe_10 0 rfl ?_
  obtain rfl := Option.some.inj hf
  exact j_iret C d_M_wipe_11
theorem d_M_ruleOf_0 : DC b_M_ruleOf 0 (.iload_n 0) 1 1 := ⟨by decide +kernel, rfl⟩
theorem d_M_ruleOf_1 : decode b_M_ruleOf 1 = .ok (.lookupswitch 61 #[(98, 53), (107, 59), (114, 55), (116, 57), (119, 51)], 51) := by decide +kernel
theorem d_M_ruleOf_52 : DC b_M_ruleOf 52 (.iconst 0) 1 53 := ⟨by decide +kernel, rfl⟩
theorem d_M_ruleOf_53 : decode b_M_ruleOf 53 = .ok (.ireturn, 1) := by decide +kernel
theorem d_M_ruleOf_54 : DC b_M_ruleOf 54 (.iconst 1) 1 55 := ⟨by decide +kernel, rfl⟩
theorem d_M_ruleOf_55 : decode b_M_ruleOf 55 = .ok (.ireturn, 1) := by decide +kernel
theorem d_M_ruleOf_56 : DC b_M_ruleOf 56 (.iconst 2) 1 57 := ⟨by decide +kernel, rfl⟩
theorem d_M_ruleOf_57 : decode b_M_ruleOf 57 = .ok (.ireturn, 1) := by decide +kernel
theorem d_M_ruleOf_58 : DC b_M_ruleOf 58 (.iconst 3) 1 59 := ⟨by decide +kernel, rfl⟩
theorem d_M_ruleOf_59 : decode b_M_ruleOf 59 = .ok (.ireturn, 1) := by decide +kernel
theorem d_M_ruleOf_60 : DC b_M_ruleOf 60 (.iconst 4) 1 61 := ⟨by decide +kernel, rfl⟩
theorem d_M_ruleOf_61 : decode b_M_ruleOf 61 = .ok (.ireturn, 1) := by decide +kernel
theorem d_M_ruleOf_62 : DC b_M_ruleOf 62 (.iconst (-1)) 1 63 := ⟨by decide +kernel, rfl⟩
theorem d_M_ruleOf_63 : decode b_M_ruleOf 63 = .ok (.ireturn, 1) := by decide +kernel
theorem c_M_ruleOf {l : Launch} {Y : Lay} (hY : IsM Y) {μ : Mem} {x0 : Int32} {r : Int32} (hf : f_M_ruleOf x0 = some r) : Ct l Y y_M_ruleOf b_M_ruleOf 1 (some .int) 1 [.int x0] (some (.int r)) μ μ := by
  refine ct_of (own := "TopYardModel") (lv := [(0, .int x0)]) (by decide +kernel) rfl (Nat.le_of_ble_eq_true rfl) rfl (fun X hl C => ?_)
  subst hl
  unfold f_M_ruleOf at hf
  refine j_iload_n C d_M_ruleOf_0 0 rfl ?_
  refine j_key hf (fun hx1 hf => ?_) (fun hx1 hf => ?_)
  · refine j_look (tgt' := 54) (off := 53) C d_M_ruleOf_1 (by decide) (by rw [hx1]; decide) (by decide) ?_
    refine j_iconst (v := 1) C d_M_ruleOf_54 (by decide) ?_
    obtain rfl := Option.some.inj hf
    exact j_iret C d_M_ruleOf_55
  · refine j_key hf (fun hx2 hf => ?_) (fun hx2 hf => ?_)
    · refine j_look (tgt' := 60) (off := 59) C d_M_ruleOf_1 (by decide) (by rw [hx2]; decide) (by decide) ?_
      refine j_iconst (v := 4) C d_M_ruleOf_60 (by decide) ?_
      obtain rfl := Option.some.inj hf
      exact j_iret C d_M_ruleOf_61
    · refine j_key hf (fun hx3 hf => ?_) (fun hx3 hf => ?_)
      · refine j_look (tgt' := 56) (off := 55) C d_M_ruleOf_1 (by decide) (by rw [hx3]; decide) (by decide) ?_
        refine j_iconst (v := 2) C d_M_ruleOf_56 (by decide) ?_
        obtain rfl := Option.some.inj hf
        exact j_iret C d_M_ruleOf_57
      · refine j_key hf (fun hx4 hf => ?_) (fun hx4 hf => ?_)
        · refine j_look (tgt' := 58) (off := 57) C d_M_ruleOf_1 (by decide) (by rw [hx4]; decide) (by decide) ?_
          refine j_iconst (v := 3) C d_M_ruleOf_58 (by decide) ?_
          obtain rfl := Option.some.inj hf
          exact j_iret C d_M_ruleOf_59
        · refine j_key hf (fun hx5 hf => ?_) (fun hx5 hf => ?_)
          · refine j_look (tgt' := 52) (off := 51) C d_M_ruleOf_1 (by decide) (by rw [hx5]; decide) (by decide) ?_
            refine j_iconst (v := 0) C d_M_ruleOf_52 (by decide) ?_
            obtain rfl := Option.some.inj hf
            exact j_iret C d_M_ruleOf_53
          · refine j_look (tgt' := 62) (off := 61) C d_M_ruleOf_1 (by decide) (by have qhx1 := sw_ne (z := 98) hx1 (by decide); have qhx2 := sw_ne (z := 107) hx2 (by decide); have qhx3 := sw_ne (z := 114) hx3 (by decide); have qhx4 := sw_ne (z := 116) hx4 (by decide); have qhx5 := sw_ne (z := 119) hx5 (by decide); exact look_dflt _ (by simp; omega)) (by decide) ?_
            refine j_iconst (v := (-1)) C d_M_ruleOf_62 (by decide) ?_
            obtain rfl := Option.some.inj hf
            exact j_iret C d_M_ruleOf_63
theorem d_M_isRule_0 : DC b_M_isRule 0 (.iload_n 0) 1 1 := ⟨by decide +kernel, rfl⟩
theorem d_M_isRule_1 : decode b_M_isRule 1 = .ok (.tableswitch 71 0 3 #[31, 41, 51, 61], 31) := by decide +kernel
theorem d_M_isRule_32 : DC b_M_isRule 32 (.iload_n 1) 1 33 := ⟨by decide +kernel, rfl⟩
theorem d_M_isRule_33 : DC b_M_isRule 33 (.i2l) 1 34 := ⟨by decide +kernel, rfl⟩
theorem d_M_isRule_34 : DC b_M_isRule 34 (.lconst 1) 1 35 := ⟨by decide +kernel, rfl⟩
theorem d_M_isRule_35 : DC b_M_isRule 35 (.ldc2_w 184) 3 38 := ⟨by decide +kernel, rfl⟩
theorem d_M_isRule_38 : DC b_M_isRule 38 (.invokestatic 164) 3 41 := ⟨by decide +kernel, rfl⟩
theorem d_M_isRule_41 : decode b_M_isRule 41 = .ok (.ireturn, 1) := by decide +kernel
theorem d_M_isRule_42 : DC b_M_isRule 42 (.iload_n 1) 1 43 := ⟨by decide +kernel, rfl⟩
theorem d_M_isRule_43 : DC b_M_isRule 43 (.i2l) 1 44 := ⟨by decide +kernel, rfl⟩
theorem d_M_isRule_44 : DC b_M_isRule 44 (.lconst 1) 1 45 := ⟨by decide +kernel, rfl⟩
theorem d_M_isRule_45 : DC b_M_isRule 45 (.ldc2_w 203) 3 48 := ⟨by decide +kernel, rfl⟩
theorem d_M_isRule_48 : DC b_M_isRule 48 (.invokestatic 164) 3 51 := ⟨by decide +kernel, rfl⟩
theorem d_M_isRule_51 : decode b_M_isRule 51 = .ok (.ireturn, 1) := by decide +kernel
theorem d_M_isRule_52 : DC b_M_isRule 52 (.iload_n 1) 1 53 := ⟨by decide +kernel, rfl⟩
theorem d_M_isRule_53 : DC b_M_isRule 53 (.i2l) 1 54 := ⟨by decide +kernel, rfl⟩
theorem d_M_isRule_54 : DC b_M_isRule 54 (.lconst 0) 1 55 := ⟨by decide +kernel, rfl⟩
theorem d_M_isRule_55 : DC b_M_isRule 55 (.ldc2_w 195) 3 58 := ⟨by decide +kernel, rfl⟩
theorem d_M_isRule_58 : DC b_M_isRule 58 (.invokestatic 164) 3 61 := ⟨by decide +kernel, rfl⟩
theorem d_M_isRule_61 : decode b_M_isRule 61 = .ok (.ireturn, 1) := by decide +kernel
theorem d_M_isRule_62 : DC b_M_isRule 62 (.iload_n 1) 1 63 := ⟨by decide +kernel, rfl⟩
theorem d_M_isRule_63 : DC b_M_isRule 63 (.i2l) 1 64 := ⟨by decide +kernel, rfl⟩
theorem d_M_isRule_64 : DC b_M_isRule 64 (.lconst 1) 1 65 := ⟨by decide +kernel, rfl⟩
theorem d_M_isRule_65 : DC b_M_isRule 65 (.ldc2_w 229) 3 68 := ⟨by decide +kernel, rfl⟩
theorem d_M_isRule_68 : DC b_M_isRule 68 (.invokestatic 164) 3 71 := ⟨by decide +kernel, rfl⟩
theorem d_M_isRule_71 : decode b_M_isRule 71 = .ok (.ireturn, 1) := by decide +kernel
theorem d_M_isRule_72 : DC b_M_isRule 72 (.iload_n 1) 1 73 := ⟨by decide +kernel, rfl⟩
theorem d_M_isRule_73 : DC b_M_isRule 73 (.i2l) 1 74 := ⟨by decide +kernel, rfl⟩
theorem d_M_isRule_74 : DC b_M_isRule 74 (.lconst 0) 1 75 := ⟨by decide +kernel, rfl⟩
theorem d_M_isRule_75 : DC b_M_isRule 75 (.ldc2_w 237) 3 78 := ⟨by decide +kernel, rfl⟩
theorem d_M_isRule_78 : DC b_M_isRule 78 (.invokestatic 164) 3 81 := ⟨by decide +kernel, rfl⟩
theorem d_M_isRule_81 : decode b_M_isRule 81 = .ok (.ireturn, 1) := by decide +kernel
theorem c_M_isRule {l : Launch} {Y : Lay} (hY : IsM Y) {μ : Mem} {x0 : Int32} {x1 : Int32} {r : Int32} (hf : f_M_isRule x0 x1 = some r) : Ct l Y y_M_isRule b_M_isRule 2 (some .boolean) 2 [.int x0, .int x1] (some (.int r)) μ μ := by
  refine ct_of (own := "TopYardModel") (lv := [(0, .int x0), (1, .int x1)]) (by decide +kernel) rfl (Nat.le_of_ble_eq_true rfl) rfl (fun X hl C => ?_)
  subst hl
  unfold f_M_isRule at hf
  refine j_iload_n C d_M_isRule_0 0 rfl ?_
  refine j_key hf (fun hx4 hf => ?_) (fun hx4 hf => ?_)
  · refine j_tin (tgt' := 32) (off := 31) (v := 0) C d_M_isRule_1 hx4 (by decide) (by decide) (by decide) (by decide) ?_
    refine j_iload_n C d_M_isRule_32 1 rfl ?_
    refine j_i2l C d_M_isRule_33 ?_
    refine j_lconst (v := 1) C d_M_isRule_34 (by decide) ?_
    refine j_ldc2 (v := 9) C d_M_isRule_35 wd_150 ?_
    refine bd hf (fun v1 hc3 hf => ?_)
    refine j_cS (rest := []) C lk_M_164 (c_M_in hY hc3) rfl (by decide) rfl (Nat.le_of_ble_eq_true rfl) d_M_isRule_38 ?_
    refine ck hf (fun hb2 hf => ?_)
    obtain rfl := Option.some.inj hf
    exact j_zret C hb2 d_M_isRule_41
  · refine j_key hf (fun hx8 hf => ?_) (fun hx8 hf => ?_)
    · refine j_tin (tgt' := 42) (off := 41) (v := 1) C d_M_isRule_1 hx8 (by decide) (by decide) (by decide) (by decide) ?_
      refine j_iload_n C d_M_isRule_42 1 rfl ?_
      refine j_i2l C d_M_isRule_43 ?_
      refine j_lconst (v := 1) C d_M_isRule_44 (by decide) ?_
      refine j_ldc2 (v := 20) C d_M_isRule_45 wd_164 ?_
      refine bd hf (fun v5 hc7 hf => ?_)
      refine j_cS (rest := []) C lk_M_164 (c_M_in hY hc7) rfl (by decide) rfl (Nat.le_of_ble_eq_true rfl) d_M_isRule_48 ?_
      refine ck hf (fun hb6 hf => ?_)
      obtain rfl := Option.some.inj hf
      exact j_zret C hb6 d_M_isRule_51
    · refine j_key hf (fun hx12 hf => ?_) (fun hx12 hf => ?_)
      · refine j_tin (tgt' := 52) (off := 51) (v := 2) C d_M_isRule_1 hx12 (by decide) (by decide) (by decide) (by decide) ?_
        refine j_iload_n C d_M_isRule_52 1 rfl ?_
        refine j_i2l C d_M_isRule_53 ?_
        refine j_lconst (v := 0) C d_M_isRule_54 (by decide) ?_
        refine j_ldc2 (v := 30) C d_M_isRule_55 wd_158 ?_
        refine bd hf (fun v9 hc11 hf => ?_)
        refine j_cS (rest := []) C lk_M_164 (c_M_in hY hc11) rfl (by decide) rfl (Nat.le_of_ble_eq_true rfl) d_M_isRule_58 ?_
        refine ck hf (fun hb10 hf => ?_)
        obtain rfl := Option.some.inj hf
        exact j_zret C hb10 d_M_isRule_61
      · refine j_key hf (fun hx16 hf => ?_) (fun hx16 hf => ?_)
        · refine j_tin (tgt' := 62) (off := 61) (v := 3) C d_M_isRule_1 hx16 (by decide) (by decide) (by decide) (by decide) ?_
          refine j_iload_n C d_M_isRule_62 1 rfl ?_
          refine j_i2l C d_M_isRule_63 ?_
          refine j_lconst (v := 1) C d_M_isRule_64 (by decide) ?_
          refine j_ldc2 (v := 60) C d_M_isRule_65 wd_176 ?_
          refine bd hf (fun v13 hc15 hf => ?_)
          refine j_cS (rest := []) C lk_M_164 (c_M_in hY hc15) rfl (by decide) rfl (Nat.le_of_ble_eq_true rfl) d_M_isRule_68 ?_
          refine ck hf (fun hb14 hf => ?_)
          obtain rfl := Option.some.inj hf
          exact j_zret C hb14 d_M_isRule_71
        · refine j_tout (tgt' := 72) C d_M_isRule_1 (by have qhx4 := sw_ne (z := 0) hx4 (by decide); have qhx8 := sw_ne (z := 1) hx8 (by decide); have qhx12 := sw_ne (z := 2) hx12 (by decide); have qhx16 := sw_ne (z := 3) hx16 (by decide); omega) (by decide) ?_
          refine j_iload_n C d_M_isRule_72 1 rfl ?_
          refine j_i2l C d_M_isRule_73 ?_
          refine j_lconst (v := 0) C d_M_isRule_74 (by decide) ?_
          refine j_ldc2 (v := 3) C d_M_isRule_75 wd_184 ?_
          refine bd hf (fun v17 hc19 hf => ?_)
          refine j_cS (rest := []) C lk_M_164 (c_M_in hY hc19) rfl (by decide) rfl (Nat.le_of_ble_eq_true rfl) d_M_isRule_78 ?_
          refine ck hf (fun hb18 hf => ?_)
          obtain rfl := Option.some.inj hf
          exact j_zret C hb18 d_M_isRule_81
theorem d_M_isFigure_0 : DC b_M_isFigure 0 (.iload_n 1) 1 1 := ⟨by decide +kernel, rfl⟩
theorem d_M_isFigure_1 : DC b_M_isFigure 1 (.aload_n 0) 1 2 := ⟨by decide +kernel, rfl⟩
theorem d_M_isFigure_2 : DC b_M_isFigure 2 (.getfield 387) 3 5 := ⟨by decide +kernel, rfl⟩
theorem d_M_isFigure_5 : DB b_M_isFigure 5 (.if_icmp .ge 26) 26 31 8 := ⟨by decide +kernel, by decide, rfl⟩
theorem d_M_isFigure_8 : DC b_M_isFigure 8 (.aload_n 0) 1 9 := ⟨by decide +kernel, rfl⟩
theorem d_M_isFigure_9 : DC b_M_isFigure 9 (.getfield 132) 3 12 := ⟨by decide +kernel, rfl⟩
theorem d_M_isFigure_12 : DC b_M_isFigure 12 (.iload_n 1) 1 13 := ⟨by decide +kernel, rfl⟩
theorem d_M_isFigure_13 : DC b_M_isFigure 13 (.iaload) 1 14 := ⟨by decide +kernel, rfl⟩
theorem d_M_isFigure_14 : DC b_M_isFigure 14 (.i2l) 1 15 := ⟨by decide +kernel, rfl⟩
theorem d_M_isFigure_15 : DC b_M_isFigure 15 (.ldc2_w 390) 3 18 := ⟨by decide +kernel, rfl⟩
theorem d_M_isFigure_18 : DC b_M_isFigure 18 (.ldc2_w 392) 3 21 := ⟨by decide +kernel, rfl⟩
theorem d_M_isFigure_21 : DC b_M_isFigure 21 (.invokestatic 164) 3 24 := ⟨by decide +kernel, rfl⟩
theorem d_M_isFigure_24 : DB b_M_isFigure 24 (.ifCond .eq 7) 7 31 27 := ⟨by decide +kernel, by decide, rfl⟩
theorem d_M_isFigure_27 : DC b_M_isFigure 27 (.iconst 1) 1 28 := ⟨by decide +kernel, rfl⟩
theorem d_M_isFigure_28 : DB b_M_isFigure 28 (.goto 4) 4 32 31 := ⟨by decide +kernel, by decide, rfl⟩
theorem d_M_isFigure_31 : DC b_M_isFigure 31 (.iconst 0) 1 32 := ⟨by decide +kernel, rfl⟩
theorem d_M_isFigure_32 : decode b_M_isFigure 32 = .ok (.ireturn, 1) := by decide +kernel
theorem c_M_isFigure {l : Launch} {Y : Lay} (hY : IsM Y) {μ : Mem} {x1 : Int32} {r : Int32} (hf : f_M_isFigure μ x1 = some r) : Ct l Y y_M_isFigure b_M_isFigure 2 (some .boolean) 2 [.ref (yad Y 0), .int x1] (some (.int r)) μ μ := by
  refine ct_of (own := "TopYardModel") (lv := [(0, .ref (yad Y 0)), (1, .int x1)]) (by decide +kernel) rfl (Nat.le_of_ble_eq_true rfl) rfl (fun X hl C => ?_)
  subst hl
  unfold f_M_isFigure at hf
  refine j_iload_n C d_M_isFigure_0 1 rfl ?_
  refine j_aload_n C d_M_isFigure_1 0 rfl ?_
  refine j_gI C fl_M_387 (kM hY rfl) (nM hY (by decide)) rfl d_M_isFigure_2 ?_
  refine j_icmp_ge C d_M_isFigure_5 hf (fun hf => ?_) (fun hf => ?_)
  · refine j_iconst (v := 0) C d_M_isFigure_31 (by decide) ?_
    obtain rfl := Option.some.inj hf
    exact j_zret C (Or.inl rfl) d_M_isFigure_32
  · refine j_aload_n C d_M_isFigure_8 0 rfl ?_
    refine j_gS (b := 39) C fl_M_132 (kM hY rfl) (nM hY (by decide)) rfl hY.2.2.2.1 rfl (sM hY rfl) d_M_isFigure_9 ?_
    refine j_iload_n C d_M_isFigure_12 1 rfl ?_
    refine ck hf (fun hi1 hf => ?_)
    refine j_iald C (kM hY rfl) (nM hY (by decide)) (lM hY rfl) hi1 d_M_isFigure_13 ?_
    refine j_i2l C d_M_isFigure_14 ?_
    refine j_ldc2 (v := 48) C d_M_isFigure_15 wd_234 ?_
    refine j_ldc2 (v := 57) C d_M_isFigure_18 wd_235 ?_
    refine bd hf (fun v2 hc3 hf => ?_)
    refine j_cS (rest := []) C lk_M_164 (c_M_in hY hc3) rfl (by decide) rfl (Nat.le_of_ble_eq_true rfl) d_M_isFigure_21 ?_
    refine j_if_eq C d_M_isFigure_24 hf (fun hf => ?_) (fun hf => ?_)
    · refine j_iconst (v := 0) C d_M_isFigure_31 (by decide) ?_
      obtain rfl := Option.some.inj hf
      exact j_zret C (Or.inl rfl) d_M_isFigure_32
    · refine j_iconst (v := 1) C d_M_isFigure_27 (by decide) ?_
      refine j_goto C d_M_isFigure_28 ?_
      obtain rfl := Option.some.inj hf
      exact j_zret C (Or.inr rfl) d_M_isFigure_32
theorem d_M_reads_0 : DC b_M_reads 0 (.aload_n 0) 1 1 := ⟨by decide +kernel, rfl⟩
theorem d_M_reads_1 : DC b_M_reads 1 (.getfield 135) 3 4 := ⟨by decide +kernel, rfl⟩
theorem d_M_reads_4 : DC b_M_reads 4 (.iconst 0) 1 5 := ⟨by decide +kernel, rfl⟩
theorem d_M_reads_5 : DC b_M_reads 5 (.iconst 1) 1 6 := ⟨by decide +kernel, rfl⟩
theorem d_M_reads_6 : DC b_M_reads 6 (.iastore) 1 7 := ⟨by decide +kernel, rfl⟩
theorem d_M_reads_7 : DC b_M_reads 7 (.aload_n 0) 1 8 := ⟨by decide +kernel, rfl⟩
theorem d_M_reads_8 : DC b_M_reads 8 (.getfield 135) 3 11 := ⟨by decide +kernel, rfl⟩
theorem d_M_reads_11 : DC b_M_reads 11 (.iconst 1) 1 12 := ⟨by decide +kernel, rfl⟩
theorem d_M_reads_12 : DC b_M_reads 12 (.iconst 5) 1 13 := ⟨by decide +kernel, rfl⟩
theorem d_M_reads_13 : DC b_M_reads 13 (.iastore) 1 14 := ⟨by decide +kernel, rfl⟩
theorem d_M_reads_14 : DC b_M_reads 14 (.aload_n 0) 1 15 := ⟨by decide +kernel, rfl⟩
theorem d_M_reads_15 : DC b_M_reads 15 (.getfield 135) 3 18 := ⟨by decide +kernel, rfl⟩
theorem d_M_reads_18 : DC b_M_reads 18 (.iconst 2) 1 19 := ⟨by decide +kernel, rfl⟩
theorem d_M_reads_19 : DC b_M_reads 19 (.iconst (-1)) 1 20 := ⟨by decide +kernel, rfl⟩
theorem d_M_reads_20 : DC b_M_reads 20 (.iastore) 1 21 := ⟨by decide +kernel, rfl⟩
theorem d_M_reads_21 : DC b_M_reads 21 (.aload_n 0) 1 22 := ⟨by decide +kernel, rfl⟩
theorem d_M_reads_22 : DC b_M_reads 22 (.getfield 135) 3 25 := ⟨by decide +kernel, rfl⟩
theorem d_M_reads_25 : DC b_M_reads 25 (.iconst 3) 1 26 := ⟨by decide +kernel, rfl⟩
theorem d_M_reads_26 : DC b_M_reads 26 (.bipush 30) 2 28 := ⟨by decide +kernel, rfl⟩
theorem d_M_reads_28 : DC b_M_reads 28 (.iastore) 1 29 := ⟨by decide +kernel, rfl⟩
theorem d_M_reads_29 : DC b_M_reads 29 (.aload_n 0) 1 30 := ⟨by decide +kernel, rfl⟩
theorem d_M_reads_30 : DC b_M_reads 30 (.getfield 135) 3 33 := ⟨by decide +kernel, rfl⟩
theorem d_M_reads_33 : DC b_M_reads 33 (.iconst 4) 1 34 := ⟨by decide +kernel, rfl⟩
theorem d_M_reads_34 : DC b_M_reads 34 (.iconst 0) 1 35 := ⟨by decide +kernel, rfl⟩
theorem d_M_reads_35 : DC b_M_reads 35 (.iastore) 1 36 := ⟨by decide +kernel, rfl⟩
theorem d_M_reads_36 : DC b_M_reads 36 (.aload_n 0) 1 37 := ⟨by decide +kernel, rfl⟩
theorem d_M_reads_37 : DC b_M_reads 37 (.iconst (-1)) 1 38 := ⟨by decide +kernel, rfl⟩
theorem d_M_reads_38 : DC b_M_reads 38 (.putfield 394) 3 41 := ⟨by decide +kernel, rfl⟩
theorem d_M_reads_41 : DC b_M_reads 41 (.iconst 0) 1 42 := ⟨by decide +kernel, rfl⟩
theorem d_M_reads_42 : DC b_M_reads 42 (.istore_n 1) 1 43 := ⟨by decide +kernel, rfl⟩
theorem d_M_reads_43 : DC b_M_reads 43 (.iconst 0) 1 44 := ⟨by decide +kernel, rfl⟩
theorem d_M_reads_44 : DC b_M_reads 44 (.istore_n 2) 1 45 := ⟨by decide +kernel, rfl⟩
theorem d_M_reads_45 : DC b_M_reads 45 (.iconst 1) 1 46 := ⟨by decide +kernel, rfl⟩
theorem d_M_reads_46 : DC b_M_reads 46 (.istore_n 3) 1 47 := ⟨by decide +kernel, rfl⟩
theorem d_M_reads_47 : DC b_M_reads 47 (.iload_n 3) 1 48 := ⟨by decide +kernel, rfl⟩
theorem d_M_reads_48 : DB b_M_reads 48 (.ifCond .eq 178) 178 226 51 := ⟨by decide +kernel, by decide, rfl⟩
theorem d_M_reads_51 : DC b_M_reads 51 (.iload_n 2) 1 52 := ⟨by decide +kernel, rfl⟩
theorem d_M_reads_52 : DC b_M_reads 52 (.aload_n 0) 1 53 := ⟨by decide +kernel, rfl⟩
theorem d_M_reads_53 : DC b_M_reads 53 (.getfield 387) 3 56 := ⟨by decide +kernel, rfl⟩
theorem d_M_reads_56 : DB b_M_reads 56 (.if_icmp .ge 15) 15 71 59 := ⟨by decide +kernel, by decide, rfl⟩
theorem d_M_reads_59 : DC b_M_reads 59 (.aload_n 0) 1 60 := ⟨by decide +kernel, rfl⟩
theorem d_M_reads_60 : DC b_M_reads 60 (.getfield 132) 3 63 := ⟨by decide +kernel, rfl⟩
theorem d_M_reads_63 : DC b_M_reads 63 (.iload_n 2) 1 64 := ⟨by decide +kernel, rfl⟩
theorem d_M_reads_64 : DC b_M_reads 64 (.iaload) 1 65 := ⟨by decide +kernel, rfl⟩
theorem d_M_reads_65 : DC b_M_reads 65 (.invokestatic 397) 3 68 := ⟨by decide +kernel, rfl⟩
theorem d_M_reads_68 : DB b_M_reads 68 (.goto 4) 4 72 71 := ⟨by decide +kernel, by decide, rfl⟩
theorem d_M_reads_71 : DC b_M_reads 71 (.iconst (-1)) 1 72 := ⟨by decide +kernel, rfl⟩
theorem d_M_reads_72 : DC b_M_reads 72 (.istore 4) 2 74 := ⟨by decide +kernel, rfl⟩
theorem d_M_reads_74 : DC b_M_reads 74 (.iload 4) 2 76 := ⟨by decide +kernel, rfl⟩
theorem d_M_reads_76 : DC b_M_reads 76 (.iconst (-1)) 1 77 := ⟨by decide +kernel, rfl⟩
theorem d_M_reads_77 : DB b_M_reads 77 (.if_icmp .eq 13) 13 90 80 := ⟨by decide +kernel, by decide, rfl⟩
theorem d_M_reads_80 : DC b_M_reads 80 (.iload_n 1) 1 81 := ⟨by decide +kernel, rfl⟩
theorem d_M_reads_81 : DC b_M_reads 81 (.iload 4) 2 83 := ⟨by decide +kernel, rfl⟩
theorem d_M_reads_83 : DC b_M_reads 83 (.ishr) 1 84 := ⟨by decide +kernel, rfl⟩
theorem d_M_reads_84 : DC b_M_reads 84 (.iconst 1) 1 85 := ⟨by decide +kernel, rfl⟩
theorem d_M_reads_85 : DC b_M_reads 85 (.iand) 1 86 := ⟨by decide +kernel, rfl⟩
theorem d_M_reads_86 : DC b_M_reads 86 (.iconst 1) 1 87 := ⟨by decide +kernel, rfl⟩
theorem d_M_reads_87 : DB b_M_reads 87 (.if_icmp .ne 9) 9 96 90 := ⟨by decide +kernel, by decide, rfl⟩
theorem d_M_reads_90 : DC b_M_reads 90 (.aload_n 0) 1 91 := ⟨by decide +kernel, rfl⟩
theorem d_M_reads_91 : DC b_M_reads 91 (.iload_n 2) 1 92 := ⟨by decide +kernel, rfl⟩
theorem d_M_reads_92 : DC b_M_reads 92 (.putfield 394) 3 95 := ⟨by decide +kernel, rfl⟩
theorem d_M_reads_95 : decode b_M_reads 95 = .ok (.return_, 1) := by decide +kernel
theorem d_M_reads_96 : DC b_M_reads 96 (.iload_n 1) 1 97 := ⟨by decide +kernel, rfl⟩
theorem d_M_reads_97 : DC b_M_reads 97 (.iconst 1) 1 98 := ⟨by decide +kernel, rfl⟩
theorem d_M_reads_98 : DC b_M_reads 98 (.iload 4) 2 100 := ⟨by decide +kernel, rfl⟩
theorem d_M_reads_100 : DC b_M_reads 100 (.ishl) 1 101 := ⟨by decide +kernel, rfl⟩
theorem d_M_reads_101 : DC b_M_reads 101 (.ior) 1 102 := ⟨by decide +kernel, rfl⟩
theorem d_M_reads_102 : DC b_M_reads 102 (.istore_n 1) 1 103 := ⟨by decide +kernel, rfl⟩
theorem d_M_reads_103 : DC b_M_reads 103 (.iload_n 2) 1 104 := ⟨by decide +kernel, rfl⟩
theorem d_M_reads_104 : DC b_M_reads 104 (.iconst 1) 1 105 := ⟨by decide +kernel, rfl⟩
theorem d_M_reads_105 : DC b_M_reads 105 (.iadd) 1 106 := ⟨by decide +kernel, rfl⟩
theorem d_M_reads_106 : DC b_M_reads 106 (.istore 5) 2 108 := ⟨by decide +kernel, rfl⟩
theorem d_M_reads_108 : DC b_M_reads 108 (.iload 5) 2 110 := ⟨by decide +kernel, rfl⟩
theorem d_M_reads_110 : DC b_M_reads 110 (.istore_n 2) 1 111 := ⟨by decide +kernel, rfl⟩
theorem d_M_reads_111 : DC b_M_reads 111 (.iconst 0) 1 112 := ⟨by decide +kernel, rfl⟩
theorem d_M_reads_112 : DC b_M_reads 112 (.istore 6) 2 114 := ⟨by decide +kernel, rfl⟩
theorem d_M_reads_114 : DC b_M_reads 114 (.iload_n 2) 1 115 := ⟨by decide +kernel, rfl⟩
theorem d_M_reads_115 : DC b_M_reads 115 (.iload 5) 2 117 := ⟨by decide +kernel, rfl⟩
theorem d_M_reads_117 : DC b_M_reads 117 (.iconst 2) 1 118 := ⟨by decide +kernel, rfl⟩
theorem d_M_reads_118 : DC b_M_reads 118 (.iadd) 1 119 := ⟨by decide +kernel, rfl⟩
theorem d_M_reads_119 : DB b_M_reads 119 (.if_icmp .ge 34) 34 153 122 := ⟨by decide +kernel, by decide, rfl⟩
theorem d_M_reads_122 : DC b_M_reads 122 (.aload_n 0) 1 123 := ⟨by decide +kernel, rfl⟩
theorem d_M_reads_123 : DC b_M_reads 123 (.iload_n 2) 1 124 := ⟨by decide +kernel, rfl⟩
theorem d_M_reads_124 : DC b_M_reads 124 (.invokevirtual 400) 3 127 := ⟨by decide +kernel, rfl⟩
theorem d_M_reads_127 : DB b_M_reads 127 (.ifCond .eq 26) 26 153 130 := ⟨by decide +kernel, by decide, rfl⟩
theorem d_M_reads_130 : DC b_M_reads 130 (.bipush 10) 2 132 := ⟨by decide +kernel, rfl⟩
theorem d_M_reads_132 : DC b_M_reads 132 (.iload 6) 2 134 := ⟨by decide +kernel, rfl⟩
theorem d_M_reads_134 : DC b_M_reads 134 (.imul) 1 135 := ⟨by decide +kernel, rfl⟩
theorem d_M_reads_135 : DC b_M_reads 135 (.aload_n 0) 1 136 := ⟨by decide +kernel, rfl⟩
theorem d_M_reads_136 : DC b_M_reads 136 (.getfield 132) 3 139 := ⟨by decide +kernel, rfl⟩
theorem d_M_reads_139 : DC b_M_reads 139 (.iload_n 2) 1 140 := ⟨by decide +kernel, rfl⟩
theorem d_M_reads_140 : DC b_M_reads 140 (.iaload) 1 141 := ⟨by decide +kernel, rfl⟩
theorem d_M_reads_141 : DC b_M_reads 141 (.iadd) 1 142 := ⟨by decide +kernel, rfl⟩
theorem d_M_reads_142 : DC b_M_reads 142 (.bipush 48) 2 144 := ⟨by decide +kernel, rfl⟩
theorem d_M_reads_144 : DC b_M_reads 144 (.isub) 1 145 := ⟨by decide +kernel, rfl⟩
theorem d_M_reads_145 : DC b_M_reads 145 (.istore 6) 2 147 := ⟨by decide +kernel, rfl⟩
theorem d_M_reads_147 : DC b_M_reads 147 (.iinc 2 1) 3 150 := ⟨by decide +kernel, rfl⟩
theorem d_M_reads_150 : DB b_M_reads 150 (.goto (-36)) (-36) 114 153 := ⟨by decide +kernel, by decide, rfl⟩
theorem d_M_reads_153 : DC b_M_reads 153 (.iload_n 2) 1 154 := ⟨by decide +kernel, rfl⟩
theorem d_M_reads_154 : DC b_M_reads 154 (.iload 5) 2 156 := ⟨by decide +kernel, rfl⟩
theorem d_M_reads_156 : DB b_M_reads 156 (.if_icmp .eq 13) 13 169 159 := ⟨by decide +kernel, by decide, rfl⟩
theorem d_M_reads_159 : DC b_M_reads 159 (.iload 4) 2 161 := ⟨by decide +kernel, rfl⟩
theorem d_M_reads_161 : DC b_M_reads 161 (.iload 6) 2 163 := ⟨by decide +kernel, rfl⟩
theorem d_M_reads_163 : DC b_M_reads 163 (.invokestatic 403) 3 166 := ⟨by decide +kernel, rfl⟩
theorem d_M_reads_166 : DB b_M_reads 166 (.ifCond .ne 10) 10 176 169 := ⟨by decide +kernel, by decide, rfl⟩
theorem d_M_reads_169 : DC b_M_reads 169 (.aload_n 0) 1 170 := ⟨by decide +kernel, rfl⟩
theorem d_M_reads_170 : DC b_M_reads 170 (.iload 5) 2 172 := ⟨by decide +kernel, rfl⟩
theorem d_M_reads_172 : DC b_M_reads 172 (.putfield 394) 3 175 := ⟨by decide +kernel, rfl⟩
theorem d_M_reads_175 : decode b_M_reads 175 = .ok (.return_, 1) := by decide +kernel
theorem d_M_reads_176 : DC b_M_reads 176 (.aload_n 0) 1 177 := ⟨by decide +kernel, rfl⟩
theorem d_M_reads_177 : DC b_M_reads 177 (.getfield 135) 3 180 := ⟨by decide +kernel, rfl⟩
theorem d_M_reads_180 : DC b_M_reads 180 (.iload 4) 2 182 := ⟨by decide +kernel, rfl⟩
theorem d_M_reads_182 : DC b_M_reads 182 (.iload 6) 2 184 := ⟨by decide +kernel, rfl⟩
theorem d_M_reads_184 : DC b_M_reads 184 (.iastore) 1 185 := ⟨by decide +kernel, rfl⟩
theorem d_M_reads_185 : DC b_M_reads 185 (.iload_n 2) 1 186 := ⟨by decide +kernel, rfl⟩
theorem d_M_reads_186 : DC b_M_reads 186 (.aload_n 0) 1 187 := ⟨by decide +kernel, rfl⟩
theorem d_M_reads_187 : DC b_M_reads 187 (.getfield 387) 3 190 := ⟨by decide +kernel, rfl⟩
theorem d_M_reads_190 : DB b_M_reads 190 (.if_icmp .ge 7) 7 197 193 := ⟨by decide +kernel, by decide, rfl⟩
theorem d_M_reads_193 : DC b_M_reads 193 (.iconst 1) 1 194 := ⟨by decide +kernel, rfl⟩
theorem d_M_reads_194 : DB b_M_reads 194 (.goto 4) 4 198 197 := ⟨by decide +kernel, by decide, rfl⟩
theorem d_M_reads_197 : DC b_M_reads 197 (.iconst 0) 1 198 := ⟨by decide +kernel, rfl⟩
theorem d_M_reads_198 : DC b_M_reads 198 (.istore_n 3) 1 199 := ⟨by decide +kernel, rfl⟩
theorem d_M_reads_199 : DC b_M_reads 199 (.iload_n 3) 1 200 := ⟨by decide +kernel, rfl⟩
theorem d_M_reads_200 : DB b_M_reads 200 (.ifCond .eq 20) 20 220 203 := ⟨by decide +kernel, by decide, rfl⟩
theorem d_M_reads_203 : DC b_M_reads 203 (.aload_n 0) 1 204 := ⟨by decide +kernel, rfl⟩
theorem d_M_reads_204 : DC b_M_reads 204 (.getfield 132) 3 207 := ⟨by decide +kernel, rfl⟩
theorem d_M_reads_207 : DC b_M_reads 207 (.iload_n 2) 1 208 := ⟨by decide +kernel, rfl⟩
theorem d_M_reads_208 : DC b_M_reads 208 (.iaload) 1 209 := ⟨by decide +kernel, rfl⟩
theorem d_M_reads_209 : DC b_M_reads 209 (.bipush 59) 2 211 := ⟨by decide +kernel, rfl⟩
theorem d_M_reads_211 : DB b_M_reads 211 (.if_icmp .eq 9) 9 220 214 := ⟨by decide +kernel, by decide, rfl⟩
theorem d_M_reads_214 : DC b_M_reads 214 (.aload_n 0) 1 215 := ⟨by decide +kernel, rfl⟩
theorem d_M_reads_215 : DC b_M_reads 215 (.iload_n 2) 1 216 := ⟨by decide +kernel, rfl⟩
theorem d_M_reads_216 : DC b_M_reads 216 (.putfield 394) 3 219 := ⟨by decide +kernel, rfl⟩
theorem d_M_reads_219 : decode b_M_reads 219 = .ok (.return_, 1) := by decide +kernel
theorem d_M_reads_220 : DC b_M_reads 220 (.iinc 2 1) 3 223 := ⟨by decide +kernel, rfl⟩
theorem d_M_reads_223 : DB b_M_reads 223 (.goto (-176)) (-176) 47 226 := ⟨by decide +kernel, by decide, rfl⟩
theorem d_M_reads_226 : decode b_M_reads 226 = .ok (.return_, 1) := by decide +kernel
theorem w_M_reads_b90 {X : Ctx} {Y : Lay} (hY : IsM Y) (C : Cx X Y b_M_reads 7 none "TopYardModel" 3) {N : Nat} {r : Mem} (x2 : Int32) (μ : Mem) (hf : f_M_reads_b90 N x2 μ = some r) : J X Y none r 7 90 [(0, .ref (yad Y 0)), (2, .int x2)] [] μ := by
  unfold f_M_reads_b90 at hf
  refine j_aload_n C d_M_reads_90 0 rfl ?_
  refine j_iload_n C d_M_reads_91 1 rfl ?_
  refine j_pI C fl_M_394 (kM hY rfl) (nM hY (by decide)) rfl rfl rfl d_M_reads_92 hf (fun μ1 hf => ?_)
  obtain rfl := Option.some.inj hf
  exact j_vret C d_M_reads_95
theorem w_M_reads_b169 {X : Ctx} {Y : Lay} (hY : IsM Y) (C : Cx X Y b_M_reads 7 none "TopYardModel" 3) {N : Nat} {r : Mem} (x5 : Int32) (μ : Mem) (hf : f_M_reads_b169 N x5 μ = some r) : J X Y none r 7 169 [(0, .ref (yad Y 0)), (5, .int x5)] [] μ := by
  unfold f_M_reads_b169 at hf
  refine j_aload_n C d_M_reads_169 0 rfl ?_
  refine j_iload C d_M_reads_170 1 rfl ?_
  refine j_pI C fl_M_394 (kM hY rfl) (nM hY (by decide)) rfl rfl rfl d_M_reads_172 hf (fun μ1 hf => ?_)
  obtain rfl := Option.some.inj hf
  exact j_vret C d_M_reads_175
theorem w_M_reads_b220 {X : Ctx} {Y : Lay} (hY : IsM Y) (C : Cx X Y b_M_reads 7 none "TopYardModel" 3) {N : Nat} {r : Mem} (k47 : Int32 → Int32 → Int32 → Mem → Option (Mem)) (hk47 : ∀ (x1 : Int32) (x2 : Int32) (x3 : Int32) (ν : Mem), k47 x1 x2 x3 ν = some r → J X Y none r 7 47 [(0, .ref (yad Y 0)), (1, .int x1), (2, .int x2), (3, .int x3)] [] ν) (x1 : Int32) (x2 : Int32) (x3 : Int32) (μ : Mem) (hf : f_M_reads_b220 N k47 x1 x2 x3 μ = some r) : J X Y none r 7 220 [(0, .ref (yad Y 0)), (1, .int x1), (2, .int x2), (3, .int x3)] [] μ := by
  unfold f_M_reads_b220 at hf
  refine j_iinc (lvf := [(0, .ref (yad Y 0)), (1, .int x1), (3, .int x3)]) (v := 1) C d_M_reads_220 2 rfl (by decide) (by decide) rfl hf (fun v1 hf => ?_)
  refine j_goto C d_M_reads_223 ?_
  refine j_sub [1, 2, 0, 3] rfl ?_
  exact hk47 x1 v1 x3 μ hf
theorem w_M_reads_b198 {X : Ctx} {Y : Lay} (hY : IsM Y) (C : Cx X Y b_M_reads 7 none "TopYardModel" 3) {N : Nat} {r : Mem} (k47 : Int32 → Int32 → Int32 → Mem → Option (Mem)) (hk47 : ∀ (x1 : Int32) (x2 : Int32) (x3 : Int32) (ν : Mem), k47 x1 x2 x3 ν = some r → J X Y none r 7 47 [(0, .ref (yad Y 0)), (1, .int x1), (2, .int x2), (3, .int x3)] [] ν) (x1 : Int32) (x2 : Int32) (xs0 : Int32) (μ : Mem) (hf : f_M_reads_b198 N k47 x1 x2 xs0 μ = some r) : J X Y none r 7 198 [(0, .ref (yad Y 0)), (1, .int x1), (2, .int x2)] [.int xs0] μ := by
  unfold f_M_reads_b198 at hf
  refine j_istore_n (lvf := [(0, .ref (yad Y 0)), (1, .int x1), (2, .int x2)]) C d_M_reads_198 (by decide) rfl ?_
  refine j_iload_n C d_M_reads_199 0 rfl ?_
  refine j_if_eq C d_M_reads_200 hf (fun hf => ?_) (fun hf => ?_)
  · refine j_sub [1, 2, 3, 0] rfl ?_
    exact w_M_reads_b220 hY C k47 hk47 x1 x2 xs0 μ hf
  · refine j_aload_n C d_M_reads_203 1 rfl ?_
    refine j_gS (b := 39) C fl_M_132 (kM hY rfl) (nM hY (by decide)) rfl hY.2.2.2.1 rfl (sM hY rfl) d_M_reads_204 ?_
    refine j_iload_n C d_M_reads_207 3 rfl ?_
    refine ck hf (fun hi1 hf => ?_)
    refine j_iald C (kM hY rfl) (nM hY (by decide)) (lM hY rfl) hi1 d_M_reads_208 ?_
    refine j_bipush (v := 59) C d_M_reads_209 (by decide) ?_
    refine j_icmp_eq C d_M_reads_211 hf (fun hf => ?_) (fun hf => ?_)
    · refine j_sub [1, 2, 3, 0] rfl ?_
      exact w_M_reads_b220 hY C k47 hk47 x1 x2 xs0 μ hf
    · refine j_aload_n C d_M_reads_214 1 rfl ?_
      refine j_iload_n C d_M_reads_215 3 rfl ?_
      refine j_pI C fl_M_394 (kM hY rfl) (nM hY (by decide)) rfl rfl rfl d_M_reads_216 hf (fun μ2 hf => ?_)
      obtain rfl := Option.some.inj hf
      exact j_vret C d_M_reads_219
theorem w_M_reads_b153 {X : Ctx} {Y : Lay} (hY : IsM Y) (C : Cx X Y b_M_reads 7 none "TopYardModel" 3) {N : Nat} {r : Mem} (k47 : Int32 → Int32 → Int32 → Mem → Option (Mem)) (hk47 : ∀ (x1 : Int32) (x2 : Int32) (x3 : Int32) (ν : Mem), k47 x1 x2 x3 ν = some r → J X Y none r 7 47 [(0, .ref (yad Y 0)), (1, .int x1), (2, .int x2), (3, .int x3)] [] ν) (x1 : Int32) (x2 : Int32) (x4 : Int32) (x5 : Int32) (x6 : Int32) (μ : Mem) (hf : f_M_reads_b153 N k47 x1 x2 x4 x5 x6 μ = some r) : J X Y none r 7 153 [(0, .ref (yad Y 0)), (1, .int x1), (2, .int x2), (4, .int x4), (5, .int x5), (6, .int x6)] [] μ := by
  unfold f_M_reads_b153 at hf
  refine j_iload_n C d_M_reads_153 2 rfl ?_
  refine j_iload C d_M_reads_154 4 rfl ?_
  refine j_icmp_eq C d_M_reads_156 hf (fun hf => ?_) (fun hf => ?_)
  · refine j_sub [0, 4] rfl ?_
    exact w_M_reads_b169 hY C x5 μ hf
  · refine j_iload C d_M_reads_159 3 rfl ?_
    refine j_iload C d_M_reads_161 5 rfl ?_
    refine bd hf (fun v1 hc4 hf => ?_)
    refine j_cS (rest := []) C lk_M_403 (c_M_isRule hY hc4) rfl (by decide) rfl (Nat.le_of_ble_eq_true rfl) d_M_reads_163 ?_
    refine j_if_ne C d_M_reads_166 hf (fun hf => ?_) (fun hf => ?_)
    · refine j_aload_n C d_M_reads_176 0 rfl ?_
      refine j_gS (b := 40) C fl_M_135 (kM hY rfl) (nM hY (by decide)) rfl hY.2.2.2.1 rfl (sM hY rfl) d_M_reads_177 ?_
      refine j_iload C d_M_reads_180 3 rfl ?_
      refine j_iload C d_M_reads_182 5 rfl ?_
      refine ck hf (fun hi2 hf => ?_)
      refine j_iast C (kM hY rfl) (nM hY (by decide)) (lM hY rfl) hi2 d_M_reads_184 hf (fun μ3 hf => ?_)
      refine j_iload_n C d_M_reads_185 2 rfl ?_
      refine j_aload_n C d_M_reads_186 0 rfl ?_
      refine j_gI C fl_M_387 (kM hY rfl) (nM hY (by decide)) rfl d_M_reads_187 ?_
      refine j_icmp_ge C d_M_reads_190 hf (fun hf => ?_) (fun hf => ?_)
      · refine j_iconst (v := 0) C d_M_reads_197 (by decide) ?_
        refine j_sub [0, 1, 2] rfl ?_
        exact w_M_reads_b198 hY C k47 hk47 x1 x2 0 μ3 hf
      · refine j_iconst (v := 1) C d_M_reads_193 (by decide) ?_
        refine j_goto C d_M_reads_194 ?_
        refine j_sub [0, 1, 2] rfl ?_
        exact w_M_reads_b198 hY C k47 hk47 x1 x2 1 μ3 hf
    · refine j_sub [0, 4] rfl ?_
      exact w_M_reads_b169 hY C x5 μ hf
theorem w_M_reads_l114 {X : Ctx} {Y : Lay} (hY : IsM Y) (C : Cx X Y b_M_reads 7 none "TopYardModel" 3) {N : Nat} {r : Mem} (k47 : Int32 → Int32 → Int32 → Mem → Option (Mem)) (hk47 : ∀ (x1 : Int32) (x2 : Int32) (x3 : Int32) (ν : Mem), k47 x1 x2 x3 ν = some r → J X Y none r 7 47 [(0, .ref (yad Y 0)), (1, .int x1), (2, .int x2), (3, .int x3)] [] ν) : ∀ (n : Nat) (x1 : Int32) (x2 : Int32) (x4 : Int32) (x5 : Int32) (x6 : Int32) (μ : Mem), f_M_reads_l114 N k47 n x1 x2 x4 x5 x6 μ = some r → J X Y none r 7 114 [(0, .ref (yad Y 0)), (1, .int x1), (2, .int x2), (4, .int x4), (5, .int x5), (6, .int x6)] [] μ := by
  intro n
  induction n with
  | zero => intro x1 x2 x4 x5 x6 μ hf; rw [f_M_reads_l114] at hf; cases hf
  | succ n ih =>
    intro x1 x2 x4 x5 x6 μ hf
    rw [f_M_reads_l114] at hf
    refine j_iload_n C d_M_reads_114 2 rfl ?_
    refine j_iload C d_M_reads_115 4 rfl ?_
    refine j_iconst (v := 2) C d_M_reads_117 (by decide) ?_
    refine j_iadd C d_M_reads_118 ?_
    refine j_icmp_ge C d_M_reads_119 hf (fun hf => ?_) (fun hf => ?_)
    · refine j_sub [0, 1, 2, 3, 4, 5] rfl ?_
      exact w_M_reads_b153 hY C k47 hk47 x1 x2 x4 x5 x6 μ hf
    · refine j_aload_n C d_M_reads_122 0 rfl ?_
      refine j_iload_n C d_M_reads_123 2 rfl ?_
      refine bd hf (fun v1 hc5 hf => ?_)
      refine j_cV (rest := []) C lk_M_400 (c_M_isFigure hY hc5) rfl (kM hY rfl) (nM hY (by decide)) (by decide) rfl rfl (by decide) rfl (Nat.le_of_ble_eq_true rfl) d_M_reads_124 ?_
      refine j_if_eq C d_M_reads_127 hf (fun hf => ?_) (fun hf => ?_)
      · refine j_sub [0, 1, 2, 3, 4, 5] rfl ?_
        exact w_M_reads_b153 hY C k47 hk47 x1 x2 x4 x5 x6 μ hf
      · refine j_bipush (v := 10) C d_M_reads_130 (by decide) ?_
        refine j_iload C d_M_reads_132 5 rfl ?_
        refine j_imul C d_M_reads_134 ?_
        refine j_aload_n C d_M_reads_135 0 rfl ?_
        refine j_gS (b := 39) C fl_M_132 (kM hY rfl) (nM hY (by decide)) rfl hY.2.2.2.1 rfl (sM hY rfl) d_M_reads_136 ?_
        refine j_iload_n C d_M_reads_139 2 rfl ?_
        refine ck hf (fun hi2 hf => ?_)
        refine j_iald C (kM hY rfl) (nM hY (by decide)) (lM hY rfl) hi2 d_M_reads_140 ?_
        refine j_iadd C d_M_reads_141 ?_
        refine j_bipush (v := 48) C d_M_reads_142 (by decide) ?_
        refine j_isub C d_M_reads_144 ?_
        refine j_istoreN (lvf := [(0, .ref (yad Y 0)), (1, .int x1), (2, .int x2), (4, .int x4), (5, .int x5)]) C d_M_reads_145 (by decide) rfl hf (fun v3 hf => ?_)
        refine j_iinc (lvf := [(6, .int v3), (0, .ref (yad Y 0)), (1, .int x1), (4, .int x4), (5, .int x5)]) (v := 1) C d_M_reads_147 3 rfl (by decide) (by decide) rfl hf (fun v4 hf => ?_)
        refine j_goto C d_M_reads_150 ?_
        refine j_sub [2, 3, 0, 4, 5, 1] rfl ?_
        exact ih x1 v4 x4 x5 v3 μ hf
theorem w_M_reads_b72 {X : Ctx} {Y : Lay} (hY : IsM Y) (C : Cx X Y b_M_reads 7 none "TopYardModel" 3) {N : Nat} {r : Mem} (k47 : Int32 → Int32 → Int32 → Mem → Option (Mem)) (hk47 : ∀ (x1 : Int32) (x2 : Int32) (x3 : Int32) (ν : Mem), k47 x1 x2 x3 ν = some r → J X Y none r 7 47 [(0, .ref (yad Y 0)), (1, .int x1), (2, .int x2), (3, .int x3)] [] ν) (x1 : Int32) (x2 : Int32) (xs0 : Int32) (μ : Mem) (hf : f_M_reads_b72 N k47 x1 x2 xs0 μ = some r) : J X Y none r 7 72 [(0, .ref (yad Y 0)), (1, .int x1), (2, .int x2)] [.int xs0] μ := by
  unfold f_M_reads_b72 at hf
  refine j_istore (lvf := [(0, .ref (yad Y 0)), (1, .int x1), (2, .int x2)]) C d_M_reads_72 (by decide) rfl ?_
  refine j_iload C d_M_reads_74 0 rfl ?_
  refine j_iconst (v := (-1)) C d_M_reads_76 (by decide) ?_
  refine j_icmp_eq C d_M_reads_77 hf (fun hf => ?_) (fun hf => ?_)
  · refine j_sub [1, 3] rfl ?_
    exact w_M_reads_b90 hY C x2 μ hf
  · refine j_iload_n C d_M_reads_80 2 rfl ?_
    refine j_iload C d_M_reads_81 0 rfl ?_
    refine j_ishr C d_M_reads_83 ?_
    refine j_iconst (v := 1) C d_M_reads_84 (by decide) ?_
    refine j_iand C d_M_reads_85 ?_
    refine j_iconst (v := 1) C d_M_reads_86 (by decide) ?_
    refine j_icmp_ne C d_M_reads_87 hf (fun hf => ?_) (fun hf => ?_)
    · refine j_iload_n C d_M_reads_96 2 rfl ?_
      refine j_iconst (v := 1) C d_M_reads_97 (by decide) ?_
      refine j_iload C d_M_reads_98 0 rfl ?_
      refine j_ishl C d_M_reads_100 ?_
      refine j_ior C d_M_reads_101 ?_
      refine j_istore_nN (lvf := [(4, .int xs0), (0, .ref (yad Y 0)), (2, .int x2)]) C d_M_reads_102 (by decide) rfl hf (fun v1 hf => ?_)
      refine j_iload_n C d_M_reads_103 3 rfl ?_
      refine j_iconst (v := 1) C d_M_reads_104 (by decide) ?_
      refine j_iadd C d_M_reads_105 ?_
      refine j_istoreN (lvf := [(1, .int v1), (4, .int xs0), (0, .ref (yad Y 0)), (2, .int x2)]) C d_M_reads_106 (by decide) rfl hf (fun v2 hf => ?_)
      refine j_iload C d_M_reads_108 0 rfl ?_
      refine j_istore_n (lvf := [(5, .int v2), (1, .int v1), (4, .int xs0), (0, .ref (yad Y 0))]) C d_M_reads_110 (by decide) rfl ?_
      refine j_iconst (v := 0) C d_M_reads_111 (by decide) ?_
      refine j_istore (lvf := [(2, .int v2), (5, .int v2), (1, .int v1), (4, .int xs0), (0, .ref (yad Y 0))]) C d_M_reads_112 (by decide) rfl ?_
      refine j_sub [5, 3, 1, 4, 2, 0] rfl ?_
      exact w_M_reads_l114 hY C k47 hk47 N v1 v2 xs0 v2 0 μ hf
    · refine j_sub [1, 3] rfl ?_
      exact w_M_reads_b90 hY C x2 μ hf
theorem w_M_reads_l47 {X : Ctx} {Y : Lay} (hY : IsM Y) (C : Cx X Y b_M_reads 7 none "TopYardModel" 3) {N : Nat} {r : Mem} : ∀ (n : Nat) (x1 : Int32) (x2 : Int32) (x3 : Int32) (μ : Mem), f_M_reads_l47 N n x1 x2 x3 μ = some r → J X Y none r 7 47 [(0, .ref (yad Y 0)), (1, .int x1), (2, .int x2), (3, .int x3)] [] μ := by
  intro n
  induction n with
  | zero => intro x1 x2 x3 μ hf; rw [f_M_reads_l47] at hf; cases hf
  | succ n ih =>
    intro x1 x2 x3 μ hf
    rw [f_M_reads_l47] at hf
    refine j_iload_n C d_M_reads_47 3 rfl ?_
    refine j_if_eq C d_M_reads_48 hf (fun hf => ?_) (fun hf => ?_)
    · obtain rfl := Option.some.inj hf
      exact j_vret C d_M_reads_226
    · refine j_iload_n C d_M_reads_51 2 rfl ?_
      refine j_aload_n C d_M_reads_52 0 rfl ?_
      refine j_gI C fl_M_387 (kM hY rfl) (nM hY (by decide)) rfl d_M_reads_53 ?_
      refine j_icmp_ge C d_M_reads_56 hf (fun hf => ?_) (fun hf => ?_)
      · refine j_iconst (v := (-1)) C d_M_reads_71 (by decide) ?_
        refine j_sub [0, 1, 2] rfl ?_
        exact w_M_reads_b72 hY C (f_M_reads_l47 N n) ih x1 x2 (-1) μ hf
      · refine j_aload_n C d_M_reads_59 0 rfl ?_
        refine j_gS (b := 39) C fl_M_132 (kM hY rfl) (nM hY (by decide)) rfl hY.2.2.2.1 rfl (sM hY rfl) d_M_reads_60 ?_
        refine j_iload_n C d_M_reads_63 2 rfl ?_
        refine ck hf (fun hi1 hf => ?_)
        refine j_iald C (kM hY rfl) (nM hY (by decide)) (lM hY rfl) hi1 d_M_reads_64 ?_
        refine bd hf (fun v2 hc3 hf => ?_)
        refine j_cS (rest := []) C lk_M_397 (c_M_ruleOf hY hc3) rfl (by decide) rfl (Nat.le_of_ble_eq_true rfl) d_M_reads_65 ?_
        refine j_goto C d_M_reads_68 ?_
        refine j_sub [0, 1, 2] rfl ?_
        exact w_M_reads_b72 hY C (f_M_reads_l47 N n) ih x1 x2 v2 μ hf
theorem c_M_reads {l : Launch} {Y : Lay} (hY : IsM Y) {N : Nat} {μ : Mem} {r : Mem} (hf : f_M_reads N μ = some r) : Ct l Y y_M_reads b_M_reads 7 none 3 [.ref (yad Y 0)] none μ r := by
  refine ct_of (own := "TopYardModel") (lv := [(0, .ref (yad Y 0))]) (by decide +kernel) rfl (Nat.le_of_ble_eq_true rfl) rfl (fun X hl C => ?_)
  subst hl
  unfold f_M_reads at hf
  refine j_aload_n C d_M_reads_0 0 rfl ?_
  refine j_gS (b := 40) C fl_M_135 (kM hY rfl) (nM hY (by decide)) rfl hY.2.2.2.1 rfl (sM hY rfl) d_M_reads_1 ?_
  refine j_iconst (v := 0) C d_M_reads_4 (by decide) ?_
  refine j_iconst (v := 1) C d_M_reads_5 (by decide) ?_
  refine ck hf (fun hi1 hf => ?_)
  refine j_iast C (kM hY rfl) (nM hY (by decide)) (lM hY rfl) hi1 d_M_reads_6 hf (fun μ2 hf => ?_)
  refine j_aload_n C d_M_reads_7 0 rfl ?_
  refine j_gS (b := 40) C fl_M_135 (kM hY rfl) (nM hY (by decide)) rfl hY.2.2.2.1 rfl (sM hY rfl) d_M_reads_8 ?_
  refine j_iconst (v := 1) C d_M_reads_11 (by decide) ?_
  refine j_iconst (v := 5) C d_M_reads_12 (by decide) ?_
  refine ck hf (fun hi3 hf => ?_)
  refine j_iast C (kM hY rfl) (nM hY (by decide)) (lM hY rfl) hi3 d_M_reads_13 hf (fun μ4 hf => ?_)
  refine j_aload_n C d_M_reads_14 0 rfl ?_
  refine j_gS (b := 40) C fl_M_135 (kM hY rfl) (nM hY (by decide)) rfl hY.2.2.2.1 rfl (sM hY rfl) d_M_reads_15 ?_
  refine j_iconst (v := 2) C d_M_reads_18 (by decide) ?_
  refine j_iconst (v := (-1)) C d_M_reads_19 (by decide) ?_
  refine ck hf (fun hi5 hf => ?_)
  refine j_iast C (kM hY rfl) (nM hY (by decide)) (lM hY rfl) hi5 d_M_reads_20 hf (fun μ6 hf => ?_)
  refine j_aload_n C d_M_reads_21 0 rfl ?_
  refine j_gS (b := 40) C fl_M_135 (kM hY rfl) (nM hY (by decide)) rfl hY.2.2.2.1 rfl (sM hY rfl) d_M_reads_22 ?_
  refine j_iconst (v := 3) C d_M_reads_25 (by decide) ?_
  refine j_bipush (v := 30) C d_M_reads_26 (by decide) ?_
  refine ck hf (fun hi7 hf => ?_)
  refine j_iast C (kM hY rfl) (nM hY (by decide)) (lM hY rfl) hi7 d_M_reads_28 hf (fun μ8 hf => ?_)
  refine j_aload_n C d_M_reads_29 0 rfl ?_
  refine j_gS (b := 40) C fl_M_135 (kM hY rfl) (nM hY (by decide)) rfl hY.2.2.2.1 rfl (sM hY rfl) d_M_reads_30 ?_
  refine j_iconst (v := 4) C d_M_reads_33 (by decide) ?_
  refine j_iconst (v := 0) C d_M_reads_34 (by decide) ?_
  refine ck hf (fun hi9 hf => ?_)
  refine j_iast C (kM hY rfl) (nM hY (by decide)) (lM hY rfl) hi9 d_M_reads_35 hf (fun μ10 hf => ?_)
  refine j_aload_n C d_M_reads_36 0 rfl ?_
  refine j_iconst (v := (-1)) C d_M_reads_37 (by decide) ?_
  refine j_pI C fl_M_394 (kM hY rfl) (nM hY (by decide)) rfl rfl rfl d_M_reads_38 hf (fun μ11 hf => ?_)
  refine j_iconst (v := 0) C d_M_reads_41 (by decide) ?_
  refine j_istore_n (lvf := [(0, .ref (yad Y 0))]) C d_M_reads_42 (by decide) rfl ?_
  refine j_iconst (v := 0) C d_M_reads_43 (by decide) ?_
  refine j_istore_n (lvf := [(1, .int 0), (0, .ref (yad Y 0))]) C d_M_reads_44 (by decide) rfl ?_
  refine j_iconst (v := 1) C d_M_reads_45 (by decide) ?_
  refine j_istore_n (lvf := [(2, .int 0), (1, .int 0), (0, .ref (yad Y 0))]) C d_M_reads_46 (by decide) rfl ?_
  refine j_sub [3, 2, 1, 0] rfl ?_
  exact w_M_reads_l47 hY C N 0 0 1 μ11 hf
theorem d_M_fault_0 : DC b_M_fault 0 (.aload_n 0) 1 1 := ⟨by decide +kernel, rfl⟩
theorem d_M_fault_1 : DC b_M_fault 1 (.invokevirtual 406) 3 4 := ⟨by decide +kernel, rfl⟩
theorem d_M_fault_4 : DC b_M_fault 4 (.aload_n 0) 1 5 := ⟨by decide +kernel, rfl⟩
theorem d_M_fault_5 : DC b_M_fault 5 (.getfield 394) 3 8 := ⟨by decide +kernel, rfl⟩
theorem d_M_fault_8 : decode b_M_fault 8 = .ok (.ireturn, 1) := by decide +kernel
theorem c_M_fault {l : Launch} {Y : Lay} (hY : IsM Y) {N : Nat} {μ : Mem} {r : Int32 × Mem} (hf : f_M_fault N μ = some r) : Ct l Y y_M_fault b_M_fault 1 (some .int) 4 [.ref (yad Y 0)] (some (.int r.1)) μ r.2 := by
  refine ct_of (own := "TopYardModel") (lv := [(0, .ref (yad Y 0))]) (by decide +kernel) rfl (Nat.le_of_ble_eq_true rfl) rfl (fun X hl C => ?_)
  subst hl
  unfold f_M_fault at hf
  refine j_aload_n C d_M_fault_0 0 rfl ?_
  refine bd hf (fun μ1 hc2 hf => ?_)
  refine j_cV (rest := []) C lk_M_406 (c_M_reads hY hc2) rfl (kM hY rfl) (nM hY (by decide)) (by decide) rfl rfl (by decide) rfl (Nat.le_of_ble_eq_true rfl) d_M_fault_1 ?_
  refine j_aload_n C d_M_fault_4 0 rfl ?_
  refine j_gI C fl_M_394 (kM hY rfl) (nM hY (by decide)) rfl d_M_fault_5 ?_
  obtain rfl := Option.some.inj hf
  exact j_iret C d_M_fault_8
theorem d_M_topsOf_0 : DC b_M_topsOf 0 (.iconst 0) 1 1 := ⟨by decide +kernel, rfl⟩
theorem d_M_topsOf_1 : DC b_M_topsOf 1 (.istore_n 2) 1 2 := ⟨by decide +kernel, rfl⟩
theorem d_M_topsOf_2 : DC b_M_topsOf 2 (.iconst 0) 1 3 := ⟨by decide +kernel, rfl⟩
theorem d_M_topsOf_3 : DC b_M_topsOf 3 (.istore_n 3) 1 4 := ⟨by decide +kernel, rfl⟩
theorem d_M_topsOf_4 : DC b_M_topsOf 4 (.iload_n 3) 1 5 := ⟨by decide +kernel, rfl⟩
theorem d_M_topsOf_5 : DC b_M_topsOf 5 (.aload_n 0) 1 6 := ⟨by decide +kernel, rfl⟩
theorem d_M_topsOf_6 : DC b_M_topsOf 6 (.getfield 175) 3 9 := ⟨by decide +kernel, rfl⟩
theorem d_M_topsOf_9 : DB b_M_topsOf 9 (.if_icmp .ge 27) 27 36 12 := ⟨by decide +kernel, by decide, rfl⟩
theorem d_M_topsOf_12 : DC b_M_topsOf 12 (.iload_n 2) 1 13 := ⟨by decide +kernel, rfl⟩
theorem d_M_topsOf_13 : DC b_M_topsOf 13 (.aload_n 0) 1 14 := ⟨by decide +kernel, rfl⟩
theorem d_M_topsOf_14 : DC b_M_topsOf 14 (.getfield 25) 3 17 := ⟨by decide +kernel, rfl⟩
theorem d_M_topsOf_17 : DC b_M_topsOf 17 (.iload_n 3) 1 18 := ⟨by decide +kernel, rfl⟩
theorem d_M_topsOf_18 : DC b_M_topsOf 18 (.iaload) 1 19 := ⟨by decide +kernel, rfl⟩
theorem d_M_topsOf_19 : DC b_M_topsOf 19 (.iload_n 1) 1 20 := ⟨by decide +kernel, rfl⟩
theorem d_M_topsOf_20 : DB b_M_topsOf 20 (.if_icmp .ne 7) 7 27 23 := ⟨by decide +kernel, by decide, rfl⟩
theorem d_M_topsOf_23 : DC b_M_topsOf 23 (.iconst 1) 1 24 := ⟨by decide +kernel, rfl⟩
theorem d_M_topsOf_24 : DB b_M_topsOf 24 (.goto 4) 4 28 27 := ⟨by decide +kernel, by decide, rfl⟩
theorem d_M_topsOf_27 : DC b_M_topsOf 27 (.iconst 0) 1 28 := ⟨by decide +kernel, rfl⟩
theorem d_M_topsOf_28 : DC b_M_topsOf 28 (.iadd) 1 29 := ⟨by decide +kernel, rfl⟩
theorem d_M_topsOf_29 : DC b_M_topsOf 29 (.istore_n 2) 1 30 := ⟨by decide +kernel, rfl⟩
theorem d_M_topsOf_30 : DC b_M_topsOf 30 (.iinc 3 1) 3 33 := ⟨by decide +kernel, rfl⟩
theorem d_M_topsOf_33 : DB b_M_topsOf 33 (.goto (-29)) (-29) 4 36 := ⟨by decide +kernel, by decide, rfl⟩
theorem d_M_topsOf_36 : DC b_M_topsOf 36 (.iload_n 2) 1 37 := ⟨by decide +kernel, rfl⟩
theorem d_M_topsOf_37 : decode b_M_topsOf 37 = .ok (.ireturn, 1) := by decide +kernel
theorem w_M_topsOf_b28 {X : Ctx} {Y : Lay} (hY : IsM Y) (C : Cx X Y b_M_topsOf 4 (some .int) "TopYardModel" 1) {N : Nat} {μ : Mem} {r : Int32} (k4 : Int32 → Int32 → Int32 → Option (Int32)) (hk4 : ∀ (x1 : Int32) (x2 : Int32) (x3 : Int32), k4 x1 x2 x3 = some r → J X Y (some (.int r)) μ 4 4 [(0, .ref (yad Y 0)), (1, .int x1), (2, .int x2), (3, .int x3)] [] μ) (x1 : Int32) (x3 : Int32) (xs0 : Int32) (xs1 : Int32) (hf : f_M_topsOf_b28 N μ k4 x1 x3 xs0 xs1 = some r) : J X Y (some (.int r)) μ 4 28 [(0, .ref (yad Y 0)), (1, .int x1), (3, .int x3)] [.int xs0, .int xs1] μ := by
  unfold f_M_topsOf_b28 at hf
  refine j_iadd C d_M_topsOf_28 ?_
  refine j_istore_nN (lvf := [(0, .ref (yad Y 0)), (1, .int x1), (3, .int x3)]) C d_M_topsOf_29 (by decide) rfl hf (fun v1 hf => ?_)
  refine j_iinc (lvf := [(2, .int v1), (0, .ref (yad Y 0)), (1, .int x1)]) (v := 1) C d_M_topsOf_30 3 rfl (by decide) (by decide) rfl hf (fun v2 hf => ?_)
  refine j_goto C d_M_topsOf_33 ?_
  refine j_sub [2, 3, 1, 0] rfl ?_
  exact hk4 x1 v1 v2 hf
theorem w_M_topsOf_l4 {X : Ctx} {Y : Lay} (hY : IsM Y) (C : Cx X Y b_M_topsOf 4 (some .int) "TopYardModel" 1) {N : Nat} {μ : Mem} {r : Int32} : ∀ (n : Nat) (x1 : Int32) (x2 : Int32) (x3 : Int32), f_M_topsOf_l4 N μ n x1 x2 x3 = some r → J X Y (some (.int r)) μ 4 4 [(0, .ref (yad Y 0)), (1, .int x1), (2, .int x2), (3, .int x3)] [] μ := by
  intro n
  induction n with
  | zero => intro x1 x2 x3 hf; rw [f_M_topsOf_l4] at hf; cases hf
  | succ n ih =>
    intro x1 x2 x3 hf
    rw [f_M_topsOf_l4] at hf
    refine j_iload_n C d_M_topsOf_4 3 rfl ?_
    refine j_aload_n C d_M_topsOf_5 0 rfl ?_
    refine j_gI C fl_M_175 (kM hY rfl) (nM hY (by decide)) rfl d_M_topsOf_6 ?_
    refine j_icmp_ge C d_M_topsOf_9 hf (fun hf => ?_) (fun hf => ?_)
    · refine j_iload_n C d_M_topsOf_36 2 rfl ?_
      obtain rfl := Option.some.inj hf
      exact j_iret C d_M_topsOf_37
    · refine j_iload_n C d_M_topsOf_12 2 rfl ?_
      refine j_aload_n C d_M_topsOf_13 0 rfl ?_
      refine j_gS (b := 6) C fl_M_25 (kM hY rfl) (nM hY (by decide)) rfl hY.2.2.2.1 rfl (sM hY rfl) d_M_topsOf_14 ?_
      refine j_iload_n C d_M_topsOf_17 3 rfl ?_
      refine ck hf (fun hi1 hf => ?_)
      refine j_iald C (kM hY rfl) (nM hY (by decide)) (lM hY rfl) hi1 d_M_topsOf_18 ?_
      refine j_iload_n C d_M_topsOf_19 1 rfl ?_
      refine j_icmp_ne C d_M_topsOf_20 hf (fun hf => ?_) (fun hf => ?_)
      · refine j_iconst (v := 0) C d_M_topsOf_27 (by decide) ?_
        refine j_sub [0, 1, 3] rfl ?_
        exact w_M_topsOf_b28 hY C (f_M_topsOf_l4 N μ n) ih x1 x3 0 x2 hf
      · refine j_iconst (v := 1) C d_M_topsOf_23 (by decide) ?_
        refine j_goto C d_M_topsOf_24 ?_
        refine j_sub [0, 1, 3] rfl ?_
        exact w_M_topsOf_b28 hY C (f_M_topsOf_l4 N μ n) ih x1 x3 1 x2 hf
theorem c_M_topsOf {l : Launch} {Y : Lay} (hY : IsM Y) {N : Nat} {μ : Mem} {x1 : Int32} {r : Int32} (hf : f_M_topsOf N μ x1 = some r) : Ct l Y y_M_topsOf b_M_topsOf 4 (some .int) 1 [.ref (yad Y 0), .int x1] (some (.int r)) μ μ := by
  refine ct_of (own := "TopYardModel") (lv := [(0, .ref (yad Y 0)), (1, .int x1)]) (by decide +kernel) rfl (Nat.le_of_ble_eq_true rfl) rfl (fun X hl C => ?_)
  subst hl
  unfold f_M_topsOf at hf
  refine j_iconst (v := 0) C d_M_topsOf_0 (by decide) ?_
  refine j_istore_n (lvf := [(0, .ref (yad Y 0)), (1, .int x1)]) C d_M_topsOf_1 (by decide) rfl ?_
  refine j_iconst (v := 0) C d_M_topsOf_2 (by decide) ?_
  refine j_istore_n (lvf := [(2, .int 0), (0, .ref (yad Y 0)), (1, .int x1)]) C d_M_topsOf_3 (by decide) rfl ?_
  refine j_sub [2, 3, 1, 0] rfl ?_
  exact w_M_topsOf_l4 hY C N x1 0 0 hf
theorem d_M_topOf_0 : DC b_M_topOf 0 (.iload_n 2) 1 1 := ⟨by decide +kernel, rfl⟩
theorem d_M_topOf_1 : DC b_M_topOf 1 (.istore_n 3) 1 2 := ⟨by decide +kernel, rfl⟩
theorem d_M_topOf_2 : DC b_M_topOf 2 (.iconst 0) 1 3 := ⟨by decide +kernel, rfl⟩
theorem d_M_topOf_3 : DC b_M_topOf 3 (.istore 4) 2 5 := ⟨by decide +kernel, rfl⟩
theorem d_M_topOf_5 : DC b_M_topOf 5 (.aload_n 0) 1 6 := ⟨by decide +kernel, rfl⟩
theorem d_M_topOf_6 : DC b_M_topOf 6 (.getfield 25) 3 9 := ⟨by decide +kernel, rfl⟩
theorem d_M_topOf_9 : DC b_M_topOf 9 (.iload 4) 2 11 := ⟨by decide +kernel, rfl⟩
theorem d_M_topOf_11 : DC b_M_topOf 11 (.iaload) 1 12 := ⟨by decide +kernel, rfl⟩
theorem d_M_topOf_12 : DC b_M_topOf 12 (.iload_n 1) 1 13 := ⟨by decide +kernel, rfl⟩
theorem d_M_topOf_13 : DB b_M_topOf 13 (.if_icmp .ne 7) 7 20 16 := ⟨by decide +kernel, by decide, rfl⟩
theorem d_M_topOf_16 : DC b_M_topOf 16 (.iload_n 3) 1 17 := ⟨by decide +kernel, rfl⟩
theorem d_M_topOf_17 : DB b_M_topOf 17 (.ifCond .le 28) 28 45 20 := ⟨by decide +kernel, by decide, rfl⟩
theorem d_M_topOf_20 : DC b_M_topOf 20 (.iload_n 3) 1 21 := ⟨by decide +kernel, rfl⟩
theorem d_M_topOf_21 : DC b_M_topOf 21 (.aload_n 0) 1 22 := ⟨by decide +kernel, rfl⟩
theorem d_M_topOf_22 : DC b_M_topOf 22 (.getfield 25) 3 25 := ⟨by decide +kernel, rfl⟩
theorem d_M_topOf_25 : DC b_M_topOf 25 (.iload 4) 2 27 := ⟨by decide +kernel, rfl⟩
theorem d_M_topOf_27 : DC b_M_topOf 27 (.iaload) 1 28 := ⟨by decide +kernel, rfl⟩
theorem d_M_topOf_28 : DC b_M_topOf 28 (.iload_n 1) 1 29 := ⟨by decide +kernel, rfl⟩
theorem d_M_topOf_29 : DB b_M_topOf 29 (.if_icmp .ne 7) 7 36 32 := ⟨by decide +kernel, by decide, rfl⟩
theorem d_M_topOf_32 : DC b_M_topOf 32 (.iconst 1) 1 33 := ⟨by decide +kernel, rfl⟩
theorem d_M_topOf_33 : DB b_M_topOf 33 (.goto 4) 4 37 36 := ⟨by decide +kernel, by decide, rfl⟩
theorem d_M_topOf_36 : DC b_M_topOf 36 (.iconst 0) 1 37 := ⟨by decide +kernel, rfl⟩
theorem d_M_topOf_37 : DC b_M_topOf 37 (.isub) 1 38 := ⟨by decide +kernel, rfl⟩
theorem d_M_topOf_38 : DC b_M_topOf 38 (.istore_n 3) 1 39 := ⟨by decide +kernel, rfl⟩
theorem d_M_topOf_39 : DC b_M_topOf 39 (.iinc 4 1) 3 42 := ⟨by decide +kernel, rfl⟩
theorem d_M_topOf_42 : DB b_M_topOf 42 (.goto (-37)) (-37) 5 45 := ⟨by decide +kernel, by decide, rfl⟩
theorem d_M_topOf_45 : DC b_M_topOf 45 (.iload 4) 2 47 := ⟨by decide +kernel, rfl⟩
theorem d_M_topOf_47 : decode b_M_topOf 47 = .ok (.ireturn, 1) := by decide +kernel
theorem w_M_topOf_b37 {X : Ctx} {Y : Lay} (hY : IsM Y) (C : Cx X Y b_M_topOf 5 (some .int) "TopYardModel" 1) {N : Nat} {μ : Mem} {r : Int32} (k5 : Int32 → Int32 → Int32 → Option (Int32)) (hk5 : ∀ (x1 : Int32) (x3 : Int32) (x4 : Int32), k5 x1 x3 x4 = some r → J X Y (some (.int r)) μ 5 5 [(0, .ref (yad Y 0)), (1, .int x1), (3, .int x3), (4, .int x4)] [] μ) (x1 : Int32) (x4 : Int32) (xs0 : Int32) (xs1 : Int32) (hf : f_M_topOf_b37 N μ k5 x1 x4 xs0 xs1 = some r) : J X Y (some (.int r)) μ 5 37 [(0, .ref (yad Y 0)), (1, .int x1), (4, .int x4)] [.int xs0, .int xs1] μ := by
  unfold f_M_topOf_b37 at hf
  refine j_isub C d_M_topOf_37 ?_
  refine j_istore_nN (lvf := [(0, .ref (yad Y 0)), (1, .int x1), (4, .int x4)]) C d_M_topOf_38 (by decide) rfl hf (fun v1 hf => ?_)
  refine j_iinc (lvf := [(3, .int v1), (0, .ref (yad Y 0)), (1, .int x1)]) (v := 1) C d_M_topOf_39 3 rfl (by decide) (by decide) rfl hf (fun v2 hf => ?_)
  refine j_goto C d_M_topOf_42 ?_
  refine j_sub [2, 3, 1, 0] rfl ?_
  exact hk5 x1 v1 v2 hf
theorem w_M_topOf_b20 {X : Ctx} {Y : Lay} (hY : IsM Y) (C : Cx X Y b_M_topOf 5 (some .int) "TopYardModel" 1) {N : Nat} {μ : Mem} {r : Int32} (k5 : Int32 → Int32 → Int32 → Option (Int32)) (hk5 : ∀ (x1 : Int32) (x3 : Int32) (x4 : Int32), k5 x1 x3 x4 = some r → J X Y (some (.int r)) μ 5 5 [(0, .ref (yad Y 0)), (1, .int x1), (3, .int x3), (4, .int x4)] [] μ) (x1 : Int32) (x3 : Int32) (x4 : Int32) (hf : f_M_topOf_b20 N μ k5 x1 x3 x4 = some r) : J X Y (some (.int r)) μ 5 20 [(0, .ref (yad Y 0)), (1, .int x1), (3, .int x3), (4, .int x4)] [] μ := by
  unfold f_M_topOf_b20 at hf
  refine j_iload_n C d_M_topOf_20 2 rfl ?_
  refine j_aload_n C d_M_topOf_21 0 rfl ?_
  refine j_gS (b := 6) C fl_M_25 (kM hY rfl) (nM hY (by decide)) rfl hY.2.2.2.1 rfl (sM hY rfl) d_M_topOf_22 ?_
  refine j_iload C d_M_topOf_25 3 rfl ?_
  refine ck hf (fun hi1 hf => ?_)
  refine j_iald C (kM hY rfl) (nM hY (by decide)) (lM hY rfl) hi1 d_M_topOf_27 ?_
  refine j_iload_n C d_M_topOf_28 1 rfl ?_
  refine j_icmp_ne C d_M_topOf_29 hf (fun hf => ?_) (fun hf => ?_)
  · refine j_iconst (v := 0) C d_M_topOf_36 (by decide) ?_
    refine j_sub [0, 1, 3] rfl ?_
    exact w_M_topOf_b37 hY C k5 hk5 x1 x4 0 x3 hf
  · refine j_iconst (v := 1) C d_M_topOf_32 (by decide) ?_
    refine j_goto C d_M_topOf_33 ?_
    refine j_sub [0, 1, 3] rfl ?_
    exact w_M_topOf_b37 hY C k5 hk5 x1 x4 1 x3 hf
theorem w_M_topOf_l5 {X : Ctx} {Y : Lay} (hY : IsM Y) (C : Cx X Y b_M_topOf 5 (some .int) "TopYardModel" 1) {N : Nat} {μ : Mem} {r : Int32} : ∀ (n : Nat) (x1 : Int32) (x3 : Int32) (x4 : Int32), f_M_topOf_l5 N μ n x1 x3 x4 = some r → J X Y (some (.int r)) μ 5 5 [(0, .ref (yad Y 0)), (1, .int x1), (3, .int x3), (4, .int x4)] [] μ := by
  intro n
  induction n with
  | zero => intro x1 x3 x4 hf; rw [f_M_topOf_l5] at hf; cases hf
  | succ n ih =>
    intro x1 x3 x4 hf
    rw [f_M_topOf_l5] at hf
    refine j_aload_n C d_M_topOf_5 0 rfl ?_
    refine j_gS (b := 6) C fl_M_25 (kM hY rfl) (nM hY (by decide)) rfl hY.2.2.2.1 rfl (sM hY rfl) d_M_topOf_6 ?_
    refine j_iload C d_M_topOf_9 3 rfl ?_
    refine ck hf (fun hi1 hf => ?_)
    refine j_iald C (kM hY rfl) (nM hY (by decide)) (lM hY rfl) hi1 d_M_topOf_11 ?_
    refine j_iload_n C d_M_topOf_12 1 rfl ?_
    refine j_icmp_ne C d_M_topOf_13 hf (fun hf => ?_) (fun hf => ?_)
    · refine j_sub [0, 1, 2, 3] rfl ?_
      exact w_M_topOf_b20 hY C (f_M_topOf_l5 N μ n) ih x1 x3 x4 hf
    · refine j_iload_n C d_M_topOf_16 2 rfl ?_
      refine j_if_le C d_M_topOf_17 hf (fun hf => ?_) (fun hf => ?_)
      · refine j_iload C d_M_topOf_45 3 rfl ?_
        obtain rfl := Option.some.inj hf
        exact j_iret C d_M_topOf_47
      · refine j_sub [0, 1, 2, 3] rfl ?_
        exact w_M_topOf_b20 hY C (f_M_topOf_l5 N μ n) ih x1 x3 x4 hf
theorem c_M_topOf {l : Launch} {Y : Lay} (hY : IsM Y) {N : Nat} {μ : Mem} {x1 : Int32} {x2 : Int32} {r : Int32} (hf : f_M_topOf N μ x1 x2 = some r) : Ct l Y y_M_topOf b_M_topOf 5 (some .int) 1 [.ref (yad Y 0), .int x1, .int x2] (some (.int r)) μ μ := by
  refine ct_of (own := "TopYardModel") (lv := [(0, .ref (yad Y 0)), (1, .int x1), (2, .int x2)]) (by decide +kernel) rfl (Nat.le_of_ble_eq_true rfl) rfl (fun X hl C => ?_)
  subst hl
  unfold f_M_topOf at hf
  refine j_iload_n C d_M_topOf_0 2 rfl ?_
  refine j_istore_n (lvf := [(0, .ref (yad Y 0)), (1, .int x1), (2, .int x2)]) C d_M_topOf_1 (by decide) rfl ?_
  refine j_iconst (v := 0) C d_M_topOf_2 (by decide) ?_
  refine j_istore (lvf := [(3, .int x2), (0, .ref (yad Y 0)), (1, .int x1), (2, .int x2)]) C d_M_topOf_3 (by decide) rfl ?_
  refine j_sub [2, 3, 1, 0] rfl ?_
  exact w_M_topOf_l5 hY C N x1 x2 0 hf
theorem d_M_play_0 : DC b_M_play 0 (.iload_n 1) 1 1 := ⟨by decide +kernel, rfl⟩
theorem d_M_play_1 : DC b_M_play 1 (.invokestatic 186) 3 4 := ⟨by decide +kernel, rfl⟩
theorem d_M_play_4 : DB b_M_play 4 (.ifCond .eq 15) 15 19 7 := ⟨by decide +kernel, by decide, rfl⟩
theorem d_M_play_7 : DC b_M_play 7 (.iload_n 2) 1 8 := ⟨by decide +kernel, rfl⟩
theorem d_M_play_8 : DC b_M_play 8 (.invokestatic 186) 3 11 := ⟨by decide +kernel, rfl⟩
theorem d_M_play_11 : DB b_M_play 11 (.ifCond .eq 8) 8 19 14 := ⟨by decide +kernel, by decide, rfl⟩
theorem d_M_play_14 : DC b_M_play 14 (.iload_n 1) 1 15 := ⟨by decide +kernel, rfl⟩
theorem d_M_play_15 : DC b_M_play 15 (.iload_n 2) 1 16 := ⟨by decide +kernel, rfl⟩
theorem d_M_play_16 : DB b_M_play 16 (.if_icmp .ne 6) 6 22 19 := ⟨by decide +kernel, by decide, rfl⟩
theorem d_M_play_19 : DC b_M_play 19 (.bipush (-2)) 2 21 := ⟨by decide +kernel, rfl⟩
theorem d_M_play_21 : decode b_M_play 21 = .ok (.ireturn, 1) := by decide +kernel
theorem d_M_play_22 : DC b_M_play 22 (.aload_n 0) 1 23 := ⟨by decide +kernel, rfl⟩
theorem d_M_play_23 : DC b_M_play 23 (.invokevirtual 406) 3 26 := ⟨by decide +kernel, rfl⟩
theorem d_M_play_26 : DC b_M_play 26 (.aload_n 0) 1 27 := ⟨by decide +kernel, rfl⟩
theorem d_M_play_27 : DC b_M_play 27 (.getfield 394) 3 30 := ⟨by decide +kernel, rfl⟩
theorem d_M_play_30 : DC b_M_play 30 (.iconst (-1)) 1 31 := ⟨by decide +kernel, rfl⟩
theorem d_M_play_31 : DB b_M_play 31 (.if_icmp .ne 19) 19 50 34 := ⟨by decide +kernel, by decide, rfl⟩
theorem d_M_play_34 : DC b_M_play 34 (.aload_n 0) 1 35 := ⟨by decide +kernel, rfl⟩
theorem d_M_play_35 : DC b_M_play 35 (.iload_n 1) 1 36 := ⟨by decide +kernel, rfl⟩
theorem d_M_play_36 : DC b_M_play 36 (.invokevirtual 409) 3 39 := ⟨by decide +kernel, rfl⟩
theorem d_M_play_39 : DB b_M_play 39 (.ifCond .eq 11) 11 50 42 := ⟨by decide +kernel, by decide, rfl⟩
theorem d_M_play_42 : DC b_M_play 42 (.aload_n 0) 1 43 := ⟨by decide +kernel, rfl⟩
theorem d_M_play_43 : DC b_M_play 43 (.iload_n 2) 1 44 := ⟨by decide +kernel, rfl⟩
theorem d_M_play_44 : DC b_M_play 44 (.invokevirtual 409) 3 47 := ⟨by decide +kernel, rfl⟩
theorem d_M_play_47 : DB b_M_play 47 (.ifCond .ne 6) 6 53 50 := ⟨by decide +kernel, by decide, rfl⟩
theorem d_M_play_50 : DC b_M_play 50 (.bipush (-3)) 2 52 := ⟨by decide +kernel, rfl⟩
theorem d_M_play_52 : decode b_M_play 52 = .ok (.ireturn, 1) := by decide +kernel
theorem d_M_play_53 : DC b_M_play 53 (.iconst 0) 1 54 := ⟨by decide +kernel, rfl⟩
theorem d_M_play_54 : DC b_M_play 54 (.istore_n 3) 1 55 := ⟨by decide +kernel, rfl⟩
theorem d_M_play_55 : DC b_M_play 55 (.iconst 0) 1 56 := ⟨by decide +kernel, rfl⟩
theorem d_M_play_56 : DC b_M_play 56 (.istore 4) 2 58 := ⟨by decide +kernel, rfl⟩
theorem d_M_play_58 : DC b_M_play 58 (.iconst 0) 1 59 := ⟨by decide +kernel, rfl⟩
theorem d_M_play_59 : DC b_M_play 59 (.istore 5) 2 61 := ⟨by decide +kernel, rfl⟩
theorem d_M_play_61 : DC b_M_play 61 (.iload 5) 2 63 := ⟨by decide +kernel, rfl⟩
theorem d_M_play_63 : DC b_M_play 63 (.aload_n 0) 1 64 := ⟨by decide +kernel, rfl⟩
theorem d_M_play_64 : DC b_M_play 64 (.getfield 135) 3 67 := ⟨by decide +kernel, rfl⟩
theorem d_M_play_67 : DC b_M_play 67 (.iconst 1) 1 68 := ⟨by decide +kernel, rfl⟩
theorem d_M_play_68 : DC b_M_play 68 (.iaload) 1 69 := ⟨by decide +kernel, rfl⟩
theorem d_M_play_69 : DB b_M_play 69 (.if_icmp .ge 150) 150 219 72 := ⟨by decide +kernel, by decide, rfl⟩
theorem d_M_play_72 : DC b_M_play 72 (.iload_n 3) 1 73 := ⟨by decide +kernel, rfl⟩
theorem d_M_play_73 : DC b_M_play 73 (.aload_n 0) 1 74 := ⟨by decide +kernel, rfl⟩
theorem d_M_play_74 : DC b_M_play 74 (.getfield 135) 3 77 := ⟨by decide +kernel, rfl⟩
theorem d_M_play_77 : DC b_M_play 77 (.iconst 0) 1 78 := ⟨by decide +kernel, rfl⟩
theorem d_M_play_78 : DC b_M_play 78 (.iaload) 1 79 := ⟨by decide +kernel, rfl⟩
theorem d_M_play_79 : DB b_M_play 79 (.if_icmp .ge 140) 140 219 82 := ⟨by decide +kernel, by decide, rfl⟩
theorem d_M_play_82 : DC b_M_play 82 (.iload 4) 2 84 := ⟨by decide +kernel, rfl⟩
theorem d_M_play_84 : DC b_M_play 84 (.aload_n 0) 1 85 := ⟨by decide +kernel, rfl⟩
theorem d_M_play_85 : DC b_M_play 85 (.getfield 135) 3 88 := ⟨by decide +kernel, rfl⟩
theorem d_M_play_88 : DC b_M_play 88 (.iconst 0) 1 89 := ⟨by decide +kernel, rfl⟩
theorem d_M_play_89 : DC b_M_play 89 (.iaload) 1 90 := ⟨by decide +kernel, rfl⟩
theorem d_M_play_90 : DB b_M_play 90 (.if_icmp .ge 129) 129 219 93 := ⟨by decide +kernel, by decide, rfl⟩
theorem d_M_play_93 : DC b_M_play 93 (.aload_n 0) 1 94 := ⟨by decide +kernel, rfl⟩
theorem d_M_play_94 : DC b_M_play 94 (.aload_n 0) 1 95 := ⟨by decide +kernel, rfl⟩
theorem d_M_play_95 : DC b_M_play 95 (.iload_n 1) 1 96 := ⟨by decide +kernel, rfl⟩
theorem d_M_play_96 : DC b_M_play 96 (.iload 5) 2 98 := ⟨by decide +kernel, rfl⟩
theorem d_M_play_98 : DC b_M_play 98 (.aload_n 0) 1 99 := ⟨by decide +kernel, rfl⟩
theorem d_M_play_99 : DC b_M_play 99 (.iload_n 1) 1 100 := ⟨by decide +kernel, rfl⟩
theorem d_M_play_100 : DC b_M_play 100 (.invokevirtual 409) 3 103 := ⟨by decide +kernel, rfl⟩
theorem d_M_play_103 : DC b_M_play 103 (.irem) 1 104 := ⟨by decide +kernel, rfl⟩
theorem d_M_play_104 : DC b_M_play 104 (.invokevirtual 412) 3 107 := ⟨by decide +kernel, rfl⟩
theorem d_M_play_107 : DC b_M_play 107 (.aload_n 0) 1 108 := ⟨by decide +kernel, rfl⟩
theorem d_M_play_108 : DC b_M_play 108 (.iload_n 2) 1 109 := ⟨by decide +kernel, rfl⟩
theorem d_M_play_109 : DC b_M_play 109 (.iload 5) 2 111 := ⟨by decide +kernel, rfl⟩
theorem d_M_play_111 : DC b_M_play 111 (.aload_n 0) 1 112 := ⟨by decide +kernel, rfl⟩
theorem d_M_play_112 : DC b_M_play 112 (.iload_n 2) 1 113 := ⟨by decide +kernel, rfl⟩
theorem d_M_play_113 : DC b_M_play 113 (.invokevirtual 409) 3 116 := ⟨by decide +kernel, rfl⟩
theorem d_M_play_116 : DC b_M_play 116 (.irem) 1 117 := ⟨by decide +kernel, rfl⟩
theorem d_M_play_117 : DC b_M_play 117 (.invokevirtual 412) 3 120 := ⟨by decide +kernel, rfl⟩
theorem d_M_play_120 : DC b_M_play 120 (.aload_n 0) 1 121 := ⟨by decide +kernel, rfl⟩
theorem d_M_play_121 : DC b_M_play 121 (.getfield 135) 3 124 := ⟨by decide +kernel, rfl⟩
theorem d_M_play_124 : DC b_M_play 124 (.iconst 3) 1 125 := ⟨by decide +kernel, rfl⟩
theorem d_M_play_125 : DC b_M_play 125 (.iaload) 1 126 := ⟨by decide +kernel, rfl⟩
theorem d_M_play_126 : DC b_M_play 126 (.aload_n 0) 1 127 := ⟨by decide +kernel, rfl⟩
theorem d_M_play_127 : DC b_M_play 127 (.getfield 135) 3 130 := ⟨by decide +kernel, rfl⟩
theorem d_M_play_130 : DC b_M_play 130 (.iconst 2) 1 131 := ⟨by decide +kernel, rfl⟩
theorem d_M_play_131 : DC b_M_play 131 (.iaload) 1 132 := ⟨by decide +kernel, rfl⟩
theorem d_M_play_132 : DC b_M_play 132 (.invokevirtual 298) 3 135 := ⟨by decide +kernel, rfl⟩
theorem d_M_play_135 : DC b_M_play 135 (.istore 6) 2 137 := ⟨by decide +kernel, rfl⟩
theorem d_M_play_137 : DC b_M_play 137 (.iload_n 3) 1 138 := ⟨by decide +kernel, rfl⟩
theorem d_M_play_138 : DC b_M_play 138 (.iload 6) 2 140 := ⟨by decide +kernel, rfl⟩
theorem d_M_play_140 : DC b_M_play 140 (.iconst 1) 1 141 := ⟨by decide +kernel, rfl⟩
theorem d_M_play_141 : DB b_M_play 141 (.if_icmp .ne 7) 7 148 144 := ⟨by decide +kernel, by decide, rfl⟩
theorem d_M_play_144 : DC b_M_play 144 (.iconst 1) 1 145 := ⟨by decide +kernel, rfl⟩
theorem d_M_play_145 : DB b_M_play 145 (.goto 4) 4 149 148 := ⟨by decide +kernel, by decide, rfl⟩
theorem d_M_play_148 : DC b_M_play 148 (.iconst 0) 1 149 := ⟨by decide +kernel, rfl⟩
theorem d_M_play_149 : DC b_M_play 149 (.iadd) 1 150 := ⟨by decide +kernel, rfl⟩
theorem d_M_play_150 : DC b_M_play 150 (.istore_n 3) 1 151 := ⟨by decide +kernel, rfl⟩
theorem d_M_play_151 : DC b_M_play 151 (.iload 4) 2 153 := ⟨by decide +kernel, rfl⟩
theorem d_M_play_153 : DC b_M_play 153 (.iload 6) 2 155 := ⟨by decide +kernel, rfl⟩
theorem d_M_play_155 : DC b_M_play 155 (.iconst (-1)) 1 156 := ⟨by decide +kernel, rfl⟩
theorem d_M_play_156 : DB b_M_play 156 (.if_icmp .ne 7) 7 163 159 := ⟨by decide +kernel, by decide, rfl⟩
theorem d_M_play_159 : DC b_M_play 159 (.iconst 1) 1 160 := ⟨by decide +kernel, rfl⟩
theorem d_M_play_160 : DB b_M_play 160 (.goto 4) 4 164 163 := ⟨by decide +kernel, by decide, rfl⟩
theorem d_M_play_163 : DC b_M_play 163 (.iconst 0) 1 164 := ⟨by decide +kernel, rfl⟩
theorem d_M_play_164 : DC b_M_play 164 (.iadd) 1 165 := ⟨by decide +kernel, rfl⟩
theorem d_M_play_165 : DC b_M_play 165 (.istore 4) 2 167 := ⟨by decide +kernel, rfl⟩
theorem d_M_play_167 : DC b_M_play 167 (.iinc 5 1) 3 170 := ⟨by decide +kernel, rfl⟩
theorem d_M_play_170 : DC b_M_play 170 (.aload_n 0) 1 171 := ⟨by decide +kernel, rfl⟩
theorem d_M_play_171 : DC b_M_play 171 (.getfield 31) 3 174 := ⟨by decide +kernel, rfl⟩
theorem d_M_play_174 : DC b_M_play 174 (.iload_n 1) 1 175 := ⟨by decide +kernel, rfl⟩
theorem d_M_play_175 : DC b_M_play 175 (.dup2) 1 176 := ⟨by decide +kernel, rfl⟩
theorem d_M_play_176 : DC b_M_play 176 (.iaload) 1 177 := ⟨by decide +kernel, rfl⟩
theorem d_M_play_177 : DC b_M_play 177 (.aload_n 0) 1 178 := ⟨by decide +kernel, rfl⟩
theorem d_M_play_178 : DC b_M_play 178 (.getfield 31) 3 181 := ⟨by decide +kernel, rfl⟩
theorem d_M_play_181 : DC b_M_play 181 (.iload_n 1) 1 182 := ⟨by decide +kernel, rfl⟩
theorem d_M_play_182 : DC b_M_play 182 (.iaload) 1 183 := ⟨by decide +kernel, rfl⟩
theorem d_M_play_183 : DB b_M_play 183 (.ifCond .le 7) 7 190 186 := ⟨by decide +kernel, by decide, rfl⟩
theorem d_M_play_186 : DC b_M_play 186 (.iconst 1) 1 187 := ⟨by decide +kernel, rfl⟩
theorem d_M_play_187 : DB b_M_play 187 (.goto 4) 4 191 190 := ⟨by decide +kernel, by decide, rfl⟩
theorem d_M_play_190 : DC b_M_play 190 (.iconst 0) 1 191 := ⟨by decide +kernel, rfl⟩
theorem d_M_play_191 : DC b_M_play 191 (.isub) 1 192 := ⟨by decide +kernel, rfl⟩
theorem d_M_play_192 : DC b_M_play 192 (.iastore) 1 193 := ⟨by decide +kernel, rfl⟩
theorem d_M_play_193 : DC b_M_play 193 (.aload_n 0) 1 194 := ⟨by decide +kernel, rfl⟩
theorem d_M_play_194 : DC b_M_play 194 (.getfield 31) 3 197 := ⟨by decide +kernel, rfl⟩
theorem d_M_play_197 : DC b_M_play 197 (.iload_n 2) 1 198 := ⟨by decide +kernel, rfl⟩
theorem d_M_play_198 : DC b_M_play 198 (.dup2) 1 199 := ⟨by decide +kernel, rfl⟩
theorem d_M_play_199 : DC b_M_play 199 (.iaload) 1 200 := ⟨by decide +kernel, rfl⟩
theorem d_M_play_200 : DC b_M_play 200 (.aload_n 0) 1 201 := ⟨by decide +kernel, rfl⟩
theorem d_M_play_201 : DC b_M_play 201 (.getfield 31) 3 204 := ⟨by decide +kernel, rfl⟩
theorem d_M_play_204 : DC b_M_play 204 (.iload_n 2) 1 205 := ⟨by decide +kernel, rfl⟩
theorem d_M_play_205 : DC b_M_play 205 (.iaload) 1 206 := ⟨by decide +kernel, rfl⟩
theorem d_M_play_206 : DB b_M_play 206 (.ifCond .le 7) 7 213 209 := ⟨by decide +kernel, by decide, rfl⟩
theorem d_M_play_209 : DC b_M_play 209 (.iconst 1) 1 210 := ⟨by decide +kernel, rfl⟩
theorem d_M_play_210 : DB b_M_play 210 (.goto 4) 4 214 213 := ⟨by decide +kernel, by decide, rfl⟩
theorem d_M_play_213 : DC b_M_play 213 (.iconst 0) 1 214 := ⟨by decide +kernel, rfl⟩
theorem d_M_play_214 : DC b_M_play 214 (.isub) 1 215 := ⟨by decide +kernel, rfl⟩
theorem d_M_play_215 : DC b_M_play 215 (.iastore) 1 216 := ⟨by decide +kernel, rfl⟩
theorem d_M_play_216 : DB b_M_play 216 (.goto (-155)) (-155) 61 219 := ⟨by decide +kernel, by decide, rfl⟩
theorem d_M_play_219 : DC b_M_play 219 (.iload_n 3) 1 220 := ⟨by decide +kernel, rfl⟩
theorem d_M_play_220 : DC b_M_play 220 (.iload 4) 2 222 := ⟨by decide +kernel, rfl⟩
theorem d_M_play_222 : DB b_M_play 222 (.if_icmp .le 7) 7 229 225 := ⟨by decide +kernel, by decide, rfl⟩
theorem d_M_play_225 : DC b_M_play 225 (.iload_n 1) 1 226 := ⟨by decide +kernel, rfl⟩
theorem d_M_play_226 : DB b_M_play 226 (.goto 14) 14 240 229 := ⟨by decide +kernel, by decide, rfl⟩
theorem d_M_play_229 : DC b_M_play 229 (.iload 4) 2 231 := ⟨by decide +kernel, rfl⟩
theorem d_M_play_231 : DC b_M_play 231 (.iload_n 3) 1 232 := ⟨by decide +kernel, rfl⟩
theorem d_M_play_232 : DB b_M_play 232 (.if_icmp .le 7) 7 239 235 := ⟨by decide +kernel, by decide, rfl⟩
theorem d_M_play_235 : DC b_M_play 235 (.iload_n 2) 1 236 := ⟨by decide +kernel, rfl⟩
theorem d_M_play_236 : DB b_M_play 236 (.goto 4) 4 240 239 := ⟨by decide +kernel, by decide, rfl⟩
theorem d_M_play_239 : DC b_M_play 239 (.iconst (-1)) 1 240 := ⟨by decide +kernel, rfl⟩
theorem d_M_play_240 : DC b_M_play 240 (.istore 6) 2 242 := ⟨by decide +kernel, rfl⟩
theorem d_M_play_242 : DC b_M_play 242 (.iconst 0) 1 243 := ⟨by decide +kernel, rfl⟩
theorem d_M_play_243 : DC b_M_play 243 (.istore 7) 2 245 := ⟨by decide +kernel, rfl⟩
theorem d_M_play_245 : DC b_M_play 245 (.iload 6) 2 247 := ⟨by decide +kernel, rfl⟩
theorem d_M_play_247 : DC b_M_play 247 (.iconst (-1)) 1 248 := ⟨by decide +kernel, rfl⟩
theorem d_M_play_248 : DB b_M_play 248 (.if_icmp .eq 62) 62 310 251 := ⟨by decide +kernel, by decide, rfl⟩
theorem d_M_play_251 : DC b_M_play 251 (.iload 6) 2 253 := ⟨by decide +kernel, rfl⟩
theorem d_M_play_253 : DC b_M_play 253 (.iload_n 1) 1 254 := ⟨by decide +kernel, rfl⟩
theorem d_M_play_254 : DB b_M_play 254 (.if_icmp .ne 7) 7 261 257 := ⟨by decide +kernel, by decide, rfl⟩
theorem d_M_play_257 : DC b_M_play 257 (.iload_n 2) 1 258 := ⟨by decide +kernel, rfl⟩
theorem d_M_play_258 : DB b_M_play 258 (.goto 4) 4 262 261 := ⟨by decide +kernel, by decide, rfl⟩
theorem d_M_play_261 : DC b_M_play 261 (.iload_n 1) 1 262 := ⟨by decide +kernel, rfl⟩
theorem d_M_play_262 : DC b_M_play 262 (.istore 8) 2 264 := ⟨by decide +kernel, rfl⟩
theorem d_M_play_264 : DC b_M_play 264 (.aload_n 0) 1 265 := ⟨by decide +kernel, rfl⟩
theorem d_M_play_265 : DC b_M_play 265 (.iload 8) 2 267 := ⟨by decide +kernel, rfl⟩
theorem d_M_play_267 : DC b_M_play 267 (.invokevirtual 409) 3 270 := ⟨by decide +kernel, rfl⟩
theorem d_M_play_270 : DC b_M_play 270 (.istore 9) 2 272 := ⟨by decide +kernel, rfl⟩
theorem d_M_play_272 : DC b_M_play 272 (.iload 7) 2 274 := ⟨by decide +kernel, rfl⟩
theorem d_M_play_274 : DC b_M_play 274 (.aload_n 0) 1 275 := ⟨by decide +kernel, rfl⟩
theorem d_M_play_275 : DC b_M_play 275 (.getfield 135) 3 278 := ⟨by decide +kernel, rfl⟩
theorem d_M_play_278 : DC b_M_play 278 (.iconst 4) 1 279 := ⟨by decide +kernel, rfl⟩
theorem d_M_play_279 : DC b_M_play 279 (.iaload) 1 280 := ⟨by decide +kernel, rfl⟩
theorem d_M_play_280 : DB b_M_play 280 (.if_icmp .ge 30) 30 310 283 := ⟨by decide +kernel, by decide, rfl⟩
theorem d_M_play_283 : DC b_M_play 283 (.iload 7) 2 285 := ⟨by decide +kernel, rfl⟩
theorem d_M_play_285 : DC b_M_play 285 (.iload 9) 2 287 := ⟨by decide +kernel, rfl⟩
theorem d_M_play_287 : DB b_M_play 287 (.if_icmp .ge 23) 23 310 290 := ⟨by decide +kernel, by decide, rfl⟩
theorem d_M_play_290 : DC b_M_play 290 (.aload_n 0) 1 291 := ⟨by decide +kernel, rfl⟩
theorem d_M_play_291 : DC b_M_play 291 (.getfield 25) 3 294 := ⟨by decide +kernel, rfl⟩
theorem d_M_play_294 : DC b_M_play 294 (.aload_n 0) 1 295 := ⟨by decide +kernel, rfl⟩
theorem d_M_play_295 : DC b_M_play 295 (.iload 8) 2 297 := ⟨by decide +kernel, rfl⟩
theorem d_M_play_297 : DC b_M_play 297 (.iconst 0) 1 298 := ⟨by decide +kernel, rfl⟩
theorem d_M_play_298 : DC b_M_play 298 (.invokevirtual 412) 3 301 := ⟨by decide +kernel, rfl⟩
theorem d_M_play_301 : DC b_M_play 301 (.iload 6) 2 303 := ⟨by decide +kernel, rfl⟩
theorem d_M_play_303 : DC b_M_play 303 (.iastore) 1 304 := ⟨by decide +kernel, rfl⟩
theorem d_M_play_304 : DC b_M_play 304 (.iinc 7 1) 3 307 := ⟨by decide +kernel, rfl⟩
theorem d_M_play_307 : DB b_M_play 307 (.goto (-35)) (-35) 272 310 := ⟨by decide +kernel, by decide, rfl⟩
theorem d_M_play_310 : DC b_M_play 310 (.aload_n 0) 1 311 := ⟨by decide +kernel, rfl⟩
theorem d_M_play_311 : DC b_M_play 311 (.getfield 138) 3 314 := ⟨by decide +kernel, rfl⟩
theorem d_M_play_314 : DC b_M_play 314 (.iconst 0) 1 315 := ⟨by decide +kernel, rfl⟩
theorem d_M_play_315 : DC b_M_play 315 (.iload 5) 2 317 := ⟨by decide +kernel, rfl⟩
theorem d_M_play_317 : DC b_M_play 317 (.iastore) 1 318 := ⟨by decide +kernel, rfl⟩
theorem d_M_play_318 : DC b_M_play 318 (.aload_n 0) 1 319 := ⟨by decide +kernel, rfl⟩
theorem d_M_play_319 : DC b_M_play 319 (.getfield 138) 3 322 := ⟨by decide +kernel, rfl⟩
theorem d_M_play_322 : DC b_M_play 322 (.iconst 1) 1 323 := ⟨by decide +kernel, rfl⟩
theorem d_M_play_323 : DC b_M_play 323 (.iload_n 3) 1 324 := ⟨by decide +kernel, rfl⟩
theorem d_M_play_324 : DC b_M_play 324 (.iastore) 1 325 := ⟨by decide +kernel, rfl⟩
theorem d_M_play_325 : DC b_M_play 325 (.aload_n 0) 1 326 := ⟨by decide +kernel, rfl⟩
theorem d_M_play_326 : DC b_M_play 326 (.getfield 138) 3 329 := ⟨by decide +kernel, rfl⟩
theorem d_M_play_329 : DC b_M_play 329 (.iconst 2) 1 330 := ⟨by decide +kernel, rfl⟩
theorem d_M_play_330 : DC b_M_play 330 (.iload 4) 2 332 := ⟨by decide +kernel, rfl⟩
theorem d_M_play_332 : DC b_M_play 332 (.iastore) 1 333 := ⟨by decide +kernel, rfl⟩
theorem d_M_play_333 : DC b_M_play 333 (.aload_n 0) 1 334 := ⟨by decide +kernel, rfl⟩
theorem d_M_play_334 : DC b_M_play 334 (.getfield 138) 3 337 := ⟨by decide +kernel, rfl⟩
theorem d_M_play_337 : DC b_M_play 337 (.iconst 3) 1 338 := ⟨by decide +kernel, rfl⟩
theorem d_M_play_338 : DC b_M_play 338 (.iload 7) 2 340 := ⟨by decide +kernel, rfl⟩
theorem d_M_play_340 : DC b_M_play 340 (.iastore) 1 341 := ⟨by decide +kernel, rfl⟩
theorem d_M_play_341 : DC b_M_play 341 (.aload_n 0) 1 342 := ⟨by decide +kernel, rfl⟩
theorem d_M_play_342 : DC b_M_play 342 (.getfield 141) 3 345 := ⟨by decide +kernel, rfl⟩
theorem d_M_play_345 : DC b_M_play 345 (.bipush 8) 2 347 := ⟨by decide +kernel, rfl⟩
theorem d_M_play_347 : DC b_M_play 347 (.iload_n 1) 1 348 := ⟨by decide +kernel, rfl⟩
theorem d_M_play_348 : DC b_M_play 348 (.imul) 1 349 := ⟨by decide +kernel, rfl⟩
theorem d_M_play_349 : DC b_M_play 349 (.iload_n 2) 1 350 := ⟨by decide +kernel, rfl⟩
theorem d_M_play_350 : DC b_M_play 350 (.iadd) 1 351 := ⟨by decide +kernel, rfl⟩
theorem d_M_play_351 : DC b_M_play 351 (.dup2) 1 352 := ⟨by decide +kernel, rfl⟩
theorem d_M_play_352 : DC b_M_play 352 (.iaload) 1 353 := ⟨by decide +kernel, rfl⟩
theorem d_M_play_353 : DC b_M_play 353 (.iconst 1) 1 354 := ⟨by decide +kernel, rfl⟩
theorem d_M_play_354 : DC b_M_play 354 (.iadd) 1 355 := ⟨by decide +kernel, rfl⟩
theorem d_M_play_355 : DC b_M_play 355 (.iastore) 1 356 := ⟨by decide +kernel, rfl⟩
theorem d_M_play_356 : DC b_M_play 356 (.aload_n 0) 1 357 := ⟨by decide +kernel, rfl⟩
theorem d_M_play_357 : DC b_M_play 357 (.getfield 141) 3 360 := ⟨by decide +kernel, rfl⟩
theorem d_M_play_360 : DC b_M_play 360 (.bipush 8) 2 362 := ⟨by decide +kernel, rfl⟩
theorem d_M_play_362 : DC b_M_play 362 (.iload_n 2) 1 363 := ⟨by decide +kernel, rfl⟩
theorem d_M_play_363 : DC b_M_play 363 (.imul) 1 364 := ⟨by decide +kernel, rfl⟩
theorem d_M_play_364 : DC b_M_play 364 (.iload_n 1) 1 365 := ⟨by decide +kernel, rfl⟩
theorem d_M_play_365 : DC b_M_play 365 (.iadd) 1 366 := ⟨by decide +kernel, rfl⟩
theorem d_M_play_366 : DC b_M_play 366 (.dup2) 1 367 := ⟨by decide +kernel, rfl⟩
theorem d_M_play_367 : DC b_M_play 367 (.iaload) 1 368 := ⟨by decide +kernel, rfl⟩
theorem d_M_play_368 : DC b_M_play 368 (.iconst 1) 1 369 := ⟨by decide +kernel, rfl⟩
theorem d_M_play_369 : DC b_M_play 369 (.iadd) 1 370 := ⟨by decide +kernel, rfl⟩
theorem d_M_play_370 : DC b_M_play 370 (.iastore) 1 371 := ⟨by decide +kernel, rfl⟩
theorem d_M_play_371 : DC b_M_play 371 (.iload 6) 2 373 := ⟨by decide +kernel, rfl⟩
theorem d_M_play_373 : decode b_M_play 373 = .ok (.ireturn, 1) := by decide +kernel
theorem w_M_play_b214 {X : Ctx} {Y : Lay} (hY : IsM Y) (C : Cx X Y b_M_play 10 (some .int) "TopYardModel" 7) {N : Nat} {r : Int32 × Mem} (k61 : Int32 → Int32 → Int32 → Int32 → Int32 → Mem → Option (Int32 × Mem)) (hk61 : ∀ (x1 : Int32) (x2 : Int32) (x3 : Int32) (x4 : Int32) (x5 : Int32) (ν : Mem), k61 x1 x2 x3 x4 x5 ν = some r → J X Y (some (.int r.1)) r.2 10 61 [(0, .ref (yad Y 0)), (1, .int x1), (2, .int x2), (3, .int x3), (4, .int x4), (5, .int x5)] [] ν) (x1 : Int32) (x2 : Int32) (x3 : Int32) (x4 : Int32) (x5 : Int32) (xs0 : Int32) (xs1 : Int32) (xs2 : Int32) (μ : Mem) (hf : f_M_play_b214 N k61 x1 x2 x3 x4 x5 xs0 xs1 xs2 μ = some r) : J X Y (some (.int r.1)) r.2 10 214 [(0, .ref (yad Y 0)), (1, .int x1), (2, .int x2), (3, .int x3), (4, .int x4), (5, .int x5)] [.int xs0, .int xs1, .int xs2, .ref (yad Y 8)] μ := by
  unfold f_M_play_b214 at hf
  refine j_isub C d_M_play_214 ?_
  refine ck hf (fun hi1 hf => ?_)
  refine j_iast C (kM hY rfl) (nM hY (by decide)) (lM hY rfl) hi1 d_M_play_215 hf (fun μ2 hf => ?_)
  refine j_goto C d_M_play_216 ?_
  refine j_sub [0, 1, 2, 3, 4, 5] rfl ?_
  exact hk61 x1 x2 x3 x4 x5 μ2 hf
theorem w_M_play_b191 {X : Ctx} {Y : Lay} (hY : IsM Y) (C : Cx X Y b_M_play 10 (some .int) "TopYardModel" 7) {N : Nat} {r : Int32 × Mem} (k61 : Int32 → Int32 → Int32 → Int32 → Int32 → Mem → Option (Int32 × Mem)) (hk61 : ∀ (x1 : Int32) (x2 : Int32) (x3 : Int32) (x4 : Int32) (x5 : Int32) (ν : Mem), k61 x1 x2 x3 x4 x5 ν = some r → J X Y (some (.int r.1)) r.2 10 61 [(0, .ref (yad Y 0)), (1, .int x1), (2, .int x2), (3, .int x3), (4, .int x4), (5, .int x5)] [] ν) (x1 : Int32) (x2 : Int32) (x3 : Int32) (x4 : Int32) (x5 : Int32) (xs0 : Int32) (xs1 : Int32) (xs2 : Int32) (μ : Mem) (hf : f_M_play_b191 N k61 x1 x2 x3 x4 x5 xs0 xs1 xs2 μ = some r) : J X Y (some (.int r.1)) r.2 10 191 [(0, .ref (yad Y 0)), (1, .int x1), (2, .int x2), (3, .int x3), (4, .int x4), (5, .int x5)] [.int xs0, .int xs1, .int xs2, .ref (yad Y 8)] μ := by
  unfold f_M_play_b191 at hf
  refine j_isub C d_M_play_191 ?_
  refine ck hf (fun hi1 hf => ?_)
  refine j_iast C (kM hY rfl) (nM hY (by decide)) (lM hY rfl) hi1 d_M_play_192 hf (fun μ2 hf => ?_)
  refine j_aload_n C d_M_play_193 0 rfl ?_
  refine j_gS (b := 8) C fl_M_31 (kM hY rfl) (nM hY (by decide)) rfl hY.2.2.2.1 rfl (sM hY rfl) d_M_play_194 ?_
  refine j_iload_n C d_M_play_197 2 rfl ?_
  refine j_dup2 C d_M_play_198 rfl rfl ?_
  refine ck hf (fun hi3 hf => ?_)
  refine j_iald C (kM hY rfl) (nM hY (by decide)) (lM hY rfl) hi3 d_M_play_199 ?_
  refine j_aload_n C d_M_play_200 0 rfl ?_
  refine j_gS (b := 8) C fl_M_31 (kM hY rfl) (nM hY (by decide)) rfl hY.2.2.2.1 rfl (sM hY rfl) d_M_play_201 ?_
  refine j_iload_n C d_M_play_204 2 rfl ?_
  refine ck hf (fun hi4 hf => ?_)
  refine j_iald C (kM hY rfl) (nM hY (by decide)) (lM hY rfl) hi4 d_M_play_205 ?_
  refine j_if_le C d_M_play_206 hf (fun hf => ?_) (fun hf => ?_)
  · refine j_iconst (v := 0) C d_M_play_213 (by decide) ?_
    refine j_sub [0, 1, 2, 3, 4, 5] rfl ?_
    exact w_M_play_b214 hY C k61 hk61 x1 x2 x3 x4 x5 0 (gI μ2 8 (ix x2)) x2 μ2 hf
  · refine j_iconst (v := 1) C d_M_play_209 (by decide) ?_
    refine j_goto C d_M_play_210 ?_
    refine j_sub [0, 1, 2, 3, 4, 5] rfl ?_
    exact w_M_play_b214 hY C k61 hk61 x1 x2 x3 x4 x5 1 (gI μ2 8 (ix x2)) x2 μ2 hf
theorem w_M_play_b164 {X : Ctx} {Y : Lay} (hY : IsM Y) (C : Cx X Y b_M_play 10 (some .int) "TopYardModel" 7) {N : Nat} {r : Int32 × Mem} (k61 : Int32 → Int32 → Int32 → Int32 → Int32 → Mem → Option (Int32 × Mem)) (hk61 : ∀ (x1 : Int32) (x2 : Int32) (x3 : Int32) (x4 : Int32) (x5 : Int32) (ν : Mem), k61 x1 x2 x3 x4 x5 ν = some r → J X Y (some (.int r.1)) r.2 10 61 [(0, .ref (yad Y 0)), (1, .int x1), (2, .int x2), (3, .int x3), (4, .int x4), (5, .int x5)] [] ν) (x1 : Int32) (x2 : Int32) (x3 : Int32) (x5 : Int32) (xs0 : Int32) (xs1 : Int32) (μ : Mem) (hf : f_M_play_b164 N k61 x1 x2 x3 x5 xs0 xs1 μ = some r) : J X Y (some (.int r.1)) r.2 10 164 [(0, .ref (yad Y 0)), (1, .int x1), (2, .int x2), (3, .int x3), (5, .int x5)] [.int xs0, .int xs1] μ := by
  unfold f_M_play_b164 at hf
  refine j_iadd C d_M_play_164 ?_
  refine j_istoreN (lvf := [(0, .ref (yad Y 0)), (1, .int x1), (2, .int x2), (3, .int x3), (5, .int x5)]) C d_M_play_165 (by decide) rfl hf (fun v1 hf => ?_)
  refine j_iinc (lvf := [(4, .int v1), (0, .ref (yad Y 0)), (1, .int x1), (2, .int x2), (3, .int x3)]) (v := 1) C d_M_play_167 5 rfl (by decide) (by decide) rfl hf (fun v2 hf => ?_)
  refine j_aload_n C d_M_play_170 2 rfl ?_
  refine j_gS (b := 8) C fl_M_31 (kM hY rfl) (nM hY (by decide)) rfl hY.2.2.2.1 rfl (sM hY rfl) d_M_play_171 ?_
  refine j_iload_n C d_M_play_174 3 rfl ?_
  refine j_dup2 C d_M_play_175 rfl rfl ?_
  refine ck hf (fun hi3 hf => ?_)
  refine j_iald C (kM hY rfl) (nM hY (by decide)) (lM hY rfl) hi3 d_M_play_176 ?_
  refine j_aload_n C d_M_play_177 2 rfl ?_
  refine j_gS (b := 8) C fl_M_31 (kM hY rfl) (nM hY (by decide)) rfl hY.2.2.2.1 rfl (sM hY rfl) d_M_play_178 ?_
  refine j_iload_n C d_M_play_181 3 rfl ?_
  refine ck hf (fun hi4 hf => ?_)
  refine j_iald C (kM hY rfl) (nM hY (by decide)) (lM hY rfl) hi4 d_M_play_182 ?_
  refine j_if_le C d_M_play_183 hf (fun hf => ?_) (fun hf => ?_)
  · refine j_iconst (v := 0) C d_M_play_190 (by decide) ?_
    refine j_sub [2, 3, 4, 5, 1, 0] rfl ?_
    exact w_M_play_b191 hY C k61 hk61 x1 x2 x3 v1 v2 0 (gI μ 8 (ix x1)) x1 μ hf
  · refine j_iconst (v := 1) C d_M_play_186 (by decide) ?_
    refine j_goto C d_M_play_187 ?_
    refine j_sub [2, 3, 4, 5, 1, 0] rfl ?_
    exact w_M_play_b191 hY C k61 hk61 x1 x2 x3 v1 v2 1 (gI μ 8 (ix x1)) x1 μ hf
theorem w_M_play_b149 {X : Ctx} {Y : Lay} (hY : IsM Y) (C : Cx X Y b_M_play 10 (some .int) "TopYardModel" 7) {N : Nat} {r : Int32 × Mem} (k61 : Int32 → Int32 → Int32 → Int32 → Int32 → Mem → Option (Int32 × Mem)) (hk61 : ∀ (x1 : Int32) (x2 : Int32) (x3 : Int32) (x4 : Int32) (x5 : Int32) (ν : Mem), k61 x1 x2 x3 x4 x5 ν = some r → J X Y (some (.int r.1)) r.2 10 61 [(0, .ref (yad Y 0)), (1, .int x1), (2, .int x2), (3, .int x3), (4, .int x4), (5, .int x5)] [] ν) (x1 : Int32) (x2 : Int32) (x4 : Int32) (x5 : Int32) (x6 : Int32) (xs0 : Int32) (xs1 : Int32) (μ : Mem) (hf : f_M_play_b149 N k61 x1 x2 x4 x5 x6 xs0 xs1 μ = some r) : J X Y (some (.int r.1)) r.2 10 149 [(0, .ref (yad Y 0)), (1, .int x1), (2, .int x2), (4, .int x4), (5, .int x5), (6, .int x6)] [.int xs0, .int xs1] μ := by
  unfold f_M_play_b149 at hf
  refine j_iadd C d_M_play_149 ?_
  refine j_istore_nN (lvf := [(0, .ref (yad Y 0)), (1, .int x1), (2, .int x2), (4, .int x4), (5, .int x5), (6, .int x6)]) C d_M_play_150 (by decide) rfl hf (fun v1 hf => ?_)
  refine j_iload C d_M_play_151 4 rfl ?_
  refine j_iload C d_M_play_153 6 rfl ?_
  refine j_iconst (v := (-1)) C d_M_play_155 (by decide) ?_
  refine j_icmp_ne C d_M_play_156 hf (fun hf => ?_) (fun hf => ?_)
  · refine j_iconst (v := 0) C d_M_play_163 (by decide) ?_
    refine j_sub [1, 2, 3, 0, 5] rfl ?_
    exact w_M_play_b164 hY C k61 hk61 x1 x2 v1 x5 0 x4 μ hf
  · refine j_iconst (v := 1) C d_M_play_159 (by decide) ?_
    refine j_goto C d_M_play_160 ?_
    refine j_sub [1, 2, 3, 0, 5] rfl ?_
    exact w_M_play_b164 hY C k61 hk61 x1 x2 v1 x5 1 x4 μ hf
theorem w_M_play_b310 {X : Ctx} {Y : Lay} (hY : IsM Y) (C : Cx X Y b_M_play 10 (some .int) "TopYardModel" 7) {N : Nat} {r : Int32 × Mem} (x1 : Int32) (x2 : Int32) (x3 : Int32) (x4 : Int32) (x5 : Int32) (x6 : Int32) (x7 : Int32) (μ : Mem) (hf : f_M_play_b310 N x1 x2 x3 x4 x5 x6 x7 μ = some r) : J X Y (some (.int r.1)) r.2 10 310 [(0, .ref (yad Y 0)), (1, .int x1), (2, .int x2), (3, .int x3), (4, .int x4), (5, .int x5), (6, .int x6), (7, .int x7)] [] μ := by
  unfold f_M_play_b310 at hf
  refine j_aload_n C d_M_play_310 0 rfl ?_
  refine j_gS (b := 41) C fl_M_138 (kM hY rfl) (nM hY (by decide)) rfl hY.2.2.2.1 rfl (sM hY rfl) d_M_play_311 ?_
  refine j_iconst (v := 0) C d_M_play_314 (by decide) ?_
  refine j_iload C d_M_play_315 5 rfl ?_
  refine ck hf (fun hi1 hf => ?_)
  refine j_iast C (kM hY rfl) (nM hY (by decide)) (lM hY rfl) hi1 d_M_play_317 hf (fun μ2 hf => ?_)
  refine j_aload_n C d_M_play_318 0 rfl ?_
  refine j_gS (b := 41) C fl_M_138 (kM hY rfl) (nM hY (by decide)) rfl hY.2.2.2.1 rfl (sM hY rfl) d_M_play_319 ?_
  refine j_iconst (v := 1) C d_M_play_322 (by decide) ?_
  refine j_iload_n C d_M_play_323 3 rfl ?_
  refine ck hf (fun hi3 hf => ?_)
  refine j_iast C (kM hY rfl) (nM hY (by decide)) (lM hY rfl) hi3 d_M_play_324 hf (fun μ4 hf => ?_)
  refine j_aload_n C d_M_play_325 0 rfl ?_
  refine j_gS (b := 41) C fl_M_138 (kM hY rfl) (nM hY (by decide)) rfl hY.2.2.2.1 rfl (sM hY rfl) d_M_play_326 ?_
  refine j_iconst (v := 2) C d_M_play_329 (by decide) ?_
  refine j_iload C d_M_play_330 4 rfl ?_
  refine ck hf (fun hi5 hf => ?_)
  refine j_iast C (kM hY rfl) (nM hY (by decide)) (lM hY rfl) hi5 d_M_play_332 hf (fun μ6 hf => ?_)
  refine j_aload_n C d_M_play_333 0 rfl ?_
  refine j_gS (b := 41) C fl_M_138 (kM hY rfl) (nM hY (by decide)) rfl hY.2.2.2.1 rfl (sM hY rfl) d_M_play_334 ?_
  refine j_iconst (v := 3) C d_M_play_337 (by decide) ?_
  refine j_iload C d_M_play_338 7 rfl ?_
  refine ck hf (fun hi7 hf => ?_)
  refine j_iast C (kM hY rfl) (nM hY (by decide)) (lM hY rfl) hi7 d_M_play_340 hf (fun μ8 hf => ?_)
  refine j_aload_n C d_M_play_341 0 rfl ?_
  refine j_gS (b := 42) C fl_M_141 (kM hY rfl) (nM hY (by decide)) rfl hY.2.2.2.1 rfl (sM hY rfl) d_M_play_342 ?_
  refine j_bipush (v := 8) C d_M_play_345 (by decide) ?_
  refine j_iload_n C d_M_play_347 1 rfl ?_
  refine j_imul C d_M_play_348 ?_
  refine j_iload_n C d_M_play_349 2 rfl ?_
  refine j_iadd C d_M_play_350 ?_
  refine j_dup2 C d_M_play_351 rfl rfl ?_
  refine ck hf (fun hi9 hf => ?_)
  refine j_iald C (kM hY rfl) (nM hY (by decide)) (lM hY rfl) hi9 d_M_play_352 ?_
  refine j_iconst (v := 1) C d_M_play_353 (by decide) ?_
  refine j_iadd C d_M_play_354 ?_
  refine ck hf (fun hi10 hf => ?_)
  refine j_iast C (kM hY rfl) (nM hY (by decide)) (lM hY rfl) hi10 d_M_play_355 hf (fun μ11 hf => ?_)
  refine j_aload_n C d_M_play_356 0 rfl ?_
  refine j_gS (b := 42) C fl_M_141 (kM hY rfl) (nM hY (by decide)) rfl hY.2.2.2.1 rfl (sM hY rfl) d_M_play_357 ?_
  refine j_bipush (v := 8) C d_M_play_360 (by decide) ?_
  refine j_iload_n C d_M_play_362 2 rfl ?_
  refine j_imul C d_M_play_363 ?_
  refine j_iload_n C d_M_play_364 1 rfl ?_
  refine j_iadd C d_M_play_365 ?_
  refine j_dup2 C d_M_play_366 rfl rfl ?_
  refine ck hf (fun hi12 hf => ?_)
  refine j_iald C (kM hY rfl) (nM hY (by decide)) (lM hY rfl) hi12 d_M_play_367 ?_
  refine j_iconst (v := 1) C d_M_play_368 (by decide) ?_
  refine j_iadd C d_M_play_369 ?_
  refine ck hf (fun hi13 hf => ?_)
  refine j_iast C (kM hY rfl) (nM hY (by decide)) (lM hY rfl) hi13 d_M_play_370 hf (fun μ14 hf => ?_)
  refine j_iload C d_M_play_371 6 rfl ?_
  obtain rfl := Option.some.inj hf
  exact j_iret C d_M_play_373
theorem w_M_play_l272 {X : Ctx} {Y : Lay} (hY : IsM Y) (C : Cx X Y b_M_play 10 (some .int) "TopYardModel" 7) {N : Nat} {r : Int32 × Mem} : ∀ (n : Nat) (x1 : Int32) (x2 : Int32) (x3 : Int32) (x4 : Int32) (x5 : Int32) (x6 : Int32) (x7 : Int32) (x8 : Int32) (x9 : Int32) (μ : Mem), f_M_play_l272 N n x1 x2 x3 x4 x5 x6 x7 x8 x9 μ = some r → J X Y (some (.int r.1)) r.2 10 272 [(0, .ref (yad Y 0)), (1, .int x1), (2, .int x2), (3, .int x3), (4, .int x4), (5, .int x5), (6, .int x6), (7, .int x7), (8, .int x8), (9, .int x9)] [] μ := by
  intro n
  induction n with
  | zero => intro x1 x2 x3 x4 x5 x6 x7 x8 x9 μ hf; rw [f_M_play_l272] at hf; cases hf
  | succ n ih =>
    intro x1 x2 x3 x4 x5 x6 x7 x8 x9 μ hf
    rw [f_M_play_l272] at hf
    refine j_iload C d_M_play_272 7 rfl ?_
    refine j_aload_n C d_M_play_274 0 rfl ?_
    refine j_gS (b := 40) C fl_M_135 (kM hY rfl) (nM hY (by decide)) rfl hY.2.2.2.1 rfl (sM hY rfl) d_M_play_275 ?_
    refine j_iconst (v := 4) C d_M_play_278 (by decide) ?_
    refine ck hf (fun hi1 hf => ?_)
    refine j_iald C (kM hY rfl) (nM hY (by decide)) (lM hY rfl) hi1 d_M_play_279 ?_
    refine j_icmp_ge C d_M_play_280 hf (fun hf => ?_) (fun hf => ?_)
    · refine j_sub [0, 1, 2, 3, 4, 5, 6, 7] rfl ?_
      exact w_M_play_b310 hY C x1 x2 x3 x4 x5 x6 x7 μ hf
    · refine j_iload C d_M_play_283 7 rfl ?_
      refine j_iload C d_M_play_285 9 rfl ?_
      refine j_icmp_ge C d_M_play_287 hf (fun hf => ?_) (fun hf => ?_)
      · refine j_sub [0, 1, 2, 3, 4, 5, 6, 7] rfl ?_
        exact w_M_play_b310 hY C x1 x2 x3 x4 x5 x6 x7 μ hf
      · refine j_aload_n C d_M_play_290 0 rfl ?_
        refine j_gS (b := 6) C fl_M_25 (kM hY rfl) (nM hY (by decide)) rfl hY.2.2.2.1 rfl (sM hY rfl) d_M_play_291 ?_
        refine j_aload_n C d_M_play_294 0 rfl ?_
        refine j_iload C d_M_play_295 8 rfl ?_
        refine j_iconst (v := 0) C d_M_play_297 (by decide) ?_
        refine bd hf (fun v2 hc6 hf => ?_)
        refine j_cV (rest := [.ref (yad Y 6)]) C lk_M_412 (c_M_topOf hY hc6) rfl (kM hY rfl) (nM hY (by decide)) (by decide) rfl rfl (by decide) rfl (Nat.le_of_ble_eq_true rfl) d_M_play_298 ?_
        refine j_iload C d_M_play_301 6 rfl ?_
        refine ck hf (fun hi3 hf => ?_)
        refine j_iast C (kM hY rfl) (nM hY (by decide)) (lM hY rfl) hi3 d_M_play_303 hf (fun μ4 hf => ?_)
        refine j_iinc (lvf := [(0, .ref (yad Y 0)), (1, .int x1), (2, .int x2), (3, .int x3), (4, .int x4), (5, .int x5), (6, .int x6), (8, .int x8), (9, .int x9)]) (v := 1) C d_M_play_304 7 rfl (by decide) (by decide) rfl hf (fun v5 hf => ?_)
        refine j_goto C d_M_play_307 ?_
        refine j_sub [1, 2, 3, 4, 5, 6, 7, 0, 8, 9] rfl ?_
        exact ih x1 x2 x3 x4 x5 x6 v5 x8 x9 μ4 hf
theorem w_M_play_b262 {X : Ctx} {Y : Lay} (hY : IsM Y) (C : Cx X Y b_M_play 10 (some .int) "TopYardModel" 7) {N : Nat} {r : Int32 × Mem} (x1 : Int32) (x2 : Int32) (x3 : Int32) (x4 : Int32) (x5 : Int32) (x6 : Int32) (x7 : Int32) (xs0 : Int32) (μ : Mem) (hf : f_M_play_b262 N x1 x2 x3 x4 x5 x6 x7 xs0 μ = some r) : J X Y (some (.int r.1)) r.2 10 262 [(0, .ref (yad Y 0)), (1, .int x1), (2, .int x2), (3, .int x3), (4, .int x4), (5, .int x5), (6, .int x6), (7, .int x7)] [.int xs0] μ := by
  unfold f_M_play_b262 at hf
  refine j_istore (lvf := [(0, .ref (yad Y 0)), (1, .int x1), (2, .int x2), (3, .int x3), (4, .int x4), (5, .int x5), (6, .int x6), (7, .int x7)]) C d_M_play_262 (by decide) rfl ?_
  refine j_aload_n C d_M_play_264 1 rfl ?_
  refine j_iload C d_M_play_265 0 rfl ?_
  refine bd hf (fun v1 hc2 hf => ?_)
  refine j_cV (rest := []) C lk_M_409 (c_M_topsOf hY hc2) rfl (kM hY rfl) (nM hY (by decide)) (by decide) rfl rfl (by decide) rfl (Nat.le_of_ble_eq_true rfl) d_M_play_267 ?_
  refine j_istore (lvf := [(8, .int xs0), (0, .ref (yad Y 0)), (1, .int x1), (2, .int x2), (3, .int x3), (4, .int x4), (5, .int x5), (6, .int x6), (7, .int x7)]) C d_M_play_270 (by decide) rfl ?_
  refine j_sub [2, 3, 4, 5, 6, 7, 8, 9, 1, 0] rfl ?_
  exact w_M_play_l272 hY C N x1 x2 x3 x4 x5 x6 x7 xs0 v1 μ hf
theorem w_M_play_b240 {X : Ctx} {Y : Lay} (hY : IsM Y) (C : Cx X Y b_M_play 10 (some .int) "TopYardModel" 7) {N : Nat} {r : Int32 × Mem} (x1 : Int32) (x2 : Int32) (x3 : Int32) (x4 : Int32) (x5 : Int32) (xs0 : Int32) (μ : Mem) (hf : f_M_play_b240 N x1 x2 x3 x4 x5 xs0 μ = some r) : J X Y (some (.int r.1)) r.2 10 240 [(0, .ref (yad Y 0)), (1, .int x1), (2, .int x2), (3, .int x3), (4, .int x4), (5, .int x5)] [.int xs0] μ := by
  unfold f_M_play_b240 at hf
  refine j_istore (lvf := [(0, .ref (yad Y 0)), (1, .int x1), (2, .int x2), (3, .int x3), (4, .int x4), (5, .int x5)]) C d_M_play_240 (by decide) rfl ?_
  refine j_iconst (v := 0) C d_M_play_242 (by decide) ?_
  refine j_istore (lvf := [(6, .int xs0), (0, .ref (yad Y 0)), (1, .int x1), (2, .int x2), (3, .int x3), (4, .int x4), (5, .int x5)]) C d_M_play_243 (by decide) rfl ?_
  refine j_iload C d_M_play_245 1 rfl ?_
  refine j_iconst (v := (-1)) C d_M_play_247 (by decide) ?_
  refine j_icmp_eq C d_M_play_248 hf (fun hf => ?_) (fun hf => ?_)
  · refine j_sub [2, 3, 4, 5, 6, 7, 1, 0] rfl ?_
    exact w_M_play_b310 hY C x1 x2 x3 x4 x5 xs0 0 μ hf
  · refine j_iload C d_M_play_251 1 rfl ?_
    refine j_iload_n C d_M_play_253 3 rfl ?_
    refine j_icmp_ne C d_M_play_254 hf (fun hf => ?_) (fun hf => ?_)
    · refine j_iload_n C d_M_play_261 3 rfl ?_
      refine j_sub [2, 3, 4, 5, 6, 7, 1, 0] rfl ?_
      exact w_M_play_b262 hY C x1 x2 x3 x4 x5 xs0 0 x1 μ hf
    · refine j_iload_n C d_M_play_257 4 rfl ?_
      refine j_goto C d_M_play_258 ?_
      refine j_sub [2, 3, 4, 5, 6, 7, 1, 0] rfl ?_
      exact w_M_play_b262 hY C x1 x2 x3 x4 x5 xs0 0 x2 μ hf
theorem w_M_play_b219 {X : Ctx} {Y : Lay} (hY : IsM Y) (C : Cx X Y b_M_play 10 (some .int) "TopYardModel" 7) {N : Nat} {r : Int32 × Mem} (x1 : Int32) (x2 : Int32) (x3 : Int32) (x4 : Int32) (x5 : Int32) (μ : Mem) (hf : f_M_play_b219 N x1 x2 x3 x4 x5 μ = some r) : J X Y (some (.int r.1)) r.2 10 219 [(0, .ref (yad Y 0)), (1, .int x1), (2, .int x2), (3, .int x3), (4, .int x4), (5, .int x5)] [] μ := by
  unfold f_M_play_b219 at hf
  refine j_iload_n C d_M_play_219 3 rfl ?_
  refine j_iload C d_M_play_220 4 rfl ?_
  refine j_icmp_le C d_M_play_222 hf (fun hf => ?_) (fun hf => ?_)
  · refine j_iload C d_M_play_229 4 rfl ?_
    refine j_iload_n C d_M_play_231 3 rfl ?_
    refine j_icmp_le C d_M_play_232 hf (fun hf => ?_) (fun hf => ?_)
    · refine j_iconst (v := (-1)) C d_M_play_239 (by decide) ?_
      refine j_sub [0, 1, 2, 3, 4, 5] rfl ?_
      exact w_M_play_b240 hY C x1 x2 x3 x4 x5 (-1) μ hf
    · refine j_iload_n C d_M_play_235 2 rfl ?_
      refine j_goto C d_M_play_236 ?_
      refine j_sub [0, 1, 2, 3, 4, 5] rfl ?_
      exact w_M_play_b240 hY C x1 x2 x3 x4 x5 x2 μ hf
  · refine j_iload_n C d_M_play_225 1 rfl ?_
    refine j_goto C d_M_play_226 ?_
    refine j_sub [0, 1, 2, 3, 4, 5] rfl ?_
    exact w_M_play_b240 hY C x1 x2 x3 x4 x5 x1 μ hf
theorem w_M_play_l61 {X : Ctx} {Y : Lay} (hY : IsM Y) (C : Cx X Y b_M_play 10 (some .int) "TopYardModel" 7) {N : Nat} {r : Int32 × Mem} : ∀ (n : Nat) (x1 : Int32) (x2 : Int32) (x3 : Int32) (x4 : Int32) (x5 : Int32) (μ : Mem), f_M_play_l61 N n x1 x2 x3 x4 x5 μ = some r → J X Y (some (.int r.1)) r.2 10 61 [(0, .ref (yad Y 0)), (1, .int x1), (2, .int x2), (3, .int x3), (4, .int x4), (5, .int x5)] [] μ := by
  intro n
  induction n with
  | zero => intro x1 x2 x3 x4 x5 μ hf; rw [f_M_play_l61] at hf; cases hf
  | succ n ih =>
    intro x1 x2 x3 x4 x5 μ hf
    rw [f_M_play_l61] at hf
    refine j_iload C d_M_play_61 5 rfl ?_
    refine j_aload_n C d_M_play_63 0 rfl ?_
    refine j_gS (b := 40) C fl_M_135 (kM hY rfl) (nM hY (by decide)) rfl hY.2.2.2.1 rfl (sM hY rfl) d_M_play_64 ?_
    refine j_iconst (v := 1) C d_M_play_67 (by decide) ?_
    refine ck hf (fun hi1 hf => ?_)
    refine j_iald C (kM hY rfl) (nM hY (by decide)) (lM hY rfl) hi1 d_M_play_68 ?_
    refine j_icmp_ge C d_M_play_69 hf (fun hf => ?_) (fun hf => ?_)
    · refine j_sub [0, 1, 2, 3, 4, 5] rfl ?_
      exact w_M_play_b219 hY C x1 x2 x3 x4 x5 μ hf
    · refine j_iload_n C d_M_play_72 3 rfl ?_
      refine j_aload_n C d_M_play_73 0 rfl ?_
      refine j_gS (b := 40) C fl_M_135 (kM hY rfl) (nM hY (by decide)) rfl hY.2.2.2.1 rfl (sM hY rfl) d_M_play_74 ?_
      refine j_iconst (v := 0) C d_M_play_77 (by decide) ?_
      refine ck hf (fun hi2 hf => ?_)
      refine j_iald C (kM hY rfl) (nM hY (by decide)) (lM hY rfl) hi2 d_M_play_78 ?_
      refine j_icmp_ge C d_M_play_79 hf (fun hf => ?_) (fun hf => ?_)
      · refine j_sub [0, 1, 2, 3, 4, 5] rfl ?_
        exact w_M_play_b219 hY C x1 x2 x3 x4 x5 μ hf
      · refine j_iload C d_M_play_82 4 rfl ?_
        refine j_aload_n C d_M_play_84 0 rfl ?_
        refine j_gS (b := 40) C fl_M_135 (kM hY rfl) (nM hY (by decide)) rfl hY.2.2.2.1 rfl (sM hY rfl) d_M_play_85 ?_
        refine j_iconst (v := 0) C d_M_play_88 (by decide) ?_
        refine ck hf (fun hi3 hf => ?_)
        refine j_iald C (kM hY rfl) (nM hY (by decide)) (lM hY rfl) hi3 d_M_play_89 ?_
        refine j_icmp_ge C d_M_play_90 hf (fun hf => ?_) (fun hf => ?_)
        · refine j_sub [0, 1, 2, 3, 4, 5] rfl ?_
          exact w_M_play_b219 hY C x1 x2 x3 x4 x5 μ hf
        · refine j_aload_n C d_M_play_93 0 rfl ?_
          refine j_aload_n C d_M_play_94 0 rfl ?_
          refine j_iload_n C d_M_play_95 1 rfl ?_
          refine j_iload C d_M_play_96 5 rfl ?_
          refine j_aload_n C d_M_play_98 0 rfl ?_
          refine j_iload_n C d_M_play_99 1 rfl ?_
          refine bd hf (fun v4 hc18 hf => ?_)
          refine j_cV (rest := [.int x5, .int x1, .ref (yad Y 0), .ref (yad Y 0)]) C lk_M_409 (c_M_topsOf hY hc18) rfl (kM hY rfl) (nM hY (by decide)) (by decide) rfl rfl (by decide) rfl (Nat.le_of_ble_eq_true rfl) d_M_play_100 ?_
          refine ckn hf (fun hz17 hf => ?_)
          refine j_irem C d_M_play_103 hz17 ?_
          refine bd hf (fun v5 hc16 hf => ?_)
          refine j_cV (rest := [.ref (yad Y 0)]) C lk_M_412 (c_M_topOf hY hc16) rfl (kM hY rfl) (nM hY (by decide)) (by decide) rfl rfl (by decide) rfl (Nat.le_of_ble_eq_true rfl) d_M_play_104 ?_
          refine j_aload_n C d_M_play_107 0 rfl ?_
          refine j_iload_n C d_M_play_108 2 rfl ?_
          refine j_iload C d_M_play_109 5 rfl ?_
          refine j_aload_n C d_M_play_111 0 rfl ?_
          refine j_iload_n C d_M_play_112 2 rfl ?_
          refine bd hf (fun v6 hc15 hf => ?_)
          refine j_cV (rest := [.int x5, .int x2, .ref (yad Y 0), .int v5, .ref (yad Y 0)]) C lk_M_409 (c_M_topsOf hY hc15) rfl (kM hY rfl) (nM hY (by decide)) (by decide) rfl rfl (by decide) rfl (Nat.le_of_ble_eq_true rfl) d_M_play_113 ?_
          refine ckn hf (fun hz14 hf => ?_)
          refine j_irem C d_M_play_116 hz14 ?_
          refine bd hf (fun v7 hc13 hf => ?_)
          refine j_cV (rest := [.int v5, .ref (yad Y 0)]) C lk_M_412 (c_M_topOf hY hc13) rfl (kM hY rfl) (nM hY (by decide)) (by decide) rfl rfl (by decide) rfl (Nat.le_of_ble_eq_true rfl) d_M_play_117 ?_
          refine j_aload_n C d_M_play_120 0 rfl ?_
          refine j_gS (b := 40) C fl_M_135 (kM hY rfl) (nM hY (by decide)) rfl hY.2.2.2.1 rfl (sM hY rfl) d_M_play_121 ?_
          refine j_iconst (v := 3) C d_M_play_124 (by decide) ?_
          refine ck hf (fun hi8 hf => ?_)
          refine j_iald C (kM hY rfl) (nM hY (by decide)) (lM hY rfl) hi8 d_M_play_125 ?_
          refine j_aload_n C d_M_play_126 0 rfl ?_
          refine j_gS (b := 40) C fl_M_135 (kM hY rfl) (nM hY (by decide)) rfl hY.2.2.2.1 rfl (sM hY rfl) d_M_play_127 ?_
          refine j_iconst (v := 2) C d_M_play_130 (by decide) ?_
          refine ck hf (fun hi9 hf => ?_)
          refine j_iald C (kM hY rfl) (nM hY (by decide)) (lM hY rfl) hi9 d_M_play_131 ?_
          refine bd2 hf (fun v10 μ11 hc12 hf => ?_)
          refine j_cV (rest := []) C lk_M_298 (c_M_comesTo hY hc12) rfl (kM hY rfl) (nM hY (by decide)) (by decide) rfl rfl (by decide) rfl (Nat.le_of_ble_eq_true rfl) d_M_play_132 ?_
          refine j_istore (lvf := [(0, .ref (yad Y 0)), (1, .int x1), (2, .int x2), (3, .int x3), (4, .int x4), (5, .int x5)]) C d_M_play_135 (by decide) rfl ?_
          refine j_iload_n C d_M_play_137 4 rfl ?_
          refine j_iload C d_M_play_138 0 rfl ?_
          refine j_iconst (v := 1) C d_M_play_140 (by decide) ?_
          refine j_icmp_ne C d_M_play_141 hf (fun hf => ?_) (fun hf => ?_)
          · refine j_iconst (v := 0) C d_M_play_148 (by decide) ?_
            refine j_sub [1, 2, 3, 5, 6, 0] rfl ?_
            exact w_M_play_b149 hY C (f_M_play_l61 N n) ih x1 x2 x4 x5 v10 0 x3 μ11 hf
          · refine j_iconst (v := 1) C d_M_play_144 (by decide) ?_
            refine j_goto C d_M_play_145 ?_
            refine j_sub [1, 2, 3, 5, 6, 0] rfl ?_
            exact w_M_play_b149 hY C (f_M_play_l61 N n) ih x1 x2 x4 x5 v10 1 x3 μ11 hf
theorem c_M_play {l : Launch} {Y : Lay} (hY : IsM Y) {N : Nat} {μ : Mem} {x1 : Int32} {x2 : Int32} {r : Int32 × Mem} (hf : f_M_play N μ x1 x2 = some r) : Ct l Y y_M_play b_M_play 10 (some .int) 7 [.ref (yad Y 0), .int x1, .int x2] (some (.int r.1)) μ r.2 := by
  refine ct_of (own := "TopYardModel") (lv := [(0, .ref (yad Y 0)), (1, .int x1), (2, .int x2)]) (by decide +kernel) rfl (Nat.le_of_ble_eq_true rfl) rfl (fun X hl C => ?_)
  subst hl
  unfold f_M_play at hf
  refine j_iload_n C d_M_play_0 1 rfl ?_
  refine bd hf (fun v1 hc10 hf => ?_)
  refine j_cS (rest := []) C lk_M_186 (c_M_isOwner hY hc10) rfl (by decide) rfl (Nat.le_of_ble_eq_true rfl) d_M_play_1 ?_
  refine j_if_eq C d_M_play_4 hf (fun hf => ?_) (fun hf => ?_)
  · refine j_bipush (v := (-2)) C d_M_play_19 (by decide) ?_
    obtain rfl := Option.some.inj hf
    exact j_iret C d_M_play_21
  · refine j_iload_n C d_M_play_7 2 rfl ?_
    refine bd hf (fun v2 hc9 hf => ?_)
    refine j_cS (rest := []) C lk_M_186 (c_M_isOwner hY hc9) rfl (by decide) rfl (Nat.le_of_ble_eq_true rfl) d_M_play_8 ?_
    refine j_if_eq C d_M_play_11 hf (fun hf => ?_) (fun hf => ?_)
    · refine j_bipush (v := (-2)) C d_M_play_19 (by decide) ?_
      obtain rfl := Option.some.inj hf
      exact j_iret C d_M_play_21
    · refine j_iload_n C d_M_play_14 1 rfl ?_
      refine j_iload_n C d_M_play_15 2 rfl ?_
      refine j_icmp_ne C d_M_play_16 hf (fun hf => ?_) (fun hf => ?_)
      · refine j_aload_n C d_M_play_22 0 rfl ?_
        refine bd hf (fun μ3 hc8 hf => ?_)
        refine j_cV (rest := []) C lk_M_406 (c_M_reads hY hc8) rfl (kM hY rfl) (nM hY (by decide)) (by decide) rfl rfl (by decide) rfl (Nat.le_of_ble_eq_true rfl) d_M_play_23 ?_
        refine j_aload_n C d_M_play_26 0 rfl ?_
        refine j_gI C fl_M_394 (kM hY rfl) (nM hY (by decide)) rfl d_M_play_27 ?_
        refine j_iconst (v := (-1)) C d_M_play_30 (by decide) ?_
        refine j_icmp_ne C d_M_play_31 hf (fun hf => ?_) (fun hf => ?_)
        · refine j_bipush (v := (-3)) C d_M_play_50 (by decide) ?_
          obtain rfl := Option.some.inj hf
          exact j_iret C d_M_play_52
        · refine j_aload_n C d_M_play_34 0 rfl ?_
          refine j_iload_n C d_M_play_35 1 rfl ?_
          refine bd hf (fun v4 hc7 hf => ?_)
          refine j_cV (rest := []) C lk_M_409 (c_M_topsOf hY hc7) rfl (kM hY rfl) (nM hY (by decide)) (by decide) rfl rfl (by decide) rfl (Nat.le_of_ble_eq_true rfl) d_M_play_36 ?_
          refine j_if_eq C d_M_play_39 hf (fun hf => ?_) (fun hf => ?_)
          · refine j_bipush (v := (-3)) C d_M_play_50 (by decide) ?_
            obtain rfl := Option.some.inj hf
            exact j_iret C d_M_play_52
          · refine j_aload_n C d_M_play_42 0 rfl ?_
            refine j_iload_n C d_M_play_43 2 rfl ?_
            refine bd hf (fun v5 hc6 hf => ?_)
            refine j_cV (rest := []) C lk_M_409 (c_M_topsOf hY hc6) rfl (kM hY rfl) (nM hY (by decide)) (by decide) rfl rfl (by decide) rfl (Nat.le_of_ble_eq_true rfl) d_M_play_44 ?_
            refine j_if_ne C d_M_play_47 hf (fun hf => ?_) (fun hf => ?_)
            · refine j_iconst (v := 0) C d_M_play_53 (by decide) ?_
              refine j_istore_n (lvf := [(0, .ref (yad Y 0)), (1, .int x1), (2, .int x2)]) C d_M_play_54 (by decide) rfl ?_
              refine j_iconst (v := 0) C d_M_play_55 (by decide) ?_
              refine j_istore (lvf := [(3, .int 0), (0, .ref (yad Y 0)), (1, .int x1), (2, .int x2)]) C d_M_play_56 (by decide) rfl ?_
              refine j_iconst (v := 0) C d_M_play_58 (by decide) ?_
              refine j_istore (lvf := [(4, .int 0), (3, .int 0), (0, .ref (yad Y 0)), (1, .int x1), (2, .int x2)]) C d_M_play_59 (by decide) rfl ?_
              refine j_sub [3, 4, 5, 2, 1, 0] rfl ?_
              exact w_M_play_l61 hY C N x1 x2 0 0 0 μ3 hf
            · refine j_bipush (v := (-3)) C d_M_play_50 (by decide) ?_
              obtain rfl := Option.some.inj hf
              exact j_iret C d_M_play_52
      · refine j_bipush (v := (-2)) C d_M_play_19 (by decide) ?_
        obtain rfl := Option.some.inj hf
        exact j_iret C d_M_play_21
theorem d_M_played_0 : DC b_M_played 0 (.iload_n 1) 1 1 := ⟨by decide +kernel, rfl⟩
theorem d_M_played_1 : DC b_M_played 1 (.i2l) 1 2 := ⟨by decide +kernel, rfl⟩
theorem d_M_played_2 : DC b_M_played 2 (.lconst 0) 1 3 := ⟨by decide +kernel, rfl⟩
theorem d_M_played_3 : DC b_M_played 3 (.ldc2_w 237) 3 6 := ⟨by decide +kernel, rfl⟩
theorem d_M_played_6 : DC b_M_played 6 (.invokestatic 164) 3 9 := ⟨by decide +kernel, rfl⟩
theorem d_M_played_9 : DB b_M_played 9 (.ifCond .eq 12) 12 21 12 := ⟨by decide +kernel, by decide, rfl⟩
theorem d_M_played_12 : DC b_M_played 12 (.aload_n 0) 1 13 := ⟨by decide +kernel, rfl⟩
theorem d_M_played_13 : DC b_M_played 13 (.getfield 138) 3 16 := ⟨by decide +kernel, rfl⟩
theorem d_M_played_16 : DC b_M_played 16 (.iload_n 1) 1 17 := ⟨by decide +kernel, rfl⟩
theorem d_M_played_17 : DC b_M_played 17 (.iaload) 1 18 := ⟨by decide +kernel, rfl⟩
theorem d_M_played_18 : DB b_M_played 18 (.goto 5) 5 23 21 := ⟨by decide +kernel, by decide, rfl⟩
theorem d_M_played_21 : DC b_M_played 21 (.bipush (-2)) 2 23 := ⟨by decide +kernel, rfl⟩
theorem d_M_played_23 : decode b_M_played 23 = .ok (.ireturn, 1) := by decide +kernel
theorem c_M_played {l : Launch} {Y : Lay} (hY : IsM Y) {μ : Mem} {x1 : Int32} {r : Int32} (hf : f_M_played μ x1 = some r) : Ct l Y y_M_played b_M_played 2 (some .int) 2 [.ref (yad Y 0), .int x1] (some (.int r)) μ μ := by
  refine ct_of (own := "TopYardModel") (lv := [(0, .ref (yad Y 0)), (1, .int x1)]) (by decide +kernel) rfl (Nat.le_of_ble_eq_true rfl) rfl (fun X hl C => ?_)
  subst hl
  unfold f_M_played at hf
  refine j_iload_n C d_M_played_0 1 rfl ?_
  refine j_i2l C d_M_played_1 ?_
  refine j_lconst (v := 0) C d_M_played_2 (by decide) ?_
  refine j_ldc2 (v := 3) C d_M_played_3 wd_184 ?_
  refine bd hf (fun v1 hc3 hf => ?_)
  refine j_cS (rest := []) C lk_M_164 (c_M_in hY hc3) rfl (by decide) rfl (Nat.le_of_ble_eq_true rfl) d_M_played_6 ?_
  refine j_if_eq C d_M_played_9 hf (fun hf => ?_) (fun hf => ?_)
  · refine j_bipush (v := (-2)) C d_M_played_21 (by decide) ?_
    obtain rfl := Option.some.inj hf
    exact j_iret C d_M_played_23
  · refine j_aload_n C d_M_played_12 0 rfl ?_
    refine j_gS (b := 41) C fl_M_138 (kM hY rfl) (nM hY (by decide)) rfl hY.2.2.2.1 rfl (sM hY rfl) d_M_played_13 ?_
    refine j_iload_n C d_M_played_16 1 rfl ?_
    refine ck hf (fun hi2 hf => ?_)
    refine j_iald C (kM hY rfl) (nM hY (by decide)) (lM hY rfl) hi2 d_M_played_17 ?_
    refine j_goto C d_M_played_18 ?_
    obtain rfl := Option.some.inj hf
    exact j_iret C d_M_played_23
theorem d_M_met1_0 : DC b_M_met1 0 (.iload_n 1) 1 1 := ⟨by decide +kernel, rfl⟩
theorem d_M_met1_1 : DC b_M_met1 1 (.invokestatic 186) 3 4 := ⟨by decide +kernel, rfl⟩
theorem d_M_met1_4 : DB b_M_met1 4 (.ifCond .eq 29) 29 33 7 := ⟨by decide +kernel, by decide, rfl⟩
theorem d_M_met1_7 : DC b_M_met1 7 (.iload_n 2) 1 8 := ⟨by decide +kernel, rfl⟩
theorem d_M_met1_8 : DC b_M_met1 8 (.invokestatic 186) 3 11 := ⟨by decide +kernel, rfl⟩
theorem d_M_met1_11 : DB b_M_met1 11 (.ifCond .eq 22) 22 33 14 := ⟨by decide +kernel, by decide, rfl⟩
theorem d_M_met1_14 : DC b_M_met1 14 (.iload_n 1) 1 15 := ⟨by decide +kernel, rfl⟩
theorem d_M_met1_15 : DC b_M_met1 15 (.iload_n 2) 1 16 := ⟨by decide +kernel, rfl⟩
theorem d_M_met1_16 : DB b_M_met1 16 (.if_icmp .eq 17) 17 33 19 := ⟨by decide +kernel, by decide, rfl⟩
theorem d_M_met1_19 : DC b_M_met1 19 (.aload_n 0) 1 20 := ⟨by decide +kernel, rfl⟩
theorem d_M_met1_20 : DC b_M_met1 20 (.getfield 141) 3 23 := ⟨by decide +kernel, rfl⟩
theorem d_M_met1_23 : DC b_M_met1 23 (.bipush 8) 2 25 := ⟨by decide +kernel, rfl⟩
theorem d_M_met1_25 : DC b_M_met1 25 (.iload_n 1) 1 26 := ⟨by decide +kernel, rfl⟩
theorem d_M_met1_26 : DC b_M_met1 26 (.imul) 1 27 := ⟨by decide +kernel, rfl⟩
theorem d_M_met1_27 : DC b_M_met1 27 (.iload_n 2) 1 28 := ⟨by decide +kernel, rfl⟩
theorem d_M_met1_28 : DC b_M_met1 28 (.iadd) 1 29 := ⟨by decide +kernel, rfl⟩
theorem d_M_met1_29 : DC b_M_met1 29 (.iaload) 1 30 := ⟨by decide +kernel, rfl⟩
theorem d_M_met1_30 : DB b_M_met1 30 (.goto 5) 5 35 33 := ⟨by decide +kernel, by decide, rfl⟩
theorem d_M_met1_33 : DC b_M_met1 33 (.bipush (-2)) 2 35 := ⟨by decide +kernel, rfl⟩
theorem d_M_met1_35 : decode b_M_met1 35 = .ok (.ireturn, 1) := by decide +kernel
theorem c_M_met1 {l : Launch} {Y : Lay} (hY : IsM Y) {μ : Mem} {x1 : Int32} {x2 : Int32} {r : Int32} (hf : f_M_met1 μ x1 x2 = some r) : Ct l Y y_M_met1 b_M_met1 3 (some .int) 3 [.ref (yad Y 0), .int x1, .int x2] (some (.int r)) μ μ := by
  refine ct_of (own := "TopYardModel") (lv := [(0, .ref (yad Y 0)), (1, .int x1), (2, .int x2)]) (by decide +kernel) rfl (Nat.le_of_ble_eq_true rfl) rfl (fun X hl C => ?_)
  subst hl
  unfold f_M_met1 at hf
  refine j_iload_n C d_M_met1_0 1 rfl ?_
  refine bd hf (fun v1 hc5 hf => ?_)
  refine j_cS (rest := []) C lk_M_186 (c_M_isOwner hY hc5) rfl (by decide) rfl (Nat.le_of_ble_eq_true rfl) d_M_met1_1 ?_
  refine j_if_eq C d_M_met1_4 hf (fun hf => ?_) (fun hf => ?_)
  · refine j_bipush (v := (-2)) C d_M_met1_33 (by decide) ?_
    obtain rfl := Option.some.inj hf
    exact j_iret C d_M_met1_35
  · refine j_iload_n C d_M_met1_7 2 rfl ?_
    refine bd hf (fun v2 hc4 hf => ?_)
    refine j_cS (rest := []) C lk_M_186 (c_M_isOwner hY hc4) rfl (by decide) rfl (Nat.le_of_ble_eq_true rfl) d_M_met1_8 ?_
    refine j_if_eq C d_M_met1_11 hf (fun hf => ?_) (fun hf => ?_)
    · refine j_bipush (v := (-2)) C d_M_met1_33 (by decide) ?_
      obtain rfl := Option.some.inj hf
      exact j_iret C d_M_met1_35
    · refine j_iload_n C d_M_met1_14 1 rfl ?_
      refine j_iload_n C d_M_met1_15 2 rfl ?_
      refine j_icmp_eq C d_M_met1_16 hf (fun hf => ?_) (fun hf => ?_)
      · refine j_bipush (v := (-2)) C d_M_met1_33 (by decide) ?_
        obtain rfl := Option.some.inj hf
        exact j_iret C d_M_met1_35
      · refine j_aload_n C d_M_met1_19 0 rfl ?_
        refine j_gS (b := 42) C fl_M_141 (kM hY rfl) (nM hY (by decide)) rfl hY.2.2.2.1 rfl (sM hY rfl) d_M_met1_20 ?_
        refine j_bipush (v := 8) C d_M_met1_23 (by decide) ?_
        refine j_iload_n C d_M_met1_25 1 rfl ?_
        refine j_imul C d_M_met1_26 ?_
        refine j_iload_n C d_M_met1_27 2 rfl ?_
        refine j_iadd C d_M_met1_28 ?_
        refine ck hf (fun hi3 hf => ?_)
        refine j_iald C (kM hY rfl) (nM hY (by decide)) (lM hY rfl) hi3 d_M_met1_29 ?_
        refine j_goto C d_M_met1_30 ?_
        obtain rfl := Option.some.inj hf
        exact j_iret C d_M_met1_35
theorem d_M_first_0 : DC b_M_first 0 (.iconst 0) 1 1 := ⟨by decide +kernel, rfl⟩
theorem d_M_first_1 : DC b_M_first 1 (.istore_n 1) 1 2 := ⟨by decide +kernel, rfl⟩
theorem d_M_first_2 : DC b_M_first 2 (.iload_n 0) 1 3 := ⟨by decide +kernel, rfl⟩
theorem d_M_first_3 : DC b_M_first 3 (.iload_n 1) 1 4 := ⟨by decide +kernel, rfl⟩
theorem d_M_first_4 : DC b_M_first 4 (.ishr) 1 5 := ⟨by decide +kernel, rfl⟩
theorem d_M_first_5 : DC b_M_first 5 (.iconst 1) 1 6 := ⟨by decide +kernel, rfl⟩
theorem d_M_first_6 : DC b_M_first 6 (.iand) 1 7 := ⟨by decide +kernel, rfl⟩
theorem d_M_first_7 : DB b_M_first 7 (.ifCond .ne 9) 9 16 10 := ⟨by decide +kernel, by decide, rfl⟩
theorem d_M_first_10 : DC b_M_first 10 (.iinc 1 1) 3 13 := ⟨by decide +kernel, rfl⟩
theorem d_M_first_13 : DB b_M_first 13 (.goto (-11)) (-11) 2 16 := ⟨by decide +kernel, by decide, rfl⟩
theorem d_M_first_16 : DC b_M_first 16 (.iload_n 1) 1 17 := ⟨by decide +kernel, rfl⟩
theorem d_M_first_17 : decode b_M_first 17 = .ok (.ireturn, 1) := by decide +kernel
theorem w_M_first_l2 {X : Ctx} {Y : Lay} (hY : IsM Y) (C : Cx X Y b_M_first 2 (some .int) "TopYardModel" 1) {N : Nat} {μ : Mem} {r : Int32} : ∀ (n : Nat) (x0 : Int32) (x1 : Int32), f_M_first_l2 N n x0 x1 = some r → J X Y (some (.int r)) μ 2 2 [(0, .int x0), (1, .int x1)] [] μ := by
  intro n
  induction n with
  | zero => intro x0 x1 hf; rw [f_M_first_l2] at hf; cases hf
  | succ n ih =>
    intro x0 x1 hf
    rw [f_M_first_l2] at hf
    refine j_iload_n C d_M_first_2 0 rfl ?_
    refine j_iload_n C d_M_first_3 1 rfl ?_
    refine j_ishr C d_M_first_4 ?_
    refine j_iconst (v := 1) C d_M_first_5 (by decide) ?_
    refine j_iand C d_M_first_6 ?_
    refine j_if_ne C d_M_first_7 hf (fun hf => ?_) (fun hf => ?_)
    · refine j_iload_n C d_M_first_16 1 rfl ?_
      obtain rfl := Option.some.inj hf
      exact j_iret C d_M_first_17
    · refine j_iinc (lvf := [(0, .int x0)]) (v := 1) C d_M_first_10 1 rfl (by decide) (by decide) rfl hf (fun v1 hf => ?_)
      refine j_goto C d_M_first_13 ?_
      refine j_sub [1, 0] rfl ?_
      exact ih x0 v1 hf
theorem c_M_first {l : Launch} {Y : Lay} (hY : IsM Y) {N : Nat} {μ : Mem} {x0 : Int32} {r : Int32} (hf : f_M_first N x0 = some r) : Ct l Y y_M_first b_M_first 2 (some .int) 1 [.int x0] (some (.int r)) μ μ := by
  refine ct_of (own := "TopYardModel") (lv := [(0, .int x0)]) (by decide +kernel) rfl (Nat.le_of_ble_eq_true rfl) rfl (fun X hl C => ?_)
  subst hl
  unfold f_M_first at hf
  refine j_iconst (v := 0) C d_M_first_0 (by decide) ?_
  refine j_istore_n (lvf := [(0, .int x0)]) C d_M_first_1 (by decide) rfl ?_
  refine j_sub [1, 0] rfl ?_
  exact w_M_first_l2 hY C N x0 0 hf
theorem d_M_costs_0 : DC b_M_costs 0 (.iload_n 1) 1 1 := ⟨by decide +kernel, rfl⟩
theorem d_M_costs_1 : DC b_M_costs 1 (.invokestatic 415) 3 4 := ⟨by decide +kernel, rfl⟩
theorem d_M_costs_4 : DC b_M_costs 4 (.istore_n 3) 1 5 := ⟨by decide +kernel, rfl⟩
theorem d_M_costs_5 : DC b_M_costs 5 (.aload_n 0) 1 6 := ⟨by decide +kernel, rfl⟩
theorem d_M_costs_6 : DC b_M_costs 6 (.getfield 141) 3 9 := ⟨by decide +kernel, rfl⟩
theorem d_M_costs_9 : DC b_M_costs 9 (.bipush 8) 2 11 := ⟨by decide +kernel, rfl⟩
theorem d_M_costs_11 : DC b_M_costs 11 (.iload_n 3) 1 12 := ⟨by decide +kernel, rfl⟩
theorem d_M_costs_12 : DC b_M_costs 12 (.imul) 1 13 := ⟨by decide +kernel, rfl⟩
theorem d_M_costs_13 : DC b_M_costs 13 (.iload_n 2) 1 14 := ⟨by decide +kernel, rfl⟩
theorem d_M_costs_14 : DC b_M_costs 14 (.iadd) 1 15 := ⟨by decide +kernel, rfl⟩
theorem d_M_costs_15 : DC b_M_costs 15 (.iaload) 1 16 := ⟨by decide +kernel, rfl⟩
theorem d_M_costs_16 : DC b_M_costs 16 (.iconst 1) 1 17 := ⟨by decide +kernel, rfl⟩
theorem d_M_costs_17 : DC b_M_costs 17 (.iadd) 1 18 := ⟨by decide +kernel, rfl⟩
theorem d_M_costs_18 : DC b_M_costs 18 (.istore 4) 2 20 := ⟨by decide +kernel, rfl⟩
theorem d_M_costs_20 : DC b_M_costs 20 (.iload 4) 2 22 := ⟨by decide +kernel, rfl⟩
theorem d_M_costs_22 : DC b_M_costs 22 (.iload 4) 2 24 := ⟨by decide +kernel, rfl⟩
theorem d_M_costs_24 : DC b_M_costs 24 (.imul) 1 25 := ⟨by decide +kernel, rfl⟩
theorem d_M_costs_25 : DC b_M_costs 25 (.aload_n 0) 1 26 := ⟨by decide +kernel, rfl⟩
theorem d_M_costs_26 : DC b_M_costs 26 (.getfield 144) 3 29 := ⟨by decide +kernel, rfl⟩
theorem d_M_costs_29 : DC b_M_costs 29 (.iload_n 1) 1 30 := ⟨by decide +kernel, rfl⟩
theorem d_M_costs_30 : DC b_M_costs 30 (.iconst 1) 1 31 := ⟨by decide +kernel, rfl⟩
theorem d_M_costs_31 : DC b_M_costs 31 (.iload_n 3) 1 32 := ⟨by decide +kernel, rfl⟩
theorem d_M_costs_32 : DC b_M_costs 32 (.ishl) 1 33 := ⟨by decide +kernel, rfl⟩
theorem d_M_costs_33 : DC b_M_costs 33 (.iconst (-1)) 1 34 := ⟨by decide +kernel, rfl⟩
theorem d_M_costs_34 : DC b_M_costs 34 (.ixor) 1 35 := ⟨by decide +kernel, rfl⟩
theorem d_M_costs_35 : DC b_M_costs 35 (.iand) 1 36 := ⟨by decide +kernel, rfl⟩
theorem d_M_costs_36 : DC b_M_costs 36 (.iconst 1) 1 37 := ⟨by decide +kernel, rfl⟩
theorem d_M_costs_37 : DC b_M_costs 37 (.iload_n 2) 1 38 := ⟨by decide +kernel, rfl⟩
theorem d_M_costs_38 : DC b_M_costs 38 (.ishl) 1 39 := ⟨by decide +kernel, rfl⟩
theorem d_M_costs_39 : DC b_M_costs 39 (.iconst (-1)) 1 40 := ⟨by decide +kernel, rfl⟩
theorem d_M_costs_40 : DC b_M_costs 40 (.ixor) 1 41 := ⟨by decide +kernel, rfl⟩
theorem d_M_costs_41 : DC b_M_costs 41 (.iand) 1 42 := ⟨by decide +kernel, rfl⟩
theorem d_M_costs_42 : DC b_M_costs 42 (.iaload) 1 43 := ⟨by decide +kernel, rfl⟩
theorem d_M_costs_43 : DC b_M_costs 43 (.iadd) 1 44 := ⟨by decide +kernel, rfl⟩
theorem d_M_costs_44 : decode b_M_costs 44 = .ok (.ireturn, 1) := by decide +kernel
theorem c_M_costs {l : Launch} {Y : Lay} (hY : IsM Y) {N : Nat} {μ : Mem} {x1 : Int32} {x2 : Int32} {r : Int32} (hf : f_M_costs N μ x1 x2 = some r) : Ct l Y y_M_costs b_M_costs 5 (some .int) 2 [.ref (yad Y 0), .int x1, .int x2] (some (.int r)) μ μ := by
  refine ct_of (own := "TopYardModel") (lv := [(0, .ref (yad Y 0)), (1, .int x1), (2, .int x2)]) (by decide +kernel) rfl (Nat.le_of_ble_eq_true rfl) rfl (fun X hl C => ?_)
  subst hl
  unfold f_M_costs at hf
  refine j_iload_n C d_M_costs_0 1 rfl ?_
  refine bd hf (fun v1 hc5 hf => ?_)
  refine j_cS (rest := []) C lk_M_415 (c_M_first hY hc5) rfl (by decide) rfl (Nat.le_of_ble_eq_true rfl) d_M_costs_1 ?_
  refine j_istore_n (lvf := [(0, .ref (yad Y 0)), (1, .int x1), (2, .int x2)]) C d_M_costs_4 (by decide) rfl ?_
  refine j_aload_n C d_M_costs_5 1 rfl ?_
  refine j_gS (b := 42) C fl_M_141 (kM hY rfl) (nM hY (by decide)) rfl hY.2.2.2.1 rfl (sM hY rfl) d_M_costs_6 ?_
  refine j_bipush (v := 8) C d_M_costs_9 (by decide) ?_
  refine j_iload_n C d_M_costs_11 0 rfl ?_
  refine j_imul C d_M_costs_12 ?_
  refine j_iload_n C d_M_costs_13 3 rfl ?_
  refine j_iadd C d_M_costs_14 ?_
  refine ck hf (fun hi2 hf => ?_)
  refine j_iald C (kM hY rfl) (nM hY (by decide)) (lM hY rfl) hi2 d_M_costs_15 ?_
  refine j_iconst (v := 1) C d_M_costs_16 (by decide) ?_
  refine j_iadd C d_M_costs_17 ?_
  refine j_istoreN (lvf := [(3, .int v1), (0, .ref (yad Y 0)), (1, .int x1), (2, .int x2)]) C d_M_costs_18 (by decide) rfl hf (fun v3 hf => ?_)
  refine j_iload C d_M_costs_20 0 rfl ?_
  refine j_iload C d_M_costs_22 0 rfl ?_
  refine j_imul C d_M_costs_24 ?_
  refine j_aload_n C d_M_costs_25 2 rfl ?_
  refine j_gS (b := 43) C fl_M_144 (kM hY rfl) (nM hY (by decide)) rfl hY.2.2.2.1 rfl (sM hY rfl) d_M_costs_26 ?_
  refine j_iload_n C d_M_costs_29 3 rfl ?_
  refine j_iconst (v := 1) C d_M_costs_30 (by decide) ?_
  refine j_iload_n C d_M_costs_31 1 rfl ?_
  refine j_ishl C d_M_costs_32 ?_
  refine j_iconst (v := (-1)) C d_M_costs_33 (by decide) ?_
  refine j_ixor C d_M_costs_34 ?_
  refine j_iand C d_M_costs_35 ?_
  refine j_iconst (v := 1) C d_M_costs_36 (by decide) ?_
  refine j_iload_n C d_M_costs_37 4 rfl ?_
  refine j_ishl C d_M_costs_38 ?_
  refine j_iconst (v := (-1)) C d_M_costs_39 (by decide) ?_
  refine j_ixor C d_M_costs_40 ?_
  refine j_iand C d_M_costs_41 ?_
  refine ck hf (fun hi4 hf => ?_)
  refine j_iald C (kM hY rfl) (nM hY (by decide)) (lM hY rfl) hi4 d_M_costs_42 ?_
  refine j_iadd C d_M_costs_43 ?_
  obtain rfl := Option.some.inj hf
  exact j_iret C d_M_costs_44
theorem d_M_findPairs_0 : DC b_M_findPairs 0 (.aload_n 0) 1 1 := ⟨by decide +kernel, rfl⟩
theorem d_M_findPairs_1 : DC b_M_findPairs 1 (.getfield 144) 3 4 := ⟨by decide +kernel, rfl⟩
theorem d_M_findPairs_4 : DC b_M_findPairs 4 (.iconst 0) 1 5 := ⟨by decide +kernel, rfl⟩
theorem d_M_findPairs_5 : DC b_M_findPairs 5 (.iconst 0) 1 6 := ⟨by decide +kernel, rfl⟩
theorem d_M_findPairs_6 : DC b_M_findPairs 6 (.iastore) 1 7 := ⟨by decide +kernel, rfl⟩
theorem d_M_findPairs_7 : DC b_M_findPairs 7 (.iconst 1) 1 8 := ⟨by decide +kernel, rfl⟩
theorem d_M_findPairs_8 : DC b_M_findPairs 8 (.istore_n 1) 1 9 := ⟨by decide +kernel, rfl⟩
theorem d_M_findPairs_9 : DC b_M_findPairs 9 (.iload_n 1) 1 10 := ⟨by decide +kernel, rfl⟩
theorem d_M_findPairs_10 : DC b_M_findPairs 10 (.sipush 256) 3 13 := ⟨by decide +kernel, rfl⟩
theorem d_M_findPairs_13 : DB b_M_findPairs 13 (.if_icmp .ge 95) 95 108 16 := ⟨by decide +kernel, by decide, rfl⟩
theorem d_M_findPairs_16 : DC b_M_findPairs 16 (.aload_n 0) 1 17 := ⟨by decide +kernel, rfl⟩
theorem d_M_findPairs_17 : DC b_M_findPairs 17 (.getfield 144) 3 20 := ⟨by decide +kernel, rfl⟩
theorem d_M_findPairs_20 : DC b_M_findPairs 20 (.iload_n 1) 1 21 := ⟨by decide +kernel, rfl⟩
theorem d_M_findPairs_21 : DC b_M_findPairs 21 (.ldc 218) 2 23 := ⟨by decide +kernel, rfl⟩
theorem d_M_findPairs_23 : DC b_M_findPairs 23 (.iastore) 1 24 := ⟨by decide +kernel, rfl⟩
theorem d_M_findPairs_24 : DC b_M_findPairs 24 (.iconst 0) 1 25 := ⟨by decide +kernel, rfl⟩
theorem d_M_findPairs_25 : DC b_M_findPairs 25 (.istore_n 2) 1 26 := ⟨by decide +kernel, rfl⟩
theorem d_M_findPairs_26 : DC b_M_findPairs 26 (.iload_n 2) 1 27 := ⟨by decide +kernel, rfl⟩
theorem d_M_findPairs_27 : DC b_M_findPairs 27 (.bipush 8) 2 29 := ⟨by decide +kernel, rfl⟩
theorem d_M_findPairs_29 : DB b_M_findPairs 29 (.if_icmp .ge 73) 73 102 32 := ⟨by decide +kernel, by decide, rfl⟩
theorem d_M_findPairs_32 : DC b_M_findPairs 32 (.iload_n 1) 1 33 := ⟨by decide +kernel, rfl⟩
theorem d_M_findPairs_33 : DC b_M_findPairs 33 (.invokestatic 339) 3 36 := ⟨by decide +kernel, rfl⟩
theorem d_M_findPairs_36 : DC b_M_findPairs 36 (.iconst 2) 1 37 := ⟨by decide +kernel, rfl⟩
theorem d_M_findPairs_37 : DC b_M_findPairs 37 (.irem) 1 38 := ⟨by decide +kernel, rfl⟩
theorem d_M_findPairs_38 : DB b_M_findPairs 38 (.ifCond .ne 64) 64 102 41 := ⟨by decide +kernel, by decide, rfl⟩
theorem d_M_findPairs_41 : DC b_M_findPairs 41 (.iload_n 1) 1 42 := ⟨by decide +kernel, rfl⟩
theorem d_M_findPairs_42 : DC b_M_findPairs 42 (.iload_n 2) 1 43 := ⟨by decide +kernel, rfl⟩
theorem d_M_findPairs_43 : DC b_M_findPairs 43 (.ishr) 1 44 := ⟨by decide +kernel, rfl⟩
theorem d_M_findPairs_44 : DC b_M_findPairs 44 (.iconst 1) 1 45 := ⟨by decide +kernel, rfl⟩
theorem d_M_findPairs_45 : DC b_M_findPairs 45 (.iand) 1 46 := ⟨by decide +kernel, rfl⟩
theorem d_M_findPairs_46 : DC b_M_findPairs 46 (.iconst 1) 1 47 := ⟨by decide +kernel, rfl⟩
theorem d_M_findPairs_47 : DB b_M_findPairs 47 (.if_icmp .ne 49) 49 96 50 := ⟨by decide +kernel, by decide, rfl⟩
theorem d_M_findPairs_50 : DC b_M_findPairs 50 (.iload_n 2) 1 51 := ⟨by decide +kernel, rfl⟩
theorem d_M_findPairs_51 : DC b_M_findPairs 51 (.iload_n 1) 1 52 := ⟨by decide +kernel, rfl⟩
theorem d_M_findPairs_52 : DC b_M_findPairs 52 (.invokestatic 415) 3 55 := ⟨by decide +kernel, rfl⟩
theorem d_M_findPairs_55 : DB b_M_findPairs 55 (.if_icmp .eq 41) 41 96 58 := ⟨by decide +kernel, by decide, rfl⟩
theorem d_M_findPairs_58 : DC b_M_findPairs 58 (.aload_n 0) 1 59 := ⟨by decide +kernel, rfl⟩
theorem d_M_findPairs_59 : DC b_M_findPairs 59 (.getfield 144) 3 62 := ⟨by decide +kernel, rfl⟩
theorem d_M_findPairs_62 : DC b_M_findPairs 62 (.iload_n 1) 1 63 := ⟨by decide +kernel, rfl⟩
theorem d_M_findPairs_63 : DC b_M_findPairs 63 (.iaload) 1 64 := ⟨by decide +kernel, rfl⟩
theorem d_M_findPairs_64 : DC b_M_findPairs 64 (.ldc 218) 2 66 := ⟨by decide +kernel, rfl⟩
theorem d_M_findPairs_66 : DB b_M_findPairs 66 (.if_icmp .eq 18) 18 84 69 := ⟨by decide +kernel, by decide, rfl⟩
theorem d_M_findPairs_69 : DC b_M_findPairs 69 (.aload_n 0) 1 70 := ⟨by decide +kernel, rfl⟩
theorem d_M_findPairs_70 : DC b_M_findPairs 70 (.iload_n 1) 1 71 := ⟨by decide +kernel, rfl⟩
theorem d_M_findPairs_71 : DC b_M_findPairs 71 (.iload_n 2) 1 72 := ⟨by decide +kernel, rfl⟩
theorem d_M_findPairs_72 : DC b_M_findPairs 72 (.invokevirtual 418) 3 75 := ⟨by decide +kernel, rfl⟩
theorem d_M_findPairs_75 : DC b_M_findPairs 75 (.aload_n 0) 1 76 := ⟨by decide +kernel, rfl⟩
theorem d_M_findPairs_76 : DC b_M_findPairs 76 (.getfield 144) 3 79 := ⟨by decide +kernel, rfl⟩
theorem d_M_findPairs_79 : DC b_M_findPairs 79 (.iload_n 1) 1 80 := ⟨by decide +kernel, rfl⟩
theorem d_M_findPairs_80 : DC b_M_findPairs 80 (.iaload) 1 81 := ⟨by decide +kernel, rfl⟩
theorem d_M_findPairs_81 : DB b_M_findPairs 81 (.if_icmp .ge 15) 15 96 84 := ⟨by decide +kernel, by decide, rfl⟩
theorem d_M_findPairs_84 : DC b_M_findPairs 84 (.aload_n 0) 1 85 := ⟨by decide +kernel, rfl⟩
theorem d_M_findPairs_85 : DC b_M_findPairs 85 (.getfield 144) 3 88 := ⟨by decide +kernel, rfl⟩
theorem d_M_findPairs_88 : DC b_M_findPairs 88 (.iload_n 1) 1 89 := ⟨by decide +kernel, rfl⟩
theorem d_M_findPairs_89 : DC b_M_findPairs 89 (.aload_n 0) 1 90 := ⟨by decide +kernel, rfl⟩
theorem d_M_findPairs_90 : DC b_M_findPairs 90 (.iload_n 1) 1 91 := ⟨by decide +kernel, rfl⟩
theorem d_M_findPairs_91 : DC b_M_findPairs 91 (.iload_n 2) 1 92 := ⟨by decide +kernel, rfl⟩
theorem d_M_findPairs_92 : DC b_M_findPairs 92 (.invokevirtual 418) 3 95 := ⟨by decide +kernel, rfl⟩
theorem d_M_findPairs_95 : DC b_M_findPairs 95 (.iastore) 1 96 := ⟨by decide +kernel, rfl⟩
theorem d_M_findPairs_96 : DC b_M_findPairs 96 (.iinc 2 1) 3 99 := ⟨by decide +kernel, rfl⟩
theorem d_M_findPairs_99 : DB b_M_findPairs 99 (.goto (-73)) (-73) 26 102 := ⟨by decide +kernel, by decide, rfl⟩
theorem d_M_findPairs_102 : DC b_M_findPairs 102 (.iinc 1 1) 3 105 := ⟨by decide +kernel, rfl⟩
theorem d_M_findPairs_105 : DB b_M_findPairs 105 (.goto (-96)) (-96) 9 108 := ⟨by decide +kernel, by decide, rfl⟩
theorem d_M_findPairs_108 : decode b_M_findPairs 108 = .ok (.return_, 1) := by decide +kernel
theorem w_M_findPairs_b96 {X : Ctx} {Y : Lay} (hY : IsM Y) (C : Cx X Y b_M_findPairs 3 none "TopYardModel" 3) {N : Nat} {r : Mem} (k9 : Int32 → Mem → Option (Mem)) (k26 : Int32 → Int32 → Mem → Option (Mem)) (hk9 : ∀ (x1 : Int32) (ν : Mem), k9 x1 ν = some r → J X Y none r 3 9 [(0, .ref (yad Y 0)), (1, .int x1)] [] ν) (hk26 : ∀ (x1 : Int32) (x2 : Int32) (ν : Mem), k26 x1 x2 ν = some r → J X Y none r 3 26 [(0, .ref (yad Y 0)), (1, .int x1), (2, .int x2)] [] ν) (x1 : Int32) (x2 : Int32) (μ : Mem) (hf : f_M_findPairs_b96 N k9 k26 x1 x2 μ = some r) : J X Y none r 3 96 [(0, .ref (yad Y 0)), (1, .int x1), (2, .int x2)] [] μ := by
  unfold f_M_findPairs_b96 at hf
  refine j_iinc (lvf := [(0, .ref (yad Y 0)), (1, .int x1)]) (v := 1) C d_M_findPairs_96 2 rfl (by decide) (by decide) rfl hf (fun v1 hf => ?_)
  refine j_goto C d_M_findPairs_99 ?_
  refine j_sub [1, 2, 0] rfl ?_
  exact hk26 x1 v1 μ hf
theorem w_M_findPairs_b84 {X : Ctx} {Y : Lay} (hY : IsM Y) (C : Cx X Y b_M_findPairs 3 none "TopYardModel" 3) {N : Nat} {r : Mem} (k9 : Int32 → Mem → Option (Mem)) (k26 : Int32 → Int32 → Mem → Option (Mem)) (hk9 : ∀ (x1 : Int32) (ν : Mem), k9 x1 ν = some r → J X Y none r 3 9 [(0, .ref (yad Y 0)), (1, .int x1)] [] ν) (hk26 : ∀ (x1 : Int32) (x2 : Int32) (ν : Mem), k26 x1 x2 ν = some r → J X Y none r 3 26 [(0, .ref (yad Y 0)), (1, .int x1), (2, .int x2)] [] ν) (x1 : Int32) (x2 : Int32) (μ : Mem) (hf : f_M_findPairs_b84 N k9 k26 x1 x2 μ = some r) : J X Y none r 3 84 [(0, .ref (yad Y 0)), (1, .int x1), (2, .int x2)] [] μ := by
  unfold f_M_findPairs_b84 at hf
  refine j_aload_n C d_M_findPairs_84 0 rfl ?_
  refine j_gS (b := 43) C fl_M_144 (kM hY rfl) (nM hY (by decide)) rfl hY.2.2.2.1 rfl (sM hY rfl) d_M_findPairs_85 ?_
  refine j_iload_n C d_M_findPairs_88 1 rfl ?_
  refine j_aload_n C d_M_findPairs_89 0 rfl ?_
  refine j_iload_n C d_M_findPairs_90 1 rfl ?_
  refine j_iload_n C d_M_findPairs_91 2 rfl ?_
  refine bd hf (fun v1 hc4 hf => ?_)
  refine j_cV (rest := [.int x1, .ref (yad Y 43)]) C lk_M_418 (c_M_costs hY hc4) rfl (kM hY rfl) (nM hY (by decide)) (by decide) rfl rfl (by decide) rfl (Nat.le_of_ble_eq_true rfl) d_M_findPairs_92 ?_
  refine ck hf (fun hi2 hf => ?_)
  refine j_iast C (kM hY rfl) (nM hY (by decide)) (lM hY rfl) hi2 d_M_findPairs_95 hf (fun μ3 hf => ?_)
  refine j_sub [0, 1, 2] rfl ?_
  exact w_M_findPairs_b96 hY C k9 k26 hk9 hk26 x1 x2 μ3 hf
theorem w_M_findPairs_b102 {X : Ctx} {Y : Lay} (hY : IsM Y) (C : Cx X Y b_M_findPairs 3 none "TopYardModel" 3) {N : Nat} {r : Mem} (k9 : Int32 → Mem → Option (Mem)) (hk9 : ∀ (x1 : Int32) (ν : Mem), k9 x1 ν = some r → J X Y none r 3 9 [(0, .ref (yad Y 0)), (1, .int x1)] [] ν) (x1 : Int32) (μ : Mem) (hf : f_M_findPairs_b102 N k9 x1 μ = some r) : J X Y none r 3 102 [(0, .ref (yad Y 0)), (1, .int x1)] [] μ := by
  unfold f_M_findPairs_b102 at hf
  refine j_iinc (lvf := [(0, .ref (yad Y 0))]) (v := 1) C d_M_findPairs_102 1 rfl (by decide) (by decide) rfl hf (fun v1 hf => ?_)
  refine j_goto C d_M_findPairs_105 ?_
  refine j_sub [1, 0] rfl ?_
  exact hk9 v1 μ hf
theorem w_M_findPairs_l26 {X : Ctx} {Y : Lay} (hY : IsM Y) (C : Cx X Y b_M_findPairs 3 none "TopYardModel" 3) {N : Nat} {r : Mem} (k9 : Int32 → Mem → Option (Mem)) (hk9 : ∀ (x1 : Int32) (ν : Mem), k9 x1 ν = some r → J X Y none r 3 9 [(0, .ref (yad Y 0)), (1, .int x1)] [] ν) : ∀ (n : Nat) (x1 : Int32) (x2 : Int32) (μ : Mem), f_M_findPairs_l26 N k9 n x1 x2 μ = some r → J X Y none r 3 26 [(0, .ref (yad Y 0)), (1, .int x1), (2, .int x2)] [] μ := by
  intro n
  induction n with
  | zero => intro x1 x2 μ hf; rw [f_M_findPairs_l26] at hf; cases hf
  | succ n ih =>
    intro x1 x2 μ hf
    rw [f_M_findPairs_l26] at hf
    refine j_iload_n C d_M_findPairs_26 2 rfl ?_
    refine j_bipush (v := 8) C d_M_findPairs_27 (by decide) ?_
    refine j_icmp_ge C d_M_findPairs_29 hf (fun hf => ?_) (fun hf => ?_)
    · refine j_sub [0, 1] rfl ?_
      exact w_M_findPairs_b102 hY C k9 hk9 x1 μ hf
    · refine j_iload_n C d_M_findPairs_32 1 rfl ?_
      refine bd hf (fun v1 hc8 hf => ?_)
      refine j_cS (rest := []) C lk_M_339 (c_M_ones hY hc8) rfl (by decide) rfl (Nat.le_of_ble_eq_true rfl) d_M_findPairs_33 ?_
      refine j_iconst (v := 2) C d_M_findPairs_36 (by decide) ?_
      refine j_irem C d_M_findPairs_37 (by decide) ?_
      refine j_if_ne C d_M_findPairs_38 hf (fun hf => ?_) (fun hf => ?_)
      · refine j_sub [0, 1] rfl ?_
        exact w_M_findPairs_b102 hY C k9 hk9 x1 μ hf
      · refine j_iload_n C d_M_findPairs_41 1 rfl ?_
        refine j_iload_n C d_M_findPairs_42 2 rfl ?_
        refine j_ishr C d_M_findPairs_43 ?_
        refine j_iconst (v := 1) C d_M_findPairs_44 (by decide) ?_
        refine j_iand C d_M_findPairs_45 ?_
        refine j_iconst (v := 1) C d_M_findPairs_46 (by decide) ?_
        refine j_icmp_ne C d_M_findPairs_47 hf (fun hf => ?_) (fun hf => ?_)
        · refine j_sub [0, 1, 2] rfl ?_
          exact w_M_findPairs_b96 hY C k9 (f_M_findPairs_l26 N k9 n) hk9 ih x1 x2 μ hf
        · refine j_iload_n C d_M_findPairs_50 2 rfl ?_
          refine j_iload_n C d_M_findPairs_51 1 rfl ?_
          refine bd hf (fun v2 hc7 hf => ?_)
          refine j_cS (rest := [.int x2]) C lk_M_415 (c_M_first hY hc7) rfl (by decide) rfl (Nat.le_of_ble_eq_true rfl) d_M_findPairs_52 ?_
          refine j_icmp_eq C d_M_findPairs_55 hf (fun hf => ?_) (fun hf => ?_)
          · refine j_sub [0, 1, 2] rfl ?_
            exact w_M_findPairs_b96 hY C k9 (f_M_findPairs_l26 N k9 n) hk9 ih x1 x2 μ hf
          · refine j_aload_n C d_M_findPairs_58 0 rfl ?_
            refine j_gS (b := 43) C fl_M_144 (kM hY rfl) (nM hY (by decide)) rfl hY.2.2.2.1 rfl (sM hY rfl) d_M_findPairs_59 ?_
            refine j_iload_n C d_M_findPairs_62 1 rfl ?_
            refine ck hf (fun hi3 hf => ?_)
            refine j_iald C (kM hY rfl) (nM hY (by decide)) (lM hY rfl) hi3 d_M_findPairs_63 ?_
            refine j_ldc (v := (-2147483648)) C d_M_findPairs_64 wd_171 ?_
            refine j_icmp_eq C d_M_findPairs_66 hf (fun hf => ?_) (fun hf => ?_)
            · refine j_sub [0, 1, 2] rfl ?_
              exact w_M_findPairs_b84 hY C k9 (f_M_findPairs_l26 N k9 n) hk9 ih x1 x2 μ hf
            · refine j_aload_n C d_M_findPairs_69 0 rfl ?_
              refine j_iload_n C d_M_findPairs_70 1 rfl ?_
              refine j_iload_n C d_M_findPairs_71 2 rfl ?_
              refine bd hf (fun v4 hc6 hf => ?_)
              refine j_cV (rest := []) C lk_M_418 (c_M_costs hY hc6) rfl (kM hY rfl) (nM hY (by decide)) (by decide) rfl rfl (by decide) rfl (Nat.le_of_ble_eq_true rfl) d_M_findPairs_72 ?_
              refine j_aload_n C d_M_findPairs_75 0 rfl ?_
              refine j_gS (b := 43) C fl_M_144 (kM hY rfl) (nM hY (by decide)) rfl hY.2.2.2.1 rfl (sM hY rfl) d_M_findPairs_76 ?_
              refine j_iload_n C d_M_findPairs_79 1 rfl ?_
              refine ck hf (fun hi5 hf => ?_)
              refine j_iald C (kM hY rfl) (nM hY (by decide)) (lM hY rfl) hi5 d_M_findPairs_80 ?_
              refine j_icmp_ge C d_M_findPairs_81 hf (fun hf => ?_) (fun hf => ?_)
              · refine j_sub [0, 1, 2] rfl ?_
                exact w_M_findPairs_b96 hY C k9 (f_M_findPairs_l26 N k9 n) hk9 ih x1 x2 μ hf
              · refine j_sub [0, 1, 2] rfl ?_
                exact w_M_findPairs_b84 hY C k9 (f_M_findPairs_l26 N k9 n) hk9 ih x1 x2 μ hf
theorem w_M_findPairs_l9 {X : Ctx} {Y : Lay} (hY : IsM Y) (C : Cx X Y b_M_findPairs 3 none "TopYardModel" 3) {N : Nat} {r : Mem} : ∀ (n : Nat) (x1 : Int32) (μ : Mem), f_M_findPairs_l9 N n x1 μ = some r → J X Y none r 3 9 [(0, .ref (yad Y 0)), (1, .int x1)] [] μ := by
  intro n
  induction n with
  | zero => intro x1 μ hf; rw [f_M_findPairs_l9] at hf; cases hf
  | succ n ih =>
    intro x1 μ hf
    rw [f_M_findPairs_l9] at hf
    refine j_iload_n C d_M_findPairs_9 1 rfl ?_
    refine j_sipush (v := 256) C d_M_findPairs_10 (by decide) ?_
    refine j_icmp_ge C d_M_findPairs_13 hf (fun hf => ?_) (fun hf => ?_)
    · obtain rfl := Option.some.inj hf
      exact j_vret C d_M_findPairs_108
    · refine j_aload_n C d_M_findPairs_16 0 rfl ?_
      refine j_gS (b := 43) C fl_M_144 (kM hY rfl) (nM hY (by decide)) rfl hY.2.2.2.1 rfl (sM hY rfl) d_M_findPairs_17 ?_
      refine j_iload_n C d_M_findPairs_20 1 rfl ?_
      refine j_ldc (v := (-2147483648)) C d_M_findPairs_21 wd_171 ?_
      refine ck hf (fun hi1 hf => ?_)
      refine j_iast C (kM hY rfl) (nM hY (by decide)) (lM hY rfl) hi1 d_M_findPairs_23 hf (fun μ2 hf => ?_)
      refine j_iconst (v := 0) C d_M_findPairs_24 (by decide) ?_
      refine j_istore_n (lvf := [(0, .ref (yad Y 0)), (1, .int x1)]) C d_M_findPairs_25 (by decide) rfl ?_
      refine j_sub [1, 2, 0] rfl ?_
      exact w_M_findPairs_l26 hY C (f_M_findPairs_l9 N n) ih N x1 0 μ2 hf
theorem c_M_findPairs {l : Launch} {Y : Lay} (hY : IsM Y) {N : Nat} {μ : Mem} {r : Mem} (hf : f_M_findPairs N μ = some r) : Ct l Y y_M_findPairs b_M_findPairs 3 none 3 [.ref (yad Y 0)] none μ r := by
  refine ct_of (own := "TopYardModel") (lv := [(0, .ref (yad Y 0))]) (by decide +kernel) rfl (Nat.le_of_ble_eq_true rfl) rfl (fun X hl C => ?_)
  subst hl
  unfold f_M_findPairs at hf
  refine j_aload_n C d_M_findPairs_0 0 rfl ?_
  refine j_gS (b := 43) C fl_M_144 (kM hY rfl) (nM hY (by decide)) rfl hY.2.2.2.1 rfl (sM hY rfl) d_M_findPairs_1 ?_
  refine j_iconst (v := 0) C d_M_findPairs_4 (by decide) ?_
  refine j_iconst (v := 0) C d_M_findPairs_5 (by decide) ?_
  refine ck hf (fun hi1 hf => ?_)
  refine j_iast C (kM hY rfl) (nM hY (by decide)) (lM hY rfl) hi1 d_M_findPairs_6 hf (fun μ2 hf => ?_)
  refine j_iconst (v := 1) C d_M_findPairs_7 (by decide) ?_
  refine j_istore_n (lvf := [(0, .ref (yad Y 0))]) C d_M_findPairs_8 (by decide) rfl ?_
  refine j_sub [1, 0] rfl ?_
  exact w_M_findPairs_l9 hY C N 1 μ2 hf
theorem d_M_pairing_0 : DC b_M_pairing 0 (.iload_n 1) 1 1 := ⟨by decide +kernel, rfl⟩
theorem d_M_pairing_1 : DC b_M_pairing 1 (.i2l) 1 2 := ⟨by decide +kernel, rfl⟩
theorem d_M_pairing_2 : DC b_M_pairing 2 (.lconst 1) 1 3 := ⟨by decide +kernel, rfl⟩
theorem d_M_pairing_3 : DC b_M_pairing 3 (.ldc2_w 385) 3 6 := ⟨by decide +kernel, rfl⟩
theorem d_M_pairing_6 : DC b_M_pairing 6 (.invokestatic 164) 3 9 := ⟨by decide +kernel, rfl⟩
theorem d_M_pairing_9 : DB b_M_pairing 9 (.ifCond .eq 27) 27 36 12 := ⟨by decide +kernel, by decide, rfl⟩
theorem d_M_pairing_12 : DC b_M_pairing 12 (.iload_n 1) 1 13 := ⟨by decide +kernel, rfl⟩
theorem d_M_pairing_13 : DC b_M_pairing 13 (.invokestatic 339) 3 16 := ⟨by decide +kernel, rfl⟩
theorem d_M_pairing_16 : DC b_M_pairing 16 (.iconst 2) 1 17 := ⟨by decide +kernel, rfl⟩
theorem d_M_pairing_17 : DC b_M_pairing 17 (.irem) 1 18 := ⟨by decide +kernel, rfl⟩
theorem d_M_pairing_18 : DB b_M_pairing 18 (.ifCond .ne 18) 18 36 21 := ⟨by decide +kernel, by decide, rfl⟩
theorem d_M_pairing_21 : DC b_M_pairing 21 (.iload_n 2) 1 22 := ⟨by decide +kernel, rfl⟩
theorem d_M_pairing_22 : DC b_M_pairing 22 (.invokestatic 186) 3 25 := ⟨by decide +kernel, rfl⟩
theorem d_M_pairing_25 : DB b_M_pairing 25 (.ifCond .eq 11) 11 36 28 := ⟨by decide +kernel, by decide, rfl⟩
theorem d_M_pairing_28 : DC b_M_pairing 28 (.iload_n 1) 1 29 := ⟨by decide +kernel, rfl⟩
theorem d_M_pairing_29 : DC b_M_pairing 29 (.iload_n 2) 1 30 := ⟨by decide +kernel, rfl⟩
theorem d_M_pairing_30 : DC b_M_pairing 30 (.ishr) 1 31 := ⟨by decide +kernel, rfl⟩
theorem d_M_pairing_31 : DC b_M_pairing 31 (.iconst 1) 1 32 := ⟨by decide +kernel, rfl⟩
theorem d_M_pairing_32 : DC b_M_pairing 32 (.iand) 1 33 := ⟨by decide +kernel, rfl⟩
theorem d_M_pairing_33 : DB b_M_pairing 33 (.ifCond .ne 6) 6 39 36 := ⟨by decide +kernel, by decide, rfl⟩
theorem d_M_pairing_36 : DC b_M_pairing 36 (.bipush (-2)) 2 38 := ⟨by decide +kernel, rfl⟩
theorem d_M_pairing_38 : decode b_M_pairing 38 = .ok (.ireturn, 1) := by decide +kernel
theorem d_M_pairing_39 : DC b_M_pairing 39 (.aload_n 0) 1 40 := ⟨by decide +kernel, rfl⟩
theorem d_M_pairing_40 : DC b_M_pairing 40 (.invokevirtual 421) 3 43 := ⟨by decide +kernel, rfl⟩
theorem d_M_pairing_43 : DC b_M_pairing 43 (.iload_n 1) 1 44 := ⟨by decide +kernel, rfl⟩
theorem d_M_pairing_44 : DC b_M_pairing 44 (.istore_n 3) 1 45 := ⟨by decide +kernel, rfl⟩
theorem d_M_pairing_45 : DC b_M_pairing 45 (.iload_n 3) 1 46 := ⟨by decide +kernel, rfl⟩
theorem d_M_pairing_46 : DC b_M_pairing 46 (.invokestatic 415) 3 49 := ⟨by decide +kernel, rfl⟩
theorem d_M_pairing_49 : DC b_M_pairing 49 (.istore 4) 2 51 := ⟨by decide +kernel, rfl⟩
theorem d_M_pairing_51 : DC b_M_pairing 51 (.iload 4) 2 53 := ⟨by decide +kernel, rfl⟩
theorem d_M_pairing_53 : DC b_M_pairing 53 (.iconst 1) 1 54 := ⟨by decide +kernel, rfl⟩
theorem d_M_pairing_54 : DC b_M_pairing 54 (.iadd) 1 55 := ⟨by decide +kernel, rfl⟩
theorem d_M_pairing_55 : DC b_M_pairing 55 (.istore 5) 2 57 := ⟨by decide +kernel, rfl⟩
theorem d_M_pairing_57 : DC b_M_pairing 57 (.iload_n 3) 1 58 := ⟨by decide +kernel, rfl⟩
theorem d_M_pairing_58 : DC b_M_pairing 58 (.iload 5) 2 60 := ⟨by decide +kernel, rfl⟩
theorem d_M_pairing_60 : DC b_M_pairing 60 (.ishr) 1 61 := ⟨by decide +kernel, rfl⟩
theorem d_M_pairing_61 : DC b_M_pairing 61 (.iconst 1) 1 62 := ⟨by decide +kernel, rfl⟩
theorem d_M_pairing_62 : DC b_M_pairing 62 (.iand) 1 63 := ⟨by decide +kernel, rfl⟩
theorem d_M_pairing_63 : DB b_M_pairing 63 (.ifCond .eq 19) 19 82 66 := ⟨by decide +kernel, by decide, rfl⟩
theorem d_M_pairing_66 : DC b_M_pairing 66 (.aload_n 0) 1 67 := ⟨by decide +kernel, rfl⟩
theorem d_M_pairing_67 : DC b_M_pairing 67 (.iload_n 3) 1 68 := ⟨by decide +kernel, rfl⟩
theorem d_M_pairing_68 : DC b_M_pairing 68 (.iload 5) 2 70 := ⟨by decide +kernel, rfl⟩
theorem d_M_pairing_70 : DC b_M_pairing 70 (.invokevirtual 418) 3 73 := ⟨by decide +kernel, rfl⟩
theorem d_M_pairing_73 : DC b_M_pairing 73 (.aload_n 0) 1 74 := ⟨by decide +kernel, rfl⟩
theorem d_M_pairing_74 : DC b_M_pairing 74 (.getfield 144) 3 77 := ⟨by decide +kernel, rfl⟩
theorem d_M_pairing_77 : DC b_M_pairing 77 (.iload_n 3) 1 78 := ⟨by decide +kernel, rfl⟩
theorem d_M_pairing_78 : DC b_M_pairing 78 (.iaload) 1 79 := ⟨by decide +kernel, rfl⟩
theorem d_M_pairing_79 : DB b_M_pairing 79 (.if_icmp .eq 9) 9 88 82 := ⟨by decide +kernel, by decide, rfl⟩
theorem d_M_pairing_82 : DC b_M_pairing 82 (.iinc 5 1) 3 85 := ⟨by decide +kernel, rfl⟩
theorem d_M_pairing_85 : DB b_M_pairing 85 (.goto (-28)) (-28) 57 88 := ⟨by decide +kernel, by decide, rfl⟩
theorem d_M_pairing_88 : DC b_M_pairing 88 (.iload 4) 2 90 := ⟨by decide +kernel, rfl⟩
theorem d_M_pairing_90 : DC b_M_pairing 90 (.iload_n 2) 1 91 := ⟨by decide +kernel, rfl⟩
theorem d_M_pairing_91 : DB b_M_pairing 91 (.if_icmp .eq 9) 9 100 94 := ⟨by decide +kernel, by decide, rfl⟩
theorem d_M_pairing_94 : DC b_M_pairing 94 (.iload 5) 2 96 := ⟨by decide +kernel, rfl⟩
theorem d_M_pairing_96 : DC b_M_pairing 96 (.iload_n 2) 1 97 := ⟨by decide +kernel, rfl⟩
theorem d_M_pairing_97 : DB b_M_pairing 97 (.if_icmp .ne 17) 17 114 100 := ⟨by decide +kernel, by decide, rfl⟩
theorem d_M_pairing_100 : DC b_M_pairing 100 (.iload 4) 2 102 := ⟨by decide +kernel, rfl⟩
theorem d_M_pairing_102 : DC b_M_pairing 102 (.iload_n 2) 1 103 := ⟨by decide +kernel, rfl⟩
theorem d_M_pairing_103 : DB b_M_pairing 103 (.if_icmp .ne 8) 8 111 106 := ⟨by decide +kernel, by decide, rfl⟩
theorem d_M_pairing_106 : DC b_M_pairing 106 (.iload 5) 2 108 := ⟨by decide +kernel, rfl⟩
theorem d_M_pairing_108 : DB b_M_pairing 108 (.goto 5) 5 113 111 := ⟨by decide +kernel, by decide, rfl⟩
theorem d_M_pairing_111 : DC b_M_pairing 111 (.iload 4) 2 113 := ⟨by decide +kernel, rfl⟩
theorem d_M_pairing_113 : decode b_M_pairing 113 = .ok (.ireturn, 1) := by decide +kernel
theorem d_M_pairing_114 : DC b_M_pairing 114 (.iload_n 3) 1 115 := ⟨by decide +kernel, rfl⟩
theorem d_M_pairing_115 : DC b_M_pairing 115 (.iconst 1) 1 116 := ⟨by decide +kernel, rfl⟩
theorem d_M_pairing_116 : DC b_M_pairing 116 (.iload 4) 2 118 := ⟨by decide +kernel, rfl⟩
theorem d_M_pairing_118 : DC b_M_pairing 118 (.ishl) 1 119 := ⟨by decide +kernel, rfl⟩
theorem d_M_pairing_119 : DC b_M_pairing 119 (.iconst (-1)) 1 120 := ⟨by decide +kernel, rfl⟩
theorem d_M_pairing_120 : DC b_M_pairing 120 (.ixor) 1 121 := ⟨by decide +kernel, rfl⟩
theorem d_M_pairing_121 : DC b_M_pairing 121 (.iand) 1 122 := ⟨by decide +kernel, rfl⟩
theorem d_M_pairing_122 : DC b_M_pairing 122 (.iconst 1) 1 123 := ⟨by decide +kernel, rfl⟩
theorem d_M_pairing_123 : DC b_M_pairing 123 (.iload 5) 2 125 := ⟨by decide +kernel, rfl⟩
theorem d_M_pairing_125 : DC b_M_pairing 125 (.ishl) 1 126 := ⟨by decide +kernel, rfl⟩
theorem d_M_pairing_126 : DC b_M_pairing 126 (.iconst (-1)) 1 127 := ⟨by decide +kernel, rfl⟩
theorem d_M_pairing_127 : DC b_M_pairing 127 (.ixor) 1 128 := ⟨by decide +kernel, rfl⟩
theorem d_M_pairing_128 : DC b_M_pairing 128 (.iand) 1 129 := ⟨by decide +kernel, rfl⟩
theorem d_M_pairing_129 : DC b_M_pairing 129 (.istore_n 3) 1 130 := ⟨by decide +kernel, rfl⟩
theorem d_M_pairing_130 : DB b_M_pairing 130 (.goto (-85)) (-85) 45 133 := ⟨by decide +kernel, by decide, rfl⟩
theorem w_M_pairing_b82 {X : Ctx} {Y : Lay} (hY : IsM Y) (C : Cx X Y b_M_pairing 6 (some .int) "TopYardModel" 4) {N : Nat} {r : Int32 × Mem} (k45 : Int32 → Int32 → Mem → Option (Int32 × Mem)) (k57 : Int32 → Int32 → Int32 → Int32 → Mem → Option (Int32 × Mem)) (hk45 : ∀ (x2 : Int32) (x3 : Int32) (ν : Mem), k45 x2 x3 ν = some r → J X Y (some (.int r.1)) r.2 6 45 [(0, .ref (yad Y 0)), (2, .int x2), (3, .int x3)] [] ν) (hk57 : ∀ (x2 : Int32) (x3 : Int32) (x4 : Int32) (x5 : Int32) (ν : Mem), k57 x2 x3 x4 x5 ν = some r → J X Y (some (.int r.1)) r.2 6 57 [(0, .ref (yad Y 0)), (2, .int x2), (3, .int x3), (4, .int x4), (5, .int x5)] [] ν) (x2 : Int32) (x3 : Int32) (x4 : Int32) (x5 : Int32) (μ : Mem) (hf : f_M_pairing_b82 N k45 k57 x2 x3 x4 x5 μ = some r) : J X Y (some (.int r.1)) r.2 6 82 [(0, .ref (yad Y 0)), (2, .int x2), (3, .int x3), (4, .int x4), (5, .int x5)] [] μ := by
  unfold f_M_pairing_b82 at hf
  refine j_iinc (lvf := [(0, .ref (yad Y 0)), (2, .int x2), (3, .int x3), (4, .int x4)]) (v := 1) C d_M_pairing_82 4 rfl (by decide) (by decide) rfl hf (fun v1 hf => ?_)
  refine j_goto C d_M_pairing_85 ?_
  refine j_sub [1, 2, 3, 4, 0] rfl ?_
  exact hk57 x2 x3 x4 v1 μ hf
theorem w_M_pairing_b100 {X : Ctx} {Y : Lay} (hY : IsM Y) (C : Cx X Y b_M_pairing 6 (some .int) "TopYardModel" 4) {N : Nat} {r : Int32 × Mem} (x2 : Int32) (x4 : Int32) (x5 : Int32) (μ : Mem) (hf : f_M_pairing_b100 N x2 x4 x5 μ = some r) : J X Y (some (.int r.1)) r.2 6 100 [(2, .int x2), (4, .int x4), (5, .int x5)] [] μ := by
  unfold f_M_pairing_b100 at hf
  refine j_iload C d_M_pairing_100 1 rfl ?_
  refine j_iload_n C d_M_pairing_102 0 rfl ?_
  refine j_icmp_ne C d_M_pairing_103 hf (fun hf => ?_) (fun hf => ?_)
  · refine j_iload C d_M_pairing_111 1 rfl ?_
    obtain rfl := Option.some.inj hf
    exact j_iret C d_M_pairing_113
  · refine j_iload C d_M_pairing_106 2 rfl ?_
    refine j_goto C d_M_pairing_108 ?_
    obtain rfl := Option.some.inj hf
    exact j_iret C d_M_pairing_113
theorem w_M_pairing_l57 {X : Ctx} {Y : Lay} (hY : IsM Y) (C : Cx X Y b_M_pairing 6 (some .int) "TopYardModel" 4) {N : Nat} {r : Int32 × Mem} (k45 : Int32 → Int32 → Mem → Option (Int32 × Mem)) (hk45 : ∀ (x2 : Int32) (x3 : Int32) (ν : Mem), k45 x2 x3 ν = some r → J X Y (some (.int r.1)) r.2 6 45 [(0, .ref (yad Y 0)), (2, .int x2), (3, .int x3)] [] ν) : ∀ (n : Nat) (x2 : Int32) (x3 : Int32) (x4 : Int32) (x5 : Int32) (μ : Mem), f_M_pairing_l57 N k45 n x2 x3 x4 x5 μ = some r → J X Y (some (.int r.1)) r.2 6 57 [(0, .ref (yad Y 0)), (2, .int x2), (3, .int x3), (4, .int x4), (5, .int x5)] [] μ := by
  intro n
  induction n with
  | zero => intro x2 x3 x4 x5 μ hf; rw [f_M_pairing_l57] at hf; cases hf
  | succ n ih =>
    intro x2 x3 x4 x5 μ hf
    rw [f_M_pairing_l57] at hf
    refine j_iload_n C d_M_pairing_57 2 rfl ?_
    refine j_iload C d_M_pairing_58 4 rfl ?_
    refine j_ishr C d_M_pairing_60 ?_
    refine j_iconst (v := 1) C d_M_pairing_61 (by decide) ?_
    refine j_iand C d_M_pairing_62 ?_
    refine j_if_eq C d_M_pairing_63 hf (fun hf => ?_) (fun hf => ?_)
    · refine j_sub [0, 1, 2, 3, 4] rfl ?_
      exact w_M_pairing_b82 hY C k45 (f_M_pairing_l57 N k45 n) hk45 ih x2 x3 x4 x5 μ hf
    · refine j_aload_n C d_M_pairing_66 0 rfl ?_
      refine j_iload_n C d_M_pairing_67 2 rfl ?_
      refine j_iload C d_M_pairing_68 4 rfl ?_
      refine bd hf (fun v1 hc4 hf => ?_)
      refine j_cV (rest := []) C lk_M_418 (c_M_costs hY hc4) rfl (kM hY rfl) (nM hY (by decide)) (by decide) rfl rfl (by decide) rfl (Nat.le_of_ble_eq_true rfl) d_M_pairing_70 ?_
      refine j_aload_n C d_M_pairing_73 0 rfl ?_
      refine j_gS (b := 43) C fl_M_144 (kM hY rfl) (nM hY (by decide)) rfl hY.2.2.2.1 rfl (sM hY rfl) d_M_pairing_74 ?_
      refine j_iload_n C d_M_pairing_77 2 rfl ?_
      refine ck hf (fun hi2 hf => ?_)
      refine j_iald C (kM hY rfl) (nM hY (by decide)) (lM hY rfl) hi2 d_M_pairing_78 ?_
      refine j_icmp_eq C d_M_pairing_79 hf (fun hf => ?_) (fun hf => ?_)
      · refine j_iload C d_M_pairing_88 3 rfl ?_
        refine j_iload_n C d_M_pairing_90 1 rfl ?_
        refine j_icmp_eq C d_M_pairing_91 hf (fun hf => ?_) (fun hf => ?_)
        · refine j_sub [1, 3, 4] rfl ?_
          exact w_M_pairing_b100 hY C x2 x4 x5 μ hf
        · refine j_iload C d_M_pairing_94 4 rfl ?_
          refine j_iload_n C d_M_pairing_96 1 rfl ?_
          refine j_icmp_ne C d_M_pairing_97 hf (fun hf => ?_) (fun hf => ?_)
          · refine j_iload_n C d_M_pairing_114 2 rfl ?_
            refine j_iconst (v := 1) C d_M_pairing_115 (by decide) ?_
            refine j_iload C d_M_pairing_116 3 rfl ?_
            refine j_ishl C d_M_pairing_118 ?_
            refine j_iconst (v := (-1)) C d_M_pairing_119 (by decide) ?_
            refine j_ixor C d_M_pairing_120 ?_
            refine j_iand C d_M_pairing_121 ?_
            refine j_iconst (v := 1) C d_M_pairing_122 (by decide) ?_
            refine j_iload C d_M_pairing_123 4 rfl ?_
            refine j_ishl C d_M_pairing_125 ?_
            refine j_iconst (v := (-1)) C d_M_pairing_126 (by decide) ?_
            refine j_ixor C d_M_pairing_127 ?_
            refine j_iand C d_M_pairing_128 ?_
            refine j_istore_nN (lvf := [(0, .ref (yad Y 0)), (2, .int x2), (4, .int x4), (5, .int x5)]) C d_M_pairing_129 (by decide) rfl hf (fun v3 hf => ?_)
            refine j_goto C d_M_pairing_130 ?_
            refine j_sub [1, 2, 0] rfl ?_
            exact hk45 x2 v3 μ hf
          · refine j_sub [1, 3, 4] rfl ?_
            exact w_M_pairing_b100 hY C x2 x4 x5 μ hf
      · refine j_sub [0, 1, 2, 3, 4] rfl ?_
        exact w_M_pairing_b82 hY C k45 (f_M_pairing_l57 N k45 n) hk45 ih x2 x3 x4 x5 μ hf
theorem w_M_pairing_l45 {X : Ctx} {Y : Lay} (hY : IsM Y) (C : Cx X Y b_M_pairing 6 (some .int) "TopYardModel" 4) {N : Nat} {r : Int32 × Mem} : ∀ (n : Nat) (x2 : Int32) (x3 : Int32) (μ : Mem), f_M_pairing_l45 N n x2 x3 μ = some r → J X Y (some (.int r.1)) r.2 6 45 [(0, .ref (yad Y 0)), (2, .int x2), (3, .int x3)] [] μ := by
  intro n
  induction n with
  | zero => intro x2 x3 μ hf; rw [f_M_pairing_l45] at hf; cases hf
  | succ n ih =>
    intro x2 x3 μ hf
    rw [f_M_pairing_l45] at hf
    refine j_iload_n C d_M_pairing_45 2 rfl ?_
    refine bd hf (fun v1 hc3 hf => ?_)
    refine j_cS (rest := []) C lk_M_415 (c_M_first hY hc3) rfl (by decide) rfl (Nat.le_of_ble_eq_true rfl) d_M_pairing_46 ?_
    refine j_istore (lvf := [(0, .ref (yad Y 0)), (2, .int x2), (3, .int x3)]) C d_M_pairing_49 (by decide) rfl ?_
    refine j_iload C d_M_pairing_51 0 rfl ?_
    refine j_iconst (v := 1) C d_M_pairing_53 (by decide) ?_
    refine j_iadd C d_M_pairing_54 ?_
    refine j_istoreN (lvf := [(4, .int v1), (0, .ref (yad Y 0)), (2, .int x2), (3, .int x3)]) C d_M_pairing_55 (by decide) rfl hf (fun v2 hf => ?_)
    refine j_sub [2, 3, 4, 1, 0] rfl ?_
    exact w_M_pairing_l57 hY C (f_M_pairing_l45 N n) ih N x2 x3 v1 v2 μ hf
theorem c_M_pairing {l : Launch} {Y : Lay} (hY : IsM Y) {N : Nat} {μ : Mem} {x1 : Int32} {x2 : Int32} {r : Int32 × Mem} (hf : f_M_pairing N μ x1 x2 = some r) : Ct l Y y_M_pairing b_M_pairing 6 (some .int) 4 [.ref (yad Y 0), .int x1, .int x2] (some (.int r.1)) μ r.2 := by
  refine ct_of (own := "TopYardModel") (lv := [(0, .ref (yad Y 0)), (1, .int x1), (2, .int x2)]) (by decide +kernel) rfl (Nat.le_of_ble_eq_true rfl) rfl (fun X hl C => ?_)
  subst hl
  unfold f_M_pairing at hf
  refine j_iload_n C d_M_pairing_0 1 rfl ?_
  refine j_i2l C d_M_pairing_1 ?_
  refine j_lconst (v := 1) C d_M_pairing_2 (by decide) ?_
  refine j_ldc2 (v := 255) C d_M_pairing_3 wd_231 ?_
  refine bd hf (fun v1 hc8 hf => ?_)
  refine j_cS (rest := []) C lk_M_164 (c_M_in hY hc8) rfl (by decide) rfl (Nat.le_of_ble_eq_true rfl) d_M_pairing_6 ?_
  refine j_if_eq C d_M_pairing_9 hf (fun hf => ?_) (fun hf => ?_)
  · refine j_bipush (v := (-2)) C d_M_pairing_36 (by decide) ?_
    obtain rfl := Option.some.inj hf
    exact j_iret C d_M_pairing_38
  · refine j_iload_n C d_M_pairing_12 1 rfl ?_
    refine bd hf (fun v2 hc7 hf => ?_)
    refine j_cS (rest := []) C lk_M_339 (c_M_ones hY hc7) rfl (by decide) rfl (Nat.le_of_ble_eq_true rfl) d_M_pairing_13 ?_
    refine j_iconst (v := 2) C d_M_pairing_16 (by decide) ?_
    refine j_irem C d_M_pairing_17 (by decide) ?_
    refine j_if_ne C d_M_pairing_18 hf (fun hf => ?_) (fun hf => ?_)
    · refine j_bipush (v := (-2)) C d_M_pairing_36 (by decide) ?_
      obtain rfl := Option.some.inj hf
      exact j_iret C d_M_pairing_38
    · refine j_iload_n C d_M_pairing_21 2 rfl ?_
      refine bd hf (fun v3 hc6 hf => ?_)
      refine j_cS (rest := []) C lk_M_186 (c_M_isOwner hY hc6) rfl (by decide) rfl (Nat.le_of_ble_eq_true rfl) d_M_pairing_22 ?_
      refine j_if_eq C d_M_pairing_25 hf (fun hf => ?_) (fun hf => ?_)
      · refine j_bipush (v := (-2)) C d_M_pairing_36 (by decide) ?_
        obtain rfl := Option.some.inj hf
        exact j_iret C d_M_pairing_38
      · refine j_iload_n C d_M_pairing_28 1 rfl ?_
        refine j_iload_n C d_M_pairing_29 2 rfl ?_
        refine j_ishr C d_M_pairing_30 ?_
        refine j_iconst (v := 1) C d_M_pairing_31 (by decide) ?_
        refine j_iand C d_M_pairing_32 ?_
        refine j_if_ne C d_M_pairing_33 hf (fun hf => ?_) (fun hf => ?_)
        · refine j_aload_n C d_M_pairing_39 0 rfl ?_
          refine bd hf (fun μ4 hc5 hf => ?_)
          refine j_cV (rest := []) C lk_M_421 (c_M_findPairs hY hc5) rfl (kM hY rfl) (nM hY (by decide)) (by decide) rfl rfl (by decide) rfl (Nat.le_of_ble_eq_true rfl) d_M_pairing_40 ?_
          refine j_iload_n C d_M_pairing_43 1 rfl ?_
          refine j_istore_n (lvf := [(0, .ref (yad Y 0)), (1, .int x1), (2, .int x2)]) C d_M_pairing_44 (by decide) rfl ?_
          refine j_sub [1, 3, 0] rfl ?_
          exact w_M_pairing_l45 hY C N x2 x1 μ4 hf
        · refine j_bipush (v := (-2)) C d_M_pairing_36 (by decide) ?_
          obtain rfl := Option.some.inj hf
          exact j_iret C d_M_pairing_38
theorem d_M_bag_0 : DC b_M_bag 0 (.iload_n 1) 1 1 := ⟨by decide +kernel, rfl⟩
theorem d_M_bag_1 : DC b_M_bag 1 (.invokestatic 186) 3 4 := ⟨by decide +kernel, rfl⟩
theorem d_M_bag_4 : DB b_M_bag 4 (.ifCond .eq 27) 27 31 7 := ⟨by decide +kernel, by decide, rfl⟩
theorem d_M_bag_7 : DC b_M_bag 7 (.iload_n 2) 1 8 := ⟨by decide +kernel, rfl⟩
theorem d_M_bag_8 : DC b_M_bag 8 (.i2l) 1 9 := ⟨by decide +kernel, rfl⟩
theorem d_M_bag_9 : DC b_M_bag 9 (.lconst 1) 1 10 := ⟨by decide +kernel, rfl⟩
theorem d_M_bag_10 : DC b_M_bag 10 (.ldc2_w 424) 3 13 := ⟨by decide +kernel, rfl⟩
theorem d_M_bag_13 : DC b_M_bag 13 (.invokestatic 164) 3 16 := ⟨by decide +kernel, rfl⟩
theorem d_M_bag_16 : DB b_M_bag 16 (.ifCond .eq 15) 15 31 19 := ⟨by decide +kernel, by decide, rfl⟩
theorem d_M_bag_19 : DC b_M_bag 19 (.iload_n 3) 1 20 := ⟨by decide +kernel, rfl⟩
theorem d_M_bag_20 : DC b_M_bag 20 (.i2l) 1 21 := ⟨by decide +kernel, rfl⟩
theorem d_M_bag_21 : DC b_M_bag 21 (.lconst 0) 1 22 := ⟨by decide +kernel, rfl⟩
theorem d_M_bag_22 : DC b_M_bag 22 (.ldc2_w 216) 3 25 := ⟨by decide +kernel, rfl⟩
theorem d_M_bag_25 : DC b_M_bag 25 (.invokestatic 164) 3 28 := ⟨by decide +kernel, rfl⟩
theorem d_M_bag_28 : DB b_M_bag 28 (.ifCond .ne 6) 6 34 31 := ⟨by decide +kernel, by decide, rfl⟩
theorem d_M_bag_31 : DC b_M_bag 31 (.bipush (-2)) 2 33 := ⟨by decide +kernel, rfl⟩
theorem d_M_bag_33 : decode b_M_bag 33 = .ok (.ireturn, 1) := by decide +kernel
theorem d_M_bag_34 : DC b_M_bag 34 (.iconst 0) 1 35 := ⟨by decide +kernel, rfl⟩
theorem d_M_bag_35 : DC b_M_bag 35 (.istore 4) 2 37 := ⟨by decide +kernel, rfl⟩
theorem d_M_bag_37 : DC b_M_bag 37 (.iconst 0) 1 38 := ⟨by decide +kernel, rfl⟩
theorem d_M_bag_38 : DC b_M_bag 38 (.istore 5) 2 40 := ⟨by decide +kernel, rfl⟩
theorem d_M_bag_40 : DC b_M_bag 40 (.iload 5) 2 42 := ⟨by decide +kernel, rfl⟩
theorem d_M_bag_42 : DC b_M_bag 42 (.aload_n 0) 1 43 := ⟨by decide +kernel, rfl⟩
theorem d_M_bag_43 : DC b_M_bag 43 (.getfield 175) 3 46 := ⟨by decide +kernel, rfl⟩
theorem d_M_bag_46 : DB b_M_bag 46 (.if_icmp .ge 39) 39 85 49 := ⟨by decide +kernel, by decide, rfl⟩
theorem d_M_bag_49 : DC b_M_bag 49 (.iload 4) 2 51 := ⟨by decide +kernel, rfl⟩
theorem d_M_bag_51 : DC b_M_bag 51 (.bipush 16) 2 53 := ⟨by decide +kernel, rfl⟩
theorem d_M_bag_53 : DB b_M_bag 53 (.if_icmp .ge 32) 32 85 56 := ⟨by decide +kernel, by decide, rfl⟩
theorem d_M_bag_56 : DC b_M_bag 56 (.aload_n 0) 1 57 := ⟨by decide +kernel, rfl⟩
theorem d_M_bag_57 : DC b_M_bag 57 (.getfield 25) 3 60 := ⟨by decide +kernel, rfl⟩
theorem d_M_bag_60 : DC b_M_bag 60 (.iload 5) 2 62 := ⟨by decide +kernel, rfl⟩
theorem d_M_bag_62 : DC b_M_bag 62 (.iaload) 1 63 := ⟨by decide +kernel, rfl⟩
theorem d_M_bag_63 : DC b_M_bag 63 (.iload_n 1) 1 64 := ⟨by decide +kernel, rfl⟩
theorem d_M_bag_64 : DB b_M_bag 64 (.if_icmp .ne 15) 15 79 67 := ⟨by decide +kernel, by decide, rfl⟩
theorem d_M_bag_67 : DC b_M_bag 67 (.aload_n 0) 1 68 := ⟨by decide +kernel, rfl⟩
theorem d_M_bag_68 : DC b_M_bag 68 (.getfield 147) 3 71 := ⟨by decide +kernel, rfl⟩
theorem d_M_bag_71 : DC b_M_bag 71 (.iload 4) 2 73 := ⟨by decide +kernel, rfl⟩
theorem d_M_bag_73 : DC b_M_bag 73 (.iload 5) 2 75 := ⟨by decide +kernel, rfl⟩
theorem d_M_bag_75 : DC b_M_bag 75 (.iastore) 1 76 := ⟨by decide +kernel, rfl⟩
theorem d_M_bag_76 : DC b_M_bag 76 (.iinc 4 1) 3 79 := ⟨by decide +kernel, rfl⟩
theorem d_M_bag_79 : DC b_M_bag 79 (.iinc 5 1) 3 82 := ⟨by decide +kernel, rfl⟩
theorem d_M_bag_82 : DB b_M_bag 82 (.goto (-42)) (-42) 40 85 := ⟨by decide +kernel, by decide, rfl⟩
theorem d_M_bag_85 : DC b_M_bag 85 (.iconst 0) 1 86 := ⟨by decide +kernel, rfl⟩
theorem d_M_bag_86 : DC b_M_bag 86 (.istore 5) 2 88 := ⟨by decide +kernel, rfl⟩
theorem d_M_bag_88 : DC b_M_bag 88 (.iconst 0) 1 89 := ⟨by decide +kernel, rfl⟩
theorem d_M_bag_89 : DC b_M_bag 89 (.istore 6) 2 91 := ⟨by decide +kernel, rfl⟩
theorem d_M_bag_91 : DC b_M_bag 91 (.iconst 0) 1 92 := ⟨by decide +kernel, rfl⟩
theorem d_M_bag_92 : DC b_M_bag 92 (.istore 7) 2 94 := ⟨by decide +kernel, rfl⟩
theorem d_M_bag_94 : DC b_M_bag 94 (.iconst 1) 1 95 := ⟨by decide +kernel, rfl⟩
theorem d_M_bag_95 : DC b_M_bag 95 (.istore 8) 2 97 := ⟨by decide +kernel, rfl⟩
theorem d_M_bag_97 : DC b_M_bag 97 (.iload 8) 2 99 := ⟨by decide +kernel, rfl⟩
theorem d_M_bag_99 : DC b_M_bag 99 (.iconst 1) 1 100 := ⟨by decide +kernel, rfl⟩
theorem d_M_bag_100 : DC b_M_bag 100 (.iload 4) 2 102 := ⟨by decide +kernel, rfl⟩
theorem d_M_bag_102 : DC b_M_bag 102 (.ishl) 1 103 := ⟨by decide +kernel, rfl⟩
theorem d_M_bag_103 : DB b_M_bag 103 (.if_icmp .ge 135) 135 238 106 := ⟨by decide +kernel, by decide, rfl⟩
theorem d_M_bag_106 : DC b_M_bag 106 (.iconst 0) 1 107 := ⟨by decide +kernel, rfl⟩
theorem d_M_bag_107 : DC b_M_bag 107 (.istore 9) 2 109 := ⟨by decide +kernel, rfl⟩
theorem d_M_bag_109 : DC b_M_bag 109 (.iconst 0) 1 110 := ⟨by decide +kernel, rfl⟩
theorem d_M_bag_110 : DC b_M_bag 110 (.istore 10) 2 112 := ⟨by decide +kernel, rfl⟩
theorem d_M_bag_112 : DC b_M_bag 112 (.iconst 0) 1 113 := ⟨by decide +kernel, rfl⟩
theorem d_M_bag_113 : DC b_M_bag 113 (.istore 11) 2 115 := ⟨by decide +kernel, rfl⟩
theorem d_M_bag_115 : DC b_M_bag 115 (.iload 11) 2 117 := ⟨by decide +kernel, rfl⟩
theorem d_M_bag_117 : DC b_M_bag 117 (.iload 4) 2 119 := ⟨by decide +kernel, rfl⟩
theorem d_M_bag_119 : DB b_M_bag 119 (.if_icmp .ge 74) 74 193 122 := ⟨by decide +kernel, by decide, rfl⟩
theorem d_M_bag_122 : DC b_M_bag 122 (.iload 8) 2 124 := ⟨by decide +kernel, rfl⟩
theorem d_M_bag_124 : DC b_M_bag 124 (.iload 11) 2 126 := ⟨by decide +kernel, rfl⟩
theorem d_M_bag_126 : DC b_M_bag 126 (.ishr) 1 127 := ⟨by decide +kernel, rfl⟩
theorem d_M_bag_127 : DC b_M_bag 127 (.iconst 1) 1 128 := ⟨by decide +kernel, rfl⟩
theorem d_M_bag_128 : DC b_M_bag 128 (.iand) 1 129 := ⟨by decide +kernel, rfl⟩
theorem d_M_bag_129 : DC b_M_bag 129 (.iconst 1) 1 130 := ⟨by decide +kernel, rfl⟩
theorem d_M_bag_130 : DB b_M_bag 130 (.if_icmp .ne 57) 57 187 133 := ⟨by decide +kernel, by decide, rfl⟩
theorem d_M_bag_133 : DC b_M_bag 133 (.aload_n 0) 1 134 := ⟨by decide +kernel, rfl⟩
theorem d_M_bag_134 : DC b_M_bag 134 (.getfield 147) 3 137 := ⟨by decide +kernel, rfl⟩
theorem d_M_bag_137 : DC b_M_bag 137 (.iload 11) 2 139 := ⟨by decide +kernel, rfl⟩
theorem d_M_bag_139 : DC b_M_bag 139 (.iaload) 1 140 := ⟨by decide +kernel, rfl⟩
theorem d_M_bag_140 : DC b_M_bag 140 (.istore 12) 2 142 := ⟨by decide +kernel, rfl⟩
theorem d_M_bag_142 : DC b_M_bag 142 (.iload 9) 2 144 := ⟨by decide +kernel, rfl⟩
theorem d_M_bag_144 : DC b_M_bag 144 (.iconst 3) 1 145 := ⟨by decide +kernel, rfl⟩
theorem d_M_bag_145 : DC b_M_bag 145 (.aload_n 0) 1 146 := ⟨by decide +kernel, rfl⟩
theorem d_M_bag_146 : DC b_M_bag 146 (.getfield 16) 3 149 := ⟨by decide +kernel, rfl⟩
theorem d_M_bag_149 : DC b_M_bag 149 (.iload 12) 2 151 := ⟨by decide +kernel, rfl⟩
theorem d_M_bag_151 : DC b_M_bag 151 (.iaload) 1 152 := ⟨by decide +kernel, rfl⟩
theorem d_M_bag_152 : DC b_M_bag 152 (.imul) 1 153 := ⟨by decide +kernel, rfl⟩
theorem d_M_bag_153 : DC b_M_bag 153 (.bipush 10) 2 155 := ⟨by decide +kernel, rfl⟩
theorem d_M_bag_155 : DC b_M_bag 155 (.iadd) 1 156 := ⟨by decide +kernel, rfl⟩
theorem d_M_bag_156 : DC b_M_bag 156 (.aload_n 0) 1 157 := ⟨by decide +kernel, rfl⟩
theorem d_M_bag_157 : DC b_M_bag 157 (.getfield 19) 3 160 := ⟨by decide +kernel, rfl⟩
theorem d_M_bag_160 : DC b_M_bag 160 (.iload 12) 2 162 := ⟨by decide +kernel, rfl⟩
theorem d_M_bag_162 : DC b_M_bag 162 (.iaload) 1 163 := ⟨by decide +kernel, rfl⟩
theorem d_M_bag_163 : DC b_M_bag 163 (.isub) 1 164 := ⟨by decide +kernel, rfl⟩
theorem d_M_bag_164 : DC b_M_bag 164 (.aload_n 0) 1 165 := ⟨by decide +kernel, rfl⟩
theorem d_M_bag_165 : DC b_M_bag 165 (.getfield 28) 3 168 := ⟨by decide +kernel, rfl⟩
theorem d_M_bag_168 : DC b_M_bag 168 (.iload 12) 2 170 := ⟨by decide +kernel, rfl⟩
theorem d_M_bag_170 : DC b_M_bag 170 (.iaload) 1 171 := ⟨by decide +kernel, rfl⟩
theorem d_M_bag_171 : DC b_M_bag 171 (.isub) 1 172 := ⟨by decide +kernel, rfl⟩
theorem d_M_bag_172 : DC b_M_bag 172 (.iadd) 1 173 := ⟨by decide +kernel, rfl⟩
theorem d_M_bag_173 : DC b_M_bag 173 (.istore 9) 2 175 := ⟨by decide +kernel, rfl⟩
theorem d_M_bag_175 : DC b_M_bag 175 (.iload 10) 2 177 := ⟨by decide +kernel, rfl⟩
theorem d_M_bag_177 : DC b_M_bag 177 (.aload_n 0) 1 178 := ⟨by decide +kernel, rfl⟩
theorem d_M_bag_178 : DC b_M_bag 178 (.getfield 13) 3 181 := ⟨by decide +kernel, rfl⟩
theorem d_M_bag_181 : DC b_M_bag 181 (.iload 12) 2 183 := ⟨by decide +kernel, rfl⟩
theorem d_M_bag_183 : DC b_M_bag 183 (.iaload) 1 184 := ⟨by decide +kernel, rfl⟩
theorem d_M_bag_184 : DC b_M_bag 184 (.iadd) 1 185 := ⟨by decide +kernel, rfl⟩
theorem d_M_bag_185 : DC b_M_bag 185 (.istore 10) 2 187 := ⟨by decide +kernel, rfl⟩
theorem d_M_bag_187 : DC b_M_bag 187 (.iinc 11 1) 3 190 := ⟨by decide +kernel, rfl⟩
theorem d_M_bag_190 : DB b_M_bag 190 (.goto (-75)) (-75) 115 193 := ⟨by decide +kernel, by decide, rfl⟩
theorem d_M_bag_193 : DC b_M_bag 193 (.iload 10) 2 195 := ⟨by decide +kernel, rfl⟩
theorem d_M_bag_195 : DC b_M_bag 195 (.iload_n 2) 1 196 := ⟨by decide +kernel, rfl⟩
theorem d_M_bag_196 : DB b_M_bag 196 (.if_icmp .gt 36) 36 232 199 := ⟨by decide +kernel, by decide, rfl⟩
theorem d_M_bag_199 : DC b_M_bag 199 (.iload 9) 2 201 := ⟨by decide +kernel, rfl⟩
theorem d_M_bag_201 : DC b_M_bag 201 (.iload 6) 2 203 := ⟨by decide +kernel, rfl⟩
theorem d_M_bag_203 : DB b_M_bag 203 (.if_icmp .gt 17) 17 220 206 := ⟨by decide +kernel, by decide, rfl⟩
theorem d_M_bag_206 : DC b_M_bag 206 (.iload 9) 2 208 := ⟨by decide +kernel, rfl⟩
theorem d_M_bag_208 : DC b_M_bag 208 (.iload 6) 2 210 := ⟨by decide +kernel, rfl⟩
theorem d_M_bag_210 : DB b_M_bag 210 (.if_icmp .ne 22) 22 232 213 := ⟨by decide +kernel, by decide, rfl⟩
theorem d_M_bag_213 : DC b_M_bag 213 (.iload 10) 2 215 := ⟨by decide +kernel, rfl⟩
theorem d_M_bag_215 : DC b_M_bag 215 (.iload 7) 2 217 := ⟨by decide +kernel, rfl⟩
theorem d_M_bag_217 : DB b_M_bag 217 (.if_icmp .ge 15) 15 232 220 := ⟨by decide +kernel, by decide, rfl⟩
theorem d_M_bag_220 : DC b_M_bag 220 (.iload 8) 2 222 := ⟨by decide +kernel, rfl⟩
theorem d_M_bag_222 : DC b_M_bag 222 (.istore 5) 2 224 := ⟨by decide +kernel, rfl⟩
theorem d_M_bag_224 : DC b_M_bag 224 (.iload 9) 2 226 := ⟨by decide +kernel, rfl⟩
theorem d_M_bag_226 : DC b_M_bag 226 (.istore 6) 2 228 := ⟨by decide +kernel, rfl⟩
theorem d_M_bag_228 : DC b_M_bag 228 (.iload 10) 2 230 := ⟨by decide +kernel, rfl⟩
theorem d_M_bag_230 : DC b_M_bag 230 (.istore 7) 2 232 := ⟨by decide +kernel, rfl⟩
theorem d_M_bag_232 : DC b_M_bag 232 (.iinc 8 1) 3 235 := ⟨by decide +kernel, rfl⟩
theorem d_M_bag_235 : DB b_M_bag 235 (.goto (-138)) (-138) 97 238 := ⟨by decide +kernel, by decide, rfl⟩
theorem d_M_bag_238 : DC b_M_bag 238 (.iload_n 3) 1 239 := ⟨by decide +kernel, rfl⟩
theorem d_M_bag_239 : DB b_M_bag 239 (.ifCond .ne 8) 8 247 242 := ⟨by decide +kernel, by decide, rfl⟩
theorem d_M_bag_242 : DC b_M_bag 242 (.iload 5) 2 244 := ⟨by decide +kernel, rfl⟩
theorem d_M_bag_244 : DB b_M_bag 244 (.goto 15) 15 259 247 := ⟨by decide +kernel, by decide, rfl⟩
theorem d_M_bag_247 : DC b_M_bag 247 (.iload_n 3) 1 248 := ⟨by decide +kernel, rfl⟩
theorem d_M_bag_248 : DC b_M_bag 248 (.iconst 1) 1 249 := ⟨by decide +kernel, rfl⟩
theorem d_M_bag_249 : DB b_M_bag 249 (.if_icmp .ne 8) 8 257 252 := ⟨by decide +kernel, by decide, rfl⟩
theorem d_M_bag_252 : DC b_M_bag 252 (.iload 6) 2 254 := ⟨by decide +kernel, rfl⟩
theorem d_M_bag_254 : DB b_M_bag 254 (.goto 5) 5 259 257 := ⟨by decide +kernel, by decide, rfl⟩
theorem d_M_bag_257 : DC b_M_bag 257 (.iload 7) 2 259 := ⟨by decide +kernel, rfl⟩
theorem d_M_bag_259 : decode b_M_bag 259 = .ok (.ireturn, 1) := by decide +kernel
theorem w_M_bag_b79 {X : Ctx} {Y : Lay} (hY : IsM Y) (C : Cx X Y b_M_bag 13 (some .int) "TopYardModel" 3) {N : Nat} {r : Int32 × Mem} (k40 : Int32 → Int32 → Int32 → Int32 → Int32 → Mem → Option (Int32 × Mem)) (hk40 : ∀ (x1 : Int32) (x2 : Int32) (x3 : Int32) (x4 : Int32) (x5 : Int32) (ν : Mem), k40 x1 x2 x3 x4 x5 ν = some r → J X Y (some (.int r.1)) r.2 13 40 [(0, .ref (yad Y 0)), (1, .int x1), (2, .int x2), (3, .int x3), (4, .int x4), (5, .int x5)] [] ν) (x1 : Int32) (x2 : Int32) (x3 : Int32) (x4 : Int32) (x5 : Int32) (μ : Mem) (hf : f_M_bag_b79 N k40 x1 x2 x3 x4 x5 μ = some r) : J X Y (some (.int r.1)) r.2 13 79 [(0, .ref (yad Y 0)), (1, .int x1), (2, .int x2), (3, .int x3), (4, .int x4), (5, .int x5)] [] μ := by
  unfold f_M_bag_b79 at hf
  refine j_iinc (lvf := [(0, .ref (yad Y 0)), (1, .int x1), (2, .int x2), (3, .int x3), (4, .int x4)]) (v := 1) C d_M_bag_79 5 rfl (by decide) (by decide) rfl hf (fun v1 hf => ?_)
  refine j_goto C d_M_bag_82 ?_
  refine j_sub [1, 2, 3, 4, 5, 0] rfl ?_
  exact hk40 x1 x2 x3 x4 v1 μ hf
theorem w_M_bag_b187 {X : Ctx} {Y : Lay} (hY : IsM Y) (C : Cx X Y b_M_bag 13 (some .int) "TopYardModel" 3) {N : Nat} {r : Int32 × Mem} (k97 : Int32 → Int32 → Int32 → Int32 → Int32 → Int32 → Int32 → Mem → Option (Int32 × Mem)) (k115 : Int32 → Int32 → Int32 → Int32 → Int32 → Int32 → Int32 → Int32 → Int32 → Int32 → Mem → Option (Int32 × Mem)) (hk97 : ∀ (x2 : Int32) (x3 : Int32) (x4 : Int32) (x5 : Int32) (x6 : Int32) (x7 : Int32) (x8 : Int32) (ν : Mem), k97 x2 x3 x4 x5 x6 x7 x8 ν = some r → J X Y (some (.int r.1)) r.2 13 97 [(0, .ref (yad Y 0)), (2, .int x2), (3, .int x3), (4, .int x4), (5, .int x5), (6, .int x6), (7, .int x7), (8, .int x8)] [] ν) (hk115 : ∀ (x2 : Int32) (x3 : Int32) (x4 : Int32) (x5 : Int32) (x6 : Int32) (x7 : Int32) (x8 : Int32) (x9 : Int32) (x10 : Int32) (x11 : Int32) (ν : Mem), k115 x2 x3 x4 x5 x6 x7 x8 x9 x10 x11 ν = some r → J X Y (some (.int r.1)) r.2 13 115 [(0, .ref (yad Y 0)), (2, .int x2), (3, .int x3), (4, .int x4), (5, .int x5), (6, .int x6), (7, .int x7), (8, .int x8), (9, .int x9), (10, .int x10), (11, .int x11)] [] ν) (x2 : Int32) (x3 : Int32) (x4 : Int32) (x5 : Int32) (x6 : Int32) (x7 : Int32) (x8 : Int32) (x9 : Int32) (x10 : Int32) (x11 : Int32) (μ : Mem) (hf : f_M_bag_b187 N k97 k115 x2 x3 x4 x5 x6 x7 x8 x9 x10 x11 μ = some r) : J X Y (some (.int r.1)) r.2 13 187 [(0, .ref (yad Y 0)), (2, .int x2), (3, .int x3), (4, .int x4), (5, .int x5), (6, .int x6), (7, .int x7), (8, .int x8), (9, .int x9), (10, .int x10), (11, .int x11)] [] μ := by
  unfold f_M_bag_b187 at hf
  refine j_iinc (lvf := [(0, .ref (yad Y 0)), (2, .int x2), (3, .int x3), (4, .int x4), (5, .int x5), (6, .int x6), (7, .int x7), (8, .int x8), (9, .int x9), (10, .int x10)]) (v := 1) C d_M_bag_187 10 rfl (by decide) (by decide) rfl hf (fun v1 hf => ?_)
  refine j_goto C d_M_bag_190 ?_
  refine j_sub [1, 2, 3, 4, 5, 6, 7, 8, 9, 10, 0] rfl ?_
  exact hk115 x2 x3 x4 x5 x6 x7 x8 x9 x10 v1 μ hf
theorem w_M_bag_b232 {X : Ctx} {Y : Lay} (hY : IsM Y) (C : Cx X Y b_M_bag 13 (some .int) "TopYardModel" 3) {N : Nat} {r : Int32 × Mem} (k97 : Int32 → Int32 → Int32 → Int32 → Int32 → Int32 → Int32 → Mem → Option (Int32 × Mem)) (hk97 : ∀ (x2 : Int32) (x3 : Int32) (x4 : Int32) (x5 : Int32) (x6 : Int32) (x7 : Int32) (x8 : Int32) (ν : Mem), k97 x2 x3 x4 x5 x6 x7 x8 ν = some r → J X Y (some (.int r.1)) r.2 13 97 [(0, .ref (yad Y 0)), (2, .int x2), (3, .int x3), (4, .int x4), (5, .int x5), (6, .int x6), (7, .int x7), (8, .int x8)] [] ν) (x2 : Int32) (x3 : Int32) (x4 : Int32) (x5 : Int32) (x6 : Int32) (x7 : Int32) (x8 : Int32) (μ : Mem) (hf : f_M_bag_b232 N k97 x2 x3 x4 x5 x6 x7 x8 μ = some r) : J X Y (some (.int r.1)) r.2 13 232 [(0, .ref (yad Y 0)), (2, .int x2), (3, .int x3), (4, .int x4), (5, .int x5), (6, .int x6), (7, .int x7), (8, .int x8)] [] μ := by
  unfold f_M_bag_b232 at hf
  refine j_iinc (lvf := [(0, .ref (yad Y 0)), (2, .int x2), (3, .int x3), (4, .int x4), (5, .int x5), (6, .int x6), (7, .int x7)]) (v := 1) C d_M_bag_232 7 rfl (by decide) (by decide) rfl hf (fun v1 hf => ?_)
  refine j_goto C d_M_bag_235 ?_
  refine j_sub [1, 2, 3, 4, 5, 6, 7, 0] rfl ?_
  exact hk97 x2 x3 x4 x5 x6 x7 v1 μ hf
theorem w_M_bag_b220 {X : Ctx} {Y : Lay} (hY : IsM Y) (C : Cx X Y b_M_bag 13 (some .int) "TopYardModel" 3) {N : Nat} {r : Int32 × Mem} (k97 : Int32 → Int32 → Int32 → Int32 → Int32 → Int32 → Int32 → Mem → Option (Int32 × Mem)) (hk97 : ∀ (x2 : Int32) (x3 : Int32) (x4 : Int32) (x5 : Int32) (x6 : Int32) (x7 : Int32) (x8 : Int32) (ν : Mem), k97 x2 x3 x4 x5 x6 x7 x8 ν = some r → J X Y (some (.int r.1)) r.2 13 97 [(0, .ref (yad Y 0)), (2, .int x2), (3, .int x3), (4, .int x4), (5, .int x5), (6, .int x6), (7, .int x7), (8, .int x8)] [] ν) (x2 : Int32) (x3 : Int32) (x4 : Int32) (x8 : Int32) (x9 : Int32) (x10 : Int32) (μ : Mem) (hf : f_M_bag_b220 N k97 x2 x3 x4 x8 x9 x10 μ = some r) : J X Y (some (.int r.1)) r.2 13 220 [(0, .ref (yad Y 0)), (2, .int x2), (3, .int x3), (4, .int x4), (8, .int x8), (9, .int x9), (10, .int x10)] [] μ := by
  unfold f_M_bag_b220 at hf
  refine j_iload C d_M_bag_220 4 rfl ?_
  refine j_istore (lvf := [(0, .ref (yad Y 0)), (2, .int x2), (3, .int x3), (4, .int x4), (8, .int x8), (9, .int x9), (10, .int x10)]) C d_M_bag_222 (by decide) rfl ?_
  refine j_iload C d_M_bag_224 6 rfl ?_
  refine j_istore (lvf := [(5, .int x8), (0, .ref (yad Y 0)), (2, .int x2), (3, .int x3), (4, .int x4), (8, .int x8), (9, .int x9), (10, .int x10)]) C d_M_bag_226 (by decide) rfl ?_
  refine j_iload C d_M_bag_228 8 rfl ?_
  refine j_istore (lvf := [(6, .int x9), (5, .int x8), (0, .ref (yad Y 0)), (2, .int x2), (3, .int x3), (4, .int x4), (8, .int x8), (9, .int x9), (10, .int x10)]) C d_M_bag_230 (by decide) rfl ?_
  refine j_sub [3, 4, 5, 6, 2, 1, 0, 7] rfl ?_
  exact w_M_bag_b232 hY C k97 hk97 x2 x3 x4 x8 x9 x10 x8 μ hf
theorem w_M_bag_l115 {X : Ctx} {Y : Lay} (hY : IsM Y) (C : Cx X Y b_M_bag 13 (some .int) "TopYardModel" 3) {N : Nat} {r : Int32 × Mem} (k97 : Int32 → Int32 → Int32 → Int32 → Int32 → Int32 → Int32 → Mem → Option (Int32 × Mem)) (hk97 : ∀ (x2 : Int32) (x3 : Int32) (x4 : Int32) (x5 : Int32) (x6 : Int32) (x7 : Int32) (x8 : Int32) (ν : Mem), k97 x2 x3 x4 x5 x6 x7 x8 ν = some r → J X Y (some (.int r.1)) r.2 13 97 [(0, .ref (yad Y 0)), (2, .int x2), (3, .int x3), (4, .int x4), (5, .int x5), (6, .int x6), (7, .int x7), (8, .int x8)] [] ν) : ∀ (n : Nat) (x2 : Int32) (x3 : Int32) (x4 : Int32) (x5 : Int32) (x6 : Int32) (x7 : Int32) (x8 : Int32) (x9 : Int32) (x10 : Int32) (x11 : Int32) (μ : Mem), f_M_bag_l115 N k97 n x2 x3 x4 x5 x6 x7 x8 x9 x10 x11 μ = some r → J X Y (some (.int r.1)) r.2 13 115 [(0, .ref (yad Y 0)), (2, .int x2), (3, .int x3), (4, .int x4), (5, .int x5), (6, .int x6), (7, .int x7), (8, .int x8), (9, .int x9), (10, .int x10), (11, .int x11)] [] μ := by
  intro n
  induction n with
  | zero => intro x2 x3 x4 x5 x6 x7 x8 x9 x10 x11 μ hf; rw [f_M_bag_l115] at hf; cases hf
  | succ n ih =>
    intro x2 x3 x4 x5 x6 x7 x8 x9 x10 x11 μ hf
    rw [f_M_bag_l115] at hf
    refine j_iload C d_M_bag_115 10 rfl ?_
    refine j_iload C d_M_bag_117 3 rfl ?_
    refine j_icmp_ge C d_M_bag_119 hf (fun hf => ?_) (fun hf => ?_)
    · refine j_iload C d_M_bag_193 9 rfl ?_
      refine j_iload_n C d_M_bag_195 1 rfl ?_
      refine j_icmp_gt C d_M_bag_196 hf (fun hf => ?_) (fun hf => ?_)
      · refine j_sub [0, 1, 2, 3, 4, 5, 6, 7] rfl ?_
        exact w_M_bag_b232 hY C k97 hk97 x2 x3 x4 x5 x6 x7 x8 μ hf
      · refine j_iload C d_M_bag_199 8 rfl ?_
        refine j_iload C d_M_bag_201 5 rfl ?_
        refine j_icmp_gt C d_M_bag_203 hf (fun hf => ?_) (fun hf => ?_)
        · refine j_sub [0, 1, 2, 3, 7, 8, 9] rfl ?_
          exact w_M_bag_b220 hY C k97 hk97 x2 x3 x4 x8 x9 x10 μ hf
        · refine j_iload C d_M_bag_206 8 rfl ?_
          refine j_iload C d_M_bag_208 5 rfl ?_
          refine j_icmp_ne C d_M_bag_210 hf (fun hf => ?_) (fun hf => ?_)
          · refine j_sub [0, 1, 2, 3, 4, 5, 6, 7] rfl ?_
            exact w_M_bag_b232 hY C k97 hk97 x2 x3 x4 x5 x6 x7 x8 μ hf
          · refine j_iload C d_M_bag_213 9 rfl ?_
            refine j_iload C d_M_bag_215 6 rfl ?_
            refine j_icmp_ge C d_M_bag_217 hf (fun hf => ?_) (fun hf => ?_)
            · refine j_sub [0, 1, 2, 3, 4, 5, 6, 7] rfl ?_
              exact w_M_bag_b232 hY C k97 hk97 x2 x3 x4 x5 x6 x7 x8 μ hf
            · refine j_sub [0, 1, 2, 3, 7, 8, 9] rfl ?_
              exact w_M_bag_b220 hY C k97 hk97 x2 x3 x4 x8 x9 x10 μ hf
    · refine j_iload C d_M_bag_122 7 rfl ?_
      refine j_iload C d_M_bag_124 10 rfl ?_
      refine j_ishr C d_M_bag_126 ?_
      refine j_iconst (v := 1) C d_M_bag_127 (by decide) ?_
      refine j_iand C d_M_bag_128 ?_
      refine j_iconst (v := 1) C d_M_bag_129 (by decide) ?_
      refine j_icmp_ne C d_M_bag_130 hf (fun hf => ?_) (fun hf => ?_)
      · refine j_sub [0, 1, 2, 3, 4, 5, 6, 7, 8, 9, 10] rfl ?_
        exact w_M_bag_b187 hY C k97 (f_M_bag_l115 N k97 n) hk97 ih x2 x3 x4 x5 x6 x7 x8 x9 x10 x11 μ hf
      · refine j_aload_n C d_M_bag_133 0 rfl ?_
        refine j_gS (b := 44) C fl_M_147 (kM hY rfl) (nM hY (by decide)) rfl hY.2.2.2.1 rfl (sM hY rfl) d_M_bag_134 ?_
        refine j_iload C d_M_bag_137 10 rfl ?_
        refine ck hf (fun hi1 hf => ?_)
        refine j_iald C (kM hY rfl) (nM hY (by decide)) (lM hY rfl) hi1 d_M_bag_139 ?_
        refine j_istoreN (lvf := [(0, .ref (yad Y 0)), (2, .int x2), (3, .int x3), (4, .int x4), (5, .int x5), (6, .int x6), (7, .int x7), (8, .int x8), (9, .int x9), (10, .int x10), (11, .int x11)]) C d_M_bag_140 (by decide) rfl hf (fun v2 hf => ?_)
        refine j_iload C d_M_bag_142 9 rfl ?_
        refine j_iconst (v := 3) C d_M_bag_144 (by decide) ?_
        refine j_aload_n C d_M_bag_145 1 rfl ?_
        refine j_gS (b := 3) C fl_M_16 (kM hY rfl) (nM hY (by decide)) rfl hY.2.2.2.1 rfl (sM hY rfl) d_M_bag_146 ?_
        refine j_iload C d_M_bag_149 0 rfl ?_
        refine ck hf (fun hi3 hf => ?_)
        refine j_iald C (kM hY rfl) (nM hY (by decide)) (lM hY rfl) hi3 d_M_bag_151 ?_
        refine j_imul C d_M_bag_152 ?_
        refine j_bipush (v := 10) C d_M_bag_153 (by decide) ?_
        refine j_iadd C d_M_bag_155 ?_
        refine j_aload_n C d_M_bag_156 1 rfl ?_
        refine j_gS (b := 4) C fl_M_19 (kM hY rfl) (nM hY (by decide)) rfl hY.2.2.2.1 rfl (sM hY rfl) d_M_bag_157 ?_
        refine j_iload C d_M_bag_160 0 rfl ?_
        refine ck hf (fun hi4 hf => ?_)
        refine j_iald C (kM hY rfl) (nM hY (by decide)) (lM hY rfl) hi4 d_M_bag_162 ?_
        refine j_isub C d_M_bag_163 ?_
        refine j_aload_n C d_M_bag_164 1 rfl ?_
        refine j_gS (b := 7) C fl_M_28 (kM hY rfl) (nM hY (by decide)) rfl hY.2.2.2.1 rfl (sM hY rfl) d_M_bag_165 ?_
        refine j_iload C d_M_bag_168 0 rfl ?_
        refine ck hf (fun hi5 hf => ?_)
        refine j_iald C (kM hY rfl) (nM hY (by decide)) (lM hY rfl) hi5 d_M_bag_170 ?_
        refine j_isub C d_M_bag_171 ?_
        refine j_iadd C d_M_bag_172 ?_
        refine j_istoreN (lvf := [(12, .int v2), (0, .ref (yad Y 0)), (2, .int x2), (3, .int x3), (4, .int x4), (5, .int x5), (6, .int x6), (7, .int x7), (8, .int x8), (10, .int x10), (11, .int x11)]) C d_M_bag_173 (by decide) rfl hf (fun v6 hf => ?_)
        refine j_iload C d_M_bag_175 10 rfl ?_
        refine j_aload_n C d_M_bag_177 2 rfl ?_
        refine j_gS (b := 2) C fl_M_13 (kM hY rfl) (nM hY (by decide)) rfl hY.2.2.2.1 rfl (sM hY rfl) d_M_bag_178 ?_
        refine j_iload C d_M_bag_181 1 rfl ?_
        refine ck hf (fun hi7 hf => ?_)
        refine j_iald C (kM hY rfl) (nM hY (by decide)) (lM hY rfl) hi7 d_M_bag_183 ?_
        refine j_iadd C d_M_bag_184 ?_
        refine j_istoreN (lvf := [(9, .int v6), (12, .int v2), (0, .ref (yad Y 0)), (2, .int x2), (3, .int x3), (4, .int x4), (5, .int x5), (6, .int x6), (7, .int x7), (8, .int x8), (11, .int x11)]) C d_M_bag_185 (by decide) rfl hf (fun v8 hf => ?_)
        refine j_sub [3, 4, 5, 6, 7, 8, 9, 10, 1, 0, 11] rfl ?_
        exact w_M_bag_b187 hY C k97 (f_M_bag_l115 N k97 n) hk97 ih x2 x3 x4 x5 x6 x7 x8 v6 v8 x11 μ hf
theorem w_M_bag_l97 {X : Ctx} {Y : Lay} (hY : IsM Y) (C : Cx X Y b_M_bag 13 (some .int) "TopYardModel" 3) {N : Nat} {r : Int32 × Mem} : ∀ (n : Nat) (x2 : Int32) (x3 : Int32) (x4 : Int32) (x5 : Int32) (x6 : Int32) (x7 : Int32) (x8 : Int32) (μ : Mem), f_M_bag_l97 N n x2 x3 x4 x5 x6 x7 x8 μ = some r → J X Y (some (.int r.1)) r.2 13 97 [(0, .ref (yad Y 0)), (2, .int x2), (3, .int x3), (4, .int x4), (5, .int x5), (6, .int x6), (7, .int x7), (8, .int x8)] [] μ := by
  intro n
  induction n with
  | zero => intro x2 x3 x4 x5 x6 x7 x8 μ hf; rw [f_M_bag_l97] at hf; cases hf
  | succ n ih =>
    intro x2 x3 x4 x5 x6 x7 x8 μ hf
    rw [f_M_bag_l97] at hf
    refine j_iload C d_M_bag_97 7 rfl ?_
    refine j_iconst (v := 1) C d_M_bag_99 (by decide) ?_
    refine j_iload C d_M_bag_100 3 rfl ?_
    refine j_ishl C d_M_bag_102 ?_
    refine j_icmp_ge C d_M_bag_103 hf (fun hf => ?_) (fun hf => ?_)
    · refine j_iload_n C d_M_bag_238 2 rfl ?_
      refine j_if_ne C d_M_bag_239 hf (fun hf => ?_) (fun hf => ?_)
      · refine j_iload_n C d_M_bag_247 2 rfl ?_
        refine j_iconst (v := 1) C d_M_bag_248 (by decide) ?_
        refine j_icmp_ne C d_M_bag_249 hf (fun hf => ?_) (fun hf => ?_)
        · refine j_iload C d_M_bag_257 6 rfl ?_
          obtain rfl := Option.some.inj hf
          exact j_iret C d_M_bag_259
        · refine j_iload C d_M_bag_252 5 rfl ?_
          refine j_goto C d_M_bag_254 ?_
          obtain rfl := Option.some.inj hf
          exact j_iret C d_M_bag_259
      · refine j_iload C d_M_bag_242 4 rfl ?_
        refine j_goto C d_M_bag_244 ?_
        obtain rfl := Option.some.inj hf
        exact j_iret C d_M_bag_259
    · refine j_iconst (v := 0) C d_M_bag_106 (by decide) ?_
      refine j_istore (lvf := [(0, .ref (yad Y 0)), (2, .int x2), (3, .int x3), (4, .int x4), (5, .int x5), (6, .int x6), (7, .int x7), (8, .int x8)]) C d_M_bag_107 (by decide) rfl ?_
      refine j_iconst (v := 0) C d_M_bag_109 (by decide) ?_
      refine j_istore (lvf := [(9, .int 0), (0, .ref (yad Y 0)), (2, .int x2), (3, .int x3), (4, .int x4), (5, .int x5), (6, .int x6), (7, .int x7), (8, .int x8)]) C d_M_bag_110 (by decide) rfl ?_
      refine j_iconst (v := 0) C d_M_bag_112 (by decide) ?_
      refine j_istore (lvf := [(10, .int 0), (9, .int 0), (0, .ref (yad Y 0)), (2, .int x2), (3, .int x3), (4, .int x4), (5, .int x5), (6, .int x6), (7, .int x7), (8, .int x8)]) C d_M_bag_113 (by decide) rfl ?_
      refine j_sub [3, 4, 5, 6, 7, 8, 9, 10, 2, 1, 0] rfl ?_
      exact w_M_bag_l115 hY C (f_M_bag_l97 N n) ih N x2 x3 x4 x5 x6 x7 x8 0 0 0 μ hf
theorem w_M_bag_b85 {X : Ctx} {Y : Lay} (hY : IsM Y) (C : Cx X Y b_M_bag 13 (some .int) "TopYardModel" 3) {N : Nat} {r : Int32 × Mem} (x2 : Int32) (x3 : Int32) (x4 : Int32) (μ : Mem) (hf : f_M_bag_b85 N x2 x3 x4 μ = some r) : J X Y (some (.int r.1)) r.2 13 85 [(0, .ref (yad Y 0)), (2, .int x2), (3, .int x3), (4, .int x4)] [] μ := by
  unfold f_M_bag_b85 at hf
  refine j_iconst (v := 0) C d_M_bag_85 (by decide) ?_
  refine j_istore (lvf := [(0, .ref (yad Y 0)), (2, .int x2), (3, .int x3), (4, .int x4)]) C d_M_bag_86 (by decide) rfl ?_
  refine j_iconst (v := 0) C d_M_bag_88 (by decide) ?_
  refine j_istore (lvf := [(5, .int 0), (0, .ref (yad Y 0)), (2, .int x2), (3, .int x3), (4, .int x4)]) C d_M_bag_89 (by decide) rfl ?_
  refine j_iconst (v := 0) C d_M_bag_91 (by decide) ?_
  refine j_istore (lvf := [(6, .int 0), (5, .int 0), (0, .ref (yad Y 0)), (2, .int x2), (3, .int x3), (4, .int x4)]) C d_M_bag_92 (by decide) rfl ?_
  refine j_iconst (v := 1) C d_M_bag_94 (by decide) ?_
  refine j_istore (lvf := [(7, .int 0), (6, .int 0), (5, .int 0), (0, .ref (yad Y 0)), (2, .int x2), (3, .int x3), (4, .int x4)]) C d_M_bag_95 (by decide) rfl ?_
  refine j_sub [4, 5, 6, 7, 3, 2, 1, 0] rfl ?_
  exact w_M_bag_l97 hY C N x2 x3 x4 0 0 0 1 μ hf
theorem w_M_bag_l40 {X : Ctx} {Y : Lay} (hY : IsM Y) (C : Cx X Y b_M_bag 13 (some .int) "TopYardModel" 3) {N : Nat} {r : Int32 × Mem} : ∀ (n : Nat) (x1 : Int32) (x2 : Int32) (x3 : Int32) (x4 : Int32) (x5 : Int32) (μ : Mem), f_M_bag_l40 N n x1 x2 x3 x4 x5 μ = some r → J X Y (some (.int r.1)) r.2 13 40 [(0, .ref (yad Y 0)), (1, .int x1), (2, .int x2), (3, .int x3), (4, .int x4), (5, .int x5)] [] μ := by
  intro n
  induction n with
  | zero => intro x1 x2 x3 x4 x5 μ hf; rw [f_M_bag_l40] at hf; cases hf
  | succ n ih =>
    intro x1 x2 x3 x4 x5 μ hf
    rw [f_M_bag_l40] at hf
    refine j_iload C d_M_bag_40 5 rfl ?_
    refine j_aload_n C d_M_bag_42 0 rfl ?_
    refine j_gI C fl_M_175 (kM hY rfl) (nM hY (by decide)) rfl d_M_bag_43 ?_
    refine j_icmp_ge C d_M_bag_46 hf (fun hf => ?_) (fun hf => ?_)
    · refine j_sub [0, 2, 3, 4] rfl ?_
      exact w_M_bag_b85 hY C x2 x3 x4 μ hf
    · refine j_iload C d_M_bag_49 4 rfl ?_
      refine j_bipush (v := 16) C d_M_bag_51 (by decide) ?_
      refine j_icmp_ge C d_M_bag_53 hf (fun hf => ?_) (fun hf => ?_)
      · refine j_sub [0, 2, 3, 4] rfl ?_
        exact w_M_bag_b85 hY C x2 x3 x4 μ hf
      · refine j_aload_n C d_M_bag_56 0 rfl ?_
        refine j_gS (b := 6) C fl_M_25 (kM hY rfl) (nM hY (by decide)) rfl hY.2.2.2.1 rfl (sM hY rfl) d_M_bag_57 ?_
        refine j_iload C d_M_bag_60 5 rfl ?_
        refine ck hf (fun hi1 hf => ?_)
        refine j_iald C (kM hY rfl) (nM hY (by decide)) (lM hY rfl) hi1 d_M_bag_62 ?_
        refine j_iload_n C d_M_bag_63 1 rfl ?_
        refine j_icmp_ne C d_M_bag_64 hf (fun hf => ?_) (fun hf => ?_)
        · refine j_sub [0, 1, 2, 3, 4, 5] rfl ?_
          exact w_M_bag_b79 hY C (f_M_bag_l40 N n) ih x1 x2 x3 x4 x5 μ hf
        · refine j_aload_n C d_M_bag_67 0 rfl ?_
          refine j_gS (b := 44) C fl_M_147 (kM hY rfl) (nM hY (by decide)) rfl hY.2.2.2.1 rfl (sM hY rfl) d_M_bag_68 ?_
          refine j_iload C d_M_bag_71 4 rfl ?_
          refine j_iload C d_M_bag_73 5 rfl ?_
          refine ck hf (fun hi2 hf => ?_)
          refine j_iast C (kM hY rfl) (nM hY (by decide)) (lM hY rfl) hi2 d_M_bag_75 hf (fun μ3 hf => ?_)
          refine j_iinc (lvf := [(0, .ref (yad Y 0)), (1, .int x1), (2, .int x2), (3, .int x3), (5, .int x5)]) (v := 1) C d_M_bag_76 4 rfl (by decide) (by decide) rfl hf (fun v4 hf => ?_)
          refine j_sub [1, 2, 3, 4, 0, 5] rfl ?_
          exact w_M_bag_b79 hY C (f_M_bag_l40 N n) ih x1 x2 x3 v4 x5 μ3 hf
theorem c_M_bag {l : Launch} {Y : Lay} (hY : IsM Y) {N : Nat} {μ : Mem} {x1 : Int32} {x2 : Int32} {x3 : Int32} {r : Int32 × Mem} (hf : f_M_bag N μ x1 x2 x3 = some r) : Ct l Y y_M_bag b_M_bag 13 (some .int) 3 [.ref (yad Y 0), .int x1, .int x2, .int x3] (some (.int r.1)) μ r.2 := by
  refine ct_of (own := "TopYardModel") (lv := [(0, .ref (yad Y 0)), (1, .int x1), (2, .int x2), (3, .int x3)]) (by decide +kernel) rfl (Nat.le_of_ble_eq_true rfl) rfl (fun X hl C => ?_)
  subst hl
  unfold f_M_bag at hf
  refine j_iload_n C d_M_bag_0 1 rfl ?_
  refine bd hf (fun v1 hc6 hf => ?_)
  refine j_cS (rest := []) C lk_M_186 (c_M_isOwner hY hc6) rfl (by decide) rfl (Nat.le_of_ble_eq_true rfl) d_M_bag_1 ?_
  refine j_if_eq C d_M_bag_4 hf (fun hf => ?_) (fun hf => ?_)
  · refine j_bipush (v := (-2)) C d_M_bag_31 (by decide) ?_
    obtain rfl := Option.some.inj hf
    exact j_iret C d_M_bag_33
  · refine j_iload_n C d_M_bag_7 2 rfl ?_
    refine j_i2l C d_M_bag_8 ?_
    refine j_lconst (v := 1) C d_M_bag_9 (by decide) ?_
    refine j_ldc2 (v := 500) C d_M_bag_10 wd_241 ?_
    refine bd hf (fun v2 hc5 hf => ?_)
    refine j_cS (rest := []) C lk_M_164 (c_M_in hY hc5) rfl (by decide) rfl (Nat.le_of_ble_eq_true rfl) d_M_bag_13 ?_
    refine j_if_eq C d_M_bag_16 hf (fun hf => ?_) (fun hf => ?_)
    · refine j_bipush (v := (-2)) C d_M_bag_31 (by decide) ?_
      obtain rfl := Option.some.inj hf
      exact j_iret C d_M_bag_33
    · refine j_iload_n C d_M_bag_19 3 rfl ?_
      refine j_i2l C d_M_bag_20 ?_
      refine j_lconst (v := 0) C d_M_bag_21 (by decide) ?_
      refine j_ldc2 (v := 2) C d_M_bag_22 wd_172 ?_
      refine bd hf (fun v3 hc4 hf => ?_)
      refine j_cS (rest := []) C lk_M_164 (c_M_in hY hc4) rfl (by decide) rfl (Nat.le_of_ble_eq_true rfl) d_M_bag_25 ?_
      refine j_if_ne C d_M_bag_28 hf (fun hf => ?_) (fun hf => ?_)
      · refine j_iconst (v := 0) C d_M_bag_34 (by decide) ?_
        refine j_istore (lvf := [(0, .ref (yad Y 0)), (1, .int x1), (2, .int x2), (3, .int x3)]) C d_M_bag_35 (by decide) rfl ?_
        refine j_iconst (v := 0) C d_M_bag_37 (by decide) ?_
        refine j_istore (lvf := [(4, .int 0), (0, .ref (yad Y 0)), (1, .int x1), (2, .int x2), (3, .int x3)]) C d_M_bag_38 (by decide) rfl ?_
        refine j_sub [2, 3, 4, 5, 1, 0] rfl ?_
        exact w_M_bag_l40 hY C N x1 x2 x3 0 0 μ hf
      · refine j_bipush (v := (-2)) C d_M_bag_31 (by decide) ?_
        obtain rfl := Option.some.inj hf
        exact j_iret C d_M_bag_33

theorem d_X_top_0 : DC b_X_top 0 (.iload_n 1) 1 1 := ⟨by decide +kernel, rfl⟩
theorem d_X_top_1 : DC b_X_top 1 (.iconst 1) 1 2 := ⟨by decide +kernel, rfl⟩
theorem d_X_top_2 : DC b_X_top 2 (.bipush 50) 2 4 := ⟨by decide +kernel, rfl⟩
theorem d_X_top_4 : DC b_X_top 4 (.invokestatic 90) 3 7 := ⟨by decide +kernel, rfl⟩
theorem d_X_top_7 : DB b_X_top 7 (.ifCond .eq 27) 27 34 10 := ⟨by decide +kernel, by decide, rfl⟩
theorem d_X_top_10 : DC b_X_top 10 (.iload_n 2) 1 11 := ⟨by decide +kernel, rfl⟩
theorem d_X_top_11 : DC b_X_top 11 (.iconst 1) 1 12 := ⟨by decide +kernel, rfl⟩
theorem d_X_top_12 : DC b_X_top 12 (.bipush 12) 2 14 := ⟨by decide +kernel, rfl⟩
theorem d_X_top_14 : DC b_X_top 14 (.invokestatic 90) 3 17 := ⟨by decide +kernel, rfl⟩
theorem d_X_top_17 : DB b_X_top 17 (.ifCond .eq 17) 17 34 20 := ⟨by decide +kernel, by decide, rfl⟩
theorem d_X_top_20 : DC b_X_top 20 (.iload_n 3) 1 21 := ⟨by decide +kernel, rfl⟩
theorem d_X_top_21 : DC b_X_top 21 (.iconst 1) 1 22 := ⟨by decide +kernel, rfl⟩
theorem d_X_top_22 : DC b_X_top 22 (.bipush 9) 2 24 := ⟨by decide +kernel, rfl⟩
theorem d_X_top_24 : DC b_X_top 24 (.invokestatic 90) 3 27 := ⟨by decide +kernel, rfl⟩
theorem d_X_top_27 : DB b_X_top 27 (.ifCond .eq 7) 7 34 30 := ⟨by decide +kernel, by decide, rfl⟩
theorem d_X_top_30 : DC b_X_top 30 (.iconst 1) 1 31 := ⟨by decide +kernel, rfl⟩
theorem d_X_top_31 : DB b_X_top 31 (.goto 4) 4 35 34 := ⟨by decide +kernel, by decide, rfl⟩
theorem d_X_top_34 : DC b_X_top 34 (.iconst 0) 1 35 := ⟨by decide +kernel, rfl⟩
theorem d_X_top_35 : DC b_X_top 35 (.istore 6) 2 37 := ⟨by decide +kernel, rfl⟩
theorem d_X_top_37 : DC b_X_top 37 (.iload 6) 2 39 := ⟨by decide +kernel, rfl⟩
theorem d_X_top_39 : DB b_X_top 39 (.ifCond .eq 23) 23 62 42 := ⟨by decide +kernel, by decide, rfl⟩
theorem d_X_top_42 : DC b_X_top 42 (.iload 4) 2 44 := ⟨by decide +kernel, rfl⟩
theorem d_X_top_44 : DC b_X_top 44 (.iconst 1) 1 45 := ⟨by decide +kernel, rfl⟩
theorem d_X_top_45 : DB b_X_top 45 (.if_icmp .eq 9) 9 54 48 := ⟨by decide +kernel, by decide, rfl⟩
theorem d_X_top_48 : DC b_X_top 48 (.iload 4) 2 50 := ⟨by decide +kernel, rfl⟩
theorem d_X_top_50 : DC b_X_top 50 (.iconst (-1)) 1 51 := ⟨by decide +kernel, rfl⟩
theorem d_X_top_51 : DB b_X_top 51 (.if_icmp .ne 11) 11 62 54 := ⟨by decide +kernel, by decide, rfl⟩
theorem d_X_top_54 : DC b_X_top 54 (.iload 5) 2 56 := ⟨by decide +kernel, rfl⟩
theorem d_X_top_56 : DC b_X_top 56 (.invokestatic 103) 3 59 := ⟨by decide +kernel, rfl⟩
theorem d_X_top_59 : DB b_X_top 59 (.ifCond .ne 6) 6 65 62 := ⟨by decide +kernel, by decide, rfl⟩
theorem d_X_top_62 : DC b_X_top 62 (.bipush (-2)) 2 64 := ⟨by decide +kernel, rfl⟩
theorem d_X_top_64 : decode b_X_top 64 = .ok (.ireturn, 1) := by decide +kernel
theorem d_X_top_65 : DC b_X_top 65 (.aload_n 0) 1 66 := ⟨by decide +kernel, rfl⟩
theorem d_X_top_66 : DC b_X_top 66 (.getfield 15) 3 69 := ⟨by decide +kernel, rfl⟩
theorem d_X_top_69 : DC b_X_top 69 (.bipush 40) 2 71 := ⟨by decide +kernel, rfl⟩
theorem d_X_top_71 : DB b_X_top 71 (.if_icmp .lt 6) 6 77 74 := ⟨by decide +kernel, by decide, rfl⟩
theorem d_X_top_74 : DC b_X_top 74 (.bipush (-4)) 2 76 := ⟨by decide +kernel, rfl⟩
theorem d_X_top_76 : decode b_X_top 76 = .ok (.ireturn, 1) := by decide +kernel
theorem d_X_top_77 : DC b_X_top 77 (.aload_n 0) 1 78 := ⟨by decide +kernel, rfl⟩
theorem d_X_top_78 : DC b_X_top 78 (.getfield 11) 3 81 := ⟨by decide +kernel, rfl⟩
theorem d_X_top_81 : DC b_X_top 81 (.aload_n 0) 1 82 := ⟨by decide +kernel, rfl⟩
theorem d_X_top_82 : DC b_X_top 82 (.getfield 15) 3 85 := ⟨by decide +kernel, rfl⟩
theorem d_X_top_85 : DC b_X_top 85 (.new 9) 3 88 := ⟨by decide +kernel, rfl⟩
theorem d_X_top_88 : DC b_X_top 88 (.dup) 1 89 := ⟨by decide +kernel, rfl⟩
theorem d_X_top_89 : DC b_X_top 89 (.iload_n 1) 1 90 := ⟨by decide +kernel, rfl⟩
theorem d_X_top_90 : DC b_X_top 90 (.iload_n 2) 1 91 := ⟨by decide +kernel, rfl⟩
theorem d_X_top_91 : DC b_X_top 91 (.iload_n 3) 1 92 := ⟨by decide +kernel, rfl⟩
theorem d_X_top_92 : DC b_X_top 92 (.iload 4) 2 94 := ⟨by decide +kernel, rfl⟩
theorem d_X_top_94 : DC b_X_top 94 (.iload 5) 2 96 := ⟨by decide +kernel, rfl⟩
theorem d_X_top_96 : DC b_X_top 96 (.invokespecial 107) 3 99 := ⟨by decide +kernel, rfl⟩
theorem d_X_top_99 : DC b_X_top 99 (.aastore) 1 100 := ⟨by decide +kernel, rfl⟩
theorem d_X_top_100 : DC b_X_top 100 (.aload_n 0) 1 101 := ⟨by decide +kernel, rfl⟩
theorem d_X_top_101 : DC b_X_top 101 (.dup) 1 102 := ⟨by decide +kernel, rfl⟩
theorem d_X_top_102 : DC b_X_top 102 (.getfield 15) 3 105 := ⟨by decide +kernel, rfl⟩
theorem d_X_top_105 : DC b_X_top 105 (.iconst 1) 1 106 := ⟨by decide +kernel, rfl⟩
theorem d_X_top_106 : DC b_X_top 106 (.iadd) 1 107 := ⟨by decide +kernel, rfl⟩
theorem d_X_top_107 : DC b_X_top 107 (.putfield 15) 3 110 := ⟨by decide +kernel, rfl⟩
theorem d_X_top_110 : DC b_X_top 110 (.aload_n 0) 1 111 := ⟨by decide +kernel, rfl⟩
theorem d_X_top_111 : DC b_X_top 111 (.getfield 15) 3 114 := ⟨by decide +kernel, rfl⟩
theorem d_X_top_114 : DC b_X_top 114 (.iconst 1) 1 115 := ⟨by decide +kernel, rfl⟩
theorem d_X_top_115 : DC b_X_top 115 (.isub) 1 116 := ⟨by decide +kernel, rfl⟩
theorem d_X_top_116 : decode b_X_top 116 = .ok (.ireturn, 1) := by decide +kernel
theorem d_To_init_0 : DC b_To_init 0 (.aload_n 0) 1 1 := ⟨by decide +kernel, rfl⟩
theorem d_To_init_1 : DC b_To_init 1 (.invokespecial 1) 3 4 := ⟨by decide +kernel, rfl⟩
theorem d_To_init_4 : DC b_To_init 4 (.aload_n 0) 1 5 := ⟨by decide +kernel, rfl⟩
theorem d_To_init_5 : DC b_To_init 5 (.iconst 0) 1 6 := ⟨by decide +kernel, rfl⟩
theorem d_To_init_6 : DC b_To_init 6 (.putfield 7) 3 9 := ⟨by decide +kernel, rfl⟩
theorem d_To_init_9 : DC b_To_init 9 (.aload_n 0) 1 10 := ⟨by decide +kernel, rfl⟩
theorem d_To_init_10 : DC b_To_init 10 (.iload_n 1) 1 11 := ⟨by decide +kernel, rfl⟩
theorem d_To_init_11 : DC b_To_init 11 (.putfield 13) 3 14 := ⟨by decide +kernel, rfl⟩
theorem d_To_init_14 : DC b_To_init 14 (.aload_n 0) 1 15 := ⟨by decide +kernel, rfl⟩
theorem d_To_init_15 : DC b_To_init 15 (.iload_n 2) 1 16 := ⟨by decide +kernel, rfl⟩
theorem d_To_init_16 : DC b_To_init 16 (.putfield 16) 3 19 := ⟨by decide +kernel, rfl⟩
theorem d_To_init_19 : DC b_To_init 19 (.aload_n 0) 1 20 := ⟨by decide +kernel, rfl⟩
theorem d_To_init_20 : DC b_To_init 20 (.iload_n 3) 1 21 := ⟨by decide +kernel, rfl⟩
theorem d_To_init_21 : DC b_To_init 21 (.putfield 19) 3 24 := ⟨by decide +kernel, rfl⟩
theorem d_To_init_24 : DC b_To_init 24 (.aload_n 0) 1 25 := ⟨by decide +kernel, rfl⟩
theorem d_To_init_25 : DC b_To_init 25 (.iload 4) 2 27 := ⟨by decide +kernel, rfl⟩
theorem d_To_init_27 : DC b_To_init 27 (.putfield 22) 3 30 := ⟨by decide +kernel, rfl⟩
theorem d_To_init_30 : DC b_To_init 30 (.aload_n 0) 1 31 := ⟨by decide +kernel, rfl⟩
theorem d_To_init_31 : DC b_To_init 31 (.iload 5) 2 33 := ⟨by decide +kernel, rfl⟩
theorem d_To_init_33 : DC b_To_init 33 (.putfield 25) 3 36 := ⟨by decide +kernel, rfl⟩
theorem d_To_init_36 : decode b_To_init 36 = .ok (.return_, 1) := by decide +kernel
def QV (Y : Lay) (sz : Nat) (r : Int32 × Nat × Mem) : Array Value → State → Outcome → State → Prop := fun _ st oc t => oc = .returned (some (.int r.1)) ∧ (∃ ad' : Nat → Nat, (∀ a, a < yn Y → ad' a = yad Y a) ∧ (∀ a, a < r.2.1 → An Y sz (ad' a)) ∧ WS (yset Y ad' r.2.1) r.2.2 t) ∧ va_F (An Y sz) st t
abbrev GT (X : Ctx) (Y : Lay) (sz : Nat) (r : Int32 × Nat × Mem) (pc : Nat) (lv : List (Nat × Value)) (st : List Value) (μ : Mem) : Prop := G X Y (An Y sz) (MQ (xb X) (QV Y sz r) (xa X) (xs X) 1 6 (An Y sz)) 0 0 7 pc lv st μ
theorem g_iretV {X : Ctx} {Y : Lay} {sz cells slots n : Nat} {ad : Nat → Nat} {μ : Mem} {nL pc : Nat} {lv : List (Nat × Value)} {cc : ByteArray} {own : String} {Rm : Room} {v : Int32} (C : CxG X (yset Y ad n) (An Y sz) cc nL (some .int) own Rm) (hag : ∀ a, a < yn Y → ad a = yad Y a) (hc : cells ≤ 1) (hs : slots ≤ 6) (hd : decode cc pc = .ok (.ireturn, 1)) : G X (yset Y ad n) (An Y sz) (MQ (xb X) (QV Y sz (v, n, μ)) (xa X) (xs X) 1 6 (An Y sz)) cells slots nL pc lv [.int v] μ := by
  intro H locs ls hl hw
  obtain ⟨hK, hP, hD, hS, hT, hSt⟩ := id hw
  refine W.widen (k := 1) (n := 6) hc hs ?_
  refine W.iret C.1.1 C.1.2.1 C.2.1 (fun t ht hW => ⟨rfl, ⟨ad, hag, fun a ha => hD.2 a _ (wl_at (Y := yset Y ad n) ha), va_K.moved hW.alike hK, by rw [ht]; exact hP, hD.weaken (fun _ _ _ _ => trivial), hT, hSt, ?_⟩, hS.F ht⟩) hS.2.2 hd C.2.2.1
  have hO := C.2.2.2.1.moved hS ht hW.alike
  intro k r hr
  obtain ⟨h1, h2, h3⟩ := hO k r hr
  have hsub : ∀ q, Aof (yset Y ad n) q → An Y sz q := by
    rintro q ⟨a, ha, rfl⟩
    exact hD.2 a _ (wl_at ha)
  exact ⟨h1.narrow hsub, h2.narrow hsub, h3⟩
theorem c_To_init {l : Launch} {Y : Lay} {a : Nat} (hk : ykd Y a = 8) (ha : a < yn Y) {μ r : Mem} {x1 x2 x3 x4 x5 : Int32} (hf : f_To_init a μ x1 x2 x3 x4 x5 = some r) : CtA l Y y_To_init b_To_init 6 { frames := 1, cells := 0, slots := 0, locals := 64 } [.ref (yad Y a), .int x1, .int x2, .int x3, .int x4, .int x5] (yn Y) μ r (fun _ => True) := by
  refine ct_ofA (own := "TopYard$Top") (lv := [(0, .ref (yad Y a)), (1, .int x1), (2, .int x2), (3, .int x3), (4, .int x4), (5, .int x5)]) (by decide +kernel) rfl rfl (Nat.le_of_ble_eq_true rfl) rfl (fun X sz hl hsz hE hnm C => ?_)
  subst hl
  unfold f_To_init at hf
  have C := cx_0 (ad := yad Y) (n := yn Y) C
  have hk : ykd (yset Y (yad Y) (yn Y)) a = 8 := hk
  have ha : a < yn (yset Y (yad Y) (yn Y)) := ha
  refine j_aload_n C d_To_init_0 0 rfl ?_
  refine g_obj C wd_315 oi_2 oi_3 (by decide) (by decide) rfl d_To_init_1 ?_
  refine j_aload_n C d_To_init_4 0 rfl ?_
  refine j_iconst (v := 0) C d_To_init_5 (by decide) ?_
  refine j_pI C fl_To_7 hk ha rfl rfl rfl d_To_init_6 hf (fun μ1 hf => ?_)
  refine j_aload_n C d_To_init_9 0 rfl ?_
  refine j_iload_n C d_To_init_10 1 rfl ?_
  refine g_pIF C hnm fl_To_13 rfl hk ha rfl d_To_init_11 hf (fun μ2 hf => ?_)
  refine j_aload_n C d_To_init_14 0 rfl ?_
  refine j_iload_n C d_To_init_15 2 rfl ?_
  refine g_pIF C hnm fl_To_16 rfl hk ha rfl d_To_init_16 hf (fun μ3 hf => ?_)
  refine j_aload_n C d_To_init_19 0 rfl ?_
  refine j_iload_n C d_To_init_20 3 rfl ?_
  refine g_pIF C hnm fl_To_19 rfl hk ha rfl d_To_init_21 hf (fun μ4 hf => ?_)
  refine j_aload_n C d_To_init_24 0 rfl ?_
  refine j_iload C d_To_init_25 4 rfl ?_
  refine g_pIF C hnm fl_To_22 rfl hk ha rfl d_To_init_27 hf (fun μ5 hf => ?_)
  refine j_aload_n C d_To_init_30 0 rfl ?_
  refine j_iload C d_To_init_31 5 rfl ?_
  refine j_pI C fl_To_25 hk ha rfl rfl rfl d_To_init_33 hf (fun μ6 hf => ?_)
  obtain rfl := Option.some.inj hf
  exact g_vret C (fun _ _ => rfl) d_To_init_36
abbrev Rt : Room := { frames := 3, cells := 1, slots := 6, locals := 192 }
theorem yset_self (Y : Lay) : yset Y (yad Y) (yn Y) = Y := rfl
theorem w_X_top_b65 {X : Ctx} {Y : Lay} {sz : Nat} (hY : IsX Y) (hA : ∀ q, (xs X).heap.size ≤ q → An Y sz q) (C : CxG X Y (An Y sz) b_X_top 7 (some .int) "TopYard" Rt) {r : Int32 × Nat × Mem} {μ : Mem} (x1 x2 x3 x4 x5 : Int32) (hf : f_X_top_b65 (yn Y) μ x1 x2 x3 x4 x5 = some r) : GT X Y sz r 65 [(0, .ref (yad Y 0)), (1, .int x1), (2, .int x2), (3, .int x3), (4, .int x4), (5, .int x5)] [] μ := by
  unfold f_X_top_b65 at hf
  have h0 : 0 < yn Y := nX hY (by decide)
  have h1 : 1 < yn Y := nX hY (by decide)
  refine j_aload_n C d_X_top_65 0 rfl ?_
  refine j_gI C fl_X_15 (kX hY rfl) h0 rfl d_X_top_66 ?_
  refine j_bipush (v := 40) C d_X_top_69 (by decide) ?_
  refine j_icmp_lt C d_X_top_71 hf (fun hf => ?_) (fun hf => ?_)
  · refine j_aload_n C d_X_top_77 0 rfl ?_
    refine j_gS (b := 1) C fl_X_11 (kX hY rfl) h0 rfl hY.2.2.2.1 rfl (sX hY rfl) d_X_top_78 ?_
    refine j_aload_n C d_X_top_81 0 rfl ?_
    refine j_gI C fl_X_15 (kX hY rfl) h0 rfl d_X_top_82 ?_
    refine ck hf (fun hi hf => ?_)
    have hkn : ykd Y (yn Y) = 8 := kX hY (kdX_out hY.2.2.2.2)
    have C0 := cx_0 (ad := yad Y) (n := yn Y) C
    refine g_new (Y := Y) (ad := yad Y) (n := yn Y) (n1 := yn Y + 1) C0 hA (Or.inr (fun j => rfl)) hkn (by decide) rfl kW8 kO8 rfl kD8 wd_246 wd_310 wd_311 (Nat.le_of_ble_eq_true rfl) (Nat.le_of_ble_eq_true rfl) rfl d_X_top_85 hf (fun ad1 μ1 g1 hf => ?_)
    have C1 := cx_y (Y' := Y) (ad' := ad1) (n' := yn Y + 1) C0
    rw [← g1 0 h0, ← g1 1 h1]
    refine j_dup C1 d_X_top_88 rfl ?_
    refine j_iload_n C1 d_X_top_89 1 rfl ?_
    refine j_iload_n C1 d_X_top_90 2 rfl ?_
    refine j_iload_n C1 d_X_top_91 3 rfl ?_
    refine j_iload C1 d_X_top_92 4 rfl ?_
    refine j_iload C1 d_X_top_94 5 rfl ?_
    refine bd hf (fun μ2 hc hf => ?_)
    refine g_cI (As := [.int x1, .int x2, .int x3, .int x4, .int x5]) (rest := [.ref (ad1 (yn Y)), .int (gI μ 0 1), .ref (ad1 1)]) (a := yn Y) (k1 := 5) C1 hA wd_312 wd_313 wd_311 wd_314 rfl ⟨by decide +kernel, by decide +kernel, by decide +kernel⟩ (c_To_init (Y := yset Y ad1 (yn Y + 1)) hkn (Nat.lt_succ_self _) hc) rfl (fun U hU => trivial) (fun U g mk a h => trivial) ⟨Nat.le_of_ble_eq_true rfl, Nat.le_of_ble_eq_true rfl⟩ ⟨Nat.le_of_ble_eq_true rfl, Nat.le_of_ble_eq_true rfl⟩ rfl (Nat.le_of_ble_eq_true rfl) d_X_top_96 (fun ad2 g2 => ?_)
    have g2' : ∀ a, a < yn Y + 1 → ad2 a = ad1 a := g2
    rw [← g2' 0 (by omega), ← g2' 1 (by omega), ← g2' (yn Y) (by omega)]
    have C2 := cx_y (Y' := Y) (ad' := ad2) (n' := yn Y + 1) C1
    have e0 : ykd (yset Y ad2 (yn Y + 1)) 0 = 9 := (kX hY rfl : ykd Y 0 = 9)
    have l0 : 0 < yn (yset Y ad2 (yn Y + 1)) := Nat.succ_pos _
    refine g_aast (q0 := 15) (N := 40) (cb := 8) (qc := (kR8, kF8, 6)) C2 (show ykd Y 1 = 15 from kX hY rfl) (by decide) rfl (show 1 < yn Y + 1 by omega) (show yln Y 1 = 40 from lX hY rfl) hi (Or.inr rfl) (Nat.lt_succ_self _) hkn (by decide) rfl rfl d_X_top_99 hf (fun μ3 hf => ?_)
    refine j_aload_n C2 d_X_top_100 0 rfl ?_
    refine j_dup C2 d_X_top_101 rfl ?_
    refine j_gI C2 fl_X_15 e0 l0 rfl d_X_top_102 ?_
    refine j_iconst (v := 1) C2 d_X_top_105 (by decide) ?_
    refine j_iadd C2 d_X_top_106 ?_
    refine j_pI C2 fl_X_15 e0 l0 rfl rfl rfl d_X_top_107 hf (fun μ4 hf => ?_)
    refine j_aload_n C2 d_X_top_110 0 rfl ?_
    refine j_gI C2 fl_X_15 e0 l0 rfl d_X_top_111 ?_
    refine j_iconst (v := 1) C2 d_X_top_114 (by decide) ?_
    refine j_isub C2 d_X_top_115 ?_
    obtain rfl := Option.some.inj hf
    exact g_iretV C2 (fun a h => (g2' a (by omega)).trans (g1 a h)) (Nat.le_of_ble_eq_true rfl) (Nat.le_of_ble_eq_true rfl) d_X_top_116
  · refine j_bipush (v := (-4)) C d_X_top_74 (by decide) ?_
    obtain rfl := Option.some.inj hf
    exact g_iretV (cx_0 (ad := yad Y) (n := yn Y) C) (fun a h => rfl) (Nat.zero_le _) (Nat.zero_le _) d_X_top_76
theorem w_X_top_bad {X : Ctx} {Y : Lay} {sz : Nat} (C : CxG X Y (An Y sz) b_X_top 7 (some .int) "TopYard" Rt) {r : Int32 × Nat × Mem} {μ : Mem} {lv : List (Nat × Value)} (hf : some (-2, yn Y, μ) = some r) : GT X Y sz r 62 lv [] μ := by
  refine j_bipush (v := (-2)) C d_X_top_62 (by decide) ?_
  obtain rfl := Option.some.inj hf
  exact g_iretV (cx_0 (ad := yad Y) (n := yn Y) C) (fun a h => rfl) (Nat.zero_le _) (Nat.zero_le _) d_X_top_64
theorem w_X_top_b54 {X : Ctx} {Y : Lay} {sz : Nat} (hY : IsX Y) (hA : ∀ q, (xs X).heap.size ≤ q → An Y sz q) (C : CxG X Y (An Y sz) b_X_top 7 (some .int) "TopYard" Rt) {r : Int32 × Nat × Mem} {μ : Mem} (x1 x2 x3 x4 x5 : Int32) (hf : f_X_top_b54 (yn Y) μ x1 x2 x3 x4 x5 = some r) : GT X Y sz r 54 [(0, .ref (yad Y 0)), (1, .int x1), (2, .int x2), (3, .int x3), (4, .int x4), (5, .int x5)] [] μ := by
  unfold f_X_top_b54 at hf
  refine j_iload C d_X_top_54 5 rfl ?_
  refine bd hf (fun v hc hf => ?_)
  refine g_cS (rest := []) C lk_X_103 (c_X_isOwner hY hc) rfl ⟨by decide, by decide⟩ ⟨Nat.zero_le _, Nat.zero_le _⟩ rfl (Nat.le_of_ble_eq_true rfl) d_X_top_56 ?_
  refine j_if_ne C d_X_top_59 hf (fun hf => ?_) (fun hf => ?_)
  · exact w_X_top_b65 hY hA C x1 x2 x3 x4 x5 hf
  · exact w_X_top_bad C hf
theorem w_X_top_b35 {X : Ctx} {Y : Lay} {sz : Nat} (hY : IsX Y) (hA : ∀ q, (xs X).heap.size ≤ q → An Y sz q) (C : CxG X Y (An Y sz) b_X_top 7 (some .int) "TopYard" Rt) {r : Int32 × Nat × Mem} {μ : Mem} (x1 x2 x3 x4 x5 s : Int32) (hf : f_X_top_b35 (yn Y) μ x1 x2 x3 x4 x5 s = some r) : GT X Y sz r 35 [(0, .ref (yad Y 0)), (1, .int x1), (2, .int x2), (3, .int x3), (4, .int x4), (5, .int x5)] [.int s] μ := by
  unfold f_X_top_b35 at hf
  refine j_istore (lvf := [(0, .ref (yad Y 0)), (1, .int x1), (2, .int x2), (3, .int x3), (4, .int x4), (5, .int x5)]) C d_X_top_35 (by decide) rfl ?_
  refine j_iload C d_X_top_37 0 rfl ?_
  refine j_if_eq C d_X_top_39 hf (fun hf => ?_) (fun hf => ?_)
  · exact w_X_top_bad C hf
  · refine j_iload C d_X_top_42 5 rfl ?_
    refine j_iconst (v := 1) C d_X_top_44 (by decide) ?_
    refine j_icmp_eq C d_X_top_45 hf (fun hf => ?_) (fun hf => ?_)
    · refine j_sub [1, 2, 3, 4, 5, 6] rfl ?_
      exact w_X_top_b54 hY hA C x1 x2 x3 x4 x5 hf
    · refine j_iload C d_X_top_48 5 rfl ?_
      refine j_iconst (v := (-1)) C d_X_top_50 (by decide) ?_
      refine j_icmp_ne C d_X_top_51 hf (fun hf => ?_) (fun hf => ?_)
      · exact w_X_top_bad C hf
      · refine j_sub [1, 2, 3, 4, 5, 6] rfl ?_
        exact w_X_top_b54 hY hA C x1 x2 x3 x4 x5 hf
theorem c_X_top {l : Launch} {Y : Lay} (hY : IsX Y) {μ : Mem} {x1 x2 x3 x4 x5 : Int32} {r : Int32 × Nat × Mem} (hf : f_X_top (yn Y) μ x1 x2 x3 x4 x5 = some r) (sz : Nat) : Met l y_X_top (.code y_X_top b_X_top 7 (some .int) :: TT) Rt (va_Pc [.ref (yad Y 0), .int x1, .int x2, .int x3, .int x4, .int x5] (fun U => WS Y μ U ∧ U.heap.size = sz)) (QV Y sz r) 1 6 (An Y sz) := by
  refine va_MetF (cc := b_X_top) (maxL := 7) (ret := some .int) (by decide +kernel) rfl ?_
  intro p e s m args below meth c s₁ B hml hv
  obtain ⟨rfl, hW, hsz⟩ := hv
  have hts := atoms_spec (ws := (Cond.code y_X_top b_X_top 7 (some .int) :: TT)) B.pre
  have hl := lv_entry [.ref (yad Y 0), .int x1, .int x2, .int x3, .int x4, .int x5] (n := 7) (Nat.le_of_ble_eq_true rfl)
  rw [lg_entry_eq]
  have hown' : s.vm.findClass "TopYard" = some m.cls := findClass_of_methodNamed B.named
  have hO : SOK Y (An Y sz) s := by
    intro k r hr
    obtain ⟨h1, h2, cell, h3, h4⟩ := hW.2.2.2.2.2 k r hr
    have hlt : ytS Y k < sz := by rw [← hsz]; exact (Array.getElem?_eq_some_iff.mp h3).1
    refine ⟨?_, ?_, cell, h3, h4⟩
    · obtain ⟨cf, kf, fi, f, a, cl, g1, g2, g3, g4, g5, g6, g7, g8⟩ := h1
      refine ⟨cf, kf, fi, f, a, cl, g1, g2, g3, g4, g5, g6, g7, fun h => ?_⟩
      rcases h with h | h
      · exact g8 h
      · have := (Array.getElem?_eq_some_iff.mp g5).1; omega
    · obtain ⟨cl, g1, g2, g3, g4, g5, g6, g7⟩ := h2
      refine ⟨cl, g1, g2, g3, g4, g5, g6, fun h => ?_⟩
      rcases h with h | h
      · exact g7 h
      · omega
  obtain ⟨hK, hP, hD, hT, hSt, -⟩ := hW
  obtain ⟨X, hX⟩ : ∃ X : Ctx, X = (p, l, e, Rt, s, m, ([.ref (yad Y 0), .int x1, .int x2, .int x3, .int x4, .int x5] : List Value).toArray, below, meth, c) := ⟨_, rfl⟩
  have C : CxG X Y (An Y sz) b_X_top 7 (some .int) "TopYard" Rt := by
    rw [hX]
    exact ⟨⟨B.exec, B.bytes, hml, hown', fun w hw => hts w (List.mem_cons_of_mem _ hw)⟩, B.returns, B.notSynchronized, hO, rfl⟩
  have hA : ∀ q, (xs X).heap.size ≤ q → An Y sz q := fun q h => Or.inr (by rw [hX] at h; have h : s.heap.size ≤ q := h; omega)
  have main : GT X Y sz r 0 [(0, .ref (yad Y 0)), (1, .int x1), (2, .int x2), (3, .int x3), (4, .int x4), (5, .int x5)] [] μ := by
    unfold f_X_top at hf
    refine j_iload_n C d_X_top_0 1 rfl ?_
    refine j_iconst (v := 1) C d_X_top_1 (by decide) ?_
    refine j_bipush (v := 50) C d_X_top_2 (by decide) ?_
    refine bd hf (fun v1 hc hf => ?_)
    refine g_cS (rest := []) C lk_X_90 (c_X_within hY hc) rfl ⟨by decide, by decide⟩ ⟨Nat.zero_le _, Nat.zero_le _⟩ rfl (Nat.le_of_ble_eq_true rfl) d_X_top_4 ?_
    refine j_if_eq C d_X_top_7 hf (fun hf => ?_) (fun hf => ?_)
    · refine j_iconst (v := 0) C d_X_top_34 (by decide) ?_
      exact w_X_top_b35 hY hA C x1 x2 x3 x4 x5 0 hf
    · refine j_iload_n C d_X_top_10 2 rfl ?_
      refine j_iconst (v := 1) C d_X_top_11 (by decide) ?_
      refine j_bipush (v := 12) C d_X_top_12 (by decide) ?_
      refine bd hf (fun v2 hc hf => ?_)
      refine g_cS (rest := []) C lk_X_90 (c_X_within hY hc) rfl ⟨by decide, by decide⟩ ⟨Nat.zero_le _, Nat.zero_le _⟩ rfl (Nat.le_of_ble_eq_true rfl) d_X_top_14 ?_
      refine j_if_eq C d_X_top_17 hf (fun hf => ?_) (fun hf => ?_)
      · refine j_iconst (v := 0) C d_X_top_34 (by decide) ?_
        exact w_X_top_b35 hY hA C x1 x2 x3 x4 x5 0 hf
      · refine j_iload_n C d_X_top_20 3 rfl ?_
        refine j_iconst (v := 1) C d_X_top_21 (by decide) ?_
        refine j_bipush (v := 9) C d_X_top_22 (by decide) ?_
        refine bd hf (fun v3 hc hf => ?_)
        refine g_cS (rest := []) C lk_X_90 (c_X_within hY hc) rfl ⟨by decide, by decide⟩ ⟨Nat.zero_le _, Nat.zero_le _⟩ rfl (Nat.le_of_ble_eq_true rfl) d_X_top_24 ?_
        refine j_if_eq C d_X_top_27 hf (fun hf => ?_) (fun hf => ?_)
        · refine j_iconst (v := 0) C d_X_top_34 (by decide) ?_
          exact w_X_top_b35 hY hA C x1 x2 x3 x4 x5 0 hf
        · refine j_iconst (v := 1) C d_X_top_30 (by decide) ?_
          refine j_goto C d_X_top_31 ?_
          exact w_X_top_b35 hY hA C x1 x2 x3 x4 x5 1 hf
  have := main s.heap [] _ (by exact hl) (by rw [hX]; exact ⟨hK, hP, wl_D (fun a ha _ => Or.inl ⟨a, ha, rfl⟩) hD, va_S.rf, hT, hSt⟩)
  rw [hX] at this
  exact this

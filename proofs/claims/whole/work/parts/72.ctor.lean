theorem d_Bw_init_0 : DC b_Bw_init 0 (.aload_n 0) 1 1 := ⟨by decide +kernel, rfl⟩
theorem d_Bw_init_1 : DC b_Bw_init 1 (.invokespecial 1) 3 4 := ⟨by decide +kernel, rfl⟩
theorem d_Bw_init_4 : DC b_Bw_init 4 (.aload_n 0) 1 5 := ⟨by decide +kernel, rfl⟩
theorem d_Bw_init_5 : DC b_Bw_init 5 (.bipush 12) 2 7 := ⟨by decide +kernel, rfl⟩
theorem d_Bw_init_7 : DC b_Bw_init 7 (.putfield 7) 3 10 := ⟨by decide +kernel, rfl⟩
theorem d_Bw_init_10 : DC b_Bw_init 10 (.aload_n 0) 1 11 := ⟨by decide +kernel, rfl⟩
theorem d_Bw_init_11 : DC b_Bw_init 11 (.iconst 4) 1 12 := ⟨by decide +kernel, rfl⟩
theorem d_Bw_init_12 : DC b_Bw_init 12 (.putfield 13) 3 15 := ⟨by decide +kernel, rfl⟩
theorem d_Bw_init_15 : DC b_Bw_init 15 (.aload_n 0) 1 16 := ⟨by decide +kernel, rfl⟩
theorem d_Bw_init_16 : DC b_Bw_init 16 (.iconst 0) 1 17 := ⟨by decide +kernel, rfl⟩
theorem d_Bw_init_17 : DC b_Bw_init 17 (.putfield 16) 3 20 := ⟨by decide +kernel, rfl⟩
theorem d_Bw_init_20 : DC b_Bw_init 20 (.aload_n 0) 1 21 := ⟨by decide +kernel, rfl⟩
theorem d_Bw_init_21 : DC b_Bw_init 21 (.sipush 3969) 3 24 := ⟨by decide +kernel, rfl⟩
theorem d_Bw_init_24 : DC b_Bw_init 24 (.newarray .int) 2 26 := ⟨by decide +kernel, rfl⟩
theorem d_Bw_init_26 : DC b_Bw_init 26 (.putfield 19) 3 29 := ⟨by decide +kernel, rfl⟩
theorem d_Bw_init_29 : decode b_Bw_init 29 = .ok (.return_, 1) := by decide +kernel
theorem d_Sp_init_0 : DC b_Sp_init 0 (.aload_n 0) 1 1 := ⟨by decide +kernel, rfl⟩
theorem d_Sp_init_1 : DC b_Sp_init 1 (.invokespecial 3) 3 4 := ⟨by decide +kernel, rfl⟩
theorem d_Sp_init_4 : DC b_Sp_init 4 (.aload_n 0) 1 5 := ⟨by decide +kernel, rfl⟩
theorem d_Sp_init_5 : DC b_Sp_init 5 (.aconst_null) 1 6 := ⟨by decide +kernel, rfl⟩
theorem d_Sp_init_6 : DC b_Sp_init 6 (.putfield 9) 3 9 := ⟨by decide +kernel, rfl⟩
theorem d_Sp_init_9 : DC b_Sp_init 9 (.aload_n 0) 1 10 := ⟨by decide +kernel, rfl⟩
theorem d_Sp_init_10 : DC b_Sp_init 10 (.iconst (-1)) 1 11 := ⟨by decide +kernel, rfl⟩
theorem d_Sp_init_11 : DC b_Sp_init 11 (.putfield 15) 3 14 := ⟨by decide +kernel, rfl⟩
theorem d_Sp_init_14 : DC b_Sp_init 14 (.aload_n 0) 1 15 := ⟨by decide +kernel, rfl⟩
theorem d_Sp_init_15 : DC b_Sp_init 15 (.iconst 1) 1 16 := ⟨by decide +kernel, rfl⟩
theorem d_Sp_init_16 : DC b_Sp_init 16 (.putfield 19) 3 19 := ⟨by decide +kernel, rfl⟩
theorem d_Sp_init_19 : decode b_Sp_init 19 = .ok (.return_, 1) := by decide +kernel
theorem d_Bt_init_0 : DC b_Bt_init 0 (.aload_n 0) 1 1 := ⟨by decide +kernel, rfl⟩
theorem d_Bt_init_1 : DC b_Bt_init 1 (.invokespecial 3) 3 4 := ⟨by decide +kernel, rfl⟩
theorem d_Bt_init_4 : DC b_Bt_init 4 (.aload_n 0) 1 5 := ⟨by decide +kernel, rfl⟩
theorem d_Bt_init_5 : DC b_Bt_init 5 (.iconst 4) 1 6 := ⟨by decide +kernel, rfl⟩
theorem d_Bt_init_6 : DC b_Bt_init 6 (.anewarray 11) 3 9 := ⟨by decide +kernel, rfl⟩
theorem d_Bt_init_9 : DC b_Bt_init 9 (.putfield 13) 3 12 := ⟨by decide +kernel, rfl⟩
theorem d_Bt_init_12 : DC b_Bt_init 12 (.aload_n 0) 1 13 := ⟨by decide +kernel, rfl⟩
theorem d_Bt_init_13 : DC b_Bt_init 13 (.iconst 0) 1 14 := ⟨by decide +kernel, rfl⟩
theorem d_Bt_init_14 : DC b_Bt_init 14 (.putfield 17) 3 17 := ⟨by decide +kernel, rfl⟩
theorem d_Bt_init_17 : DC b_Bt_init 17 (.aload_n 0) 1 18 := ⟨by decide +kernel, rfl⟩
theorem d_Bt_init_18 : DC b_Bt_init 18 (.bipush 8) 2 20 := ⟨by decide +kernel, rfl⟩
theorem d_Bt_init_20 : DC b_Bt_init 20 (.newarray .int) 2 22 := ⟨by decide +kernel, rfl⟩
theorem d_Bt_init_22 : DC b_Bt_init 22 (.putfield 21) 3 25 := ⟨by decide +kernel, rfl⟩
theorem d_Bt_init_25 : DC b_Bt_init 25 (.aload_n 0) 1 26 := ⟨by decide +kernel, rfl⟩
theorem d_Bt_init_26 : DC b_Bt_init 26 (.bipush 8) 2 28 := ⟨by decide +kernel, rfl⟩
theorem d_Bt_init_28 : DC b_Bt_init 28 (.newarray .int) 2 30 := ⟨by decide +kernel, rfl⟩
theorem d_Bt_init_30 : DC b_Bt_init 30 (.putfield 25) 3 33 := ⟨by decide +kernel, rfl⟩
theorem d_Bt_init_33 : DC b_Bt_init 33 (.aload_n 0) 1 34 := ⟨by decide +kernel, rfl⟩
theorem d_Bt_init_34 : DC b_Bt_init 34 (.bipush 8) 2 36 := ⟨by decide +kernel, rfl⟩
theorem d_Bt_init_36 : DC b_Bt_init 36 (.newarray .int) 2 38 := ⟨by decide +kernel, rfl⟩
theorem d_Bt_init_38 : DC b_Bt_init 38 (.putfield 28) 3 41 := ⟨by decide +kernel, rfl⟩
theorem d_Bt_init_41 : DC b_Bt_init 41 (.aload_n 0) 1 42 := ⟨by decide +kernel, rfl⟩
theorem d_Bt_init_42 : DC b_Bt_init 42 (.iconst 0) 1 43 := ⟨by decide +kernel, rfl⟩
theorem d_Bt_init_43 : DC b_Bt_init 43 (.putfield 31) 3 46 := ⟨by decide +kernel, rfl⟩
theorem d_Bt_init_46 : DC b_Bt_init 46 (.aload_n 0) 1 47 := ⟨by decide +kernel, rfl⟩
theorem d_Bt_init_47 : DC b_Bt_init 47 (.iconst 0) 1 48 := ⟨by decide +kernel, rfl⟩
theorem d_Bt_init_48 : DC b_Bt_init 48 (.putfield 34) 3 51 := ⟨by decide +kernel, rfl⟩
theorem d_Bt_init_51 : DC b_Bt_init 51 (.aload_n 0) 1 52 := ⟨by decide +kernel, rfl⟩
theorem d_Bt_init_52 : DC b_Bt_init 52 (.iconst 0) 1 53 := ⟨by decide +kernel, rfl⟩
theorem d_Bt_init_53 : DC b_Bt_init 53 (.putfield 37) 3 56 := ⟨by decide +kernel, rfl⟩
theorem d_Bt_init_56 : DC b_Bt_init 56 (.iconst 0) 1 57 := ⟨by decide +kernel, rfl⟩
theorem d_Bt_init_57 : DC b_Bt_init 57 (.istore_n 1) 1 58 := ⟨by decide +kernel, rfl⟩
theorem d_Bt_init_58 : DC b_Bt_init 58 (.iload_n 1) 1 59 := ⟨by decide +kernel, rfl⟩
theorem d_Bt_init_59 : DC b_Bt_init 59 (.iconst 4) 1 60 := ⟨by decide +kernel, rfl⟩
theorem d_Bt_init_60 : DB b_Bt_init 60 (.if_icmp .ge 22) 22 82 63 := ⟨by decide +kernel, by decide, rfl⟩
theorem d_Bt_init_63 : DC b_Bt_init 63 (.aload_n 0) 1 64 := ⟨by decide +kernel, rfl⟩
theorem d_Bt_init_64 : DC b_Bt_init 64 (.getfield 13) 3 67 := ⟨by decide +kernel, rfl⟩
theorem d_Bt_init_67 : DC b_Bt_init 67 (.iload_n 1) 1 68 := ⟨by decide +kernel, rfl⟩
theorem d_Bt_init_68 : DC b_Bt_init 68 (.new 11) 3 71 := ⟨by decide +kernel, rfl⟩
theorem d_Bt_init_71 : DC b_Bt_init 71 (.dup) 1 72 := ⟨by decide +kernel, rfl⟩
theorem d_Bt_init_72 : DC b_Bt_init 72 (.invokespecial 40) 3 75 := ⟨by decide +kernel, rfl⟩
theorem d_Bt_init_75 : DC b_Bt_init 75 (.aastore) 1 76 := ⟨by decide +kernel, rfl⟩
theorem d_Bt_init_76 : DC b_Bt_init 76 (.iinc 1 1) 3 79 := ⟨by decide +kernel, rfl⟩
theorem d_Bt_init_79 : DB b_Bt_init 79 (.goto (-21)) (-21) 58 82 := ⟨by decide +kernel, by decide, rfl⟩
theorem d_Bt_init_82 : decode b_Bt_init 82 = .ok (.return_, 1) := by decide +kernel
theorem d_Ch_init_0 : DC b_Ch_init 0 (.aload_n 0) 1 1 := ⟨by decide +kernel, rfl⟩
theorem d_Ch_init_1 : DC b_Ch_init 1 (.invokespecial 5) 3 4 := ⟨by decide +kernel, rfl⟩
theorem d_Ch_init_4 : DC b_Ch_init 4 (.aload_n 0) 1 5 := ⟨by decide +kernel, rfl⟩
theorem d_Ch_init_5 : DC b_Ch_init 5 (.iconst 0) 1 6 := ⟨by decide +kernel, rfl⟩
theorem d_Ch_init_6 : DC b_Ch_init 6 (.putfield 11) 3 9 := ⟨by decide +kernel, rfl⟩
theorem d_Ch_init_9 : DC b_Ch_init 9 (.aload_n 0) 1 10 := ⟨by decide +kernel, rfl⟩
theorem d_Ch_init_10 : DC b_Ch_init 10 (.iconst 0) 1 11 := ⟨by decide +kernel, rfl⟩
theorem d_Ch_init_11 : DC b_Ch_init 11 (.putfield 15) 3 14 := ⟨by decide +kernel, rfl⟩
theorem d_Ch_init_14 : DC b_Ch_init 14 (.aload_n 0) 1 15 := ⟨by decide +kernel, rfl⟩
theorem d_Ch_init_15 : DC b_Ch_init 15 (.iconst 4) 1 16 := ⟨by decide +kernel, rfl⟩
theorem d_Ch_init_16 : DC b_Ch_init 16 (.newarray .int) 2 18 := ⟨by decide +kernel, rfl⟩
theorem d_Ch_init_18 : DC b_Ch_init 18 (.putfield 18) 3 21 := ⟨by decide +kernel, rfl⟩
theorem d_Ch_init_21 : DC b_Ch_init 21 (.aload_n 0) 1 22 := ⟨by decide +kernel, rfl⟩
theorem d_Ch_init_22 : DC b_Ch_init 22 (.iconst 4) 1 23 := ⟨by decide +kernel, rfl⟩
theorem d_Ch_init_23 : DC b_Ch_init 23 (.newarray .int) 2 25 := ⟨by decide +kernel, rfl⟩
theorem d_Ch_init_25 : DC b_Ch_init 25 (.putfield 22) 3 28 := ⟨by decide +kernel, rfl⟩
theorem d_Ch_init_28 : DC b_Ch_init 28 (.aload_n 0) 1 29 := ⟨by decide +kernel, rfl⟩
theorem d_Ch_init_29 : DC b_Ch_init 29 (.iconst 4) 1 30 := ⟨by decide +kernel, rfl⟩
theorem d_Ch_init_30 : DC b_Ch_init 30 (.iconst 4) 1 31 := ⟨by decide +kernel, rfl⟩
theorem d_Ch_init_31 : DC b_Ch_init 31 (.multianewarray 25 2) 4 35 := ⟨by decide +kernel, rfl⟩
theorem d_Ch_init_35 : DC b_Ch_init 35 (.putfield 27) 3 38 := ⟨by decide +kernel, rfl⟩
theorem d_Ch_init_38 : DC b_Ch_init 38 (.aload_n 0) 1 39 := ⟨by decide +kernel, rfl⟩
theorem d_Ch_init_39 : DC b_Ch_init 39 (.iconst 4) 1 40 := ⟨by decide +kernel, rfl⟩
theorem d_Ch_init_40 : DC b_Ch_init 40 (.newarray .long) 2 42 := ⟨by decide +kernel, rfl⟩
theorem d_Ch_init_42 : DC b_Ch_init 42 (.putfield 30) 3 45 := ⟨by decide +kernel, rfl⟩
theorem d_Ch_init_45 : DC b_Ch_init 45 (.aload_n 0) 1 46 := ⟨by decide +kernel, rfl⟩
theorem d_Ch_init_46 : DC b_Ch_init 46 (.iconst 4) 1 47 := ⟨by decide +kernel, rfl⟩
theorem d_Ch_init_47 : DC b_Ch_init 47 (.newarray .long) 2 49 := ⟨by decide +kernel, rfl⟩
theorem d_Ch_init_49 : DC b_Ch_init 49 (.putfield 34) 3 52 := ⟨by decide +kernel, rfl⟩
theorem d_Ch_init_52 : DC b_Ch_init 52 (.aload_n 0) 1 53 := ⟨by decide +kernel, rfl⟩
theorem d_Ch_init_53 : DC b_Ch_init 53 (.sipush 256) 3 56 := ⟨by decide +kernel, rfl⟩
theorem d_Ch_init_56 : DC b_Ch_init 56 (.newarray .long) 2 58 := ⟨by decide +kernel, rfl⟩
theorem d_Ch_init_58 : DC b_Ch_init 58 (.putfield 37) 3 61 := ⟨by decide +kernel, rfl⟩
theorem d_Ch_init_61 : DC b_Ch_init 61 (.aload_n 0) 1 62 := ⟨by decide +kernel, rfl⟩
theorem d_Ch_init_62 : DC b_Ch_init 62 (.lconst 1) 1 63 := ⟨by decide +kernel, rfl⟩
theorem d_Ch_init_63 : DC b_Ch_init 63 (.putfield 40) 3 66 := ⟨by decide +kernel, rfl⟩
theorem d_Ch_init_66 : DC b_Ch_init 66 (.aload_n 0) 1 67 := ⟨by decide +kernel, rfl⟩
theorem d_Ch_init_67 : DC b_Ch_init 67 (.lconst 0) 1 68 := ⟨by decide +kernel, rfl⟩
theorem d_Ch_init_68 : DC b_Ch_init 68 (.putfield 44) 3 71 := ⟨by decide +kernel, rfl⟩
theorem d_Ch_init_71 : decode b_Ch_init 71 = .ok (.return_, 1) := by decide +kernel
theorem d_Pa_init_0 : DC b_Pa_init 0 (.aload_n 0) 1 1 := ⟨by decide +kernel, rfl⟩
theorem d_Pa_init_1 : DC b_Pa_init 1 (.invokespecial 3) 3 4 := ⟨by decide +kernel, rfl⟩
theorem d_Pa_init_4 : DC b_Pa_init 4 (.aload_n 0) 1 5 := ⟨by decide +kernel, rfl⟩
theorem d_Pa_init_5 : DC b_Pa_init 5 (.iconst 0) 1 6 := ⟨by decide +kernel, rfl⟩
theorem d_Pa_init_6 : DC b_Pa_init 6 (.putfield 9) 3 9 := ⟨by decide +kernel, rfl⟩
theorem d_Pa_init_9 : DC b_Pa_init 9 (.aload_n 0) 1 10 := ⟨by decide +kernel, rfl⟩
theorem d_Pa_init_10 : DC b_Pa_init 10 (.bipush 40) 2 12 := ⟨by decide +kernel, rfl⟩
theorem d_Pa_init_12 : DC b_Pa_init 12 (.newarray .int) 2 14 := ⟨by decide +kernel, rfl⟩
theorem d_Pa_init_14 : DC b_Pa_init 14 (.putfield 15) 3 17 := ⟨by decide +kernel, rfl⟩
theorem d_Pa_init_17 : DC b_Pa_init 17 (.aload_n 0) 1 18 := ⟨by decide +kernel, rfl⟩
theorem d_Pa_init_18 : DC b_Pa_init 18 (.bipush 40) 2 20 := ⟨by decide +kernel, rfl⟩
theorem d_Pa_init_20 : DC b_Pa_init 20 (.newarray .int) 2 22 := ⟨by decide +kernel, rfl⟩
theorem d_Pa_init_22 : DC b_Pa_init 22 (.putfield 19) 3 25 := ⟨by decide +kernel, rfl⟩
theorem d_Pa_init_25 : DC b_Pa_init 25 (.aload_n 0) 1 26 := ⟨by decide +kernel, rfl⟩
theorem d_Pa_init_26 : DC b_Pa_init 26 (.bipush 40) 2 28 := ⟨by decide +kernel, rfl⟩
theorem d_Pa_init_28 : DC b_Pa_init 28 (.newarray .int) 2 30 := ⟨by decide +kernel, rfl⟩
theorem d_Pa_init_30 : DC b_Pa_init 30 (.putfield 22) 3 33 := ⟨by decide +kernel, rfl⟩
theorem d_Pa_init_33 : DC b_Pa_init 33 (.aload_n 0) 1 34 := ⟨by decide +kernel, rfl⟩
theorem d_Pa_init_34 : DC b_Pa_init 34 (.bipush 40) 2 36 := ⟨by decide +kernel, rfl⟩
theorem d_Pa_init_36 : DC b_Pa_init 36 (.newarray .int) 2 38 := ⟨by decide +kernel, rfl⟩
theorem d_Pa_init_38 : DC b_Pa_init 38 (.putfield 25) 3 41 := ⟨by decide +kernel, rfl⟩
theorem d_Pa_init_41 : decode b_Pa_init 41 = .ok (.return_, 1) := by decide +kernel
theorem d_Ga_init_0 : DC b_Ga_init 0 (.aload_n 0) 1 1 := ⟨by decide +kernel, rfl⟩
theorem d_Ga_init_1 : DC b_Ga_init 1 (.invokespecial 3) 3 4 := ⟨by decide +kernel, rfl⟩
theorem d_Ga_init_4 : DC b_Ga_init 4 (.aload_n 0) 1 5 := ⟨by decide +kernel, rfl⟩
theorem d_Ga_init_5 : DC b_Ga_init 5 (.iconst 0) 1 6 := ⟨by decide +kernel, rfl⟩
theorem d_Ga_init_6 : DC b_Ga_init 6 (.putfield 9) 3 9 := ⟨by decide +kernel, rfl⟩
theorem d_Ga_init_9 : DC b_Ga_init 9 (.aload_n 0) 1 10 := ⟨by decide +kernel, rfl⟩
theorem d_Ga_init_10 : DC b_Ga_init 10 (.bipush 40) 2 12 := ⟨by decide +kernel, rfl⟩
theorem d_Ga_init_12 : DC b_Ga_init 12 (.newarray .int) 2 14 := ⟨by decide +kernel, rfl⟩
theorem d_Ga_init_14 : DC b_Ga_init 14 (.putfield 15) 3 17 := ⟨by decide +kernel, rfl⟩
theorem d_Ga_init_17 : DC b_Ga_init 17 (.aload_n 0) 1 18 := ⟨by decide +kernel, rfl⟩
theorem d_Ga_init_18 : DC b_Ga_init 18 (.iconst 5) 1 19 := ⟨by decide +kernel, rfl⟩
theorem d_Ga_init_19 : DC b_Ga_init 19 (.newarray .int) 2 21 := ⟨by decide +kernel, rfl⟩
theorem d_Ga_init_21 : DC b_Ga_init 21 (.putfield 19) 3 24 := ⟨by decide +kernel, rfl⟩
theorem d_Ga_init_24 : decode b_Ga_init 24 = .ok (.return_, 1) := by decide +kernel
theorem d_Pk_init_0 : DC b_Pk_init 0 (.aload_n 0) 1 1 := ⟨by decide +kernel, rfl⟩
theorem d_Pk_init_1 : DC b_Pk_init 1 (.invokespecial 3) 3 4 := ⟨by decide +kernel, rfl⟩
theorem d_Pk_init_4 : DC b_Pk_init 4 (.aload_n 0) 1 5 := ⟨by decide +kernel, rfl⟩
theorem d_Pk_init_5 : DC b_Pk_init 5 (.sipush 501) 3 8 := ⟨by decide +kernel, rfl⟩
theorem d_Pk_init_8 : DC b_Pk_init 8 (.newarray .int) 2 10 := ⟨by decide +kernel, rfl⟩
theorem d_Pk_init_10 : DC b_Pk_init 10 (.putfield 11) 3 13 := ⟨by decide +kernel, rfl⟩
theorem d_Pk_init_13 : DC b_Pk_init 13 (.aload_n 0) 1 14 := ⟨by decide +kernel, rfl⟩
theorem d_Pk_init_14 : DC b_Pk_init 14 (.sipush 501) 3 17 := ⟨by decide +kernel, rfl⟩
theorem d_Pk_init_17 : DC b_Pk_init 17 (.newarray .int) 2 19 := ⟨by decide +kernel, rfl⟩
theorem d_Pk_init_19 : DC b_Pk_init 19 (.putfield 15) 3 22 := ⟨by decide +kernel, rfl⟩
theorem d_Pk_init_22 : DC b_Pk_init 22 (.aload_n 0) 1 23 := ⟨by decide +kernel, rfl⟩
theorem d_Pk_init_23 : DC b_Pk_init 23 (.iconst 0) 1 24 := ⟨by decide +kernel, rfl⟩
theorem d_Pk_init_24 : DC b_Pk_init 24 (.putfield 18) 3 27 := ⟨by decide +kernel, rfl⟩
theorem d_Pk_init_27 : DC b_Pk_init 27 (.aload_n 0) 1 28 := ⟨by decide +kernel, rfl⟩
theorem d_Pk_init_28 : DC b_Pk_init 28 (.iconst 0) 1 29 := ⟨by decide +kernel, rfl⟩
theorem d_Pk_init_29 : DC b_Pk_init 29 (.putfield 22) 3 32 := ⟨by decide +kernel, rfl⟩
theorem d_Pk_init_32 : decode b_Pk_init 32 = .ok (.return_, 1) := by decide +kernel
theorem d_Sh_init_0 : DC b_Sh_init 0 (.aload_n 0) 1 1 := ⟨by decide +kernel, rfl⟩
theorem d_Sh_init_1 : DC b_Sh_init 1 (.invokespecial 3) 3 4 := ⟨by decide +kernel, rfl⟩
theorem d_Sh_init_4 : DC b_Sh_init 4 (.aload_n 0) 1 5 := ⟨by decide +kernel, rfl⟩
theorem d_Sh_init_5 : DC b_Sh_init 5 (.iconst 1) 1 6 := ⟨by decide +kernel, rfl⟩
theorem d_Sh_init_6 : DC b_Sh_init 6 (.putfield 9) 3 9 := ⟨by decide +kernel, rfl⟩
theorem d_Sh_init_9 : DC b_Sh_init 9 (.aload_n 0) 1 10 := ⟨by decide +kernel, rfl⟩
theorem d_Sh_init_10 : DC b_Sh_init 10 (.iconst 0) 1 11 := ⟨by decide +kernel, rfl⟩
theorem d_Sh_init_11 : DC b_Sh_init 11 (.putfield 15) 3 14 := ⟨by decide +kernel, rfl⟩
theorem d_Sh_init_14 : DC b_Sh_init 14 (.aload_n 0) 1 15 := ⟨by decide +kernel, rfl⟩
theorem d_Sh_init_15 : DC b_Sh_init 15 (.iconst 0) 1 16 := ⟨by decide +kernel, rfl⟩
theorem d_Sh_init_16 : DC b_Sh_init 16 (.putfield 19) 3 19 := ⟨by decide +kernel, rfl⟩
theorem d_Sh_init_19 : DC b_Sh_init 19 (.aload_n 0) 1 20 := ⟨by decide +kernel, rfl⟩
theorem d_Sh_init_20 : DC b_Sh_init 20 (.bipush 120) 2 22 := ⟨by decide +kernel, rfl⟩
theorem d_Sh_init_22 : DC b_Sh_init 22 (.newarray .int) 2 24 := ⟨by decide +kernel, rfl⟩
theorem d_Sh_init_24 : DC b_Sh_init 24 (.putfield 22) 3 27 := ⟨by decide +kernel, rfl⟩
theorem d_Sh_init_27 : decode b_Sh_init 27 = .ok (.return_, 1) := by decide +kernel
theorem d_X_init_0 : DC b_X_init 0 (.aload_n 0) 1 1 := ⟨by decide +kernel, rfl⟩
theorem d_X_init_1 : DC b_X_init 1 (.invokespecial 1) 3 4 := ⟨by decide +kernel, rfl⟩
theorem d_X_init_4 : DC b_X_init 4 (.aload_n 0) 1 5 := ⟨by decide +kernel, rfl⟩
theorem d_X_init_5 : DC b_X_init 5 (.bipush 40) 2 7 := ⟨by decide +kernel, rfl⟩
theorem d_X_init_7 : DC b_X_init 7 (.anewarray 9) 3 10 := ⟨by decide +kernel, rfl⟩
theorem d_X_init_10 : DC b_X_init 10 (.putfield 11) 3 13 := ⟨by decide +kernel, rfl⟩
theorem d_X_init_13 : DC b_X_init 13 (.aload_n 0) 1 14 := ⟨by decide +kernel, rfl⟩
theorem d_X_init_14 : DC b_X_init 14 (.iconst 0) 1 15 := ⟨by decide +kernel, rfl⟩
theorem d_X_init_15 : DC b_X_init 15 (.putfield 15) 3 18 := ⟨by decide +kernel, rfl⟩
theorem d_X_init_18 : DC b_X_init 18 (.aload_n 0) 1 19 := ⟨by decide +kernel, rfl⟩
theorem d_X_init_19 : DC b_X_init 19 (.new 19) 3 22 := ⟨by decide +kernel, rfl⟩
theorem d_X_init_22 : DC b_X_init 22 (.dup) 1 23 := ⟨by decide +kernel, rfl⟩
theorem d_X_init_23 : DC b_X_init 23 (.invokespecial 21) 3 26 := ⟨by decide +kernel, rfl⟩
theorem d_X_init_26 : DC b_X_init 26 (.putfield 22) 3 29 := ⟨by decide +kernel, rfl⟩
theorem d_X_init_29 : DC b_X_init 29 (.aload_n 0) 1 30 := ⟨by decide +kernel, rfl⟩
theorem d_X_init_30 : DC b_X_init 30 (.bipush 8) 2 32 := ⟨by decide +kernel, rfl⟩
theorem d_X_init_32 : DC b_X_init 32 (.newarray .int) 2 34 := ⟨by decide +kernel, rfl⟩
theorem d_X_init_34 : DC b_X_init 34 (.putfield 26) 3 37 := ⟨by decide +kernel, rfl⟩
theorem d_X_init_37 : DC b_X_init 37 (.aload_n 0) 1 38 := ⟨by decide +kernel, rfl⟩
theorem d_X_init_38 : DC b_X_init 38 (.new 30) 3 41 := ⟨by decide +kernel, rfl⟩
theorem d_X_init_41 : DC b_X_init 41 (.dup) 1 42 := ⟨by decide +kernel, rfl⟩
theorem d_X_init_42 : DC b_X_init 42 (.invokespecial 32) 3 45 := ⟨by decide +kernel, rfl⟩
theorem d_X_init_45 : DC b_X_init 45 (.putfield 33) 3 48 := ⟨by decide +kernel, rfl⟩
theorem d_X_init_48 : DC b_X_init 48 (.aload_n 0) 1 49 := ⟨by decide +kernel, rfl⟩
theorem d_X_init_49 : DC b_X_init 49 (.new 30) 3 52 := ⟨by decide +kernel, rfl⟩
theorem d_X_init_52 : DC b_X_init 52 (.dup) 1 53 := ⟨by decide +kernel, rfl⟩
theorem d_X_init_53 : DC b_X_init 53 (.invokespecial 32) 3 56 := ⟨by decide +kernel, rfl⟩
theorem d_X_init_56 : DC b_X_init 56 (.putfield 37) 3 59 := ⟨by decide +kernel, rfl⟩
theorem d_X_init_59 : DC b_X_init 59 (.aload_n 0) 1 60 := ⟨by decide +kernel, rfl⟩
theorem d_X_init_60 : DC b_X_init 60 (.new 40) 3 63 := ⟨by decide +kernel, rfl⟩
theorem d_X_init_63 : DC b_X_init 63 (.dup) 1 64 := ⟨by decide +kernel, rfl⟩
theorem d_X_init_64 : DC b_X_init 64 (.invokespecial 42) 3 67 := ⟨by decide +kernel, rfl⟩
theorem d_X_init_67 : DC b_X_init 67 (.putfield 43) 3 70 := ⟨by decide +kernel, rfl⟩
theorem d_X_init_70 : DC b_X_init 70 (.aload_n 0) 1 71 := ⟨by decide +kernel, rfl⟩
theorem d_X_init_71 : DC b_X_init 71 (.new 47) 3 74 := ⟨by decide +kernel, rfl⟩
theorem d_X_init_74 : DC b_X_init 74 (.dup) 1 75 := ⟨by decide +kernel, rfl⟩
theorem d_X_init_75 : DC b_X_init 75 (.invokespecial 49) 3 78 := ⟨by decide +kernel, rfl⟩
theorem d_X_init_78 : DC b_X_init 78 (.putfield 50) 3 81 := ⟨by decide +kernel, rfl⟩
theorem d_X_init_81 : DC b_X_init 81 (.aload_n 0) 1 82 := ⟨by decide +kernel, rfl⟩
theorem d_X_init_82 : DC b_X_init 82 (.new 54) 3 85 := ⟨by decide +kernel, rfl⟩
theorem d_X_init_85 : DC b_X_init 85 (.dup) 1 86 := ⟨by decide +kernel, rfl⟩
theorem d_X_init_86 : DC b_X_init 86 (.invokespecial 56) 3 89 := ⟨by decide +kernel, rfl⟩
theorem d_X_init_89 : DC b_X_init 89 (.putfield 57) 3 92 := ⟨by decide +kernel, rfl⟩
theorem d_X_init_92 : DC b_X_init 92 (.aload_n 0) 1 93 := ⟨by decide +kernel, rfl⟩
theorem d_X_init_93 : DC b_X_init 93 (.iconst 4) 1 94 := ⟨by decide +kernel, rfl⟩
theorem d_X_init_94 : DC b_X_init 94 (.newarray .int) 2 96 := ⟨by decide +kernel, rfl⟩
theorem d_X_init_96 : DC b_X_init 96 (.putfield 61) 3 99 := ⟨by decide +kernel, rfl⟩
theorem d_X_init_99 : DC b_X_init 99 (.aload_n 0) 1 100 := ⟨by decide +kernel, rfl⟩
theorem d_X_init_100 : DC b_X_init 100 (.bipush 64) 2 102 := ⟨by decide +kernel, rfl⟩
theorem d_X_init_102 : DC b_X_init 102 (.newarray .int) 2 104 := ⟨by decide +kernel, rfl⟩
theorem d_X_init_104 : DC b_X_init 104 (.putfield 64) 3 107 := ⟨by decide +kernel, rfl⟩
theorem d_X_init_107 : DC b_X_init 107 (.aload_n 0) 1 108 := ⟨by decide +kernel, rfl⟩
theorem d_X_init_108 : DC b_X_init 108 (.new 67) 3 111 := ⟨by decide +kernel, rfl⟩
theorem d_X_init_111 : DC b_X_init 111 (.dup) 1 112 := ⟨by decide +kernel, rfl⟩
theorem d_X_init_112 : DC b_X_init 112 (.invokespecial 69) 3 115 := ⟨by decide +kernel, rfl⟩
theorem d_X_init_115 : DC b_X_init 115 (.putfield 70) 3 118 := ⟨by decide +kernel, rfl⟩
theorem d_X_init_118 : DC b_X_init 118 (.aload_n 0) 1 119 := ⟨by decide +kernel, rfl⟩
theorem d_X_init_119 : DC b_X_init 119 (.iconst 4) 1 120 := ⟨by decide +kernel, rfl⟩
theorem d_X_init_120 : DC b_X_init 120 (.anewarray 74) 3 123 := ⟨by decide +kernel, rfl⟩
theorem d_X_init_123 : DC b_X_init 123 (.putfield 76) 3 126 := ⟨by decide +kernel, rfl⟩
theorem d_X_init_126 : DC b_X_init 126 (.aload_n 0) 1 127 := ⟨by decide +kernel, rfl⟩
theorem d_X_init_127 : DC b_X_init 127 (.iconst 0) 1 128 := ⟨by decide +kernel, rfl⟩
theorem d_X_init_128 : DC b_X_init 128 (.putfield 80) 3 131 := ⟨by decide +kernel, rfl⟩
theorem d_X_init_131 : DC b_X_init 131 (.aload_n 0) 1 132 := ⟨by decide +kernel, rfl⟩
theorem d_X_init_132 : DC b_X_init 132 (.getfield 26) 3 135 := ⟨by decide +kernel, rfl⟩
theorem d_X_init_135 : DC b_X_init 135 (.bipush 100) 2 137 := ⟨by decide +kernel, rfl⟩
theorem d_X_init_137 : DC b_X_init 137 (.invokestatic 83) 3 140 := ⟨by decide +kernel, rfl⟩
theorem d_X_init_140 : DC b_X_init 140 (.iconst 0) 1 141 := ⟨by decide +kernel, rfl⟩
theorem d_X_init_141 : DC b_X_init 141 (.istore_n 1) 1 142 := ⟨by decide +kernel, rfl⟩
theorem d_X_init_142 : DC b_X_init 142 (.iload_n 1) 1 143 := ⟨by decide +kernel, rfl⟩
theorem d_X_init_143 : DC b_X_init 143 (.iconst 4) 1 144 := ⟨by decide +kernel, rfl⟩
theorem d_X_init_144 : DB b_X_init 144 (.if_icmp .ge 22) 22 166 147 := ⟨by decide +kernel, by decide, rfl⟩
theorem d_X_init_147 : DC b_X_init 147 (.aload_n 0) 1 148 := ⟨by decide +kernel, rfl⟩
theorem d_X_init_148 : DC b_X_init 148 (.getfield 76) 3 151 := ⟨by decide +kernel, rfl⟩
theorem d_X_init_151 : DC b_X_init 151 (.iload_n 1) 1 152 := ⟨by decide +kernel, rfl⟩
theorem d_X_init_152 : DC b_X_init 152 (.new 74) 3 155 := ⟨by decide +kernel, rfl⟩
theorem d_X_init_155 : DC b_X_init 155 (.dup) 1 156 := ⟨by decide +kernel, rfl⟩
theorem d_X_init_156 : DC b_X_init 156 (.invokespecial 89) 3 159 := ⟨by decide +kernel, rfl⟩
theorem d_X_init_159 : DC b_X_init 159 (.aastore) 1 160 := ⟨by decide +kernel, rfl⟩
theorem d_X_init_160 : DC b_X_init 160 (.iinc 1 1) 3 163 := ⟨by decide +kernel, rfl⟩
theorem d_X_init_163 : DB b_X_init 163 (.goto (-21)) (-21) 142 166 := ⟨by decide +kernel, by decide, rfl⟩
theorem d_X_init_166 : decode b_X_init 166 = .ok (.return_, 1) := by decide +kernel
theorem d_M_init_0 : DC b_M_init 0 (.aload_n 0) 1 1 := ⟨by decide +kernel, rfl⟩
theorem d_M_init_1 : DC b_M_init 1 (.invokespecial 1) 3 4 := ⟨by decide +kernel, rfl⟩
theorem d_M_init_4 : DC b_M_init 4 (.aload_n 0) 1 5 := ⟨by decide +kernel, rfl⟩
theorem d_M_init_5 : DC b_M_init 5 (.bipush 36) 2 7 := ⟨by decide +kernel, rfl⟩
theorem d_M_init_7 : DC b_M_init 7 (.newarray .int) 2 9 := ⟨by decide +kernel, rfl⟩
theorem d_M_init_9 : DC b_M_init 9 (.putfield 7) 3 12 := ⟨by decide +kernel, rfl⟩
theorem d_M_init_12 : DC b_M_init 12 (.aload_n 0) 1 13 := ⟨by decide +kernel, rfl⟩
theorem d_M_init_13 : DC b_M_init 13 (.bipush 40) 2 15 := ⟨by decide +kernel, rfl⟩
theorem d_M_init_15 : DC b_M_init 15 (.newarray .int) 2 17 := ⟨by decide +kernel, rfl⟩
theorem d_M_init_17 : DC b_M_init 17 (.putfield 13) 3 20 := ⟨by decide +kernel, rfl⟩
theorem d_M_init_20 : DC b_M_init 20 (.aload_n 0) 1 21 := ⟨by decide +kernel, rfl⟩
theorem d_M_init_21 : DC b_M_init 21 (.bipush 40) 2 23 := ⟨by decide +kernel, rfl⟩
theorem d_M_init_23 : DC b_M_init 23 (.newarray .int) 2 25 := ⟨by decide +kernel, rfl⟩
theorem d_M_init_25 : DC b_M_init 25 (.putfield 16) 3 28 := ⟨by decide +kernel, rfl⟩
theorem d_M_init_28 : DC b_M_init 28 (.aload_n 0) 1 29 := ⟨by decide +kernel, rfl⟩
theorem d_M_init_29 : DC b_M_init 29 (.bipush 40) 2 31 := ⟨by decide +kernel, rfl⟩
theorem d_M_init_31 : DC b_M_init 31 (.newarray .int) 2 33 := ⟨by decide +kernel, rfl⟩
theorem d_M_init_33 : DC b_M_init 33 (.putfield 19) 3 36 := ⟨by decide +kernel, rfl⟩
theorem d_M_init_36 : DC b_M_init 36 (.aload_n 0) 1 37 := ⟨by decide +kernel, rfl⟩
theorem d_M_init_37 : DC b_M_init 37 (.bipush 40) 2 39 := ⟨by decide +kernel, rfl⟩
theorem d_M_init_39 : DC b_M_init 39 (.newarray .int) 2 41 := ⟨by decide +kernel, rfl⟩
theorem d_M_init_41 : DC b_M_init 41 (.putfield 22) 3 44 := ⟨by decide +kernel, rfl⟩
theorem d_M_init_44 : DC b_M_init 44 (.aload_n 0) 1 45 := ⟨by decide +kernel, rfl⟩
theorem d_M_init_45 : DC b_M_init 45 (.bipush 40) 2 47 := ⟨by decide +kernel, rfl⟩
theorem d_M_init_47 : DC b_M_init 47 (.newarray .int) 2 49 := ⟨by decide +kernel, rfl⟩
theorem d_M_init_49 : DC b_M_init 49 (.putfield 25) 3 52 := ⟨by decide +kernel, rfl⟩
theorem d_M_init_52 : DC b_M_init 52 (.aload_n 0) 1 53 := ⟨by decide +kernel, rfl⟩
theorem d_M_init_53 : DC b_M_init 53 (.bipush 40) 2 55 := ⟨by decide +kernel, rfl⟩
theorem d_M_init_55 : DC b_M_init 55 (.newarray .int) 2 57 := ⟨by decide +kernel, rfl⟩
theorem d_M_init_57 : DC b_M_init 57 (.putfield 28) 3 60 := ⟨by decide +kernel, rfl⟩
theorem d_M_init_60 : DC b_M_init 60 (.aload_n 0) 1 61 := ⟨by decide +kernel, rfl⟩
theorem d_M_init_61 : DC b_M_init 61 (.bipush 8) 2 63 := ⟨by decide +kernel, rfl⟩
theorem d_M_init_63 : DC b_M_init 63 (.newarray .int) 2 65 := ⟨by decide +kernel, rfl⟩
theorem d_M_init_65 : DC b_M_init 65 (.putfield 31) 3 68 := ⟨by decide +kernel, rfl⟩
theorem d_M_init_68 : DC b_M_init 68 (.aload_n 0) 1 69 := ⟨by decide +kernel, rfl⟩
theorem d_M_init_69 : DC b_M_init 69 (.bipush 12) 2 71 := ⟨by decide +kernel, rfl⟩
theorem d_M_init_71 : DC b_M_init 71 (.putfield 34) 3 74 := ⟨by decide +kernel, rfl⟩
theorem d_M_init_74 : DC b_M_init 74 (.aload_n 0) 1 75 := ⟨by decide +kernel, rfl⟩
theorem d_M_init_75 : DC b_M_init 75 (.iconst 4) 1 76 := ⟨by decide +kernel, rfl⟩
theorem d_M_init_76 : DC b_M_init 76 (.putfield 38) 3 79 := ⟨by decide +kernel, rfl⟩
theorem d_M_init_79 : DC b_M_init 79 (.aload_n 0) 1 80 := ⟨by decide +kernel, rfl⟩
theorem d_M_init_80 : DC b_M_init 80 (.bipush 24) 2 82 := ⟨by decide +kernel, rfl⟩
theorem d_M_init_82 : DC b_M_init 82 (.newarray .int) 2 84 := ⟨by decide +kernel, rfl⟩
theorem d_M_init_84 : DC b_M_init 84 (.putfield 41) 3 87 := ⟨by decide +kernel, rfl⟩
theorem d_M_init_87 : DC b_M_init 87 (.aload_n 0) 1 88 := ⟨by decide +kernel, rfl⟩
theorem d_M_init_88 : DC b_M_init 88 (.bipush 24) 2 90 := ⟨by decide +kernel, rfl⟩
theorem d_M_init_90 : DC b_M_init 90 (.newarray .int) 2 92 := ⟨by decide +kernel, rfl⟩
theorem d_M_init_92 : DC b_M_init 92 (.putfield 44) 3 95 := ⟨by decide +kernel, rfl⟩
theorem d_M_init_95 : DC b_M_init 95 (.aload_n 0) 1 96 := ⟨by decide +kernel, rfl⟩
theorem d_M_init_96 : DC b_M_init 96 (.bipush 24) 2 98 := ⟨by decide +kernel, rfl⟩
theorem d_M_init_98 : DC b_M_init 98 (.newarray .int) 2 100 := ⟨by decide +kernel, rfl⟩
theorem d_M_init_100 : DC b_M_init 100 (.putfield 47) 3 103 := ⟨by decide +kernel, rfl⟩
theorem d_M_init_103 : DC b_M_init 103 (.aload_n 0) 1 104 := ⟨by decide +kernel, rfl⟩
theorem d_M_init_104 : DC b_M_init 104 (.iconst 4) 1 105 := ⟨by decide +kernel, rfl⟩
theorem d_M_init_105 : DC b_M_init 105 (.newarray .int) 2 107 := ⟨by decide +kernel, rfl⟩
theorem d_M_init_107 : DC b_M_init 107 (.putfield 50) 3 110 := ⟨by decide +kernel, rfl⟩
theorem d_M_init_110 : DC b_M_init 110 (.aload_n 0) 1 111 := ⟨by decide +kernel, rfl⟩
theorem d_M_init_111 : DC b_M_init 111 (.iconst 4) 1 112 := ⟨by decide +kernel, rfl⟩
theorem d_M_init_112 : DC b_M_init 112 (.newarray .int) 2 114 := ⟨by decide +kernel, rfl⟩
theorem d_M_init_114 : DC b_M_init 114 (.putfield 53) 3 117 := ⟨by decide +kernel, rfl⟩
theorem d_M_init_117 : DC b_M_init 117 (.aload_n 0) 1 118 := ⟨by decide +kernel, rfl⟩
theorem d_M_init_118 : DC b_M_init 118 (.iconst 4) 1 119 := ⟨by decide +kernel, rfl⟩
theorem d_M_init_119 : DC b_M_init 119 (.newarray .int) 2 121 := ⟨by decide +kernel, rfl⟩
theorem d_M_init_121 : DC b_M_init 121 (.putfield 56) 3 124 := ⟨by decide +kernel, rfl⟩
theorem d_M_init_124 : DC b_M_init 124 (.aload_n 0) 1 125 := ⟨by decide +kernel, rfl⟩
theorem d_M_init_125 : DC b_M_init 125 (.iconst 4) 1 126 := ⟨by decide +kernel, rfl⟩
theorem d_M_init_126 : DC b_M_init 126 (.newarray .int) 2 128 := ⟨by decide +kernel, rfl⟩
theorem d_M_init_128 : DC b_M_init 128 (.putfield 59) 3 131 := ⟨by decide +kernel, rfl⟩
theorem d_M_init_131 : DC b_M_init 131 (.aload_n 0) 1 132 := ⟨by decide +kernel, rfl⟩
theorem d_M_init_132 : DC b_M_init 132 (.iconst 4) 1 133 := ⟨by decide +kernel, rfl⟩
theorem d_M_init_133 : DC b_M_init 133 (.newarray .int) 2 135 := ⟨by decide +kernel, rfl⟩
theorem d_M_init_135 : DC b_M_init 135 (.putfield 62) 3 138 := ⟨by decide +kernel, rfl⟩
theorem d_M_init_138 : DC b_M_init 138 (.aload_n 0) 1 139 := ⟨by decide +kernel, rfl⟩
theorem d_M_init_139 : DC b_M_init 139 (.bipush 8) 2 141 := ⟨by decide +kernel, rfl⟩
theorem d_M_init_141 : DC b_M_init 141 (.newarray .int) 2 143 := ⟨by decide +kernel, rfl⟩
theorem d_M_init_143 : DC b_M_init 143 (.putfield 65) 3 146 := ⟨by decide +kernel, rfl⟩
theorem d_M_init_146 : DC b_M_init 146 (.aload_n 0) 1 147 := ⟨by decide +kernel, rfl⟩
theorem d_M_init_147 : DC b_M_init 147 (.bipush 8) 2 149 := ⟨by decide +kernel, rfl⟩
theorem d_M_init_149 : DC b_M_init 149 (.newarray .int) 2 151 := ⟨by decide +kernel, rfl⟩
theorem d_M_init_151 : DC b_M_init 151 (.putfield 68) 3 154 := ⟨by decide +kernel, rfl⟩
theorem d_M_init_154 : DC b_M_init 154 (.aload_n 0) 1 155 := ⟨by decide +kernel, rfl⟩
theorem d_M_init_155 : DC b_M_init 155 (.bipush 8) 2 157 := ⟨by decide +kernel, rfl⟩
theorem d_M_init_157 : DC b_M_init 157 (.newarray .int) 2 159 := ⟨by decide +kernel, rfl⟩
theorem d_M_init_159 : DC b_M_init 159 (.putfield 71) 3 162 := ⟨by decide +kernel, rfl⟩
theorem d_M_init_162 : DC b_M_init 162 (.aload_n 0) 1 163 := ⟨by decide +kernel, rfl⟩
theorem d_M_init_163 : DC b_M_init 163 (.iconst 4) 1 164 := ⟨by decide +kernel, rfl⟩
theorem d_M_init_164 : DC b_M_init 164 (.newarray .int) 2 166 := ⟨by decide +kernel, rfl⟩
theorem d_M_init_166 : DC b_M_init 166 (.putfield 74) 3 169 := ⟨by decide +kernel, rfl⟩
theorem d_M_init_169 : DC b_M_init 169 (.aload_n 0) 1 170 := ⟨by decide +kernel, rfl⟩
theorem d_M_init_170 : DC b_M_init 170 (.iconst 4) 1 171 := ⟨by decide +kernel, rfl⟩
theorem d_M_init_171 : DC b_M_init 171 (.newarray .long) 2 173 := ⟨by decide +kernel, rfl⟩
theorem d_M_init_173 : DC b_M_init 173 (.putfield 77) 3 176 := ⟨by decide +kernel, rfl⟩
theorem d_M_init_176 : DC b_M_init 176 (.aload_n 0) 1 177 := ⟨by decide +kernel, rfl⟩
theorem d_M_init_177 : DC b_M_init 177 (.iconst 4) 1 178 := ⟨by decide +kernel, rfl⟩
theorem d_M_init_178 : DC b_M_init 178 (.newarray .long) 2 180 := ⟨by decide +kernel, rfl⟩
theorem d_M_init_180 : DC b_M_init 180 (.putfield 81) 3 183 := ⟨by decide +kernel, rfl⟩
theorem d_M_init_183 : DC b_M_init 183 (.aload_n 0) 1 184 := ⟨by decide +kernel, rfl⟩
theorem d_M_init_184 : DC b_M_init 184 (.iconst 4) 1 185 := ⟨by decide +kernel, rfl⟩
theorem d_M_init_185 : DC b_M_init 185 (.newarray .int) 2 187 := ⟨by decide +kernel, rfl⟩
theorem d_M_init_187 : DC b_M_init 187 (.putfield 84) 3 190 := ⟨by decide +kernel, rfl⟩
theorem d_M_init_190 : DC b_M_init 190 (.aload_n 0) 1 191 := ⟨by decide +kernel, rfl⟩
theorem d_M_init_191 : DC b_M_init 191 (.iconst 4) 1 192 := ⟨by decide +kernel, rfl⟩
theorem d_M_init_192 : DC b_M_init 192 (.newarray .long) 2 194 := ⟨by decide +kernel, rfl⟩
theorem d_M_init_194 : DC b_M_init 194 (.putfield 87) 3 197 := ⟨by decide +kernel, rfl⟩
theorem d_M_init_197 : DC b_M_init 197 (.aload_n 0) 1 198 := ⟨by decide +kernel, rfl⟩
theorem d_M_init_198 : DC b_M_init 198 (.iconst 4) 1 199 := ⟨by decide +kernel, rfl⟩
theorem d_M_init_199 : DC b_M_init 199 (.newarray .long) 2 201 := ⟨by decide +kernel, rfl⟩
theorem d_M_init_201 : DC b_M_init 201 (.putfield 90) 3 204 := ⟨by decide +kernel, rfl⟩
theorem d_M_init_204 : DC b_M_init 204 (.aload_n 0) 1 205 := ⟨by decide +kernel, rfl⟩
theorem d_M_init_205 : DC b_M_init 205 (.iconst 4) 1 206 := ⟨by decide +kernel, rfl⟩
theorem d_M_init_206 : DC b_M_init 206 (.newarray .int) 2 208 := ⟨by decide +kernel, rfl⟩
theorem d_M_init_208 : DC b_M_init 208 (.putfield 93) 3 211 := ⟨by decide +kernel, rfl⟩
theorem d_M_init_211 : DC b_M_init 211 (.aload_n 0) 1 212 := ⟨by decide +kernel, rfl⟩
theorem d_M_init_212 : DC b_M_init 212 (.iconst 4) 1 213 := ⟨by decide +kernel, rfl⟩
theorem d_M_init_213 : DC b_M_init 213 (.newarray .int) 2 215 := ⟨by decide +kernel, rfl⟩
theorem d_M_init_215 : DC b_M_init 215 (.putfield 96) 3 218 := ⟨by decide +kernel, rfl⟩
theorem d_M_init_218 : DC b_M_init 218 (.aload_n 0) 1 219 := ⟨by decide +kernel, rfl⟩
theorem d_M_init_219 : DC b_M_init 219 (.iconst 4) 1 220 := ⟨by decide +kernel, rfl⟩
theorem d_M_init_220 : DC b_M_init 220 (.newarray .int) 2 222 := ⟨by decide +kernel, rfl⟩
theorem d_M_init_222 : DC b_M_init 222 (.putfield 99) 3 225 := ⟨by decide +kernel, rfl⟩
theorem d_M_init_225 : DC b_M_init 225 (.aload_n 0) 1 226 := ⟨by decide +kernel, rfl⟩
theorem d_M_init_226 : DC b_M_init 226 (.iconst 4) 1 227 := ⟨by decide +kernel, rfl⟩
theorem d_M_init_227 : DC b_M_init 227 (.newarray .int) 2 229 := ⟨by decide +kernel, rfl⟩
theorem d_M_init_229 : DC b_M_init 229 (.putfield 102) 3 232 := ⟨by decide +kernel, rfl⟩
theorem d_M_init_232 : DC b_M_init 232 (.aload_n 0) 1 233 := ⟨by decide +kernel, rfl⟩
theorem d_M_init_233 : DC b_M_init 233 (.iconst 4) 1 234 := ⟨by decide +kernel, rfl⟩
theorem d_M_init_234 : DC b_M_init 234 (.newarray .int) 2 236 := ⟨by decide +kernel, rfl⟩
theorem d_M_init_236 : DC b_M_init 236 (.putfield 105) 3 239 := ⟨by decide +kernel, rfl⟩
theorem d_M_init_239 : DC b_M_init 239 (.aload_n 0) 1 240 := ⟨by decide +kernel, rfl⟩
theorem d_M_init_240 : DC b_M_init 240 (.bipush 16) 2 242 := ⟨by decide +kernel, rfl⟩
theorem d_M_init_242 : DC b_M_init 242 (.newarray .int) 2 244 := ⟨by decide +kernel, rfl⟩
theorem d_M_init_244 : DC b_M_init 244 (.putfield 108) 3 247 := ⟨by decide +kernel, rfl⟩
theorem d_M_init_247 : DC b_M_init 247 (.aload_n 0) 1 248 := ⟨by decide +kernel, rfl⟩
theorem d_M_init_248 : DC b_M_init 248 (.bipush 16) 2 250 := ⟨by decide +kernel, rfl⟩
theorem d_M_init_250 : DC b_M_init 250 (.newarray .long) 2 252 := ⟨by decide +kernel, rfl⟩
theorem d_M_init_252 : DC b_M_init 252 (.putfield 111) 3 255 := ⟨by decide +kernel, rfl⟩
theorem d_M_init_255 : DC b_M_init 255 (.aload_n 0) 1 256 := ⟨by decide +kernel, rfl⟩
theorem d_M_init_256 : DC b_M_init 256 (.bipush 16) 2 258 := ⟨by decide +kernel, rfl⟩
theorem d_M_init_258 : DC b_M_init 258 (.newarray .long) 2 260 := ⟨by decide +kernel, rfl⟩
theorem d_M_init_260 : DC b_M_init 260 (.putfield 114) 3 263 := ⟨by decide +kernel, rfl⟩
theorem d_M_init_263 : DC b_M_init 263 (.aload_n 0) 1 264 := ⟨by decide +kernel, rfl⟩
theorem d_M_init_264 : DC b_M_init 264 (.iconst 4) 1 265 := ⟨by decide +kernel, rfl⟩
theorem d_M_init_265 : DC b_M_init 265 (.newarray .long) 2 267 := ⟨by decide +kernel, rfl⟩
theorem d_M_init_267 : DC b_M_init 267 (.putfield 117) 3 270 := ⟨by decide +kernel, rfl⟩
theorem d_M_init_270 : DC b_M_init 270 (.aload_n 0) 1 271 := ⟨by decide +kernel, rfl⟩
theorem d_M_init_271 : DC b_M_init 271 (.iconst 4) 1 272 := ⟨by decide +kernel, rfl⟩
theorem d_M_init_272 : DC b_M_init 272 (.newarray .long) 2 274 := ⟨by decide +kernel, rfl⟩
theorem d_M_init_274 : DC b_M_init 274 (.putfield 120) 3 277 := ⟨by decide +kernel, rfl⟩
theorem d_M_init_277 : DC b_M_init 277 (.aload_n 0) 1 278 := ⟨by decide +kernel, rfl⟩
theorem d_M_init_278 : DC b_M_init 278 (.bipush 40) 2 280 := ⟨by decide +kernel, rfl⟩
theorem d_M_init_280 : DC b_M_init 280 (.newarray .int) 2 282 := ⟨by decide +kernel, rfl⟩
theorem d_M_init_282 : DC b_M_init 282 (.putfield 123) 3 285 := ⟨by decide +kernel, rfl⟩
theorem d_M_init_285 : DC b_M_init 285 (.aload_n 0) 1 286 := ⟨by decide +kernel, rfl⟩
theorem d_M_init_286 : DC b_M_init 286 (.bipush 40) 2 288 := ⟨by decide +kernel, rfl⟩
theorem d_M_init_288 : DC b_M_init 288 (.newarray .int) 2 290 := ⟨by decide +kernel, rfl⟩
theorem d_M_init_290 : DC b_M_init 290 (.putfield 126) 3 293 := ⟨by decide +kernel, rfl⟩
theorem d_M_init_293 : DC b_M_init 293 (.aload_n 0) 1 294 := ⟨by decide +kernel, rfl⟩
theorem d_M_init_294 : DC b_M_init 294 (.bipush 40) 2 296 := ⟨by decide +kernel, rfl⟩
theorem d_M_init_296 : DC b_M_init 296 (.newarray .int) 2 298 := ⟨by decide +kernel, rfl⟩
theorem d_M_init_298 : DC b_M_init 298 (.putfield 129) 3 301 := ⟨by decide +kernel, rfl⟩
theorem d_M_init_301 : DC b_M_init 301 (.aload_n 0) 1 302 := ⟨by decide +kernel, rfl⟩
theorem d_M_init_302 : DC b_M_init 302 (.bipush 40) 2 304 := ⟨by decide +kernel, rfl⟩
theorem d_M_init_304 : DC b_M_init 304 (.newarray .int) 2 306 := ⟨by decide +kernel, rfl⟩
theorem d_M_init_306 : DC b_M_init 306 (.putfield 132) 3 309 := ⟨by decide +kernel, rfl⟩
theorem d_M_init_309 : DC b_M_init 309 (.aload_n 0) 1 310 := ⟨by decide +kernel, rfl⟩
theorem d_M_init_310 : DC b_M_init 310 (.iconst 5) 1 311 := ⟨by decide +kernel, rfl⟩
theorem d_M_init_311 : DC b_M_init 311 (.newarray .int) 2 313 := ⟨by decide +kernel, rfl⟩
theorem d_M_init_313 : DC b_M_init 313 (.putfield 135) 3 316 := ⟨by decide +kernel, rfl⟩
theorem d_M_init_316 : DC b_M_init 316 (.aload_n 0) 1 317 := ⟨by decide +kernel, rfl⟩
theorem d_M_init_317 : DC b_M_init 317 (.iconst 4) 1 318 := ⟨by decide +kernel, rfl⟩
theorem d_M_init_318 : DC b_M_init 318 (.newarray .int) 2 320 := ⟨by decide +kernel, rfl⟩
theorem d_M_init_320 : DC b_M_init 320 (.putfield 138) 3 323 := ⟨by decide +kernel, rfl⟩
theorem d_M_init_323 : DC b_M_init 323 (.aload_n 0) 1 324 := ⟨by decide +kernel, rfl⟩
theorem d_M_init_324 : DC b_M_init 324 (.bipush 64) 2 326 := ⟨by decide +kernel, rfl⟩
theorem d_M_init_326 : DC b_M_init 326 (.newarray .int) 2 328 := ⟨by decide +kernel, rfl⟩
theorem d_M_init_328 : DC b_M_init 328 (.putfield 141) 3 331 := ⟨by decide +kernel, rfl⟩
theorem d_M_init_331 : DC b_M_init 331 (.aload_n 0) 1 332 := ⟨by decide +kernel, rfl⟩
theorem d_M_init_332 : DC b_M_init 332 (.sipush 256) 3 335 := ⟨by decide +kernel, rfl⟩
theorem d_M_init_335 : DC b_M_init 335 (.newarray .int) 2 337 := ⟨by decide +kernel, rfl⟩
theorem d_M_init_337 : DC b_M_init 337 (.putfield 144) 3 340 := ⟨by decide +kernel, rfl⟩
theorem d_M_init_340 : DC b_M_init 340 (.aload_n 0) 1 341 := ⟨by decide +kernel, rfl⟩
theorem d_M_init_341 : DC b_M_init 341 (.bipush 16) 2 343 := ⟨by decide +kernel, rfl⟩
theorem d_M_init_343 : DC b_M_init 343 (.newarray .int) 2 345 := ⟨by decide +kernel, rfl⟩
theorem d_M_init_345 : DC b_M_init 345 (.putfield 147) 3 348 := ⟨by decide +kernel, rfl⟩
theorem d_M_init_348 : DC b_M_init 348 (.aload_n 0) 1 349 := ⟨by decide +kernel, rfl⟩
theorem d_M_init_349 : DC b_M_init 349 (.iconst 4) 1 350 := ⟨by decide +kernel, rfl⟩
theorem d_M_init_350 : DC b_M_init 350 (.newarray .int) 2 352 := ⟨by decide +kernel, rfl⟩
theorem d_M_init_352 : DC b_M_init 352 (.putfield 150) 3 355 := ⟨by decide +kernel, rfl⟩
theorem d_M_init_355 : DC b_M_init 355 (.aload_n 0) 1 356 := ⟨by decide +kernel, rfl⟩
theorem d_M_init_356 : DC b_M_init 356 (.iconst 4) 1 357 := ⟨by decide +kernel, rfl⟩
theorem d_M_init_357 : DC b_M_init 357 (.newarray .int) 2 359 := ⟨by decide +kernel, rfl⟩
theorem d_M_init_359 : DC b_M_init 359 (.putfield 153) 3 362 := ⟨by decide +kernel, rfl⟩
theorem d_M_init_362 : DC b_M_init 362 (.aload_n 0) 1 363 := ⟨by decide +kernel, rfl⟩
theorem d_M_init_363 : DC b_M_init 363 (.sipush 480) 3 366 := ⟨by decide +kernel, rfl⟩
theorem d_M_init_366 : DC b_M_init 366 (.newarray .int) 2 368 := ⟨by decide +kernel, rfl⟩
theorem d_M_init_368 : DC b_M_init 368 (.putfield 156) 3 371 := ⟨by decide +kernel, rfl⟩
theorem d_M_init_371 : DC b_M_init 371 (.aload_n 0) 1 372 := ⟨by decide +kernel, rfl⟩
theorem d_M_init_372 : DC b_M_init 372 (.bipush 120) 2 374 := ⟨by decide +kernel, rfl⟩
theorem d_M_init_374 : DC b_M_init 374 (.newarray .int) 2 376 := ⟨by decide +kernel, rfl⟩
theorem d_M_init_376 : DC b_M_init 376 (.putfield 159) 3 379 := ⟨by decide +kernel, rfl⟩
theorem d_M_init_379 : DC b_M_init 379 (.aload_n 0) 1 380 := ⟨by decide +kernel, rfl⟩
theorem d_M_init_380 : DC b_M_init 380 (.getfield 7) 3 383 := ⟨by decide +kernel, rfl⟩
theorem d_M_init_383 : DC b_M_init 383 (.iconst 0) 1 384 := ⟨by decide +kernel, rfl⟩
theorem d_M_init_384 : DC b_M_init 384 (.bipush 65) 2 386 := ⟨by decide +kernel, rfl⟩
theorem d_M_init_386 : DC b_M_init 386 (.iastore) 1 387 := ⟨by decide +kernel, rfl⟩
theorem d_M_init_387 : DC b_M_init 387 (.aload_n 0) 1 388 := ⟨by decide +kernel, rfl⟩
theorem d_M_init_388 : DC b_M_init 388 (.getfield 7) 3 391 := ⟨by decide +kernel, rfl⟩
theorem d_M_init_391 : DC b_M_init 391 (.iconst 1) 1 392 := ⟨by decide +kernel, rfl⟩
theorem d_M_init_392 : DC b_M_init 392 (.bipush 63) 2 394 := ⟨by decide +kernel, rfl⟩
theorem d_M_init_394 : DC b_M_init 394 (.iastore) 1 395 := ⟨by decide +kernel, rfl⟩
theorem d_M_init_395 : DC b_M_init 395 (.aload_n 0) 1 396 := ⟨by decide +kernel, rfl⟩
theorem d_M_init_396 : DC b_M_init 396 (.getfield 7) 3 399 := ⟨by decide +kernel, rfl⟩
theorem d_M_init_399 : DC b_M_init 399 (.iconst 2) 1 400 := ⟨by decide +kernel, rfl⟩
theorem d_M_init_400 : DC b_M_init 400 (.bipush 60) 2 402 := ⟨by decide +kernel, rfl⟩
theorem d_M_init_402 : DC b_M_init 402 (.iastore) 1 403 := ⟨by decide +kernel, rfl⟩
theorem d_M_init_403 : DC b_M_init 403 (.aload_n 0) 1 404 := ⟨by decide +kernel, rfl⟩
theorem d_M_init_404 : DC b_M_init 404 (.getfield 7) 3 407 := ⟨by decide +kernel, rfl⟩
theorem d_M_init_407 : DC b_M_init 407 (.iconst 3) 1 408 := ⟨by decide +kernel, rfl⟩
theorem d_M_init_408 : DC b_M_init 408 (.bipush 56) 2 410 := ⟨by decide +kernel, rfl⟩
theorem d_M_init_410 : DC b_M_init 410 (.iastore) 1 411 := ⟨by decide +kernel, rfl⟩
theorem d_M_init_411 : DC b_M_init 411 (.aload_n 0) 1 412 := ⟨by decide +kernel, rfl⟩
theorem d_M_init_412 : DC b_M_init 412 (.getfield 7) 3 415 := ⟨by decide +kernel, rfl⟩
theorem d_M_init_415 : DC b_M_init 415 (.iconst 4) 1 416 := ⟨by decide +kernel, rfl⟩
theorem d_M_init_416 : DC b_M_init 416 (.bipush 52) 2 418 := ⟨by decide +kernel, rfl⟩
theorem d_M_init_418 : DC b_M_init 418 (.iastore) 1 419 := ⟨by decide +kernel, rfl⟩
theorem d_M_init_419 : DC b_M_init 419 (.aload_n 0) 1 420 := ⟨by decide +kernel, rfl⟩
theorem d_M_init_420 : DC b_M_init 420 (.getfield 7) 3 423 := ⟨by decide +kernel, rfl⟩
theorem d_M_init_423 : DC b_M_init 423 (.iconst 5) 1 424 := ⟨by decide +kernel, rfl⟩
theorem d_M_init_424 : DC b_M_init 424 (.bipush 39) 2 426 := ⟨by decide +kernel, rfl⟩
theorem d_M_init_426 : DC b_M_init 426 (.iastore) 1 427 := ⟨by decide +kernel, rfl⟩
theorem d_M_init_427 : DC b_M_init 427 (.aload_n 0) 1 428 := ⟨by decide +kernel, rfl⟩
theorem d_M_init_428 : DC b_M_init 428 (.getfield 7) 3 431 := ⟨by decide +kernel, rfl⟩
theorem d_M_init_431 : DC b_M_init 431 (.bipush 6) 2 433 := ⟨by decide +kernel, rfl⟩
theorem d_M_init_433 : DC b_M_init 433 (.bipush 33) 2 435 := ⟨by decide +kernel, rfl⟩
theorem d_M_init_435 : DC b_M_init 435 (.iastore) 1 436 := ⟨by decide +kernel, rfl⟩
theorem d_M_init_436 : DC b_M_init 436 (.aload_n 0) 1 437 := ⟨by decide +kernel, rfl⟩
theorem d_M_init_437 : DC b_M_init 437 (.getfield 7) 3 440 := ⟨by decide +kernel, rfl⟩
theorem d_M_init_440 : DC b_M_init 440 (.bipush 7) 2 442 := ⟨by decide +kernel, rfl⟩
theorem d_M_init_442 : DC b_M_init 442 (.bipush 25) 2 444 := ⟨by decide +kernel, rfl⟩
theorem d_M_init_444 : DC b_M_init 444 (.iastore) 1 445 := ⟨by decide +kernel, rfl⟩
theorem d_M_init_445 : DC b_M_init 445 (.aload_n 0) 1 446 := ⟨by decide +kernel, rfl⟩
theorem d_M_init_446 : DC b_M_init 446 (.getfield 7) 3 449 := ⟨by decide +kernel, rfl⟩
theorem d_M_init_449 : DC b_M_init 449 (.bipush 8) 2 451 := ⟨by decide +kernel, rfl⟩
theorem d_M_init_451 : DC b_M_init 451 (.bipush 16) 2 453 := ⟨by decide +kernel, rfl⟩
theorem d_M_init_453 : DC b_M_init 453 (.iastore) 1 454 := ⟨by decide +kernel, rfl⟩
theorem d_M_init_454 : DC b_M_init 454 (.aload_n 0) 1 455 := ⟨by decide +kernel, rfl⟩
theorem d_M_init_455 : DC b_M_init 455 (.getfield 7) 3 458 := ⟨by decide +kernel, rfl⟩
theorem d_M_init_458 : DC b_M_init 458 (.bipush 9) 2 460 := ⟨by decide +kernel, rfl⟩
theorem d_M_init_460 : DC b_M_init 460 (.iconst 0) 1 461 := ⟨by decide +kernel, rfl⟩
theorem d_M_init_461 : DC b_M_init 461 (.iastore) 1 462 := ⟨by decide +kernel, rfl⟩
theorem d_M_init_462 : DC b_M_init 462 (.bipush 10) 2 464 := ⟨by decide +kernel, rfl⟩
theorem d_M_init_464 : DC b_M_init 464 (.istore_n 1) 1 465 := ⟨by decide +kernel, rfl⟩
theorem d_M_init_465 : DC b_M_init 465 (.iload_n 1) 1 466 := ⟨by decide +kernel, rfl⟩
theorem d_M_init_466 : DC b_M_init 466 (.bipush 19) 2 468 := ⟨by decide +kernel, rfl⟩
theorem d_M_init_468 : DB b_M_init 468 (.if_icmp .ge 25) 25 493 471 := ⟨by decide +kernel, by decide, rfl⟩
theorem d_M_init_471 : DC b_M_init 471 (.aload_n 0) 1 472 := ⟨by decide +kernel, rfl⟩
theorem d_M_init_472 : DC b_M_init 472 (.getfield 7) 3 475 := ⟨by decide +kernel, rfl⟩
theorem d_M_init_475 : DC b_M_init 475 (.iload_n 1) 1 476 := ⟨by decide +kernel, rfl⟩
theorem d_M_init_476 : DC b_M_init 476 (.aload_n 0) 1 477 := ⟨by decide +kernel, rfl⟩
theorem d_M_init_477 : DC b_M_init 477 (.getfield 7) 3 480 := ⟨by decide +kernel, rfl⟩
theorem d_M_init_480 : DC b_M_init 480 (.bipush 18) 2 482 := ⟨by decide +kernel, rfl⟩
theorem d_M_init_482 : DC b_M_init 482 (.iload_n 1) 1 483 := ⟨by decide +kernel, rfl⟩
theorem d_M_init_483 : DC b_M_init 483 (.isub) 1 484 := ⟨by decide +kernel, rfl⟩
theorem d_M_init_484 : DC b_M_init 484 (.iaload) 1 485 := ⟨by decide +kernel, rfl⟩
theorem d_M_init_485 : DC b_M_init 485 (.ineg) 1 486 := ⟨by decide +kernel, rfl⟩
theorem d_M_init_486 : DC b_M_init 486 (.iastore) 1 487 := ⟨by decide +kernel, rfl⟩
theorem d_M_init_487 : DC b_M_init 487 (.iinc 1 1) 3 490 := ⟨by decide +kernel, rfl⟩
theorem d_M_init_490 : DB b_M_init 490 (.goto (-25)) (-25) 465 493 := ⟨by decide +kernel, by decide, rfl⟩
theorem d_M_init_493 : DC b_M_init 493 (.bipush 19) 2 495 := ⟨by decide +kernel, rfl⟩
theorem d_M_init_495 : DC b_M_init 495 (.istore_n 1) 1 496 := ⟨by decide +kernel, rfl⟩
theorem d_M_init_496 : DC b_M_init 496 (.iload_n 1) 1 497 := ⟨by decide +kernel, rfl⟩
theorem d_M_init_497 : DC b_M_init 497 (.bipush 28) 2 499 := ⟨by decide +kernel, rfl⟩
theorem d_M_init_499 : DB b_M_init 499 (.if_icmp .ge 25) 25 524 502 := ⟨by decide +kernel, by decide, rfl⟩
theorem d_M_init_502 : DC b_M_init 502 (.aload_n 0) 1 503 := ⟨by decide +kernel, rfl⟩
theorem d_M_init_503 : DC b_M_init 503 (.getfield 7) 3 506 := ⟨by decide +kernel, rfl⟩
theorem d_M_init_506 : DC b_M_init 506 (.iload_n 1) 1 507 := ⟨by decide +kernel, rfl⟩
theorem d_M_init_507 : DC b_M_init 507 (.aload_n 0) 1 508 := ⟨by decide +kernel, rfl⟩
theorem d_M_init_508 : DC b_M_init 508 (.getfield 7) 3 511 := ⟨by decide +kernel, rfl⟩
theorem d_M_init_511 : DC b_M_init 511 (.iload_n 1) 1 512 := ⟨by decide +kernel, rfl⟩
theorem d_M_init_512 : DC b_M_init 512 (.bipush 18) 2 514 := ⟨by decide +kernel, rfl⟩
theorem d_M_init_514 : DC b_M_init 514 (.isub) 1 515 := ⟨by decide +kernel, rfl⟩
theorem d_M_init_515 : DC b_M_init 515 (.iaload) 1 516 := ⟨by decide +kernel, rfl⟩
theorem d_M_init_516 : DC b_M_init 516 (.ineg) 1 517 := ⟨by decide +kernel, rfl⟩
theorem d_M_init_517 : DC b_M_init 517 (.iastore) 1 518 := ⟨by decide +kernel, rfl⟩
theorem d_M_init_518 : DC b_M_init 518 (.iinc 1 1) 3 521 := ⟨by decide +kernel, rfl⟩
theorem d_M_init_521 : DB b_M_init 521 (.goto (-25)) (-25) 496 524 := ⟨by decide +kernel, by decide, rfl⟩
theorem d_M_init_524 : DC b_M_init 524 (.bipush 28) 2 526 := ⟨by decide +kernel, rfl⟩
theorem d_M_init_526 : DC b_M_init 526 (.istore_n 1) 1 527 := ⟨by decide +kernel, rfl⟩
theorem d_M_init_527 : DC b_M_init 527 (.iload_n 1) 1 528 := ⟨by decide +kernel, rfl⟩
theorem d_M_init_528 : DC b_M_init 528 (.bipush 36) 2 530 := ⟨by decide +kernel, rfl⟩
theorem d_M_init_530 : DB b_M_init 530 (.if_icmp .ge 24) 24 554 533 := ⟨by decide +kernel, by decide, rfl⟩
theorem d_M_init_533 : DC b_M_init 533 (.aload_n 0) 1 534 := ⟨by decide +kernel, rfl⟩
theorem d_M_init_534 : DC b_M_init 534 (.getfield 7) 3 537 := ⟨by decide +kernel, rfl⟩
theorem d_M_init_537 : DC b_M_init 537 (.iload_n 1) 1 538 := ⟨by decide +kernel, rfl⟩
theorem d_M_init_538 : DC b_M_init 538 (.aload_n 0) 1 539 := ⟨by decide +kernel, rfl⟩
theorem d_M_init_539 : DC b_M_init 539 (.getfield 7) 3 542 := ⟨by decide +kernel, rfl⟩
theorem d_M_init_542 : DC b_M_init 542 (.bipush 36) 2 544 := ⟨by decide +kernel, rfl⟩
theorem d_M_init_544 : DC b_M_init 544 (.iload_n 1) 1 545 := ⟨by decide +kernel, rfl⟩
theorem d_M_init_545 : DC b_M_init 545 (.isub) 1 546 := ⟨by decide +kernel, rfl⟩
theorem d_M_init_546 : DC b_M_init 546 (.iaload) 1 547 := ⟨by decide +kernel, rfl⟩
theorem d_M_init_547 : DC b_M_init 547 (.iastore) 1 548 := ⟨by decide +kernel, rfl⟩
theorem d_M_init_548 : DC b_M_init 548 (.iinc 1 1) 3 551 := ⟨by decide +kernel, rfl⟩
theorem d_M_init_551 : DB b_M_init 551 (.goto (-24)) (-24) 527 554 := ⟨by decide +kernel, by decide, rfl⟩
theorem d_M_init_554 : DC b_M_init 554 (.iconst 0) 1 555 := ⟨by decide +kernel, rfl⟩
theorem d_M_init_555 : DC b_M_init 555 (.istore_n 1) 1 556 := ⟨by decide +kernel, rfl⟩
theorem d_M_init_556 : DC b_M_init 556 (.iload_n 1) 1 557 := ⟨by decide +kernel, rfl⟩
theorem d_M_init_557 : DC b_M_init 557 (.bipush 8) 2 559 := ⟨by decide +kernel, rfl⟩
theorem d_M_init_559 : DB b_M_init 559 (.if_icmp .ge 17) 17 576 562 := ⟨by decide +kernel, by decide, rfl⟩
theorem d_M_init_562 : DC b_M_init 562 (.aload_n 0) 1 563 := ⟨by decide +kernel, rfl⟩
theorem d_M_init_563 : DC b_M_init 563 (.getfield 31) 3 566 := ⟨by decide +kernel, rfl⟩
theorem d_M_init_566 : DC b_M_init 566 (.iload_n 1) 1 567 := ⟨by decide +kernel, rfl⟩
theorem d_M_init_567 : DC b_M_init 567 (.bipush 100) 2 569 := ⟨by decide +kernel, rfl⟩
theorem d_M_init_569 : DC b_M_init 569 (.iastore) 1 570 := ⟨by decide +kernel, rfl⟩
theorem d_M_init_570 : DC b_M_init 570 (.iinc 1 1) 3 573 := ⟨by decide +kernel, rfl⟩
theorem d_M_init_573 : DB b_M_init 573 (.goto (-17)) (-17) 556 576 := ⟨by decide +kernel, by decide, rfl⟩
theorem d_M_init_576 : DC b_M_init 576 (.iconst 0) 1 577 := ⟨by decide +kernel, rfl⟩
theorem d_M_init_577 : DC b_M_init 577 (.istore_n 1) 1 578 := ⟨by decide +kernel, rfl⟩
theorem d_M_init_578 : DC b_M_init 578 (.iload_n 1) 1 579 := ⟨by decide +kernel, rfl⟩
theorem d_M_init_579 : DC b_M_init 579 (.iconst 4) 1 580 := ⟨by decide +kernel, rfl⟩
theorem d_M_init_580 : DB b_M_init 580 (.if_icmp .ge 16) 16 596 583 := ⟨by decide +kernel, by decide, rfl⟩
theorem d_M_init_583 : DC b_M_init 583 (.aload_n 0) 1 584 := ⟨by decide +kernel, rfl⟩
theorem d_M_init_584 : DC b_M_init 584 (.getfield 150) 3 587 := ⟨by decide +kernel, rfl⟩
theorem d_M_init_587 : DC b_M_init 587 (.iload_n 1) 1 588 := ⟨by decide +kernel, rfl⟩
theorem d_M_init_588 : DC b_M_init 588 (.iconst (-1)) 1 589 := ⟨by decide +kernel, rfl⟩
theorem d_M_init_589 : DC b_M_init 589 (.iastore) 1 590 := ⟨by decide +kernel, rfl⟩
theorem d_M_init_590 : DC b_M_init 590 (.iinc 1 1) 3 593 := ⟨by decide +kernel, rfl⟩
theorem d_M_init_593 : DB b_M_init 593 (.goto (-15)) (-15) 578 596 := ⟨by decide +kernel, by decide, rfl⟩
theorem d_M_init_596 : decode b_M_init 596 = .ok (.return_, 1) := by decide +kernel
theorem dD_JA_fill_0 : DC b_JA_fill 0 (.iconst 0) 1 1 := ⟨by decide +kernel, rfl⟩
theorem dD_JA_fill_1 : DC b_JA_fill 1 (.istore_n 2) 1 2 := ⟨by decide +kernel, rfl⟩
theorem dD_JA_fill_2 : DC b_JA_fill 2 (.aload_n 0) 1 3 := ⟨by decide +kernel, rfl⟩
theorem dD_JA_fill_3 : DC b_JA_fill 3 (.arraylength) 1 4 := ⟨by decide +kernel, rfl⟩
theorem dD_JA_fill_4 : DC b_JA_fill 4 (.istore_n 3) 1 5 := ⟨by decide +kernel, rfl⟩
theorem dD_JA_fill_5 : DC b_JA_fill 5 (.iload_n 2) 1 6 := ⟨by decide +kernel, rfl⟩
theorem dD_JA_fill_6 : DC b_JA_fill 6 (.iload_n 3) 1 7 := ⟨by decide +kernel, rfl⟩
theorem dD_JA_fill_7 : DB b_JA_fill 7 (.if_icmp .ge 13) 13 20 10 := ⟨by decide +kernel, by decide, rfl⟩
theorem dD_JA_fill_10 : DC b_JA_fill 10 (.aload_n 0) 1 11 := ⟨by decide +kernel, rfl⟩
theorem dD_JA_fill_11 : DC b_JA_fill 11 (.iload_n 2) 1 12 := ⟨by decide +kernel, rfl⟩
theorem dD_JA_fill_12 : DC b_JA_fill 12 (.iload_n 1) 1 13 := ⟨by decide +kernel, rfl⟩
theorem dD_JA_fill_13 : DC b_JA_fill 13 (.iastore) 1 14 := ⟨by decide +kernel, rfl⟩
theorem dD_JA_fill_14 : DC b_JA_fill 14 (.iinc 2 1) 3 17 := ⟨by decide +kernel, rfl⟩
theorem dD_JA_fill_17 : DB b_JA_fill 17 (.goto (-12)) (-12) 5 20 := ⟨by decide +kernel, by decide, rfl⟩
theorem dD_JA_fill_20 : decode b_JA_fill 20 = .ok (.return_, 1) := by decide +kernel
theorem wD_JA_fill_l5 {X : Ctx} {Y : Lay} (hY : yln Y = lnX) (C : Cx X Y b_JA_fill 4 none "java/util/Arrays" 1) {N : Nat} {r : Mem} : ∀ (n : Nat) (a0 : Nat) (x1 : Int32) (x2 : Int32) (x3 : Int32) (μ : Mem) (g0 : ykd Y a0 = 11 ∧ a0 < yn Y), f_JA_fill_l5 N n a0 x1 x2 x3 μ = some r → J X Y none r 4 5 [(0, .ref (yad Y a0)), (1, .int x1), (2, .int x2), (3, .int x3)] [] μ := by
  intro n
  induction n with
  | zero => intro a0 x1 x2 x3 μ g0 hf; rw [f_JA_fill_l5] at hf; cases hf
  | succ n ih =>
    intro a0 x1 x2 x3 μ g0 hf
    rw [f_JA_fill_l5] at hf
    refine j_iload_n C dD_JA_fill_5 2 rfl ?_
    refine j_iload_n C dD_JA_fill_6 3 rfl ?_
    refine j_icmp_ge C dD_JA_fill_7 hf (fun hf => ?_) (fun hf => ?_)
    · obtain rfl := Option.some.inj hf
      exact j_vret C dD_JA_fill_20
    · refine j_aload_n C dD_JA_fill_10 0 rfl ?_
      refine j_iload_n C dD_JA_fill_11 2 rfl ?_
      refine j_iload_n C dD_JA_fill_12 1 rfl ?_
      refine ck hf (fun hi1 hf => ?_)
      refine j_iast C g0.1 g0.2 (lF hY rfl) hi1 dD_JA_fill_13 hf (fun μ2 hf => ?_)
      refine j_iinc (lvf := [(0, .ref (yad Y a0)), (1, .int x1), (3, .int x3)]) (v := 1) C dD_JA_fill_14 2 rfl (by decide) (by decide) rfl hf (fun v3 hf => ?_)
      refine j_goto C dD_JA_fill_17 ?_
      refine j_sub [1, 2, 0, 3] rfl ?_
      exact ih a0 x1 v3 x3 μ2 ⟨g0.1, g0.2⟩ hf
theorem cD_JA_fill {l : Launch} {Y : Lay} (hY : yln Y = lnX) {N : Nat} {μ : Mem} {a0 : Nat} {x1 : Int32} (g0 : ykd Y a0 = 11 ∧ a0 < yn Y) {r : Mem} (hf : f_JA_fill N μ a0 x1 = some r) : Ct l Y y_JA_fill b_JA_fill 4 none 1 [.ref (yad Y a0), .int x1] none μ r := by
  refine ct_of (own := "java/util/Arrays") (lv := [(0, .ref (yad Y a0)), (1, .int x1)]) (by decide +kernel) rfl (Nat.le_of_ble_eq_true rfl) rfl (fun X hl C => ?_)
  subst hl
  unfold f_JA_fill at hf
  refine j_iconst (v := 0) C dD_JA_fill_0 (by decide) ?_
  refine j_istore_n (lvf := [(0, .ref (yad Y a0)), (1, .int x1)]) C dD_JA_fill_1 (by decide) rfl ?_
  refine j_aload_n C dD_JA_fill_2 1 rfl ?_
  refine j_alen C g0.1 g0.2 (lF hY rfl) dD_JA_fill_3 ?_
  refine j_istore_nN (lvf := [(2, .int 0), (0, .ref (yad Y a0)), (1, .int x1)]) C dD_JA_fill_4 (by decide) rfl hf (fun v1 hf => ?_)
  refine j_sub [2, 3, 1, 0] rfl ?_
  exact wD_JA_fill_l5 hY C N a0 x1 0 v1 μ ⟨g0.1, g0.2⟩ hf
set_option maxRecDepth 40000 in
theorem c_Bw_init_2 {l : Launch} {Y : Lay} (hY : IsD Y) (hn : yn Y = 3) {μ r : Mem} (hf : f_Bw_init_2 μ = some r) : CtA l Y y_Bw_init b_Bw_init 1 { frames := 2, cells := 1, slots := 3969, locals := 128 } [.ref (yad Y 2)] 4 μ r AOs := by
  refine ct_ofA (own := "TopYard$Bowl") (lv := [(0, .ref (yad Y 2))]) (by decide +kernel) rfl rfl (Nat.le_of_ble_eq_true rfl) rfl (fun X sz hl hsz hE hnm C => ?_)
  subst hl
  have hA : ∀ q, (xs X).heap.size ≤ q → An Y sz q := fun q h => Or.inr (by omega)
  have hag : ∀ a, a < 3 → yad Y a = yad Y a := fun _ _ => rfl
  unfold f_Bw_init_2 at hf
  rw [hn]
  have C := cx_0 (ad := yad Y) (n := 3) C
  refine j_aload_n C d_Bw_init_0 0 rfl ?_
  refine g_obj C wd_250 oi_2 oi_3 (by decide) (by decide) rfl d_Bw_init_1 ?_
  refine j_aload_n C d_Bw_init_4 0 rfl ?_
  refine j_bipush (v := 12) C d_Bw_init_5 (by decide) ?_
  refine j_pI C fl_Bw_7 (kD hY rfl) (show 2 < 3 by decide) rfl rfl rfl d_Bw_init_7 hf (fun μ1 hf => ?_)
  refine j_aload_n C d_Bw_init_10 0 rfl ?_
  refine j_iconst (v := 4) C d_Bw_init_11 (by decide) ?_
  refine j_pI C fl_Bw_13 (kD hY rfl) (show 2 < 3 by decide) rfl rfl rfl d_Bw_init_12 hf (fun μ2 hf => ?_)
  refine j_aload_n C d_Bw_init_15 0 rfl ?_
  refine j_iconst (v := 0) C d_Bw_init_16 (by decide) ?_
  refine j_pI C fl_Bw_16 (kD hY rfl) (show 2 < 3 by decide) rfl rfl rfl d_Bw_init_17 hf (fun μ3 hf => ?_)
  refine j_aload_n C d_Bw_init_20 0 rfl ?_
  refine j_sipush (v := 3969) C d_Bw_init_21 (by decide) ?_
  refine g_newI (N := 3969) (n1 := 4) C hA hY.2.2 (kD hY rfl) (lD hY rfl) wd_253 (by decide) (by decide) (Nat.le_of_ble_eq_true rfl) (Nat.le_of_ble_eq_true rfl) (Nat.le_of_ble_eq_true rfl) rfl d_Bw_init_24 hf (fun ad5 μ4 h6 hf => ?_)
  rw [← h6 2 (by decide)]
  have hag : ∀ a, a < 3 → ad5 a = yad Y a := fun a h => (h6 a (by omega)).trans (hag a h)
  have C := cx_y (Y' := Y) (ad' := ad5) (n' := 4) C
  refine g_pRF (b := 3) C hnm fl_Bw_19 rfl (kD hY rfl) (show 2 < 4 by decide) rfl hY.2.2 ⟨(show 3 < 4 by decide), (kD hY rfl)⟩ (fun o => by cases o <;> rfl) (fun o => by cases o <;> rfl) d_Bw_init_26 hf (fun μ7 hf => ?_)
  obtain rfl := Option.some.inj hf
  exact g_vret C (fun a h => hag a (by omega)) d_Bw_init_29
set_option maxRecDepth 40000 in
theorem c_Sp_init_10 {l : Launch} {Y : Lay} (hY : IsD Y) (hn : yn Y = 11) {μ r : Mem} (hf : f_Sp_init_10 μ = some r) : CtA l Y y_Sp_init b_Sp_init 1 { frames := 2, cells := 0, slots := 0, locals := 128 } [.ref (yad Y 10)] 11 μ r AOs := by
  refine ct_ofA (own := "TopYard$Spinner") (lv := [(0, .ref (yad Y 10))]) (by decide +kernel) rfl rfl (Nat.le_of_ble_eq_true rfl) rfl (fun X sz hl hsz hE hnm C => ?_)
  subst hl
  have hA : ∀ q, (xs X).heap.size ≤ q → An Y sz q := fun q h => Or.inr (by omega)
  have hag : ∀ a, a < 11 → yad Y a = yad Y a := fun _ _ => rfl
  unfold f_Sp_init_10 at hf
  rw [hn]
  have C := cx_0 (ad := yad Y) (n := 11) C
  refine j_aload_n C d_Sp_init_0 0 rfl ?_
  refine g_obj C wd_264 oi_2 oi_3 (by decide) (by decide) rfl d_Sp_init_1 ?_
  refine j_aload_n C d_Sp_init_4 0 rfl ?_
  refine j_null C d_Sp_init_5 ?_
  refine j_pR (b := none) C fl_Sp_9 (kD hY rfl) (show 10 < 11 by decide) rfl rfl (fun b hb => by cases hb) (fun o => by cases o <;> rfl) (fun o => by cases o <;> rfl) d_Sp_init_6 hf (fun μ1 hf => ?_)
  refine j_aload_n C d_Sp_init_9 0 rfl ?_
  refine j_iconst (v := (-1)) C d_Sp_init_10 (by decide) ?_
  refine j_pI C fl_Sp_15 (kD hY rfl) (show 10 < 11 by decide) rfl rfl rfl d_Sp_init_11 hf (fun μ2 hf => ?_)
  refine j_aload_n C d_Sp_init_14 0 rfl ?_
  refine j_iconst (v := 1) C d_Sp_init_15 (by decide) ?_
  refine j_pI C fl_Sp_19 (kD hY rfl) (show 10 < 11 by decide) rfl rfl rfl d_Sp_init_16 hf (fun μ3 hf => ?_)
  obtain rfl := Option.some.inj hf
  exact g_vret C (fun a h => hag a (by omega)) d_Sp_init_19
set_option maxRecDepth 40000 in
theorem c_Sp_init_11 {l : Launch} {Y : Lay} (hY : IsD Y) (hn : yn Y = 12) {μ r : Mem} (hf : f_Sp_init_11 μ = some r) : CtA l Y y_Sp_init b_Sp_init 1 { frames := 2, cells := 0, slots := 0, locals := 128 } [.ref (yad Y 11)] 12 μ r AOs := by
  refine ct_ofA (own := "TopYard$Spinner") (lv := [(0, .ref (yad Y 11))]) (by decide +kernel) rfl rfl (Nat.le_of_ble_eq_true rfl) rfl (fun X sz hl hsz hE hnm C => ?_)
  subst hl
  have hA : ∀ q, (xs X).heap.size ≤ q → An Y sz q := fun q h => Or.inr (by omega)
  have hag : ∀ a, a < 12 → yad Y a = yad Y a := fun _ _ => rfl
  unfold f_Sp_init_11 at hf
  rw [hn]
  have C := cx_0 (ad := yad Y) (n := 12) C
  refine j_aload_n C d_Sp_init_0 0 rfl ?_
  refine g_obj C wd_264 oi_2 oi_3 (by decide) (by decide) rfl d_Sp_init_1 ?_
  refine j_aload_n C d_Sp_init_4 0 rfl ?_
  refine j_null C d_Sp_init_5 ?_
  refine j_pR (b := none) C fl_Sp_9 (kD hY rfl) (show 11 < 12 by decide) rfl rfl (fun b hb => by cases hb) (fun o => by cases o <;> rfl) (fun o => by cases o <;> rfl) d_Sp_init_6 hf (fun μ1 hf => ?_)
  refine j_aload_n C d_Sp_init_9 0 rfl ?_
  refine j_iconst (v := (-1)) C d_Sp_init_10 (by decide) ?_
  refine j_pI C fl_Sp_15 (kD hY rfl) (show 11 < 12 by decide) rfl rfl rfl d_Sp_init_11 hf (fun μ2 hf => ?_)
  refine j_aload_n C d_Sp_init_14 0 rfl ?_
  refine j_iconst (v := 1) C d_Sp_init_15 (by decide) ?_
  refine j_pI C fl_Sp_19 (kD hY rfl) (show 11 < 12 by decide) rfl rfl rfl d_Sp_init_16 hf (fun μ3 hf => ?_)
  obtain rfl := Option.some.inj hf
  exact g_vret C (fun a h => hag a (by omega)) d_Sp_init_19
set_option maxRecDepth 40000 in
theorem c_Sp_init_12 {l : Launch} {Y : Lay} (hY : IsD Y) (hn : yn Y = 13) {μ r : Mem} (hf : f_Sp_init_12 μ = some r) : CtA l Y y_Sp_init b_Sp_init 1 { frames := 2, cells := 0, slots := 0, locals := 128 } [.ref (yad Y 12)] 13 μ r AOs := by
  refine ct_ofA (own := "TopYard$Spinner") (lv := [(0, .ref (yad Y 12))]) (by decide +kernel) rfl rfl (Nat.le_of_ble_eq_true rfl) rfl (fun X sz hl hsz hE hnm C => ?_)
  subst hl
  have hA : ∀ q, (xs X).heap.size ≤ q → An Y sz q := fun q h => Or.inr (by omega)
  have hag : ∀ a, a < 13 → yad Y a = yad Y a := fun _ _ => rfl
  unfold f_Sp_init_12 at hf
  rw [hn]
  have C := cx_0 (ad := yad Y) (n := 13) C
  refine j_aload_n C d_Sp_init_0 0 rfl ?_
  refine g_obj C wd_264 oi_2 oi_3 (by decide) (by decide) rfl d_Sp_init_1 ?_
  refine j_aload_n C d_Sp_init_4 0 rfl ?_
  refine j_null C d_Sp_init_5 ?_
  refine j_pR (b := none) C fl_Sp_9 (kD hY rfl) (show 12 < 13 by decide) rfl rfl (fun b hb => by cases hb) (fun o => by cases o <;> rfl) (fun o => by cases o <;> rfl) d_Sp_init_6 hf (fun μ1 hf => ?_)
  refine j_aload_n C d_Sp_init_9 0 rfl ?_
  refine j_iconst (v := (-1)) C d_Sp_init_10 (by decide) ?_
  refine j_pI C fl_Sp_15 (kD hY rfl) (show 12 < 13 by decide) rfl rfl rfl d_Sp_init_11 hf (fun μ2 hf => ?_)
  refine j_aload_n C d_Sp_init_14 0 rfl ?_
  refine j_iconst (v := 1) C d_Sp_init_15 (by decide) ?_
  refine j_pI C fl_Sp_19 (kD hY rfl) (show 12 < 13 by decide) rfl rfl rfl d_Sp_init_16 hf (fun μ3 hf => ?_)
  obtain rfl := Option.some.inj hf
  exact g_vret C (fun a h => hag a (by omega)) d_Sp_init_19
set_option maxRecDepth 40000 in
theorem c_Sp_init_13 {l : Launch} {Y : Lay} (hY : IsD Y) (hn : yn Y = 14) {μ r : Mem} (hf : f_Sp_init_13 μ = some r) : CtA l Y y_Sp_init b_Sp_init 1 { frames := 2, cells := 0, slots := 0, locals := 128 } [.ref (yad Y 13)] 14 μ r AOs := by
  refine ct_ofA (own := "TopYard$Spinner") (lv := [(0, .ref (yad Y 13))]) (by decide +kernel) rfl rfl (Nat.le_of_ble_eq_true rfl) rfl (fun X sz hl hsz hE hnm C => ?_)
  subst hl
  have hA : ∀ q, (xs X).heap.size ≤ q → An Y sz q := fun q h => Or.inr (by omega)
  have hag : ∀ a, a < 14 → yad Y a = yad Y a := fun _ _ => rfl
  unfold f_Sp_init_13 at hf
  rw [hn]
  have C := cx_0 (ad := yad Y) (n := 14) C
  refine j_aload_n C d_Sp_init_0 0 rfl ?_
  refine g_obj C wd_264 oi_2 oi_3 (by decide) (by decide) rfl d_Sp_init_1 ?_
  refine j_aload_n C d_Sp_init_4 0 rfl ?_
  refine j_null C d_Sp_init_5 ?_
  refine j_pR (b := none) C fl_Sp_9 (kD hY rfl) (show 13 < 14 by decide) rfl rfl (fun b hb => by cases hb) (fun o => by cases o <;> rfl) (fun o => by cases o <;> rfl) d_Sp_init_6 hf (fun μ1 hf => ?_)
  refine j_aload_n C d_Sp_init_9 0 rfl ?_
  refine j_iconst (v := (-1)) C d_Sp_init_10 (by decide) ?_
  refine j_pI C fl_Sp_15 (kD hY rfl) (show 13 < 14 by decide) rfl rfl rfl d_Sp_init_11 hf (fun μ2 hf => ?_)
  refine j_aload_n C d_Sp_init_14 0 rfl ?_
  refine j_iconst (v := 1) C d_Sp_init_15 (by decide) ?_
  refine j_pI C fl_Sp_19 (kD hY rfl) (show 13 < 14 by decide) rfl rfl rfl d_Sp_init_16 hf (fun μ3 hf => ?_)
  obtain rfl := Option.some.inj hf
  exact g_vret C (fun a h => hag a (by omega)) d_Sp_init_19
set_option maxRecDepth 40000 in
theorem c_Bt_init_5 {l : Launch} {Y : Lay} (hY : IsD Y) (hn : yn Y = 6) {μ r : Mem} (hf : f_Bt_init_5 μ = some r) : CtA l Y y_Bt_init b_Bt_init 2 { frames := 3, cells := 8, slots := 100, locals := 192 } [.ref (yad Y 5)] 14 μ r AOs := by
  refine ct_ofA (own := "TopYard$Bout") (lv := [(0, .ref (yad Y 5))]) (by decide +kernel) rfl rfl (Nat.le_of_ble_eq_true rfl) rfl (fun X sz hl hsz hE hnm C => ?_)
  subst hl
  have hA : ∀ q, (xs X).heap.size ≤ q → An Y sz q := fun q h => Or.inr (by omega)
  have hag : ∀ a, a < 6 → yad Y a = yad Y a := fun _ _ => rfl
  unfold f_Bt_init_5 at hf
  rw [hn]
  have C := cx_0 (ad := yad Y) (n := 6) C
  refine j_aload_n C d_Bt_init_0 0 rfl ?_
  refine g_obj C wd_260 oi_2 oi_3 (by decide) (by decide) rfl d_Bt_init_1 ?_
  refine j_aload_n C d_Bt_init_4 0 rfl ?_
  refine j_iconst (v := 4) C d_Bt_init_5 (by decide) ?_
  refine g_newQ (N := 4) (n1 := 7) C hA hY.2.2 (kD hY rfl) (by decide) rfl (lD hY rfl) wd_261 hE.2.1 (by decide) (by decide) (Nat.le_of_ble_eq_true rfl) (Nat.le_of_ble_eq_true rfl) (Nat.le_of_ble_eq_true rfl) rfl d_Bt_init_6 hf (fun ad2 μ1 h3 hf => ?_)
  rw [← h3 5 (by decide)]
  have hag : ∀ a, a < 6 → ad2 a = yad Y a := fun a h => (h3 a (by omega)).trans (hag a h)
  have C := cx_y (Y' := Y) (ad' := ad2) (n' := 7) C
  refine g_pRF (b := 6) C hnm fl_Bt_13 rfl (kD hY rfl) (show 5 < 7 by decide) rfl hY.2.2 ⟨(show 6 < 7 by decide), (kD hY rfl)⟩ (fun o => by cases o <;> rfl) (fun o => by cases o <;> rfl) d_Bt_init_9 hf (fun μ4 hf => ?_)
  refine j_aload_n C d_Bt_init_12 0 rfl ?_
  refine j_iconst (v := 0) C d_Bt_init_13 (by decide) ?_
  refine j_pI C fl_Bt_17 (kD hY rfl) (show 5 < 7 by decide) rfl rfl rfl d_Bt_init_14 hf (fun μ5 hf => ?_)
  refine j_aload_n C d_Bt_init_17 0 rfl ?_
  refine j_bipush (v := 8) C d_Bt_init_18 (by decide) ?_
  refine g_newI (N := 8) (n1 := 8) C hA hY.2.2 (kD hY rfl) (lD hY rfl) wd_253 (by decide) (by decide) (Nat.le_of_ble_eq_true rfl) (Nat.le_of_ble_eq_true rfl) (Nat.le_of_ble_eq_true rfl) rfl d_Bt_init_20 hf (fun ad7 μ6 h8 hf => ?_)
  rw [← h8 5 (by decide)]
  have hag : ∀ a, a < 6 → ad7 a = yad Y a := fun a h => (h8 a (by omega)).trans (hag a h)
  have C := cx_y (Y' := Y) (ad' := ad7) (n' := 8) C
  refine g_pRF (b := 7) C hnm fl_Bt_21 rfl (kD hY rfl) (show 5 < 8 by decide) rfl hY.2.2 ⟨(show 7 < 8 by decide), (kD hY rfl)⟩ (fun o => by cases o <;> rfl) (fun o => by cases o <;> rfl) d_Bt_init_22 hf (fun μ9 hf => ?_)
  refine j_aload_n C d_Bt_init_25 0 rfl ?_
  refine j_bipush (v := 8) C d_Bt_init_26 (by decide) ?_
  refine g_newI (N := 8) (n1 := 9) C hA hY.2.2 (kD hY rfl) (lD hY rfl) wd_253 (by decide) (by decide) (Nat.le_of_ble_eq_true rfl) (Nat.le_of_ble_eq_true rfl) (Nat.le_of_ble_eq_true rfl) rfl d_Bt_init_28 hf (fun ad11 μ10 h12 hf => ?_)
  rw [← h12 5 (by decide)]
  have hag : ∀ a, a < 6 → ad11 a = yad Y a := fun a h => (h12 a (by omega)).trans (hag a h)
  have C := cx_y (Y' := Y) (ad' := ad11) (n' := 9) C
  refine g_pRF (b := 8) C hnm fl_Bt_25 rfl (kD hY rfl) (show 5 < 9 by decide) rfl hY.2.2 ⟨(show 8 < 9 by decide), (kD hY rfl)⟩ (fun o => by cases o <;> rfl) (fun o => by cases o <;> rfl) d_Bt_init_30 hf (fun μ13 hf => ?_)
  refine j_aload_n C d_Bt_init_33 0 rfl ?_
  refine j_bipush (v := 8) C d_Bt_init_34 (by decide) ?_
  refine g_newI (N := 8) (n1 := 10) C hA hY.2.2 (kD hY rfl) (lD hY rfl) wd_253 (by decide) (by decide) (Nat.le_of_ble_eq_true rfl) (Nat.le_of_ble_eq_true rfl) (Nat.le_of_ble_eq_true rfl) rfl d_Bt_init_36 hf (fun ad15 μ14 h16 hf => ?_)
  rw [← h16 5 (by decide)]
  have hag : ∀ a, a < 6 → ad15 a = yad Y a := fun a h => (h16 a (by omega)).trans (hag a h)
  have C := cx_y (Y' := Y) (ad' := ad15) (n' := 10) C
  refine g_pRF (b := 9) C hnm fl_Bt_28 rfl (kD hY rfl) (show 5 < 10 by decide) rfl hY.2.2 ⟨(show 9 < 10 by decide), (kD hY rfl)⟩ (fun o => by cases o <;> rfl) (fun o => by cases o <;> rfl) d_Bt_init_38 hf (fun μ17 hf => ?_)
  refine j_aload_n C d_Bt_init_41 0 rfl ?_
  refine j_iconst (v := 0) C d_Bt_init_42 (by decide) ?_
  refine j_pI C fl_Bt_31 (kD hY rfl) (show 5 < 10 by decide) rfl rfl rfl d_Bt_init_43 hf (fun μ18 hf => ?_)
  refine j_aload_n C d_Bt_init_46 0 rfl ?_
  refine j_iconst (v := 0) C d_Bt_init_47 (by decide) ?_
  refine j_pI C fl_Bt_34 (kD hY rfl) (show 5 < 10 by decide) rfl rfl rfl d_Bt_init_48 hf (fun μ19 hf => ?_)
  refine j_aload_n C d_Bt_init_51 0 rfl ?_
  refine j_iconst (v := 0) C d_Bt_init_52 (by decide) ?_
  refine j_pI C fl_Bt_37 (kD hY rfl) (show 5 < 10 by decide) rfl rfl rfl d_Bt_init_53 hf (fun μ20 hf => ?_)
  refine j_iconst (v := 0) C d_Bt_init_56 (by decide) ?_
  refine j_istore_n (lvf := [(0, .ref (ad15 5))]) C d_Bt_init_57 (by decide) rfl ?_
  refine j_iload_n C d_Bt_init_58 0 rfl ?_
  refine j_iconst (v := 4) C d_Bt_init_59 (by decide) ?_
  refine g_icmp_f C d_Bt_init_60 (by decide) ?_
  refine j_aload_n C d_Bt_init_63 1 rfl ?_
  refine ck hf (fun hg21 hf => ?_)
  refine g_gRs C fl_Bt_13 (kD hY rfl) (show 5 < 10 by decide) rfl hg21 d_Bt_init_64 ?_
  refine j_iload_n C d_Bt_init_67 0 rfl ?_
  refine g_new (n1 := 11) C hA (Or.inl hY.2.2) (kD hY rfl) (by decide) rfl kW7 kO7 rfl kD7 wd_261 wd_262 wd_263 (Nat.le_of_ble_eq_true rfl) (Nat.le_of_ble_eq_true rfl) rfl d_Bt_init_68 hf (fun ad23 μ22 h24 hf => ?_)
  rw [← h24 5 (by decide)]
  rw [← h24 6 (by decide)]
  have hag : ∀ a, a < 6 → ad23 a = yad Y a := fun a h => (h24 a (by omega)).trans (hag a h)
  have C := cx_y (Y' := Y) (ad' := ad23) (n' := 11) C
  refine j_dup C d_Bt_init_71 rfl ?_
  refine bd hf (fun μ25 hc26 hf => ?_)
  refine g_cI (As := []) (rest := [.ref (ad23 10), .int 0, .ref (ad23 6)]) (a := 10) C hA wd_266 wd_267 wd_263 wd_268 rfl ⟨by decide +kernel, by decide +kernel, by decide +kernel⟩ (c_Sp_init_10 (Y := yset Y ad23 11) hY rfl hc26) rfl (fun U hU => hE.moved hU) (fun U g mk a h => h.blind g mk a) ⟨(Nat.le_of_ble_eq_true rfl), (Nat.le_of_ble_eq_true rfl)⟩ ⟨(Nat.le_of_ble_eq_true rfl), (Nat.le_of_ble_eq_true rfl)⟩ rfl (Nat.le_of_ble_eq_true rfl) d_Bt_init_72 (fun ad27 h28 => ?_)
  rw [← h28 5 (by decide)]
  rw [← h28 6 (by decide)]
  rw [← h28 10 (by decide)]
  have hag : ∀ a, a < 6 → ad27 a = yad Y a := fun a h => (h28 a (by omega)).trans (hag a h)
  have C := cx_y (Y' := Y) (ad' := ad27) (n' := 11) C
  refine g_aast (N := 4) (qc := (kR7, kF7, 18)) C (kD hY rfl) (by decide) rfl (show 6 < 11 by decide) (lD hY rfl) (by decide) (Or.inl hY.2.2) (show 10 < 11 by decide) (kD hY rfl) (by decide) rfl rfl d_Bt_init_75 hf (fun μ29 hf => ?_)
  refine g_iinc (lvf := [(0, .ref (ad27 5))]) (v := 1) (w := 1) C d_Bt_init_76 0 rfl (by decide) (by decide) (by decide) rfl ?_
  refine j_goto C d_Bt_init_79 ?_
  refine j_iload_n C d_Bt_init_58 0 rfl ?_
  refine j_iconst (v := 4) C d_Bt_init_59 (by decide) ?_
  refine g_icmp_f C d_Bt_init_60 (by decide) ?_
  refine j_aload_n C d_Bt_init_63 1 rfl ?_
  refine ck hf (fun hg30 hf => ?_)
  refine g_gRs C fl_Bt_13 (kD hY rfl) (show 5 < 11 by decide) rfl hg30 d_Bt_init_64 ?_
  refine j_iload_n C d_Bt_init_67 0 rfl ?_
  refine g_new (n1 := 12) C hA (Or.inl hY.2.2) (kD hY rfl) (by decide) rfl kW7 kO7 rfl kD7 wd_261 wd_262 wd_263 (Nat.le_of_ble_eq_true rfl) (Nat.le_of_ble_eq_true rfl) rfl d_Bt_init_68 hf (fun ad32 μ31 h33 hf => ?_)
  rw [← h33 5 (by decide)]
  rw [← h33 6 (by decide)]
  have hag : ∀ a, a < 6 → ad32 a = yad Y a := fun a h => (h33 a (by omega)).trans (hag a h)
  have C := cx_y (Y' := Y) (ad' := ad32) (n' := 12) C
  refine j_dup C d_Bt_init_71 rfl ?_
  refine bd hf (fun μ34 hc35 hf => ?_)
  refine g_cI (As := []) (rest := [.ref (ad32 11), .int 1, .ref (ad32 6)]) (a := 11) C hA wd_266 wd_267 wd_263 wd_268 rfl ⟨by decide +kernel, by decide +kernel, by decide +kernel⟩ (c_Sp_init_11 (Y := yset Y ad32 12) hY rfl hc35) rfl (fun U hU => hE.moved hU) (fun U g mk a h => h.blind g mk a) ⟨(Nat.le_of_ble_eq_true rfl), (Nat.le_of_ble_eq_true rfl)⟩ ⟨(Nat.le_of_ble_eq_true rfl), (Nat.le_of_ble_eq_true rfl)⟩ rfl (Nat.le_of_ble_eq_true rfl) d_Bt_init_72 (fun ad36 h37 => ?_)
  rw [← h37 5 (by decide)]
  rw [← h37 6 (by decide)]
  rw [← h37 11 (by decide)]
  have hag : ∀ a, a < 6 → ad36 a = yad Y a := fun a h => (h37 a (by omega)).trans (hag a h)
  have C := cx_y (Y' := Y) (ad' := ad36) (n' := 12) C
  refine g_aast (N := 4) (qc := (kR7, kF7, 18)) C (kD hY rfl) (by decide) rfl (show 6 < 12 by decide) (lD hY rfl) (by decide) (Or.inl hY.2.2) (show 11 < 12 by decide) (kD hY rfl) (by decide) rfl rfl d_Bt_init_75 hf (fun μ38 hf => ?_)
  refine g_iinc (lvf := [(0, .ref (ad36 5))]) (v := 1) (w := 2) C d_Bt_init_76 0 rfl (by decide) (by decide) (by decide) rfl ?_
  refine j_goto C d_Bt_init_79 ?_
  refine j_iload_n C d_Bt_init_58 0 rfl ?_
  refine j_iconst (v := 4) C d_Bt_init_59 (by decide) ?_
  refine g_icmp_f C d_Bt_init_60 (by decide) ?_
  refine j_aload_n C d_Bt_init_63 1 rfl ?_
  refine ck hf (fun hg39 hf => ?_)
  refine g_gRs C fl_Bt_13 (kD hY rfl) (show 5 < 12 by decide) rfl hg39 d_Bt_init_64 ?_
  refine j_iload_n C d_Bt_init_67 0 rfl ?_
  refine g_new (n1 := 13) C hA (Or.inl hY.2.2) (kD hY rfl) (by decide) rfl kW7 kO7 rfl kD7 wd_261 wd_262 wd_263 (Nat.le_of_ble_eq_true rfl) (Nat.le_of_ble_eq_true rfl) rfl d_Bt_init_68 hf (fun ad41 μ40 h42 hf => ?_)
  rw [← h42 5 (by decide)]
  rw [← h42 6 (by decide)]
  have hag : ∀ a, a < 6 → ad41 a = yad Y a := fun a h => (h42 a (by omega)).trans (hag a h)
  have C := cx_y (Y' := Y) (ad' := ad41) (n' := 13) C
  refine j_dup C d_Bt_init_71 rfl ?_
  refine bd hf (fun μ43 hc44 hf => ?_)
  refine g_cI (As := []) (rest := [.ref (ad41 12), .int 2, .ref (ad41 6)]) (a := 12) C hA wd_266 wd_267 wd_263 wd_268 rfl ⟨by decide +kernel, by decide +kernel, by decide +kernel⟩ (c_Sp_init_12 (Y := yset Y ad41 13) hY rfl hc44) rfl (fun U hU => hE.moved hU) (fun U g mk a h => h.blind g mk a) ⟨(Nat.le_of_ble_eq_true rfl), (Nat.le_of_ble_eq_true rfl)⟩ ⟨(Nat.le_of_ble_eq_true rfl), (Nat.le_of_ble_eq_true rfl)⟩ rfl (Nat.le_of_ble_eq_true rfl) d_Bt_init_72 (fun ad45 h46 => ?_)
  rw [← h46 5 (by decide)]
  rw [← h46 6 (by decide)]
  rw [← h46 12 (by decide)]
  have hag : ∀ a, a < 6 → ad45 a = yad Y a := fun a h => (h46 a (by omega)).trans (hag a h)
  have C := cx_y (Y' := Y) (ad' := ad45) (n' := 13) C
  refine g_aast (N := 4) (qc := (kR7, kF7, 18)) C (kD hY rfl) (by decide) rfl (show 6 < 13 by decide) (lD hY rfl) (by decide) (Or.inl hY.2.2) (show 12 < 13 by decide) (kD hY rfl) (by decide) rfl rfl d_Bt_init_75 hf (fun μ47 hf => ?_)
  refine g_iinc (lvf := [(0, .ref (ad45 5))]) (v := 1) (w := 3) C d_Bt_init_76 0 rfl (by decide) (by decide) (by decide) rfl ?_
  refine j_goto C d_Bt_init_79 ?_
  refine j_iload_n C d_Bt_init_58 0 rfl ?_
  refine j_iconst (v := 4) C d_Bt_init_59 (by decide) ?_
  refine g_icmp_f C d_Bt_init_60 (by decide) ?_
  refine j_aload_n C d_Bt_init_63 1 rfl ?_
  refine ck hf (fun hg48 hf => ?_)
  refine g_gRs C fl_Bt_13 (kD hY rfl) (show 5 < 13 by decide) rfl hg48 d_Bt_init_64 ?_
  refine j_iload_n C d_Bt_init_67 0 rfl ?_
  refine g_new (n1 := 14) C hA (Or.inl hY.2.2) (kD hY rfl) (by decide) rfl kW7 kO7 rfl kD7 wd_261 wd_262 wd_263 (Nat.le_of_ble_eq_true rfl) (Nat.le_of_ble_eq_true rfl) rfl d_Bt_init_68 hf (fun ad50 μ49 h51 hf => ?_)
  rw [← h51 5 (by decide)]
  rw [← h51 6 (by decide)]
  have hag : ∀ a, a < 6 → ad50 a = yad Y a := fun a h => (h51 a (by omega)).trans (hag a h)
  have C := cx_y (Y' := Y) (ad' := ad50) (n' := 14) C
  refine j_dup C d_Bt_init_71 rfl ?_
  refine bd hf (fun μ52 hc53 hf => ?_)
  refine g_cI (As := []) (rest := [.ref (ad50 13), .int 3, .ref (ad50 6)]) (a := 13) C hA wd_266 wd_267 wd_263 wd_268 rfl ⟨by decide +kernel, by decide +kernel, by decide +kernel⟩ (c_Sp_init_13 (Y := yset Y ad50 14) hY rfl hc53) rfl (fun U hU => hE.moved hU) (fun U g mk a h => h.blind g mk a) ⟨(Nat.le_of_ble_eq_true rfl), (Nat.le_of_ble_eq_true rfl)⟩ ⟨(Nat.le_of_ble_eq_true rfl), (Nat.le_of_ble_eq_true rfl)⟩ rfl (Nat.le_of_ble_eq_true rfl) d_Bt_init_72 (fun ad54 h55 => ?_)
  rw [← h55 5 (by decide)]
  rw [← h55 6 (by decide)]
  rw [← h55 13 (by decide)]
  have hag : ∀ a, a < 6 → ad54 a = yad Y a := fun a h => (h55 a (by omega)).trans (hag a h)
  have C := cx_y (Y' := Y) (ad' := ad54) (n' := 14) C
  refine g_aast (N := 4) (qc := (kR7, kF7, 18)) C (kD hY rfl) (by decide) rfl (show 6 < 14 by decide) (lD hY rfl) (by decide) (Or.inl hY.2.2) (show 13 < 14 by decide) (kD hY rfl) (by decide) rfl rfl d_Bt_init_75 hf (fun μ56 hf => ?_)
  refine g_iinc (lvf := [(0, .ref (ad54 5))]) (v := 1) (w := 4) C d_Bt_init_76 0 rfl (by decide) (by decide) (by decide) rfl ?_
  refine j_goto C d_Bt_init_79 ?_
  refine j_iload_n C d_Bt_init_58 0 rfl ?_
  refine j_iconst (v := 4) C d_Bt_init_59 (by decide) ?_
  refine g_icmp_t C d_Bt_init_60 (by decide) ?_
  obtain rfl := Option.some.inj hf
  exact g_vret C (fun a h => hag a (by omega)) d_Bt_init_82
set_option maxRecDepth 40000 in
theorem c_Sp_init_19 {l : Launch} {Y : Lay} (hY : IsD Y) (hn : yn Y = 20) {μ r : Mem} (hf : f_Sp_init_19 μ = some r) : CtA l Y y_Sp_init b_Sp_init 1 { frames := 2, cells := 0, slots := 0, locals := 128 } [.ref (yad Y 19)] 20 μ r AOs := by
  refine ct_ofA (own := "TopYard$Spinner") (lv := [(0, .ref (yad Y 19))]) (by decide +kernel) rfl rfl (Nat.le_of_ble_eq_true rfl) rfl (fun X sz hl hsz hE hnm C => ?_)
  subst hl
  have hA : ∀ q, (xs X).heap.size ≤ q → An Y sz q := fun q h => Or.inr (by omega)
  have hag : ∀ a, a < 20 → yad Y a = yad Y a := fun _ _ => rfl
  unfold f_Sp_init_19 at hf
  rw [hn]
  have C := cx_0 (ad := yad Y) (n := 20) C
  refine j_aload_n C d_Sp_init_0 0 rfl ?_
  refine g_obj C wd_264 oi_2 oi_3 (by decide) (by decide) rfl d_Sp_init_1 ?_
  refine j_aload_n C d_Sp_init_4 0 rfl ?_
  refine j_null C d_Sp_init_5 ?_
  refine j_pR (b := none) C fl_Sp_9 (kD hY rfl) (show 19 < 20 by decide) rfl rfl (fun b hb => by cases hb) (fun o => by cases o <;> rfl) (fun o => by cases o <;> rfl) d_Sp_init_6 hf (fun μ1 hf => ?_)
  refine j_aload_n C d_Sp_init_9 0 rfl ?_
  refine j_iconst (v := (-1)) C d_Sp_init_10 (by decide) ?_
  refine j_pI C fl_Sp_15 (kD hY rfl) (show 19 < 20 by decide) rfl rfl rfl d_Sp_init_11 hf (fun μ2 hf => ?_)
  refine j_aload_n C d_Sp_init_14 0 rfl ?_
  refine j_iconst (v := 1) C d_Sp_init_15 (by decide) ?_
  refine j_pI C fl_Sp_19 (kD hY rfl) (show 19 < 20 by decide) rfl rfl rfl d_Sp_init_16 hf (fun μ3 hf => ?_)
  obtain rfl := Option.some.inj hf
  exact g_vret C (fun a h => hag a (by omega)) d_Sp_init_19
set_option maxRecDepth 40000 in
theorem c_Sp_init_20 {l : Launch} {Y : Lay} (hY : IsD Y) (hn : yn Y = 21) {μ r : Mem} (hf : f_Sp_init_20 μ = some r) : CtA l Y y_Sp_init b_Sp_init 1 { frames := 2, cells := 0, slots := 0, locals := 128 } [.ref (yad Y 20)] 21 μ r AOs := by
  refine ct_ofA (own := "TopYard$Spinner") (lv := [(0, .ref (yad Y 20))]) (by decide +kernel) rfl rfl (Nat.le_of_ble_eq_true rfl) rfl (fun X sz hl hsz hE hnm C => ?_)
  subst hl
  have hA : ∀ q, (xs X).heap.size ≤ q → An Y sz q := fun q h => Or.inr (by omega)
  have hag : ∀ a, a < 21 → yad Y a = yad Y a := fun _ _ => rfl
  unfold f_Sp_init_20 at hf
  rw [hn]
  have C := cx_0 (ad := yad Y) (n := 21) C
  refine j_aload_n C d_Sp_init_0 0 rfl ?_
  refine g_obj C wd_264 oi_2 oi_3 (by decide) (by decide) rfl d_Sp_init_1 ?_
  refine j_aload_n C d_Sp_init_4 0 rfl ?_
  refine j_null C d_Sp_init_5 ?_
  refine j_pR (b := none) C fl_Sp_9 (kD hY rfl) (show 20 < 21 by decide) rfl rfl (fun b hb => by cases hb) (fun o => by cases o <;> rfl) (fun o => by cases o <;> rfl) d_Sp_init_6 hf (fun μ1 hf => ?_)
  refine j_aload_n C d_Sp_init_9 0 rfl ?_
  refine j_iconst (v := (-1)) C d_Sp_init_10 (by decide) ?_
  refine j_pI C fl_Sp_15 (kD hY rfl) (show 20 < 21 by decide) rfl rfl rfl d_Sp_init_11 hf (fun μ2 hf => ?_)
  refine j_aload_n C d_Sp_init_14 0 rfl ?_
  refine j_iconst (v := 1) C d_Sp_init_15 (by decide) ?_
  refine j_pI C fl_Sp_19 (kD hY rfl) (show 20 < 21 by decide) rfl rfl rfl d_Sp_init_16 hf (fun μ3 hf => ?_)
  obtain rfl := Option.some.inj hf
  exact g_vret C (fun a h => hag a (by omega)) d_Sp_init_19
set_option maxRecDepth 40000 in
theorem c_Sp_init_21 {l : Launch} {Y : Lay} (hY : IsD Y) (hn : yn Y = 22) {μ r : Mem} (hf : f_Sp_init_21 μ = some r) : CtA l Y y_Sp_init b_Sp_init 1 { frames := 2, cells := 0, slots := 0, locals := 128 } [.ref (yad Y 21)] 22 μ r AOs := by
  refine ct_ofA (own := "TopYard$Spinner") (lv := [(0, .ref (yad Y 21))]) (by decide +kernel) rfl rfl (Nat.le_of_ble_eq_true rfl) rfl (fun X sz hl hsz hE hnm C => ?_)
  subst hl
  have hA : ∀ q, (xs X).heap.size ≤ q → An Y sz q := fun q h => Or.inr (by omega)
  have hag : ∀ a, a < 22 → yad Y a = yad Y a := fun _ _ => rfl
  unfold f_Sp_init_21 at hf
  rw [hn]
  have C := cx_0 (ad := yad Y) (n := 22) C
  refine j_aload_n C d_Sp_init_0 0 rfl ?_
  refine g_obj C wd_264 oi_2 oi_3 (by decide) (by decide) rfl d_Sp_init_1 ?_
  refine j_aload_n C d_Sp_init_4 0 rfl ?_
  refine j_null C d_Sp_init_5 ?_
  refine j_pR (b := none) C fl_Sp_9 (kD hY rfl) (show 21 < 22 by decide) rfl rfl (fun b hb => by cases hb) (fun o => by cases o <;> rfl) (fun o => by cases o <;> rfl) d_Sp_init_6 hf (fun μ1 hf => ?_)
  refine j_aload_n C d_Sp_init_9 0 rfl ?_
  refine j_iconst (v := (-1)) C d_Sp_init_10 (by decide) ?_
  refine j_pI C fl_Sp_15 (kD hY rfl) (show 21 < 22 by decide) rfl rfl rfl d_Sp_init_11 hf (fun μ2 hf => ?_)
  refine j_aload_n C d_Sp_init_14 0 rfl ?_
  refine j_iconst (v := 1) C d_Sp_init_15 (by decide) ?_
  refine j_pI C fl_Sp_19 (kD hY rfl) (show 21 < 22 by decide) rfl rfl rfl d_Sp_init_16 hf (fun μ3 hf => ?_)
  obtain rfl := Option.some.inj hf
  exact g_vret C (fun a h => hag a (by omega)) d_Sp_init_19
set_option maxRecDepth 40000 in
theorem c_Sp_init_22 {l : Launch} {Y : Lay} (hY : IsD Y) (hn : yn Y = 23) {μ r : Mem} (hf : f_Sp_init_22 μ = some r) : CtA l Y y_Sp_init b_Sp_init 1 { frames := 2, cells := 0, slots := 0, locals := 128 } [.ref (yad Y 22)] 23 μ r AOs := by
  refine ct_ofA (own := "TopYard$Spinner") (lv := [(0, .ref (yad Y 22))]) (by decide +kernel) rfl rfl (Nat.le_of_ble_eq_true rfl) rfl (fun X sz hl hsz hE hnm C => ?_)
  subst hl
  have hA : ∀ q, (xs X).heap.size ≤ q → An Y sz q := fun q h => Or.inr (by omega)
  have hag : ∀ a, a < 23 → yad Y a = yad Y a := fun _ _ => rfl
  unfold f_Sp_init_22 at hf
  rw [hn]
  have C := cx_0 (ad := yad Y) (n := 23) C
  refine j_aload_n C d_Sp_init_0 0 rfl ?_
  refine g_obj C wd_264 oi_2 oi_3 (by decide) (by decide) rfl d_Sp_init_1 ?_
  refine j_aload_n C d_Sp_init_4 0 rfl ?_
  refine j_null C d_Sp_init_5 ?_
  refine j_pR (b := none) C fl_Sp_9 (kD hY rfl) (show 22 < 23 by decide) rfl rfl (fun b hb => by cases hb) (fun o => by cases o <;> rfl) (fun o => by cases o <;> rfl) d_Sp_init_6 hf (fun μ1 hf => ?_)
  refine j_aload_n C d_Sp_init_9 0 rfl ?_
  refine j_iconst (v := (-1)) C d_Sp_init_10 (by decide) ?_
  refine j_pI C fl_Sp_15 (kD hY rfl) (show 22 < 23 by decide) rfl rfl rfl d_Sp_init_11 hf (fun μ2 hf => ?_)
  refine j_aload_n C d_Sp_init_14 0 rfl ?_
  refine j_iconst (v := 1) C d_Sp_init_15 (by decide) ?_
  refine j_pI C fl_Sp_19 (kD hY rfl) (show 22 < 23 by decide) rfl rfl rfl d_Sp_init_16 hf (fun μ3 hf => ?_)
  obtain rfl := Option.some.inj hf
  exact g_vret C (fun a h => hag a (by omega)) d_Sp_init_19
set_option maxRecDepth 40000 in
theorem c_Bt_init_14 {l : Launch} {Y : Lay} (hY : IsD Y) (hn : yn Y = 15) {μ r : Mem} (hf : f_Bt_init_14 μ = some r) : CtA l Y y_Bt_init b_Bt_init 2 { frames := 3, cells := 8, slots := 100, locals := 192 } [.ref (yad Y 14)] 23 μ r AOs := by
  refine ct_ofA (own := "TopYard$Bout") (lv := [(0, .ref (yad Y 14))]) (by decide +kernel) rfl rfl (Nat.le_of_ble_eq_true rfl) rfl (fun X sz hl hsz hE hnm C => ?_)
  subst hl
  have hA : ∀ q, (xs X).heap.size ≤ q → An Y sz q := fun q h => Or.inr (by omega)
  have hag : ∀ a, a < 15 → yad Y a = yad Y a := fun _ _ => rfl
  unfold f_Bt_init_14 at hf
  rw [hn]
  have C := cx_0 (ad := yad Y) (n := 15) C
  refine j_aload_n C d_Bt_init_0 0 rfl ?_
  refine g_obj C wd_260 oi_2 oi_3 (by decide) (by decide) rfl d_Bt_init_1 ?_
  refine j_aload_n C d_Bt_init_4 0 rfl ?_
  refine j_iconst (v := 4) C d_Bt_init_5 (by decide) ?_
  refine g_newQ (N := 4) (n1 := 16) C hA hY.2.2 (kD hY rfl) (by decide) rfl (lD hY rfl) wd_261 hE.2.1 (by decide) (by decide) (Nat.le_of_ble_eq_true rfl) (Nat.le_of_ble_eq_true rfl) (Nat.le_of_ble_eq_true rfl) rfl d_Bt_init_6 hf (fun ad2 μ1 h3 hf => ?_)
  rw [← h3 14 (by decide)]
  have hag : ∀ a, a < 15 → ad2 a = yad Y a := fun a h => (h3 a (by omega)).trans (hag a h)
  have C := cx_y (Y' := Y) (ad' := ad2) (n' := 16) C
  refine g_pRF (b := 15) C hnm fl_Bt_13 rfl (kD hY rfl) (show 14 < 16 by decide) rfl hY.2.2 ⟨(show 15 < 16 by decide), (kD hY rfl)⟩ (fun o => by cases o <;> rfl) (fun o => by cases o <;> rfl) d_Bt_init_9 hf (fun μ4 hf => ?_)
  refine j_aload_n C d_Bt_init_12 0 rfl ?_
  refine j_iconst (v := 0) C d_Bt_init_13 (by decide) ?_
  refine j_pI C fl_Bt_17 (kD hY rfl) (show 14 < 16 by decide) rfl rfl rfl d_Bt_init_14 hf (fun μ5 hf => ?_)
  refine j_aload_n C d_Bt_init_17 0 rfl ?_
  refine j_bipush (v := 8) C d_Bt_init_18 (by decide) ?_
  refine g_newI (N := 8) (n1 := 17) C hA hY.2.2 (kD hY rfl) (lD hY rfl) wd_253 (by decide) (by decide) (Nat.le_of_ble_eq_true rfl) (Nat.le_of_ble_eq_true rfl) (Nat.le_of_ble_eq_true rfl) rfl d_Bt_init_20 hf (fun ad7 μ6 h8 hf => ?_)
  rw [← h8 14 (by decide)]
  have hag : ∀ a, a < 15 → ad7 a = yad Y a := fun a h => (h8 a (by omega)).trans (hag a h)
  have C := cx_y (Y' := Y) (ad' := ad7) (n' := 17) C
  refine g_pRF (b := 16) C hnm fl_Bt_21 rfl (kD hY rfl) (show 14 < 17 by decide) rfl hY.2.2 ⟨(show 16 < 17 by decide), (kD hY rfl)⟩ (fun o => by cases o <;> rfl) (fun o => by cases o <;> rfl) d_Bt_init_22 hf (fun μ9 hf => ?_)
  refine j_aload_n C d_Bt_init_25 0 rfl ?_
  refine j_bipush (v := 8) C d_Bt_init_26 (by decide) ?_
  refine g_newI (N := 8) (n1 := 18) C hA hY.2.2 (kD hY rfl) (lD hY rfl) wd_253 (by decide) (by decide) (Nat.le_of_ble_eq_true rfl) (Nat.le_of_ble_eq_true rfl) (Nat.le_of_ble_eq_true rfl) rfl d_Bt_init_28 hf (fun ad11 μ10 h12 hf => ?_)
  rw [← h12 14 (by decide)]
  have hag : ∀ a, a < 15 → ad11 a = yad Y a := fun a h => (h12 a (by omega)).trans (hag a h)
  have C := cx_y (Y' := Y) (ad' := ad11) (n' := 18) C
  refine g_pRF (b := 17) C hnm fl_Bt_25 rfl (kD hY rfl) (show 14 < 18 by decide) rfl hY.2.2 ⟨(show 17 < 18 by decide), (kD hY rfl)⟩ (fun o => by cases o <;> rfl) (fun o => by cases o <;> rfl) d_Bt_init_30 hf (fun μ13 hf => ?_)
  refine j_aload_n C d_Bt_init_33 0 rfl ?_
  refine j_bipush (v := 8) C d_Bt_init_34 (by decide) ?_
  refine g_newI (N := 8) (n1 := 19) C hA hY.2.2 (kD hY rfl) (lD hY rfl) wd_253 (by decide) (by decide) (Nat.le_of_ble_eq_true rfl) (Nat.le_of_ble_eq_true rfl) (Nat.le_of_ble_eq_true rfl) rfl d_Bt_init_36 hf (fun ad15 μ14 h16 hf => ?_)
  rw [← h16 14 (by decide)]
  have hag : ∀ a, a < 15 → ad15 a = yad Y a := fun a h => (h16 a (by omega)).trans (hag a h)
  have C := cx_y (Y' := Y) (ad' := ad15) (n' := 19) C
  refine g_pRF (b := 18) C hnm fl_Bt_28 rfl (kD hY rfl) (show 14 < 19 by decide) rfl hY.2.2 ⟨(show 18 < 19 by decide), (kD hY rfl)⟩ (fun o => by cases o <;> rfl) (fun o => by cases o <;> rfl) d_Bt_init_38 hf (fun μ17 hf => ?_)
  refine j_aload_n C d_Bt_init_41 0 rfl ?_
  refine j_iconst (v := 0) C d_Bt_init_42 (by decide) ?_
  refine j_pI C fl_Bt_31 (kD hY rfl) (show 14 < 19 by decide) rfl rfl rfl d_Bt_init_43 hf (fun μ18 hf => ?_)
  refine j_aload_n C d_Bt_init_46 0 rfl ?_
  refine j_iconst (v := 0) C d_Bt_init_47 (by decide) ?_
  refine j_pI C fl_Bt_34 (kD hY rfl) (show 14 < 19 by decide) rfl rfl rfl d_Bt_init_48 hf (fun μ19 hf => ?_)
  refine j_aload_n C d_Bt_init_51 0 rfl ?_
  refine j_iconst (v := 0) C d_Bt_init_52 (by decide) ?_
  refine j_pI C fl_Bt_37 (kD hY rfl) (show 14 < 19 by decide) rfl rfl rfl d_Bt_init_53 hf (fun μ20 hf => ?_)
  refine j_iconst (v := 0) C d_Bt_init_56 (by decide) ?_
  refine j_istore_n (lvf := [(0, .ref (ad15 14))]) C d_Bt_init_57 (by decide) rfl ?_
  refine j_iload_n C d_Bt_init_58 0 rfl ?_
  refine j_iconst (v := 4) C d_Bt_init_59 (by decide) ?_
  refine g_icmp_f C d_Bt_init_60 (by decide) ?_
  refine j_aload_n C d_Bt_init_63 1 rfl ?_
  refine ck hf (fun hg21 hf => ?_)
  refine g_gRs C fl_Bt_13 (kD hY rfl) (show 14 < 19 by decide) rfl hg21 d_Bt_init_64 ?_
  refine j_iload_n C d_Bt_init_67 0 rfl ?_
  refine g_new (n1 := 20) C hA (Or.inl hY.2.2) (kD hY rfl) (by decide) rfl kW7 kO7 rfl kD7 wd_261 wd_262 wd_263 (Nat.le_of_ble_eq_true rfl) (Nat.le_of_ble_eq_true rfl) rfl d_Bt_init_68 hf (fun ad23 μ22 h24 hf => ?_)
  rw [← h24 14 (by decide)]
  rw [← h24 15 (by decide)]
  have hag : ∀ a, a < 15 → ad23 a = yad Y a := fun a h => (h24 a (by omega)).trans (hag a h)
  have C := cx_y (Y' := Y) (ad' := ad23) (n' := 20) C
  refine j_dup C d_Bt_init_71 rfl ?_
  refine bd hf (fun μ25 hc26 hf => ?_)
  refine g_cI (As := []) (rest := [.ref (ad23 19), .int 0, .ref (ad23 15)]) (a := 19) C hA wd_266 wd_267 wd_263 wd_268 rfl ⟨by decide +kernel, by decide +kernel, by decide +kernel⟩ (c_Sp_init_19 (Y := yset Y ad23 20) hY rfl hc26) rfl (fun U hU => hE.moved hU) (fun U g mk a h => h.blind g mk a) ⟨(Nat.le_of_ble_eq_true rfl), (Nat.le_of_ble_eq_true rfl)⟩ ⟨(Nat.le_of_ble_eq_true rfl), (Nat.le_of_ble_eq_true rfl)⟩ rfl (Nat.le_of_ble_eq_true rfl) d_Bt_init_72 (fun ad27 h28 => ?_)
  rw [← h28 14 (by decide)]
  rw [← h28 15 (by decide)]
  rw [← h28 19 (by decide)]
  have hag : ∀ a, a < 15 → ad27 a = yad Y a := fun a h => (h28 a (by omega)).trans (hag a h)
  have C := cx_y (Y' := Y) (ad' := ad27) (n' := 20) C
  refine g_aast (N := 4) (qc := (kR7, kF7, 18)) C (kD hY rfl) (by decide) rfl (show 15 < 20 by decide) (lD hY rfl) (by decide) (Or.inl hY.2.2) (show 19 < 20 by decide) (kD hY rfl) (by decide) rfl rfl d_Bt_init_75 hf (fun μ29 hf => ?_)
  refine g_iinc (lvf := [(0, .ref (ad27 14))]) (v := 1) (w := 1) C d_Bt_init_76 0 rfl (by decide) (by decide) (by decide) rfl ?_
  refine j_goto C d_Bt_init_79 ?_
  refine j_iload_n C d_Bt_init_58 0 rfl ?_
  refine j_iconst (v := 4) C d_Bt_init_59 (by decide) ?_
  refine g_icmp_f C d_Bt_init_60 (by decide) ?_
  refine j_aload_n C d_Bt_init_63 1 rfl ?_
  refine ck hf (fun hg30 hf => ?_)
  refine g_gRs C fl_Bt_13 (kD hY rfl) (show 14 < 20 by decide) rfl hg30 d_Bt_init_64 ?_
  refine j_iload_n C d_Bt_init_67 0 rfl ?_
  refine g_new (n1 := 21) C hA (Or.inl hY.2.2) (kD hY rfl) (by decide) rfl kW7 kO7 rfl kD7 wd_261 wd_262 wd_263 (Nat.le_of_ble_eq_true rfl) (Nat.le_of_ble_eq_true rfl) rfl d_Bt_init_68 hf (fun ad32 μ31 h33 hf => ?_)
  rw [← h33 14 (by decide)]
  rw [← h33 15 (by decide)]
  have hag : ∀ a, a < 15 → ad32 a = yad Y a := fun a h => (h33 a (by omega)).trans (hag a h)
  have C := cx_y (Y' := Y) (ad' := ad32) (n' := 21) C
  refine j_dup C d_Bt_init_71 rfl ?_
  refine bd hf (fun μ34 hc35 hf => ?_)
  refine g_cI (As := []) (rest := [.ref (ad32 20), .int 1, .ref (ad32 15)]) (a := 20) C hA wd_266 wd_267 wd_263 wd_268 rfl ⟨by decide +kernel, by decide +kernel, by decide +kernel⟩ (c_Sp_init_20 (Y := yset Y ad32 21) hY rfl hc35) rfl (fun U hU => hE.moved hU) (fun U g mk a h => h.blind g mk a) ⟨(Nat.le_of_ble_eq_true rfl), (Nat.le_of_ble_eq_true rfl)⟩ ⟨(Nat.le_of_ble_eq_true rfl), (Nat.le_of_ble_eq_true rfl)⟩ rfl (Nat.le_of_ble_eq_true rfl) d_Bt_init_72 (fun ad36 h37 => ?_)
  rw [← h37 14 (by decide)]
  rw [← h37 15 (by decide)]
  rw [← h37 20 (by decide)]
  have hag : ∀ a, a < 15 → ad36 a = yad Y a := fun a h => (h37 a (by omega)).trans (hag a h)
  have C := cx_y (Y' := Y) (ad' := ad36) (n' := 21) C
  refine g_aast (N := 4) (qc := (kR7, kF7, 18)) C (kD hY rfl) (by decide) rfl (show 15 < 21 by decide) (lD hY rfl) (by decide) (Or.inl hY.2.2) (show 20 < 21 by decide) (kD hY rfl) (by decide) rfl rfl d_Bt_init_75 hf (fun μ38 hf => ?_)
  refine g_iinc (lvf := [(0, .ref (ad36 14))]) (v := 1) (w := 2) C d_Bt_init_76 0 rfl (by decide) (by decide) (by decide) rfl ?_
  refine j_goto C d_Bt_init_79 ?_
  refine j_iload_n C d_Bt_init_58 0 rfl ?_
  refine j_iconst (v := 4) C d_Bt_init_59 (by decide) ?_
  refine g_icmp_f C d_Bt_init_60 (by decide) ?_
  refine j_aload_n C d_Bt_init_63 1 rfl ?_
  refine ck hf (fun hg39 hf => ?_)
  refine g_gRs C fl_Bt_13 (kD hY rfl) (show 14 < 21 by decide) rfl hg39 d_Bt_init_64 ?_
  refine j_iload_n C d_Bt_init_67 0 rfl ?_
  refine g_new (n1 := 22) C hA (Or.inl hY.2.2) (kD hY rfl) (by decide) rfl kW7 kO7 rfl kD7 wd_261 wd_262 wd_263 (Nat.le_of_ble_eq_true rfl) (Nat.le_of_ble_eq_true rfl) rfl d_Bt_init_68 hf (fun ad41 μ40 h42 hf => ?_)
  rw [← h42 14 (by decide)]
  rw [← h42 15 (by decide)]
  have hag : ∀ a, a < 15 → ad41 a = yad Y a := fun a h => (h42 a (by omega)).trans (hag a h)
  have C := cx_y (Y' := Y) (ad' := ad41) (n' := 22) C
  refine j_dup C d_Bt_init_71 rfl ?_
  refine bd hf (fun μ43 hc44 hf => ?_)
  refine g_cI (As := []) (rest := [.ref (ad41 21), .int 2, .ref (ad41 15)]) (a := 21) C hA wd_266 wd_267 wd_263 wd_268 rfl ⟨by decide +kernel, by decide +kernel, by decide +kernel⟩ (c_Sp_init_21 (Y := yset Y ad41 22) hY rfl hc44) rfl (fun U hU => hE.moved hU) (fun U g mk a h => h.blind g mk a) ⟨(Nat.le_of_ble_eq_true rfl), (Nat.le_of_ble_eq_true rfl)⟩ ⟨(Nat.le_of_ble_eq_true rfl), (Nat.le_of_ble_eq_true rfl)⟩ rfl (Nat.le_of_ble_eq_true rfl) d_Bt_init_72 (fun ad45 h46 => ?_)
  rw [← h46 14 (by decide)]
  rw [← h46 15 (by decide)]
  rw [← h46 21 (by decide)]
  have hag : ∀ a, a < 15 → ad45 a = yad Y a := fun a h => (h46 a (by omega)).trans (hag a h)
  have C := cx_y (Y' := Y) (ad' := ad45) (n' := 22) C
  refine g_aast (N := 4) (qc := (kR7, kF7, 18)) C (kD hY rfl) (by decide) rfl (show 15 < 22 by decide) (lD hY rfl) (by decide) (Or.inl hY.2.2) (show 21 < 22 by decide) (kD hY rfl) (by decide) rfl rfl d_Bt_init_75 hf (fun μ47 hf => ?_)
  refine g_iinc (lvf := [(0, .ref (ad45 14))]) (v := 1) (w := 3) C d_Bt_init_76 0 rfl (by decide) (by decide) (by decide) rfl ?_
  refine j_goto C d_Bt_init_79 ?_
  refine j_iload_n C d_Bt_init_58 0 rfl ?_
  refine j_iconst (v := 4) C d_Bt_init_59 (by decide) ?_
  refine g_icmp_f C d_Bt_init_60 (by decide) ?_
  refine j_aload_n C d_Bt_init_63 1 rfl ?_
  refine ck hf (fun hg48 hf => ?_)
  refine g_gRs C fl_Bt_13 (kD hY rfl) (show 14 < 22 by decide) rfl hg48 d_Bt_init_64 ?_
  refine j_iload_n C d_Bt_init_67 0 rfl ?_
  refine g_new (n1 := 23) C hA (Or.inl hY.2.2) (kD hY rfl) (by decide) rfl kW7 kO7 rfl kD7 wd_261 wd_262 wd_263 (Nat.le_of_ble_eq_true rfl) (Nat.le_of_ble_eq_true rfl) rfl d_Bt_init_68 hf (fun ad50 μ49 h51 hf => ?_)
  rw [← h51 14 (by decide)]
  rw [← h51 15 (by decide)]
  have hag : ∀ a, a < 15 → ad50 a = yad Y a := fun a h => (h51 a (by omega)).trans (hag a h)
  have C := cx_y (Y' := Y) (ad' := ad50) (n' := 23) C
  refine j_dup C d_Bt_init_71 rfl ?_
  refine bd hf (fun μ52 hc53 hf => ?_)
  refine g_cI (As := []) (rest := [.ref (ad50 22), .int 3, .ref (ad50 15)]) (a := 22) C hA wd_266 wd_267 wd_263 wd_268 rfl ⟨by decide +kernel, by decide +kernel, by decide +kernel⟩ (c_Sp_init_22 (Y := yset Y ad50 23) hY rfl hc53) rfl (fun U hU => hE.moved hU) (fun U g mk a h => h.blind g mk a) ⟨(Nat.le_of_ble_eq_true rfl), (Nat.le_of_ble_eq_true rfl)⟩ ⟨(Nat.le_of_ble_eq_true rfl), (Nat.le_of_ble_eq_true rfl)⟩ rfl (Nat.le_of_ble_eq_true rfl) d_Bt_init_72 (fun ad54 h55 => ?_)
  rw [← h55 14 (by decide)]
  rw [← h55 15 (by decide)]
  rw [← h55 22 (by decide)]
  have hag : ∀ a, a < 15 → ad54 a = yad Y a := fun a h => (h55 a (by omega)).trans (hag a h)
  have C := cx_y (Y' := Y) (ad' := ad54) (n' := 23) C
  refine g_aast (N := 4) (qc := (kR7, kF7, 18)) C (kD hY rfl) (by decide) rfl (show 15 < 23 by decide) (lD hY rfl) (by decide) (Or.inl hY.2.2) (show 22 < 23 by decide) (kD hY rfl) (by decide) rfl rfl d_Bt_init_75 hf (fun μ56 hf => ?_)
  refine g_iinc (lvf := [(0, .ref (ad54 14))]) (v := 1) (w := 4) C d_Bt_init_76 0 rfl (by decide) (by decide) (by decide) rfl ?_
  refine j_goto C d_Bt_init_79 ?_
  refine j_iload_n C d_Bt_init_58 0 rfl ?_
  refine j_iconst (v := 4) C d_Bt_init_59 (by decide) ?_
  refine g_icmp_t C d_Bt_init_60 (by decide) ?_
  obtain rfl := Option.some.inj hf
  exact g_vret C (fun a h => hag a (by omega)) d_Bt_init_82
set_option maxRecDepth 40000 in
theorem c_Ch_init_23 {l : Launch} {Y : Lay} (hY : IsD Y) (hn : yn Y = 24) {μ r : Mem} (hf : f_Ch_init_23 μ = some r) : CtA l Y y_Ch_init b_Ch_init 1 { frames := 2, cells := 10, slots := 292, locals := 128 } [.ref (yad Y 23)] 34 μ r AOs := by
  refine ct_ofA (own := "TopYard$Choice") (lv := [(0, .ref (yad Y 23))]) (by decide +kernel) rfl rfl (Nat.le_of_ble_eq_true rfl) rfl (fun X sz hl hsz hE hnm C => ?_)
  subst hl
  have hA : ∀ q, (xs X).heap.size ≤ q → An Y sz q := fun q h => Or.inr (by omega)
  have hag : ∀ a, a < 24 → yad Y a = yad Y a := fun _ _ => rfl
  unfold f_Ch_init_23 at hf
  rw [hn]
  have C := cx_0 (ad := yad Y) (n := 24) C
  refine j_aload_n C d_Ch_init_0 0 rfl ?_
  refine g_obj C wd_275 oi_2 oi_3 (by decide) (by decide) rfl d_Ch_init_1 ?_
  refine j_aload_n C d_Ch_init_4 0 rfl ?_
  refine j_iconst (v := 0) C d_Ch_init_5 (by decide) ?_
  refine j_pI C fl_Ch_11 (kD hY rfl) (show 23 < 24 by decide) rfl rfl rfl d_Ch_init_6 hf (fun μ1 hf => ?_)
  refine j_aload_n C d_Ch_init_9 0 rfl ?_
  refine j_iconst (v := 0) C d_Ch_init_10 (by decide) ?_
  refine j_pI C fl_Ch_15 (kD hY rfl) (show 23 < 24 by decide) rfl rfl rfl d_Ch_init_11 hf (fun μ2 hf => ?_)
  refine j_aload_n C d_Ch_init_14 0 rfl ?_
  refine j_iconst (v := 4) C d_Ch_init_15 (by decide) ?_
  refine g_newI (N := 4) (n1 := 25) C hA hY.2.2 (kD hY rfl) (lD hY rfl) wd_253 (by decide) (by decide) (Nat.le_of_ble_eq_true rfl) (Nat.le_of_ble_eq_true rfl) (Nat.le_of_ble_eq_true rfl) rfl d_Ch_init_16 hf (fun ad4 μ3 h5 hf => ?_)
  rw [← h5 23 (by decide)]
  have hag : ∀ a, a < 24 → ad4 a = yad Y a := fun a h => (h5 a (by omega)).trans (hag a h)
  have C := cx_y (Y' := Y) (ad' := ad4) (n' := 25) C
  refine g_pRF (b := 24) C hnm fl_Ch_18 rfl (kD hY rfl) (show 23 < 25 by decide) rfl hY.2.2 ⟨(show 24 < 25 by decide), (kD hY rfl)⟩ (fun o => by cases o <;> rfl) (fun o => by cases o <;> rfl) d_Ch_init_18 hf (fun μ6 hf => ?_)
  refine j_aload_n C d_Ch_init_21 0 rfl ?_
  refine j_iconst (v := 4) C d_Ch_init_22 (by decide) ?_
  refine g_newI (N := 4) (n1 := 26) C hA hY.2.2 (kD hY rfl) (lD hY rfl) wd_253 (by decide) (by decide) (Nat.le_of_ble_eq_true rfl) (Nat.le_of_ble_eq_true rfl) (Nat.le_of_ble_eq_true rfl) rfl d_Ch_init_23 hf (fun ad8 μ7 h9 hf => ?_)
  rw [← h9 23 (by decide)]
  have hag : ∀ a, a < 24 → ad8 a = yad Y a := fun a h => (h9 a (by omega)).trans (hag a h)
  have C := cx_y (Y' := Y) (ad' := ad8) (n' := 26) C
  refine g_pRF (b := 25) C hnm fl_Ch_22 rfl (kD hY rfl) (show 23 < 26 by decide) rfl hY.2.2 ⟨(show 25 < 26 by decide), (kD hY rfl)⟩ (fun o => by cases o <;> rfl) (fun o => by cases o <;> rfl) d_Ch_init_25 hf (fun μ10 hf => ?_)
  refine j_aload_n C d_Ch_init_28 0 rfl ?_
  refine j_iconst (v := 4) C d_Ch_init_29 (by decide) ?_
  refine j_iconst (v := 4) C d_Ch_init_30 (by decide) ?_
  refine g_mna C hA hY wd_276 hE.2.2.2 wd_253 (by decide) (by decide) d_Ch_init_31 hf (fun ad12 μ11 h13 hf => ?_)
  rw [← h13 23 (by decide)]
  have hag : ∀ a, a < 24 → ad12 a = yad Y a := fun a h => (h13 a (by omega)).trans (hag a h)
  have C := cx_y (Y' := Y) (ad' := ad12) (n' := 31) C
  refine g_pRF (b := 26) C hnm fl_Ch_27 rfl (kD hY rfl) (show 23 < 31 by decide) rfl hY.2.2 ⟨(show 26 < 31 by decide), (kD hY rfl)⟩ (fun o => by cases o <;> rfl) (fun o => by cases o <;> rfl) d_Ch_init_35 hf (fun μ14 hf => ?_)
  refine j_aload_n C d_Ch_init_38 0 rfl ?_
  refine j_iconst (v := 4) C d_Ch_init_39 (by decide) ?_
  refine g_newJ (N := 4) (n1 := 32) C hA hY.2.2 (kD hY rfl) (lD hY rfl) wd_277 (by decide) (by decide) (Nat.le_of_ble_eq_true rfl) (Nat.le_of_ble_eq_true rfl) (Nat.le_of_ble_eq_true rfl) rfl d_Ch_init_40 hf (fun ad16 μ15 h17 hf => ?_)
  rw [← h17 23 (by decide)]
  have hag : ∀ a, a < 24 → ad16 a = yad Y a := fun a h => (h17 a (by omega)).trans (hag a h)
  have C := cx_y (Y' := Y) (ad' := ad16) (n' := 32) C
  refine g_pRF (b := 31) C hnm fl_Ch_30 rfl (kD hY rfl) (show 23 < 32 by decide) rfl hY.2.2 ⟨(show 31 < 32 by decide), (kD hY rfl)⟩ (fun o => by cases o <;> rfl) (fun o => by cases o <;> rfl) d_Ch_init_42 hf (fun μ18 hf => ?_)
  refine j_aload_n C d_Ch_init_45 0 rfl ?_
  refine j_iconst (v := 4) C d_Ch_init_46 (by decide) ?_
  refine g_newJ (N := 4) (n1 := 33) C hA hY.2.2 (kD hY rfl) (lD hY rfl) wd_277 (by decide) (by decide) (Nat.le_of_ble_eq_true rfl) (Nat.le_of_ble_eq_true rfl) (Nat.le_of_ble_eq_true rfl) rfl d_Ch_init_47 hf (fun ad20 μ19 h21 hf => ?_)
  rw [← h21 23 (by decide)]
  have hag : ∀ a, a < 24 → ad20 a = yad Y a := fun a h => (h21 a (by omega)).trans (hag a h)
  have C := cx_y (Y' := Y) (ad' := ad20) (n' := 33) C
  refine g_pRF (b := 32) C hnm fl_Ch_34 rfl (kD hY rfl) (show 23 < 33 by decide) rfl hY.2.2 ⟨(show 32 < 33 by decide), (kD hY rfl)⟩ (fun o => by cases o <;> rfl) (fun o => by cases o <;> rfl) d_Ch_init_49 hf (fun μ22 hf => ?_)
  refine j_aload_n C d_Ch_init_52 0 rfl ?_
  refine j_sipush (v := 256) C d_Ch_init_53 (by decide) ?_
  refine g_newJ (N := 256) (n1 := 34) C hA hY.2.2 (kD hY rfl) (lD hY rfl) wd_277 (by decide) (by decide) (Nat.le_of_ble_eq_true rfl) (Nat.le_of_ble_eq_true rfl) (Nat.le_of_ble_eq_true rfl) rfl d_Ch_init_56 hf (fun ad24 μ23 h25 hf => ?_)
  rw [← h25 23 (by decide)]
  have hag : ∀ a, a < 24 → ad24 a = yad Y a := fun a h => (h25 a (by omega)).trans (hag a h)
  have C := cx_y (Y' := Y) (ad' := ad24) (n' := 34) C
  refine g_pRF (b := 33) C hnm fl_Ch_37 rfl (kD hY rfl) (show 23 < 34 by decide) rfl hY.2.2 ⟨(show 33 < 34 by decide), (kD hY rfl)⟩ (fun o => by cases o <;> rfl) (fun o => by cases o <;> rfl) d_Ch_init_58 hf (fun μ26 hf => ?_)
  refine j_aload_n C d_Ch_init_61 0 rfl ?_
  refine j_lconst (v := 1) C d_Ch_init_62 (by decide) ?_
  refine j_pL C fl_Ch_40 (kD hY rfl) (show 23 < 34 by decide) rfl rfl rfl d_Ch_init_63 hf (fun μ27 hf => ?_)
  refine j_aload_n C d_Ch_init_66 0 rfl ?_
  refine j_lconst (v := 0) C d_Ch_init_67 (by decide) ?_
  refine j_pL C fl_Ch_44 (kD hY rfl) (show 23 < 34 by decide) rfl rfl rfl d_Ch_init_68 hf (fun μ28 hf => ?_)
  obtain rfl := Option.some.inj hf
  exact g_vret C (fun a h => hag a (by omega)) d_Ch_init_71
set_option maxRecDepth 40000 in
theorem c_Pa_init_34 {l : Launch} {Y : Lay} (hY : IsD Y) (hn : yn Y = 35) {μ r : Mem} (hf : f_Pa_init_34 μ = some r) : CtA l Y y_Pa_init b_Pa_init 1 { frames := 2, cells := 4, slots := 160, locals := 128 } [.ref (yad Y 34)] 39 μ r AOs := by
  refine ct_ofA (own := "TopYard$Past") (lv := [(0, .ref (yad Y 34))]) (by decide +kernel) rfl rfl (Nat.le_of_ble_eq_true rfl) rfl (fun X sz hl hsz hE hnm C => ?_)
  subst hl
  have hA : ∀ q, (xs X).heap.size ≤ q → An Y sz q := fun q h => Or.inr (by omega)
  have hag : ∀ a, a < 35 → yad Y a = yad Y a := fun _ _ => rfl
  unfold f_Pa_init_34 at hf
  rw [hn]
  have C := cx_0 (ad := yad Y) (n := 35) C
  refine j_aload_n C d_Pa_init_0 0 rfl ?_
  refine g_obj C wd_284 oi_2 oi_3 (by decide) (by decide) rfl d_Pa_init_1 ?_
  refine j_aload_n C d_Pa_init_4 0 rfl ?_
  refine j_iconst (v := 0) C d_Pa_init_5 (by decide) ?_
  refine j_pI C fl_Pa_9 (kD hY rfl) (show 34 < 35 by decide) rfl rfl rfl d_Pa_init_6 hf (fun μ1 hf => ?_)
  refine j_aload_n C d_Pa_init_9 0 rfl ?_
  refine j_bipush (v := 40) C d_Pa_init_10 (by decide) ?_
  refine g_newI (N := 40) (n1 := 36) C hA hY.2.2 (kD hY rfl) (lD hY rfl) wd_253 (by decide) (by decide) (Nat.le_of_ble_eq_true rfl) (Nat.le_of_ble_eq_true rfl) (Nat.le_of_ble_eq_true rfl) rfl d_Pa_init_12 hf (fun ad3 μ2 h4 hf => ?_)
  rw [← h4 34 (by decide)]
  have hag : ∀ a, a < 35 → ad3 a = yad Y a := fun a h => (h4 a (by omega)).trans (hag a h)
  have C := cx_y (Y' := Y) (ad' := ad3) (n' := 36) C
  refine g_pRF (b := 35) C hnm fl_Pa_15 rfl (kD hY rfl) (show 34 < 36 by decide) rfl hY.2.2 ⟨(show 35 < 36 by decide), (kD hY rfl)⟩ (fun o => by cases o <;> rfl) (fun o => by cases o <;> rfl) d_Pa_init_14 hf (fun μ5 hf => ?_)
  refine j_aload_n C d_Pa_init_17 0 rfl ?_
  refine j_bipush (v := 40) C d_Pa_init_18 (by decide) ?_
  refine g_newI (N := 40) (n1 := 37) C hA hY.2.2 (kD hY rfl) (lD hY rfl) wd_253 (by decide) (by decide) (Nat.le_of_ble_eq_true rfl) (Nat.le_of_ble_eq_true rfl) (Nat.le_of_ble_eq_true rfl) rfl d_Pa_init_20 hf (fun ad7 μ6 h8 hf => ?_)
  rw [← h8 34 (by decide)]
  have hag : ∀ a, a < 35 → ad7 a = yad Y a := fun a h => (h8 a (by omega)).trans (hag a h)
  have C := cx_y (Y' := Y) (ad' := ad7) (n' := 37) C
  refine g_pRF (b := 36) C hnm fl_Pa_19 rfl (kD hY rfl) (show 34 < 37 by decide) rfl hY.2.2 ⟨(show 36 < 37 by decide), (kD hY rfl)⟩ (fun o => by cases o <;> rfl) (fun o => by cases o <;> rfl) d_Pa_init_22 hf (fun μ9 hf => ?_)
  refine j_aload_n C d_Pa_init_25 0 rfl ?_
  refine j_bipush (v := 40) C d_Pa_init_26 (by decide) ?_
  refine g_newI (N := 40) (n1 := 38) C hA hY.2.2 (kD hY rfl) (lD hY rfl) wd_253 (by decide) (by decide) (Nat.le_of_ble_eq_true rfl) (Nat.le_of_ble_eq_true rfl) (Nat.le_of_ble_eq_true rfl) rfl d_Pa_init_28 hf (fun ad11 μ10 h12 hf => ?_)
  rw [← h12 34 (by decide)]
  have hag : ∀ a, a < 35 → ad11 a = yad Y a := fun a h => (h12 a (by omega)).trans (hag a h)
  have C := cx_y (Y' := Y) (ad' := ad11) (n' := 38) C
  refine g_pRF (b := 37) C hnm fl_Pa_22 rfl (kD hY rfl) (show 34 < 38 by decide) rfl hY.2.2 ⟨(show 37 < 38 by decide), (kD hY rfl)⟩ (fun o => by cases o <;> rfl) (fun o => by cases o <;> rfl) d_Pa_init_30 hf (fun μ13 hf => ?_)
  refine j_aload_n C d_Pa_init_33 0 rfl ?_
  refine j_bipush (v := 40) C d_Pa_init_34 (by decide) ?_
  refine g_newI (N := 40) (n1 := 39) C hA hY.2.2 (kD hY rfl) (lD hY rfl) wd_253 (by decide) (by decide) (Nat.le_of_ble_eq_true rfl) (Nat.le_of_ble_eq_true rfl) (Nat.le_of_ble_eq_true rfl) rfl d_Pa_init_36 hf (fun ad15 μ14 h16 hf => ?_)
  rw [← h16 34 (by decide)]
  have hag : ∀ a, a < 35 → ad15 a = yad Y a := fun a h => (h16 a (by omega)).trans (hag a h)
  have C := cx_y (Y' := Y) (ad' := ad15) (n' := 39) C
  refine g_pRF (b := 38) C hnm fl_Pa_25 rfl (kD hY rfl) (show 34 < 39 by decide) rfl hY.2.2 ⟨(show 38 < 39 by decide), (kD hY rfl)⟩ (fun o => by cases o <;> rfl) (fun o => by cases o <;> rfl) d_Pa_init_38 hf (fun μ17 hf => ?_)
  obtain rfl := Option.some.inj hf
  exact g_vret C (fun a h => hag a (by omega)) d_Pa_init_41
set_option maxRecDepth 40000 in
theorem c_Ga_init_39 {l : Launch} {Y : Lay} (hY : IsD Y) (hn : yn Y = 40) {μ r : Mem} (hf : f_Ga_init_39 μ = some r) : CtA l Y y_Ga_init b_Ga_init 1 { frames := 2, cells := 2, slots := 45, locals := 128 } [.ref (yad Y 39)] 42 μ r AOs := by
  refine ct_ofA (own := "TopYard$Game") (lv := [(0, .ref (yad Y 39))]) (by decide +kernel) rfl rfl (Nat.le_of_ble_eq_true rfl) rfl (fun X sz hl hsz hE hnm C => ?_)
  subst hl
  have hA : ∀ q, (xs X).heap.size ≤ q → An Y sz q := fun q h => Or.inr (by omega)
  have hag : ∀ a, a < 40 → yad Y a = yad Y a := fun _ _ => rfl
  unfold f_Ga_init_39 at hf
  rw [hn]
  have C := cx_0 (ad := yad Y) (n := 40) C
  refine j_aload_n C d_Ga_init_0 0 rfl ?_
  refine g_obj C wd_291 oi_2 oi_3 (by decide) (by decide) rfl d_Ga_init_1 ?_
  refine j_aload_n C d_Ga_init_4 0 rfl ?_
  refine j_iconst (v := 0) C d_Ga_init_5 (by decide) ?_
  refine j_pI C fl_Ga_9 (kD hY rfl) (show 39 < 40 by decide) rfl rfl rfl d_Ga_init_6 hf (fun μ1 hf => ?_)
  refine j_aload_n C d_Ga_init_9 0 rfl ?_
  refine j_bipush (v := 40) C d_Ga_init_10 (by decide) ?_
  refine g_newI (N := 40) (n1 := 41) C hA hY.2.2 (kD hY rfl) (lD hY rfl) wd_253 (by decide) (by decide) (Nat.le_of_ble_eq_true rfl) (Nat.le_of_ble_eq_true rfl) (Nat.le_of_ble_eq_true rfl) rfl d_Ga_init_12 hf (fun ad3 μ2 h4 hf => ?_)
  rw [← h4 39 (by decide)]
  have hag : ∀ a, a < 40 → ad3 a = yad Y a := fun a h => (h4 a (by omega)).trans (hag a h)
  have C := cx_y (Y' := Y) (ad' := ad3) (n' := 41) C
  refine g_pRF (b := 40) C hnm fl_Ga_15 rfl (kD hY rfl) (show 39 < 41 by decide) rfl hY.2.2 ⟨(show 40 < 41 by decide), (kD hY rfl)⟩ (fun o => by cases o <;> rfl) (fun o => by cases o <;> rfl) d_Ga_init_14 hf (fun μ5 hf => ?_)
  refine j_aload_n C d_Ga_init_17 0 rfl ?_
  refine j_iconst (v := 5) C d_Ga_init_18 (by decide) ?_
  refine g_newI (N := 5) (n1 := 42) C hA hY.2.2 (kD hY rfl) (lD hY rfl) wd_253 (by decide) (by decide) (Nat.le_of_ble_eq_true rfl) (Nat.le_of_ble_eq_true rfl) (Nat.le_of_ble_eq_true rfl) rfl d_Ga_init_19 hf (fun ad7 μ6 h8 hf => ?_)
  rw [← h8 39 (by decide)]
  have hag : ∀ a, a < 40 → ad7 a = yad Y a := fun a h => (h8 a (by omega)).trans (hag a h)
  have C := cx_y (Y' := Y) (ad' := ad7) (n' := 42) C
  refine g_pRF (b := 41) C hnm fl_Ga_19 rfl (kD hY rfl) (show 39 < 42 by decide) rfl hY.2.2 ⟨(show 41 < 42 by decide), (kD hY rfl)⟩ (fun o => by cases o <;> rfl) (fun o => by cases o <;> rfl) d_Ga_init_21 hf (fun μ9 hf => ?_)
  obtain rfl := Option.some.inj hf
  exact g_vret C (fun a h => hag a (by omega)) d_Ga_init_24
set_option maxRecDepth 40000 in
theorem c_Pk_init_44 {l : Launch} {Y : Lay} (hY : IsD Y) (hn : yn Y = 45) {μ r : Mem} (hf : f_Pk_init_44 μ = some r) : CtA l Y y_Pk_init b_Pk_init 1 { frames := 2, cells := 2, slots := 1002, locals := 128 } [.ref (yad Y 44)] 47 μ r AOs := by
  refine ct_ofA (own := "TopYard$Pack") (lv := [(0, .ref (yad Y 44))]) (by decide +kernel) rfl rfl (Nat.le_of_ble_eq_true rfl) rfl (fun X sz hl hsz hE hnm C => ?_)
  subst hl
  have hA : ∀ q, (xs X).heap.size ≤ q → An Y sz q := fun q h => Or.inr (by omega)
  have hag : ∀ a, a < 45 → yad Y a = yad Y a := fun _ _ => rfl
  unfold f_Pk_init_44 at hf
  rw [hn]
  have C := cx_0 (ad := yad Y) (n := 45) C
  refine j_aload_n C d_Pk_init_0 0 rfl ?_
  refine g_obj C wd_298 oi_2 oi_3 (by decide) (by decide) rfl d_Pk_init_1 ?_
  refine j_aload_n C d_Pk_init_4 0 rfl ?_
  refine j_sipush (v := 501) C d_Pk_init_5 (by decide) ?_
  refine g_newI (N := 501) (n1 := 46) C hA hY.2.2 (kD hY rfl) (lD hY rfl) wd_253 (by decide) (by decide) (Nat.le_of_ble_eq_true rfl) (Nat.le_of_ble_eq_true rfl) (Nat.le_of_ble_eq_true rfl) rfl d_Pk_init_8 hf (fun ad2 μ1 h3 hf => ?_)
  rw [← h3 44 (by decide)]
  have hag : ∀ a, a < 45 → ad2 a = yad Y a := fun a h => (h3 a (by omega)).trans (hag a h)
  have C := cx_y (Y' := Y) (ad' := ad2) (n' := 46) C
  refine g_pRF (b := 45) C hnm fl_Pk_11 rfl (kD hY rfl) (show 44 < 46 by decide) rfl hY.2.2 ⟨(show 45 < 46 by decide), (kD hY rfl)⟩ (fun o => by cases o <;> rfl) (fun o => by cases o <;> rfl) d_Pk_init_10 hf (fun μ4 hf => ?_)
  refine j_aload_n C d_Pk_init_13 0 rfl ?_
  refine j_sipush (v := 501) C d_Pk_init_14 (by decide) ?_
  refine g_newI (N := 501) (n1 := 47) C hA hY.2.2 (kD hY rfl) (lD hY rfl) wd_253 (by decide) (by decide) (Nat.le_of_ble_eq_true rfl) (Nat.le_of_ble_eq_true rfl) (Nat.le_of_ble_eq_true rfl) rfl d_Pk_init_17 hf (fun ad6 μ5 h7 hf => ?_)
  rw [← h7 44 (by decide)]
  have hag : ∀ a, a < 45 → ad6 a = yad Y a := fun a h => (h7 a (by omega)).trans (hag a h)
  have C := cx_y (Y' := Y) (ad' := ad6) (n' := 47) C
  refine g_pRF (b := 46) C hnm fl_Pk_15 rfl (kD hY rfl) (show 44 < 47 by decide) rfl hY.2.2 ⟨(show 46 < 47 by decide), (kD hY rfl)⟩ (fun o => by cases o <;> rfl) (fun o => by cases o <;> rfl) d_Pk_init_19 hf (fun μ8 hf => ?_)
  refine j_aload_n C d_Pk_init_22 0 rfl ?_
  refine j_iconst (v := 0) C d_Pk_init_23 (by decide) ?_
  refine j_pI C fl_Pk_18 (kD hY rfl) (show 44 < 47 by decide) rfl rfl rfl d_Pk_init_24 hf (fun μ9 hf => ?_)
  refine j_aload_n C d_Pk_init_27 0 rfl ?_
  refine j_iconst (v := 0) C d_Pk_init_28 (by decide) ?_
  refine j_pI C fl_Pk_22 (kD hY rfl) (show 44 < 47 by decide) rfl rfl rfl d_Pk_init_29 hf (fun μ10 hf => ?_)
  obtain rfl := Option.some.inj hf
  exact g_vret C (fun a h => hag a (by omega)) d_Pk_init_32
set_option maxRecDepth 40000 in
theorem c_Sh_init_48 {l : Launch} {Y : Lay} (hY : IsD Y) (hn : yn Y = 49) {μ r : Mem} (hf : f_Sh_init_48 μ = some r) : CtA l Y y_Sh_init b_Sh_init 1 { frames := 2, cells := 1, slots := 120, locals := 128 } [.ref (yad Y 48)] 50 μ r AOs := by
  refine ct_ofA (own := "TopYard$Sheet") (lv := [(0, .ref (yad Y 48))]) (by decide +kernel) rfl rfl (Nat.le_of_ble_eq_true rfl) rfl (fun X sz hl hsz hE hnm C => ?_)
  subst hl
  have hA : ∀ q, (xs X).heap.size ≤ q → An Y sz q := fun q h => Or.inr (by omega)
  have hag : ∀ a, a < 49 → yad Y a = yad Y a := fun _ _ => rfl
  unfold f_Sh_init_48 at hf
  rw [hn]
  have C := cx_0 (ad := yad Y) (n := 49) C
  refine j_aload_n C d_Sh_init_0 0 rfl ?_
  refine g_obj C wd_305 oi_2 oi_3 (by decide) (by decide) rfl d_Sh_init_1 ?_
  refine j_aload_n C d_Sh_init_4 0 rfl ?_
  refine j_iconst (v := 1) C d_Sh_init_5 (by decide) ?_
  refine j_pI C fl_Sh_9 (kD hY rfl) (show 48 < 49 by decide) rfl (by decide) (by decide) d_Sh_init_6 hf (fun μ1 hf => ?_)
  refine j_aload_n C d_Sh_init_9 0 rfl ?_
  refine j_iconst (v := 0) C d_Sh_init_10 (by decide) ?_
  refine j_pI C fl_Sh_15 (kD hY rfl) (show 48 < 49 by decide) rfl rfl rfl d_Sh_init_11 hf (fun μ2 hf => ?_)
  refine j_aload_n C d_Sh_init_14 0 rfl ?_
  refine j_iconst (v := 0) C d_Sh_init_15 (by decide) ?_
  refine j_pI C fl_Sh_19 (kD hY rfl) (show 48 < 49 by decide) rfl rfl rfl d_Sh_init_16 hf (fun μ3 hf => ?_)
  refine j_aload_n C d_Sh_init_19 0 rfl ?_
  refine j_bipush (v := 120) C d_Sh_init_20 (by decide) ?_
  refine g_newI (N := 120) (n1 := 50) C hA hY.2.2 (kD hY rfl) (lD hY rfl) wd_253 (by decide) (by decide) (Nat.le_of_ble_eq_true rfl) (Nat.le_of_ble_eq_true rfl) (Nat.le_of_ble_eq_true rfl) rfl d_Sh_init_22 hf (fun ad5 μ4 h6 hf => ?_)
  rw [← h6 48 (by decide)]
  have hag : ∀ a, a < 49 → ad5 a = yad Y a := fun a h => (h6 a (by omega)).trans (hag a h)
  have C := cx_y (Y' := Y) (ad' := ad5) (n' := 50) C
  refine g_pRF (b := 49) C hnm fl_Sh_22 rfl (kD hY rfl) (show 48 < 50 by decide) rfl hY.2.2 ⟨(show 49 < 50 by decide), (kD hY rfl)⟩ (fun o => by cases o <;> rfl) (fun o => by cases o <;> rfl) d_Sh_init_24 hf (fun μ7 hf => ?_)
  obtain rfl := Option.some.inj hf
  exact g_vret C (fun a h => hag a (by omega)) d_Sh_init_27
set_option maxRecDepth 40000 in
theorem c_Sh_init_50 {l : Launch} {Y : Lay} (hY : IsD Y) (hn : yn Y = 51) {μ r : Mem} (hf : f_Sh_init_50 μ = some r) : CtA l Y y_Sh_init b_Sh_init 1 { frames := 2, cells := 1, slots := 120, locals := 128 } [.ref (yad Y 50)] 52 μ r AOs := by
  refine ct_ofA (own := "TopYard$Sheet") (lv := [(0, .ref (yad Y 50))]) (by decide +kernel) rfl rfl (Nat.le_of_ble_eq_true rfl) rfl (fun X sz hl hsz hE hnm C => ?_)
  subst hl
  have hA : ∀ q, (xs X).heap.size ≤ q → An Y sz q := fun q h => Or.inr (by omega)
  have hag : ∀ a, a < 51 → yad Y a = yad Y a := fun _ _ => rfl
  unfold f_Sh_init_50 at hf
  rw [hn]
  have C := cx_0 (ad := yad Y) (n := 51) C
  refine j_aload_n C d_Sh_init_0 0 rfl ?_
  refine g_obj C wd_305 oi_2 oi_3 (by decide) (by decide) rfl d_Sh_init_1 ?_
  refine j_aload_n C d_Sh_init_4 0 rfl ?_
  refine j_iconst (v := 1) C d_Sh_init_5 (by decide) ?_
  refine j_pI C fl_Sh_9 (kD hY rfl) (show 50 < 51 by decide) rfl (by decide) (by decide) d_Sh_init_6 hf (fun μ1 hf => ?_)
  refine j_aload_n C d_Sh_init_9 0 rfl ?_
  refine j_iconst (v := 0) C d_Sh_init_10 (by decide) ?_
  refine j_pI C fl_Sh_15 (kD hY rfl) (show 50 < 51 by decide) rfl rfl rfl d_Sh_init_11 hf (fun μ2 hf => ?_)
  refine j_aload_n C d_Sh_init_14 0 rfl ?_
  refine j_iconst (v := 0) C d_Sh_init_15 (by decide) ?_
  refine j_pI C fl_Sh_19 (kD hY rfl) (show 50 < 51 by decide) rfl rfl rfl d_Sh_init_16 hf (fun μ3 hf => ?_)
  refine j_aload_n C d_Sh_init_19 0 rfl ?_
  refine j_bipush (v := 120) C d_Sh_init_20 (by decide) ?_
  refine g_newI (N := 120) (n1 := 52) C hA hY.2.2 (kD hY rfl) (lD hY rfl) wd_253 (by decide) (by decide) (Nat.le_of_ble_eq_true rfl) (Nat.le_of_ble_eq_true rfl) (Nat.le_of_ble_eq_true rfl) rfl d_Sh_init_22 hf (fun ad5 μ4 h6 hf => ?_)
  rw [← h6 50 (by decide)]
  have hag : ∀ a, a < 51 → ad5 a = yad Y a := fun a h => (h6 a (by omega)).trans (hag a h)
  have C := cx_y (Y' := Y) (ad' := ad5) (n' := 52) C
  refine g_pRF (b := 51) C hnm fl_Sh_22 rfl (kD hY rfl) (show 50 < 52 by decide) rfl hY.2.2 ⟨(show 51 < 52 by decide), (kD hY rfl)⟩ (fun o => by cases o <;> rfl) (fun o => by cases o <;> rfl) d_Sh_init_24 hf (fun μ7 hf => ?_)
  obtain rfl := Option.some.inj hf
  exact g_vret C (fun a h => hag a (by omega)) d_Sh_init_27
set_option maxRecDepth 40000 in
theorem c_Sh_init_52 {l : Launch} {Y : Lay} (hY : IsD Y) (hn : yn Y = 53) {μ r : Mem} (hf : f_Sh_init_52 μ = some r) : CtA l Y y_Sh_init b_Sh_init 1 { frames := 2, cells := 1, slots := 120, locals := 128 } [.ref (yad Y 52)] 54 μ r AOs := by
  refine ct_ofA (own := "TopYard$Sheet") (lv := [(0, .ref (yad Y 52))]) (by decide +kernel) rfl rfl (Nat.le_of_ble_eq_true rfl) rfl (fun X sz hl hsz hE hnm C => ?_)
  subst hl
  have hA : ∀ q, (xs X).heap.size ≤ q → An Y sz q := fun q h => Or.inr (by omega)
  have hag : ∀ a, a < 53 → yad Y a = yad Y a := fun _ _ => rfl
  unfold f_Sh_init_52 at hf
  rw [hn]
  have C := cx_0 (ad := yad Y) (n := 53) C
  refine j_aload_n C d_Sh_init_0 0 rfl ?_
  refine g_obj C wd_305 oi_2 oi_3 (by decide) (by decide) rfl d_Sh_init_1 ?_
  refine j_aload_n C d_Sh_init_4 0 rfl ?_
  refine j_iconst (v := 1) C d_Sh_init_5 (by decide) ?_
  refine j_pI C fl_Sh_9 (kD hY rfl) (show 52 < 53 by decide) rfl (by decide) (by decide) d_Sh_init_6 hf (fun μ1 hf => ?_)
  refine j_aload_n C d_Sh_init_9 0 rfl ?_
  refine j_iconst (v := 0) C d_Sh_init_10 (by decide) ?_
  refine j_pI C fl_Sh_15 (kD hY rfl) (show 52 < 53 by decide) rfl rfl rfl d_Sh_init_11 hf (fun μ2 hf => ?_)
  refine j_aload_n C d_Sh_init_14 0 rfl ?_
  refine j_iconst (v := 0) C d_Sh_init_15 (by decide) ?_
  refine j_pI C fl_Sh_19 (kD hY rfl) (show 52 < 53 by decide) rfl rfl rfl d_Sh_init_16 hf (fun μ3 hf => ?_)
  refine j_aload_n C d_Sh_init_19 0 rfl ?_
  refine j_bipush (v := 120) C d_Sh_init_20 (by decide) ?_
  refine g_newI (N := 120) (n1 := 54) C hA hY.2.2 (kD hY rfl) (lD hY rfl) wd_253 (by decide) (by decide) (Nat.le_of_ble_eq_true rfl) (Nat.le_of_ble_eq_true rfl) (Nat.le_of_ble_eq_true rfl) rfl d_Sh_init_22 hf (fun ad5 μ4 h6 hf => ?_)
  rw [← h6 52 (by decide)]
  have hag : ∀ a, a < 53 → ad5 a = yad Y a := fun a h => (h6 a (by omega)).trans (hag a h)
  have C := cx_y (Y' := Y) (ad' := ad5) (n' := 54) C
  refine g_pRF (b := 53) C hnm fl_Sh_22 rfl (kD hY rfl) (show 52 < 54 by decide) rfl hY.2.2 ⟨(show 53 < 54 by decide), (kD hY rfl)⟩ (fun o => by cases o <;> rfl) (fun o => by cases o <;> rfl) d_Sh_init_24 hf (fun μ7 hf => ?_)
  obtain rfl := Option.some.inj hf
  exact g_vret C (fun a h => hag a (by omega)) d_Sh_init_27
set_option maxRecDepth 40000 in
theorem c_Sh_init_54 {l : Launch} {Y : Lay} (hY : IsD Y) (hn : yn Y = 55) {μ r : Mem} (hf : f_Sh_init_54 μ = some r) : CtA l Y y_Sh_init b_Sh_init 1 { frames := 2, cells := 1, slots := 120, locals := 128 } [.ref (yad Y 54)] 56 μ r AOs := by
  refine ct_ofA (own := "TopYard$Sheet") (lv := [(0, .ref (yad Y 54))]) (by decide +kernel) rfl rfl (Nat.le_of_ble_eq_true rfl) rfl (fun X sz hl hsz hE hnm C => ?_)
  subst hl
  have hA : ∀ q, (xs X).heap.size ≤ q → An Y sz q := fun q h => Or.inr (by omega)
  have hag : ∀ a, a < 55 → yad Y a = yad Y a := fun _ _ => rfl
  unfold f_Sh_init_54 at hf
  rw [hn]
  have C := cx_0 (ad := yad Y) (n := 55) C
  refine j_aload_n C d_Sh_init_0 0 rfl ?_
  refine g_obj C wd_305 oi_2 oi_3 (by decide) (by decide) rfl d_Sh_init_1 ?_
  refine j_aload_n C d_Sh_init_4 0 rfl ?_
  refine j_iconst (v := 1) C d_Sh_init_5 (by decide) ?_
  refine j_pI C fl_Sh_9 (kD hY rfl) (show 54 < 55 by decide) rfl (by decide) (by decide) d_Sh_init_6 hf (fun μ1 hf => ?_)
  refine j_aload_n C d_Sh_init_9 0 rfl ?_
  refine j_iconst (v := 0) C d_Sh_init_10 (by decide) ?_
  refine j_pI C fl_Sh_15 (kD hY rfl) (show 54 < 55 by decide) rfl rfl rfl d_Sh_init_11 hf (fun μ2 hf => ?_)
  refine j_aload_n C d_Sh_init_14 0 rfl ?_
  refine j_iconst (v := 0) C d_Sh_init_15 (by decide) ?_
  refine j_pI C fl_Sh_19 (kD hY rfl) (show 54 < 55 by decide) rfl rfl rfl d_Sh_init_16 hf (fun μ3 hf => ?_)
  refine j_aload_n C d_Sh_init_19 0 rfl ?_
  refine j_bipush (v := 120) C d_Sh_init_20 (by decide) ?_
  refine g_newI (N := 120) (n1 := 56) C hA hY.2.2 (kD hY rfl) (lD hY rfl) wd_253 (by decide) (by decide) (Nat.le_of_ble_eq_true rfl) (Nat.le_of_ble_eq_true rfl) (Nat.le_of_ble_eq_true rfl) rfl d_Sh_init_22 hf (fun ad5 μ4 h6 hf => ?_)
  rw [← h6 54 (by decide)]
  have hag : ∀ a, a < 55 → ad5 a = yad Y a := fun a h => (h6 a (by omega)).trans (hag a h)
  have C := cx_y (Y' := Y) (ad' := ad5) (n' := 56) C
  refine g_pRF (b := 55) C hnm fl_Sh_22 rfl (kD hY rfl) (show 54 < 56 by decide) rfl hY.2.2 ⟨(show 55 < 56 by decide), (kD hY rfl)⟩ (fun o => by cases o <;> rfl) (fun o => by cases o <;> rfl) d_Sh_init_24 hf (fun μ7 hf => ?_)
  obtain rfl := Option.some.inj hf
  exact g_vret C (fun a h => hag a (by omega)) d_Sh_init_27
set_option maxRecDepth 40000 in
theorem c_X_init_0 {l : Launch} {Y : Lay} (hY : IsD Y) (hn : yn Y = 1) {μ r : Mem} (hf : f_X_init_0 μ = some r) : CtA l Y y_X_init b_X_init 2 { frames := 4, cells := 55, slots := 6326, locals := 256 } [.ref (yad Y 0)] 56 μ r AOs := by
  refine ct_ofA (own := "TopYard") (lv := [(0, .ref (yad Y 0))]) (by decide +kernel) rfl rfl (Nat.le_of_ble_eq_true rfl) rfl (fun X sz hl hsz hE hnm C => ?_)
  subst hl
  have hA : ∀ q, (xs X).heap.size ≤ q → An Y sz q := fun q h => Or.inr (by omega)
  have hag : ∀ a, a < 1 → yad Y a = yad Y a := fun _ _ => rfl
  unfold f_X_init_0 at hf
  rw [hn]
  have C := cx_0 (ad := yad Y) (n := 1) C
  refine j_aload_n C d_X_init_0 0 rfl ?_
  refine g_obj C wd_245 oi_2 oi_3 (by decide) (by decide) rfl d_X_init_1 ?_
  refine j_aload_n C d_X_init_4 0 rfl ?_
  refine j_bipush (v := 40) C d_X_init_5 (by decide) ?_
  refine g_newQ (N := 40) (n1 := 2) C hA hY.2.2 (kD hY rfl) (by decide) rfl (lD hY rfl) wd_246 hE.1 (by decide) (by decide) (Nat.le_of_ble_eq_true rfl) (Nat.le_of_ble_eq_true rfl) (Nat.le_of_ble_eq_true rfl) rfl d_X_init_7 hf (fun ad2 μ1 h3 hf => ?_)
  rw [← h3 0 (by decide)]
  have hag : ∀ a, a < 1 → ad2 a = yad Y a := fun a h => (h3 a (by omega)).trans (hag a h)
  have C := cx_y (Y' := Y) (ad' := ad2) (n' := 2) C
  refine g_pRF (b := 1) C hnm fl_X_11 rfl (kD hY rfl) (show 0 < 2 by decide) rfl hY.2.2 ⟨(show 1 < 2 by decide), (kD hY rfl)⟩ (fun o => by cases o <;> rfl) (fun o => by cases o <;> rfl) d_X_init_10 hf (fun μ4 hf => ?_)
  refine j_aload_n C d_X_init_13 0 rfl ?_
  refine j_iconst (v := 0) C d_X_init_14 (by decide) ?_
  refine j_pI C fl_X_15 (kD hY rfl) (show 0 < 2 by decide) rfl rfl rfl d_X_init_15 hf (fun μ5 hf => ?_)
  refine j_aload_n C d_X_init_18 0 rfl ?_
  refine g_new (n1 := 3) C hA (Or.inl hY.2.2) (kD hY rfl) (by decide) rfl kW1 kO1 rfl kD1 wd_247 wd_248 wd_249 (Nat.le_of_ble_eq_true rfl) (Nat.le_of_ble_eq_true rfl) rfl d_X_init_19 hf (fun ad7 μ6 h8 hf => ?_)
  rw [← h8 0 (by decide)]
  have hag : ∀ a, a < 1 → ad7 a = yad Y a := fun a h => (h8 a (by omega)).trans (hag a h)
  have C := cx_y (Y' := Y) (ad' := ad7) (n' := 3) C
  refine j_dup C d_X_init_22 rfl ?_
  refine bd hf (fun μ9 hc10 hf => ?_)
  refine g_cI (As := []) (rest := [.ref (ad7 2), .ref (ad7 0)]) (a := 2) C hA wd_254 wd_255 wd_249 wd_256 rfl ⟨by decide +kernel, by decide +kernel, by decide +kernel⟩ (c_Bw_init_2 (Y := yset Y ad7 3) hY rfl hc10) rfl (fun U hU => hE.moved hU) (fun U g mk a h => h.blind g mk a) ⟨(Nat.le_of_ble_eq_true rfl), (Nat.le_of_ble_eq_true rfl)⟩ ⟨(Nat.le_of_ble_eq_true rfl), (Nat.le_of_ble_eq_true rfl)⟩ rfl (Nat.le_of_ble_eq_true rfl) d_X_init_23 (fun ad11 h12 => ?_)
  rw [← h12 0 (by decide)]
  rw [← h12 2 (by decide)]
  have hag : ∀ a, a < 1 → ad11 a = yad Y a := fun a h => (h12 a (by omega)).trans (hag a h)
  have C := cx_y (Y' := Y) (ad' := ad11) (n' := 4) C
  refine g_pRF (b := 2) C hnm fl_X_22 rfl (kD hY rfl) (show 0 < 4 by decide) rfl hY.2.2 ⟨(show 2 < 4 by decide), (kD hY rfl)⟩ (fun o => by cases o <;> rfl) (fun o => by cases o <;> rfl) d_X_init_26 hf (fun μ13 hf => ?_)
  refine j_aload_n C d_X_init_29 0 rfl ?_
  refine j_bipush (v := 8) C d_X_init_30 (by decide) ?_
  refine g_newI (N := 8) (n1 := 5) C hA hY.2.2 (kD hY rfl) (lD hY rfl) wd_253 (by decide) (by decide) (Nat.le_of_ble_eq_true rfl) (Nat.le_of_ble_eq_true rfl) (Nat.le_of_ble_eq_true rfl) rfl d_X_init_32 hf (fun ad15 μ14 h16 hf => ?_)
  rw [← h16 0 (by decide)]
  have hag : ∀ a, a < 1 → ad15 a = yad Y a := fun a h => (h16 a (by omega)).trans (hag a h)
  have C := cx_y (Y' := Y) (ad' := ad15) (n' := 5) C
  refine g_pRF (b := 4) C hnm fl_X_26 rfl (kD hY rfl) (show 0 < 5 by decide) rfl hY.2.2 ⟨(show 4 < 5 by decide), (kD hY rfl)⟩ (fun o => by cases o <;> rfl) (fun o => by cases o <;> rfl) d_X_init_34 hf (fun μ17 hf => ?_)
  refine j_aload_n C d_X_init_37 0 rfl ?_
  refine g_new (n1 := 6) C hA (Or.inl hY.2.2) (kD hY rfl) (by decide) rfl kW0 kO0 rfl kD0 wd_257 wd_258 wd_259 (Nat.le_of_ble_eq_true rfl) (Nat.le_of_ble_eq_true rfl) rfl d_X_init_38 hf (fun ad19 μ18 h20 hf => ?_)
  rw [← h20 0 (by decide)]
  have hag : ∀ a, a < 1 → ad19 a = yad Y a := fun a h => (h20 a (by omega)).trans (hag a h)
  have C := cx_y (Y' := Y) (ad' := ad19) (n' := 6) C
  refine j_dup C d_X_init_41 rfl ?_
  refine bd hf (fun μ21 hc22 hf => ?_)
  refine g_cI (As := []) (rest := [.ref (ad19 5), .ref (ad19 0)]) (a := 5) C hA wd_269 wd_270 wd_259 wd_271 rfl ⟨by decide +kernel, by decide +kernel, by decide +kernel⟩ (c_Bt_init_5 (Y := yset Y ad19 6) hY rfl hc22) rfl (fun U hU => hE.moved hU) (fun U g mk a h => h.blind g mk a) ⟨(Nat.le_of_ble_eq_true rfl), (Nat.le_of_ble_eq_true rfl)⟩ ⟨(Nat.le_of_ble_eq_true rfl), (Nat.le_of_ble_eq_true rfl)⟩ rfl (Nat.le_of_ble_eq_true rfl) d_X_init_42 (fun ad23 h24 => ?_)
  rw [← h24 0 (by decide)]
  rw [← h24 5 (by decide)]
  have hag : ∀ a, a < 1 → ad23 a = yad Y a := fun a h => (h24 a (by omega)).trans (hag a h)
  have C := cx_y (Y' := Y) (ad' := ad23) (n' := 14) C
  refine g_pRF (b := 5) C hnm fl_X_33 rfl (kD hY rfl) (show 0 < 14 by decide) rfl hY.2.2 ⟨(show 5 < 14 by decide), (kD hY rfl)⟩ (fun o => by cases o <;> rfl) (fun o => by cases o <;> rfl) d_X_init_45 hf (fun μ25 hf => ?_)
  refine j_aload_n C d_X_init_48 0 rfl ?_
  refine g_new (n1 := 15) C hA (Or.inl hY.2.2) (kD hY rfl) (by decide) rfl kW0 kO0 rfl kD0 wd_257 wd_258 wd_259 (Nat.le_of_ble_eq_true rfl) (Nat.le_of_ble_eq_true rfl) rfl d_X_init_49 hf (fun ad27 μ26 h28 hf => ?_)
  rw [← h28 0 (by decide)]
  have hag : ∀ a, a < 1 → ad27 a = yad Y a := fun a h => (h28 a (by omega)).trans (hag a h)
  have C := cx_y (Y' := Y) (ad' := ad27) (n' := 15) C
  refine j_dup C d_X_init_52 rfl ?_
  refine bd hf (fun μ29 hc30 hf => ?_)
  refine g_cI (As := []) (rest := [.ref (ad27 14), .ref (ad27 0)]) (a := 14) C hA wd_269 wd_270 wd_259 wd_271 rfl ⟨by decide +kernel, by decide +kernel, by decide +kernel⟩ (c_Bt_init_14 (Y := yset Y ad27 15) hY rfl hc30) rfl (fun U hU => hE.moved hU) (fun U g mk a h => h.blind g mk a) ⟨(Nat.le_of_ble_eq_true rfl), (Nat.le_of_ble_eq_true rfl)⟩ ⟨(Nat.le_of_ble_eq_true rfl), (Nat.le_of_ble_eq_true rfl)⟩ rfl (Nat.le_of_ble_eq_true rfl) d_X_init_53 (fun ad31 h32 => ?_)
  rw [← h32 0 (by decide)]
  rw [← h32 14 (by decide)]
  have hag : ∀ a, a < 1 → ad31 a = yad Y a := fun a h => (h32 a (by omega)).trans (hag a h)
  have C := cx_y (Y' := Y) (ad' := ad31) (n' := 23) C
  refine g_pRF (b := 14) C hnm fl_X_37 rfl (kD hY rfl) (show 0 < 23 by decide) rfl hY.2.2 ⟨(show 14 < 23 by decide), (kD hY rfl)⟩ (fun o => by cases o <;> rfl) (fun o => by cases o <;> rfl) d_X_init_56 hf (fun μ33 hf => ?_)
  refine j_aload_n C d_X_init_59 0 rfl ?_
  refine g_new (n1 := 24) C hA (Or.inl hY.2.2) (kD hY rfl) (by decide) rfl kW2 kO2 rfl kD2 wd_272 wd_273 wd_274 (Nat.le_of_ble_eq_true rfl) (Nat.le_of_ble_eq_true rfl) rfl d_X_init_60 hf (fun ad35 μ34 h36 hf => ?_)
  rw [← h36 0 (by decide)]
  have hag : ∀ a, a < 1 → ad35 a = yad Y a := fun a h => (h36 a (by omega)).trans (hag a h)
  have C := cx_y (Y' := Y) (ad' := ad35) (n' := 24) C
  refine j_dup C d_X_init_63 rfl ?_
  refine bd hf (fun μ37 hc38 hf => ?_)
  refine g_cI (As := []) (rest := [.ref (ad35 23), .ref (ad35 0)]) (a := 23) C hA wd_278 wd_279 wd_274 wd_280 rfl ⟨by decide +kernel, by decide +kernel, by decide +kernel⟩ (c_Ch_init_23 (Y := yset Y ad35 24) hY rfl hc38) rfl (fun U hU => hE.moved hU) (fun U g mk a h => h.blind g mk a) ⟨(Nat.le_of_ble_eq_true rfl), (Nat.le_of_ble_eq_true rfl)⟩ ⟨(Nat.le_of_ble_eq_true rfl), (Nat.le_of_ble_eq_true rfl)⟩ rfl (Nat.le_of_ble_eq_true rfl) d_X_init_64 (fun ad39 h40 => ?_)
  rw [← h40 0 (by decide)]
  rw [← h40 23 (by decide)]
  have hag : ∀ a, a < 1 → ad39 a = yad Y a := fun a h => (h40 a (by omega)).trans (hag a h)
  have C := cx_y (Y' := Y) (ad' := ad39) (n' := 34) C
  refine g_pRF (b := 23) C hnm fl_X_43 rfl (kD hY rfl) (show 0 < 34 by decide) rfl hY.2.2 ⟨(show 23 < 34 by decide), (kD hY rfl)⟩ (fun o => by cases o <;> rfl) (fun o => by cases o <;> rfl) d_X_init_67 hf (fun μ41 hf => ?_)
  refine j_aload_n C d_X_init_70 0 rfl ?_
  refine g_new (n1 := 35) C hA (Or.inl hY.2.2) (kD hY rfl) (by decide) rfl kW5 kO5 rfl kD5 wd_281 wd_282 wd_283 (Nat.le_of_ble_eq_true rfl) (Nat.le_of_ble_eq_true rfl) rfl d_X_init_71 hf (fun ad43 μ42 h44 hf => ?_)
  rw [← h44 0 (by decide)]
  have hag : ∀ a, a < 1 → ad43 a = yad Y a := fun a h => (h44 a (by omega)).trans (hag a h)
  have C := cx_y (Y' := Y) (ad' := ad43) (n' := 35) C
  refine j_dup C d_X_init_74 rfl ?_
  refine bd hf (fun μ45 hc46 hf => ?_)
  refine g_cI (As := []) (rest := [.ref (ad43 34), .ref (ad43 0)]) (a := 34) C hA wd_285 wd_286 wd_283 wd_287 rfl ⟨by decide +kernel, by decide +kernel, by decide +kernel⟩ (c_Pa_init_34 (Y := yset Y ad43 35) hY rfl hc46) rfl (fun U hU => hE.moved hU) (fun U g mk a h => h.blind g mk a) ⟨(Nat.le_of_ble_eq_true rfl), (Nat.le_of_ble_eq_true rfl)⟩ ⟨(Nat.le_of_ble_eq_true rfl), (Nat.le_of_ble_eq_true rfl)⟩ rfl (Nat.le_of_ble_eq_true rfl) d_X_init_75 (fun ad47 h48 => ?_)
  rw [← h48 0 (by decide)]
  rw [← h48 34 (by decide)]
  have hag : ∀ a, a < 1 → ad47 a = yad Y a := fun a h => (h48 a (by omega)).trans (hag a h)
  have C := cx_y (Y' := Y) (ad' := ad47) (n' := 39) C
  refine g_pRF (b := 34) C hnm fl_X_50 rfl (kD hY rfl) (show 0 < 39 by decide) rfl hY.2.2 ⟨(show 34 < 39 by decide), (kD hY rfl)⟩ (fun o => by cases o <;> rfl) (fun o => by cases o <;> rfl) d_X_init_78 hf (fun μ49 hf => ?_)
  refine j_aload_n C d_X_init_81 0 rfl ?_
  refine g_new (n1 := 40) C hA (Or.inl hY.2.2) (kD hY rfl) (by decide) rfl kW3 kO3 rfl kD3 wd_288 wd_289 wd_290 (Nat.le_of_ble_eq_true rfl) (Nat.le_of_ble_eq_true rfl) rfl d_X_init_82 hf (fun ad51 μ50 h52 hf => ?_)
  rw [← h52 0 (by decide)]
  have hag : ∀ a, a < 1 → ad51 a = yad Y a := fun a h => (h52 a (by omega)).trans (hag a h)
  have C := cx_y (Y' := Y) (ad' := ad51) (n' := 40) C
  refine j_dup C d_X_init_85 rfl ?_
  refine bd hf (fun μ53 hc54 hf => ?_)
  refine g_cI (As := []) (rest := [.ref (ad51 39), .ref (ad51 0)]) (a := 39) C hA wd_292 wd_293 wd_290 wd_294 rfl ⟨by decide +kernel, by decide +kernel, by decide +kernel⟩ (c_Ga_init_39 (Y := yset Y ad51 40) hY rfl hc54) rfl (fun U hU => hE.moved hU) (fun U g mk a h => h.blind g mk a) ⟨(Nat.le_of_ble_eq_true rfl), (Nat.le_of_ble_eq_true rfl)⟩ ⟨(Nat.le_of_ble_eq_true rfl), (Nat.le_of_ble_eq_true rfl)⟩ rfl (Nat.le_of_ble_eq_true rfl) d_X_init_86 (fun ad55 h56 => ?_)
  rw [← h56 0 (by decide)]
  rw [← h56 39 (by decide)]
  have hag : ∀ a, a < 1 → ad55 a = yad Y a := fun a h => (h56 a (by omega)).trans (hag a h)
  have C := cx_y (Y' := Y) (ad' := ad55) (n' := 42) C
  refine g_pRF (b := 39) C hnm fl_X_57 rfl (kD hY rfl) (show 0 < 42 by decide) rfl hY.2.2 ⟨(show 39 < 42 by decide), (kD hY rfl)⟩ (fun o => by cases o <;> rfl) (fun o => by cases o <;> rfl) d_X_init_89 hf (fun μ57 hf => ?_)
  refine j_aload_n C d_X_init_92 0 rfl ?_
  refine j_iconst (v := 4) C d_X_init_93 (by decide) ?_
  refine g_newI (N := 4) (n1 := 43) C hA hY.2.2 (kD hY rfl) (lD hY rfl) wd_253 (by decide) (by decide) (Nat.le_of_ble_eq_true rfl) (Nat.le_of_ble_eq_true rfl) (Nat.le_of_ble_eq_true rfl) rfl d_X_init_94 hf (fun ad59 μ58 h60 hf => ?_)
  rw [← h60 0 (by decide)]
  have hag : ∀ a, a < 1 → ad59 a = yad Y a := fun a h => (h60 a (by omega)).trans (hag a h)
  have C := cx_y (Y' := Y) (ad' := ad59) (n' := 43) C
  refine g_pRF (b := 42) C hnm fl_X_61 rfl (kD hY rfl) (show 0 < 43 by decide) rfl hY.2.2 ⟨(show 42 < 43 by decide), (kD hY rfl)⟩ (fun o => by cases o <;> rfl) (fun o => by cases o <;> rfl) d_X_init_96 hf (fun μ61 hf => ?_)
  refine j_aload_n C d_X_init_99 0 rfl ?_
  refine j_bipush (v := 64) C d_X_init_100 (by decide) ?_
  refine g_newI (N := 64) (n1 := 44) C hA hY.2.2 (kD hY rfl) (lD hY rfl) wd_253 (by decide) (by decide) (Nat.le_of_ble_eq_true rfl) (Nat.le_of_ble_eq_true rfl) (Nat.le_of_ble_eq_true rfl) rfl d_X_init_102 hf (fun ad63 μ62 h64 hf => ?_)
  rw [← h64 0 (by decide)]
  have hag : ∀ a, a < 1 → ad63 a = yad Y a := fun a h => (h64 a (by omega)).trans (hag a h)
  have C := cx_y (Y' := Y) (ad' := ad63) (n' := 44) C
  refine g_pRF (b := 43) C hnm fl_X_64 rfl (kD hY rfl) (show 0 < 44 by decide) rfl hY.2.2 ⟨(show 43 < 44 by decide), (kD hY rfl)⟩ (fun o => by cases o <;> rfl) (fun o => by cases o <;> rfl) d_X_init_104 hf (fun μ65 hf => ?_)
  refine j_aload_n C d_X_init_107 0 rfl ?_
  refine g_new (n1 := 45) C hA (Or.inl hY.2.2) (kD hY rfl) (by decide) rfl kW4 kO4 rfl kD4 wd_295 wd_296 wd_297 (Nat.le_of_ble_eq_true rfl) (Nat.le_of_ble_eq_true rfl) rfl d_X_init_108 hf (fun ad67 μ66 h68 hf => ?_)
  rw [← h68 0 (by decide)]
  have hag : ∀ a, a < 1 → ad67 a = yad Y a := fun a h => (h68 a (by omega)).trans (hag a h)
  have C := cx_y (Y' := Y) (ad' := ad67) (n' := 45) C
  refine j_dup C d_X_init_111 rfl ?_
  refine bd hf (fun μ69 hc70 hf => ?_)
  refine g_cI (As := []) (rest := [.ref (ad67 44), .ref (ad67 0)]) (a := 44) C hA wd_299 wd_300 wd_297 wd_301 rfl ⟨by decide +kernel, by decide +kernel, by decide +kernel⟩ (c_Pk_init_44 (Y := yset Y ad67 45) hY rfl hc70) rfl (fun U hU => hE.moved hU) (fun U g mk a h => h.blind g mk a) ⟨(Nat.le_of_ble_eq_true rfl), (Nat.le_of_ble_eq_true rfl)⟩ ⟨(Nat.le_of_ble_eq_true rfl), (Nat.le_of_ble_eq_true rfl)⟩ rfl (Nat.le_of_ble_eq_true rfl) d_X_init_112 (fun ad71 h72 => ?_)
  rw [← h72 0 (by decide)]
  rw [← h72 44 (by decide)]
  have hag : ∀ a, a < 1 → ad71 a = yad Y a := fun a h => (h72 a (by omega)).trans (hag a h)
  have C := cx_y (Y' := Y) (ad' := ad71) (n' := 47) C
  refine g_pRF (b := 44) C hnm fl_X_70 rfl (kD hY rfl) (show 0 < 47 by decide) rfl hY.2.2 ⟨(show 44 < 47 by decide), (kD hY rfl)⟩ (fun o => by cases o <;> rfl) (fun o => by cases o <;> rfl) d_X_init_115 hf (fun μ73 hf => ?_)
  refine j_aload_n C d_X_init_118 0 rfl ?_
  refine j_iconst (v := 4) C d_X_init_119 (by decide) ?_
  refine g_newQ (N := 4) (n1 := 48) C hA hY.2.2 (kD hY rfl) (by decide) rfl (lD hY rfl) wd_302 hE.2.2.1 (by decide) (by decide) (Nat.le_of_ble_eq_true rfl) (Nat.le_of_ble_eq_true rfl) (Nat.le_of_ble_eq_true rfl) rfl d_X_init_120 hf (fun ad75 μ74 h76 hf => ?_)
  rw [← h76 0 (by decide)]
  have hag : ∀ a, a < 1 → ad75 a = yad Y a := fun a h => (h76 a (by omega)).trans (hag a h)
  have C := cx_y (Y' := Y) (ad' := ad75) (n' := 48) C
  refine g_pRF (b := 47) C hnm fl_X_76 rfl (kD hY rfl) (show 0 < 48 by decide) rfl hY.2.2 ⟨(show 47 < 48 by decide), (kD hY rfl)⟩ (fun o => by cases o <;> rfl) (fun o => by cases o <;> rfl) d_X_init_123 hf (fun μ77 hf => ?_)
  refine j_aload_n C d_X_init_126 0 rfl ?_
  refine j_iconst (v := 0) C d_X_init_127 (by decide) ?_
  refine j_pI C fl_X_80 (kD hY rfl) (show 0 < 48 by decide) rfl rfl rfl d_X_init_128 hf (fun μ78 hf => ?_)
  refine j_aload_n C d_X_init_131 0 rfl ?_
  refine ck hf (fun hg79 hf => ?_)
  refine g_gRs C fl_X_26 (kD hY rfl) (show 0 < 48 by decide) rfl hg79 d_X_init_132 ?_
  refine j_bipush (v := 100) C d_X_init_135 (by decide) ?_
  refine bd hf (fun μ80 hc81 hf => ?_)
  refine g_cS (rest := []) C lk_X_83 (cD_JA_fill (Y := yset Y ad75 48) hY.2.1 ⟨(kD hY rfl), (show 4 < 48 by decide)⟩ hc81) rfl ⟨by decide, by decide⟩ ⟨(Nat.le_of_ble_eq_true rfl), (Nat.le_of_ble_eq_true rfl)⟩ rfl (Nat.le_of_ble_eq_true rfl) d_X_init_137 ?_
  refine j_iconst (v := 0) C d_X_init_140 (by decide) ?_
  refine j_istore_n (lvf := [(0, .ref (ad75 0))]) C d_X_init_141 (by decide) rfl ?_
  refine j_iload_n C d_X_init_142 0 rfl ?_
  refine j_iconst (v := 4) C d_X_init_143 (by decide) ?_
  refine g_icmp_f C d_X_init_144 (by decide) ?_
  refine j_aload_n C d_X_init_147 1 rfl ?_
  refine ck hf (fun hg82 hf => ?_)
  refine g_gRs C fl_X_76 (kD hY rfl) (show 0 < 48 by decide) rfl hg82 d_X_init_148 ?_
  refine j_iload_n C d_X_init_151 0 rfl ?_
  refine g_new (n1 := 49) C hA (Or.inl hY.2.2) (kD hY rfl) (by decide) rfl kW6 kO6 rfl kD6 wd_302 wd_303 wd_304 (Nat.le_of_ble_eq_true rfl) (Nat.le_of_ble_eq_true rfl) rfl d_X_init_152 hf (fun ad84 μ83 h85 hf => ?_)
  rw [← h85 0 (by decide)]
  rw [← h85 47 (by decide)]
  have hag : ∀ a, a < 1 → ad84 a = yad Y a := fun a h => (h85 a (by omega)).trans (hag a h)
  have C := cx_y (Y' := Y) (ad' := ad84) (n' := 49) C
  refine j_dup C d_X_init_155 rfl ?_
  refine bd hf (fun μ86 hc87 hf => ?_)
  refine g_cI (As := []) (rest := [.ref (ad84 48), .int 0, .ref (ad84 47)]) (a := 48) C hA wd_306 wd_307 wd_304 wd_308 rfl ⟨by decide +kernel, by decide +kernel, by decide +kernel⟩ (c_Sh_init_48 (Y := yset Y ad84 49) hY rfl hc87) rfl (fun U hU => hE.moved hU) (fun U g mk a h => h.blind g mk a) ⟨(Nat.le_of_ble_eq_true rfl), (Nat.le_of_ble_eq_true rfl)⟩ ⟨(Nat.le_of_ble_eq_true rfl), (Nat.le_of_ble_eq_true rfl)⟩ rfl (Nat.le_of_ble_eq_true rfl) d_X_init_156 (fun ad88 h89 => ?_)
  rw [← h89 0 (by decide)]
  rw [← h89 47 (by decide)]
  rw [← h89 48 (by decide)]
  have hag : ∀ a, a < 1 → ad88 a = yad Y a := fun a h => (h89 a (by omega)).trans (hag a h)
  have C := cx_y (Y' := Y) (ad' := ad88) (n' := 50) C
  refine g_aast (N := 4) (qc := (kR6, kF6, 4)) C (kD hY rfl) (by decide) rfl (show 47 < 50 by decide) (lD hY rfl) (by decide) (Or.inl hY.2.2) (show 48 < 50 by decide) (kD hY rfl) (by decide) rfl rfl d_X_init_159 hf (fun μ90 hf => ?_)
  refine g_iinc (lvf := [(0, .ref (ad88 0))]) (v := 1) (w := 1) C d_X_init_160 0 rfl (by decide) (by decide) (by decide) rfl ?_
  refine j_goto C d_X_init_163 ?_
  refine j_iload_n C d_X_init_142 0 rfl ?_
  refine j_iconst (v := 4) C d_X_init_143 (by decide) ?_
  refine g_icmp_f C d_X_init_144 (by decide) ?_
  refine j_aload_n C d_X_init_147 1 rfl ?_
  refine ck hf (fun hg91 hf => ?_)
  refine g_gRs C fl_X_76 (kD hY rfl) (show 0 < 50 by decide) rfl hg91 d_X_init_148 ?_
  refine j_iload_n C d_X_init_151 0 rfl ?_
  refine g_new (n1 := 51) C hA (Or.inl hY.2.2) (kD hY rfl) (by decide) rfl kW6 kO6 rfl kD6 wd_302 wd_303 wd_304 (Nat.le_of_ble_eq_true rfl) (Nat.le_of_ble_eq_true rfl) rfl d_X_init_152 hf (fun ad93 μ92 h94 hf => ?_)
  rw [← h94 0 (by decide)]
  rw [← h94 47 (by decide)]
  have hag : ∀ a, a < 1 → ad93 a = yad Y a := fun a h => (h94 a (by omega)).trans (hag a h)
  have C := cx_y (Y' := Y) (ad' := ad93) (n' := 51) C
  refine j_dup C d_X_init_155 rfl ?_
  refine bd hf (fun μ95 hc96 hf => ?_)
  refine g_cI (As := []) (rest := [.ref (ad93 50), .int 1, .ref (ad93 47)]) (a := 50) C hA wd_306 wd_307 wd_304 wd_308 rfl ⟨by decide +kernel, by decide +kernel, by decide +kernel⟩ (c_Sh_init_50 (Y := yset Y ad93 51) hY rfl hc96) rfl (fun U hU => hE.moved hU) (fun U g mk a h => h.blind g mk a) ⟨(Nat.le_of_ble_eq_true rfl), (Nat.le_of_ble_eq_true rfl)⟩ ⟨(Nat.le_of_ble_eq_true rfl), (Nat.le_of_ble_eq_true rfl)⟩ rfl (Nat.le_of_ble_eq_true rfl) d_X_init_156 (fun ad97 h98 => ?_)
  rw [← h98 0 (by decide)]
  rw [← h98 47 (by decide)]
  rw [← h98 50 (by decide)]
  have hag : ∀ a, a < 1 → ad97 a = yad Y a := fun a h => (h98 a (by omega)).trans (hag a h)
  have C := cx_y (Y' := Y) (ad' := ad97) (n' := 52) C
  refine g_aast (N := 4) (qc := (kR6, kF6, 4)) C (kD hY rfl) (by decide) rfl (show 47 < 52 by decide) (lD hY rfl) (by decide) (Or.inl hY.2.2) (show 50 < 52 by decide) (kD hY rfl) (by decide) rfl rfl d_X_init_159 hf (fun μ99 hf => ?_)
  refine g_iinc (lvf := [(0, .ref (ad97 0))]) (v := 1) (w := 2) C d_X_init_160 0 rfl (by decide) (by decide) (by decide) rfl ?_
  refine j_goto C d_X_init_163 ?_
  refine j_iload_n C d_X_init_142 0 rfl ?_
  refine j_iconst (v := 4) C d_X_init_143 (by decide) ?_
  refine g_icmp_f C d_X_init_144 (by decide) ?_
  refine j_aload_n C d_X_init_147 1 rfl ?_
  refine ck hf (fun hg100 hf => ?_)
  refine g_gRs C fl_X_76 (kD hY rfl) (show 0 < 52 by decide) rfl hg100 d_X_init_148 ?_
  refine j_iload_n C d_X_init_151 0 rfl ?_
  refine g_new (n1 := 53) C hA (Or.inl hY.2.2) (kD hY rfl) (by decide) rfl kW6 kO6 rfl kD6 wd_302 wd_303 wd_304 (Nat.le_of_ble_eq_true rfl) (Nat.le_of_ble_eq_true rfl) rfl d_X_init_152 hf (fun ad102 μ101 h103 hf => ?_)
  rw [← h103 0 (by decide)]
  rw [← h103 47 (by decide)]
  have hag : ∀ a, a < 1 → ad102 a = yad Y a := fun a h => (h103 a (by omega)).trans (hag a h)
  have C := cx_y (Y' := Y) (ad' := ad102) (n' := 53) C
  refine j_dup C d_X_init_155 rfl ?_
  refine bd hf (fun μ104 hc105 hf => ?_)
  refine g_cI (As := []) (rest := [.ref (ad102 52), .int 2, .ref (ad102 47)]) (a := 52) C hA wd_306 wd_307 wd_304 wd_308 rfl ⟨by decide +kernel, by decide +kernel, by decide +kernel⟩ (c_Sh_init_52 (Y := yset Y ad102 53) hY rfl hc105) rfl (fun U hU => hE.moved hU) (fun U g mk a h => h.blind g mk a) ⟨(Nat.le_of_ble_eq_true rfl), (Nat.le_of_ble_eq_true rfl)⟩ ⟨(Nat.le_of_ble_eq_true rfl), (Nat.le_of_ble_eq_true rfl)⟩ rfl (Nat.le_of_ble_eq_true rfl) d_X_init_156 (fun ad106 h107 => ?_)
  rw [← h107 0 (by decide)]
  rw [← h107 47 (by decide)]
  rw [← h107 52 (by decide)]
  have hag : ∀ a, a < 1 → ad106 a = yad Y a := fun a h => (h107 a (by omega)).trans (hag a h)
  have C := cx_y (Y' := Y) (ad' := ad106) (n' := 54) C
  refine g_aast (N := 4) (qc := (kR6, kF6, 4)) C (kD hY rfl) (by decide) rfl (show 47 < 54 by decide) (lD hY rfl) (by decide) (Or.inl hY.2.2) (show 52 < 54 by decide) (kD hY rfl) (by decide) rfl rfl d_X_init_159 hf (fun μ108 hf => ?_)
  refine g_iinc (lvf := [(0, .ref (ad106 0))]) (v := 1) (w := 3) C d_X_init_160 0 rfl (by decide) (by decide) (by decide) rfl ?_
  refine j_goto C d_X_init_163 ?_
  refine j_iload_n C d_X_init_142 0 rfl ?_
  refine j_iconst (v := 4) C d_X_init_143 (by decide) ?_
  refine g_icmp_f C d_X_init_144 (by decide) ?_
  refine j_aload_n C d_X_init_147 1 rfl ?_
  refine ck hf (fun hg109 hf => ?_)
  refine g_gRs C fl_X_76 (kD hY rfl) (show 0 < 54 by decide) rfl hg109 d_X_init_148 ?_
  refine j_iload_n C d_X_init_151 0 rfl ?_
  refine g_new (n1 := 55) C hA (Or.inl hY.2.2) (kD hY rfl) (by decide) rfl kW6 kO6 rfl kD6 wd_302 wd_303 wd_304 (Nat.le_of_ble_eq_true rfl) (Nat.le_of_ble_eq_true rfl) rfl d_X_init_152 hf (fun ad111 μ110 h112 hf => ?_)
  rw [← h112 0 (by decide)]
  rw [← h112 47 (by decide)]
  have hag : ∀ a, a < 1 → ad111 a = yad Y a := fun a h => (h112 a (by omega)).trans (hag a h)
  have C := cx_y (Y' := Y) (ad' := ad111) (n' := 55) C
  refine j_dup C d_X_init_155 rfl ?_
  refine bd hf (fun μ113 hc114 hf => ?_)
  refine g_cI (As := []) (rest := [.ref (ad111 54), .int 3, .ref (ad111 47)]) (a := 54) C hA wd_306 wd_307 wd_304 wd_308 rfl ⟨by decide +kernel, by decide +kernel, by decide +kernel⟩ (c_Sh_init_54 (Y := yset Y ad111 55) hY rfl hc114) rfl (fun U hU => hE.moved hU) (fun U g mk a h => h.blind g mk a) ⟨(Nat.le_of_ble_eq_true rfl), (Nat.le_of_ble_eq_true rfl)⟩ ⟨(Nat.le_of_ble_eq_true rfl), (Nat.le_of_ble_eq_true rfl)⟩ rfl (Nat.le_of_ble_eq_true rfl) d_X_init_156 (fun ad115 h116 => ?_)
  rw [← h116 0 (by decide)]
  rw [← h116 47 (by decide)]
  rw [← h116 54 (by decide)]
  have hag : ∀ a, a < 1 → ad115 a = yad Y a := fun a h => (h116 a (by omega)).trans (hag a h)
  have C := cx_y (Y' := Y) (ad' := ad115) (n' := 56) C
  refine g_aast (N := 4) (qc := (kR6, kF6, 4)) C (kD hY rfl) (by decide) rfl (show 47 < 56 by decide) (lD hY rfl) (by decide) (Or.inl hY.2.2) (show 54 < 56 by decide) (kD hY rfl) (by decide) rfl rfl d_X_init_159 hf (fun μ117 hf => ?_)
  refine g_iinc (lvf := [(0, .ref (ad115 0))]) (v := 1) (w := 4) C d_X_init_160 0 rfl (by decide) (by decide) (by decide) rfl ?_
  refine j_goto C d_X_init_163 ?_
  refine j_iload_n C d_X_init_142 0 rfl ?_
  refine j_iconst (v := 4) C d_X_init_143 (by decide) ?_
  refine g_icmp_t C d_X_init_144 (by decide) ?_
  obtain rfl := Option.some.inj hf
  exact g_vret C (fun a h => hag a (by omega)) d_X_init_166
set_option maxRecDepth 40000 in
theorem c_M_init_0 {l : Launch} {Y : Lay} (hY : IsE Y) (hn : yn Y = 1) {μ r : Mem} (hf : f_M_init_0 μ = some r) : CtA l Y y_M_init b_M_init 2 { frames := 2, cells := 48, slots := 1613, locals := 128 } [.ref (yad Y 0)] 49 μ r AOs := by
  refine ct_ofA (own := "TopYardModel") (lv := [(0, .ref (yad Y 0))]) (by decide +kernel) rfl rfl (Nat.le_of_ble_eq_true rfl) rfl (fun X sz hl hsz hE hnm C => ?_)
  subst hl
  have hA : ∀ q, (xs X).heap.size ≤ q → An Y sz q := fun q h => Or.inr (by omega)
  have hag : ∀ a, a < 1 → yad Y a = yad Y a := fun _ _ => rfl
  unfold f_M_init_0 at hf
  rw [hn]
  have C := cx_0 (ad := yad Y) (n := 1) C
  refine j_aload_n C d_M_init_0 0 rfl ?_
  refine g_obj C wd_309 oi_2 oi_3 (by decide) (by decide) rfl d_M_init_1 ?_
  refine j_aload_n C d_M_init_4 0 rfl ?_
  refine j_bipush (v := 36) C d_M_init_5 (by decide) ?_
  refine g_newI (N := 36) (n1 := 2) C hA hY.2.2 (kE hY rfl) (lE hY rfl) wd_253 (by decide) (by decide) (Nat.le_of_ble_eq_true rfl) (Nat.le_of_ble_eq_true rfl) (Nat.le_of_ble_eq_true rfl) rfl d_M_init_7 hf (fun ad2 μ1 h3 hf => ?_)
  rw [← h3 0 (by decide)]
  have hag : ∀ a, a < 1 → ad2 a = yad Y a := fun a h => (h3 a (by omega)).trans (hag a h)
  have C := cx_y (Y' := Y) (ad' := ad2) (n' := 2) C
  refine g_pRF (b := 1) C hnm fl_M_7 rfl (kE hY rfl) (show 0 < 2 by decide) rfl hY.2.2 ⟨(show 1 < 2 by decide), (kE hY rfl)⟩ (fun o => by cases o <;> rfl) (fun o => by cases o <;> rfl) d_M_init_9 hf (fun μ4 hf => ?_)
  refine j_aload_n C d_M_init_12 0 rfl ?_
  refine j_bipush (v := 40) C d_M_init_13 (by decide) ?_
  refine g_newI (N := 40) (n1 := 3) C hA hY.2.2 (kE hY rfl) (lE hY rfl) wd_253 (by decide) (by decide) (Nat.le_of_ble_eq_true rfl) (Nat.le_of_ble_eq_true rfl) (Nat.le_of_ble_eq_true rfl) rfl d_M_init_15 hf (fun ad6 μ5 h7 hf => ?_)
  rw [← h7 0 (by decide)]
  have hag : ∀ a, a < 1 → ad6 a = yad Y a := fun a h => (h7 a (by omega)).trans (hag a h)
  have C := cx_y (Y' := Y) (ad' := ad6) (n' := 3) C
  refine g_pRF (b := 2) C hnm fl_M_13 rfl (kE hY rfl) (show 0 < 3 by decide) rfl hY.2.2 ⟨(show 2 < 3 by decide), (kE hY rfl)⟩ (fun o => by cases o <;> rfl) (fun o => by cases o <;> rfl) d_M_init_17 hf (fun μ8 hf => ?_)
  refine j_aload_n C d_M_init_20 0 rfl ?_
  refine j_bipush (v := 40) C d_M_init_21 (by decide) ?_
  refine g_newI (N := 40) (n1 := 4) C hA hY.2.2 (kE hY rfl) (lE hY rfl) wd_253 (by decide) (by decide) (Nat.le_of_ble_eq_true rfl) (Nat.le_of_ble_eq_true rfl) (Nat.le_of_ble_eq_true rfl) rfl d_M_init_23 hf (fun ad10 μ9 h11 hf => ?_)
  rw [← h11 0 (by decide)]
  have hag : ∀ a, a < 1 → ad10 a = yad Y a := fun a h => (h11 a (by omega)).trans (hag a h)
  have C := cx_y (Y' := Y) (ad' := ad10) (n' := 4) C
  refine g_pRF (b := 3) C hnm fl_M_16 rfl (kE hY rfl) (show 0 < 4 by decide) rfl hY.2.2 ⟨(show 3 < 4 by decide), (kE hY rfl)⟩ (fun o => by cases o <;> rfl) (fun o => by cases o <;> rfl) d_M_init_25 hf (fun μ12 hf => ?_)
  refine j_aload_n C d_M_init_28 0 rfl ?_
  refine j_bipush (v := 40) C d_M_init_29 (by decide) ?_
  refine g_newI (N := 40) (n1 := 5) C hA hY.2.2 (kE hY rfl) (lE hY rfl) wd_253 (by decide) (by decide) (Nat.le_of_ble_eq_true rfl) (Nat.le_of_ble_eq_true rfl) (Nat.le_of_ble_eq_true rfl) rfl d_M_init_31 hf (fun ad14 μ13 h15 hf => ?_)
  rw [← h15 0 (by decide)]
  have hag : ∀ a, a < 1 → ad14 a = yad Y a := fun a h => (h15 a (by omega)).trans (hag a h)
  have C := cx_y (Y' := Y) (ad' := ad14) (n' := 5) C
  refine g_pRF (b := 4) C hnm fl_M_19 rfl (kE hY rfl) (show 0 < 5 by decide) rfl hY.2.2 ⟨(show 4 < 5 by decide), (kE hY rfl)⟩ (fun o => by cases o <;> rfl) (fun o => by cases o <;> rfl) d_M_init_33 hf (fun μ16 hf => ?_)
  refine j_aload_n C d_M_init_36 0 rfl ?_
  refine j_bipush (v := 40) C d_M_init_37 (by decide) ?_
  refine g_newI (N := 40) (n1 := 6) C hA hY.2.2 (kE hY rfl) (lE hY rfl) wd_253 (by decide) (by decide) (Nat.le_of_ble_eq_true rfl) (Nat.le_of_ble_eq_true rfl) (Nat.le_of_ble_eq_true rfl) rfl d_M_init_39 hf (fun ad18 μ17 h19 hf => ?_)
  rw [← h19 0 (by decide)]
  have hag : ∀ a, a < 1 → ad18 a = yad Y a := fun a h => (h19 a (by omega)).trans (hag a h)
  have C := cx_y (Y' := Y) (ad' := ad18) (n' := 6) C
  refine g_pRF (b := 5) C hnm fl_M_22 rfl (kE hY rfl) (show 0 < 6 by decide) rfl hY.2.2 ⟨(show 5 < 6 by decide), (kE hY rfl)⟩ (fun o => by cases o <;> rfl) (fun o => by cases o <;> rfl) d_M_init_41 hf (fun μ20 hf => ?_)
  refine j_aload_n C d_M_init_44 0 rfl ?_
  refine j_bipush (v := 40) C d_M_init_45 (by decide) ?_
  refine g_newI (N := 40) (n1 := 7) C hA hY.2.2 (kE hY rfl) (lE hY rfl) wd_253 (by decide) (by decide) (Nat.le_of_ble_eq_true rfl) (Nat.le_of_ble_eq_true rfl) (Nat.le_of_ble_eq_true rfl) rfl d_M_init_47 hf (fun ad22 μ21 h23 hf => ?_)
  rw [← h23 0 (by decide)]
  have hag : ∀ a, a < 1 → ad22 a = yad Y a := fun a h => (h23 a (by omega)).trans (hag a h)
  have C := cx_y (Y' := Y) (ad' := ad22) (n' := 7) C
  refine g_pRF (b := 6) C hnm fl_M_25 rfl (kE hY rfl) (show 0 < 7 by decide) rfl hY.2.2 ⟨(show 6 < 7 by decide), (kE hY rfl)⟩ (fun o => by cases o <;> rfl) (fun o => by cases o <;> rfl) d_M_init_49 hf (fun μ24 hf => ?_)
  refine j_aload_n C d_M_init_52 0 rfl ?_
  refine j_bipush (v := 40) C d_M_init_53 (by decide) ?_
  refine g_newI (N := 40) (n1 := 8) C hA hY.2.2 (kE hY rfl) (lE hY rfl) wd_253 (by decide) (by decide) (Nat.le_of_ble_eq_true rfl) (Nat.le_of_ble_eq_true rfl) (Nat.le_of_ble_eq_true rfl) rfl d_M_init_55 hf (fun ad26 μ25 h27 hf => ?_)
  rw [← h27 0 (by decide)]
  have hag : ∀ a, a < 1 → ad26 a = yad Y a := fun a h => (h27 a (by omega)).trans (hag a h)
  have C := cx_y (Y' := Y) (ad' := ad26) (n' := 8) C
  refine g_pRF (b := 7) C hnm fl_M_28 rfl (kE hY rfl) (show 0 < 8 by decide) rfl hY.2.2 ⟨(show 7 < 8 by decide), (kE hY rfl)⟩ (fun o => by cases o <;> rfl) (fun o => by cases o <;> rfl) d_M_init_57 hf (fun μ28 hf => ?_)
  refine j_aload_n C d_M_init_60 0 rfl ?_
  refine j_bipush (v := 8) C d_M_init_61 (by decide) ?_
  refine g_newI (N := 8) (n1 := 9) C hA hY.2.2 (kE hY rfl) (lE hY rfl) wd_253 (by decide) (by decide) (Nat.le_of_ble_eq_true rfl) (Nat.le_of_ble_eq_true rfl) (Nat.le_of_ble_eq_true rfl) rfl d_M_init_63 hf (fun ad30 μ29 h31 hf => ?_)
  rw [← h31 0 (by decide)]
  have hag : ∀ a, a < 1 → ad30 a = yad Y a := fun a h => (h31 a (by omega)).trans (hag a h)
  have C := cx_y (Y' := Y) (ad' := ad30) (n' := 9) C
  refine g_pRF (b := 8) C hnm fl_M_31 rfl (kE hY rfl) (show 0 < 9 by decide) rfl hY.2.2 ⟨(show 8 < 9 by decide), (kE hY rfl)⟩ (fun o => by cases o <;> rfl) (fun o => by cases o <;> rfl) d_M_init_65 hf (fun μ32 hf => ?_)
  refine j_aload_n C d_M_init_68 0 rfl ?_
  refine j_bipush (v := 12) C d_M_init_69 (by decide) ?_
  refine j_pI C fl_M_34 (kE hY rfl) (show 0 < 9 by decide) rfl rfl rfl d_M_init_71 hf (fun μ33 hf => ?_)
  refine j_aload_n C d_M_init_74 0 rfl ?_
  refine j_iconst (v := 4) C d_M_init_75 (by decide) ?_
  refine j_pI C fl_M_38 (kE hY rfl) (show 0 < 9 by decide) rfl rfl rfl d_M_init_76 hf (fun μ34 hf => ?_)
  refine j_aload_n C d_M_init_79 0 rfl ?_
  refine j_bipush (v := 24) C d_M_init_80 (by decide) ?_
  refine g_newI (N := 24) (n1 := 10) C hA hY.2.2 (kE hY rfl) (lE hY rfl) wd_253 (by decide) (by decide) (Nat.le_of_ble_eq_true rfl) (Nat.le_of_ble_eq_true rfl) (Nat.le_of_ble_eq_true rfl) rfl d_M_init_82 hf (fun ad36 μ35 h37 hf => ?_)
  rw [← h37 0 (by decide)]
  have hag : ∀ a, a < 1 → ad36 a = yad Y a := fun a h => (h37 a (by omega)).trans (hag a h)
  have C := cx_y (Y' := Y) (ad' := ad36) (n' := 10) C
  refine g_pRF (b := 9) C hnm fl_M_41 rfl (kE hY rfl) (show 0 < 10 by decide) rfl hY.2.2 ⟨(show 9 < 10 by decide), (kE hY rfl)⟩ (fun o => by cases o <;> rfl) (fun o => by cases o <;> rfl) d_M_init_84 hf (fun μ38 hf => ?_)
  refine j_aload_n C d_M_init_87 0 rfl ?_
  refine j_bipush (v := 24) C d_M_init_88 (by decide) ?_
  refine g_newI (N := 24) (n1 := 11) C hA hY.2.2 (kE hY rfl) (lE hY rfl) wd_253 (by decide) (by decide) (Nat.le_of_ble_eq_true rfl) (Nat.le_of_ble_eq_true rfl) (Nat.le_of_ble_eq_true rfl) rfl d_M_init_90 hf (fun ad40 μ39 h41 hf => ?_)
  rw [← h41 0 (by decide)]
  have hag : ∀ a, a < 1 → ad40 a = yad Y a := fun a h => (h41 a (by omega)).trans (hag a h)
  have C := cx_y (Y' := Y) (ad' := ad40) (n' := 11) C
  refine g_pRF (b := 10) C hnm fl_M_44 rfl (kE hY rfl) (show 0 < 11 by decide) rfl hY.2.2 ⟨(show 10 < 11 by decide), (kE hY rfl)⟩ (fun o => by cases o <;> rfl) (fun o => by cases o <;> rfl) d_M_init_92 hf (fun μ42 hf => ?_)
  refine j_aload_n C d_M_init_95 0 rfl ?_
  refine j_bipush (v := 24) C d_M_init_96 (by decide) ?_
  refine g_newI (N := 24) (n1 := 12) C hA hY.2.2 (kE hY rfl) (lE hY rfl) wd_253 (by decide) (by decide) (Nat.le_of_ble_eq_true rfl) (Nat.le_of_ble_eq_true rfl) (Nat.le_of_ble_eq_true rfl) rfl d_M_init_98 hf (fun ad44 μ43 h45 hf => ?_)
  rw [← h45 0 (by decide)]
  have hag : ∀ a, a < 1 → ad44 a = yad Y a := fun a h => (h45 a (by omega)).trans (hag a h)
  have C := cx_y (Y' := Y) (ad' := ad44) (n' := 12) C
  refine g_pRF (b := 11) C hnm fl_M_47 rfl (kE hY rfl) (show 0 < 12 by decide) rfl hY.2.2 ⟨(show 11 < 12 by decide), (kE hY rfl)⟩ (fun o => by cases o <;> rfl) (fun o => by cases o <;> rfl) d_M_init_100 hf (fun μ46 hf => ?_)
  refine j_aload_n C d_M_init_103 0 rfl ?_
  refine j_iconst (v := 4) C d_M_init_104 (by decide) ?_
  refine g_newI (N := 4) (n1 := 13) C hA hY.2.2 (kE hY rfl) (lE hY rfl) wd_253 (by decide) (by decide) (Nat.le_of_ble_eq_true rfl) (Nat.le_of_ble_eq_true rfl) (Nat.le_of_ble_eq_true rfl) rfl d_M_init_105 hf (fun ad48 μ47 h49 hf => ?_)
  rw [← h49 0 (by decide)]
  have hag : ∀ a, a < 1 → ad48 a = yad Y a := fun a h => (h49 a (by omega)).trans (hag a h)
  have C := cx_y (Y' := Y) (ad' := ad48) (n' := 13) C
  refine g_pRF (b := 12) C hnm fl_M_50 rfl (kE hY rfl) (show 0 < 13 by decide) rfl hY.2.2 ⟨(show 12 < 13 by decide), (kE hY rfl)⟩ (fun o => by cases o <;> rfl) (fun o => by cases o <;> rfl) d_M_init_107 hf (fun μ50 hf => ?_)
  refine j_aload_n C d_M_init_110 0 rfl ?_
  refine j_iconst (v := 4) C d_M_init_111 (by decide) ?_
  refine g_newI (N := 4) (n1 := 14) C hA hY.2.2 (kE hY rfl) (lE hY rfl) wd_253 (by decide) (by decide) (Nat.le_of_ble_eq_true rfl) (Nat.le_of_ble_eq_true rfl) (Nat.le_of_ble_eq_true rfl) rfl d_M_init_112 hf (fun ad52 μ51 h53 hf => ?_)
  rw [← h53 0 (by decide)]
  have hag : ∀ a, a < 1 → ad52 a = yad Y a := fun a h => (h53 a (by omega)).trans (hag a h)
  have C := cx_y (Y' := Y) (ad' := ad52) (n' := 14) C
  refine g_pRF (b := 13) C hnm fl_M_53 rfl (kE hY rfl) (show 0 < 14 by decide) rfl hY.2.2 ⟨(show 13 < 14 by decide), (kE hY rfl)⟩ (fun o => by cases o <;> rfl) (fun o => by cases o <;> rfl) d_M_init_114 hf (fun μ54 hf => ?_)
  refine j_aload_n C d_M_init_117 0 rfl ?_
  refine j_iconst (v := 4) C d_M_init_118 (by decide) ?_
  refine g_newI (N := 4) (n1 := 15) C hA hY.2.2 (kE hY rfl) (lE hY rfl) wd_253 (by decide) (by decide) (Nat.le_of_ble_eq_true rfl) (Nat.le_of_ble_eq_true rfl) (Nat.le_of_ble_eq_true rfl) rfl d_M_init_119 hf (fun ad56 μ55 h57 hf => ?_)
  rw [← h57 0 (by decide)]
  have hag : ∀ a, a < 1 → ad56 a = yad Y a := fun a h => (h57 a (by omega)).trans (hag a h)
  have C := cx_y (Y' := Y) (ad' := ad56) (n' := 15) C
  refine g_pRF (b := 14) C hnm fl_M_56 rfl (kE hY rfl) (show 0 < 15 by decide) rfl hY.2.2 ⟨(show 14 < 15 by decide), (kE hY rfl)⟩ (fun o => by cases o <;> rfl) (fun o => by cases o <;> rfl) d_M_init_121 hf (fun μ58 hf => ?_)
  refine j_aload_n C d_M_init_124 0 rfl ?_
  refine j_iconst (v := 4) C d_M_init_125 (by decide) ?_
  refine g_newI (N := 4) (n1 := 16) C hA hY.2.2 (kE hY rfl) (lE hY rfl) wd_253 (by decide) (by decide) (Nat.le_of_ble_eq_true rfl) (Nat.le_of_ble_eq_true rfl) (Nat.le_of_ble_eq_true rfl) rfl d_M_init_126 hf (fun ad60 μ59 h61 hf => ?_)
  rw [← h61 0 (by decide)]
  have hag : ∀ a, a < 1 → ad60 a = yad Y a := fun a h => (h61 a (by omega)).trans (hag a h)
  have C := cx_y (Y' := Y) (ad' := ad60) (n' := 16) C
  refine g_pRF (b := 15) C hnm fl_M_59 rfl (kE hY rfl) (show 0 < 16 by decide) rfl hY.2.2 ⟨(show 15 < 16 by decide), (kE hY rfl)⟩ (fun o => by cases o <;> rfl) (fun o => by cases o <;> rfl) d_M_init_128 hf (fun μ62 hf => ?_)
  refine j_aload_n C d_M_init_131 0 rfl ?_
  refine j_iconst (v := 4) C d_M_init_132 (by decide) ?_
  refine g_newI (N := 4) (n1 := 17) C hA hY.2.2 (kE hY rfl) (lE hY rfl) wd_253 (by decide) (by decide) (Nat.le_of_ble_eq_true rfl) (Nat.le_of_ble_eq_true rfl) (Nat.le_of_ble_eq_true rfl) rfl d_M_init_133 hf (fun ad64 μ63 h65 hf => ?_)
  rw [← h65 0 (by decide)]
  have hag : ∀ a, a < 1 → ad64 a = yad Y a := fun a h => (h65 a (by omega)).trans (hag a h)
  have C := cx_y (Y' := Y) (ad' := ad64) (n' := 17) C
  refine g_pRF (b := 16) C hnm fl_M_62 rfl (kE hY rfl) (show 0 < 17 by decide) rfl hY.2.2 ⟨(show 16 < 17 by decide), (kE hY rfl)⟩ (fun o => by cases o <;> rfl) (fun o => by cases o <;> rfl) d_M_init_135 hf (fun μ66 hf => ?_)
  refine j_aload_n C d_M_init_138 0 rfl ?_
  refine j_bipush (v := 8) C d_M_init_139 (by decide) ?_
  refine g_newI (N := 8) (n1 := 18) C hA hY.2.2 (kE hY rfl) (lE hY rfl) wd_253 (by decide) (by decide) (Nat.le_of_ble_eq_true rfl) (Nat.le_of_ble_eq_true rfl) (Nat.le_of_ble_eq_true rfl) rfl d_M_init_141 hf (fun ad68 μ67 h69 hf => ?_)
  rw [← h69 0 (by decide)]
  have hag : ∀ a, a < 1 → ad68 a = yad Y a := fun a h => (h69 a (by omega)).trans (hag a h)
  have C := cx_y (Y' := Y) (ad' := ad68) (n' := 18) C
  refine g_pRF (b := 17) C hnm fl_M_65 rfl (kE hY rfl) (show 0 < 18 by decide) rfl hY.2.2 ⟨(show 17 < 18 by decide), (kE hY rfl)⟩ (fun o => by cases o <;> rfl) (fun o => by cases o <;> rfl) d_M_init_143 hf (fun μ70 hf => ?_)
  refine j_aload_n C d_M_init_146 0 rfl ?_
  refine j_bipush (v := 8) C d_M_init_147 (by decide) ?_
  refine g_newI (N := 8) (n1 := 19) C hA hY.2.2 (kE hY rfl) (lE hY rfl) wd_253 (by decide) (by decide) (Nat.le_of_ble_eq_true rfl) (Nat.le_of_ble_eq_true rfl) (Nat.le_of_ble_eq_true rfl) rfl d_M_init_149 hf (fun ad72 μ71 h73 hf => ?_)
  rw [← h73 0 (by decide)]
  have hag : ∀ a, a < 1 → ad72 a = yad Y a := fun a h => (h73 a (by omega)).trans (hag a h)
  have C := cx_y (Y' := Y) (ad' := ad72) (n' := 19) C
  refine g_pRF (b := 18) C hnm fl_M_68 rfl (kE hY rfl) (show 0 < 19 by decide) rfl hY.2.2 ⟨(show 18 < 19 by decide), (kE hY rfl)⟩ (fun o => by cases o <;> rfl) (fun o => by cases o <;> rfl) d_M_init_151 hf (fun μ74 hf => ?_)
  refine j_aload_n C d_M_init_154 0 rfl ?_
  refine j_bipush (v := 8) C d_M_init_155 (by decide) ?_
  refine g_newI (N := 8) (n1 := 20) C hA hY.2.2 (kE hY rfl) (lE hY rfl) wd_253 (by decide) (by decide) (Nat.le_of_ble_eq_true rfl) (Nat.le_of_ble_eq_true rfl) (Nat.le_of_ble_eq_true rfl) rfl d_M_init_157 hf (fun ad76 μ75 h77 hf => ?_)
  rw [← h77 0 (by decide)]
  have hag : ∀ a, a < 1 → ad76 a = yad Y a := fun a h => (h77 a (by omega)).trans (hag a h)
  have C := cx_y (Y' := Y) (ad' := ad76) (n' := 20) C
  refine g_pRF (b := 19) C hnm fl_M_71 rfl (kE hY rfl) (show 0 < 20 by decide) rfl hY.2.2 ⟨(show 19 < 20 by decide), (kE hY rfl)⟩ (fun o => by cases o <;> rfl) (fun o => by cases o <;> rfl) d_M_init_159 hf (fun μ78 hf => ?_)
  refine j_aload_n C d_M_init_162 0 rfl ?_
  refine j_iconst (v := 4) C d_M_init_163 (by decide) ?_
  refine g_newI (N := 4) (n1 := 21) C hA hY.2.2 (kE hY rfl) (lE hY rfl) wd_253 (by decide) (by decide) (Nat.le_of_ble_eq_true rfl) (Nat.le_of_ble_eq_true rfl) (Nat.le_of_ble_eq_true rfl) rfl d_M_init_164 hf (fun ad80 μ79 h81 hf => ?_)
  rw [← h81 0 (by decide)]
  have hag : ∀ a, a < 1 → ad80 a = yad Y a := fun a h => (h81 a (by omega)).trans (hag a h)
  have C := cx_y (Y' := Y) (ad' := ad80) (n' := 21) C
  refine g_pRF (b := 20) C hnm fl_M_74 rfl (kE hY rfl) (show 0 < 21 by decide) rfl hY.2.2 ⟨(show 20 < 21 by decide), (kE hY rfl)⟩ (fun o => by cases o <;> rfl) (fun o => by cases o <;> rfl) d_M_init_166 hf (fun μ82 hf => ?_)
  refine j_aload_n C d_M_init_169 0 rfl ?_
  refine j_iconst (v := 4) C d_M_init_170 (by decide) ?_
  refine g_newJ (N := 4) (n1 := 22) C hA hY.2.2 (kE hY rfl) (lE hY rfl) wd_277 (by decide) (by decide) (Nat.le_of_ble_eq_true rfl) (Nat.le_of_ble_eq_true rfl) (Nat.le_of_ble_eq_true rfl) rfl d_M_init_171 hf (fun ad84 μ83 h85 hf => ?_)
  rw [← h85 0 (by decide)]
  have hag : ∀ a, a < 1 → ad84 a = yad Y a := fun a h => (h85 a (by omega)).trans (hag a h)
  have C := cx_y (Y' := Y) (ad' := ad84) (n' := 22) C
  refine g_pRF (b := 21) C hnm fl_M_77 rfl (kE hY rfl) (show 0 < 22 by decide) rfl hY.2.2 ⟨(show 21 < 22 by decide), (kE hY rfl)⟩ (fun o => by cases o <;> rfl) (fun o => by cases o <;> rfl) d_M_init_173 hf (fun μ86 hf => ?_)
  refine j_aload_n C d_M_init_176 0 rfl ?_
  refine j_iconst (v := 4) C d_M_init_177 (by decide) ?_
  refine g_newJ (N := 4) (n1 := 23) C hA hY.2.2 (kE hY rfl) (lE hY rfl) wd_277 (by decide) (by decide) (Nat.le_of_ble_eq_true rfl) (Nat.le_of_ble_eq_true rfl) (Nat.le_of_ble_eq_true rfl) rfl d_M_init_178 hf (fun ad88 μ87 h89 hf => ?_)
  rw [← h89 0 (by decide)]
  have hag : ∀ a, a < 1 → ad88 a = yad Y a := fun a h => (h89 a (by omega)).trans (hag a h)
  have C := cx_y (Y' := Y) (ad' := ad88) (n' := 23) C
  refine g_pRF (b := 22) C hnm fl_M_81 rfl (kE hY rfl) (show 0 < 23 by decide) rfl hY.2.2 ⟨(show 22 < 23 by decide), (kE hY rfl)⟩ (fun o => by cases o <;> rfl) (fun o => by cases o <;> rfl) d_M_init_180 hf (fun μ90 hf => ?_)
  refine j_aload_n C d_M_init_183 0 rfl ?_
  refine j_iconst (v := 4) C d_M_init_184 (by decide) ?_
  refine g_newI (N := 4) (n1 := 24) C hA hY.2.2 (kE hY rfl) (lE hY rfl) wd_253 (by decide) (by decide) (Nat.le_of_ble_eq_true rfl) (Nat.le_of_ble_eq_true rfl) (Nat.le_of_ble_eq_true rfl) rfl d_M_init_185 hf (fun ad92 μ91 h93 hf => ?_)
  rw [← h93 0 (by decide)]
  have hag : ∀ a, a < 1 → ad92 a = yad Y a := fun a h => (h93 a (by omega)).trans (hag a h)
  have C := cx_y (Y' := Y) (ad' := ad92) (n' := 24) C
  refine g_pRF (b := 23) C hnm fl_M_84 rfl (kE hY rfl) (show 0 < 24 by decide) rfl hY.2.2 ⟨(show 23 < 24 by decide), (kE hY rfl)⟩ (fun o => by cases o <;> rfl) (fun o => by cases o <;> rfl) d_M_init_187 hf (fun μ94 hf => ?_)
  refine j_aload_n C d_M_init_190 0 rfl ?_
  refine j_iconst (v := 4) C d_M_init_191 (by decide) ?_
  refine g_newJ (N := 4) (n1 := 25) C hA hY.2.2 (kE hY rfl) (lE hY rfl) wd_277 (by decide) (by decide) (Nat.le_of_ble_eq_true rfl) (Nat.le_of_ble_eq_true rfl) (Nat.le_of_ble_eq_true rfl) rfl d_M_init_192 hf (fun ad96 μ95 h97 hf => ?_)
  rw [← h97 0 (by decide)]
  have hag : ∀ a, a < 1 → ad96 a = yad Y a := fun a h => (h97 a (by omega)).trans (hag a h)
  have C := cx_y (Y' := Y) (ad' := ad96) (n' := 25) C
  refine g_pRF (b := 24) C hnm fl_M_87 rfl (kE hY rfl) (show 0 < 25 by decide) rfl hY.2.2 ⟨(show 24 < 25 by decide), (kE hY rfl)⟩ (fun o => by cases o <;> rfl) (fun o => by cases o <;> rfl) d_M_init_194 hf (fun μ98 hf => ?_)
  refine j_aload_n C d_M_init_197 0 rfl ?_
  refine j_iconst (v := 4) C d_M_init_198 (by decide) ?_
  refine g_newJ (N := 4) (n1 := 26) C hA hY.2.2 (kE hY rfl) (lE hY rfl) wd_277 (by decide) (by decide) (Nat.le_of_ble_eq_true rfl) (Nat.le_of_ble_eq_true rfl) (Nat.le_of_ble_eq_true rfl) rfl d_M_init_199 hf (fun ad100 μ99 h101 hf => ?_)
  rw [← h101 0 (by decide)]
  have hag : ∀ a, a < 1 → ad100 a = yad Y a := fun a h => (h101 a (by omega)).trans (hag a h)
  have C := cx_y (Y' := Y) (ad' := ad100) (n' := 26) C
  refine g_pRF (b := 25) C hnm fl_M_90 rfl (kE hY rfl) (show 0 < 26 by decide) rfl hY.2.2 ⟨(show 25 < 26 by decide), (kE hY rfl)⟩ (fun o => by cases o <;> rfl) (fun o => by cases o <;> rfl) d_M_init_201 hf (fun μ102 hf => ?_)
  refine j_aload_n C d_M_init_204 0 rfl ?_
  refine j_iconst (v := 4) C d_M_init_205 (by decide) ?_
  refine g_newI (N := 4) (n1 := 27) C hA hY.2.2 (kE hY rfl) (lE hY rfl) wd_253 (by decide) (by decide) (Nat.le_of_ble_eq_true rfl) (Nat.le_of_ble_eq_true rfl) (Nat.le_of_ble_eq_true rfl) rfl d_M_init_206 hf (fun ad104 μ103 h105 hf => ?_)
  rw [← h105 0 (by decide)]
  have hag : ∀ a, a < 1 → ad104 a = yad Y a := fun a h => (h105 a (by omega)).trans (hag a h)
  have C := cx_y (Y' := Y) (ad' := ad104) (n' := 27) C
  refine g_pRF (b := 26) C hnm fl_M_93 rfl (kE hY rfl) (show 0 < 27 by decide) rfl hY.2.2 ⟨(show 26 < 27 by decide), (kE hY rfl)⟩ (fun o => by cases o <;> rfl) (fun o => by cases o <;> rfl) d_M_init_208 hf (fun μ106 hf => ?_)
  refine j_aload_n C d_M_init_211 0 rfl ?_
  refine j_iconst (v := 4) C d_M_init_212 (by decide) ?_
  refine g_newI (N := 4) (n1 := 28) C hA hY.2.2 (kE hY rfl) (lE hY rfl) wd_253 (by decide) (by decide) (Nat.le_of_ble_eq_true rfl) (Nat.le_of_ble_eq_true rfl) (Nat.le_of_ble_eq_true rfl) rfl d_M_init_213 hf (fun ad108 μ107 h109 hf => ?_)
  rw [← h109 0 (by decide)]
  have hag : ∀ a, a < 1 → ad108 a = yad Y a := fun a h => (h109 a (by omega)).trans (hag a h)
  have C := cx_y (Y' := Y) (ad' := ad108) (n' := 28) C
  refine g_pRF (b := 27) C hnm fl_M_96 rfl (kE hY rfl) (show 0 < 28 by decide) rfl hY.2.2 ⟨(show 27 < 28 by decide), (kE hY rfl)⟩ (fun o => by cases o <;> rfl) (fun o => by cases o <;> rfl) d_M_init_215 hf (fun μ110 hf => ?_)
  refine j_aload_n C d_M_init_218 0 rfl ?_
  refine j_iconst (v := 4) C d_M_init_219 (by decide) ?_
  refine g_newI (N := 4) (n1 := 29) C hA hY.2.2 (kE hY rfl) (lE hY rfl) wd_253 (by decide) (by decide) (Nat.le_of_ble_eq_true rfl) (Nat.le_of_ble_eq_true rfl) (Nat.le_of_ble_eq_true rfl) rfl d_M_init_220 hf (fun ad112 μ111 h113 hf => ?_)
  rw [← h113 0 (by decide)]
  have hag : ∀ a, a < 1 → ad112 a = yad Y a := fun a h => (h113 a (by omega)).trans (hag a h)
  have C := cx_y (Y' := Y) (ad' := ad112) (n' := 29) C
  refine g_pRF (b := 28) C hnm fl_M_99 rfl (kE hY rfl) (show 0 < 29 by decide) rfl hY.2.2 ⟨(show 28 < 29 by decide), (kE hY rfl)⟩ (fun o => by cases o <;> rfl) (fun o => by cases o <;> rfl) d_M_init_222 hf (fun μ114 hf => ?_)
  refine j_aload_n C d_M_init_225 0 rfl ?_
  refine j_iconst (v := 4) C d_M_init_226 (by decide) ?_
  refine g_newI (N := 4) (n1 := 30) C hA hY.2.2 (kE hY rfl) (lE hY rfl) wd_253 (by decide) (by decide) (Nat.le_of_ble_eq_true rfl) (Nat.le_of_ble_eq_true rfl) (Nat.le_of_ble_eq_true rfl) rfl d_M_init_227 hf (fun ad116 μ115 h117 hf => ?_)
  rw [← h117 0 (by decide)]
  have hag : ∀ a, a < 1 → ad116 a = yad Y a := fun a h => (h117 a (by omega)).trans (hag a h)
  have C := cx_y (Y' := Y) (ad' := ad116) (n' := 30) C
  refine g_pRF (b := 29) C hnm fl_M_102 rfl (kE hY rfl) (show 0 < 30 by decide) rfl hY.2.2 ⟨(show 29 < 30 by decide), (kE hY rfl)⟩ (fun o => by cases o <;> rfl) (fun o => by cases o <;> rfl) d_M_init_229 hf (fun μ118 hf => ?_)
  refine j_aload_n C d_M_init_232 0 rfl ?_
  refine j_iconst (v := 4) C d_M_init_233 (by decide) ?_
  refine g_newI (N := 4) (n1 := 31) C hA hY.2.2 (kE hY rfl) (lE hY rfl) wd_253 (by decide) (by decide) (Nat.le_of_ble_eq_true rfl) (Nat.le_of_ble_eq_true rfl) (Nat.le_of_ble_eq_true rfl) rfl d_M_init_234 hf (fun ad120 μ119 h121 hf => ?_)
  rw [← h121 0 (by decide)]
  have hag : ∀ a, a < 1 → ad120 a = yad Y a := fun a h => (h121 a (by omega)).trans (hag a h)
  have C := cx_y (Y' := Y) (ad' := ad120) (n' := 31) C
  refine g_pRF (b := 30) C hnm fl_M_105 rfl (kE hY rfl) (show 0 < 31 by decide) rfl hY.2.2 ⟨(show 30 < 31 by decide), (kE hY rfl)⟩ (fun o => by cases o <;> rfl) (fun o => by cases o <;> rfl) d_M_init_236 hf (fun μ122 hf => ?_)
  refine j_aload_n C d_M_init_239 0 rfl ?_
  refine j_bipush (v := 16) C d_M_init_240 (by decide) ?_
  refine g_newI (N := 16) (n1 := 32) C hA hY.2.2 (kE hY rfl) (lE hY rfl) wd_253 (by decide) (by decide) (Nat.le_of_ble_eq_true rfl) (Nat.le_of_ble_eq_true rfl) (Nat.le_of_ble_eq_true rfl) rfl d_M_init_242 hf (fun ad124 μ123 h125 hf => ?_)
  rw [← h125 0 (by decide)]
  have hag : ∀ a, a < 1 → ad124 a = yad Y a := fun a h => (h125 a (by omega)).trans (hag a h)
  have C := cx_y (Y' := Y) (ad' := ad124) (n' := 32) C
  refine g_pRF (b := 31) C hnm fl_M_108 rfl (kE hY rfl) (show 0 < 32 by decide) rfl hY.2.2 ⟨(show 31 < 32 by decide), (kE hY rfl)⟩ (fun o => by cases o <;> rfl) (fun o => by cases o <;> rfl) d_M_init_244 hf (fun μ126 hf => ?_)
  refine j_aload_n C d_M_init_247 0 rfl ?_
  refine j_bipush (v := 16) C d_M_init_248 (by decide) ?_
  refine g_newJ (N := 16) (n1 := 33) C hA hY.2.2 (kE hY rfl) (lE hY rfl) wd_277 (by decide) (by decide) (Nat.le_of_ble_eq_true rfl) (Nat.le_of_ble_eq_true rfl) (Nat.le_of_ble_eq_true rfl) rfl d_M_init_250 hf (fun ad128 μ127 h129 hf => ?_)
  rw [← h129 0 (by decide)]
  have hag : ∀ a, a < 1 → ad128 a = yad Y a := fun a h => (h129 a (by omega)).trans (hag a h)
  have C := cx_y (Y' := Y) (ad' := ad128) (n' := 33) C
  refine g_pRF (b := 32) C hnm fl_M_111 rfl (kE hY rfl) (show 0 < 33 by decide) rfl hY.2.2 ⟨(show 32 < 33 by decide), (kE hY rfl)⟩ (fun o => by cases o <;> rfl) (fun o => by cases o <;> rfl) d_M_init_252 hf (fun μ130 hf => ?_)
  refine j_aload_n C d_M_init_255 0 rfl ?_
  refine j_bipush (v := 16) C d_M_init_256 (by decide) ?_
  refine g_newJ (N := 16) (n1 := 34) C hA hY.2.2 (kE hY rfl) (lE hY rfl) wd_277 (by decide) (by decide) (Nat.le_of_ble_eq_true rfl) (Nat.le_of_ble_eq_true rfl) (Nat.le_of_ble_eq_true rfl) rfl d_M_init_258 hf (fun ad132 μ131 h133 hf => ?_)
  rw [← h133 0 (by decide)]
  have hag : ∀ a, a < 1 → ad132 a = yad Y a := fun a h => (h133 a (by omega)).trans (hag a h)
  have C := cx_y (Y' := Y) (ad' := ad132) (n' := 34) C
  refine g_pRF (b := 33) C hnm fl_M_114 rfl (kE hY rfl) (show 0 < 34 by decide) rfl hY.2.2 ⟨(show 33 < 34 by decide), (kE hY rfl)⟩ (fun o => by cases o <;> rfl) (fun o => by cases o <;> rfl) d_M_init_260 hf (fun μ134 hf => ?_)
  refine j_aload_n C d_M_init_263 0 rfl ?_
  refine j_iconst (v := 4) C d_M_init_264 (by decide) ?_
  refine g_newJ (N := 4) (n1 := 35) C hA hY.2.2 (kE hY rfl) (lE hY rfl) wd_277 (by decide) (by decide) (Nat.le_of_ble_eq_true rfl) (Nat.le_of_ble_eq_true rfl) (Nat.le_of_ble_eq_true rfl) rfl d_M_init_265 hf (fun ad136 μ135 h137 hf => ?_)
  rw [← h137 0 (by decide)]
  have hag : ∀ a, a < 1 → ad136 a = yad Y a := fun a h => (h137 a (by omega)).trans (hag a h)
  have C := cx_y (Y' := Y) (ad' := ad136) (n' := 35) C
  refine g_pRF (b := 34) C hnm fl_M_117 rfl (kE hY rfl) (show 0 < 35 by decide) rfl hY.2.2 ⟨(show 34 < 35 by decide), (kE hY rfl)⟩ (fun o => by cases o <;> rfl) (fun o => by cases o <;> rfl) d_M_init_267 hf (fun μ138 hf => ?_)
  refine j_aload_n C d_M_init_270 0 rfl ?_
  refine j_iconst (v := 4) C d_M_init_271 (by decide) ?_
  refine g_newJ (N := 4) (n1 := 36) C hA hY.2.2 (kE hY rfl) (lE hY rfl) wd_277 (by decide) (by decide) (Nat.le_of_ble_eq_true rfl) (Nat.le_of_ble_eq_true rfl) (Nat.le_of_ble_eq_true rfl) rfl d_M_init_272 hf (fun ad140 μ139 h141 hf => ?_)
  rw [← h141 0 (by decide)]
  have hag : ∀ a, a < 1 → ad140 a = yad Y a := fun a h => (h141 a (by omega)).trans (hag a h)
  have C := cx_y (Y' := Y) (ad' := ad140) (n' := 36) C
  refine g_pRF (b := 35) C hnm fl_M_120 rfl (kE hY rfl) (show 0 < 36 by decide) rfl hY.2.2 ⟨(show 35 < 36 by decide), (kE hY rfl)⟩ (fun o => by cases o <;> rfl) (fun o => by cases o <;> rfl) d_M_init_274 hf (fun μ142 hf => ?_)
  refine j_aload_n C d_M_init_277 0 rfl ?_
  refine j_bipush (v := 40) C d_M_init_278 (by decide) ?_
  refine g_newI (N := 40) (n1 := 37) C hA hY.2.2 (kE hY rfl) (lE hY rfl) wd_253 (by decide) (by decide) (Nat.le_of_ble_eq_true rfl) (Nat.le_of_ble_eq_true rfl) (Nat.le_of_ble_eq_true rfl) rfl d_M_init_280 hf (fun ad144 μ143 h145 hf => ?_)
  rw [← h145 0 (by decide)]
  have hag : ∀ a, a < 1 → ad144 a = yad Y a := fun a h => (h145 a (by omega)).trans (hag a h)
  have C := cx_y (Y' := Y) (ad' := ad144) (n' := 37) C
  refine g_pRF (b := 36) C hnm fl_M_123 rfl (kE hY rfl) (show 0 < 37 by decide) rfl hY.2.2 ⟨(show 36 < 37 by decide), (kE hY rfl)⟩ (fun o => by cases o <;> rfl) (fun o => by cases o <;> rfl) d_M_init_282 hf (fun μ146 hf => ?_)
  refine j_aload_n C d_M_init_285 0 rfl ?_
  refine j_bipush (v := 40) C d_M_init_286 (by decide) ?_
  refine g_newI (N := 40) (n1 := 38) C hA hY.2.2 (kE hY rfl) (lE hY rfl) wd_253 (by decide) (by decide) (Nat.le_of_ble_eq_true rfl) (Nat.le_of_ble_eq_true rfl) (Nat.le_of_ble_eq_true rfl) rfl d_M_init_288 hf (fun ad148 μ147 h149 hf => ?_)
  rw [← h149 0 (by decide)]
  have hag : ∀ a, a < 1 → ad148 a = yad Y a := fun a h => (h149 a (by omega)).trans (hag a h)
  have C := cx_y (Y' := Y) (ad' := ad148) (n' := 38) C
  refine g_pRF (b := 37) C hnm fl_M_126 rfl (kE hY rfl) (show 0 < 38 by decide) rfl hY.2.2 ⟨(show 37 < 38 by decide), (kE hY rfl)⟩ (fun o => by cases o <;> rfl) (fun o => by cases o <;> rfl) d_M_init_290 hf (fun μ150 hf => ?_)
  refine j_aload_n C d_M_init_293 0 rfl ?_
  refine j_bipush (v := 40) C d_M_init_294 (by decide) ?_
  refine g_newI (N := 40) (n1 := 39) C hA hY.2.2 (kE hY rfl) (lE hY rfl) wd_253 (by decide) (by decide) (Nat.le_of_ble_eq_true rfl) (Nat.le_of_ble_eq_true rfl) (Nat.le_of_ble_eq_true rfl) rfl d_M_init_296 hf (fun ad152 μ151 h153 hf => ?_)
  rw [← h153 0 (by decide)]
  have hag : ∀ a, a < 1 → ad152 a = yad Y a := fun a h => (h153 a (by omega)).trans (hag a h)
  have C := cx_y (Y' := Y) (ad' := ad152) (n' := 39) C
  refine g_pRF (b := 38) C hnm fl_M_129 rfl (kE hY rfl) (show 0 < 39 by decide) rfl hY.2.2 ⟨(show 38 < 39 by decide), (kE hY rfl)⟩ (fun o => by cases o <;> rfl) (fun o => by cases o <;> rfl) d_M_init_298 hf (fun μ154 hf => ?_)
  refine j_aload_n C d_M_init_301 0 rfl ?_
  refine j_bipush (v := 40) C d_M_init_302 (by decide) ?_
  refine g_newI (N := 40) (n1 := 40) C hA hY.2.2 (kE hY rfl) (lE hY rfl) wd_253 (by decide) (by decide) (Nat.le_of_ble_eq_true rfl) (Nat.le_of_ble_eq_true rfl) (Nat.le_of_ble_eq_true rfl) rfl d_M_init_304 hf (fun ad156 μ155 h157 hf => ?_)
  rw [← h157 0 (by decide)]
  have hag : ∀ a, a < 1 → ad156 a = yad Y a := fun a h => (h157 a (by omega)).trans (hag a h)
  have C := cx_y (Y' := Y) (ad' := ad156) (n' := 40) C
  refine g_pRF (b := 39) C hnm fl_M_132 rfl (kE hY rfl) (show 0 < 40 by decide) rfl hY.2.2 ⟨(show 39 < 40 by decide), (kE hY rfl)⟩ (fun o => by cases o <;> rfl) (fun o => by cases o <;> rfl) d_M_init_306 hf (fun μ158 hf => ?_)
  refine j_aload_n C d_M_init_309 0 rfl ?_
  refine j_iconst (v := 5) C d_M_init_310 (by decide) ?_
  refine g_newI (N := 5) (n1 := 41) C hA hY.2.2 (kE hY rfl) (lE hY rfl) wd_253 (by decide) (by decide) (Nat.le_of_ble_eq_true rfl) (Nat.le_of_ble_eq_true rfl) (Nat.le_of_ble_eq_true rfl) rfl d_M_init_311 hf (fun ad160 μ159 h161 hf => ?_)
  rw [← h161 0 (by decide)]
  have hag : ∀ a, a < 1 → ad160 a = yad Y a := fun a h => (h161 a (by omega)).trans (hag a h)
  have C := cx_y (Y' := Y) (ad' := ad160) (n' := 41) C
  refine g_pRF (b := 40) C hnm fl_M_135 rfl (kE hY rfl) (show 0 < 41 by decide) rfl hY.2.2 ⟨(show 40 < 41 by decide), (kE hY rfl)⟩ (fun o => by cases o <;> rfl) (fun o => by cases o <;> rfl) d_M_init_313 hf (fun μ162 hf => ?_)
  refine j_aload_n C d_M_init_316 0 rfl ?_
  refine j_iconst (v := 4) C d_M_init_317 (by decide) ?_
  refine g_newI (N := 4) (n1 := 42) C hA hY.2.2 (kE hY rfl) (lE hY rfl) wd_253 (by decide) (by decide) (Nat.le_of_ble_eq_true rfl) (Nat.le_of_ble_eq_true rfl) (Nat.le_of_ble_eq_true rfl) rfl d_M_init_318 hf (fun ad164 μ163 h165 hf => ?_)
  rw [← h165 0 (by decide)]
  have hag : ∀ a, a < 1 → ad164 a = yad Y a := fun a h => (h165 a (by omega)).trans (hag a h)
  have C := cx_y (Y' := Y) (ad' := ad164) (n' := 42) C
  refine g_pRF (b := 41) C hnm fl_M_138 rfl (kE hY rfl) (show 0 < 42 by decide) rfl hY.2.2 ⟨(show 41 < 42 by decide), (kE hY rfl)⟩ (fun o => by cases o <;> rfl) (fun o => by cases o <;> rfl) d_M_init_320 hf (fun μ166 hf => ?_)
  refine j_aload_n C d_M_init_323 0 rfl ?_
  refine j_bipush (v := 64) C d_M_init_324 (by decide) ?_
  refine g_newI (N := 64) (n1 := 43) C hA hY.2.2 (kE hY rfl) (lE hY rfl) wd_253 (by decide) (by decide) (Nat.le_of_ble_eq_true rfl) (Nat.le_of_ble_eq_true rfl) (Nat.le_of_ble_eq_true rfl) rfl d_M_init_326 hf (fun ad168 μ167 h169 hf => ?_)
  rw [← h169 0 (by decide)]
  have hag : ∀ a, a < 1 → ad168 a = yad Y a := fun a h => (h169 a (by omega)).trans (hag a h)
  have C := cx_y (Y' := Y) (ad' := ad168) (n' := 43) C
  refine g_pRF (b := 42) C hnm fl_M_141 rfl (kE hY rfl) (show 0 < 43 by decide) rfl hY.2.2 ⟨(show 42 < 43 by decide), (kE hY rfl)⟩ (fun o => by cases o <;> rfl) (fun o => by cases o <;> rfl) d_M_init_328 hf (fun μ170 hf => ?_)
  refine j_aload_n C d_M_init_331 0 rfl ?_
  refine j_sipush (v := 256) C d_M_init_332 (by decide) ?_
  refine g_newI (N := 256) (n1 := 44) C hA hY.2.2 (kE hY rfl) (lE hY rfl) wd_253 (by decide) (by decide) (Nat.le_of_ble_eq_true rfl) (Nat.le_of_ble_eq_true rfl) (Nat.le_of_ble_eq_true rfl) rfl d_M_init_335 hf (fun ad172 μ171 h173 hf => ?_)
  rw [← h173 0 (by decide)]
  have hag : ∀ a, a < 1 → ad172 a = yad Y a := fun a h => (h173 a (by omega)).trans (hag a h)
  have C := cx_y (Y' := Y) (ad' := ad172) (n' := 44) C
  refine g_pRF (b := 43) C hnm fl_M_144 rfl (kE hY rfl) (show 0 < 44 by decide) rfl hY.2.2 ⟨(show 43 < 44 by decide), (kE hY rfl)⟩ (fun o => by cases o <;> rfl) (fun o => by cases o <;> rfl) d_M_init_337 hf (fun μ174 hf => ?_)
  refine j_aload_n C d_M_init_340 0 rfl ?_
  refine j_bipush (v := 16) C d_M_init_341 (by decide) ?_
  refine g_newI (N := 16) (n1 := 45) C hA hY.2.2 (kE hY rfl) (lE hY rfl) wd_253 (by decide) (by decide) (Nat.le_of_ble_eq_true rfl) (Nat.le_of_ble_eq_true rfl) (Nat.le_of_ble_eq_true rfl) rfl d_M_init_343 hf (fun ad176 μ175 h177 hf => ?_)
  rw [← h177 0 (by decide)]
  have hag : ∀ a, a < 1 → ad176 a = yad Y a := fun a h => (h177 a (by omega)).trans (hag a h)
  have C := cx_y (Y' := Y) (ad' := ad176) (n' := 45) C
  refine g_pRF (b := 44) C hnm fl_M_147 rfl (kE hY rfl) (show 0 < 45 by decide) rfl hY.2.2 ⟨(show 44 < 45 by decide), (kE hY rfl)⟩ (fun o => by cases o <;> rfl) (fun o => by cases o <;> rfl) d_M_init_345 hf (fun μ178 hf => ?_)
  refine j_aload_n C d_M_init_348 0 rfl ?_
  refine j_iconst (v := 4) C d_M_init_349 (by decide) ?_
  refine g_newI (N := 4) (n1 := 46) C hA hY.2.2 (kE hY rfl) (lE hY rfl) wd_253 (by decide) (by decide) (Nat.le_of_ble_eq_true rfl) (Nat.le_of_ble_eq_true rfl) (Nat.le_of_ble_eq_true rfl) rfl d_M_init_350 hf (fun ad180 μ179 h181 hf => ?_)
  rw [← h181 0 (by decide)]
  have hag : ∀ a, a < 1 → ad180 a = yad Y a := fun a h => (h181 a (by omega)).trans (hag a h)
  have C := cx_y (Y' := Y) (ad' := ad180) (n' := 46) C
  refine g_pRF (b := 45) C hnm fl_M_150 rfl (kE hY rfl) (show 0 < 46 by decide) rfl hY.2.2 ⟨(show 45 < 46 by decide), (kE hY rfl)⟩ (fun o => by cases o <;> rfl) (fun o => by cases o <;> rfl) d_M_init_352 hf (fun μ182 hf => ?_)
  refine j_aload_n C d_M_init_355 0 rfl ?_
  refine j_iconst (v := 4) C d_M_init_356 (by decide) ?_
  refine g_newI (N := 4) (n1 := 47) C hA hY.2.2 (kE hY rfl) (lE hY rfl) wd_253 (by decide) (by decide) (Nat.le_of_ble_eq_true rfl) (Nat.le_of_ble_eq_true rfl) (Nat.le_of_ble_eq_true rfl) rfl d_M_init_357 hf (fun ad184 μ183 h185 hf => ?_)
  rw [← h185 0 (by decide)]
  have hag : ∀ a, a < 1 → ad184 a = yad Y a := fun a h => (h185 a (by omega)).trans (hag a h)
  have C := cx_y (Y' := Y) (ad' := ad184) (n' := 47) C
  refine g_pRF (b := 46) C hnm fl_M_153 rfl (kE hY rfl) (show 0 < 47 by decide) rfl hY.2.2 ⟨(show 46 < 47 by decide), (kE hY rfl)⟩ (fun o => by cases o <;> rfl) (fun o => by cases o <;> rfl) d_M_init_359 hf (fun μ186 hf => ?_)
  refine j_aload_n C d_M_init_362 0 rfl ?_
  refine j_sipush (v := 480) C d_M_init_363 (by decide) ?_
  refine g_newI (N := 480) (n1 := 48) C hA hY.2.2 (kE hY rfl) (lE hY rfl) wd_253 (by decide) (by decide) (Nat.le_of_ble_eq_true rfl) (Nat.le_of_ble_eq_true rfl) (Nat.le_of_ble_eq_true rfl) rfl d_M_init_366 hf (fun ad188 μ187 h189 hf => ?_)
  rw [← h189 0 (by decide)]
  have hag : ∀ a, a < 1 → ad188 a = yad Y a := fun a h => (h189 a (by omega)).trans (hag a h)
  have C := cx_y (Y' := Y) (ad' := ad188) (n' := 48) C
  refine g_pRF (b := 47) C hnm fl_M_156 rfl (kE hY rfl) (show 0 < 48 by decide) rfl hY.2.2 ⟨(show 47 < 48 by decide), (kE hY rfl)⟩ (fun o => by cases o <;> rfl) (fun o => by cases o <;> rfl) d_M_init_368 hf (fun μ190 hf => ?_)
  refine j_aload_n C d_M_init_371 0 rfl ?_
  refine j_bipush (v := 120) C d_M_init_372 (by decide) ?_
  refine g_newI (N := 120) (n1 := 49) C hA hY.2.2 (kE hY rfl) (lE hY rfl) wd_253 (by decide) (by decide) (Nat.le_of_ble_eq_true rfl) (Nat.le_of_ble_eq_true rfl) (Nat.le_of_ble_eq_true rfl) rfl d_M_init_374 hf (fun ad192 μ191 h193 hf => ?_)
  rw [← h193 0 (by decide)]
  have hag : ∀ a, a < 1 → ad192 a = yad Y a := fun a h => (h193 a (by omega)).trans (hag a h)
  have C := cx_y (Y' := Y) (ad' := ad192) (n' := 49) C
  refine g_pRF (b := 48) C hnm fl_M_159 rfl (kE hY rfl) (show 0 < 49 by decide) rfl hY.2.2 ⟨(show 48 < 49 by decide), (kE hY rfl)⟩ (fun o => by cases o <;> rfl) (fun o => by cases o <;> rfl) d_M_init_376 hf (fun μ194 hf => ?_)
  refine j_aload_n C d_M_init_379 0 rfl ?_
  refine ck hf (fun hg195 hf => ?_)
  refine g_gRs C fl_M_7 (kE hY rfl) (show 0 < 49 by decide) rfl hg195 d_M_init_380 ?_
  refine j_iconst (v := 0) C d_M_init_383 (by decide) ?_
  refine j_bipush (v := 65) C d_M_init_384 (by decide) ?_
  refine j_iast (n := 36) C (kE hY rfl) (show 1 < 49 by decide) (lE hY rfl) (by decide) d_M_init_386 hf (fun μ196 hf => ?_)
  refine j_aload_n C d_M_init_387 0 rfl ?_
  refine ck hf (fun hg197 hf => ?_)
  refine g_gRs C fl_M_7 (kE hY rfl) (show 0 < 49 by decide) rfl hg197 d_M_init_388 ?_
  refine j_iconst (v := 1) C d_M_init_391 (by decide) ?_
  refine j_bipush (v := 63) C d_M_init_392 (by decide) ?_
  refine j_iast (n := 36) C (kE hY rfl) (show 1 < 49 by decide) (lE hY rfl) (by decide) d_M_init_394 hf (fun μ198 hf => ?_)
  refine j_aload_n C d_M_init_395 0 rfl ?_
  refine ck hf (fun hg199 hf => ?_)
  refine g_gRs C fl_M_7 (kE hY rfl) (show 0 < 49 by decide) rfl hg199 d_M_init_396 ?_
  refine j_iconst (v := 2) C d_M_init_399 (by decide) ?_
  refine j_bipush (v := 60) C d_M_init_400 (by decide) ?_
  refine j_iast (n := 36) C (kE hY rfl) (show 1 < 49 by decide) (lE hY rfl) (by decide) d_M_init_402 hf (fun μ200 hf => ?_)
  refine j_aload_n C d_M_init_403 0 rfl ?_
  refine ck hf (fun hg201 hf => ?_)
  refine g_gRs C fl_M_7 (kE hY rfl) (show 0 < 49 by decide) rfl hg201 d_M_init_404 ?_
  refine j_iconst (v := 3) C d_M_init_407 (by decide) ?_
  refine j_bipush (v := 56) C d_M_init_408 (by decide) ?_
  refine j_iast (n := 36) C (kE hY rfl) (show 1 < 49 by decide) (lE hY rfl) (by decide) d_M_init_410 hf (fun μ202 hf => ?_)
  refine j_aload_n C d_M_init_411 0 rfl ?_
  refine ck hf (fun hg203 hf => ?_)
  refine g_gRs C fl_M_7 (kE hY rfl) (show 0 < 49 by decide) rfl hg203 d_M_init_412 ?_
  refine j_iconst (v := 4) C d_M_init_415 (by decide) ?_
  refine j_bipush (v := 52) C d_M_init_416 (by decide) ?_
  refine j_iast (n := 36) C (kE hY rfl) (show 1 < 49 by decide) (lE hY rfl) (by decide) d_M_init_418 hf (fun μ204 hf => ?_)
  refine j_aload_n C d_M_init_419 0 rfl ?_
  refine ck hf (fun hg205 hf => ?_)
  refine g_gRs C fl_M_7 (kE hY rfl) (show 0 < 49 by decide) rfl hg205 d_M_init_420 ?_
  refine j_iconst (v := 5) C d_M_init_423 (by decide) ?_
  refine j_bipush (v := 39) C d_M_init_424 (by decide) ?_
  refine j_iast (n := 36) C (kE hY rfl) (show 1 < 49 by decide) (lE hY rfl) (by decide) d_M_init_426 hf (fun μ206 hf => ?_)
  refine j_aload_n C d_M_init_427 0 rfl ?_
  refine ck hf (fun hg207 hf => ?_)
  refine g_gRs C fl_M_7 (kE hY rfl) (show 0 < 49 by decide) rfl hg207 d_M_init_428 ?_
  refine j_bipush (v := 6) C d_M_init_431 (by decide) ?_
  refine j_bipush (v := 33) C d_M_init_433 (by decide) ?_
  refine j_iast (n := 36) C (kE hY rfl) (show 1 < 49 by decide) (lE hY rfl) (by decide) d_M_init_435 hf (fun μ208 hf => ?_)
  refine j_aload_n C d_M_init_436 0 rfl ?_
  refine ck hf (fun hg209 hf => ?_)
  refine g_gRs C fl_M_7 (kE hY rfl) (show 0 < 49 by decide) rfl hg209 d_M_init_437 ?_
  refine j_bipush (v := 7) C d_M_init_440 (by decide) ?_
  refine j_bipush (v := 25) C d_M_init_442 (by decide) ?_
  refine j_iast (n := 36) C (kE hY rfl) (show 1 < 49 by decide) (lE hY rfl) (by decide) d_M_init_444 hf (fun μ210 hf => ?_)
  refine j_aload_n C d_M_init_445 0 rfl ?_
  refine ck hf (fun hg211 hf => ?_)
  refine g_gRs C fl_M_7 (kE hY rfl) (show 0 < 49 by decide) rfl hg211 d_M_init_446 ?_
  refine j_bipush (v := 8) C d_M_init_449 (by decide) ?_
  refine j_bipush (v := 16) C d_M_init_451 (by decide) ?_
  refine j_iast (n := 36) C (kE hY rfl) (show 1 < 49 by decide) (lE hY rfl) (by decide) d_M_init_453 hf (fun μ212 hf => ?_)
  refine j_aload_n C d_M_init_454 0 rfl ?_
  refine ck hf (fun hg213 hf => ?_)
  refine g_gRs C fl_M_7 (kE hY rfl) (show 0 < 49 by decide) rfl hg213 d_M_init_455 ?_
  refine j_bipush (v := 9) C d_M_init_458 (by decide) ?_
  refine j_iconst (v := 0) C d_M_init_460 (by decide) ?_
  refine j_iast (n := 36) C (kE hY rfl) (show 1 < 49 by decide) (lE hY rfl) (by decide) d_M_init_461 hf (fun μ214 hf => ?_)
  refine j_bipush (v := 10) C d_M_init_462 (by decide) ?_
  refine j_istore_n (lvf := [(0, .ref (ad192 0))]) C d_M_init_464 (by decide) rfl ?_
  refine j_iload_n C d_M_init_465 0 rfl ?_
  refine j_bipush (v := 19) C d_M_init_466 (by decide) ?_
  refine g_icmp_f C d_M_init_468 (by decide) ?_
  refine j_aload_n C d_M_init_471 1 rfl ?_
  refine ck hf (fun hg215 hf => ?_)
  refine g_gRs C fl_M_7 (kE hY rfl) (show 0 < 49 by decide) rfl hg215 d_M_init_472 ?_
  refine j_iload_n C d_M_init_475 0 rfl ?_
  refine j_aload_n C d_M_init_476 1 rfl ?_
  refine ck hf (fun hg216 hf => ?_)
  refine g_gRs C fl_M_7 (kE hY rfl) (show 0 < 49 by decide) rfl hg216 d_M_init_477 ?_
  refine j_bipush (v := 18) C d_M_init_480 (by decide) ?_
  refine j_iload_n C d_M_init_482 0 rfl ?_
  refine j_isub C d_M_init_483 ?_
  rw [show (18 : Int32) - 10 = 8 from by decide]
  refine j_iald (n := 36) C (kE hY rfl) (show 1 < 49 by decide) (lE hY rfl) (by decide) d_M_init_484 ?_
  refine j_ineg C d_M_init_485 ?_
  refine j_iast (n := 36) C (kE hY rfl) (show 1 < 49 by decide) (lE hY rfl) (by decide) d_M_init_486 hf (fun μ217 hf => ?_)
  refine g_iinc (lvf := [(0, .ref (ad192 0))]) (v := 1) (w := 11) C d_M_init_487 0 rfl (by decide) (by decide) (by decide) rfl ?_
  refine j_goto C d_M_init_490 ?_
  refine j_iload_n C d_M_init_465 0 rfl ?_
  refine j_bipush (v := 19) C d_M_init_466 (by decide) ?_
  refine g_icmp_f C d_M_init_468 (by decide) ?_
  refine j_aload_n C d_M_init_471 1 rfl ?_
  refine ck hf (fun hg218 hf => ?_)
  refine g_gRs C fl_M_7 (kE hY rfl) (show 0 < 49 by decide) rfl hg218 d_M_init_472 ?_
  refine j_iload_n C d_M_init_475 0 rfl ?_
  refine j_aload_n C d_M_init_476 1 rfl ?_
  refine ck hf (fun hg219 hf => ?_)
  refine g_gRs C fl_M_7 (kE hY rfl) (show 0 < 49 by decide) rfl hg219 d_M_init_477 ?_
  refine j_bipush (v := 18) C d_M_init_480 (by decide) ?_
  refine j_iload_n C d_M_init_482 0 rfl ?_
  refine j_isub C d_M_init_483 ?_
  rw [show (18 : Int32) - 11 = 7 from by decide]
  refine j_iald (n := 36) C (kE hY rfl) (show 1 < 49 by decide) (lE hY rfl) (by decide) d_M_init_484 ?_
  refine j_ineg C d_M_init_485 ?_
  refine j_iast (n := 36) C (kE hY rfl) (show 1 < 49 by decide) (lE hY rfl) (by decide) d_M_init_486 hf (fun μ220 hf => ?_)
  refine g_iinc (lvf := [(0, .ref (ad192 0))]) (v := 1) (w := 12) C d_M_init_487 0 rfl (by decide) (by decide) (by decide) rfl ?_
  refine j_goto C d_M_init_490 ?_
  refine j_iload_n C d_M_init_465 0 rfl ?_
  refine j_bipush (v := 19) C d_M_init_466 (by decide) ?_
  refine g_icmp_f C d_M_init_468 (by decide) ?_
  refine j_aload_n C d_M_init_471 1 rfl ?_
  refine ck hf (fun hg221 hf => ?_)
  refine g_gRs C fl_M_7 (kE hY rfl) (show 0 < 49 by decide) rfl hg221 d_M_init_472 ?_
  refine j_iload_n C d_M_init_475 0 rfl ?_
  refine j_aload_n C d_M_init_476 1 rfl ?_
  refine ck hf (fun hg222 hf => ?_)
  refine g_gRs C fl_M_7 (kE hY rfl) (show 0 < 49 by decide) rfl hg222 d_M_init_477 ?_
  refine j_bipush (v := 18) C d_M_init_480 (by decide) ?_
  refine j_iload_n C d_M_init_482 0 rfl ?_
  refine j_isub C d_M_init_483 ?_
  rw [show (18 : Int32) - 12 = 6 from by decide]
  refine j_iald (n := 36) C (kE hY rfl) (show 1 < 49 by decide) (lE hY rfl) (by decide) d_M_init_484 ?_
  refine j_ineg C d_M_init_485 ?_
  refine j_iast (n := 36) C (kE hY rfl) (show 1 < 49 by decide) (lE hY rfl) (by decide) d_M_init_486 hf (fun μ223 hf => ?_)
  refine g_iinc (lvf := [(0, .ref (ad192 0))]) (v := 1) (w := 13) C d_M_init_487 0 rfl (by decide) (by decide) (by decide) rfl ?_
  refine j_goto C d_M_init_490 ?_
  refine j_iload_n C d_M_init_465 0 rfl ?_
  refine j_bipush (v := 19) C d_M_init_466 (by decide) ?_
  refine g_icmp_f C d_M_init_468 (by decide) ?_
  refine j_aload_n C d_M_init_471 1 rfl ?_
  refine ck hf (fun hg224 hf => ?_)
  refine g_gRs C fl_M_7 (kE hY rfl) (show 0 < 49 by decide) rfl hg224 d_M_init_472 ?_
  refine j_iload_n C d_M_init_475 0 rfl ?_
  refine j_aload_n C d_M_init_476 1 rfl ?_
  refine ck hf (fun hg225 hf => ?_)
  refine g_gRs C fl_M_7 (kE hY rfl) (show 0 < 49 by decide) rfl hg225 d_M_init_477 ?_
  refine j_bipush (v := 18) C d_M_init_480 (by decide) ?_
  refine j_iload_n C d_M_init_482 0 rfl ?_
  refine j_isub C d_M_init_483 ?_
  rw [show (18 : Int32) - 13 = 5 from by decide]
  refine j_iald (n := 36) C (kE hY rfl) (show 1 < 49 by decide) (lE hY rfl) (by decide) d_M_init_484 ?_
  refine j_ineg C d_M_init_485 ?_
  refine j_iast (n := 36) C (kE hY rfl) (show 1 < 49 by decide) (lE hY rfl) (by decide) d_M_init_486 hf (fun μ226 hf => ?_)
  refine g_iinc (lvf := [(0, .ref (ad192 0))]) (v := 1) (w := 14) C d_M_init_487 0 rfl (by decide) (by decide) (by decide) rfl ?_
  refine j_goto C d_M_init_490 ?_
  refine j_iload_n C d_M_init_465 0 rfl ?_
  refine j_bipush (v := 19) C d_M_init_466 (by decide) ?_
  refine g_icmp_f C d_M_init_468 (by decide) ?_
  refine j_aload_n C d_M_init_471 1 rfl ?_
  refine ck hf (fun hg227 hf => ?_)
  refine g_gRs C fl_M_7 (kE hY rfl) (show 0 < 49 by decide) rfl hg227 d_M_init_472 ?_
  refine j_iload_n C d_M_init_475 0 rfl ?_
  refine j_aload_n C d_M_init_476 1 rfl ?_
  refine ck hf (fun hg228 hf => ?_)
  refine g_gRs C fl_M_7 (kE hY rfl) (show 0 < 49 by decide) rfl hg228 d_M_init_477 ?_
  refine j_bipush (v := 18) C d_M_init_480 (by decide) ?_
  refine j_iload_n C d_M_init_482 0 rfl ?_
  refine j_isub C d_M_init_483 ?_
  rw [show (18 : Int32) - 14 = 4 from by decide]
  refine j_iald (n := 36) C (kE hY rfl) (show 1 < 49 by decide) (lE hY rfl) (by decide) d_M_init_484 ?_
  refine j_ineg C d_M_init_485 ?_
  refine j_iast (n := 36) C (kE hY rfl) (show 1 < 49 by decide) (lE hY rfl) (by decide) d_M_init_486 hf (fun μ229 hf => ?_)
  refine g_iinc (lvf := [(0, .ref (ad192 0))]) (v := 1) (w := 15) C d_M_init_487 0 rfl (by decide) (by decide) (by decide) rfl ?_
  refine j_goto C d_M_init_490 ?_
  refine j_iload_n C d_M_init_465 0 rfl ?_
  refine j_bipush (v := 19) C d_M_init_466 (by decide) ?_
  refine g_icmp_f C d_M_init_468 (by decide) ?_
  refine j_aload_n C d_M_init_471 1 rfl ?_
  refine ck hf (fun hg230 hf => ?_)
  refine g_gRs C fl_M_7 (kE hY rfl) (show 0 < 49 by decide) rfl hg230 d_M_init_472 ?_
  refine j_iload_n C d_M_init_475 0 rfl ?_
  refine j_aload_n C d_M_init_476 1 rfl ?_
  refine ck hf (fun hg231 hf => ?_)
  refine g_gRs C fl_M_7 (kE hY rfl) (show 0 < 49 by decide) rfl hg231 d_M_init_477 ?_
  refine j_bipush (v := 18) C d_M_init_480 (by decide) ?_
  refine j_iload_n C d_M_init_482 0 rfl ?_
  refine j_isub C d_M_init_483 ?_
  rw [show (18 : Int32) - 15 = 3 from by decide]
  refine j_iald (n := 36) C (kE hY rfl) (show 1 < 49 by decide) (lE hY rfl) (by decide) d_M_init_484 ?_
  refine j_ineg C d_M_init_485 ?_
  refine j_iast (n := 36) C (kE hY rfl) (show 1 < 49 by decide) (lE hY rfl) (by decide) d_M_init_486 hf (fun μ232 hf => ?_)
  refine g_iinc (lvf := [(0, .ref (ad192 0))]) (v := 1) (w := 16) C d_M_init_487 0 rfl (by decide) (by decide) (by decide) rfl ?_
  refine j_goto C d_M_init_490 ?_
  refine j_iload_n C d_M_init_465 0 rfl ?_
  refine j_bipush (v := 19) C d_M_init_466 (by decide) ?_
  refine g_icmp_f C d_M_init_468 (by decide) ?_
  refine j_aload_n C d_M_init_471 1 rfl ?_
  refine ck hf (fun hg233 hf => ?_)
  refine g_gRs C fl_M_7 (kE hY rfl) (show 0 < 49 by decide) rfl hg233 d_M_init_472 ?_
  refine j_iload_n C d_M_init_475 0 rfl ?_
  refine j_aload_n C d_M_init_476 1 rfl ?_
  refine ck hf (fun hg234 hf => ?_)
  refine g_gRs C fl_M_7 (kE hY rfl) (show 0 < 49 by decide) rfl hg234 d_M_init_477 ?_
  refine j_bipush (v := 18) C d_M_init_480 (by decide) ?_
  refine j_iload_n C d_M_init_482 0 rfl ?_
  refine j_isub C d_M_init_483 ?_
  rw [show (18 : Int32) - 16 = 2 from by decide]
  refine j_iald (n := 36) C (kE hY rfl) (show 1 < 49 by decide) (lE hY rfl) (by decide) d_M_init_484 ?_
  refine j_ineg C d_M_init_485 ?_
  refine j_iast (n := 36) C (kE hY rfl) (show 1 < 49 by decide) (lE hY rfl) (by decide) d_M_init_486 hf (fun μ235 hf => ?_)
  refine g_iinc (lvf := [(0, .ref (ad192 0))]) (v := 1) (w := 17) C d_M_init_487 0 rfl (by decide) (by decide) (by decide) rfl ?_
  refine j_goto C d_M_init_490 ?_
  refine j_iload_n C d_M_init_465 0 rfl ?_
  refine j_bipush (v := 19) C d_M_init_466 (by decide) ?_
  refine g_icmp_f C d_M_init_468 (by decide) ?_
  refine j_aload_n C d_M_init_471 1 rfl ?_
  refine ck hf (fun hg236 hf => ?_)
  refine g_gRs C fl_M_7 (kE hY rfl) (show 0 < 49 by decide) rfl hg236 d_M_init_472 ?_
  refine j_iload_n C d_M_init_475 0 rfl ?_
  refine j_aload_n C d_M_init_476 1 rfl ?_
  refine ck hf (fun hg237 hf => ?_)
  refine g_gRs C fl_M_7 (kE hY rfl) (show 0 < 49 by decide) rfl hg237 d_M_init_477 ?_
  refine j_bipush (v := 18) C d_M_init_480 (by decide) ?_
  refine j_iload_n C d_M_init_482 0 rfl ?_
  refine j_isub C d_M_init_483 ?_
  rw [show (18 : Int32) - 17 = 1 from by decide]
  refine j_iald (n := 36) C (kE hY rfl) (show 1 < 49 by decide) (lE hY rfl) (by decide) d_M_init_484 ?_
  refine j_ineg C d_M_init_485 ?_
  refine j_iast (n := 36) C (kE hY rfl) (show 1 < 49 by decide) (lE hY rfl) (by decide) d_M_init_486 hf (fun μ238 hf => ?_)
  refine g_iinc (lvf := [(0, .ref (ad192 0))]) (v := 1) (w := 18) C d_M_init_487 0 rfl (by decide) (by decide) (by decide) rfl ?_
  refine j_goto C d_M_init_490 ?_
  refine j_iload_n C d_M_init_465 0 rfl ?_
  refine j_bipush (v := 19) C d_M_init_466 (by decide) ?_
  refine g_icmp_f C d_M_init_468 (by decide) ?_
  refine j_aload_n C d_M_init_471 1 rfl ?_
  refine ck hf (fun hg239 hf => ?_)
  refine g_gRs C fl_M_7 (kE hY rfl) (show 0 < 49 by decide) rfl hg239 d_M_init_472 ?_
  refine j_iload_n C d_M_init_475 0 rfl ?_
  refine j_aload_n C d_M_init_476 1 rfl ?_
  refine ck hf (fun hg240 hf => ?_)
  refine g_gRs C fl_M_7 (kE hY rfl) (show 0 < 49 by decide) rfl hg240 d_M_init_477 ?_
  refine j_bipush (v := 18) C d_M_init_480 (by decide) ?_
  refine j_iload_n C d_M_init_482 0 rfl ?_
  refine j_isub C d_M_init_483 ?_
  rw [show (18 : Int32) - 18 = 0 from by decide]
  refine j_iald (n := 36) C (kE hY rfl) (show 1 < 49 by decide) (lE hY rfl) (by decide) d_M_init_484 ?_
  refine j_ineg C d_M_init_485 ?_
  refine j_iast (n := 36) C (kE hY rfl) (show 1 < 49 by decide) (lE hY rfl) (by decide) d_M_init_486 hf (fun μ241 hf => ?_)
  refine g_iinc (lvf := [(0, .ref (ad192 0))]) (v := 1) (w := 19) C d_M_init_487 0 rfl (by decide) (by decide) (by decide) rfl ?_
  refine j_goto C d_M_init_490 ?_
  refine j_iload_n C d_M_init_465 0 rfl ?_
  refine j_bipush (v := 19) C d_M_init_466 (by decide) ?_
  refine g_icmp_t C d_M_init_468 (by decide) ?_
  refine j_bipush (v := 19) C d_M_init_493 (by decide) ?_
  refine j_istore_n (lvf := [(0, .ref (ad192 0))]) C d_M_init_495 (by decide) rfl ?_
  refine j_iload_n C d_M_init_496 0 rfl ?_
  refine j_bipush (v := 28) C d_M_init_497 (by decide) ?_
  refine g_icmp_f C d_M_init_499 (by decide) ?_
  refine j_aload_n C d_M_init_502 1 rfl ?_
  refine ck hf (fun hg242 hf => ?_)
  refine g_gRs C fl_M_7 (kE hY rfl) (show 0 < 49 by decide) rfl hg242 d_M_init_503 ?_
  refine j_iload_n C d_M_init_506 0 rfl ?_
  refine j_aload_n C d_M_init_507 1 rfl ?_
  refine ck hf (fun hg243 hf => ?_)
  refine g_gRs C fl_M_7 (kE hY rfl) (show 0 < 49 by decide) rfl hg243 d_M_init_508 ?_
  refine j_iload_n C d_M_init_511 0 rfl ?_
  refine j_bipush (v := 18) C d_M_init_512 (by decide) ?_
  refine j_isub C d_M_init_514 ?_
  rw [show (19 : Int32) - 18 = 1 from by decide]
  refine j_iald (n := 36) C (kE hY rfl) (show 1 < 49 by decide) (lE hY rfl) (by decide) d_M_init_515 ?_
  refine j_ineg C d_M_init_516 ?_
  refine j_iast (n := 36) C (kE hY rfl) (show 1 < 49 by decide) (lE hY rfl) (by decide) d_M_init_517 hf (fun μ244 hf => ?_)
  refine g_iinc (lvf := [(0, .ref (ad192 0))]) (v := 1) (w := 20) C d_M_init_518 0 rfl (by decide) (by decide) (by decide) rfl ?_
  refine j_goto C d_M_init_521 ?_
  refine j_iload_n C d_M_init_496 0 rfl ?_
  refine j_bipush (v := 28) C d_M_init_497 (by decide) ?_
  refine g_icmp_f C d_M_init_499 (by decide) ?_
  refine j_aload_n C d_M_init_502 1 rfl ?_
  refine ck hf (fun hg245 hf => ?_)
  refine g_gRs C fl_M_7 (kE hY rfl) (show 0 < 49 by decide) rfl hg245 d_M_init_503 ?_
  refine j_iload_n C d_M_init_506 0 rfl ?_
  refine j_aload_n C d_M_init_507 1 rfl ?_
  refine ck hf (fun hg246 hf => ?_)
  refine g_gRs C fl_M_7 (kE hY rfl) (show 0 < 49 by decide) rfl hg246 d_M_init_508 ?_
  refine j_iload_n C d_M_init_511 0 rfl ?_
  refine j_bipush (v := 18) C d_M_init_512 (by decide) ?_
  refine j_isub C d_M_init_514 ?_
  rw [show (20 : Int32) - 18 = 2 from by decide]
  refine j_iald (n := 36) C (kE hY rfl) (show 1 < 49 by decide) (lE hY rfl) (by decide) d_M_init_515 ?_
  refine j_ineg C d_M_init_516 ?_
  refine j_iast (n := 36) C (kE hY rfl) (show 1 < 49 by decide) (lE hY rfl) (by decide) d_M_init_517 hf (fun μ247 hf => ?_)
  refine g_iinc (lvf := [(0, .ref (ad192 0))]) (v := 1) (w := 21) C d_M_init_518 0 rfl (by decide) (by decide) (by decide) rfl ?_
  refine j_goto C d_M_init_521 ?_
  refine j_iload_n C d_M_init_496 0 rfl ?_
  refine j_bipush (v := 28) C d_M_init_497 (by decide) ?_
  refine g_icmp_f C d_M_init_499 (by decide) ?_
  refine j_aload_n C d_M_init_502 1 rfl ?_
  refine ck hf (fun hg248 hf => ?_)
  refine g_gRs C fl_M_7 (kE hY rfl) (show 0 < 49 by decide) rfl hg248 d_M_init_503 ?_
  refine j_iload_n C d_M_init_506 0 rfl ?_
  refine j_aload_n C d_M_init_507 1 rfl ?_
  refine ck hf (fun hg249 hf => ?_)
  refine g_gRs C fl_M_7 (kE hY rfl) (show 0 < 49 by decide) rfl hg249 d_M_init_508 ?_
  refine j_iload_n C d_M_init_511 0 rfl ?_
  refine j_bipush (v := 18) C d_M_init_512 (by decide) ?_
  refine j_isub C d_M_init_514 ?_
  rw [show (21 : Int32) - 18 = 3 from by decide]
  refine j_iald (n := 36) C (kE hY rfl) (show 1 < 49 by decide) (lE hY rfl) (by decide) d_M_init_515 ?_
  refine j_ineg C d_M_init_516 ?_
  refine j_iast (n := 36) C (kE hY rfl) (show 1 < 49 by decide) (lE hY rfl) (by decide) d_M_init_517 hf (fun μ250 hf => ?_)
  refine g_iinc (lvf := [(0, .ref (ad192 0))]) (v := 1) (w := 22) C d_M_init_518 0 rfl (by decide) (by decide) (by decide) rfl ?_
  refine j_goto C d_M_init_521 ?_
  refine j_iload_n C d_M_init_496 0 rfl ?_
  refine j_bipush (v := 28) C d_M_init_497 (by decide) ?_
  refine g_icmp_f C d_M_init_499 (by decide) ?_
  refine j_aload_n C d_M_init_502 1 rfl ?_
  refine ck hf (fun hg251 hf => ?_)
  refine g_gRs C fl_M_7 (kE hY rfl) (show 0 < 49 by decide) rfl hg251 d_M_init_503 ?_
  refine j_iload_n C d_M_init_506 0 rfl ?_
  refine j_aload_n C d_M_init_507 1 rfl ?_
  refine ck hf (fun hg252 hf => ?_)
  refine g_gRs C fl_M_7 (kE hY rfl) (show 0 < 49 by decide) rfl hg252 d_M_init_508 ?_
  refine j_iload_n C d_M_init_511 0 rfl ?_
  refine j_bipush (v := 18) C d_M_init_512 (by decide) ?_
  refine j_isub C d_M_init_514 ?_
  rw [show (22 : Int32) - 18 = 4 from by decide]
  refine j_iald (n := 36) C (kE hY rfl) (show 1 < 49 by decide) (lE hY rfl) (by decide) d_M_init_515 ?_
  refine j_ineg C d_M_init_516 ?_
  refine j_iast (n := 36) C (kE hY rfl) (show 1 < 49 by decide) (lE hY rfl) (by decide) d_M_init_517 hf (fun μ253 hf => ?_)
  refine g_iinc (lvf := [(0, .ref (ad192 0))]) (v := 1) (w := 23) C d_M_init_518 0 rfl (by decide) (by decide) (by decide) rfl ?_
  refine j_goto C d_M_init_521 ?_
  refine j_iload_n C d_M_init_496 0 rfl ?_
  refine j_bipush (v := 28) C d_M_init_497 (by decide) ?_
  refine g_icmp_f C d_M_init_499 (by decide) ?_
  refine j_aload_n C d_M_init_502 1 rfl ?_
  refine ck hf (fun hg254 hf => ?_)
  refine g_gRs C fl_M_7 (kE hY rfl) (show 0 < 49 by decide) rfl hg254 d_M_init_503 ?_
  refine j_iload_n C d_M_init_506 0 rfl ?_
  refine j_aload_n C d_M_init_507 1 rfl ?_
  refine ck hf (fun hg255 hf => ?_)
  refine g_gRs C fl_M_7 (kE hY rfl) (show 0 < 49 by decide) rfl hg255 d_M_init_508 ?_
  refine j_iload_n C d_M_init_511 0 rfl ?_
  refine j_bipush (v := 18) C d_M_init_512 (by decide) ?_
  refine j_isub C d_M_init_514 ?_
  rw [show (23 : Int32) - 18 = 5 from by decide]
  refine j_iald (n := 36) C (kE hY rfl) (show 1 < 49 by decide) (lE hY rfl) (by decide) d_M_init_515 ?_
  refine j_ineg C d_M_init_516 ?_
  refine j_iast (n := 36) C (kE hY rfl) (show 1 < 49 by decide) (lE hY rfl) (by decide) d_M_init_517 hf (fun μ256 hf => ?_)
  refine g_iinc (lvf := [(0, .ref (ad192 0))]) (v := 1) (w := 24) C d_M_init_518 0 rfl (by decide) (by decide) (by decide) rfl ?_
  refine j_goto C d_M_init_521 ?_
  refine j_iload_n C d_M_init_496 0 rfl ?_
  refine j_bipush (v := 28) C d_M_init_497 (by decide) ?_
  refine g_icmp_f C d_M_init_499 (by decide) ?_
  refine j_aload_n C d_M_init_502 1 rfl ?_
  refine ck hf (fun hg257 hf => ?_)
  refine g_gRs C fl_M_7 (kE hY rfl) (show 0 < 49 by decide) rfl hg257 d_M_init_503 ?_
  refine j_iload_n C d_M_init_506 0 rfl ?_
  refine j_aload_n C d_M_init_507 1 rfl ?_
  refine ck hf (fun hg258 hf => ?_)
  refine g_gRs C fl_M_7 (kE hY rfl) (show 0 < 49 by decide) rfl hg258 d_M_init_508 ?_
  refine j_iload_n C d_M_init_511 0 rfl ?_
  refine j_bipush (v := 18) C d_M_init_512 (by decide) ?_
  refine j_isub C d_M_init_514 ?_
  rw [show (24 : Int32) - 18 = 6 from by decide]
  refine j_iald (n := 36) C (kE hY rfl) (show 1 < 49 by decide) (lE hY rfl) (by decide) d_M_init_515 ?_
  refine j_ineg C d_M_init_516 ?_
  refine j_iast (n := 36) C (kE hY rfl) (show 1 < 49 by decide) (lE hY rfl) (by decide) d_M_init_517 hf (fun μ259 hf => ?_)
  refine g_iinc (lvf := [(0, .ref (ad192 0))]) (v := 1) (w := 25) C d_M_init_518 0 rfl (by decide) (by decide) (by decide) rfl ?_
  refine j_goto C d_M_init_521 ?_
  refine j_iload_n C d_M_init_496 0 rfl ?_
  refine j_bipush (v := 28) C d_M_init_497 (by decide) ?_
  refine g_icmp_f C d_M_init_499 (by decide) ?_
  refine j_aload_n C d_M_init_502 1 rfl ?_
  refine ck hf (fun hg260 hf => ?_)
  refine g_gRs C fl_M_7 (kE hY rfl) (show 0 < 49 by decide) rfl hg260 d_M_init_503 ?_
  refine j_iload_n C d_M_init_506 0 rfl ?_
  refine j_aload_n C d_M_init_507 1 rfl ?_
  refine ck hf (fun hg261 hf => ?_)
  refine g_gRs C fl_M_7 (kE hY rfl) (show 0 < 49 by decide) rfl hg261 d_M_init_508 ?_
  refine j_iload_n C d_M_init_511 0 rfl ?_
  refine j_bipush (v := 18) C d_M_init_512 (by decide) ?_
  refine j_isub C d_M_init_514 ?_
  rw [show (25 : Int32) - 18 = 7 from by decide]
  refine j_iald (n := 36) C (kE hY rfl) (show 1 < 49 by decide) (lE hY rfl) (by decide) d_M_init_515 ?_
  refine j_ineg C d_M_init_516 ?_
  refine j_iast (n := 36) C (kE hY rfl) (show 1 < 49 by decide) (lE hY rfl) (by decide) d_M_init_517 hf (fun μ262 hf => ?_)
  refine g_iinc (lvf := [(0, .ref (ad192 0))]) (v := 1) (w := 26) C d_M_init_518 0 rfl (by decide) (by decide) (by decide) rfl ?_
  refine j_goto C d_M_init_521 ?_
  refine j_iload_n C d_M_init_496 0 rfl ?_
  refine j_bipush (v := 28) C d_M_init_497 (by decide) ?_
  refine g_icmp_f C d_M_init_499 (by decide) ?_
  refine j_aload_n C d_M_init_502 1 rfl ?_
  refine ck hf (fun hg263 hf => ?_)
  refine g_gRs C fl_M_7 (kE hY rfl) (show 0 < 49 by decide) rfl hg263 d_M_init_503 ?_
  refine j_iload_n C d_M_init_506 0 rfl ?_
  refine j_aload_n C d_M_init_507 1 rfl ?_
  refine ck hf (fun hg264 hf => ?_)
  refine g_gRs C fl_M_7 (kE hY rfl) (show 0 < 49 by decide) rfl hg264 d_M_init_508 ?_
  refine j_iload_n C d_M_init_511 0 rfl ?_
  refine j_bipush (v := 18) C d_M_init_512 (by decide) ?_
  refine j_isub C d_M_init_514 ?_
  rw [show (26 : Int32) - 18 = 8 from by decide]
  refine j_iald (n := 36) C (kE hY rfl) (show 1 < 49 by decide) (lE hY rfl) (by decide) d_M_init_515 ?_
  refine j_ineg C d_M_init_516 ?_
  refine j_iast (n := 36) C (kE hY rfl) (show 1 < 49 by decide) (lE hY rfl) (by decide) d_M_init_517 hf (fun μ265 hf => ?_)
  refine g_iinc (lvf := [(0, .ref (ad192 0))]) (v := 1) (w := 27) C d_M_init_518 0 rfl (by decide) (by decide) (by decide) rfl ?_
  refine j_goto C d_M_init_521 ?_
  refine j_iload_n C d_M_init_496 0 rfl ?_
  refine j_bipush (v := 28) C d_M_init_497 (by decide) ?_
  refine g_icmp_f C d_M_init_499 (by decide) ?_
  refine j_aload_n C d_M_init_502 1 rfl ?_
  refine ck hf (fun hg266 hf => ?_)
  refine g_gRs C fl_M_7 (kE hY rfl) (show 0 < 49 by decide) rfl hg266 d_M_init_503 ?_
  refine j_iload_n C d_M_init_506 0 rfl ?_
  refine j_aload_n C d_M_init_507 1 rfl ?_
  refine ck hf (fun hg267 hf => ?_)
  refine g_gRs C fl_M_7 (kE hY rfl) (show 0 < 49 by decide) rfl hg267 d_M_init_508 ?_
  refine j_iload_n C d_M_init_511 0 rfl ?_
  refine j_bipush (v := 18) C d_M_init_512 (by decide) ?_
  refine j_isub C d_M_init_514 ?_
  rw [show (27 : Int32) - 18 = 9 from by decide]
  refine j_iald (n := 36) C (kE hY rfl) (show 1 < 49 by decide) (lE hY rfl) (by decide) d_M_init_515 ?_
  refine j_ineg C d_M_init_516 ?_
  refine j_iast (n := 36) C (kE hY rfl) (show 1 < 49 by decide) (lE hY rfl) (by decide) d_M_init_517 hf (fun μ268 hf => ?_)
  refine g_iinc (lvf := [(0, .ref (ad192 0))]) (v := 1) (w := 28) C d_M_init_518 0 rfl (by decide) (by decide) (by decide) rfl ?_
  refine j_goto C d_M_init_521 ?_
  refine j_iload_n C d_M_init_496 0 rfl ?_
  refine j_bipush (v := 28) C d_M_init_497 (by decide) ?_
  refine g_icmp_t C d_M_init_499 (by decide) ?_
  refine j_bipush (v := 28) C d_M_init_524 (by decide) ?_
  refine j_istore_n (lvf := [(0, .ref (ad192 0))]) C d_M_init_526 (by decide) rfl ?_
  refine j_iload_n C d_M_init_527 0 rfl ?_
  refine j_bipush (v := 36) C d_M_init_528 (by decide) ?_
  refine g_icmp_f C d_M_init_530 (by decide) ?_
  refine j_aload_n C d_M_init_533 1 rfl ?_
  refine ck hf (fun hg269 hf => ?_)
  refine g_gRs C fl_M_7 (kE hY rfl) (show 0 < 49 by decide) rfl hg269 d_M_init_534 ?_
  refine j_iload_n C d_M_init_537 0 rfl ?_
  refine j_aload_n C d_M_init_538 1 rfl ?_
  refine ck hf (fun hg270 hf => ?_)
  refine g_gRs C fl_M_7 (kE hY rfl) (show 0 < 49 by decide) rfl hg270 d_M_init_539 ?_
  refine j_bipush (v := 36) C d_M_init_542 (by decide) ?_
  refine j_iload_n C d_M_init_544 0 rfl ?_
  refine j_isub C d_M_init_545 ?_
  rw [show (36 : Int32) - 28 = 8 from by decide]
  refine j_iald (n := 36) C (kE hY rfl) (show 1 < 49 by decide) (lE hY rfl) (by decide) d_M_init_546 ?_
  refine j_iast (n := 36) C (kE hY rfl) (show 1 < 49 by decide) (lE hY rfl) (by decide) d_M_init_547 hf (fun μ271 hf => ?_)
  refine g_iinc (lvf := [(0, .ref (ad192 0))]) (v := 1) (w := 29) C d_M_init_548 0 rfl (by decide) (by decide) (by decide) rfl ?_
  refine j_goto C d_M_init_551 ?_
  refine j_iload_n C d_M_init_527 0 rfl ?_
  refine j_bipush (v := 36) C d_M_init_528 (by decide) ?_
  refine g_icmp_f C d_M_init_530 (by decide) ?_
  refine j_aload_n C d_M_init_533 1 rfl ?_
  refine ck hf (fun hg272 hf => ?_)
  refine g_gRs C fl_M_7 (kE hY rfl) (show 0 < 49 by decide) rfl hg272 d_M_init_534 ?_
  refine j_iload_n C d_M_init_537 0 rfl ?_
  refine j_aload_n C d_M_init_538 1 rfl ?_
  refine ck hf (fun hg273 hf => ?_)
  refine g_gRs C fl_M_7 (kE hY rfl) (show 0 < 49 by decide) rfl hg273 d_M_init_539 ?_
  refine j_bipush (v := 36) C d_M_init_542 (by decide) ?_
  refine j_iload_n C d_M_init_544 0 rfl ?_
  refine j_isub C d_M_init_545 ?_
  rw [show (36 : Int32) - 29 = 7 from by decide]
  refine j_iald (n := 36) C (kE hY rfl) (show 1 < 49 by decide) (lE hY rfl) (by decide) d_M_init_546 ?_
  refine j_iast (n := 36) C (kE hY rfl) (show 1 < 49 by decide) (lE hY rfl) (by decide) d_M_init_547 hf (fun μ274 hf => ?_)
  refine g_iinc (lvf := [(0, .ref (ad192 0))]) (v := 1) (w := 30) C d_M_init_548 0 rfl (by decide) (by decide) (by decide) rfl ?_
  refine j_goto C d_M_init_551 ?_
  refine j_iload_n C d_M_init_527 0 rfl ?_
  refine j_bipush (v := 36) C d_M_init_528 (by decide) ?_
  refine g_icmp_f C d_M_init_530 (by decide) ?_
  refine j_aload_n C d_M_init_533 1 rfl ?_
  refine ck hf (fun hg275 hf => ?_)
  refine g_gRs C fl_M_7 (kE hY rfl) (show 0 < 49 by decide) rfl hg275 d_M_init_534 ?_
  refine j_iload_n C d_M_init_537 0 rfl ?_
  refine j_aload_n C d_M_init_538 1 rfl ?_
  refine ck hf (fun hg276 hf => ?_)
  refine g_gRs C fl_M_7 (kE hY rfl) (show 0 < 49 by decide) rfl hg276 d_M_init_539 ?_
  refine j_bipush (v := 36) C d_M_init_542 (by decide) ?_
  refine j_iload_n C d_M_init_544 0 rfl ?_
  refine j_isub C d_M_init_545 ?_
  rw [show (36 : Int32) - 30 = 6 from by decide]
  refine j_iald (n := 36) C (kE hY rfl) (show 1 < 49 by decide) (lE hY rfl) (by decide) d_M_init_546 ?_
  refine j_iast (n := 36) C (kE hY rfl) (show 1 < 49 by decide) (lE hY rfl) (by decide) d_M_init_547 hf (fun μ277 hf => ?_)
  refine g_iinc (lvf := [(0, .ref (ad192 0))]) (v := 1) (w := 31) C d_M_init_548 0 rfl (by decide) (by decide) (by decide) rfl ?_
  refine j_goto C d_M_init_551 ?_
  refine j_iload_n C d_M_init_527 0 rfl ?_
  refine j_bipush (v := 36) C d_M_init_528 (by decide) ?_
  refine g_icmp_f C d_M_init_530 (by decide) ?_
  refine j_aload_n C d_M_init_533 1 rfl ?_
  refine ck hf (fun hg278 hf => ?_)
  refine g_gRs C fl_M_7 (kE hY rfl) (show 0 < 49 by decide) rfl hg278 d_M_init_534 ?_
  refine j_iload_n C d_M_init_537 0 rfl ?_
  refine j_aload_n C d_M_init_538 1 rfl ?_
  refine ck hf (fun hg279 hf => ?_)
  refine g_gRs C fl_M_7 (kE hY rfl) (show 0 < 49 by decide) rfl hg279 d_M_init_539 ?_
  refine j_bipush (v := 36) C d_M_init_542 (by decide) ?_
  refine j_iload_n C d_M_init_544 0 rfl ?_
  refine j_isub C d_M_init_545 ?_
  rw [show (36 : Int32) - 31 = 5 from by decide]
  refine j_iald (n := 36) C (kE hY rfl) (show 1 < 49 by decide) (lE hY rfl) (by decide) d_M_init_546 ?_
  refine j_iast (n := 36) C (kE hY rfl) (show 1 < 49 by decide) (lE hY rfl) (by decide) d_M_init_547 hf (fun μ280 hf => ?_)
  refine g_iinc (lvf := [(0, .ref (ad192 0))]) (v := 1) (w := 32) C d_M_init_548 0 rfl (by decide) (by decide) (by decide) rfl ?_
  refine j_goto C d_M_init_551 ?_
  refine j_iload_n C d_M_init_527 0 rfl ?_
  refine j_bipush (v := 36) C d_M_init_528 (by decide) ?_
  refine g_icmp_f C d_M_init_530 (by decide) ?_
  refine j_aload_n C d_M_init_533 1 rfl ?_
  refine ck hf (fun hg281 hf => ?_)
  refine g_gRs C fl_M_7 (kE hY rfl) (show 0 < 49 by decide) rfl hg281 d_M_init_534 ?_
  refine j_iload_n C d_M_init_537 0 rfl ?_
  refine j_aload_n C d_M_init_538 1 rfl ?_
  refine ck hf (fun hg282 hf => ?_)
  refine g_gRs C fl_M_7 (kE hY rfl) (show 0 < 49 by decide) rfl hg282 d_M_init_539 ?_
  refine j_bipush (v := 36) C d_M_init_542 (by decide) ?_
  refine j_iload_n C d_M_init_544 0 rfl ?_
  refine j_isub C d_M_init_545 ?_
  rw [show (36 : Int32) - 32 = 4 from by decide]
  refine j_iald (n := 36) C (kE hY rfl) (show 1 < 49 by decide) (lE hY rfl) (by decide) d_M_init_546 ?_
  refine j_iast (n := 36) C (kE hY rfl) (show 1 < 49 by decide) (lE hY rfl) (by decide) d_M_init_547 hf (fun μ283 hf => ?_)
  refine g_iinc (lvf := [(0, .ref (ad192 0))]) (v := 1) (w := 33) C d_M_init_548 0 rfl (by decide) (by decide) (by decide) rfl ?_
  refine j_goto C d_M_init_551 ?_
  refine j_iload_n C d_M_init_527 0 rfl ?_
  refine j_bipush (v := 36) C d_M_init_528 (by decide) ?_
  refine g_icmp_f C d_M_init_530 (by decide) ?_
  refine j_aload_n C d_M_init_533 1 rfl ?_
  refine ck hf (fun hg284 hf => ?_)
  refine g_gRs C fl_M_7 (kE hY rfl) (show 0 < 49 by decide) rfl hg284 d_M_init_534 ?_
  refine j_iload_n C d_M_init_537 0 rfl ?_
  refine j_aload_n C d_M_init_538 1 rfl ?_
  refine ck hf (fun hg285 hf => ?_)
  refine g_gRs C fl_M_7 (kE hY rfl) (show 0 < 49 by decide) rfl hg285 d_M_init_539 ?_
  refine j_bipush (v := 36) C d_M_init_542 (by decide) ?_
  refine j_iload_n C d_M_init_544 0 rfl ?_
  refine j_isub C d_M_init_545 ?_
  rw [show (36 : Int32) - 33 = 3 from by decide]
  refine j_iald (n := 36) C (kE hY rfl) (show 1 < 49 by decide) (lE hY rfl) (by decide) d_M_init_546 ?_
  refine j_iast (n := 36) C (kE hY rfl) (show 1 < 49 by decide) (lE hY rfl) (by decide) d_M_init_547 hf (fun μ286 hf => ?_)
  refine g_iinc (lvf := [(0, .ref (ad192 0))]) (v := 1) (w := 34) C d_M_init_548 0 rfl (by decide) (by decide) (by decide) rfl ?_
  refine j_goto C d_M_init_551 ?_
  refine j_iload_n C d_M_init_527 0 rfl ?_
  refine j_bipush (v := 36) C d_M_init_528 (by decide) ?_
  refine g_icmp_f C d_M_init_530 (by decide) ?_
  refine j_aload_n C d_M_init_533 1 rfl ?_
  refine ck hf (fun hg287 hf => ?_)
  refine g_gRs C fl_M_7 (kE hY rfl) (show 0 < 49 by decide) rfl hg287 d_M_init_534 ?_
  refine j_iload_n C d_M_init_537 0 rfl ?_
  refine j_aload_n C d_M_init_538 1 rfl ?_
  refine ck hf (fun hg288 hf => ?_)
  refine g_gRs C fl_M_7 (kE hY rfl) (show 0 < 49 by decide) rfl hg288 d_M_init_539 ?_
  refine j_bipush (v := 36) C d_M_init_542 (by decide) ?_
  refine j_iload_n C d_M_init_544 0 rfl ?_
  refine j_isub C d_M_init_545 ?_
  rw [show (36 : Int32) - 34 = 2 from by decide]
  refine j_iald (n := 36) C (kE hY rfl) (show 1 < 49 by decide) (lE hY rfl) (by decide) d_M_init_546 ?_
  refine j_iast (n := 36) C (kE hY rfl) (show 1 < 49 by decide) (lE hY rfl) (by decide) d_M_init_547 hf (fun μ289 hf => ?_)
  refine g_iinc (lvf := [(0, .ref (ad192 0))]) (v := 1) (w := 35) C d_M_init_548 0 rfl (by decide) (by decide) (by decide) rfl ?_
  refine j_goto C d_M_init_551 ?_
  refine j_iload_n C d_M_init_527 0 rfl ?_
  refine j_bipush (v := 36) C d_M_init_528 (by decide) ?_
  refine g_icmp_f C d_M_init_530 (by decide) ?_
  refine j_aload_n C d_M_init_533 1 rfl ?_
  refine ck hf (fun hg290 hf => ?_)
  refine g_gRs C fl_M_7 (kE hY rfl) (show 0 < 49 by decide) rfl hg290 d_M_init_534 ?_
  refine j_iload_n C d_M_init_537 0 rfl ?_
  refine j_aload_n C d_M_init_538 1 rfl ?_
  refine ck hf (fun hg291 hf => ?_)
  refine g_gRs C fl_M_7 (kE hY rfl) (show 0 < 49 by decide) rfl hg291 d_M_init_539 ?_
  refine j_bipush (v := 36) C d_M_init_542 (by decide) ?_
  refine j_iload_n C d_M_init_544 0 rfl ?_
  refine j_isub C d_M_init_545 ?_
  rw [show (36 : Int32) - 35 = 1 from by decide]
  refine j_iald (n := 36) C (kE hY rfl) (show 1 < 49 by decide) (lE hY rfl) (by decide) d_M_init_546 ?_
  refine j_iast (n := 36) C (kE hY rfl) (show 1 < 49 by decide) (lE hY rfl) (by decide) d_M_init_547 hf (fun μ292 hf => ?_)
  refine g_iinc (lvf := [(0, .ref (ad192 0))]) (v := 1) (w := 36) C d_M_init_548 0 rfl (by decide) (by decide) (by decide) rfl ?_
  refine j_goto C d_M_init_551 ?_
  refine j_iload_n C d_M_init_527 0 rfl ?_
  refine j_bipush (v := 36) C d_M_init_528 (by decide) ?_
  refine g_icmp_t C d_M_init_530 (by decide) ?_
  refine j_iconst (v := 0) C d_M_init_554 (by decide) ?_
  refine j_istore_n (lvf := [(0, .ref (ad192 0))]) C d_M_init_555 (by decide) rfl ?_
  refine j_iload_n C d_M_init_556 0 rfl ?_
  refine j_bipush (v := 8) C d_M_init_557 (by decide) ?_
  refine g_icmp_f C d_M_init_559 (by decide) ?_
  refine j_aload_n C d_M_init_562 1 rfl ?_
  refine ck hf (fun hg293 hf => ?_)
  refine g_gRs C fl_M_31 (kE hY rfl) (show 0 < 49 by decide) rfl hg293 d_M_init_563 ?_
  refine j_iload_n C d_M_init_566 0 rfl ?_
  refine j_bipush (v := 100) C d_M_init_567 (by decide) ?_
  refine j_iast (n := 8) C (kE hY rfl) (show 8 < 49 by decide) (lE hY rfl) (by decide) d_M_init_569 hf (fun μ294 hf => ?_)
  refine g_iinc (lvf := [(0, .ref (ad192 0))]) (v := 1) (w := 1) C d_M_init_570 0 rfl (by decide) (by decide) (by decide) rfl ?_
  refine j_goto C d_M_init_573 ?_
  refine j_iload_n C d_M_init_556 0 rfl ?_
  refine j_bipush (v := 8) C d_M_init_557 (by decide) ?_
  refine g_icmp_f C d_M_init_559 (by decide) ?_
  refine j_aload_n C d_M_init_562 1 rfl ?_
  refine ck hf (fun hg295 hf => ?_)
  refine g_gRs C fl_M_31 (kE hY rfl) (show 0 < 49 by decide) rfl hg295 d_M_init_563 ?_
  refine j_iload_n C d_M_init_566 0 rfl ?_
  refine j_bipush (v := 100) C d_M_init_567 (by decide) ?_
  refine j_iast (n := 8) C (kE hY rfl) (show 8 < 49 by decide) (lE hY rfl) (by decide) d_M_init_569 hf (fun μ296 hf => ?_)
  refine g_iinc (lvf := [(0, .ref (ad192 0))]) (v := 1) (w := 2) C d_M_init_570 0 rfl (by decide) (by decide) (by decide) rfl ?_
  refine j_goto C d_M_init_573 ?_
  refine j_iload_n C d_M_init_556 0 rfl ?_
  refine j_bipush (v := 8) C d_M_init_557 (by decide) ?_
  refine g_icmp_f C d_M_init_559 (by decide) ?_
  refine j_aload_n C d_M_init_562 1 rfl ?_
  refine ck hf (fun hg297 hf => ?_)
  refine g_gRs C fl_M_31 (kE hY rfl) (show 0 < 49 by decide) rfl hg297 d_M_init_563 ?_
  refine j_iload_n C d_M_init_566 0 rfl ?_
  refine j_bipush (v := 100) C d_M_init_567 (by decide) ?_
  refine j_iast (n := 8) C (kE hY rfl) (show 8 < 49 by decide) (lE hY rfl) (by decide) d_M_init_569 hf (fun μ298 hf => ?_)
  refine g_iinc (lvf := [(0, .ref (ad192 0))]) (v := 1) (w := 3) C d_M_init_570 0 rfl (by decide) (by decide) (by decide) rfl ?_
  refine j_goto C d_M_init_573 ?_
  refine j_iload_n C d_M_init_556 0 rfl ?_
  refine j_bipush (v := 8) C d_M_init_557 (by decide) ?_
  refine g_icmp_f C d_M_init_559 (by decide) ?_
  refine j_aload_n C d_M_init_562 1 rfl ?_
  refine ck hf (fun hg299 hf => ?_)
  refine g_gRs C fl_M_31 (kE hY rfl) (show 0 < 49 by decide) rfl hg299 d_M_init_563 ?_
  refine j_iload_n C d_M_init_566 0 rfl ?_
  refine j_bipush (v := 100) C d_M_init_567 (by decide) ?_
  refine j_iast (n := 8) C (kE hY rfl) (show 8 < 49 by decide) (lE hY rfl) (by decide) d_M_init_569 hf (fun μ300 hf => ?_)
  refine g_iinc (lvf := [(0, .ref (ad192 0))]) (v := 1) (w := 4) C d_M_init_570 0 rfl (by decide) (by decide) (by decide) rfl ?_
  refine j_goto C d_M_init_573 ?_
  refine j_iload_n C d_M_init_556 0 rfl ?_
  refine j_bipush (v := 8) C d_M_init_557 (by decide) ?_
  refine g_icmp_f C d_M_init_559 (by decide) ?_
  refine j_aload_n C d_M_init_562 1 rfl ?_
  refine ck hf (fun hg301 hf => ?_)
  refine g_gRs C fl_M_31 (kE hY rfl) (show 0 < 49 by decide) rfl hg301 d_M_init_563 ?_
  refine j_iload_n C d_M_init_566 0 rfl ?_
  refine j_bipush (v := 100) C d_M_init_567 (by decide) ?_
  refine j_iast (n := 8) C (kE hY rfl) (show 8 < 49 by decide) (lE hY rfl) (by decide) d_M_init_569 hf (fun μ302 hf => ?_)
  refine g_iinc (lvf := [(0, .ref (ad192 0))]) (v := 1) (w := 5) C d_M_init_570 0 rfl (by decide) (by decide) (by decide) rfl ?_
  refine j_goto C d_M_init_573 ?_
  refine j_iload_n C d_M_init_556 0 rfl ?_
  refine j_bipush (v := 8) C d_M_init_557 (by decide) ?_
  refine g_icmp_f C d_M_init_559 (by decide) ?_
  refine j_aload_n C d_M_init_562 1 rfl ?_
  refine ck hf (fun hg303 hf => ?_)
  refine g_gRs C fl_M_31 (kE hY rfl) (show 0 < 49 by decide) rfl hg303 d_M_init_563 ?_
  refine j_iload_n C d_M_init_566 0 rfl ?_
  refine j_bipush (v := 100) C d_M_init_567 (by decide) ?_
  refine j_iast (n := 8) C (kE hY rfl) (show 8 < 49 by decide) (lE hY rfl) (by decide) d_M_init_569 hf (fun μ304 hf => ?_)
  refine g_iinc (lvf := [(0, .ref (ad192 0))]) (v := 1) (w := 6) C d_M_init_570 0 rfl (by decide) (by decide) (by decide) rfl ?_
  refine j_goto C d_M_init_573 ?_
  refine j_iload_n C d_M_init_556 0 rfl ?_
  refine j_bipush (v := 8) C d_M_init_557 (by decide) ?_
  refine g_icmp_f C d_M_init_559 (by decide) ?_
  refine j_aload_n C d_M_init_562 1 rfl ?_
  refine ck hf (fun hg305 hf => ?_)
  refine g_gRs C fl_M_31 (kE hY rfl) (show 0 < 49 by decide) rfl hg305 d_M_init_563 ?_
  refine j_iload_n C d_M_init_566 0 rfl ?_
  refine j_bipush (v := 100) C d_M_init_567 (by decide) ?_
  refine j_iast (n := 8) C (kE hY rfl) (show 8 < 49 by decide) (lE hY rfl) (by decide) d_M_init_569 hf (fun μ306 hf => ?_)
  refine g_iinc (lvf := [(0, .ref (ad192 0))]) (v := 1) (w := 7) C d_M_init_570 0 rfl (by decide) (by decide) (by decide) rfl ?_
  refine j_goto C d_M_init_573 ?_
  refine j_iload_n C d_M_init_556 0 rfl ?_
  refine j_bipush (v := 8) C d_M_init_557 (by decide) ?_
  refine g_icmp_f C d_M_init_559 (by decide) ?_
  refine j_aload_n C d_M_init_562 1 rfl ?_
  refine ck hf (fun hg307 hf => ?_)
  refine g_gRs C fl_M_31 (kE hY rfl) (show 0 < 49 by decide) rfl hg307 d_M_init_563 ?_
  refine j_iload_n C d_M_init_566 0 rfl ?_
  refine j_bipush (v := 100) C d_M_init_567 (by decide) ?_
  refine j_iast (n := 8) C (kE hY rfl) (show 8 < 49 by decide) (lE hY rfl) (by decide) d_M_init_569 hf (fun μ308 hf => ?_)
  refine g_iinc (lvf := [(0, .ref (ad192 0))]) (v := 1) (w := 8) C d_M_init_570 0 rfl (by decide) (by decide) (by decide) rfl ?_
  refine j_goto C d_M_init_573 ?_
  refine j_iload_n C d_M_init_556 0 rfl ?_
  refine j_bipush (v := 8) C d_M_init_557 (by decide) ?_
  refine g_icmp_t C d_M_init_559 (by decide) ?_
  refine j_iconst (v := 0) C d_M_init_576 (by decide) ?_
  refine j_istore_n (lvf := [(0, .ref (ad192 0))]) C d_M_init_577 (by decide) rfl ?_
  refine j_iload_n C d_M_init_578 0 rfl ?_
  refine j_iconst (v := 4) C d_M_init_579 (by decide) ?_
  refine g_icmp_f C d_M_init_580 (by decide) ?_
  refine j_aload_n C d_M_init_583 1 rfl ?_
  refine ck hf (fun hg309 hf => ?_)
  refine g_gRs C fl_M_150 (kE hY rfl) (show 0 < 49 by decide) rfl hg309 d_M_init_584 ?_
  refine j_iload_n C d_M_init_587 0 rfl ?_
  refine j_iconst (v := (-1)) C d_M_init_588 (by decide) ?_
  refine j_iast (n := 4) C (kE hY rfl) (show 45 < 49 by decide) (lE hY rfl) (by decide) d_M_init_589 hf (fun μ310 hf => ?_)
  refine g_iinc (lvf := [(0, .ref (ad192 0))]) (v := 1) (w := 1) C d_M_init_590 0 rfl (by decide) (by decide) (by decide) rfl ?_
  refine j_goto C d_M_init_593 ?_
  refine j_iload_n C d_M_init_578 0 rfl ?_
  refine j_iconst (v := 4) C d_M_init_579 (by decide) ?_
  refine g_icmp_f C d_M_init_580 (by decide) ?_
  refine j_aload_n C d_M_init_583 1 rfl ?_
  refine ck hf (fun hg311 hf => ?_)
  refine g_gRs C fl_M_150 (kE hY rfl) (show 0 < 49 by decide) rfl hg311 d_M_init_584 ?_
  refine j_iload_n C d_M_init_587 0 rfl ?_
  refine j_iconst (v := (-1)) C d_M_init_588 (by decide) ?_
  refine j_iast (n := 4) C (kE hY rfl) (show 45 < 49 by decide) (lE hY rfl) (by decide) d_M_init_589 hf (fun μ312 hf => ?_)
  refine g_iinc (lvf := [(0, .ref (ad192 0))]) (v := 1) (w := 2) C d_M_init_590 0 rfl (by decide) (by decide) (by decide) rfl ?_
  refine j_goto C d_M_init_593 ?_
  refine j_iload_n C d_M_init_578 0 rfl ?_
  refine j_iconst (v := 4) C d_M_init_579 (by decide) ?_
  refine g_icmp_f C d_M_init_580 (by decide) ?_
  refine j_aload_n C d_M_init_583 1 rfl ?_
  refine ck hf (fun hg313 hf => ?_)
  refine g_gRs C fl_M_150 (kE hY rfl) (show 0 < 49 by decide) rfl hg313 d_M_init_584 ?_
  refine j_iload_n C d_M_init_587 0 rfl ?_
  refine j_iconst (v := (-1)) C d_M_init_588 (by decide) ?_
  refine j_iast (n := 4) C (kE hY rfl) (show 45 < 49 by decide) (lE hY rfl) (by decide) d_M_init_589 hf (fun μ314 hf => ?_)
  refine g_iinc (lvf := [(0, .ref (ad192 0))]) (v := 1) (w := 3) C d_M_init_590 0 rfl (by decide) (by decide) (by decide) rfl ?_
  refine j_goto C d_M_init_593 ?_
  refine j_iload_n C d_M_init_578 0 rfl ?_
  refine j_iconst (v := 4) C d_M_init_579 (by decide) ?_
  refine g_icmp_f C d_M_init_580 (by decide) ?_
  refine j_aload_n C d_M_init_583 1 rfl ?_
  refine ck hf (fun hg315 hf => ?_)
  refine g_gRs C fl_M_150 (kE hY rfl) (show 0 < 49 by decide) rfl hg315 d_M_init_584 ?_
  refine j_iload_n C d_M_init_587 0 rfl ?_
  refine j_iconst (v := (-1)) C d_M_init_588 (by decide) ?_
  refine j_iast (n := 4) C (kE hY rfl) (show 45 < 49 by decide) (lE hY rfl) (by decide) d_M_init_589 hf (fun μ316 hf => ?_)
  refine g_iinc (lvf := [(0, .ref (ad192 0))]) (v := 1) (w := 4) C d_M_init_590 0 rfl (by decide) (by decide) (by decide) rfl ?_
  refine j_goto C d_M_init_593 ?_
  refine j_iload_n C d_M_init_578 0 rfl ?_
  refine j_iconst (v := 4) C d_M_init_579 (by decide) ?_
  refine g_icmp_t C d_M_init_580 (by decide) ?_
  obtain rfl := Option.some.inj hf
  exact g_vret C (fun a h => hag a (by omega)) d_M_init_596

/-! decode rows -/
theorem dd_G_init_0 : decode prog_2_method_1_code 0 = .ok (.aload_n 0, 1) := by decide +kernel
theorem dd_G_init_1 : decode prog_2_method_1_code 1 = .ok (.invokespecial 3, 3) := by decide +kernel
theorem dd_G_init_4 : decode prog_2_method_1_code 4 = .ok (.aload_n 0, 1) := by decide +kernel
theorem dd_G_init_5 : decode prog_2_method_1_code 5 = .ok (.iconst 0, 1) := by decide +kernel
theorem dd_G_init_6 : decode prog_2_method_1_code 6 = .ok (.putfield 9, 3) := by decide +kernel
theorem dd_G_init_9 : decode prog_2_method_1_code 9 = .ok (.aload_n 0, 1) := by decide +kernel
theorem dd_G_init_10 : decode prog_2_method_1_code 10 = .ok (.iconst 1, 1) := by decide +kernel
theorem dd_G_init_11 : decode prog_2_method_1_code 11 = .ok (.putfield 15, 3) := by decide +kernel
theorem dd_G_init_14 : decode prog_2_method_1_code 14 = .ok (.aload_n 0, 1) := by decide +kernel
theorem dd_G_init_15 : decode prog_2_method_1_code 15 = .ok (.iconst 0, 1) := by decide +kernel
theorem dd_G_init_16 : decode prog_2_method_1_code 16 = .ok (.putfield 18, 3) := by decide +kernel
theorem dd_G_init_19 : decode prog_2_method_1_code 19 = .ok (.aload_n 0, 1) := by decide +kernel
theorem dd_G_init_20 : decode prog_2_method_1_code 20 = .ok (.iconst 1, 1) := by decide +kernel
theorem dd_G_init_21 : decode prog_2_method_1_code 21 = .ok (.putfield 21, 3) := by decide +kernel
theorem dd_G_init_24 : decode prog_2_method_1_code 24 = .ok (.aload_n 0, 1) := by decide +kernel
theorem dd_G_init_25 : decode prog_2_method_1_code 25 = .ok (.iconst 0, 1) := by decide +kernel
theorem dd_G_init_26 : decode prog_2_method_1_code 26 = .ok (.putfield 24, 3) := by decide +kernel
theorem dd_G_init_29 : decode prog_2_method_1_code 29 = .ok (.aload_n 0, 1) := by decide +kernel
theorem dd_G_init_30 : decode prog_2_method_1_code 30 = .ok (.iconst 0, 1) := by decide +kernel
theorem dd_G_init_31 : decode prog_2_method_1_code 31 = .ok (.putfield 27, 3) := by decide +kernel
theorem dd_G_init_34 : decode prog_2_method_1_code 34 = .ok (.return_, 1) := by decide +kernel
theorem dd_G_become_0 : decode prog_2_method_2_code 0 = .ok (.aload_n 0, 1) := by decide +kernel
theorem dd_G_become_1 : decode prog_2_method_2_code 1 = .ok (.iload_n 1, 1) := by decide +kernel
theorem dd_G_become_2 : decode prog_2_method_2_code 2 = .ok (.putfield 9, 3) := by decide +kernel
theorem dd_G_become_5 : decode prog_2_method_2_code 5 = .ok (.aload_n 0, 1) := by decide +kernel
theorem dd_G_become_6 : decode prog_2_method_2_code 6 = .ok (.iload_n 2, 1) := by decide +kernel
theorem dd_G_become_7 : decode prog_2_method_2_code 7 = .ok (.putfield 15, 3) := by decide +kernel
theorem dd_G_become_10 : decode prog_2_method_2_code 10 = .ok (.aload_n 0, 1) := by decide +kernel
theorem dd_G_become_11 : decode prog_2_method_2_code 11 = .ok (.iload_n 3, 1) := by decide +kernel
theorem dd_G_become_12 : decode prog_2_method_2_code 12 = .ok (.putfield 18, 3) := by decide +kernel
theorem dd_G_become_15 : decode prog_2_method_2_code 15 = .ok (.aload_n 0, 1) := by decide +kernel
theorem dd_G_become_16 : decode prog_2_method_2_code 16 = .ok (.aload_n 0, 1) := by decide +kernel
theorem dd_G_become_17 : decode prog_2_method_2_code 17 = .ok (.invokevirtual 31, 3) := by decide +kernel
theorem dd_G_become_20 : decode prog_2_method_2_code 20 = .ok (.putfield 21, 3) := by decide +kernel
theorem dd_G_become_23 : decode prog_2_method_2_code 23 = .ok (.aload_n 0, 1) := by decide +kernel
theorem dd_G_become_24 : decode prog_2_method_2_code 24 = .ok (.aload_n 0, 1) := by decide +kernel
theorem dd_G_become_25 : decode prog_2_method_2_code 25 = .ok (.invokevirtual 35, 3) := by decide +kernel
theorem dd_G_become_28 : decode prog_2_method_2_code 28 = .ok (.putfield 24, 3) := by decide +kernel
theorem dd_G_become_31 : decode prog_2_method_2_code 31 = .ok (.return_, 1) := by decide +kernel
theorem dd_G_copyFrom_0 : decode prog_2_method_3_code 0 = .ok (.aload_n 0, 1) := by decide +kernel
theorem dd_G_copyFrom_1 : decode prog_2_method_3_code 1 = .ok (.aload_n 1, 1) := by decide +kernel
theorem dd_G_copyFrom_2 : decode prog_2_method_3_code 2 = .ok (.getfield 9, 3) := by decide +kernel
theorem dd_G_copyFrom_5 : decode prog_2_method_3_code 5 = .ok (.putfield 9, 3) := by decide +kernel
theorem dd_G_copyFrom_8 : decode prog_2_method_3_code 8 = .ok (.aload_n 0, 1) := by decide +kernel
theorem dd_G_copyFrom_9 : decode prog_2_method_3_code 9 = .ok (.aload_n 1, 1) := by decide +kernel
theorem dd_G_copyFrom_10 : decode prog_2_method_3_code 10 = .ok (.getfield 15, 3) := by decide +kernel
theorem dd_G_copyFrom_13 : decode prog_2_method_3_code 13 = .ok (.putfield 15, 3) := by decide +kernel
theorem dd_G_copyFrom_16 : decode prog_2_method_3_code 16 = .ok (.aload_n 0, 1) := by decide +kernel
theorem dd_G_copyFrom_17 : decode prog_2_method_3_code 17 = .ok (.aload_n 1, 1) := by decide +kernel
theorem dd_G_copyFrom_18 : decode prog_2_method_3_code 18 = .ok (.getfield 18, 3) := by decide +kernel
theorem dd_G_copyFrom_21 : decode prog_2_method_3_code 21 = .ok (.putfield 18, 3) := by decide +kernel
theorem dd_G_copyFrom_24 : decode prog_2_method_3_code 24 = .ok (.aload_n 0, 1) := by decide +kernel
theorem dd_G_copyFrom_25 : decode prog_2_method_3_code 25 = .ok (.aload_n 1, 1) := by decide +kernel
theorem dd_G_copyFrom_26 : decode prog_2_method_3_code 26 = .ok (.getfield 21, 3) := by decide +kernel
theorem dd_G_copyFrom_29 : decode prog_2_method_3_code 29 = .ok (.putfield 21, 3) := by decide +kernel
theorem dd_G_copyFrom_32 : decode prog_2_method_3_code 32 = .ok (.aload_n 0, 1) := by decide +kernel
theorem dd_G_copyFrom_33 : decode prog_2_method_3_code 33 = .ok (.aload_n 1, 1) := by decide +kernel
theorem dd_G_copyFrom_34 : decode prog_2_method_3_code 34 = .ok (.getfield 24, 3) := by decide +kernel
theorem dd_G_copyFrom_37 : decode prog_2_method_3_code 37 = .ok (.putfield 24, 3) := by decide +kernel
theorem dd_G_copyFrom_40 : decode prog_2_method_3_code 40 = .ok (.aload_n 0, 1) := by decide +kernel
theorem dd_G_copyFrom_41 : decode prog_2_method_3_code 41 = .ok (.aload_n 1, 1) := by decide +kernel
theorem dd_G_copyFrom_42 : decode prog_2_method_3_code 42 = .ok (.getfield 27, 3) := by decide +kernel
theorem dd_G_copyFrom_45 : decode prog_2_method_3_code 45 = .ok (.putfield 27, 3) := by decide +kernel
theorem dd_G_copyFrom_48 : decode prog_2_method_3_code 48 = .ok (.return_, 1) := by decide +kernel
theorem dd_G_heftByKind_0 : decode prog_2_method_4_code 0 = .ok (.aload_n 0, 1) := by decide +kernel
theorem dd_G_heftByKind_1 : decode prog_2_method_4_code 1 = .ok (.getfield 9, 3) := by decide +kernel
theorem dd_G_heftByKind_4 : decode prog_2_method_4_code 4 = .ok (.tableswitch 53 1 3 #[28, 35, 44], 28) := by decide +kernel
theorem dd_G_heftByKind_32 : decode prog_2_method_4_code 32 = .ok (.iconst 2, 1) := by decide +kernel
theorem dd_G_heftByKind_33 : decode prog_2_method_4_code 33 = .ok (.aload_n 0, 1) := by decide +kernel
theorem dd_G_heftByKind_34 : decode prog_2_method_4_code 34 = .ok (.getfield 15, 3) := by decide +kernel
theorem dd_G_heftByKind_37 : decode prog_2_method_4_code 37 = .ok (.imul, 1) := by decide +kernel
theorem dd_G_heftByKind_38 : decode prog_2_method_4_code 38 = .ok (.ireturn, 1) := by decide +kernel
theorem dd_G_heftByKind_39 : decode prog_2_method_4_code 39 = .ok (.aload_n 0, 1) := by decide +kernel
theorem dd_G_heftByKind_40 : decode prog_2_method_4_code 40 = .ok (.getfield 15, 3) := by decide +kernel
theorem dd_G_heftByKind_43 : decode prog_2_method_4_code 43 = .ok (.iconst 1, 1) := by decide +kernel
theorem dd_G_heftByKind_44 : decode prog_2_method_4_code 44 = .ok (.iadd, 1) := by decide +kernel
theorem dd_G_heftByKind_45 : decode prog_2_method_4_code 45 = .ok (.iconst 2, 1) := by decide +kernel
theorem dd_G_heftByKind_46 : decode prog_2_method_4_code 46 = .ok (.idiv, 1) := by decide +kernel
theorem dd_G_heftByKind_47 : decode prog_2_method_4_code 47 = .ok (.ireturn, 1) := by decide +kernel
theorem dd_G_heftByKind_48 : decode prog_2_method_4_code 48 = .ok (.iconst 2, 1) := by decide +kernel
theorem dd_G_heftByKind_49 : decode prog_2_method_4_code 49 = .ok (.aload_n 0, 1) := by decide +kernel
theorem dd_G_heftByKind_50 : decode prog_2_method_4_code 50 = .ok (.getfield 15, 3) := by decide +kernel
theorem dd_G_heftByKind_53 : decode prog_2_method_4_code 53 = .ok (.imul, 1) := by decide +kernel
theorem dd_G_heftByKind_54 : decode prog_2_method_4_code 54 = .ok (.iconst 1, 1) := by decide +kernel
theorem dd_G_heftByKind_55 : decode prog_2_method_4_code 55 = .ok (.isub, 1) := by decide +kernel
theorem dd_G_heftByKind_56 : decode prog_2_method_4_code 56 = .ok (.ireturn, 1) := by decide +kernel
theorem dd_G_heftByKind_57 : decode prog_2_method_4_code 57 = .ok (.aload_n 0, 1) := by decide +kernel
theorem dd_G_heftByKind_58 : decode prog_2_method_4_code 58 = .ok (.getfield 15, 3) := by decide +kernel
theorem dd_G_heftByKind_61 : decode prog_2_method_4_code 61 = .ok (.ireturn, 1) := by decide +kernel
theorem dd_G_paysByKind_0 : decode prog_2_method_5_code 0 = .ok (.aload_n 0, 1) := by decide +kernel
theorem dd_G_paysByKind_1 : decode prog_2_method_5_code 1 = .ok (.getfield 9, 3) := by decide +kernel
theorem dd_G_paysByKind_4 : decode prog_2_method_5_code 4 = .ok (.lookupswitch 46 #[(2, 28), (3, 39)], 28) := by decide +kernel
theorem dd_G_paysByKind_32 : decode prog_2_method_5_code 32 = .ok (.iconst 0, 1) := by decide +kernel
theorem dd_G_paysByKind_33 : decode prog_2_method_5_code 33 = .ok (.aload_n 0, 1) := by decide +kernel
theorem dd_G_paysByKind_34 : decode prog_2_method_5_code 34 = .ok (.getfield 18, 3) := by decide +kernel
theorem dd_G_paysByKind_37 : decode prog_2_method_5_code 37 = .ok (.iconst 2, 1) := by decide +kernel
theorem dd_G_paysByKind_38 : decode prog_2_method_5_code 38 = .ok (.isub, 1) := by decide +kernel
theorem dd_G_paysByKind_39 : decode prog_2_method_5_code 39 = .ok (.invokestatic 38, 3) := by decide +kernel
theorem dd_G_paysByKind_42 : decode prog_2_method_5_code 42 = .ok (.ireturn, 1) := by decide +kernel
theorem dd_G_paysByKind_43 : decode prog_2_method_5_code 43 = .ok (.iconst 2, 1) := by decide +kernel
theorem dd_G_paysByKind_44 : decode prog_2_method_5_code 44 = .ok (.aload_n 0, 1) := by decide +kernel
theorem dd_G_paysByKind_45 : decode prog_2_method_5_code 45 = .ok (.getfield 18, 3) := by decide +kernel
theorem dd_G_paysByKind_48 : decode prog_2_method_5_code 48 = .ok (.imul, 1) := by decide +kernel
theorem dd_G_paysByKind_49 : decode prog_2_method_5_code 49 = .ok (.ireturn, 1) := by decide +kernel
theorem dd_G_paysByKind_50 : decode prog_2_method_5_code 50 = .ok (.aload_n 0, 1) := by decide +kernel
theorem dd_G_paysByKind_51 : decode prog_2_method_5_code 51 = .ok (.getfield 18, 3) := by decide +kernel
theorem dd_G_paysByKind_54 : decode prog_2_method_5_code 54 = .ok (.ireturn, 1) := by decide +kernel
theorem dd_O_init_0 : decode prog_3_method_1_code 0 = .ok (.aload_n 0, 1) := by decide +kernel
theorem dd_O_init_1 : decode prog_3_method_1_code 1 = .ok (.invokespecial 1, 3) := by decide +kernel
theorem dd_O_init_4 : decode prog_3_method_1_code 4 = .ok (.aload_n 0, 1) := by decide +kernel
theorem dd_O_init_5 : decode prog_3_method_1_code 5 = .ok (.iconst 1, 1) := by decide +kernel
theorem dd_O_init_6 : decode prog_3_method_1_code 6 = .ok (.putfield 7, 3) := by decide +kernel
theorem dd_O_init_9 : decode prog_3_method_1_code 9 = .ok (.aload_n 0, 1) := by decide +kernel
theorem dd_O_init_10 : decode prog_3_method_1_code 10 = .ok (.iconst 0, 1) := by decide +kernel
theorem dd_O_init_11 : decode prog_3_method_1_code 11 = .ok (.putfield 13, 3) := by decide +kernel
theorem dd_O_init_14 : decode prog_3_method_1_code 14 = .ok (.aload_n 0, 1) := by decide +kernel
theorem dd_O_init_15 : decode prog_3_method_1_code 15 = .ok (.iconst 0, 1) := by decide +kernel
theorem dd_O_init_16 : decode prog_3_method_1_code 16 = .ok (.putfield 16, 3) := by decide +kernel
theorem dd_O_init_19 : decode prog_3_method_1_code 19 = .ok (.aload_n 0, 1) := by decide +kernel
theorem dd_O_init_20 : decode prog_3_method_1_code 20 = .ok (.iconst 0, 1) := by decide +kernel
theorem dd_O_init_21 : decode prog_3_method_1_code 21 = .ok (.putfield 19, 3) := by decide +kernel
theorem dd_O_init_24 : decode prog_3_method_1_code 24 = .ok (.aload_n 0, 1) := by decide +kernel
theorem dd_O_init_25 : decode prog_3_method_1_code 25 = .ok (.iconst 0, 1) := by decide +kernel
theorem dd_O_init_26 : decode prog_3_method_1_code 26 = .ok (.putfield 22, 3) := by decide +kernel
theorem dd_O_init_29 : decode prog_3_method_1_code 29 = .ok (.return_, 1) := by decide +kernel
theorem dd_O_copyFrom_0 : decode prog_3_method_2_code 0 = .ok (.aload_n 0, 1) := by decide +kernel
theorem dd_O_copyFrom_1 : decode prog_3_method_2_code 1 = .ok (.aload_n 1, 1) := by decide +kernel
theorem dd_O_copyFrom_2 : decode prog_3_method_2_code 2 = .ok (.getfield 7, 3) := by decide +kernel
theorem dd_O_copyFrom_5 : decode prog_3_method_2_code 5 = .ok (.putfield 7, 3) := by decide +kernel
theorem dd_O_copyFrom_8 : decode prog_3_method_2_code 8 = .ok (.aload_n 0, 1) := by decide +kernel
theorem dd_O_copyFrom_9 : decode prog_3_method_2_code 9 = .ok (.aload_n 1, 1) := by decide +kernel
theorem dd_O_copyFrom_10 : decode prog_3_method_2_code 10 = .ok (.getfield 13, 3) := by decide +kernel
theorem dd_O_copyFrom_13 : decode prog_3_method_2_code 13 = .ok (.putfield 13, 3) := by decide +kernel
theorem dd_O_copyFrom_16 : decode prog_3_method_2_code 16 = .ok (.return_, 1) := by decide +kernel
theorem dd_O_emptyArms_0 : decode prog_3_method_3_code 0 = .ok (.aload_n 0, 1) := by decide +kernel
theorem dd_O_emptyArms_1 : decode prog_3_method_3_code 1 = .ok (.iconst 0, 1) := by decide +kernel
theorem dd_O_emptyArms_2 : decode prog_3_method_3_code 2 = .ok (.putfield 16, 3) := by decide +kernel
theorem dd_O_emptyArms_5 : decode prog_3_method_3_code 5 = .ok (.aload_n 0, 1) := by decide +kernel
theorem dd_O_emptyArms_6 : decode prog_3_method_3_code 6 = .ok (.iconst 0, 1) := by decide +kernel
theorem dd_O_emptyArms_7 : decode prog_3_method_3_code 7 = .ok (.putfield 19, 3) := by decide +kernel
theorem dd_O_emptyArms_10 : decode prog_3_method_3_code 10 = .ok (.aload_n 0, 1) := by decide +kernel
theorem dd_O_emptyArms_11 : decode prog_3_method_3_code 11 = .ok (.iconst 0, 1) := by decide +kernel
theorem dd_O_emptyArms_12 : decode prog_3_method_3_code 12 = .ok (.putfield 22, 3) := by decide +kernel
theorem dd_O_emptyArms_15 : decode prog_3_method_3_code 15 = .ok (.return_, 1) := by decide +kernel
theorem dd_O_isBent_0 : decode prog_3_method_4_code 0 = .ok (.aload_n 0, 1) := by decide +kernel
theorem dd_O_isBent_1 : decode prog_3_method_4_code 1 = .ok (.getfield 19, 3) := by decide +kernel
theorem dd_O_isBent_4 : decode prog_3_method_4_code 4 = .ok (.aload_n 0, 1) := by decide +kernel
theorem dd_O_isBent_5 : decode prog_3_method_4_code 5 = .ok (.getfield 7, 3) := by decide +kernel
theorem dd_O_isBent_8 : decode prog_3_method_4_code 8 = .ok (.if_icmp .ne 7, 3) := by decide +kernel
theorem dd_O_isBent_11 : decode prog_3_method_4_code 11 = .ok (.iconst 1, 1) := by decide +kernel
theorem dd_O_isBent_12 : decode prog_3_method_4_code 12 = .ok (.goto 4, 3) := by decide +kernel
theorem dd_O_isBent_15 : decode prog_3_method_4_code 15 = .ok (.iconst 0, 1) := by decide +kernel
theorem dd_O_isBent_16 : decode prog_3_method_4_code 16 = .ok (.ireturn, 1) := by decide +kernel
theorem dd_S_init_0 : decode prog_4_method_1_code 0 = .ok (.aload_n 0, 1) := by decide +kernel
theorem dd_S_init_1 : decode prog_4_method_1_code 1 = .ok (.invokespecial 3, 3) := by decide +kernel
theorem dd_S_init_4 : decode prog_4_method_1_code 4 = .ok (.aload_n 0, 1) := by decide +kernel
theorem dd_S_init_5 : decode prog_4_method_1_code 5 = .ok (.bipush 40, 2) := by decide +kernel
theorem dd_S_init_7 : decode prog_4_method_1_code 7 = .ok (.newarray .int, 2) := by decide +kernel
theorem dd_S_init_9 : decode prog_4_method_1_code 9 = .ok (.putfield 9, 3) := by decide +kernel
theorem dd_S_init_12 : decode prog_4_method_1_code 12 = .ok (.aload_n 0, 1) := by decide +kernel
theorem dd_S_init_13 : decode prog_4_method_1_code 13 = .ok (.iconst (-1), 1) := by decide +kernel
theorem dd_S_init_14 : decode prog_4_method_1_code 14 = .ok (.putfield 15, 3) := by decide +kernel
theorem dd_S_init_17 : decode prog_4_method_1_code 17 = .ok (.aload_n 0, 1) := by decide +kernel
theorem dd_S_init_18 : decode prog_4_method_1_code 18 = .ok (.iconst 0, 1) := by decide +kernel
theorem dd_S_init_19 : decode prog_4_method_1_code 19 = .ok (.putfield 19, 3) := by decide +kernel
theorem dd_S_init_22 : decode prog_4_method_1_code 22 = .ok (.return_, 1) := by decide +kernel
theorem dd_S_becomeRow_0 : decode prog_4_method_2_code 0 = .ok (.aload_n 0, 1) := by decide +kernel
theorem dd_S_becomeRow_1 : decode prog_4_method_2_code 1 = .ok (.iload_n 1, 1) := by decide +kernel
theorem dd_S_becomeRow_2 : decode prog_4_method_2_code 2 = .ok (.putfield 15, 3) := by decide +kernel
theorem dd_S_becomeRow_5 : decode prog_4_method_2_code 5 = .ok (.aload_n 0, 1) := by decide +kernel
theorem dd_S_becomeRow_6 : decode prog_4_method_2_code 6 = .ok (.iload_n 2, 1) := by decide +kernel
theorem dd_S_becomeRow_7 : decode prog_4_method_2_code 7 = .ok (.putfield 19, 3) := by decide +kernel
theorem dd_S_becomeRow_10 : decode prog_4_method_2_code 10 = .ok (.iconst 0, 1) := by decide +kernel
theorem dd_S_becomeRow_11 : decode prog_4_method_2_code 11 = .ok (.istore_n 3, 1) := by decide +kernel
theorem dd_S_becomeRow_12 : decode prog_4_method_2_code 12 = .ok (.iload_n 3, 1) := by decide +kernel
theorem dd_S_becomeRow_13 : decode prog_4_method_2_code 13 = .ok (.bipush 40, 2) := by decide +kernel
theorem dd_S_becomeRow_15 : decode prog_4_method_2_code 15 = .ok (.if_icmp .ge 16, 3) := by decide +kernel
theorem dd_S_becomeRow_18 : decode prog_4_method_2_code 18 = .ok (.aload_n 0, 1) := by decide +kernel
theorem dd_S_becomeRow_19 : decode prog_4_method_2_code 19 = .ok (.getfield 9, 3) := by decide +kernel
theorem dd_S_becomeRow_22 : decode prog_4_method_2_code 22 = .ok (.iload_n 3, 1) := by decide +kernel
theorem dd_S_becomeRow_23 : decode prog_4_method_2_code 23 = .ok (.iconst 0, 1) := by decide +kernel
theorem dd_S_becomeRow_24 : decode prog_4_method_2_code 24 = .ok (.iastore, 1) := by decide +kernel
theorem dd_S_becomeRow_25 : decode prog_4_method_2_code 25 = .ok (.iinc 3 1, 3) := by decide +kernel
theorem dd_S_becomeRow_28 : decode prog_4_method_2_code 28 = .ok (.goto (-16), 3) := by decide +kernel
theorem dd_S_becomeRow_31 : decode prog_4_method_2_code 31 = .ok (.return_, 1) := by decide +kernel
theorem dd_S_faultOfCells_0 : decode prog_4_method_3_code 0 = .ok (.aload_n 0, 1) := by decide +kernel
theorem dd_S_faultOfCells_1 : decode prog_4_method_3_code 1 = .ok (.getfield 15, 3) := by decide +kernel
theorem dd_S_faultOfCells_4 : decode prog_4_method_3_code 4 = .ok (.iconst (-1), 1) := by decide +kernel
theorem dd_S_faultOfCells_5 : decode prog_4_method_3_code 5 = .ok (.if_icmp .ne 5, 3) := by decide +kernel
theorem dd_S_faultOfCells_8 : decode prog_4_method_3_code 8 = .ok (.iconst 1, 1) := by decide +kernel
theorem dd_S_faultOfCells_9 : decode prog_4_method_3_code 9 = .ok (.ireturn, 1) := by decide +kernel
theorem dd_S_faultOfCells_10 : decode prog_4_method_3_code 10 = .ok (.aload_n 0, 1) := by decide +kernel
theorem dd_S_faultOfCells_11 : decode prog_4_method_3_code 11 = .ok (.getfield 15, 3) := by decide +kernel
theorem dd_S_faultOfCells_14 : decode prog_4_method_3_code 14 = .ok (.iload_n 1, 1) := by decide +kernel
theorem dd_S_faultOfCells_15 : decode prog_4_method_3_code 15 = .ok (.if_icmp .eq 5, 3) := by decide +kernel
theorem dd_S_faultOfCells_18 : decode prog_4_method_3_code 18 = .ok (.iconst 3, 1) := by decide +kernel
theorem dd_S_faultOfCells_19 : decode prog_4_method_3_code 19 = .ok (.ireturn, 1) := by decide +kernel
theorem dd_S_faultOfCells_20 : decode prog_4_method_3_code 20 = .ok (.iload_n 2, 1) := by decide +kernel
theorem dd_S_faultOfCells_21 : decode prog_4_method_3_code 21 = .ok (.iconst 0, 1) := by decide +kernel
theorem dd_S_faultOfCells_22 : decode prog_4_method_3_code 22 = .ok (.aload_n 0, 1) := by decide +kernel
theorem dd_S_faultOfCells_23 : decode prog_4_method_3_code 23 = .ok (.getfield 19, 3) := by decide +kernel
theorem dd_S_faultOfCells_26 : decode prog_4_method_3_code 26 = .ok (.iload_n 3, 1) := by decide +kernel
theorem dd_S_faultOfCells_27 : decode prog_4_method_3_code 27 = .ok (.isub, 1) := by decide +kernel
theorem dd_S_faultOfCells_28 : decode prog_4_method_3_code 28 = .ok (.invokestatic 22, 3) := by decide +kernel
theorem dd_S_faultOfCells_31 : decode prog_4_method_3_code 31 = .ok (.ifCond .eq 7, 3) := by decide +kernel
theorem dd_S_faultOfCells_34 : decode prog_4_method_3_code 34 = .ok (.iconst 0, 1) := by decide +kernel
theorem dd_S_faultOfCells_35 : decode prog_4_method_3_code 35 = .ok (.goto 4, 3) := by decide +kernel
theorem dd_S_faultOfCells_38 : decode prog_4_method_3_code 38 = .ok (.iconst 2, 1) := by decide +kernel
theorem dd_S_faultOfCells_39 : decode prog_4_method_3_code 39 = .ok (.ireturn, 1) := by decide +kernel
theorem dd_S_putCell_0 : decode prog_4_method_4_code 0 = .ok (.aload_n 0, 1) := by decide +kernel
theorem dd_S_putCell_1 : decode prog_4_method_4_code 1 = .ok (.getfield 15, 3) := by decide +kernel
theorem dd_S_putCell_4 : decode prog_4_method_4_code 4 = .ok (.ifCond .ne 14, 3) := by decide +kernel
theorem dd_S_putCell_7 : decode prog_4_method_4_code 7 = .ok (.aload_n 0, 1) := by decide +kernel
theorem dd_S_putCell_8 : decode prog_4_method_4_code 8 = .ok (.getfield 9, 3) := by decide +kernel
theorem dd_S_putCell_11 : decode prog_4_method_4_code 11 = .ok (.iload_n 1, 1) := by decide +kernel
theorem dd_S_putCell_12 : decode prog_4_method_4_code 12 = .ok (.iload_n 2, 1) := by decide +kernel
theorem dd_S_putCell_13 : decode prog_4_method_4_code 13 = .ok (.i2b, 1) := by decide +kernel
theorem dd_S_putCell_14 : decode prog_4_method_4_code 14 = .ok (.iastore, 1) := by decide +kernel
theorem dd_S_putCell_15 : decode prog_4_method_4_code 15 = .ok (.goto 29, 3) := by decide +kernel
theorem dd_S_putCell_18 : decode prog_4_method_4_code 18 = .ok (.aload_n 0, 1) := by decide +kernel
theorem dd_S_putCell_19 : decode prog_4_method_4_code 19 = .ok (.getfield 15, 3) := by decide +kernel
theorem dd_S_putCell_22 : decode prog_4_method_4_code 22 = .ok (.iconst 1, 1) := by decide +kernel
theorem dd_S_putCell_23 : decode prog_4_method_4_code 23 = .ok (.if_icmp .ne 14, 3) := by decide +kernel
theorem dd_S_putCell_26 : decode prog_4_method_4_code 26 = .ok (.aload_n 0, 1) := by decide +kernel
theorem dd_S_putCell_27 : decode prog_4_method_4_code 27 = .ok (.getfield 9, 3) := by decide +kernel
theorem dd_S_putCell_30 : decode prog_4_method_4_code 30 = .ok (.iload_n 1, 1) := by decide +kernel
theorem dd_S_putCell_31 : decode prog_4_method_4_code 31 = .ok (.iload_n 2, 1) := by decide +kernel
theorem dd_S_putCell_32 : decode prog_4_method_4_code 32 = .ok (.i2s, 1) := by decide +kernel
theorem dd_S_putCell_33 : decode prog_4_method_4_code 33 = .ok (.iastore, 1) := by decide +kernel
theorem dd_S_putCell_34 : decode prog_4_method_4_code 34 = .ok (.goto 10, 3) := by decide +kernel
theorem dd_S_putCell_37 : decode prog_4_method_4_code 37 = .ok (.aload_n 0, 1) := by decide +kernel
theorem dd_S_putCell_38 : decode prog_4_method_4_code 38 = .ok (.getfield 9, 3) := by decide +kernel
theorem dd_S_putCell_41 : decode prog_4_method_4_code 41 = .ok (.iload_n 1, 1) := by decide +kernel
theorem dd_S_putCell_42 : decode prog_4_method_4_code 42 = .ok (.iload_n 2, 1) := by decide +kernel
theorem dd_S_putCell_43 : decode prog_4_method_4_code 43 = .ok (.iastore, 1) := by decide +kernel
theorem dd_S_putCell_44 : decode prog_4_method_4_code 44 = .ok (.return_, 1) := by decide +kernel
theorem dd_I_init_0 : decode prog_5_method_1_code 0 = .ok (.aload_n 0, 1) := by decide +kernel
theorem dd_I_init_1 : decode prog_5_method_1_code 1 = .ok (.invokespecial 1, 3) := by decide +kernel
theorem dd_I_init_4 : decode prog_5_method_1_code 4 = .ok (.aload_n 0, 1) := by decide +kernel
theorem dd_I_init_5 : decode prog_5_method_1_code 5 = .ok (.iconst 0, 1) := by decide +kernel
theorem dd_I_init_6 : decode prog_5_method_1_code 6 = .ok (.putfield 7, 3) := by decide +kernel
theorem dd_I_init_9 : decode prog_5_method_1_code 9 = .ok (.aload_n 0, 1) := by decide +kernel
theorem dd_I_init_10 : decode prog_5_method_1_code 10 = .ok (.iconst 0, 1) := by decide +kernel
theorem dd_I_init_11 : decode prog_5_method_1_code 11 = .ok (.putfield 13, 3) := by decide +kernel
theorem dd_I_init_14 : decode prog_5_method_1_code 14 = .ok (.aload_n 0, 1) := by decide +kernel
theorem dd_I_init_15 : decode prog_5_method_1_code 15 = .ok (.iconst 0, 1) := by decide +kernel
theorem dd_I_init_16 : decode prog_5_method_1_code 16 = .ok (.putfield 16, 3) := by decide +kernel
theorem dd_I_init_19 : decode prog_5_method_1_code 19 = .ok (.return_, 1) := by decide +kernel
theorem dd_P_init_0 : decode prog_6_method_1_code 0 = .ok (.aload_n 0, 1) := by decide +kernel
theorem dd_P_init_1 : decode prog_6_method_1_code 1 = .ok (.invokespecial 3, 3) := by decide +kernel
theorem dd_P_init_4 : decode prog_6_method_1_code 4 = .ok (.aload_n 0, 1) := by decide +kernel
theorem dd_P_init_5 : decode prog_6_method_1_code 5 = .ok (.sipush 160, 3) := by decide +kernel
theorem dd_P_init_8 : decode prog_6_method_1_code 8 = .ok (.newarray .int, 2) := by decide +kernel
theorem dd_P_init_10 : decode prog_6_method_1_code 10 = .ok (.putfield 9, 3) := by decide +kernel
theorem dd_P_init_13 : decode prog_6_method_1_code 13 = .ok (.aload_n 0, 1) := by decide +kernel
theorem dd_P_init_14 : decode prog_6_method_1_code 14 = .ok (.iconst 0, 1) := by decide +kernel
theorem dd_P_init_15 : decode prog_6_method_1_code 15 = .ok (.putfield 15, 3) := by decide +kernel
theorem dd_P_init_18 : decode prog_6_method_1_code 18 = .ok (.aload_n 0, 1) := by decide +kernel
theorem dd_P_init_19 : decode prog_6_method_1_code 19 = .ok (.iconst 0, 1) := by decide +kernel
theorem dd_P_init_20 : decode prog_6_method_1_code 20 = .ok (.putfield 19, 3) := by decide +kernel
theorem dd_P_init_23 : decode prog_6_method_1_code 23 = .ok (.aload_n 0, 1) := by decide +kernel
theorem dd_P_init_24 : decode prog_6_method_1_code 24 = .ok (.iconst 0, 1) := by decide +kernel
theorem dd_P_init_25 : decode prog_6_method_1_code 25 = .ok (.putfield 22, 3) := by decide +kernel
theorem dd_P_init_28 : decode prog_6_method_1_code 28 = .ok (.aload_n 0, 1) := by decide +kernel
theorem dd_P_init_29 : decode prog_6_method_1_code 29 = .ok (.iconst 0, 1) := by decide +kernel
theorem dd_P_init_30 : decode prog_6_method_1_code 30 = .ok (.putfield 25, 3) := by decide +kernel
theorem dd_P_init_33 : decode prog_6_method_1_code 33 = .ok (.aload_n 0, 1) := by decide +kernel
theorem dd_P_init_34 : decode prog_6_method_1_code 34 = .ok (.iconst 0, 1) := by decide +kernel
theorem dd_P_init_35 : decode prog_6_method_1_code 35 = .ok (.putfield 28, 3) := by decide +kernel
theorem dd_P_init_38 : decode prog_6_method_1_code 38 = .ok (.aload_n 0, 1) := by decide +kernel
theorem dd_P_init_39 : decode prog_6_method_1_code 39 = .ok (.iconst 0, 1) := by decide +kernel
theorem dd_P_init_40 : decode prog_6_method_1_code 40 = .ok (.putfield 32, 3) := by decide +kernel
theorem dd_P_init_43 : decode prog_6_method_1_code 43 = .ok (.aload_n 0, 1) := by decide +kernel
theorem dd_P_init_44 : decode prog_6_method_1_code 44 = .ok (.iconst 0, 1) := by decide +kernel
theorem dd_P_init_45 : decode prog_6_method_1_code 45 = .ok (.putfield 35, 3) := by decide +kernel
theorem dd_P_init_48 : decode prog_6_method_1_code 48 = .ok (.aload_n 0, 1) := by decide +kernel
theorem dd_P_init_49 : decode prog_6_method_1_code 49 = .ok (.iconst 0, 1) := by decide +kernel
theorem dd_P_init_50 : decode prog_6_method_1_code 50 = .ok (.putfield 38, 3) := by decide +kernel
theorem dd_P_init_53 : decode prog_6_method_1_code 53 = .ok (.return_, 1) := by decide +kernel
theorem dd_P_tellAll_0 : decode prog_6_method_2_code 0 = .ok (.aload_n 1, 1) := by decide +kernel
theorem dd_P_tellAll_1 : decode prog_6_method_2_code 1 = .ok (.invokevirtual 41, 3) := by decide +kernel
theorem dd_P_tellAll_4 : decode prog_6_method_2_code 4 = .ok (.aload_n 0, 1) := by decide +kernel
theorem dd_P_tellAll_5 : decode prog_6_method_2_code 5 = .ok (.iconst 0, 1) := by decide +kernel
theorem dd_P_tellAll_6 : decode prog_6_method_2_code 6 = .ok (.putfield 19, 3) := by decide +kernel
theorem dd_P_tellAll_9 : decode prog_6_method_2_code 9 = .ok (.aload_n 0, 1) := by decide +kernel
theorem dd_P_tellAll_10 : decode prog_6_method_2_code 10 = .ok (.iconst 0, 1) := by decide +kernel
theorem dd_P_tellAll_11 : decode prog_6_method_2_code 11 = .ok (.putfield 35, 3) := by decide +kernel
theorem dd_P_tellAll_14 : decode prog_6_method_2_code 14 = .ok (.aload_n 0, 1) := by decide +kernel
theorem dd_P_tellAll_15 : decode prog_6_method_2_code 15 = .ok (.iconst 0, 1) := by decide +kernel
theorem dd_P_tellAll_16 : decode prog_6_method_2_code 16 = .ok (.putfield 38, 3) := by decide +kernel
theorem dd_P_tellAll_19 : decode prog_6_method_2_code 19 = .ok (.aload_n 0, 1) := by decide +kernel
theorem dd_P_tellAll_20 : decode prog_6_method_2_code 20 = .ok (.iconst 0, 1) := by decide +kernel
theorem dd_P_tellAll_21 : decode prog_6_method_2_code 21 = .ok (.putfield 28, 3) := by decide +kernel
theorem dd_P_tellAll_24 : decode prog_6_method_2_code 24 = .ok (.aload_n 0, 1) := by decide +kernel
theorem dd_P_tellAll_25 : decode prog_6_method_2_code 25 = .ok (.iconst 0, 1) := by decide +kernel
theorem dd_P_tellAll_26 : decode prog_6_method_2_code 26 = .ok (.putfield 32, 3) := by decide +kernel
theorem dd_P_tellAll_29 : decode prog_6_method_2_code 29 = .ok (.iconst 0, 1) := by decide +kernel
theorem dd_P_tellAll_30 : decode prog_6_method_2_code 30 = .ok (.istore_n 2, 1) := by decide +kernel
theorem dd_P_tellAll_31 : decode prog_6_method_2_code 31 = .ok (.aload_n 0, 1) := by decide +kernel
theorem dd_P_tellAll_32 : decode prog_6_method_2_code 32 = .ok (.invokevirtual 46, 3) := by decide +kernel
theorem dd_P_tellAll_35 : decode prog_6_method_2_code 35 = .ok (.aload_n 0, 1) := by decide +kernel
theorem dd_P_tellAll_36 : decode prog_6_method_2_code 36 = .ok (.getfield 35, 3) := by decide +kernel
theorem dd_P_tellAll_39 : decode prog_6_method_2_code 39 = .ok (.ifCond .ne 32, 3) := by decide +kernel
theorem dd_P_tellAll_42 : decode prog_6_method_2_code 42 = .ok (.aload_n 0, 1) := by decide +kernel
theorem dd_P_tellAll_43 : decode prog_6_method_2_code 43 = .ok (.getfield 22, 3) := by decide +kernel
theorem dd_P_tellAll_46 : decode prog_6_method_2_code 46 = .ok (.ifCond .eq 25, 3) := by decide +kernel
theorem dd_P_tellAll_49 : decode prog_6_method_2_code 49 = .ok (.iload_n 2, 1) := by decide +kernel
theorem dd_P_tellAll_50 : decode prog_6_method_2_code 50 = .ok (.sipush 160, 3) := by decide +kernel
theorem dd_P_tellAll_53 : decode prog_6_method_2_code 53 = .ok (.if_icmp .ge 18, 3) := by decide +kernel
theorem dd_P_tellAll_56 : decode prog_6_method_2_code 56 = .ok (.aload_n 0, 1) := by decide +kernel
theorem dd_P_tellAll_57 : decode prog_6_method_2_code 57 = .ok (.aload_n 1, 1) := by decide +kernel
theorem dd_P_tellAll_58 : decode prog_6_method_2_code 58 = .ok (.invokevirtual 49, 3) := by decide +kernel
theorem dd_P_tellAll_61 : decode prog_6_method_2_code 61 = .ok (.iinc 2 1, 3) := by decide +kernel
theorem dd_P_tellAll_64 : decode prog_6_method_2_code 64 = .ok (.aload_n 0, 1) := by decide +kernel
theorem dd_P_tellAll_65 : decode prog_6_method_2_code 65 = .ok (.invokevirtual 46, 3) := by decide +kernel
theorem dd_P_tellAll_68 : decode prog_6_method_2_code 68 = .ok (.goto (-33), 3) := by decide +kernel
theorem dd_P_tellAll_71 : decode prog_6_method_2_code 71 = .ok (.iload_n 2, 1) := by decide +kernel
theorem dd_P_tellAll_72 : decode prog_6_method_2_code 72 = .ok (.ireturn, 1) := by decide +kernel
theorem dd_P_tellLine_0 : decode prog_6_method_3_code 0 = .ok (.aload_n 0, 1) := by decide +kernel
theorem dd_P_tellLine_1 : decode prog_6_method_3_code 1 = .ok (.getfield 22, 3) := by decide +kernel
theorem dd_P_tellLine_4 : decode prog_6_method_3_code 4 = .ok (.iconst 1, 1) := by decide +kernel
theorem dd_P_tellLine_5 : decode prog_6_method_3_code 5 = .ok (.if_icmp .ne 10, 3) := by decide +kernel
theorem dd_P_tellLine_8 : decode prog_6_method_3_code 8 = .ok (.aload_n 0, 1) := by decide +kernel
theorem dd_P_tellLine_9 : decode prog_6_method_3_code 9 = .ok (.invokevirtual 53, 3) := by decide +kernel
theorem dd_P_tellLine_12 : decode prog_6_method_3_code 12 = .ok (.goto 5, 3) := by decide +kernel
theorem dd_P_tellLine_15 : decode prog_6_method_3_code 15 = .ok (.bipush 7, 2) := by decide +kernel
theorem dd_P_tellLine_17 : decode prog_6_method_3_code 17 = .ok (.istore_n 2, 1) := by decide +kernel
theorem dd_P_tellLine_18 : decode prog_6_method_3_code 18 = .ok (.aload_n 0, 1) := by decide +kernel
theorem dd_P_tellLine_19 : decode prog_6_method_3_code 19 = .ok (.iload_n 2, 1) := by decide +kernel
theorem dd_P_tellLine_20 : decode prog_6_method_3_code 20 = .ok (.aload_n 1, 1) := by decide +kernel
theorem dd_P_tellLine_21 : decode prog_6_method_3_code 21 = .ok (.invokevirtual 57, 3) := by decide +kernel
theorem dd_P_tellLine_24 : decode prog_6_method_3_code 24 = .ok (.aload_n 0, 1) := by decide +kernel
theorem dd_P_tellLine_25 : decode prog_6_method_3_code 25 = .ok (.getfield 35, 3) := by decide +kernel
theorem dd_P_tellLine_28 : decode prog_6_method_3_code 28 = .ok (.ifCond .eq 4, 3) := by decide +kernel
theorem dd_P_tellLine_31 : decode prog_6_method_3_code 31 = .ok (.return_, 1) := by decide +kernel
theorem dd_P_tellLine_32 : decode prog_6_method_3_code 32 = .ok (.iload_n 2, 1) := by decide +kernel
theorem dd_P_tellLine_33 : decode prog_6_method_3_code 33 = .ok (.iconst 3, 1) := by decide +kernel
theorem dd_P_tellLine_34 : decode prog_6_method_3_code 34 = .ok (.if_icmp .gt 31, 3) := by decide +kernel
theorem dd_P_tellLine_37 : decode prog_6_method_3_code 37 = .ok (.aload_n 0, 1) := by decide +kernel
theorem dd_P_tellLine_38 : decode prog_6_method_3_code 38 = .ok (.iconst 1, 1) := by decide +kernel
theorem dd_P_tellLine_39 : decode prog_6_method_3_code 39 = .ok (.bipush 9, 2) := by decide +kernel
theorem dd_P_tellLine_41 : decode prog_6_method_3_code 41 = .ok (.invokevirtual 61, 3) := by decide +kernel
theorem dd_P_tellLine_44 : decode prog_6_method_3_code 44 = .ok (.istore_n 3, 1) := by decide +kernel
theorem dd_P_tellLine_45 : decode prog_6_method_3_code 45 = .ok (.aload_n 0, 1) := by decide +kernel
theorem dd_P_tellLine_46 : decode prog_6_method_3_code 46 = .ok (.iconst 0, 1) := by decide +kernel
theorem dd_P_tellLine_47 : decode prog_6_method_3_code 47 = .ok (.bipush 9, 2) := by decide +kernel
theorem dd_P_tellLine_49 : decode prog_6_method_3_code 49 = .ok (.invokevirtual 61, 3) := by decide +kernel
theorem dd_P_tellLine_52 : decode prog_6_method_3_code 52 = .ok (.istore 4, 2) := by decide +kernel
theorem dd_P_tellLine_54 : decode prog_6_method_3_code 54 = .ok (.aload_n 1, 1) := by decide +kernel
theorem dd_P_tellLine_55 : decode prog_6_method_3_code 55 = .ok (.iload_n 2, 1) := by decide +kernel
theorem dd_P_tellLine_56 : decode prog_6_method_3_code 56 = .ok (.iload_n 3, 1) := by decide +kernel
theorem dd_P_tellLine_57 : decode prog_6_method_3_code 57 = .ok (.iload 4, 2) := by decide +kernel
theorem dd_P_tellLine_59 : decode prog_6_method_3_code 59 = .ok (.invokevirtual 65, 3) := by decide +kernel
theorem dd_P_tellLine_62 : decode prog_6_method_3_code 62 = .ok (.goto 68, 3) := by decide +kernel
theorem dd_P_tellLine_65 : decode prog_6_method_3_code 65 = .ok (.iload_n 2, 1) := by decide +kernel
theorem dd_P_tellLine_66 : decode prog_6_method_3_code 66 = .ok (.iconst 4, 1) := by decide +kernel
theorem dd_P_tellLine_67 : decode prog_6_method_3_code 67 = .ok (.if_icmp .ne 17, 3) := by decide +kernel
theorem dd_P_tellLine_70 : decode prog_6_method_3_code 70 = .ok (.aload_n 1, 1) := by decide +kernel
theorem dd_P_tellLine_71 : decode prog_6_method_3_code 71 = .ok (.aload_n 0, 1) := by decide +kernel
theorem dd_P_tellLine_72 : decode prog_6_method_3_code 72 = .ok (.iconst 1, 1) := by decide +kernel
theorem dd_P_tellLine_73 : decode prog_6_method_3_code 73 = .ok (.bipush 20, 2) := by decide +kernel
theorem dd_P_tellLine_75 : decode prog_6_method_3_code 75 = .ok (.invokevirtual 61, 3) := by decide +kernel
theorem dd_P_tellLine_78 : decode prog_6_method_3_code 78 = .ok (.invokevirtual 69, 3) := by decide +kernel
theorem dd_P_tellLine_81 : decode prog_6_method_3_code 81 = .ok (.goto 49, 3) := by decide +kernel
theorem dd_P_tellLine_84 : decode prog_6_method_3_code 84 = .ok (.iload_n 2, 1) := by decide +kernel
theorem dd_P_tellLine_85 : decode prog_6_method_3_code 85 = .ok (.iconst 5, 1) := by decide +kernel
theorem dd_P_tellLine_86 : decode prog_6_method_3_code 86 = .ok (.if_icmp .ne 22, 3) := by decide +kernel
theorem dd_P_tellLine_89 : decode prog_6_method_3_code 89 = .ok (.aload_n 0, 1) := by decide +kernel
theorem dd_P_tellLine_90 : decode prog_6_method_3_code 90 = .ok (.iconst 1, 1) := by decide +kernel
theorem dd_P_tellLine_91 : decode prog_6_method_3_code 91 = .ok (.putfield 28, 3) := by decide +kernel
theorem dd_P_tellLine_94 : decode prog_6_method_3_code 94 = .ok (.aload_n 1, 1) := by decide +kernel
theorem dd_P_tellLine_95 : decode prog_6_method_3_code 95 = .ok (.aload_n 0, 1) := by decide +kernel
theorem dd_P_tellLine_96 : decode prog_6_method_3_code 96 = .ok (.iconst 0, 1) := by decide +kernel
theorem dd_P_tellLine_97 : decode prog_6_method_3_code 97 = .ok (.bipush 6, 2) := by decide +kernel
theorem dd_P_tellLine_99 : decode prog_6_method_3_code 99 = .ok (.invokevirtual 61, 3) := by decide +kernel
theorem dd_P_tellLine_102 : decode prog_6_method_3_code 102 = .ok (.putfield 73, 3) := by decide +kernel
theorem dd_P_tellLine_105 : decode prog_6_method_3_code 105 = .ok (.goto 25, 3) := by decide +kernel
theorem dd_P_tellLine_108 : decode prog_6_method_3_code 108 = .ok (.iload_n 2, 1) := by decide +kernel
theorem dd_P_tellLine_109 : decode prog_6_method_3_code 109 = .ok (.bipush 6, 2) := by decide +kernel
theorem dd_P_tellLine_111 : decode prog_6_method_3_code 111 = .ok (.if_icmp .ne 19, 3) := by decide +kernel
theorem dd_P_tellLine_114 : decode prog_6_method_3_code 114 = .ok (.aload_n 0, 1) := by decide +kernel
theorem dd_P_tellLine_115 : decode prog_6_method_3_code 115 = .ok (.iconst 1, 1) := by decide +kernel
theorem dd_P_tellLine_116 : decode prog_6_method_3_code 116 = .ok (.putfield 32, 3) := by decide +kernel
theorem dd_P_tellLine_119 : decode prog_6_method_3_code 119 = .ok (.aload_n 1, 1) := by decide +kernel
theorem dd_P_tellLine_120 : decode prog_6_method_3_code 120 = .ok (.aload_n 0, 1) := by decide +kernel
theorem dd_P_tellLine_121 : decode prog_6_method_3_code 121 = .ok (.iconst 0, 1) := by decide +kernel
theorem dd_P_tellLine_122 : decode prog_6_method_3_code 122 = .ok (.bipush 8, 2) := by decide +kernel
theorem dd_P_tellLine_124 : decode prog_6_method_3_code 124 = .ok (.invokevirtual 61, 3) := by decide +kernel
theorem dd_P_tellLine_127 : decode prog_6_method_3_code 127 = .ok (.putfield 76, 3) := by decide +kernel
theorem dd_P_tellLine_130 : decode prog_6_method_3_code 130 = .ok (.aload_n 0, 1) := by decide +kernel
theorem dd_P_tellLine_131 : decode prog_6_method_3_code 131 = .ok (.invokevirtual 79, 3) := by decide +kernel
theorem dd_P_tellLine_134 : decode prog_6_method_3_code 134 = .ok (.return_, 1) := by decide +kernel
theorem dd_P_refuseWord_0 : decode prog_6_method_4_code 0 = .ok (.iload_n 1, 1) := by decide +kernel
theorem dd_P_refuseWord_1 : decode prog_6_method_4_code 1 = .ok (.bipush 7, 2) := by decide +kernel
theorem dd_P_refuseWord_3 : decode prog_6_method_4_code 3 = .ok (.if_icmp .ne 11, 3) := by decide +kernel
theorem dd_P_refuseWord_6 : decode prog_6_method_4_code 6 = .ok (.aload_n 0, 1) := by decide +kernel
theorem dd_P_refuseWord_7 : decode prog_6_method_4_code 7 = .ok (.iconst 2, 1) := by decide +kernel
theorem dd_P_refuseWord_8 : decode prog_6_method_4_code 8 = .ok (.invokevirtual 82, 3) := by decide +kernel
theorem dd_P_refuseWord_11 : decode prog_6_method_4_code 11 = .ok (.goto 76, 3) := by decide +kernel
theorem dd_P_refuseWord_14 : decode prog_6_method_4_code 14 = .ok (.iload_n 1, 1) := by decide +kernel
theorem dd_P_refuseWord_15 : decode prog_6_method_4_code 15 = .ok (.iconst 5, 1) := by decide +kernel
theorem dd_P_refuseWord_16 : decode prog_6_method_4_code 16 = .ok (.if_icmp .ne 10, 3) := by decide +kernel
theorem dd_P_refuseWord_19 : decode prog_6_method_4_code 19 = .ok (.aload_n 0, 1) := by decide +kernel
theorem dd_P_refuseWord_20 : decode prog_6_method_4_code 20 = .ok (.getfield 28, 3) := by decide +kernel
theorem dd_P_refuseWord_23 : decode prog_6_method_4_code 23 = .ok (.ifCond .ne 16, 3) := by decide +kernel
theorem dd_P_refuseWord_26 : decode prog_6_method_4_code 26 = .ok (.iload_n 1, 1) := by decide +kernel
theorem dd_P_refuseWord_27 : decode prog_6_method_4_code 27 = .ok (.bipush 6, 2) := by decide +kernel
theorem dd_P_refuseWord_29 : decode prog_6_method_4_code 29 = .ok (.if_icmp .ne 18, 3) := by decide +kernel
theorem dd_P_refuseWord_32 : decode prog_6_method_4_code 32 = .ok (.aload_n 0, 1) := by decide +kernel
theorem dd_P_refuseWord_33 : decode prog_6_method_4_code 33 = .ok (.getfield 32, 3) := by decide +kernel
theorem dd_P_refuseWord_36 : decode prog_6_method_4_code 36 = .ok (.ifCond .eq 11, 3) := by decide +kernel
theorem dd_P_refuseWord_39 : decode prog_6_method_4_code 39 = .ok (.aload_n 0, 1) := by decide +kernel
theorem dd_P_refuseWord_40 : decode prog_6_method_4_code 40 = .ok (.iconst 4, 1) := by decide +kernel
theorem dd_P_refuseWord_41 : decode prog_6_method_4_code 41 = .ok (.invokevirtual 82, 3) := by decide +kernel
theorem dd_P_refuseWord_44 : decode prog_6_method_4_code 44 = .ok (.goto 43, 3) := by decide +kernel
theorem dd_P_refuseWord_47 : decode prog_6_method_4_code 47 = .ok (.iload_n 1, 1) := by decide +kernel
theorem dd_P_refuseWord_48 : decode prog_6_method_4_code 48 = .ok (.iconst 3, 1) := by decide +kernel
theorem dd_P_refuseWord_49 : decode prog_6_method_4_code 49 = .ok (.if_icmp .gt 20, 3) := by decide +kernel
theorem dd_P_refuseWord_52 : decode prog_6_method_4_code 52 = .ok (.aload_n 2, 1) := by decide +kernel
theorem dd_P_refuseWord_53 : decode prog_6_method_4_code 53 = .ok (.getfield 85, 3) := by decide +kernel
theorem dd_P_refuseWord_56 : decode prog_6_method_4_code 56 = .ok (.bipush 8, 2) := by decide +kernel
theorem dd_P_refuseWord_58 : decode prog_6_method_4_code 58 = .ok (.if_icmp .lt 11, 3) := by decide +kernel
theorem dd_P_refuseWord_61 : decode prog_6_method_4_code 61 = .ok (.aload_n 0, 1) := by decide +kernel
theorem dd_P_refuseWord_62 : decode prog_6_method_4_code 62 = .ok (.iconst 5, 1) := by decide +kernel
theorem dd_P_refuseWord_63 : decode prog_6_method_4_code 63 = .ok (.invokevirtual 82, 3) := by decide +kernel
theorem dd_P_refuseWord_66 : decode prog_6_method_4_code 66 = .ok (.goto 21, 3) := by decide +kernel
theorem dd_P_refuseWord_69 : decode prog_6_method_4_code 69 = .ok (.iload_n 1, 1) := by decide +kernel
theorem dd_P_refuseWord_70 : decode prog_6_method_4_code 70 = .ok (.iconst 4, 1) := by decide +kernel
theorem dd_P_refuseWord_71 : decode prog_6_method_4_code 71 = .ok (.if_icmp .ne 16, 3) := by decide +kernel
theorem dd_P_refuseWord_74 : decode prog_6_method_4_code 74 = .ok (.aload_n 2, 1) := by decide +kernel
theorem dd_P_refuseWord_75 : decode prog_6_method_4_code 75 = .ok (.getfield 88, 3) := by decide +kernel
theorem dd_P_refuseWord_78 : decode prog_6_method_4_code 78 = .ok (.iconst 4, 1) := by decide +kernel
theorem dd_P_refuseWord_79 : decode prog_6_method_4_code 79 = .ok (.if_icmp .lt 8, 3) := by decide +kernel
theorem dd_P_refuseWord_82 : decode prog_6_method_4_code 82 = .ok (.aload_n 0, 1) := by decide +kernel
theorem dd_P_refuseWord_83 : decode prog_6_method_4_code 83 = .ok (.iconst 5, 1) := by decide +kernel
theorem dd_P_refuseWord_84 : decode prog_6_method_4_code 84 = .ok (.invokevirtual 82, 3) := by decide +kernel
theorem dd_P_refuseWord_87 : decode prog_6_method_4_code 87 = .ok (.return_, 1) := by decide +kernel
theorem dd_P_fail_0 : decode prog_6_method_5_code 0 = .ok (.aload_n 0, 1) := by decide +kernel
theorem dd_P_fail_1 : decode prog_6_method_5_code 1 = .ok (.getfield 35, 3) := by decide +kernel
theorem dd_P_fail_4 : decode prog_6_method_5_code 4 = .ok (.ifCond .ne 16, 3) := by decide +kernel
theorem dd_P_fail_7 : decode prog_6_method_5_code 7 = .ok (.aload_n 0, 1) := by decide +kernel
theorem dd_P_fail_8 : decode prog_6_method_5_code 8 = .ok (.iload_n 1, 1) := by decide +kernel
theorem dd_P_fail_9 : decode prog_6_method_5_code 9 = .ok (.putfield 35, 3) := by decide +kernel
theorem dd_P_fail_12 : decode prog_6_method_5_code 12 = .ok (.aload_n 0, 1) := by decide +kernel
theorem dd_P_fail_13 : decode prog_6_method_5_code 13 = .ok (.aload_n 0, 1) := by decide +kernel
theorem dd_P_fail_14 : decode prog_6_method_5_code 14 = .ok (.getfield 25, 3) := by decide +kernel
theorem dd_P_fail_17 : decode prog_6_method_5_code 17 = .ok (.putfield 38, 3) := by decide +kernel
theorem dd_P_fail_20 : decode prog_6_method_5_code 20 = .ok (.return_, 1) := by decide +kernel
theorem dd_P_nextNumber_0 : decode prog_6_method_6_code 0 = .ok (.aload_n 0, 1) := by decide +kernel
theorem dd_P_nextNumber_1 : decode prog_6_method_6_code 1 = .ok (.invokevirtual 46, 3) := by decide +kernel
theorem dd_P_nextNumber_4 : decode prog_6_method_6_code 4 = .ok (.aload_n 0, 1) := by decide +kernel
theorem dd_P_nextNumber_5 : decode prog_6_method_6_code 5 = .ok (.getfield 22, 3) := by decide +kernel
theorem dd_P_nextNumber_8 : decode prog_6_method_6_code 8 = .ok (.iconst 2, 1) := by decide +kernel
theorem dd_P_nextNumber_9 : decode prog_6_method_6_code 9 = .ok (.if_icmp .eq 10, 3) := by decide +kernel
theorem dd_P_nextNumber_12 : decode prog_6_method_6_code 12 = .ok (.aload_n 0, 1) := by decide +kernel
theorem dd_P_nextNumber_13 : decode prog_6_method_6_code 13 = .ok (.iconst 2, 1) := by decide +kernel
theorem dd_P_nextNumber_14 : decode prog_6_method_6_code 14 = .ok (.invokevirtual 82, 3) := by decide +kernel
theorem dd_P_nextNumber_17 : decode prog_6_method_6_code 17 = .ok (.iload_n 1, 1) := by decide +kernel
theorem dd_P_nextNumber_18 : decode prog_6_method_6_code 18 = .ok (.ireturn, 1) := by decide +kernel
theorem dd_P_nextNumber_19 : decode prog_6_method_6_code 19 = .ok (.aload_n 0, 1) := by decide +kernel
theorem dd_P_nextNumber_20 : decode prog_6_method_6_code 20 = .ok (.invokevirtual 91, 3) := by decide +kernel
theorem dd_P_nextNumber_23 : decode prog_6_method_6_code 23 = .ok (.istore_n 3, 1) := by decide +kernel
theorem dd_P_nextNumber_24 : decode prog_6_method_6_code 24 = .ok (.iload_n 3, 1) := by decide +kernel
theorem dd_P_nextNumber_25 : decode prog_6_method_6_code 25 = .ok (.iload_n 1, 1) := by decide +kernel
theorem dd_P_nextNumber_26 : decode prog_6_method_6_code 26 = .ok (.iload_n 2, 1) := by decide +kernel
theorem dd_P_nextNumber_27 : decode prog_6_method_6_code 27 = .ok (.invokestatic 94, 3) := by decide +kernel
theorem dd_P_nextNumber_30 : decode prog_6_method_6_code 30 = .ok (.ifCond .ne 10, 3) := by decide +kernel
theorem dd_P_nextNumber_33 : decode prog_6_method_6_code 33 = .ok (.aload_n 0, 1) := by decide +kernel
theorem dd_P_nextNumber_34 : decode prog_6_method_6_code 34 = .ok (.iconst 3, 1) := by decide +kernel
theorem dd_P_nextNumber_35 : decode prog_6_method_6_code 35 = .ok (.invokevirtual 82, 3) := by decide +kernel
theorem dd_P_nextNumber_38 : decode prog_6_method_6_code 38 = .ok (.iload_n 1, 1) := by decide +kernel
theorem dd_P_nextNumber_39 : decode prog_6_method_6_code 39 = .ok (.ireturn, 1) := by decide +kernel
theorem dd_P_nextNumber_40 : decode prog_6_method_6_code 40 = .ok (.iload_n 3, 1) := by decide +kernel
theorem dd_P_nextNumber_41 : decode prog_6_method_6_code 41 = .ok (.ireturn, 1) := by decide +kernel
theorem dd_P_nextSign_0 : decode prog_6_method_7_code 0 = .ok (.aload_n 0, 1) := by decide +kernel
theorem dd_P_nextSign_1 : decode prog_6_method_7_code 1 = .ok (.invokevirtual 46, 3) := by decide +kernel
theorem dd_P_nextSign_4 : decode prog_6_method_7_code 4 = .ok (.aload_n 0, 1) := by decide +kernel
theorem dd_P_nextSign_5 : decode prog_6_method_7_code 5 = .ok (.getfield 22, 3) := by decide +kernel
theorem dd_P_nextSign_8 : decode prog_6_method_7_code 8 = .ok (.iconst 3, 1) := by decide +kernel
theorem dd_P_nextSign_9 : decode prog_6_method_7_code 9 = .ok (.if_icmp .eq 8, 3) := by decide +kernel
theorem dd_P_nextSign_12 : decode prog_6_method_7_code 12 = .ok (.aload_n 0, 1) := by decide +kernel
theorem dd_P_nextSign_13 : decode prog_6_method_7_code 13 = .ok (.iconst 2, 1) := by decide +kernel
theorem dd_P_nextSign_14 : decode prog_6_method_7_code 14 = .ok (.invokevirtual 82, 3) := by decide +kernel
theorem dd_P_nextSign_17 : decode prog_6_method_7_code 17 = .ok (.return_, 1) := by decide +kernel
theorem dd_P_nextToken_0 : decode prog_6_method_8_code 0 = .ok (.aload_n 0, 1) := by decide +kernel
theorem dd_P_nextToken_1 : decode prog_6_method_8_code 1 = .ok (.getfield 35, 3) := by decide +kernel
theorem dd_P_nextToken_4 : decode prog_6_method_8_code 4 = .ok (.ifCond .eq 4, 3) := by decide +kernel
theorem dd_P_nextToken_7 : decode prog_6_method_8_code 7 = .ok (.return_, 1) := by decide +kernel
theorem dd_P_nextToken_8 : decode prog_6_method_8_code 8 = .ok (.aload_n 0, 1) := by decide +kernel
theorem dd_P_nextToken_9 : decode prog_6_method_8_code 9 = .ok (.getfield 19, 3) := by decide +kernel
theorem dd_P_nextToken_12 : decode prog_6_method_8_code 12 = .ok (.aload_n 0, 1) := by decide +kernel
theorem dd_P_nextToken_13 : decode prog_6_method_8_code 13 = .ok (.getfield 15, 3) := by decide +kernel
theorem dd_P_nextToken_16 : decode prog_6_method_8_code 16 = .ok (.if_icmp .ge 30, 3) := by decide +kernel
theorem dd_P_nextToken_19 : decode prog_6_method_8_code 19 = .ok (.aload_n 0, 1) := by decide +kernel
theorem dd_P_nextToken_20 : decode prog_6_method_8_code 20 = .ok (.getfield 9, 3) := by decide +kernel
theorem dd_P_nextToken_23 : decode prog_6_method_8_code 23 = .ok (.aload_n 0, 1) := by decide +kernel
theorem dd_P_nextToken_24 : decode prog_6_method_8_code 24 = .ok (.getfield 19, 3) := by decide +kernel
theorem dd_P_nextToken_27 : decode prog_6_method_8_code 27 = .ok (.iaload, 1) := by decide +kernel
theorem dd_P_nextToken_28 : decode prog_6_method_8_code 28 = .ok (.bipush 32, 2) := by decide +kernel
theorem dd_P_nextToken_30 : decode prog_6_method_8_code 30 = .ok (.if_icmp .ne 16, 3) := by decide +kernel
theorem dd_P_nextToken_33 : decode prog_6_method_8_code 33 = .ok (.aload_n 0, 1) := by decide +kernel
theorem dd_P_nextToken_34 : decode prog_6_method_8_code 34 = .ok (.dup, 1) := by decide +kernel
theorem dd_P_nextToken_35 : decode prog_6_method_8_code 35 = .ok (.getfield 19, 3) := by decide +kernel
theorem dd_P_nextToken_38 : decode prog_6_method_8_code 38 = .ok (.iconst 1, 1) := by decide +kernel
theorem dd_P_nextToken_39 : decode prog_6_method_8_code 39 = .ok (.iadd, 1) := by decide +kernel
theorem dd_P_nextToken_40 : decode prog_6_method_8_code 40 = .ok (.putfield 19, 3) := by decide +kernel
theorem dd_P_nextToken_43 : decode prog_6_method_8_code 43 = .ok (.goto (-35), 3) := by decide +kernel
theorem dd_P_nextToken_46 : decode prog_6_method_8_code 46 = .ok (.aload_n 0, 1) := by decide +kernel
theorem dd_P_nextToken_47 : decode prog_6_method_8_code 47 = .ok (.aload_n 0, 1) := by decide +kernel
theorem dd_P_nextToken_48 : decode prog_6_method_8_code 48 = .ok (.getfield 19, 3) := by decide +kernel
theorem dd_P_nextToken_51 : decode prog_6_method_8_code 51 = .ok (.putfield 25, 3) := by decide +kernel
theorem dd_P_nextToken_54 : decode prog_6_method_8_code 54 = .ok (.aload_n 0, 1) := by decide +kernel
theorem dd_P_nextToken_55 : decode prog_6_method_8_code 55 = .ok (.getfield 19, 3) := by decide +kernel
theorem dd_P_nextToken_58 : decode prog_6_method_8_code 58 = .ok (.aload_n 0, 1) := by decide +kernel
theorem dd_P_nextToken_59 : decode prog_6_method_8_code 59 = .ok (.getfield 15, 3) := by decide +kernel
theorem dd_P_nextToken_62 : decode prog_6_method_8_code 62 = .ok (.if_icmp .lt 11, 3) := by decide +kernel
theorem dd_P_nextToken_65 : decode prog_6_method_8_code 65 = .ok (.aload_n 0, 1) := by decide +kernel
theorem dd_P_nextToken_66 : decode prog_6_method_8_code 66 = .ok (.iconst 0, 1) := by decide +kernel
theorem dd_P_nextToken_67 : decode prog_6_method_8_code 67 = .ok (.putfield 22, 3) := by decide +kernel
theorem dd_P_nextToken_70 : decode prog_6_method_8_code 70 = .ok (.goto 107, 3) := by decide +kernel
theorem dd_P_nextToken_73 : decode prog_6_method_8_code 73 = .ok (.aload_n 0, 1) := by decide +kernel
theorem dd_P_nextToken_74 : decode prog_6_method_8_code 74 = .ok (.getfield 9, 3) := by decide +kernel
theorem dd_P_nextToken_77 : decode prog_6_method_8_code 77 = .ok (.aload_n 0, 1) := by decide +kernel
theorem dd_P_nextToken_78 : decode prog_6_method_8_code 78 = .ok (.getfield 19, 3) := by decide +kernel
theorem dd_P_nextToken_81 : decode prog_6_method_8_code 81 = .ok (.iaload, 1) := by decide +kernel
theorem dd_P_nextToken_82 : decode prog_6_method_8_code 82 = .ok (.invokestatic 98, 3) := by decide +kernel
theorem dd_P_nextToken_85 : decode prog_6_method_8_code 85 = .ok (.ifCond .eq 15, 3) := by decide +kernel
theorem dd_P_nextToken_88 : decode prog_6_method_8_code 88 = .ok (.aload_n 0, 1) := by decide +kernel
theorem dd_P_nextToken_89 : decode prog_6_method_8_code 89 = .ok (.iconst 1, 1) := by decide +kernel
theorem dd_P_nextToken_90 : decode prog_6_method_8_code 90 = .ok (.putfield 22, 3) := by decide +kernel
theorem dd_P_nextToken_93 : decode prog_6_method_8_code 93 = .ok (.aload_n 0, 1) := by decide +kernel
theorem dd_P_nextToken_94 : decode prog_6_method_8_code 94 = .ok (.invokevirtual 102, 3) := by decide +kernel
theorem dd_P_nextToken_97 : decode prog_6_method_8_code 97 = .ok (.goto 80, 3) := by decide +kernel
theorem dd_P_nextToken_100 : decode prog_6_method_8_code 100 = .ok (.aload_n 0, 1) := by decide +kernel
theorem dd_P_nextToken_101 : decode prog_6_method_8_code 101 = .ok (.getfield 9, 3) := by decide +kernel
theorem dd_P_nextToken_104 : decode prog_6_method_8_code 104 = .ok (.aload_n 0, 1) := by decide +kernel
theorem dd_P_nextToken_105 : decode prog_6_method_8_code 105 = .ok (.getfield 19, 3) := by decide +kernel
theorem dd_P_nextToken_108 : decode prog_6_method_8_code 108 = .ok (.iaload, 1) := by decide +kernel
theorem dd_P_nextToken_109 : decode prog_6_method_8_code 109 = .ok (.invokestatic 105, 3) := by decide +kernel
theorem dd_P_nextToken_112 : decode prog_6_method_8_code 112 = .ok (.ifCond .eq 32, 3) := by decide +kernel
theorem dd_P_nextToken_115 : decode prog_6_method_8_code 115 = .ok (.aload_n 0, 1) := by decide +kernel
theorem dd_P_nextToken_116 : decode prog_6_method_8_code 116 = .ok (.invokevirtual 108, 3) := by decide +kernel
theorem dd_P_nextToken_119 : decode prog_6_method_8_code 119 = .ok (.aload_n 0, 1) := by decide +kernel
theorem dd_P_nextToken_120 : decode prog_6_method_8_code 120 = .ok (.aload_n 0, 1) := by decide +kernel
theorem dd_P_nextToken_121 : decode prog_6_method_8_code 121 = .ok (.getfield 19, 3) := by decide +kernel
theorem dd_P_nextToken_124 : decode prog_6_method_8_code 124 = .ok (.aload_n 0, 1) := by decide +kernel
theorem dd_P_nextToken_125 : decode prog_6_method_8_code 125 = .ok (.getfield 25, 3) := by decide +kernel
theorem dd_P_nextToken_128 : decode prog_6_method_8_code 128 = .ok (.isub, 1) := by decide +kernel
theorem dd_P_nextToken_129 : decode prog_6_method_8_code 129 = .ok (.iconst 2, 1) := by decide +kernel
theorem dd_P_nextToken_130 : decode prog_6_method_8_code 130 = .ok (.if_icmp .le 7, 3) := by decide +kernel
theorem dd_P_nextToken_133 : decode prog_6_method_8_code 133 = .ok (.iconst 4, 1) := by decide +kernel
theorem dd_P_nextToken_134 : decode prog_6_method_8_code 134 = .ok (.goto 4, 3) := by decide +kernel
theorem dd_P_nextToken_137 : decode prog_6_method_8_code 137 = .ok (.iconst 2, 1) := by decide +kernel
theorem dd_P_nextToken_138 : decode prog_6_method_8_code 138 = .ok (.putfield 22, 3) := by decide +kernel
theorem dd_P_nextToken_141 : decode prog_6_method_8_code 141 = .ok (.goto 36, 3) := by decide +kernel
theorem dd_P_nextToken_144 : decode prog_6_method_8_code 144 = .ok (.aload_n 0, 1) := by decide +kernel
theorem dd_P_nextToken_145 : decode prog_6_method_8_code 145 = .ok (.aload_n 0, 1) := by decide +kernel
theorem dd_P_nextToken_146 : decode prog_6_method_8_code 146 = .ok (.getfield 9, 3) := by decide +kernel
theorem dd_P_nextToken_149 : decode prog_6_method_8_code 149 = .ok (.aload_n 0, 1) := by decide +kernel
theorem dd_P_nextToken_150 : decode prog_6_method_8_code 150 = .ok (.getfield 19, 3) := by decide +kernel
theorem dd_P_nextToken_153 : decode prog_6_method_8_code 153 = .ok (.iaload, 1) := by decide +kernel
theorem dd_P_nextToken_154 : decode prog_6_method_8_code 154 = .ok (.bipush 59, 2) := by decide +kernel
theorem dd_P_nextToken_156 : decode prog_6_method_8_code 156 = .ok (.if_icmp .ne 7, 3) := by decide +kernel
theorem dd_P_nextToken_159 : decode prog_6_method_8_code 159 = .ok (.iconst 3, 1) := by decide +kernel
theorem dd_P_nextToken_160 : decode prog_6_method_8_code 160 = .ok (.goto 4, 3) := by decide +kernel
theorem dd_P_nextToken_163 : decode prog_6_method_8_code 163 = .ok (.iconst 4, 1) := by decide +kernel
theorem dd_P_nextToken_164 : decode prog_6_method_8_code 164 = .ok (.putfield 22, 3) := by decide +kernel
theorem dd_P_nextToken_167 : decode prog_6_method_8_code 167 = .ok (.aload_n 0, 1) := by decide +kernel
theorem dd_P_nextToken_168 : decode prog_6_method_8_code 168 = .ok (.dup, 1) := by decide +kernel
theorem dd_P_nextToken_169 : decode prog_6_method_8_code 169 = .ok (.getfield 19, 3) := by decide +kernel
theorem dd_P_nextToken_172 : decode prog_6_method_8_code 172 = .ok (.iconst 1, 1) := by decide +kernel
theorem dd_P_nextToken_173 : decode prog_6_method_8_code 173 = .ok (.iadd, 1) := by decide +kernel
theorem dd_P_nextToken_174 : decode prog_6_method_8_code 174 = .ok (.putfield 19, 3) := by decide +kernel
theorem dd_P_nextToken_177 : decode prog_6_method_8_code 177 = .ok (.aload_n 0, 1) := by decide +kernel
theorem dd_P_nextToken_178 : decode prog_6_method_8_code 178 = .ok (.getfield 22, 3) := by decide +kernel
theorem dd_P_nextToken_181 : decode prog_6_method_8_code 181 = .ok (.iconst 4, 1) := by decide +kernel
theorem dd_P_nextToken_182 : decode prog_6_method_8_code 182 = .ok (.if_icmp .ne 8, 3) := by decide +kernel
theorem dd_P_nextToken_185 : decode prog_6_method_8_code 185 = .ok (.aload_n 0, 1) := by decide +kernel
theorem dd_P_nextToken_186 : decode prog_6_method_8_code 186 = .ok (.iconst 1, 1) := by decide +kernel
theorem dd_P_nextToken_187 : decode prog_6_method_8_code 187 = .ok (.invokevirtual 82, 3) := by decide +kernel
theorem dd_P_nextToken_190 : decode prog_6_method_8_code 190 = .ok (.return_, 1) := by decide +kernel
theorem dd_P_skipLetters_0 : decode prog_6_method_9_code 0 = .ok (.aload_n 0, 1) := by decide +kernel
theorem dd_P_skipLetters_1 : decode prog_6_method_9_code 1 = .ok (.getfield 19, 3) := by decide +kernel
theorem dd_P_skipLetters_4 : decode prog_6_method_9_code 4 = .ok (.aload_n 0, 1) := by decide +kernel
theorem dd_P_skipLetters_5 : decode prog_6_method_9_code 5 = .ok (.getfield 15, 3) := by decide +kernel
theorem dd_P_skipLetters_8 : decode prog_6_method_9_code 8 = .ok (.if_icmp .ge 31, 3) := by decide +kernel
theorem dd_P_skipLetters_11 : decode prog_6_method_9_code 11 = .ok (.aload_n 0, 1) := by decide +kernel
theorem dd_P_skipLetters_12 : decode prog_6_method_9_code 12 = .ok (.getfield 9, 3) := by decide +kernel
theorem dd_P_skipLetters_15 : decode prog_6_method_9_code 15 = .ok (.aload_n 0, 1) := by decide +kernel
theorem dd_P_skipLetters_16 : decode prog_6_method_9_code 16 = .ok (.getfield 19, 3) := by decide +kernel
theorem dd_P_skipLetters_19 : decode prog_6_method_9_code 19 = .ok (.iaload, 1) := by decide +kernel
theorem dd_P_skipLetters_20 : decode prog_6_method_9_code 20 = .ok (.invokestatic 98, 3) := by decide +kernel
theorem dd_P_skipLetters_23 : decode prog_6_method_9_code 23 = .ok (.ifCond .eq 16, 3) := by decide +kernel
theorem dd_P_skipLetters_26 : decode prog_6_method_9_code 26 = .ok (.aload_n 0, 1) := by decide +kernel
theorem dd_P_skipLetters_27 : decode prog_6_method_9_code 27 = .ok (.dup, 1) := by decide +kernel
theorem dd_P_skipLetters_28 : decode prog_6_method_9_code 28 = .ok (.getfield 19, 3) := by decide +kernel
theorem dd_P_skipLetters_31 : decode prog_6_method_9_code 31 = .ok (.iconst 1, 1) := by decide +kernel
theorem dd_P_skipLetters_32 : decode prog_6_method_9_code 32 = .ok (.iadd, 1) := by decide +kernel
theorem dd_P_skipLetters_33 : decode prog_6_method_9_code 33 = .ok (.putfield 19, 3) := by decide +kernel
theorem dd_P_skipLetters_36 : decode prog_6_method_9_code 36 = .ok (.goto (-36), 3) := by decide +kernel
theorem dd_P_skipLetters_39 : decode prog_6_method_9_code 39 = .ok (.return_, 1) := by decide +kernel
theorem dd_P_skipFigures_0 : decode prog_6_method_10_code 0 = .ok (.aload_n 0, 1) := by decide +kernel
theorem dd_P_skipFigures_1 : decode prog_6_method_10_code 1 = .ok (.getfield 19, 3) := by decide +kernel
theorem dd_P_skipFigures_4 : decode prog_6_method_10_code 4 = .ok (.aload_n 0, 1) := by decide +kernel
theorem dd_P_skipFigures_5 : decode prog_6_method_10_code 5 = .ok (.getfield 15, 3) := by decide +kernel
theorem dd_P_skipFigures_8 : decode prog_6_method_10_code 8 = .ok (.if_icmp .ge 31, 3) := by decide +kernel
theorem dd_P_skipFigures_11 : decode prog_6_method_10_code 11 = .ok (.aload_n 0, 1) := by decide +kernel
theorem dd_P_skipFigures_12 : decode prog_6_method_10_code 12 = .ok (.getfield 9, 3) := by decide +kernel
theorem dd_P_skipFigures_15 : decode prog_6_method_10_code 15 = .ok (.aload_n 0, 1) := by decide +kernel
theorem dd_P_skipFigures_16 : decode prog_6_method_10_code 16 = .ok (.getfield 19, 3) := by decide +kernel
theorem dd_P_skipFigures_19 : decode prog_6_method_10_code 19 = .ok (.iaload, 1) := by decide +kernel
theorem dd_P_skipFigures_20 : decode prog_6_method_10_code 20 = .ok (.invokestatic 105, 3) := by decide +kernel
theorem dd_P_skipFigures_23 : decode prog_6_method_10_code 23 = .ok (.ifCond .eq 16, 3) := by decide +kernel
theorem dd_P_skipFigures_26 : decode prog_6_method_10_code 26 = .ok (.aload_n 0, 1) := by decide +kernel
theorem dd_P_skipFigures_27 : decode prog_6_method_10_code 27 = .ok (.dup, 1) := by decide +kernel
theorem dd_P_skipFigures_28 : decode prog_6_method_10_code 28 = .ok (.getfield 19, 3) := by decide +kernel
theorem dd_P_skipFigures_31 : decode prog_6_method_10_code 31 = .ok (.iconst 1, 1) := by decide +kernel
theorem dd_P_skipFigures_32 : decode prog_6_method_10_code 32 = .ok (.iadd, 1) := by decide +kernel
theorem dd_P_skipFigures_33 : decode prog_6_method_10_code 33 = .ok (.putfield 19, 3) := by decide +kernel
theorem dd_P_skipFigures_36 : decode prog_6_method_10_code 36 = .ok (.goto (-36), 3) := by decide +kernel
theorem dd_P_skipFigures_39 : decode prog_6_method_10_code 39 = .ok (.return_, 1) := by decide +kernel
theorem dd_P_isLetter_0 : decode prog_6_method_11_code 0 = .ok (.iload_n 0, 1) := by decide +kernel
theorem dd_P_isLetter_1 : decode prog_6_method_11_code 1 = .ok (.bipush 97, 2) := by decide +kernel
theorem dd_P_isLetter_3 : decode prog_6_method_11_code 3 = .ok (.if_icmp .lt 13, 3) := by decide +kernel
theorem dd_P_isLetter_6 : decode prog_6_method_11_code 6 = .ok (.iload_n 0, 1) := by decide +kernel
theorem dd_P_isLetter_7 : decode prog_6_method_11_code 7 = .ok (.bipush 122, 2) := by decide +kernel
theorem dd_P_isLetter_9 : decode prog_6_method_11_code 9 = .ok (.if_icmp .gt 7, 3) := by decide +kernel
theorem dd_P_isLetter_12 : decode prog_6_method_11_code 12 = .ok (.iconst 1, 1) := by decide +kernel
theorem dd_P_isLetter_13 : decode prog_6_method_11_code 13 = .ok (.goto 4, 3) := by decide +kernel
theorem dd_P_isLetter_16 : decode prog_6_method_11_code 16 = .ok (.iconst 0, 1) := by decide +kernel
theorem dd_P_isLetter_17 : decode prog_6_method_11_code 17 = .ok (.ireturn, 1) := by decide +kernel
theorem dd_P_isFigure_0 : decode prog_6_method_12_code 0 = .ok (.iload_n 0, 1) := by decide +kernel
theorem dd_P_isFigure_1 : decode prog_6_method_12_code 1 = .ok (.bipush 48, 2) := by decide +kernel
theorem dd_P_isFigure_3 : decode prog_6_method_12_code 3 = .ok (.if_icmp .lt 13, 3) := by decide +kernel
theorem dd_P_isFigure_6 : decode prog_6_method_12_code 6 = .ok (.iload_n 0, 1) := by decide +kernel
theorem dd_P_isFigure_7 : decode prog_6_method_12_code 7 = .ok (.bipush 57, 2) := by decide +kernel
theorem dd_P_isFigure_9 : decode prog_6_method_12_code 9 = .ok (.if_icmp .gt 7, 3) := by decide +kernel
theorem dd_P_isFigure_12 : decode prog_6_method_12_code 12 = .ok (.iconst 1, 1) := by decide +kernel
theorem dd_P_isFigure_13 : decode prog_6_method_12_code 13 = .ok (.goto 4, 3) := by decide +kernel
theorem dd_P_isFigure_16 : decode prog_6_method_12_code 16 = .ok (.iconst 0, 1) := by decide +kernel
theorem dd_P_isFigure_17 : decode prog_6_method_12_code 17 = .ok (.ireturn, 1) := by decide +kernel
theorem dd_P_numberOfToken_0 : decode prog_6_method_13_code 0 = .ok (.iconst 0, 1) := by decide +kernel
theorem dd_P_numberOfToken_1 : decode prog_6_method_13_code 1 = .ok (.istore_n 1, 1) := by decide +kernel
theorem dd_P_numberOfToken_2 : decode prog_6_method_13_code 2 = .ok (.aload_n 0, 1) := by decide +kernel
theorem dd_P_numberOfToken_3 : decode prog_6_method_13_code 3 = .ok (.getfield 25, 3) := by decide +kernel
theorem dd_P_numberOfToken_6 : decode prog_6_method_13_code 6 = .ok (.istore_n 2, 1) := by decide +kernel
theorem dd_P_numberOfToken_7 : decode prog_6_method_13_code 7 = .ok (.iload_n 2, 1) := by decide +kernel
theorem dd_P_numberOfToken_8 : decode prog_6_method_13_code 8 = .ok (.aload_n 0, 1) := by decide +kernel
theorem dd_P_numberOfToken_9 : decode prog_6_method_13_code 9 = .ok (.getfield 19, 3) := by decide +kernel
theorem dd_P_numberOfToken_12 : decode prog_6_method_13_code 12 = .ok (.if_icmp .ge 31, 3) := by decide +kernel
theorem dd_P_numberOfToken_15 : decode prog_6_method_13_code 15 = .ok (.iload_n 2, 1) := by decide +kernel
theorem dd_P_numberOfToken_16 : decode prog_6_method_13_code 16 = .ok (.sipush 160, 3) := by decide +kernel
theorem dd_P_numberOfToken_19 : decode prog_6_method_13_code 19 = .ok (.if_icmp .ge 24, 3) := by decide +kernel
theorem dd_P_numberOfToken_22 : decode prog_6_method_13_code 22 = .ok (.bipush 10, 2) := by decide +kernel
theorem dd_P_numberOfToken_24 : decode prog_6_method_13_code 24 = .ok (.iload_n 1, 1) := by decide +kernel
theorem dd_P_numberOfToken_25 : decode prog_6_method_13_code 25 = .ok (.imul, 1) := by decide +kernel
theorem dd_P_numberOfToken_26 : decode prog_6_method_13_code 26 = .ok (.aload_n 0, 1) := by decide +kernel
theorem dd_P_numberOfToken_27 : decode prog_6_method_13_code 27 = .ok (.getfield 9, 3) := by decide +kernel
theorem dd_P_numberOfToken_30 : decode prog_6_method_13_code 30 = .ok (.iload_n 2, 1) := by decide +kernel
theorem dd_P_numberOfToken_31 : decode prog_6_method_13_code 31 = .ok (.iaload, 1) := by decide +kernel
theorem dd_P_numberOfToken_32 : decode prog_6_method_13_code 32 = .ok (.iadd, 1) := by decide +kernel
theorem dd_P_numberOfToken_33 : decode prog_6_method_13_code 33 = .ok (.bipush 48, 2) := by decide +kernel
theorem dd_P_numberOfToken_35 : decode prog_6_method_13_code 35 = .ok (.isub, 1) := by decide +kernel
theorem dd_P_numberOfToken_36 : decode prog_6_method_13_code 36 = .ok (.istore_n 1, 1) := by decide +kernel
theorem dd_P_numberOfToken_37 : decode prog_6_method_13_code 37 = .ok (.iinc 2 1, 3) := by decide +kernel
theorem dd_P_numberOfToken_40 : decode prog_6_method_13_code 40 = .ok (.goto (-33), 3) := by decide +kernel
theorem dd_P_numberOfToken_43 : decode prog_6_method_13_code 43 = .ok (.iload_n 1, 1) := by decide +kernel
theorem dd_P_numberOfToken_44 : decode prog_6_method_13_code 44 = .ok (.ireturn, 1) := by decide +kernel
theorem dd_P_wordOfToken_0 : decode prog_6_method_14_code 0 = .ok (.iconst 0, 1) := by decide +kernel
theorem dd_P_wordOfToken_1 : decode prog_6_method_14_code 1 = .ok (.istore_n 1, 1) := by decide +kernel
theorem dd_P_wordOfToken_2 : decode prog_6_method_14_code 2 = .ok (.iload_n 1, 1) := by decide +kernel
theorem dd_P_wordOfToken_3 : decode prog_6_method_14_code 3 = .ok (.bipush 7, 2) := by decide +kernel
theorem dd_P_wordOfToken_5 : decode prog_6_method_14_code 5 = .ok (.if_icmp .ge 22, 3) := by decide +kernel
theorem dd_P_wordOfToken_8 : decode prog_6_method_14_code 8 = .ok (.aload_n 0, 1) := by decide +kernel
theorem dd_P_wordOfToken_9 : decode prog_6_method_14_code 9 = .ok (.iload_n 1, 1) := by decide +kernel
theorem dd_P_wordOfToken_10 : decode prog_6_method_14_code 10 = .ok (.invokestatic 111, 3) := by decide +kernel
theorem dd_P_wordOfToken_13 : decode prog_6_method_14_code 13 = .ok (.invokevirtual 115, 3) := by decide +kernel
theorem dd_P_wordOfToken_16 : decode prog_6_method_14_code 16 = .ok (.ifCond .eq 5, 3) := by decide +kernel
theorem dd_P_wordOfToken_19 : decode prog_6_method_14_code 19 = .ok (.iload_n 1, 1) := by decide +kernel
theorem dd_P_wordOfToken_20 : decode prog_6_method_14_code 20 = .ok (.ireturn, 1) := by decide +kernel
theorem dd_P_wordOfToken_21 : decode prog_6_method_14_code 21 = .ok (.iinc 1 1, 3) := by decide +kernel
theorem dd_P_wordOfToken_24 : decode prog_6_method_14_code 24 = .ok (.goto (-22), 3) := by decide +kernel
theorem dd_P_wordOfToken_27 : decode prog_6_method_14_code 27 = .ok (.bipush 7, 2) := by decide +kernel
theorem dd_P_wordOfToken_29 : decode prog_6_method_14_code 29 = .ok (.ireturn, 1) := by decide +kernel
theorem dd_P_tokenSpells_0 : decode prog_6_method_15_code 0 = .ok (.aload_n 0, 1) := by decide +kernel
theorem dd_P_tokenSpells_1 : decode prog_6_method_15_code 1 = .ok (.getfield 19, 3) := by decide +kernel
theorem dd_P_tokenSpells_4 : decode prog_6_method_15_code 4 = .ok (.aload_n 0, 1) := by decide +kernel
theorem dd_P_tokenSpells_5 : decode prog_6_method_15_code 5 = .ok (.getfield 25, 3) := by decide +kernel
theorem dd_P_tokenSpells_8 : decode prog_6_method_15_code 8 = .ok (.isub, 1) := by decide +kernel
theorem dd_P_tokenSpells_9 : decode prog_6_method_15_code 9 = .ok (.aload_n 1, 1) := by decide +kernel
theorem dd_P_tokenSpells_10 : decode prog_6_method_15_code 10 = .ok (.invokevirtual 119, 3) := by decide +kernel
theorem dd_P_tokenSpells_13 : decode prog_6_method_15_code 13 = .ok (.if_icmp .eq 5, 3) := by decide +kernel
theorem dd_P_tokenSpells_16 : decode prog_6_method_15_code 16 = .ok (.iconst 0, 1) := by decide +kernel
theorem dd_P_tokenSpells_17 : decode prog_6_method_15_code 17 = .ok (.ireturn, 1) := by decide +kernel
theorem dd_P_tokenSpells_18 : decode prog_6_method_15_code 18 = .ok (.iconst 0, 1) := by decide +kernel
theorem dd_P_tokenSpells_19 : decode prog_6_method_15_code 19 = .ok (.istore_n 2, 1) := by decide +kernel
theorem dd_P_tokenSpells_20 : decode prog_6_method_15_code 20 = .ok (.iload_n 2, 1) := by decide +kernel
theorem dd_P_tokenSpells_21 : decode prog_6_method_15_code 21 = .ok (.aload_n 1, 1) := by decide +kernel
theorem dd_P_tokenSpells_22 : decode prog_6_method_15_code 22 = .ok (.invokevirtual 119, 3) := by decide +kernel
theorem dd_P_tokenSpells_25 : decode prog_6_method_15_code 25 = .ok (.if_icmp .ge 30, 3) := by decide +kernel
theorem dd_P_tokenSpells_28 : decode prog_6_method_15_code 28 = .ok (.aload_n 0, 1) := by decide +kernel
theorem dd_P_tokenSpells_29 : decode prog_6_method_15_code 29 = .ok (.getfield 9, 3) := by decide +kernel
theorem dd_P_tokenSpells_32 : decode prog_6_method_15_code 32 = .ok (.aload_n 0, 1) := by decide +kernel
theorem dd_P_tokenSpells_33 : decode prog_6_method_15_code 33 = .ok (.getfield 25, 3) := by decide +kernel
theorem dd_P_tokenSpells_36 : decode prog_6_method_15_code 36 = .ok (.iload_n 2, 1) := by decide +kernel
theorem dd_P_tokenSpells_37 : decode prog_6_method_15_code 37 = .ok (.iadd, 1) := by decide +kernel
theorem dd_P_tokenSpells_38 : decode prog_6_method_15_code 38 = .ok (.iaload, 1) := by decide +kernel
theorem dd_P_tokenSpells_39 : decode prog_6_method_15_code 39 = .ok (.aload_n 1, 1) := by decide +kernel
theorem dd_P_tokenSpells_40 : decode prog_6_method_15_code 40 = .ok (.iload_n 2, 1) := by decide +kernel
theorem dd_P_tokenSpells_41 : decode prog_6_method_15_code 41 = .ok (.invokevirtual 123, 3) := by decide +kernel
theorem dd_P_tokenSpells_44 : decode prog_6_method_15_code 44 = .ok (.if_icmp .eq 5, 3) := by decide +kernel
theorem dd_P_tokenSpells_47 : decode prog_6_method_15_code 47 = .ok (.iconst 0, 1) := by decide +kernel
theorem dd_P_tokenSpells_48 : decode prog_6_method_15_code 48 = .ok (.ireturn, 1) := by decide +kernel
theorem dd_P_tokenSpells_49 : decode prog_6_method_15_code 49 = .ok (.iinc 2 1, 3) := by decide +kernel
theorem dd_P_tokenSpells_52 : decode prog_6_method_15_code 52 = .ok (.goto (-32), 3) := by decide +kernel
theorem dd_P_tokenSpells_55 : decode prog_6_method_15_code 55 = .ok (.iconst 1, 1) := by decide +kernel
theorem dd_P_tokenSpells_56 : decode prog_6_method_15_code 56 = .ok (.ireturn, 1) := by decide +kernel
theorem dd_P_spelling_0 : decode prog_6_method_16_code 0 = .ok (.iload_n 0, 1) := by decide +kernel
theorem dd_P_spelling_1 : decode prog_6_method_16_code 1 = .ok (.tableswitch 57 0 5 #[39, 42, 45, 48, 51, 54], 39) := by decide +kernel
theorem dd_P_spelling_40 : decode prog_6_method_16_code 40 = .ok (.ldc 127, 2) := by decide +kernel
theorem dd_P_spelling_42 : decode prog_6_method_16_code 42 = .ok (.areturn, 1) := by decide +kernel
theorem dd_P_spelling_43 : decode prog_6_method_16_code 43 = .ok (.ldc 129, 2) := by decide +kernel
theorem dd_P_spelling_45 : decode prog_6_method_16_code 45 = .ok (.areturn, 1) := by decide +kernel
theorem dd_P_spelling_46 : decode prog_6_method_16_code 46 = .ok (.ldc 131, 2) := by decide +kernel
theorem dd_P_spelling_48 : decode prog_6_method_16_code 48 = .ok (.areturn, 1) := by decide +kernel
theorem dd_P_spelling_49 : decode prog_6_method_16_code 49 = .ok (.ldc 133, 2) := by decide +kernel
theorem dd_P_spelling_51 : decode prog_6_method_16_code 51 = .ok (.areturn, 1) := by decide +kernel
theorem dd_P_spelling_52 : decode prog_6_method_16_code 52 = .ok (.ldc 135, 2) := by decide +kernel
theorem dd_P_spelling_54 : decode prog_6_method_16_code 54 = .ok (.areturn, 1) := by decide +kernel
theorem dd_P_spelling_55 : decode prog_6_method_16_code 55 = .ok (.ldc 137, 2) := by decide +kernel
theorem dd_P_spelling_57 : decode prog_6_method_16_code 57 = .ok (.areturn, 1) := by decide +kernel
theorem dd_P_spelling_58 : decode prog_6_method_16_code 58 = .ok (.ldc 138, 2) := by decide +kernel
theorem dd_P_spelling_60 : decode prog_6_method_16_code 60 = .ok (.areturn, 1) := by decide +kernel
theorem dd_T_init_0 : decode prog_7_method_1_code 0 = .ok (.aload_n 0, 1) := by decide +kernel
theorem dd_T_init_1 : decode prog_7_method_1_code 1 = .ok (.invokespecial 3, 3) := by decide +kernel
theorem dd_T_init_4 : decode prog_7_method_1_code 4 = .ok (.aload_n 0, 1) := by decide +kernel
theorem dd_T_init_5 : decode prog_7_method_1_code 5 = .ok (.bipush 8, 2) := by decide +kernel
theorem dd_T_init_7 : decode prog_7_method_1_code 7 = .ok (.anewarray 9, 3) := by decide +kernel
theorem dd_T_init_10 : decode prog_7_method_1_code 10 = .ok (.putfield 11, 3) := by decide +kernel
theorem dd_T_init_13 : decode prog_7_method_1_code 13 = .ok (.aload_n 0, 1) := by decide +kernel
theorem dd_T_init_14 : decode prog_7_method_1_code 14 = .ok (.iconst 4, 1) := by decide +kernel
theorem dd_T_init_15 : decode prog_7_method_1_code 15 = .ok (.anewarray 17, 3) := by decide +kernel
theorem dd_T_init_18 : decode prog_7_method_1_code 18 = .ok (.putfield 19, 3) := by decide +kernel
theorem dd_T_init_21 : decode prog_7_method_1_code 21 = .ok (.aload_n 0, 1) := by decide +kernel
theorem dd_T_init_22 : decode prog_7_method_1_code 22 = .ok (.iconst 0, 1) := by decide +kernel
theorem dd_T_init_23 : decode prog_7_method_1_code 23 = .ok (.putfield 23, 3) := by decide +kernel
theorem dd_T_init_26 : decode prog_7_method_1_code 26 = .ok (.aload_n 0, 1) := by decide +kernel
theorem dd_T_init_27 : decode prog_7_method_1_code 27 = .ok (.iconst 0, 1) := by decide +kernel
theorem dd_T_init_28 : decode prog_7_method_1_code 28 = .ok (.putfield 27, 3) := by decide +kernel
theorem dd_T_init_31 : decode prog_7_method_1_code 31 = .ok (.aload_n 0, 1) := by decide +kernel
theorem dd_T_init_32 : decode prog_7_method_1_code 32 = .ok (.iconst 2, 1) := by decide +kernel
theorem dd_T_init_33 : decode prog_7_method_1_code 33 = .ok (.putfield 30, 3) := by decide +kernel
theorem dd_T_init_36 : decode prog_7_method_1_code 36 = .ok (.aload_n 0, 1) := by decide +kernel
theorem dd_T_init_37 : decode prog_7_method_1_code 37 = .ok (.iconst 2, 1) := by decide +kernel
theorem dd_T_init_38 : decode prog_7_method_1_code 38 = .ok (.putfield 33, 3) := by decide +kernel
theorem dd_T_init_41 : decode prog_7_method_1_code 41 = .ok (.aload_n 0, 1) := by decide +kernel
theorem dd_T_init_42 : decode prog_7_method_1_code 42 = .ok (.iconst 0, 1) := by decide +kernel
theorem dd_T_init_43 : decode prog_7_method_1_code 43 = .ok (.putfield 36, 3) := by decide +kernel
theorem dd_T_init_46 : decode prog_7_method_1_code 46 = .ok (.aload_n 0, 1) := by decide +kernel
theorem dd_T_init_47 : decode prog_7_method_1_code 47 = .ok (.iconst 0, 1) := by decide +kernel
theorem dd_T_init_48 : decode prog_7_method_1_code 48 = .ok (.putfield 39, 3) := by decide +kernel
theorem dd_T_init_51 : decode prog_7_method_1_code 51 = .ok (.aload_n 0, 1) := by decide +kernel
theorem dd_T_init_52 : decode prog_7_method_1_code 52 = .ok (.iconst 0, 1) := by decide +kernel
theorem dd_T_init_53 : decode prog_7_method_1_code 53 = .ok (.putfield 42, 3) := by decide +kernel
theorem dd_T_init_56 : decode prog_7_method_1_code 56 = .ok (.aload_n 0, 1) := by decide +kernel
theorem dd_T_init_57 : decode prog_7_method_1_code 57 = .ok (.iconst 0, 1) := by decide +kernel
theorem dd_T_init_58 : decode prog_7_method_1_code 58 = .ok (.putfield 45, 3) := by decide +kernel
theorem dd_T_init_61 : decode prog_7_method_1_code 61 = .ok (.iconst 0, 1) := by decide +kernel
theorem dd_T_init_62 : decode prog_7_method_1_code 62 = .ok (.istore_n 1, 1) := by decide +kernel
theorem dd_T_init_63 : decode prog_7_method_1_code 63 = .ok (.iload_n 1, 1) := by decide +kernel
theorem dd_T_init_64 : decode prog_7_method_1_code 64 = .ok (.bipush 8, 2) := by decide +kernel
theorem dd_T_init_66 : decode prog_7_method_1_code 66 = .ok (.if_icmp .ge 22, 3) := by decide +kernel
theorem dd_T_init_69 : decode prog_7_method_1_code 69 = .ok (.aload_n 0, 1) := by decide +kernel
theorem dd_T_init_70 : decode prog_7_method_1_code 70 = .ok (.getfield 11, 3) := by decide +kernel
theorem dd_T_init_73 : decode prog_7_method_1_code 73 = .ok (.iload_n 1, 1) := by decide +kernel
theorem dd_T_init_74 : decode prog_7_method_1_code 74 = .ok (.new 9, 3) := by decide +kernel
theorem dd_T_init_77 : decode prog_7_method_1_code 77 = .ok (.dup, 1) := by decide +kernel
theorem dd_T_init_78 : decode prog_7_method_1_code 78 = .ok (.invokespecial 48, 3) := by decide +kernel
theorem dd_T_init_81 : decode prog_7_method_1_code 81 = .ok (.aastore, 1) := by decide +kernel
theorem dd_T_init_82 : decode prog_7_method_1_code 82 = .ok (.iinc 1 1, 3) := by decide +kernel
theorem dd_T_init_85 : decode prog_7_method_1_code 85 = .ok (.goto (-22), 3) := by decide +kernel
theorem dd_T_init_88 : decode prog_7_method_1_code 88 = .ok (.iconst 0, 1) := by decide +kernel
theorem dd_T_init_89 : decode prog_7_method_1_code 89 = .ok (.istore_n 1, 1) := by decide +kernel
theorem dd_T_init_90 : decode prog_7_method_1_code 90 = .ok (.iload_n 1, 1) := by decide +kernel
theorem dd_T_init_91 : decode prog_7_method_1_code 91 = .ok (.iconst 4, 1) := by decide +kernel
theorem dd_T_init_92 : decode prog_7_method_1_code 92 = .ok (.if_icmp .ge 22, 3) := by decide +kernel
theorem dd_T_init_95 : decode prog_7_method_1_code 95 = .ok (.aload_n 0, 1) := by decide +kernel
theorem dd_T_init_96 : decode prog_7_method_1_code 96 = .ok (.getfield 19, 3) := by decide +kernel
theorem dd_T_init_99 : decode prog_7_method_1_code 99 = .ok (.iload_n 1, 1) := by decide +kernel
theorem dd_T_init_100 : decode prog_7_method_1_code 100 = .ok (.new 17, 3) := by decide +kernel
theorem dd_T_init_103 : decode prog_7_method_1_code 103 = .ok (.dup, 1) := by decide +kernel
theorem dd_T_init_104 : decode prog_7_method_1_code 104 = .ok (.invokespecial 49, 3) := by decide +kernel
theorem dd_T_init_107 : decode prog_7_method_1_code 107 = .ok (.aastore, 1) := by decide +kernel
theorem dd_T_init_108 : decode prog_7_method_1_code 108 = .ok (.iinc 1 1, 3) := by decide +kernel
theorem dd_T_init_111 : decode prog_7_method_1_code 111 = .ok (.goto (-21), 3) := by decide +kernel
theorem dd_T_init_114 : decode prog_7_method_1_code 114 = .ok (.return_, 1) := by decide +kernel
theorem dd_T_startAfresh_0 : decode prog_7_method_2_code 0 = .ok (.aload_n 0, 1) := by decide +kernel
theorem dd_T_startAfresh_1 : decode prog_7_method_2_code 1 = .ok (.iconst 0, 1) := by decide +kernel
theorem dd_T_startAfresh_2 : decode prog_7_method_2_code 2 = .ok (.putfield 23, 3) := by decide +kernel
theorem dd_T_startAfresh_5 : decode prog_7_method_2_code 5 = .ok (.aload_n 0, 1) := by decide +kernel
theorem dd_T_startAfresh_6 : decode prog_7_method_2_code 6 = .ok (.iconst 0, 1) := by decide +kernel
theorem dd_T_startAfresh_7 : decode prog_7_method_2_code 7 = .ok (.putfield 27, 3) := by decide +kernel
theorem dd_T_startAfresh_10 : decode prog_7_method_2_code 10 = .ok (.aload_n 0, 1) := by decide +kernel
theorem dd_T_startAfresh_11 : decode prog_7_method_2_code 11 = .ok (.iconst 2, 1) := by decide +kernel
theorem dd_T_startAfresh_12 : decode prog_7_method_2_code 12 = .ok (.putfield 30, 3) := by decide +kernel
theorem dd_T_startAfresh_15 : decode prog_7_method_2_code 15 = .ok (.aload_n 0, 1) := by decide +kernel
theorem dd_T_startAfresh_16 : decode prog_7_method_2_code 16 = .ok (.iconst 2, 1) := by decide +kernel
theorem dd_T_startAfresh_17 : decode prog_7_method_2_code 17 = .ok (.putfield 33, 3) := by decide +kernel
theorem dd_T_startAfresh_20 : decode prog_7_method_2_code 20 = .ok (.aload_n 0, 1) := by decide +kernel
theorem dd_T_startAfresh_21 : decode prog_7_method_2_code 21 = .ok (.iconst 0, 1) := by decide +kernel
theorem dd_T_startAfresh_22 : decode prog_7_method_2_code 22 = .ok (.putfield 36, 3) := by decide +kernel
theorem dd_T_startAfresh_25 : decode prog_7_method_2_code 25 = .ok (.return_, 1) := by decide +kernel
theorem dd_T_copyFrom_0 : decode prog_7_method_3_code 0 = .ok (.aload_n 0, 1) := by decide +kernel
theorem dd_T_copyFrom_1 : decode prog_7_method_3_code 1 = .ok (.aload_n 1, 1) := by decide +kernel
theorem dd_T_copyFrom_2 : decode prog_7_method_3_code 2 = .ok (.getfield 23, 3) := by decide +kernel
theorem dd_T_copyFrom_5 : decode prog_7_method_3_code 5 = .ok (.putfield 23, 3) := by decide +kernel
theorem dd_T_copyFrom_8 : decode prog_7_method_3_code 8 = .ok (.aload_n 0, 1) := by decide +kernel
theorem dd_T_copyFrom_9 : decode prog_7_method_3_code 9 = .ok (.aload_n 1, 1) := by decide +kernel
theorem dd_T_copyFrom_10 : decode prog_7_method_3_code 10 = .ok (.getfield 27, 3) := by decide +kernel
theorem dd_T_copyFrom_13 : decode prog_7_method_3_code 13 = .ok (.putfield 27, 3) := by decide +kernel
theorem dd_T_copyFrom_16 : decode prog_7_method_3_code 16 = .ok (.aload_n 0, 1) := by decide +kernel
theorem dd_T_copyFrom_17 : decode prog_7_method_3_code 17 = .ok (.aload_n 1, 1) := by decide +kernel
theorem dd_T_copyFrom_18 : decode prog_7_method_3_code 18 = .ok (.getfield 30, 3) := by decide +kernel
theorem dd_T_copyFrom_21 : decode prog_7_method_3_code 21 = .ok (.putfield 30, 3) := by decide +kernel
theorem dd_T_copyFrom_24 : decode prog_7_method_3_code 24 = .ok (.aload_n 0, 1) := by decide +kernel
theorem dd_T_copyFrom_25 : decode prog_7_method_3_code 25 = .ok (.aload_n 1, 1) := by decide +kernel
theorem dd_T_copyFrom_26 : decode prog_7_method_3_code 26 = .ok (.getfield 33, 3) := by decide +kernel
theorem dd_T_copyFrom_29 : decode prog_7_method_3_code 29 = .ok (.putfield 33, 3) := by decide +kernel
theorem dd_T_copyFrom_32 : decode prog_7_method_3_code 32 = .ok (.aload_n 0, 1) := by decide +kernel
theorem dd_T_copyFrom_33 : decode prog_7_method_3_code 33 = .ok (.aload_n 1, 1) := by decide +kernel
theorem dd_T_copyFrom_34 : decode prog_7_method_3_code 34 = .ok (.getfield 36, 3) := by decide +kernel
theorem dd_T_copyFrom_37 : decode prog_7_method_3_code 37 = .ok (.putfield 36, 3) := by decide +kernel
theorem dd_T_copyFrom_40 : decode prog_7_method_3_code 40 = .ok (.iconst 0, 1) := by decide +kernel
theorem dd_T_copyFrom_41 : decode prog_7_method_3_code 41 = .ok (.istore_n 2, 1) := by decide +kernel
theorem dd_T_copyFrom_42 : decode prog_7_method_3_code 42 = .ok (.iload_n 2, 1) := by decide +kernel
theorem dd_T_copyFrom_43 : decode prog_7_method_3_code 43 = .ok (.aload_n 0, 1) := by decide +kernel
theorem dd_T_copyFrom_44 : decode prog_7_method_3_code 44 = .ok (.getfield 23, 3) := by decide +kernel
theorem dd_T_copyFrom_47 : decode prog_7_method_3_code 47 = .ok (.if_icmp .ge 24, 3) := by decide +kernel
theorem dd_T_copyFrom_50 : decode prog_7_method_3_code 50 = .ok (.aload_n 0, 1) := by decide +kernel
theorem dd_T_copyFrom_51 : decode prog_7_method_3_code 51 = .ok (.getfield 11, 3) := by decide +kernel
theorem dd_T_copyFrom_54 : decode prog_7_method_3_code 54 = .ok (.iload_n 2, 1) := by decide +kernel
theorem dd_T_copyFrom_55 : decode prog_7_method_3_code 55 = .ok (.aaload, 1) := by decide +kernel
theorem dd_T_copyFrom_56 : decode prog_7_method_3_code 56 = .ok (.aload_n 1, 1) := by decide +kernel
theorem dd_T_copyFrom_57 : decode prog_7_method_3_code 57 = .ok (.getfield 11, 3) := by decide +kernel
theorem dd_T_copyFrom_60 : decode prog_7_method_3_code 60 = .ok (.iload_n 2, 1) := by decide +kernel
theorem dd_T_copyFrom_61 : decode prog_7_method_3_code 61 = .ok (.aaload, 1) := by decide +kernel
theorem dd_T_copyFrom_62 : decode prog_7_method_3_code 62 = .ok (.invokevirtual 50, 3) := by decide +kernel
theorem dd_T_copyFrom_65 : decode prog_7_method_3_code 65 = .ok (.iinc 2 1, 3) := by decide +kernel
theorem dd_T_copyFrom_68 : decode prog_7_method_3_code 68 = .ok (.goto (-26), 3) := by decide +kernel
theorem dd_T_copyFrom_71 : decode prog_7_method_3_code 71 = .ok (.iconst 0, 1) := by decide +kernel
theorem dd_T_copyFrom_72 : decode prog_7_method_3_code 72 = .ok (.istore_n 2, 1) := by decide +kernel
theorem dd_T_copyFrom_73 : decode prog_7_method_3_code 73 = .ok (.iload_n 2, 1) := by decide +kernel
theorem dd_T_copyFrom_74 : decode prog_7_method_3_code 74 = .ok (.aload_n 0, 1) := by decide +kernel
theorem dd_T_copyFrom_75 : decode prog_7_method_3_code 75 = .ok (.getfield 27, 3) := by decide +kernel
theorem dd_T_copyFrom_78 : decode prog_7_method_3_code 78 = .ok (.if_icmp .ge 24, 3) := by decide +kernel
theorem dd_T_copyFrom_81 : decode prog_7_method_3_code 81 = .ok (.aload_n 0, 1) := by decide +kernel
theorem dd_T_copyFrom_82 : decode prog_7_method_3_code 82 = .ok (.getfield 19, 3) := by decide +kernel
theorem dd_T_copyFrom_85 : decode prog_7_method_3_code 85 = .ok (.iload_n 2, 1) := by decide +kernel
theorem dd_T_copyFrom_86 : decode prog_7_method_3_code 86 = .ok (.aaload, 1) := by decide +kernel
theorem dd_T_copyFrom_87 : decode prog_7_method_3_code 87 = .ok (.aload_n 1, 1) := by decide +kernel
theorem dd_T_copyFrom_88 : decode prog_7_method_3_code 88 = .ok (.getfield 19, 3) := by decide +kernel
theorem dd_T_copyFrom_91 : decode prog_7_method_3_code 91 = .ok (.iload_n 2, 1) := by decide +kernel
theorem dd_T_copyFrom_92 : decode prog_7_method_3_code 92 = .ok (.aaload, 1) := by decide +kernel
theorem dd_T_copyFrom_93 : decode prog_7_method_3_code 93 = .ok (.invokevirtual 54, 3) := by decide +kernel
theorem dd_T_copyFrom_96 : decode prog_7_method_3_code 96 = .ok (.iinc 2 1, 3) := by decide +kernel
theorem dd_T_copyFrom_99 : decode prog_7_method_3_code 99 = .ok (.goto (-26), 3) := by decide +kernel
theorem dd_T_copyFrom_102 : decode prog_7_method_3_code 102 = .ok (.aload_n 0, 1) := by decide +kernel
theorem dd_T_copyFrom_103 : decode prog_7_method_3_code 103 = .ok (.iconst 0, 1) := by decide +kernel
theorem dd_T_copyFrom_104 : decode prog_7_method_3_code 104 = .ok (.putfield 39, 3) := by decide +kernel
theorem dd_T_copyFrom_107 : decode prog_7_method_3_code 107 = .ok (.aload_n 0, 1) := by decide +kernel
theorem dd_T_copyFrom_108 : decode prog_7_method_3_code 108 = .ok (.iconst 0, 1) := by decide +kernel
theorem dd_T_copyFrom_109 : decode prog_7_method_3_code 109 = .ok (.putfield 42, 3) := by decide +kernel
theorem dd_T_copyFrom_112 : decode prog_7_method_3_code 112 = .ok (.aload_n 0, 1) := by decide +kernel
theorem dd_T_copyFrom_113 : decode prog_7_method_3_code 113 = .ok (.iconst 0, 1) := by decide +kernel
theorem dd_T_copyFrom_114 : decode prog_7_method_3_code 114 = .ok (.putfield 45, 3) := by decide +kernel
theorem dd_T_copyFrom_117 : decode prog_7_method_3_code 117 = .ok (.return_, 1) := by decide +kernel
theorem dd_T_addGood_0 : decode prog_7_method_4_code 0 = .ok (.aload_n 0, 1) := by decide +kernel
theorem dd_T_addGood_1 : decode prog_7_method_4_code 1 = .ok (.getfield 23, 3) := by decide +kernel
theorem dd_T_addGood_4 : decode prog_7_method_4_code 4 = .ok (.bipush 8, 2) := by decide +kernel
theorem dd_T_addGood_6 : decode prog_7_method_4_code 6 = .ok (.if_icmp .ge 41, 3) := by decide +kernel
theorem dd_T_addGood_9 : decode prog_7_method_4_code 9 = .ok (.aload_n 0, 1) := by decide +kernel
theorem dd_T_addGood_10 : decode prog_7_method_4_code 10 = .ok (.getfield 11, 3) := by decide +kernel
theorem dd_T_addGood_13 : decode prog_7_method_4_code 13 = .ok (.aload_n 0, 1) := by decide +kernel
theorem dd_T_addGood_14 : decode prog_7_method_4_code 14 = .ok (.getfield 23, 3) := by decide +kernel
theorem dd_T_addGood_17 : decode prog_7_method_4_code 17 = .ok (.aaload, 1) := by decide +kernel
theorem dd_T_addGood_18 : decode prog_7_method_4_code 18 = .ok (.iload_n 1, 1) := by decide +kernel
theorem dd_T_addGood_19 : decode prog_7_method_4_code 19 = .ok (.iload_n 2, 1) := by decide +kernel
theorem dd_T_addGood_20 : decode prog_7_method_4_code 20 = .ok (.iload_n 3, 1) := by decide +kernel
theorem dd_T_addGood_21 : decode prog_7_method_4_code 21 = .ok (.invokevirtual 57, 3) := by decide +kernel
theorem dd_T_addGood_24 : decode prog_7_method_4_code 24 = .ok (.aload_n 0, 1) := by decide +kernel
theorem dd_T_addGood_25 : decode prog_7_method_4_code 25 = .ok (.getfield 11, 3) := by decide +kernel
theorem dd_T_addGood_28 : decode prog_7_method_4_code 28 = .ok (.aload_n 0, 1) := by decide +kernel
theorem dd_T_addGood_29 : decode prog_7_method_4_code 29 = .ok (.getfield 23, 3) := by decide +kernel
theorem dd_T_addGood_32 : decode prog_7_method_4_code 32 = .ok (.aaload, 1) := by decide +kernel
theorem dd_T_addGood_33 : decode prog_7_method_4_code 33 = .ok (.iconst 0, 1) := by decide +kernel
theorem dd_T_addGood_34 : decode prog_7_method_4_code 34 = .ok (.putfield 61, 3) := by decide +kernel
theorem dd_T_addGood_37 : decode prog_7_method_4_code 37 = .ok (.aload_n 0, 1) := by decide +kernel
theorem dd_T_addGood_38 : decode prog_7_method_4_code 38 = .ok (.dup, 1) := by decide +kernel
theorem dd_T_addGood_39 : decode prog_7_method_4_code 39 = .ok (.getfield 23, 3) := by decide +kernel
theorem dd_T_addGood_42 : decode prog_7_method_4_code 42 = .ok (.iconst 1, 1) := by decide +kernel
theorem dd_T_addGood_43 : decode prog_7_method_4_code 43 = .ok (.iadd, 1) := by decide +kernel
theorem dd_T_addGood_44 : decode prog_7_method_4_code 44 = .ok (.putfield 23, 3) := by decide +kernel
theorem dd_T_addGood_47 : decode prog_7_method_4_code 47 = .ok (.return_, 1) := by decide +kernel
theorem dd_T_addOne_0 : decode prog_7_method_5_code 0 = .ok (.aload_n 0, 1) := by decide +kernel
theorem dd_T_addOne_1 : decode prog_7_method_5_code 1 = .ok (.getfield 27, 3) := by decide +kernel
theorem dd_T_addOne_4 : decode prog_7_method_5_code 4 = .ok (.iconst 4, 1) := by decide +kernel
theorem dd_T_addOne_5 : decode prog_7_method_5_code 5 = .ok (.if_icmp .ge 39, 3) := by decide +kernel
theorem dd_T_addOne_8 : decode prog_7_method_5_code 8 = .ok (.aload_n 0, 1) := by decide +kernel
theorem dd_T_addOne_9 : decode prog_7_method_5_code 9 = .ok (.getfield 19, 3) := by decide +kernel
theorem dd_T_addOne_12 : decode prog_7_method_5_code 12 = .ok (.aload_n 0, 1) := by decide +kernel
theorem dd_T_addOne_13 : decode prog_7_method_5_code 13 = .ok (.getfield 27, 3) := by decide +kernel
theorem dd_T_addOne_16 : decode prog_7_method_5_code 16 = .ok (.aaload, 1) := by decide +kernel
theorem dd_T_addOne_17 : decode prog_7_method_5_code 17 = .ok (.iload_n 1, 1) := by decide +kernel
theorem dd_T_addOne_18 : decode prog_7_method_5_code 18 = .ok (.putfield 65, 3) := by decide +kernel
theorem dd_T_addOne_21 : decode prog_7_method_5_code 21 = .ok (.aload_n 0, 1) := by decide +kernel
theorem dd_T_addOne_22 : decode prog_7_method_5_code 22 = .ok (.getfield 19, 3) := by decide +kernel
theorem dd_T_addOne_25 : decode prog_7_method_5_code 25 = .ok (.aload_n 0, 1) := by decide +kernel
theorem dd_T_addOne_26 : decode prog_7_method_5_code 26 = .ok (.getfield 27, 3) := by decide +kernel
theorem dd_T_addOne_29 : decode prog_7_method_5_code 29 = .ok (.aaload, 1) := by decide +kernel
theorem dd_T_addOne_30 : decode prog_7_method_5_code 30 = .ok (.iconst 0, 1) := by decide +kernel
theorem dd_T_addOne_31 : decode prog_7_method_5_code 31 = .ok (.putfield 68, 3) := by decide +kernel
theorem dd_T_addOne_34 : decode prog_7_method_5_code 34 = .ok (.aload_n 0, 1) := by decide +kernel
theorem dd_T_addOne_35 : decode prog_7_method_5_code 35 = .ok (.dup, 1) := by decide +kernel
theorem dd_T_addOne_36 : decode prog_7_method_5_code 36 = .ok (.getfield 27, 3) := by decide +kernel
theorem dd_T_addOne_39 : decode prog_7_method_5_code 39 = .ok (.iconst 1, 1) := by decide +kernel
theorem dd_T_addOne_40 : decode prog_7_method_5_code 40 = .ok (.iadd, 1) := by decide +kernel
theorem dd_T_addOne_41 : decode prog_7_method_5_code 41 = .ok (.putfield 27, 3) := by decide +kernel
theorem dd_T_addOne_44 : decode prog_7_method_5_code 44 = .ok (.return_, 1) := by decide +kernel
theorem dd_T_changePlaces_0 : decode prog_7_method_6_code 0 = .ok (.aload_n 0, 1) := by decide +kernel
theorem dd_T_changePlaces_1 : decode prog_7_method_6_code 1 = .ok (.getfield 19, 3) := by decide +kernel
theorem dd_T_changePlaces_4 : decode prog_7_method_6_code 4 = .ok (.iload_n 1, 1) := by decide +kernel
theorem dd_T_changePlaces_5 : decode prog_7_method_6_code 5 = .ok (.aaload, 1) := by decide +kernel
theorem dd_T_changePlaces_6 : decode prog_7_method_6_code 6 = .ok (.astore_n 3, 1) := by decide +kernel
theorem dd_T_changePlaces_7 : decode prog_7_method_6_code 7 = .ok (.aload_n 0, 1) := by decide +kernel
theorem dd_T_changePlaces_8 : decode prog_7_method_6_code 8 = .ok (.getfield 19, 3) := by decide +kernel
theorem dd_T_changePlaces_11 : decode prog_7_method_6_code 11 = .ok (.iload_n 1, 1) := by decide +kernel
theorem dd_T_changePlaces_12 : decode prog_7_method_6_code 12 = .ok (.aload_n 0, 1) := by decide +kernel
theorem dd_T_changePlaces_13 : decode prog_7_method_6_code 13 = .ok (.getfield 19, 3) := by decide +kernel
theorem dd_T_changePlaces_16 : decode prog_7_method_6_code 16 = .ok (.iload_n 2, 1) := by decide +kernel
theorem dd_T_changePlaces_17 : decode prog_7_method_6_code 17 = .ok (.aaload, 1) := by decide +kernel
theorem dd_T_changePlaces_18 : decode prog_7_method_6_code 18 = .ok (.aastore, 1) := by decide +kernel
theorem dd_T_changePlaces_19 : decode prog_7_method_6_code 19 = .ok (.aload_n 0, 1) := by decide +kernel
theorem dd_T_changePlaces_20 : decode prog_7_method_6_code 20 = .ok (.getfield 19, 3) := by decide +kernel
theorem dd_T_changePlaces_23 : decode prog_7_method_6_code 23 = .ok (.iload_n 2, 1) := by decide +kernel
theorem dd_T_changePlaces_24 : decode prog_7_method_6_code 24 = .ok (.aload_n 3, 1) := by decide +kernel
theorem dd_T_changePlaces_25 : decode prog_7_method_6_code 25 = .ok (.aastore, 1) := by decide +kernel
theorem dd_T_changePlaces_26 : decode prog_7_method_6_code 26 = .ok (.return_, 1) := by decide +kernel
theorem dd_T_passWeeks_0 : decode prog_7_method_7_code 0 = .ok (.iconst 0, 1) := by decide +kernel
theorem dd_T_passWeeks_1 : decode prog_7_method_7_code 1 = .ok (.istore_n 2, 1) := by decide +kernel
theorem dd_T_passWeeks_2 : decode prog_7_method_7_code 2 = .ok (.iload_n 2, 1) := by decide +kernel
theorem dd_T_passWeeks_3 : decode prog_7_method_7_code 3 = .ok (.iload_n 1, 1) := by decide +kernel
theorem dd_T_passWeeks_4 : decode prog_7_method_7_code 4 = .ok (.if_icmp .ge 14, 3) := by decide +kernel
theorem dd_T_passWeeks_7 : decode prog_7_method_7_code 7 = .ok (.aload_n 0, 1) := by decide +kernel
theorem dd_T_passWeeks_8 : decode prog_7_method_7_code 8 = .ok (.iconst 0, 1) := by decide +kernel
theorem dd_T_passWeeks_9 : decode prog_7_method_7_code 9 = .ok (.invokevirtual 71, 3) := by decide +kernel
theorem dd_T_passWeeks_12 : decode prog_7_method_7_code 12 = .ok (.iinc 2 1, 3) := by decide +kernel
theorem dd_T_passWeeks_15 : decode prog_7_method_7_code 15 = .ok (.goto (-13), 3) := by decide +kernel
theorem dd_T_passWeeks_18 : decode prog_7_method_7_code 18 = .ok (.return_, 1) := by decide +kernel
theorem dd_T_passWeek_0 : decode prog_7_method_8_code 0 = .ok (.aload_n 0, 1) := by decide +kernel
theorem dd_T_passWeek_1 : decode prog_7_method_8_code 1 = .ok (.iload_n 1, 1) := by decide +kernel
theorem dd_T_passWeek_2 : decode prog_7_method_8_code 2 = .ok (.invokevirtual 75, 3) := by decide +kernel
theorem dd_T_passWeek_5 : decode prog_7_method_8_code 5 = .ok (.aload_n 0, 1) := by decide +kernel
theorem dd_T_passWeek_6 : decode prog_7_method_8_code 6 = .ok (.invokevirtual 78, 3) := by decide +kernel
theorem dd_T_passWeek_9 : decode prog_7_method_8_code 9 = .ok (.aload_n 0, 1) := by decide +kernel
theorem dd_T_passWeek_10 : decode prog_7_method_8_code 10 = .ok (.aload_n 0, 1) := by decide +kernel
theorem dd_T_passWeek_11 : decode prog_7_method_8_code 11 = .ok (.getfield 33, 3) := by decide +kernel
theorem dd_T_passWeek_14 : decode prog_7_method_8_code 14 = .ok (.invokevirtual 81, 3) := by decide +kernel
theorem dd_T_passWeek_17 : decode prog_7_method_8_code 17 = .ok (.pop, 1) := by decide +kernel
theorem dd_T_passWeek_18 : decode prog_7_method_8_code 18 = .ok (.aload_n 0, 1) := by decide +kernel
theorem dd_T_passWeek_19 : decode prog_7_method_8_code 19 = .ok (.dup, 1) := by decide +kernel
theorem dd_T_passWeek_20 : decode prog_7_method_8_code 20 = .ok (.getfield 36, 3) := by decide +kernel
theorem dd_T_passWeek_23 : decode prog_7_method_8_code 23 = .ok (.iconst 1, 1) := by decide +kernel
theorem dd_T_passWeek_24 : decode prog_7_method_8_code 24 = .ok (.iadd, 1) := by decide +kernel
theorem dd_T_passWeek_25 : decode prog_7_method_8_code 25 = .ok (.putfield 36, 3) := by decide +kernel
theorem dd_T_passWeek_28 : decode prog_7_method_8_code 28 = .ok (.return_, 1) := by decide +kernel
theorem dd_T_carryOut_0 : decode prog_7_method_9_code 0 = .ok (.aload_n 0, 1) := by decide +kernel
theorem dd_T_carryOut_1 : decode prog_7_method_9_code 1 = .ok (.iconst 0, 1) := by decide +kernel
theorem dd_T_carryOut_2 : decode prog_7_method_9_code 2 = .ok (.putfield 39, 3) := by decide +kernel
theorem dd_T_carryOut_5 : decode prog_7_method_9_code 5 = .ok (.iconst 0, 1) := by decide +kernel
theorem dd_T_carryOut_6 : decode prog_7_method_9_code 6 = .ok (.istore_n 2, 1) := by decide +kernel
theorem dd_T_carryOut_7 : decode prog_7_method_9_code 7 = .ok (.iload_n 2, 1) := by decide +kernel
theorem dd_T_carryOut_8 : decode prog_7_method_9_code 8 = .ok (.aload_n 0, 1) := by decide +kernel
theorem dd_T_carryOut_9 : decode prog_7_method_9_code 9 = .ok (.getfield 27, 3) := by decide +kernel
theorem dd_T_carryOut_12 : decode prog_7_method_9_code 12 = .ok (.if_icmp .ge 18, 3) := by decide +kernel
theorem dd_T_carryOut_15 : decode prog_7_method_9_code 15 = .ok (.aload_n 0, 1) := by decide +kernel
theorem dd_T_carryOut_16 : decode prog_7_method_9_code 16 = .ok (.getfield 19, 3) := by decide +kernel
theorem dd_T_carryOut_19 : decode prog_7_method_9_code 19 = .ok (.iload_n 2, 1) := by decide +kernel
theorem dd_T_carryOut_20 : decode prog_7_method_9_code 20 = .ok (.aaload, 1) := by decide +kernel
theorem dd_T_carryOut_21 : decode prog_7_method_9_code 21 = .ok (.invokevirtual 85, 3) := by decide +kernel
theorem dd_T_carryOut_24 : decode prog_7_method_9_code 24 = .ok (.iinc 2 1, 3) := by decide +kernel
theorem dd_T_carryOut_27 : decode prog_7_method_9_code 27 = .ok (.goto (-20), 3) := by decide +kernel
theorem dd_T_carryOut_30 : decode prog_7_method_9_code 30 = .ok (.iconst 1, 1) := by decide +kernel
theorem dd_T_carryOut_31 : decode prog_7_method_9_code 31 = .ok (.istore_n 2, 1) := by decide +kernel
theorem dd_T_carryOut_32 : decode prog_7_method_9_code 32 = .ok (.iconst 0, 1) := by decide +kernel
theorem dd_T_carryOut_33 : decode prog_7_method_9_code 33 = .ok (.istore_n 3, 1) := by decide +kernel
theorem dd_T_carryOut_34 : decode prog_7_method_9_code 34 = .ok (.iload_n 3, 1) := by decide +kernel
theorem dd_T_carryOut_35 : decode prog_7_method_9_code 35 = .ok (.aload_n 0, 1) := by decide +kernel
theorem dd_T_carryOut_36 : decode prog_7_method_9_code 36 = .ok (.getfield 30, 3) := by decide +kernel
theorem dd_T_carryOut_39 : decode prog_7_method_9_code 39 = .ok (.if_icmp .ge 58, 3) := by decide +kernel
theorem dd_T_carryOut_42 : decode prog_7_method_9_code 42 = .ok (.iload_n 2, 1) := by decide +kernel
theorem dd_T_carryOut_43 : decode prog_7_method_9_code 43 = .ok (.ifCond .eq 54, 3) := by decide +kernel
theorem dd_T_carryOut_46 : decode prog_7_method_9_code 46 = .ok (.iconst 0, 1) := by decide +kernel
theorem dd_T_carryOut_47 : decode prog_7_method_9_code 47 = .ok (.istore_n 2, 1) := by decide +kernel
theorem dd_T_carryOut_48 : decode prog_7_method_9_code 48 = .ok (.iconst 0, 1) := by decide +kernel
theorem dd_T_carryOut_49 : decode prog_7_method_9_code 49 = .ok (.istore 4, 2) := by decide +kernel
theorem dd_T_carryOut_51 : decode prog_7_method_9_code 51 = .ok (.iload 4, 2) := by decide +kernel
theorem dd_T_carryOut_53 : decode prog_7_method_9_code 53 = .ok (.aload_n 0, 1) := by decide +kernel
theorem dd_T_carryOut_54 : decode prog_7_method_9_code 54 = .ok (.getfield 27, 3) := by decide +kernel
theorem dd_T_carryOut_57 : decode prog_7_method_9_code 57 = .ok (.if_icmp .ge 34, 3) := by decide +kernel
theorem dd_T_carryOut_60 : decode prog_7_method_9_code 60 = .ok (.iload_n 1, 1) := by decide +kernel
theorem dd_T_carryOut_61 : decode prog_7_method_9_code 61 = .ok (.iload 4, 2) := by decide +kernel
theorem dd_T_carryOut_63 : decode prog_7_method_9_code 63 = .ok (.invokestatic 88, 3) := by decide +kernel
theorem dd_T_carryOut_66 : decode prog_7_method_9_code 66 = .ok (.ifCond .ne 19, 3) := by decide +kernel
theorem dd_T_carryOut_69 : decode prog_7_method_9_code 69 = .ok (.aload_n 0, 1) := by decide +kernel
theorem dd_T_carryOut_70 : decode prog_7_method_9_code 70 = .ok (.aload_n 0, 1) := by decide +kernel
theorem dd_T_carryOut_71 : decode prog_7_method_9_code 71 = .ok (.getfield 19, 3) := by decide +kernel
theorem dd_T_carryOut_74 : decode prog_7_method_9_code 74 = .ok (.iload 4, 2) := by decide +kernel
theorem dd_T_carryOut_76 : decode prog_7_method_9_code 76 = .ok (.aaload, 1) := by decide +kernel
theorem dd_T_carryOut_77 : decode prog_7_method_9_code 77 = .ok (.invokevirtual 92, 3) := by decide +kernel
theorem dd_T_carryOut_80 : decode prog_7_method_9_code 80 = .ok (.ifCond .eq 5, 3) := by decide +kernel
theorem dd_T_carryOut_83 : decode prog_7_method_9_code 83 = .ok (.iconst 1, 1) := by decide +kernel
theorem dd_T_carryOut_84 : decode prog_7_method_9_code 84 = .ok (.istore_n 2, 1) := by decide +kernel
theorem dd_T_carryOut_85 : decode prog_7_method_9_code 85 = .ok (.iinc 4 1, 3) := by decide +kernel
theorem dd_T_carryOut_88 : decode prog_7_method_9_code 88 = .ok (.goto (-37), 3) := by decide +kernel
theorem dd_T_carryOut_91 : decode prog_7_method_9_code 91 = .ok (.iinc 3 1, 3) := by decide +kernel
theorem dd_T_carryOut_94 : decode prog_7_method_9_code 94 = .ok (.goto (-60), 3) := by decide +kernel
theorem dd_T_carryOut_97 : decode prog_7_method_9_code 97 = .ok (.return_, 1) := by decide +kernel
theorem dd_T_takesBest_0 : decode prog_7_method_10_code 0 = .ok (.iconst (-1), 1) := by decide +kernel
theorem dd_T_takesBest_1 : decode prog_7_method_10_code 1 = .ok (.istore_n 2, 1) := by decide +kernel
theorem dd_T_takesBest_2 : decode prog_7_method_10_code 2 = .ok (.iconst (-1), 1) := by decide +kernel
theorem dd_T_takesBest_3 : decode prog_7_method_10_code 3 = .ok (.istore_n 3, 1) := by decide +kernel
theorem dd_T_takesBest_4 : decode prog_7_method_10_code 4 = .ok (.aload_n 1, 1) := by decide +kernel
theorem dd_T_takesBest_5 : decode prog_7_method_10_code 5 = .ok (.getfield 65, 3) := by decide +kernel
theorem dd_T_takesBest_8 : decode prog_7_method_10_code 8 = .ok (.aload_n 1, 1) := by decide +kernel
theorem dd_T_takesBest_9 : decode prog_7_method_10_code 9 = .ok (.getfield 96, 3) := by decide +kernel
theorem dd_T_takesBest_12 : decode prog_7_method_10_code 12 = .ok (.isub, 1) := by decide +kernel
theorem dd_T_takesBest_13 : decode prog_7_method_10_code 13 = .ok (.istore 4, 2) := by decide +kernel
theorem dd_T_takesBest_15 : decode prog_7_method_10_code 15 = .ok (.iconst 0, 1) := by decide +kernel
theorem dd_T_takesBest_16 : decode prog_7_method_10_code 16 = .ok (.istore 5, 2) := by decide +kernel
theorem dd_T_takesBest_18 : decode prog_7_method_10_code 18 = .ok (.iload 5, 2) := by decide +kernel
theorem dd_T_takesBest_20 : decode prog_7_method_10_code 20 = .ok (.aload_n 0, 1) := by decide +kernel
theorem dd_T_takesBest_21 : decode prog_7_method_10_code 21 = .ok (.getfield 23, 3) := by decide +kernel
theorem dd_T_takesBest_24 : decode prog_7_method_10_code 24 = .ok (.if_icmp .ge 54, 3) := by decide +kernel
theorem dd_T_takesBest_27 : decode prog_7_method_10_code 27 = .ok (.aload_n 0, 1) := by decide +kernel
theorem dd_T_takesBest_28 : decode prog_7_method_10_code 28 = .ok (.getfield 11, 3) := by decide +kernel
theorem dd_T_takesBest_31 : decode prog_7_method_10_code 31 = .ok (.iload 5, 2) := by decide +kernel
theorem dd_T_takesBest_33 : decode prog_7_method_10_code 33 = .ok (.aaload, 1) := by decide +kernel
theorem dd_T_takesBest_34 : decode prog_7_method_10_code 34 = .ok (.astore 6, 2) := by decide +kernel
theorem dd_T_takesBest_36 : decode prog_7_method_10_code 36 = .ok (.aload 6, 2) := by decide +kernel
theorem dd_T_takesBest_38 : decode prog_7_method_10_code 38 = .ok (.getfield 61, 3) := by decide +kernel
theorem dd_T_takesBest_41 : decode prog_7_method_10_code 41 = .ok (.ifCond .ne 31, 3) := by decide +kernel
theorem dd_T_takesBest_44 : decode prog_7_method_10_code 44 = .ok (.aload 6, 2) := by decide +kernel
theorem dd_T_takesBest_46 : decode prog_7_method_10_code 46 = .ok (.getfield 99, 3) := by decide +kernel
theorem dd_T_takesBest_49 : decode prog_7_method_10_code 49 = .ok (.iload 4, 2) := by decide +kernel
theorem dd_T_takesBest_51 : decode prog_7_method_10_code 51 = .ok (.if_icmp .gt 21, 3) := by decide +kernel
theorem dd_T_takesBest_54 : decode prog_7_method_10_code 54 = .ok (.aload 6, 2) := by decide +kernel
theorem dd_T_takesBest_56 : decode prog_7_method_10_code 56 = .ok (.getfield 102, 3) := by decide +kernel
theorem dd_T_takesBest_59 : decode prog_7_method_10_code 59 = .ok (.iload_n 3, 1) := by decide +kernel
theorem dd_T_takesBest_60 : decode prog_7_method_10_code 60 = .ok (.if_icmp .le 12, 3) := by decide +kernel
theorem dd_T_takesBest_63 : decode prog_7_method_10_code 63 = .ok (.iload 5, 2) := by decide +kernel
theorem dd_T_takesBest_65 : decode prog_7_method_10_code 65 = .ok (.istore_n 2, 1) := by decide +kernel
theorem dd_T_takesBest_66 : decode prog_7_method_10_code 66 = .ok (.aload 6, 2) := by decide +kernel
theorem dd_T_takesBest_68 : decode prog_7_method_10_code 68 = .ok (.getfield 102, 3) := by decide +kernel
theorem dd_T_takesBest_71 : decode prog_7_method_10_code 71 = .ok (.istore_n 3, 1) := by decide +kernel
theorem dd_T_takesBest_72 : decode prog_7_method_10_code 72 = .ok (.iinc 5 1, 3) := by decide +kernel
theorem dd_T_takesBest_75 : decode prog_7_method_10_code 75 = .ok (.goto (-57), 3) := by decide +kernel
theorem dd_T_takesBest_78 : decode prog_7_method_10_code 78 = .ok (.iload_n 2, 1) := by decide +kernel
theorem dd_T_takesBest_79 : decode prog_7_method_10_code 79 = .ok (.ifCond .ge 5, 3) := by decide +kernel
theorem dd_T_takesBest_82 : decode prog_7_method_10_code 82 = .ok (.iconst 0, 1) := by decide +kernel
theorem dd_T_takesBest_83 : decode prog_7_method_10_code 83 = .ok (.ireturn, 1) := by decide +kernel
theorem dd_T_takesBest_84 : decode prog_7_method_10_code 84 = .ok (.aload_n 0, 1) := by decide +kernel
theorem dd_T_takesBest_85 : decode prog_7_method_10_code 85 = .ok (.getfield 11, 3) := by decide +kernel
theorem dd_T_takesBest_88 : decode prog_7_method_10_code 88 = .ok (.iload_n 2, 1) := by decide +kernel
theorem dd_T_takesBest_89 : decode prog_7_method_10_code 89 = .ok (.aaload, 1) := by decide +kernel
theorem dd_T_takesBest_90 : decode prog_7_method_10_code 90 = .ok (.iconst 1, 1) := by decide +kernel
theorem dd_T_takesBest_91 : decode prog_7_method_10_code 91 = .ok (.putfield 61, 3) := by decide +kernel
theorem dd_T_takesBest_94 : decode prog_7_method_10_code 94 = .ok (.aload_n 1, 1) := by decide +kernel
theorem dd_T_takesBest_95 : decode prog_7_method_10_code 95 = .ok (.dup, 1) := by decide +kernel
theorem dd_T_takesBest_96 : decode prog_7_method_10_code 96 = .ok (.getfield 105, 3) := by decide +kernel
theorem dd_T_takesBest_99 : decode prog_7_method_10_code 99 = .ok (.iconst 1, 1) := by decide +kernel
theorem dd_T_takesBest_100 : decode prog_7_method_10_code 100 = .ok (.iload_n 2, 1) := by decide +kernel
theorem dd_T_takesBest_101 : decode prog_7_method_10_code 101 = .ok (.ishl, 1) := by decide +kernel
theorem dd_T_takesBest_102 : decode prog_7_method_10_code 102 = .ok (.ior, 1) := by decide +kernel
theorem dd_T_takesBest_103 : decode prog_7_method_10_code 103 = .ok (.putfield 105, 3) := by decide +kernel
theorem dd_T_takesBest_106 : decode prog_7_method_10_code 106 = .ok (.aload_n 1, 1) := by decide +kernel
theorem dd_T_takesBest_107 : decode prog_7_method_10_code 107 = .ok (.dup, 1) := by decide +kernel
theorem dd_T_takesBest_108 : decode prog_7_method_10_code 108 = .ok (.getfield 96, 3) := by decide +kernel
theorem dd_T_takesBest_111 : decode prog_7_method_10_code 111 = .ok (.aload_n 0, 1) := by decide +kernel
theorem dd_T_takesBest_112 : decode prog_7_method_10_code 112 = .ok (.getfield 11, 3) := by decide +kernel
theorem dd_T_takesBest_115 : decode prog_7_method_10_code 115 = .ok (.iload_n 2, 1) := by decide +kernel
theorem dd_T_takesBest_116 : decode prog_7_method_10_code 116 = .ok (.aaload, 1) := by decide +kernel
theorem dd_T_takesBest_117 : decode prog_7_method_10_code 117 = .ok (.getfield 99, 3) := by decide +kernel
theorem dd_T_takesBest_120 : decode prog_7_method_10_code 120 = .ok (.iadd, 1) := by decide +kernel
theorem dd_T_takesBest_121 : decode prog_7_method_10_code 121 = .ok (.putfield 96, 3) := by decide +kernel
theorem dd_T_takesBest_124 : decode prog_7_method_10_code 124 = .ok (.aload_n 1, 1) := by decide +kernel
theorem dd_T_takesBest_125 : decode prog_7_method_10_code 125 = .ok (.dup, 1) := by decide +kernel
theorem dd_T_takesBest_126 : decode prog_7_method_10_code 126 = .ok (.getfield 108, 3) := by decide +kernel
theorem dd_T_takesBest_129 : decode prog_7_method_10_code 129 = .ok (.iload_n 3, 1) := by decide +kernel
theorem dd_T_takesBest_130 : decode prog_7_method_10_code 130 = .ok (.iadd, 1) := by decide +kernel
theorem dd_T_takesBest_131 : decode prog_7_method_10_code 131 = .ok (.putfield 108, 3) := by decide +kernel
theorem dd_T_takesBest_134 : decode prog_7_method_10_code 134 = .ok (.aload_n 0, 1) := by decide +kernel
theorem dd_T_takesBest_135 : decode prog_7_method_10_code 135 = .ok (.dup, 1) := by decide +kernel
theorem dd_T_takesBest_136 : decode prog_7_method_10_code 136 = .ok (.getfield 39, 3) := by decide +kernel
theorem dd_T_takesBest_139 : decode prog_7_method_10_code 139 = .ok (.iconst 1, 1) := by decide +kernel
theorem dd_T_takesBest_140 : decode prog_7_method_10_code 140 = .ok (.iload_n 2, 1) := by decide +kernel
theorem dd_T_takesBest_141 : decode prog_7_method_10_code 141 = .ok (.ishl, 1) := by decide +kernel
theorem dd_T_takesBest_142 : decode prog_7_method_10_code 142 = .ok (.ior, 1) := by decide +kernel
theorem dd_T_takesBest_143 : decode prog_7_method_10_code 143 = .ok (.putfield 39, 3) := by decide +kernel
theorem dd_T_takesBest_146 : decode prog_7_method_10_code 146 = .ok (.aload_n 0, 1) := by decide +kernel
theorem dd_T_takesBest_147 : decode prog_7_method_10_code 147 = .ok (.dup, 1) := by decide +kernel
theorem dd_T_takesBest_148 : decode prog_7_method_10_code 148 = .ok (.getfield 45, 3) := by decide +kernel
theorem dd_T_takesBest_151 : decode prog_7_method_10_code 151 = .ok (.iconst 1, 1) := by decide +kernel
theorem dd_T_takesBest_152 : decode prog_7_method_10_code 152 = .ok (.iadd, 1) := by decide +kernel
theorem dd_T_takesBest_153 : decode prog_7_method_10_code 153 = .ok (.putfield 45, 3) := by decide +kernel
theorem dd_T_takesBest_156 : decode prog_7_method_10_code 156 = .ok (.iconst 1, 1) := by decide +kernel
theorem dd_T_takesBest_157 : decode prog_7_method_10_code 157 = .ok (.ireturn, 1) := by decide +kernel
theorem dd_T_payOut_0 : decode prog_7_method_11_code 0 = .ok (.iconst 0, 1) := by decide +kernel
theorem dd_T_payOut_1 : decode prog_7_method_11_code 1 = .ok (.istore_n 1, 1) := by decide +kernel
theorem dd_T_payOut_2 : decode prog_7_method_11_code 2 = .ok (.iload_n 1, 1) := by decide +kernel
theorem dd_T_payOut_3 : decode prog_7_method_11_code 3 = .ok (.aload_n 0, 1) := by decide +kernel
theorem dd_T_payOut_4 : decode prog_7_method_11_code 4 = .ok (.getfield 27, 3) := by decide +kernel
theorem dd_T_payOut_7 : decode prog_7_method_11_code 7 = .ok (.if_icmp .ge 66, 3) := by decide +kernel
theorem dd_T_payOut_10 : decode prog_7_method_11_code 10 = .ok (.aload_n 0, 1) := by decide +kernel
theorem dd_T_payOut_11 : decode prog_7_method_11_code 11 = .ok (.getfield 19, 3) := by decide +kernel
theorem dd_T_payOut_14 : decode prog_7_method_11_code 14 = .ok (.iload_n 1, 1) := by decide +kernel
theorem dd_T_payOut_15 : decode prog_7_method_11_code 15 = .ok (.aaload, 1) := by decide +kernel
theorem dd_T_payOut_16 : decode prog_7_method_11_code 16 = .ok (.astore_n 2, 1) := by decide +kernel
theorem dd_T_payOut_17 : decode prog_7_method_11_code 17 = .ok (.aload_n 2, 1) := by decide +kernel
theorem dd_T_payOut_18 : decode prog_7_method_11_code 18 = .ok (.sipush 999, 3) := by decide +kernel
theorem dd_T_payOut_21 : decode prog_7_method_11_code 21 = .ok (.aload_n 2, 1) := by decide +kernel
theorem dd_T_payOut_22 : decode prog_7_method_11_code 22 = .ok (.getfield 68, 3) := by decide +kernel
theorem dd_T_payOut_25 : decode prog_7_method_11_code 25 = .ok (.aload_n 2, 1) := by decide +kernel
theorem dd_T_payOut_26 : decode prog_7_method_11_code 26 = .ok (.getfield 108, 3) := by decide +kernel
theorem dd_T_payOut_29 : decode prog_7_method_11_code 29 = .ok (.iadd, 1) := by decide +kernel
theorem dd_T_payOut_30 : decode prog_7_method_11_code 30 = .ok (.invokestatic 111, 3) := by decide +kernel
theorem dd_T_payOut_33 : decode prog_7_method_11_code 33 = .ok (.putfield 68, 3) := by decide +kernel
theorem dd_T_payOut_36 : decode prog_7_method_11_code 36 = .ok (.aload_n 2, 1) := by decide +kernel
theorem dd_T_payOut_37 : decode prog_7_method_11_code 37 = .ok (.invokevirtual 117, 3) := by decide +kernel
theorem dd_T_payOut_40 : decode prog_7_method_11_code 40 = .ok (.ifCond .eq 27, 3) := by decide +kernel
theorem dd_T_payOut_43 : decode prog_7_method_11_code 43 = .ok (.aload_n 2, 1) := by decide +kernel
theorem dd_T_payOut_44 : decode prog_7_method_11_code 44 = .ok (.iconst 1, 1) := by decide +kernel
theorem dd_T_payOut_45 : decode prog_7_method_11_code 45 = .ok (.aload_n 2, 1) := by decide +kernel
theorem dd_T_payOut_46 : decode prog_7_method_11_code 46 = .ok (.getfield 65, 3) := by decide +kernel
theorem dd_T_payOut_49 : decode prog_7_method_11_code 49 = .ok (.iconst 1, 1) := by decide +kernel
theorem dd_T_payOut_50 : decode prog_7_method_11_code 50 = .ok (.isub, 1) := by decide +kernel
theorem dd_T_payOut_51 : decode prog_7_method_11_code 51 = .ok (.invokestatic 121, 3) := by decide +kernel
theorem dd_T_payOut_54 : decode prog_7_method_11_code 54 = .ok (.putfield 65, 3) := by decide +kernel
theorem dd_T_payOut_57 : decode prog_7_method_11_code 57 = .ok (.aload_n 0, 1) := by decide +kernel
theorem dd_T_payOut_58 : decode prog_7_method_11_code 58 = .ok (.dup, 1) := by decide +kernel
theorem dd_T_payOut_59 : decode prog_7_method_11_code 59 = .ok (.getfield 42, 3) := by decide +kernel
theorem dd_T_payOut_62 : decode prog_7_method_11_code 62 = .ok (.iconst 1, 1) := by decide +kernel
theorem dd_T_payOut_63 : decode prog_7_method_11_code 63 = .ok (.iadd, 1) := by decide +kernel
theorem dd_T_payOut_64 : decode prog_7_method_11_code 64 = .ok (.putfield 42, 3) := by decide +kernel
theorem dd_T_payOut_67 : decode prog_7_method_11_code 67 = .ok (.iinc 1 1, 3) := by decide +kernel
theorem dd_T_payOut_70 : decode prog_7_method_11_code 70 = .ok (.goto (-68), 3) := by decide +kernel
theorem dd_T_payOut_73 : decode prog_7_method_11_code 73 = .ok (.return_, 1) := by decide +kernel
theorem dd_T_bringBack_0 : decode prog_7_method_12_code 0 = .ok (.iconst 0, 1) := by decide +kernel
theorem dd_T_bringBack_1 : decode prog_7_method_12_code 1 = .ok (.istore_n 2, 1) := by decide +kernel
theorem dd_T_bringBack_2 : decode prog_7_method_12_code 2 = .ok (.iconst 0, 1) := by decide +kernel
theorem dd_T_bringBack_3 : decode prog_7_method_12_code 3 = .ok (.istore_n 3, 1) := by decide +kernel
theorem dd_T_bringBack_4 : decode prog_7_method_12_code 4 = .ok (.iload_n 3, 1) := by decide +kernel
theorem dd_T_bringBack_5 : decode prog_7_method_12_code 5 = .ok (.aload_n 0, 1) := by decide +kernel
theorem dd_T_bringBack_6 : decode prog_7_method_12_code 6 = .ok (.getfield 23, 3) := by decide +kernel
theorem dd_T_bringBack_9 : decode prog_7_method_12_code 9 = .ok (.if_icmp .ge 39, 3) := by decide +kernel
theorem dd_T_bringBack_12 : decode prog_7_method_12_code 12 = .ok (.iload_n 2, 1) := by decide +kernel
theorem dd_T_bringBack_13 : decode prog_7_method_12_code 13 = .ok (.iload_n 1, 1) := by decide +kernel
theorem dd_T_bringBack_14 : decode prog_7_method_12_code 14 = .ok (.if_icmp .ge 34, 3) := by decide +kernel
theorem dd_T_bringBack_17 : decode prog_7_method_12_code 17 = .ok (.aload_n 0, 1) := by decide +kernel
theorem dd_T_bringBack_18 : decode prog_7_method_12_code 18 = .ok (.getfield 11, 3) := by decide +kernel
theorem dd_T_bringBack_21 : decode prog_7_method_12_code 21 = .ok (.iload_n 3, 1) := by decide +kernel
theorem dd_T_bringBack_22 : decode prog_7_method_12_code 22 = .ok (.aaload, 1) := by decide +kernel
theorem dd_T_bringBack_23 : decode prog_7_method_12_code 23 = .ok (.getfield 61, 3) := by decide +kernel
theorem dd_T_bringBack_26 : decode prog_7_method_12_code 26 = .ok (.ifCond .eq 16, 3) := by decide +kernel
theorem dd_T_bringBack_29 : decode prog_7_method_12_code 29 = .ok (.aload_n 0, 1) := by decide +kernel
theorem dd_T_bringBack_30 : decode prog_7_method_12_code 30 = .ok (.getfield 11, 3) := by decide +kernel
theorem dd_T_bringBack_33 : decode prog_7_method_12_code 33 = .ok (.iload_n 3, 1) := by decide +kernel
theorem dd_T_bringBack_34 : decode prog_7_method_12_code 34 = .ok (.aaload, 1) := by decide +kernel
theorem dd_T_bringBack_35 : decode prog_7_method_12_code 35 = .ok (.iconst 0, 1) := by decide +kernel
theorem dd_T_bringBack_36 : decode prog_7_method_12_code 36 = .ok (.putfield 61, 3) := by decide +kernel
theorem dd_T_bringBack_39 : decode prog_7_method_12_code 39 = .ok (.iinc 2 1, 3) := by decide +kernel
theorem dd_T_bringBack_42 : decode prog_7_method_12_code 42 = .ok (.iinc 3 1, 3) := by decide +kernel
theorem dd_T_bringBack_45 : decode prog_7_method_12_code 45 = .ok (.goto (-41), 3) := by decide +kernel
theorem dd_T_bringBack_48 : decode prog_7_method_12_code 48 = .ok (.iload_n 2, 1) := by decide +kernel
theorem dd_T_bringBack_49 : decode prog_7_method_12_code 49 = .ok (.ireturn, 1) := by decide +kernel
theorem dd_T_storeBits_0 : decode prog_7_method_13_code 0 = .ok (.iconst 0, 1) := by decide +kernel
theorem dd_T_storeBits_1 : decode prog_7_method_13_code 1 = .ok (.istore_n 1, 1) := by decide +kernel
theorem dd_T_storeBits_2 : decode prog_7_method_13_code 2 = .ok (.iconst 0, 1) := by decide +kernel
theorem dd_T_storeBits_3 : decode prog_7_method_13_code 3 = .ok (.istore_n 2, 1) := by decide +kernel
theorem dd_T_storeBits_4 : decode prog_7_method_13_code 4 = .ok (.iload_n 2, 1) := by decide +kernel
theorem dd_T_storeBits_5 : decode prog_7_method_13_code 5 = .ok (.aload_n 0, 1) := by decide +kernel
theorem dd_T_storeBits_6 : decode prog_7_method_13_code 6 = .ok (.getfield 23, 3) := by decide +kernel
theorem dd_T_storeBits_9 : decode prog_7_method_13_code 9 = .ok (.if_icmp .ge 27, 3) := by decide +kernel
theorem dd_T_storeBits_12 : decode prog_7_method_13_code 12 = .ok (.aload_n 0, 1) := by decide +kernel
theorem dd_T_storeBits_13 : decode prog_7_method_13_code 13 = .ok (.getfield 11, 3) := by decide +kernel
theorem dd_T_storeBits_16 : decode prog_7_method_13_code 16 = .ok (.iload_n 2, 1) := by decide +kernel
theorem dd_T_storeBits_17 : decode prog_7_method_13_code 17 = .ok (.aaload, 1) := by decide +kernel
theorem dd_T_storeBits_18 : decode prog_7_method_13_code 18 = .ok (.getfield 61, 3) := by decide +kernel
theorem dd_T_storeBits_21 : decode prog_7_method_13_code 21 = .ok (.ifCond .ne 9, 3) := by decide +kernel
theorem dd_T_storeBits_24 : decode prog_7_method_13_code 24 = .ok (.iload_n 1, 1) := by decide +kernel
theorem dd_T_storeBits_25 : decode prog_7_method_13_code 25 = .ok (.iconst 1, 1) := by decide +kernel
theorem dd_T_storeBits_26 : decode prog_7_method_13_code 26 = .ok (.iload_n 2, 1) := by decide +kernel
theorem dd_T_storeBits_27 : decode prog_7_method_13_code 27 = .ok (.ishl, 1) := by decide +kernel
theorem dd_T_storeBits_28 : decode prog_7_method_13_code 28 = .ok (.ior, 1) := by decide +kernel
theorem dd_T_storeBits_29 : decode prog_7_method_13_code 29 = .ok (.istore_n 1, 1) := by decide +kernel
theorem dd_T_storeBits_30 : decode prog_7_method_13_code 30 = .ok (.iinc 2 1, 3) := by decide +kernel
theorem dd_T_storeBits_33 : decode prog_7_method_13_code 33 = .ok (.goto (-29), 3) := by decide +kernel
theorem dd_T_storeBits_36 : decode prog_7_method_13_code 36 = .ok (.iload_n 1, 1) := by decide +kernel
theorem dd_T_storeBits_37 : decode prog_7_method_13_code 37 = .ok (.ireturn, 1) := by decide +kernel
theorem dd_T_heftOf_0 : decode prog_7_method_14_code 0 = .ok (.iconst 0, 1) := by decide +kernel
theorem dd_T_heftOf_1 : decode prog_7_method_14_code 1 = .ok (.istore_n 2, 1) := by decide +kernel
theorem dd_T_heftOf_2 : decode prog_7_method_14_code 2 = .ok (.iconst 0, 1) := by decide +kernel
theorem dd_T_heftOf_3 : decode prog_7_method_14_code 3 = .ok (.istore_n 3, 1) := by decide +kernel
theorem dd_T_heftOf_4 : decode prog_7_method_14_code 4 = .ok (.iload_n 3, 1) := by decide +kernel
theorem dd_T_heftOf_5 : decode prog_7_method_14_code 5 = .ok (.aload_n 0, 1) := by decide +kernel
theorem dd_T_heftOf_6 : decode prog_7_method_14_code 6 = .ok (.getfield 23, 3) := by decide +kernel
theorem dd_T_heftOf_9 : decode prog_7_method_14_code 9 = .ok (.if_icmp .ge 29, 3) := by decide +kernel
theorem dd_T_heftOf_12 : decode prog_7_method_14_code 12 = .ok (.iload_n 1, 1) := by decide +kernel
theorem dd_T_heftOf_13 : decode prog_7_method_14_code 13 = .ok (.iload_n 3, 1) := by decide +kernel
theorem dd_T_heftOf_14 : decode prog_7_method_14_code 14 = .ok (.invokestatic 88, 3) := by decide +kernel
theorem dd_T_heftOf_17 : decode prog_7_method_14_code 17 = .ok (.ifCond .eq 15, 3) := by decide +kernel
theorem dd_T_heftOf_20 : decode prog_7_method_14_code 20 = .ok (.iload_n 2, 1) := by decide +kernel
theorem dd_T_heftOf_21 : decode prog_7_method_14_code 21 = .ok (.aload_n 0, 1) := by decide +kernel
theorem dd_T_heftOf_22 : decode prog_7_method_14_code 22 = .ok (.getfield 11, 3) := by decide +kernel
theorem dd_T_heftOf_25 : decode prog_7_method_14_code 25 = .ok (.iload_n 3, 1) := by decide +kernel
theorem dd_T_heftOf_26 : decode prog_7_method_14_code 26 = .ok (.aaload, 1) := by decide +kernel
theorem dd_T_heftOf_27 : decode prog_7_method_14_code 27 = .ok (.getfield 99, 3) := by decide +kernel
theorem dd_T_heftOf_30 : decode prog_7_method_14_code 30 = .ok (.iadd, 1) := by decide +kernel
theorem dd_T_heftOf_31 : decode prog_7_method_14_code 31 = .ok (.istore_n 2, 1) := by decide +kernel
theorem dd_T_heftOf_32 : decode prog_7_method_14_code 32 = .ok (.iinc 3 1, 3) := by decide +kernel
theorem dd_T_heftOf_35 : decode prog_7_method_14_code 35 = .ok (.goto (-31), 3) := by decide +kernel
theorem dd_T_heftOf_38 : decode prog_7_method_14_code 38 = .ok (.iload_n 2, 1) := by decide +kernel
theorem dd_T_heftOf_39 : decode prog_7_method_14_code 39 = .ok (.ireturn, 1) := by decide +kernel
theorem dd_T_paysOf_0 : decode prog_7_method_15_code 0 = .ok (.iconst 0, 1) := by decide +kernel
theorem dd_T_paysOf_1 : decode prog_7_method_15_code 1 = .ok (.istore_n 2, 1) := by decide +kernel
theorem dd_T_paysOf_2 : decode prog_7_method_15_code 2 = .ok (.iconst 0, 1) := by decide +kernel
theorem dd_T_paysOf_3 : decode prog_7_method_15_code 3 = .ok (.istore_n 3, 1) := by decide +kernel
theorem dd_T_paysOf_4 : decode prog_7_method_15_code 4 = .ok (.iload_n 3, 1) := by decide +kernel
theorem dd_T_paysOf_5 : decode prog_7_method_15_code 5 = .ok (.aload_n 0, 1) := by decide +kernel
theorem dd_T_paysOf_6 : decode prog_7_method_15_code 6 = .ok (.getfield 23, 3) := by decide +kernel
theorem dd_T_paysOf_9 : decode prog_7_method_15_code 9 = .ok (.if_icmp .ge 29, 3) := by decide +kernel
theorem dd_T_paysOf_12 : decode prog_7_method_15_code 12 = .ok (.iload_n 1, 1) := by decide +kernel
theorem dd_T_paysOf_13 : decode prog_7_method_15_code 13 = .ok (.iload_n 3, 1) := by decide +kernel
theorem dd_T_paysOf_14 : decode prog_7_method_15_code 14 = .ok (.invokestatic 88, 3) := by decide +kernel
theorem dd_T_paysOf_17 : decode prog_7_method_15_code 17 = .ok (.ifCond .eq 15, 3) := by decide +kernel
theorem dd_T_paysOf_20 : decode prog_7_method_15_code 20 = .ok (.iload_n 2, 1) := by decide +kernel
theorem dd_T_paysOf_21 : decode prog_7_method_15_code 21 = .ok (.aload_n 0, 1) := by decide +kernel
theorem dd_T_paysOf_22 : decode prog_7_method_15_code 22 = .ok (.getfield 11, 3) := by decide +kernel
theorem dd_T_paysOf_25 : decode prog_7_method_15_code 25 = .ok (.iload_n 3, 1) := by decide +kernel
theorem dd_T_paysOf_26 : decode prog_7_method_15_code 26 = .ok (.aaload, 1) := by decide +kernel
theorem dd_T_paysOf_27 : decode prog_7_method_15_code 27 = .ok (.getfield 102, 3) := by decide +kernel
theorem dd_T_paysOf_30 : decode prog_7_method_15_code 30 = .ok (.iadd, 1) := by decide +kernel
theorem dd_T_paysOf_31 : decode prog_7_method_15_code 31 = .ok (.istore_n 2, 1) := by decide +kernel
theorem dd_T_paysOf_32 : decode prog_7_method_15_code 32 = .ok (.iinc 3 1, 3) := by decide +kernel
theorem dd_T_paysOf_35 : decode prog_7_method_15_code 35 = .ok (.goto (-31), 3) := by decide +kernel
theorem dd_T_paysOf_38 : decode prog_7_method_15_code 38 = .ok (.iload_n 2, 1) := by decide +kernel
theorem dd_T_paysOf_39 : decode prog_7_method_15_code 39 = .ok (.ireturn, 1) := by decide +kernel
theorem dd_T_worthOfAll_0 : decode prog_7_method_16_code 0 = .ok (.iconst 0, 1) := by decide +kernel
theorem dd_T_worthOfAll_1 : decode prog_7_method_16_code 1 = .ok (.istore_n 1, 1) := by decide +kernel
theorem dd_T_worthOfAll_2 : decode prog_7_method_16_code 2 = .ok (.iconst 0, 1) := by decide +kernel
theorem dd_T_worthOfAll_3 : decode prog_7_method_16_code 3 = .ok (.istore_n 2, 1) := by decide +kernel
theorem dd_T_worthOfAll_4 : decode prog_7_method_16_code 4 = .ok (.iload_n 2, 1) := by decide +kernel
theorem dd_T_worthOfAll_5 : decode prog_7_method_16_code 5 = .ok (.aload_n 0, 1) := by decide +kernel
theorem dd_T_worthOfAll_6 : decode prog_7_method_16_code 6 = .ok (.getfield 23, 3) := by decide +kernel
theorem dd_T_worthOfAll_9 : decode prog_7_method_16_code 9 = .ok (.if_icmp .ge 21, 3) := by decide +kernel
theorem dd_T_worthOfAll_12 : decode prog_7_method_16_code 12 = .ok (.iload_n 1, 1) := by decide +kernel
theorem dd_T_worthOfAll_13 : decode prog_7_method_16_code 13 = .ok (.aload_n 0, 1) := by decide +kernel
theorem dd_T_worthOfAll_14 : decode prog_7_method_16_code 14 = .ok (.getfield 11, 3) := by decide +kernel
theorem dd_T_worthOfAll_17 : decode prog_7_method_16_code 17 = .ok (.iload_n 2, 1) := by decide +kernel
theorem dd_T_worthOfAll_18 : decode prog_7_method_16_code 18 = .ok (.aaload, 1) := by decide +kernel
theorem dd_T_worthOfAll_19 : decode prog_7_method_16_code 19 = .ok (.getfield 124, 3) := by decide +kernel
theorem dd_T_worthOfAll_22 : decode prog_7_method_16_code 22 = .ok (.iadd, 1) := by decide +kernel
theorem dd_T_worthOfAll_23 : decode prog_7_method_16_code 23 = .ok (.istore_n 1, 1) := by decide +kernel
theorem dd_T_worthOfAll_24 : decode prog_7_method_16_code 24 = .ok (.iinc 2 1, 3) := by decide +kernel
theorem dd_T_worthOfAll_27 : decode prog_7_method_16_code 27 = .ok (.goto (-23), 3) := by decide +kernel
theorem dd_T_worthOfAll_30 : decode prog_7_method_16_code 30 = .ok (.iload_n 1, 1) := by decide +kernel
theorem dd_T_worthOfAll_31 : decode prog_7_method_16_code 31 = .ok (.ireturn, 1) := by decide +kernel
theorem dd_T_wagesOfAll_0 : decode prog_7_method_17_code 0 = .ok (.iconst 0, 1) := by decide +kernel
theorem dd_T_wagesOfAll_1 : decode prog_7_method_17_code 1 = .ok (.istore_n 1, 1) := by decide +kernel
theorem dd_T_wagesOfAll_2 : decode prog_7_method_17_code 2 = .ok (.iconst 0, 1) := by decide +kernel
theorem dd_T_wagesOfAll_3 : decode prog_7_method_17_code 3 = .ok (.istore_n 2, 1) := by decide +kernel
theorem dd_T_wagesOfAll_4 : decode prog_7_method_17_code 4 = .ok (.iload_n 2, 1) := by decide +kernel
theorem dd_T_wagesOfAll_5 : decode prog_7_method_17_code 5 = .ok (.aload_n 0, 1) := by decide +kernel
theorem dd_T_wagesOfAll_6 : decode prog_7_method_17_code 6 = .ok (.getfield 27, 3) := by decide +kernel
theorem dd_T_wagesOfAll_9 : decode prog_7_method_17_code 9 = .ok (.if_icmp .ge 21, 3) := by decide +kernel
theorem dd_T_wagesOfAll_12 : decode prog_7_method_17_code 12 = .ok (.iload_n 1, 1) := by decide +kernel
theorem dd_T_wagesOfAll_13 : decode prog_7_method_17_code 13 = .ok (.aload_n 0, 1) := by decide +kernel
theorem dd_T_wagesOfAll_14 : decode prog_7_method_17_code 14 = .ok (.getfield 19, 3) := by decide +kernel
theorem dd_T_wagesOfAll_17 : decode prog_7_method_17_code 17 = .ok (.iload_n 2, 1) := by decide +kernel
theorem dd_T_wagesOfAll_18 : decode prog_7_method_17_code 18 = .ok (.aaload, 1) := by decide +kernel
theorem dd_T_wagesOfAll_19 : decode prog_7_method_17_code 19 = .ok (.getfield 68, 3) := by decide +kernel
theorem dd_T_wagesOfAll_22 : decode prog_7_method_17_code 22 = .ok (.iadd, 1) := by decide +kernel
theorem dd_T_wagesOfAll_23 : decode prog_7_method_17_code 23 = .ok (.istore_n 1, 1) := by decide +kernel
theorem dd_T_wagesOfAll_24 : decode prog_7_method_17_code 24 = .ok (.iinc 2 1, 3) := by decide +kernel
theorem dd_T_wagesOfAll_27 : decode prog_7_method_17_code 27 = .ok (.goto (-23), 3) := by decide +kernel
theorem dd_T_wagesOfAll_30 : decode prog_7_method_17_code 30 = .ok (.iload_n 1, 1) := by decide +kernel
theorem dd_T_wagesOfAll_31 : decode prog_7_method_17_code 31 = .ok (.ireturn, 1) := by decide +kernel
theorem dd_T_strengthOfAll_0 : decode prog_7_method_18_code 0 = .ok (.iconst 0, 1) := by decide +kernel
theorem dd_T_strengthOfAll_1 : decode prog_7_method_18_code 1 = .ok (.istore_n 1, 1) := by decide +kernel
theorem dd_T_strengthOfAll_2 : decode prog_7_method_18_code 2 = .ok (.iconst 0, 1) := by decide +kernel
theorem dd_T_strengthOfAll_3 : decode prog_7_method_18_code 3 = .ok (.istore_n 2, 1) := by decide +kernel
theorem dd_T_strengthOfAll_4 : decode prog_7_method_18_code 4 = .ok (.iload_n 2, 1) := by decide +kernel
theorem dd_T_strengthOfAll_5 : decode prog_7_method_18_code 5 = .ok (.aload_n 0, 1) := by decide +kernel
theorem dd_T_strengthOfAll_6 : decode prog_7_method_18_code 6 = .ok (.getfield 27, 3) := by decide +kernel
theorem dd_T_strengthOfAll_9 : decode prog_7_method_18_code 9 = .ok (.if_icmp .ge 21, 3) := by decide +kernel
theorem dd_T_strengthOfAll_12 : decode prog_7_method_18_code 12 = .ok (.iload_n 1, 1) := by decide +kernel
theorem dd_T_strengthOfAll_13 : decode prog_7_method_18_code 13 = .ok (.aload_n 0, 1) := by decide +kernel
theorem dd_T_strengthOfAll_14 : decode prog_7_method_18_code 14 = .ok (.getfield 19, 3) := by decide +kernel
theorem dd_T_strengthOfAll_17 : decode prog_7_method_18_code 17 = .ok (.iload_n 2, 1) := by decide +kernel
theorem dd_T_strengthOfAll_18 : decode prog_7_method_18_code 18 = .ok (.aaload, 1) := by decide +kernel
theorem dd_T_strengthOfAll_19 : decode prog_7_method_18_code 19 = .ok (.getfield 65, 3) := by decide +kernel
theorem dd_T_strengthOfAll_22 : decode prog_7_method_18_code 22 = .ok (.iadd, 1) := by decide +kernel
theorem dd_T_strengthOfAll_23 : decode prog_7_method_18_code 23 = .ok (.istore_n 1, 1) := by decide +kernel
theorem dd_T_strengthOfAll_24 : decode prog_7_method_18_code 24 = .ok (.iinc 2 1, 3) := by decide +kernel
theorem dd_T_strengthOfAll_27 : decode prog_7_method_18_code 27 = .ok (.goto (-23), 3) := by decide +kernel
theorem dd_T_strengthOfAll_30 : decode prog_7_method_18_code 30 = .ok (.iload_n 1, 1) := by decide +kernel
theorem dd_T_strengthOfAll_31 : decode prog_7_method_18_code 31 = .ok (.ireturn, 1) := by decide +kernel
theorem dd_T_leastWages_0 : decode prog_7_method_19_code 0 = .ok (.aload_n 0, 1) := by decide +kernel
theorem dd_T_leastWages_1 : decode prog_7_method_19_code 1 = .ok (.getfield 27, 3) := by decide +kernel
theorem dd_T_leastWages_4 : decode prog_7_method_19_code 4 = .ok (.ifCond .ne 5, 3) := by decide +kernel
theorem dd_T_leastWages_7 : decode prog_7_method_19_code 7 = .ok (.iconst 0, 1) := by decide +kernel
theorem dd_T_leastWages_8 : decode prog_7_method_19_code 8 = .ok (.ireturn, 1) := by decide +kernel
theorem dd_T_leastWages_9 : decode prog_7_method_19_code 9 = .ok (.aload_n 0, 1) := by decide +kernel
theorem dd_T_leastWages_10 : decode prog_7_method_19_code 10 = .ok (.getfield 19, 3) := by decide +kernel
theorem dd_T_leastWages_13 : decode prog_7_method_19_code 13 = .ok (.iconst 0, 1) := by decide +kernel
theorem dd_T_leastWages_14 : decode prog_7_method_19_code 14 = .ok (.aaload, 1) := by decide +kernel
theorem dd_T_leastWages_15 : decode prog_7_method_19_code 15 = .ok (.getfield 68, 3) := by decide +kernel
theorem dd_T_leastWages_18 : decode prog_7_method_19_code 18 = .ok (.istore_n 1, 1) := by decide +kernel
theorem dd_T_leastWages_19 : decode prog_7_method_19_code 19 = .ok (.iconst 1, 1) := by decide +kernel
theorem dd_T_leastWages_20 : decode prog_7_method_19_code 20 = .ok (.istore_n 2, 1) := by decide +kernel
theorem dd_T_leastWages_21 : decode prog_7_method_19_code 21 = .ok (.iload_n 2, 1) := by decide +kernel
theorem dd_T_leastWages_22 : decode prog_7_method_19_code 22 = .ok (.aload_n 0, 1) := by decide +kernel
theorem dd_T_leastWages_23 : decode prog_7_method_19_code 23 = .ok (.getfield 27, 3) := by decide +kernel
theorem dd_T_leastWages_26 : decode prog_7_method_19_code 26 = .ok (.if_icmp .ge 23, 3) := by decide +kernel
theorem dd_T_leastWages_29 : decode prog_7_method_19_code 29 = .ok (.iload_n 1, 1) := by decide +kernel
theorem dd_T_leastWages_30 : decode prog_7_method_19_code 30 = .ok (.aload_n 0, 1) := by decide +kernel
theorem dd_T_leastWages_31 : decode prog_7_method_19_code 31 = .ok (.getfield 19, 3) := by decide +kernel
theorem dd_T_leastWages_34 : decode prog_7_method_19_code 34 = .ok (.iload_n 2, 1) := by decide +kernel
theorem dd_T_leastWages_35 : decode prog_7_method_19_code 35 = .ok (.aaload, 1) := by decide +kernel
theorem dd_T_leastWages_36 : decode prog_7_method_19_code 36 = .ok (.getfield 68, 3) := by decide +kernel
theorem dd_T_leastWages_39 : decode prog_7_method_19_code 39 = .ok (.invokestatic 111, 3) := by decide +kernel
theorem dd_T_leastWages_42 : decode prog_7_method_19_code 42 = .ok (.istore_n 1, 1) := by decide +kernel
theorem dd_T_leastWages_43 : decode prog_7_method_19_code 43 = .ok (.iinc 2 1, 3) := by decide +kernel
theorem dd_T_leastWages_46 : decode prog_7_method_19_code 46 = .ok (.goto (-25), 3) := by decide +kernel
theorem dd_T_leastWages_49 : decode prog_7_method_19_code 49 = .ok (.iload_n 1, 1) := by decide +kernel
theorem dd_T_leastWages_50 : decode prog_7_method_19_code 50 = .ok (.ireturn, 1) := by decide +kernel

/-! decode rows -/
theorem dd_H_init_0 : decode prog_1_method_1_code 0 = .ok (.aload_n 0, 1) := by decide +kernel
theorem dd_H_init_1 : decode prog_1_method_1_code 1 = .ok (.invokespecial 1, 3) := by decide +kernel
theorem dd_H_init_4 : decode prog_1_method_1_code 4 = .ok (.aload_n 0, 1) := by decide +kernel
theorem dd_H_init_5 : decode prog_1_method_1_code 5 = .ok (.new 7, 3) := by decide +kernel
theorem dd_H_init_8 : decode prog_1_method_1_code 8 = .ok (.dup, 1) := by decide +kernel
theorem dd_H_init_9 : decode prog_1_method_1_code 9 = .ok (.invokespecial 9, 3) := by decide +kernel
theorem dd_H_init_12 : decode prog_1_method_1_code 12 = .ok (.putfield 10, 3) := by decide +kernel
theorem dd_H_init_15 : decode prog_1_method_1_code 15 = .ok (.aload_n 0, 1) := by decide +kernel
theorem dd_H_init_16 : decode prog_1_method_1_code 16 = .ok (.new 7, 3) := by decide +kernel
theorem dd_H_init_19 : decode prog_1_method_1_code 19 = .ok (.dup, 1) := by decide +kernel
theorem dd_H_init_20 : decode prog_1_method_1_code 20 = .ok (.invokespecial 9, 3) := by decide +kernel
theorem dd_H_init_23 : decode prog_1_method_1_code 23 = .ok (.putfield 16, 3) := by decide +kernel
theorem dd_H_init_26 : decode prog_1_method_1_code 26 = .ok (.aload_n 0, 1) := by decide +kernel
theorem dd_H_init_27 : decode prog_1_method_1_code 27 = .ok (.new 7, 3) := by decide +kernel
theorem dd_H_init_30 : decode prog_1_method_1_code 30 = .ok (.dup, 1) := by decide +kernel
theorem dd_H_init_31 : decode prog_1_method_1_code 31 = .ok (.invokespecial 9, 3) := by decide +kernel
theorem dd_H_init_34 : decode prog_1_method_1_code 34 = .ok (.putfield 19, 3) := by decide +kernel
theorem dd_H_init_37 : decode prog_1_method_1_code 37 = .ok (.aload_n 0, 1) := by decide +kernel
theorem dd_H_init_38 : decode prog_1_method_1_code 38 = .ok (.iconst 2, 1) := by decide +kernel
theorem dd_H_init_39 : decode prog_1_method_1_code 39 = .ok (.anewarray 7, 3) := by decide +kernel
theorem dd_H_init_42 : decode prog_1_method_1_code 42 = .ok (.putfield 22, 3) := by decide +kernel
theorem dd_H_init_45 : decode prog_1_method_1_code 45 = .ok (.aload_n 0, 1) := by decide +kernel
theorem dd_H_init_46 : decode prog_1_method_1_code 46 = .ok (.iconst 2, 1) := by decide +kernel
theorem dd_H_init_47 : decode prog_1_method_1_code 47 = .ok (.newarray .boolean, 2) := by decide +kernel
theorem dd_H_init_49 : decode prog_1_method_1_code 49 = .ok (.putfield 26, 3) := by decide +kernel
theorem dd_H_init_52 : decode prog_1_method_1_code 52 = .ok (.aload_n 0, 1) := by decide +kernel
theorem dd_H_init_53 : decode prog_1_method_1_code 53 = .ok (.new 30, 3) := by decide +kernel
theorem dd_H_init_56 : decode prog_1_method_1_code 56 = .ok (.dup, 1) := by decide +kernel
theorem dd_H_init_57 : decode prog_1_method_1_code 57 = .ok (.invokespecial 32, 3) := by decide +kernel
theorem dd_H_init_60 : decode prog_1_method_1_code 60 = .ok (.putfield 33, 3) := by decide +kernel
theorem dd_H_init_63 : decode prog_1_method_1_code 63 = .ok (.aload_n 0, 1) := by decide +kernel
theorem dd_H_init_64 : decode prog_1_method_1_code 64 = .ok (.iconst 4, 1) := by decide +kernel
theorem dd_H_init_65 : decode prog_1_method_1_code 65 = .ok (.anewarray 37, 3) := by decide +kernel
theorem dd_H_init_68 : decode prog_1_method_1_code 68 = .ok (.putfield 39, 3) := by decide +kernel
theorem dd_H_init_71 : decode prog_1_method_1_code 71 = .ok (.aload_n 0, 1) := by decide +kernel
theorem dd_H_init_72 : decode prog_1_method_1_code 72 = .ok (.bipush 6, 2) := by decide +kernel
theorem dd_H_init_74 : decode prog_1_method_1_code 74 = .ok (.anewarray 43, 3) := by decide +kernel
theorem dd_H_init_77 : decode prog_1_method_1_code 77 = .ok (.putfield 45, 3) := by decide +kernel
theorem dd_H_init_80 : decode prog_1_method_1_code 80 = .ok (.aload_n 0, 1) := by decide +kernel
theorem dd_H_init_81 : decode prog_1_method_1_code 81 = .ok (.bipush 21, 2) := by decide +kernel
theorem dd_H_init_83 : decode prog_1_method_1_code 83 = .ok (.bipush 84, 2) := by decide +kernel
theorem dd_H_init_85 : decode prog_1_method_1_code 85 = .ok (.multianewarray 49 2, 4) := by decide +kernel
theorem dd_H_init_89 : decode prog_1_method_1_code 89 = .ok (.putfield 51, 3) := by decide +kernel
theorem dd_H_init_92 : decode prog_1_method_1_code 92 = .ok (.aload_n 0, 1) := by decide +kernel
theorem dd_H_init_93 : decode prog_1_method_1_code 93 = .ok (.iconst 0, 1) := by decide +kernel
theorem dd_H_init_94 : decode prog_1_method_1_code 94 = .ok (.putfield 54, 3) := by decide +kernel
theorem dd_H_init_97 : decode prog_1_method_1_code 97 = .ok (.aload_n 0, 1) := by decide +kernel
theorem dd_H_init_98 : decode prog_1_method_1_code 98 = .ok (.iconst 0, 1) := by decide +kernel
theorem dd_H_init_99 : decode prog_1_method_1_code 99 = .ok (.putfield 58, 3) := by decide +kernel
theorem dd_H_init_102 : decode prog_1_method_1_code 102 = .ok (.aload_n 0, 1) := by decide +kernel
theorem dd_H_init_103 : decode prog_1_method_1_code 103 = .ok (.iconst 0, 1) := by decide +kernel
theorem dd_H_init_104 : decode prog_1_method_1_code 104 = .ok (.putfield 61, 3) := by decide +kernel
theorem dd_H_init_107 : decode prog_1_method_1_code 107 = .ok (.iconst 0, 1) := by decide +kernel
theorem dd_H_init_108 : decode prog_1_method_1_code 108 = .ok (.istore_n 1, 1) := by decide +kernel
theorem dd_H_init_109 : decode prog_1_method_1_code 109 = .ok (.iload_n 1, 1) := by decide +kernel
theorem dd_H_init_110 : decode prog_1_method_1_code 110 = .ok (.iconst 2, 1) := by decide +kernel
theorem dd_H_init_111 : decode prog_1_method_1_code 111 = .ok (.if_icmp .ge 22, 3) := by decide +kernel
theorem dd_H_init_114 : decode prog_1_method_1_code 114 = .ok (.aload_n 0, 1) := by decide +kernel
theorem dd_H_init_115 : decode prog_1_method_1_code 115 = .ok (.getfield 22, 3) := by decide +kernel
theorem dd_H_init_118 : decode prog_1_method_1_code 118 = .ok (.iload_n 1, 1) := by decide +kernel
theorem dd_H_init_119 : decode prog_1_method_1_code 119 = .ok (.new 7, 3) := by decide +kernel
theorem dd_H_init_122 : decode prog_1_method_1_code 122 = .ok (.dup, 1) := by decide +kernel
theorem dd_H_init_123 : decode prog_1_method_1_code 123 = .ok (.invokespecial 9, 3) := by decide +kernel
theorem dd_H_init_126 : decode prog_1_method_1_code 126 = .ok (.aastore, 1) := by decide +kernel
theorem dd_H_init_127 : decode prog_1_method_1_code 127 = .ok (.iinc 1 1, 3) := by decide +kernel
theorem dd_H_init_130 : decode prog_1_method_1_code 130 = .ok (.goto (-21), 3) := by decide +kernel
theorem dd_H_init_133 : decode prog_1_method_1_code 133 = .ok (.iconst 0, 1) := by decide +kernel
theorem dd_H_init_134 : decode prog_1_method_1_code 134 = .ok (.istore_n 1, 1) := by decide +kernel
theorem dd_H_init_135 : decode prog_1_method_1_code 135 = .ok (.iload_n 1, 1) := by decide +kernel
theorem dd_H_init_136 : decode prog_1_method_1_code 136 = .ok (.iconst 4, 1) := by decide +kernel
theorem dd_H_init_137 : decode prog_1_method_1_code 137 = .ok (.if_icmp .ge 22, 3) := by decide +kernel
theorem dd_H_init_140 : decode prog_1_method_1_code 140 = .ok (.aload_n 0, 1) := by decide +kernel
theorem dd_H_init_141 : decode prog_1_method_1_code 141 = .ok (.getfield 39, 3) := by decide +kernel
theorem dd_H_init_144 : decode prog_1_method_1_code 144 = .ok (.iload_n 1, 1) := by decide +kernel
theorem dd_H_init_145 : decode prog_1_method_1_code 145 = .ok (.new 37, 3) := by decide +kernel
theorem dd_H_init_148 : decode prog_1_method_1_code 148 = .ok (.dup, 1) := by decide +kernel
theorem dd_H_init_149 : decode prog_1_method_1_code 149 = .ok (.invokespecial 64, 3) := by decide +kernel
theorem dd_H_init_152 : decode prog_1_method_1_code 152 = .ok (.aastore, 1) := by decide +kernel
theorem dd_H_init_153 : decode prog_1_method_1_code 153 = .ok (.iinc 1 1, 3) := by decide +kernel
theorem dd_H_init_156 : decode prog_1_method_1_code 156 = .ok (.goto (-21), 3) := by decide +kernel
theorem dd_H_init_159 : decode prog_1_method_1_code 159 = .ok (.iconst 0, 1) := by decide +kernel
theorem dd_H_init_160 : decode prog_1_method_1_code 160 = .ok (.istore_n 1, 1) := by decide +kernel
theorem dd_H_init_161 : decode prog_1_method_1_code 161 = .ok (.iload_n 1, 1) := by decide +kernel
theorem dd_H_init_162 : decode prog_1_method_1_code 162 = .ok (.bipush 6, 2) := by decide +kernel
theorem dd_H_init_164 : decode prog_1_method_1_code 164 = .ok (.if_icmp .ge 22, 3) := by decide +kernel
theorem dd_H_init_167 : decode prog_1_method_1_code 167 = .ok (.aload_n 0, 1) := by decide +kernel
theorem dd_H_init_168 : decode prog_1_method_1_code 168 = .ok (.getfield 45, 3) := by decide +kernel
theorem dd_H_init_171 : decode prog_1_method_1_code 171 = .ok (.iload_n 1, 1) := by decide +kernel
theorem dd_H_init_172 : decode prog_1_method_1_code 172 = .ok (.new 43, 3) := by decide +kernel
theorem dd_H_init_175 : decode prog_1_method_1_code 175 = .ok (.dup, 1) := by decide +kernel
theorem dd_H_init_176 : decode prog_1_method_1_code 176 = .ok (.invokespecial 65, 3) := by decide +kernel
theorem dd_H_init_179 : decode prog_1_method_1_code 179 = .ok (.aastore, 1) := by decide +kernel
theorem dd_H_init_180 : decode prog_1_method_1_code 180 = .ok (.iinc 1 1, 3) := by decide +kernel
theorem dd_H_init_183 : decode prog_1_method_1_code 183 = .ok (.goto (-22), 3) := by decide +kernel
theorem dd_H_init_186 : decode prog_1_method_1_code 186 = .ok (.return_, 1) := by decide +kernel
theorem dd_H_feed_0 : decode prog_1_method_2_code 0 = .ok (.iload_n 1, 1) := by decide +kernel
theorem dd_H_feed_1 : decode prog_1_method_2_code 1 = .ok (.iconst 0, 1) := by decide +kernel
theorem dd_H_feed_2 : decode prog_1_method_2_code 2 = .ok (.bipush 127, 2) := by decide +kernel
theorem dd_H_feed_4 : decode prog_1_method_2_code 4 = .ok (.invokestatic 66, 3) := by decide +kernel
theorem dd_H_feed_7 : decode prog_1_method_2_code 7 = .ok (.ifCond .ne 5, 3) := by decide +kernel
theorem dd_H_feed_10 : decode prog_1_method_2_code 10 = .ok (.iconst (-1), 1) := by decide +kernel
theorem dd_H_feed_11 : decode prog_1_method_2_code 11 = .ok (.ireturn, 1) := by decide +kernel
theorem dd_H_feed_12 : decode prog_1_method_2_code 12 = .ok (.aload_n 0, 1) := by decide +kernel
theorem dd_H_feed_13 : decode prog_1_method_2_code 13 = .ok (.getfield 33, 3) := by decide +kernel
theorem dd_H_feed_16 : decode prog_1_method_2_code 16 = .ok (.getfield 70, 3) := by decide +kernel
theorem dd_H_feed_19 : decode prog_1_method_2_code 19 = .ok (.sipush 160, 3) := by decide +kernel
theorem dd_H_feed_22 : decode prog_1_method_2_code 22 = .ok (.if_icmp .lt 6, 3) := by decide +kernel
theorem dd_H_feed_25 : decode prog_1_method_2_code 25 = .ok (.bipush (-3), 2) := by decide +kernel
theorem dd_H_feed_27 : decode prog_1_method_2_code 27 = .ok (.ireturn, 1) := by decide +kernel
theorem dd_H_feed_28 : decode prog_1_method_2_code 28 = .ok (.aload_n 0, 1) := by decide +kernel
theorem dd_H_feed_29 : decode prog_1_method_2_code 29 = .ok (.getfield 33, 3) := by decide +kernel
theorem dd_H_feed_32 : decode prog_1_method_2_code 32 = .ok (.getfield 73, 3) := by decide +kernel
theorem dd_H_feed_35 : decode prog_1_method_2_code 35 = .ok (.aload_n 0, 1) := by decide +kernel
theorem dd_H_feed_36 : decode prog_1_method_2_code 36 = .ok (.getfield 33, 3) := by decide +kernel
theorem dd_H_feed_39 : decode prog_1_method_2_code 39 = .ok (.getfield 70, 3) := by decide +kernel
theorem dd_H_feed_42 : decode prog_1_method_2_code 42 = .ok (.iload_n 1, 1) := by decide +kernel
theorem dd_H_feed_43 : decode prog_1_method_2_code 43 = .ok (.iastore, 1) := by decide +kernel
theorem dd_H_feed_44 : decode prog_1_method_2_code 44 = .ok (.aload_n 0, 1) := by decide +kernel
theorem dd_H_feed_45 : decode prog_1_method_2_code 45 = .ok (.getfield 33, 3) := by decide +kernel
theorem dd_H_feed_48 : decode prog_1_method_2_code 48 = .ok (.dup, 1) := by decide +kernel
theorem dd_H_feed_49 : decode prog_1_method_2_code 49 = .ok (.getfield 70, 3) := by decide +kernel
theorem dd_H_feed_52 : decode prog_1_method_2_code 52 = .ok (.iconst 1, 1) := by decide +kernel
theorem dd_H_feed_53 : decode prog_1_method_2_code 53 = .ok (.iadd, 1) := by decide +kernel
theorem dd_H_feed_54 : decode prog_1_method_2_code 54 = .ok (.putfield 70, 3) := by decide +kernel
theorem dd_H_feed_57 : decode prog_1_method_2_code 57 = .ok (.aload_n 0, 1) := by decide +kernel
theorem dd_H_feed_58 : decode prog_1_method_2_code 58 = .ok (.getfield 33, 3) := by decide +kernel
theorem dd_H_feed_61 : decode prog_1_method_2_code 61 = .ok (.getfield 70, 3) := by decide +kernel
theorem dd_H_feed_64 : decode prog_1_method_2_code 64 = .ok (.ireturn, 1) := by decide +kernel
theorem dd_H_end_0 : decode prog_1_method_3_code 0 = .ok (.aload_n 0, 1) := by decide +kernel
theorem dd_H_end_1 : decode prog_1_method_3_code 1 = .ok (.getfield 33, 3) := by decide +kernel
theorem dd_H_end_4 : decode prog_1_method_3_code 4 = .ok (.getfield 70, 3) := by decide +kernel
theorem dd_H_end_7 : decode prog_1_method_3_code 7 = .ok (.istore_n 2, 1) := by decide +kernel
theorem dd_H_end_8 : decode prog_1_method_3_code 8 = .ok (.iload_n 1, 1) := by decide +kernel
theorem dd_H_end_9 : decode prog_1_method_3_code 9 = .ok (.iconst 0, 1) := by decide +kernel
theorem dd_H_end_10 : decode prog_1_method_3_code 10 = .ok (.iload_n 2, 1) := by decide +kernel
theorem dd_H_end_11 : decode prog_1_method_3_code 11 = .ok (.invokestatic 66, 3) := by decide +kernel
theorem dd_H_end_14 : decode prog_1_method_3_code 14 = .ok (.ifCond .ne 5, 3) := by decide +kernel
theorem dd_H_end_17 : decode prog_1_method_3_code 17 = .ok (.iconst (-1), 1) := by decide +kernel
theorem dd_H_end_18 : decode prog_1_method_3_code 18 = .ok (.ireturn, 1) := by decide +kernel
theorem dd_H_end_19 : decode prog_1_method_3_code 19 = .ok (.aload_n 0, 1) := by decide +kernel
theorem dd_H_end_20 : decode prog_1_method_3_code 20 = .ok (.getfield 33, 3) := by decide +kernel
theorem dd_H_end_23 : decode prog_1_method_3_code 23 = .ok (.iload_n 1, 1) := by decide +kernel
theorem dd_H_end_24 : decode prog_1_method_3_code 24 = .ok (.putfield 70, 3) := by decide +kernel
theorem dd_H_end_27 : decode prog_1_method_3_code 27 = .ok (.iload_n 2, 1) := by decide +kernel
theorem dd_H_end_28 : decode prog_1_method_3_code 28 = .ok (.ireturn, 1) := by decide +kernel
theorem dd_H_text_0 : decode prog_1_method_4_code 0 = .ok (.aload_n 0, 1) := by decide +kernel
theorem dd_H_text_1 : decode prog_1_method_4_code 1 = .ok (.getfield 33, 3) := by decide +kernel
theorem dd_H_text_4 : decode prog_1_method_4_code 4 = .ok (.aload_n 0, 1) := by decide +kernel
theorem dd_H_text_5 : decode prog_1_method_4_code 5 = .ok (.getfield 16, 3) := by decide +kernel
theorem dd_H_text_8 : decode prog_1_method_4_code 8 = .ok (.invokevirtual 77, 3) := by decide +kernel
theorem dd_H_text_11 : decode prog_1_method_4_code 11 = .ok (.istore_n 1, 1) := by decide +kernel
theorem dd_H_text_12 : decode prog_1_method_4_code 12 = .ok (.aload_n 0, 1) := by decide +kernel
theorem dd_H_text_13 : decode prog_1_method_4_code 13 = .ok (.getfield 33, 3) := by decide +kernel
theorem dd_H_text_16 : decode prog_1_method_4_code 16 = .ok (.iconst 0, 1) := by decide +kernel
theorem dd_H_text_17 : decode prog_1_method_4_code 17 = .ok (.putfield 70, 3) := by decide +kernel
theorem dd_H_text_20 : decode prog_1_method_4_code 20 = .ok (.aload_n 0, 1) := by decide +kernel
theorem dd_H_text_21 : decode prog_1_method_4_code 21 = .ok (.aload_n 0, 1) := by decide +kernel
theorem dd_H_text_22 : decode prog_1_method_4_code 22 = .ok (.getfield 33, 3) := by decide +kernel
theorem dd_H_text_25 : decode prog_1_method_4_code 25 = .ok (.getfield 81, 3) := by decide +kernel
theorem dd_H_text_28 : decode prog_1_method_4_code 28 = .ok (.putfield 58, 3) := by decide +kernel
theorem dd_H_text_31 : decode prog_1_method_4_code 31 = .ok (.aload_n 0, 1) := by decide +kernel
theorem dd_H_text_32 : decode prog_1_method_4_code 32 = .ok (.getfield 58, 3) := by decide +kernel
theorem dd_H_text_35 : decode prog_1_method_4_code 35 = .ok (.ifCond .eq 14, 3) := by decide +kernel
theorem dd_H_text_38 : decode prog_1_method_4_code 38 = .ok (.bipush (-10), 2) := by decide +kernel
theorem dd_H_text_40 : decode prog_1_method_4_code 40 = .ok (.aload_n 0, 1) := by decide +kernel
theorem dd_H_text_41 : decode prog_1_method_4_code 41 = .ok (.getfield 33, 3) := by decide +kernel
theorem dd_H_text_44 : decode prog_1_method_4_code 44 = .ok (.getfield 84, 3) := by decide +kernel
theorem dd_H_text_47 : decode prog_1_method_4_code 47 = .ok (.isub, 1) := by decide +kernel
theorem dd_H_text_48 : decode prog_1_method_4_code 48 = .ok (.ireturn, 1) := by decide +kernel
theorem dd_H_text_49 : decode prog_1_method_4_code 49 = .ok (.aload_n 0, 1) := by decide +kernel
theorem dd_H_text_50 : decode prog_1_method_4_code 50 = .ok (.getfield 10, 3) := by decide +kernel
theorem dd_H_text_53 : decode prog_1_method_4_code 53 = .ok (.aload_n 0, 1) := by decide +kernel
theorem dd_H_text_54 : decode prog_1_method_4_code 54 = .ok (.getfield 16, 3) := by decide +kernel
theorem dd_H_text_57 : decode prog_1_method_4_code 57 = .ok (.invokevirtual 87, 3) := by decide +kernel
theorem dd_H_text_60 : decode prog_1_method_4_code 60 = .ok (.aload_n 0, 1) := by decide +kernel
theorem dd_H_text_61 : decode prog_1_method_4_code 61 = .ok (.iconst 0, 1) := by decide +kernel
theorem dd_H_text_62 : decode prog_1_method_4_code 62 = .ok (.putfield 54, 3) := by decide +kernel
theorem dd_H_text_65 : decode prog_1_method_4_code 65 = .ok (.iconst 0, 1) := by decide +kernel
theorem dd_H_text_66 : decode prog_1_method_4_code 66 = .ok (.istore_n 2, 1) := by decide +kernel
theorem dd_H_text_67 : decode prog_1_method_4_code 67 = .ok (.iload_n 2, 1) := by decide +kernel
theorem dd_H_text_68 : decode prog_1_method_4_code 68 = .ok (.iconst 2, 1) := by decide +kernel
theorem dd_H_text_69 : decode prog_1_method_4_code 69 = .ok (.if_icmp .ge 16, 3) := by decide +kernel
theorem dd_H_text_72 : decode prog_1_method_4_code 72 = .ok (.aload_n 0, 1) := by decide +kernel
theorem dd_H_text_73 : decode prog_1_method_4_code 73 = .ok (.getfield 26, 3) := by decide +kernel
theorem dd_H_text_76 : decode prog_1_method_4_code 76 = .ok (.iload_n 2, 1) := by decide +kernel
theorem dd_H_text_77 : decode prog_1_method_4_code 77 = .ok (.iconst 0, 1) := by decide +kernel
theorem dd_H_text_78 : decode prog_1_method_4_code 78 = .ok (.bastore, 1) := by decide +kernel
theorem dd_H_text_79 : decode prog_1_method_4_code 79 = .ok (.iinc 2 1, 3) := by decide +kernel
theorem dd_H_text_82 : decode prog_1_method_4_code 82 = .ok (.goto (-15), 3) := by decide +kernel
theorem dd_H_text_85 : decode prog_1_method_4_code 85 = .ok (.iload_n 1, 1) := by decide +kernel
theorem dd_H_text_86 : decode prog_1_method_4_code 86 = .ok (.ireturn, 1) := by decide +kernel
theorem dd_H_fault_0 : decode prog_1_method_5_code 0 = .ok (.aload_n 0, 1) := by decide +kernel
theorem dd_H_fault_1 : decode prog_1_method_5_code 1 = .ok (.getfield 58, 3) := by decide +kernel
theorem dd_H_fault_4 : decode prog_1_method_5_code 4 = .ok (.ireturn, 1) := by decide +kernel
theorem dd_H_rule_0 : decode prog_1_method_6_code 0 = .ok (.iload_n 1, 1) := by decide +kernel
theorem dd_H_rule_1 : decode prog_1_method_6_code 1 = .ok (.tableswitch 99 0 6 #[43, 51, 59, 67, 75, 83, 91], 43) := by decide +kernel
theorem dd_H_rule_44 : decode prog_1_method_6_code 44 = .ok (.aload_n 0, 1) := by decide +kernel
theorem dd_H_rule_45 : decode prog_1_method_6_code 45 = .ok (.getfield 10, 3) := by decide +kernel
theorem dd_H_rule_48 : decode prog_1_method_6_code 48 = .ok (.getfield 91, 3) := by decide +kernel
theorem dd_H_rule_51 : decode prog_1_method_6_code 51 = .ok (.ireturn, 1) := by decide +kernel
theorem dd_H_rule_52 : decode prog_1_method_6_code 52 = .ok (.aload_n 0, 1) := by decide +kernel
theorem dd_H_rule_53 : decode prog_1_method_6_code 53 = .ok (.getfield 10, 3) := by decide +kernel
theorem dd_H_rule_56 : decode prog_1_method_6_code 56 = .ok (.getfield 94, 3) := by decide +kernel
theorem dd_H_rule_59 : decode prog_1_method_6_code 59 = .ok (.ireturn, 1) := by decide +kernel
theorem dd_H_rule_60 : decode prog_1_method_6_code 60 = .ok (.aload_n 0, 1) := by decide +kernel
theorem dd_H_rule_61 : decode prog_1_method_6_code 61 = .ok (.getfield 10, 3) := by decide +kernel
theorem dd_H_rule_64 : decode prog_1_method_6_code 64 = .ok (.getfield 97, 3) := by decide +kernel
theorem dd_H_rule_67 : decode prog_1_method_6_code 67 = .ok (.ireturn, 1) := by decide +kernel
theorem dd_H_rule_68 : decode prog_1_method_6_code 68 = .ok (.aload_n 0, 1) := by decide +kernel
theorem dd_H_rule_69 : decode prog_1_method_6_code 69 = .ok (.getfield 10, 3) := by decide +kernel
theorem dd_H_rule_72 : decode prog_1_method_6_code 72 = .ok (.getfield 100, 3) := by decide +kernel
theorem dd_H_rule_75 : decode prog_1_method_6_code 75 = .ok (.ireturn, 1) := by decide +kernel
theorem dd_H_rule_76 : decode prog_1_method_6_code 76 = .ok (.aload_n 0, 1) := by decide +kernel
theorem dd_H_rule_77 : decode prog_1_method_6_code 77 = .ok (.getfield 10, 3) := by decide +kernel
theorem dd_H_rule_80 : decode prog_1_method_6_code 80 = .ok (.getfield 103, 3) := by decide +kernel
theorem dd_H_rule_83 : decode prog_1_method_6_code 83 = .ok (.ireturn, 1) := by decide +kernel
theorem dd_H_rule_84 : decode prog_1_method_6_code 84 = .ok (.aload_n 0, 1) := by decide +kernel
theorem dd_H_rule_85 : decode prog_1_method_6_code 85 = .ok (.getfield 10, 3) := by decide +kernel
theorem dd_H_rule_88 : decode prog_1_method_6_code 88 = .ok (.invokevirtual 106, 3) := by decide +kernel
theorem dd_H_rule_91 : decode prog_1_method_6_code 91 = .ok (.ireturn, 1) := by decide +kernel
theorem dd_H_rule_92 : decode prog_1_method_6_code 92 = .ok (.aload_n 0, 1) := by decide +kernel
theorem dd_H_rule_93 : decode prog_1_method_6_code 93 = .ok (.getfield 10, 3) := by decide +kernel
theorem dd_H_rule_96 : decode prog_1_method_6_code 96 = .ok (.invokevirtual 110, 3) := by decide +kernel
theorem dd_H_rule_99 : decode prog_1_method_6_code 99 = .ok (.ireturn, 1) := by decide +kernel
theorem dd_H_rule_100 : decode prog_1_method_6_code 100 = .ok (.iconst (-1), 1) := by decide +kernel
theorem dd_H_rule_101 : decode prog_1_method_6_code 101 = .ok (.ireturn, 1) := by decide +kernel
theorem dd_H_good_0 : decode prog_1_method_7_code 0 = .ok (.aload_n 0, 1) := by decide +kernel
theorem dd_H_good_1 : decode prog_1_method_7_code 1 = .ok (.iload_n 1, 1) := by decide +kernel
theorem dd_H_good_2 : decode prog_1_method_7_code 2 = .ok (.invokevirtual 113, 3) := by decide +kernel
theorem dd_H_good_5 : decode prog_1_method_7_code 5 = .ok (.ifCond .ne 5, 3) := by decide +kernel
theorem dd_H_good_8 : decode prog_1_method_7_code 8 = .ok (.iconst (-1), 1) := by decide +kernel
theorem dd_H_good_9 : decode prog_1_method_7_code 9 = .ok (.ireturn, 1) := by decide +kernel
theorem dd_H_good_10 : decode prog_1_method_7_code 10 = .ok (.aload_n 0, 1) := by decide +kernel
theorem dd_H_good_11 : decode prog_1_method_7_code 11 = .ok (.getfield 10, 3) := by decide +kernel
theorem dd_H_good_14 : decode prog_1_method_7_code 14 = .ok (.getfield 117, 3) := by decide +kernel
theorem dd_H_good_17 : decode prog_1_method_7_code 17 = .ok (.iload_n 1, 1) := by decide +kernel
theorem dd_H_good_18 : decode prog_1_method_7_code 18 = .ok (.aaload, 1) := by decide +kernel
theorem dd_H_good_19 : decode prog_1_method_7_code 19 = .ok (.astore_n 3, 1) := by decide +kernel
theorem dd_H_good_20 : decode prog_1_method_7_code 20 = .ok (.iload_n 2, 1) := by decide +kernel
theorem dd_H_good_21 : decode prog_1_method_7_code 21 = .ok (.tableswitch 77 0 5 #[39, 44, 49, 54, 67, 72], 39) := by decide +kernel
theorem dd_H_good_60 : decode prog_1_method_7_code 60 = .ok (.aload_n 3, 1) := by decide +kernel
theorem dd_H_good_61 : decode prog_1_method_7_code 61 = .ok (.getfield 121, 3) := by decide +kernel
theorem dd_H_good_64 : decode prog_1_method_7_code 64 = .ok (.ireturn, 1) := by decide +kernel
theorem dd_H_good_65 : decode prog_1_method_7_code 65 = .ok (.aload_n 3, 1) := by decide +kernel
theorem dd_H_good_66 : decode prog_1_method_7_code 66 = .ok (.getfield 126, 3) := by decide +kernel
theorem dd_H_good_69 : decode prog_1_method_7_code 69 = .ok (.ireturn, 1) := by decide +kernel
theorem dd_H_good_70 : decode prog_1_method_7_code 70 = .ok (.aload_n 3, 1) := by decide +kernel
theorem dd_H_good_71 : decode prog_1_method_7_code 71 = .ok (.getfield 129, 3) := by decide +kernel
theorem dd_H_good_74 : decode prog_1_method_7_code 74 = .ok (.ireturn, 1) := by decide +kernel
theorem dd_H_good_75 : decode prog_1_method_7_code 75 = .ok (.aload_n 3, 1) := by decide +kernel
theorem dd_H_good_76 : decode prog_1_method_7_code 76 = .ok (.getfield 132, 3) := by decide +kernel
theorem dd_H_good_79 : decode prog_1_method_7_code 79 = .ok (.ifCond .eq 7, 3) := by decide +kernel
theorem dd_H_good_82 : decode prog_1_method_7_code 82 = .ok (.iconst 1, 1) := by decide +kernel
theorem dd_H_good_83 : decode prog_1_method_7_code 83 = .ok (.goto 4, 3) := by decide +kernel
theorem dd_H_good_86 : decode prog_1_method_7_code 86 = .ok (.iconst 0, 1) := by decide +kernel
theorem dd_H_good_87 : decode prog_1_method_7_code 87 = .ok (.ireturn, 1) := by decide +kernel
theorem dd_H_good_88 : decode prog_1_method_7_code 88 = .ok (.aload_n 3, 1) := by decide +kernel
theorem dd_H_good_89 : decode prog_1_method_7_code 89 = .ok (.getfield 136, 3) := by decide +kernel
theorem dd_H_good_92 : decode prog_1_method_7_code 92 = .ok (.ireturn, 1) := by decide +kernel
theorem dd_H_good_93 : decode prog_1_method_7_code 93 = .ok (.aload_n 3, 1) := by decide +kernel
theorem dd_H_good_94 : decode prog_1_method_7_code 94 = .ok (.getfield 139, 3) := by decide +kernel
theorem dd_H_good_97 : decode prog_1_method_7_code 97 = .ok (.ireturn, 1) := by decide +kernel
theorem dd_H_good_98 : decode prog_1_method_7_code 98 = .ok (.iconst (-1), 1) := by decide +kernel
theorem dd_H_good_99 : decode prog_1_method_7_code 99 = .ok (.ireturn, 1) := by decide +kernel
theorem dd_H_one_0 : decode prog_1_method_8_code 0 = .ok (.aload_n 0, 1) := by decide +kernel
theorem dd_H_one_1 : decode prog_1_method_8_code 1 = .ok (.iload_n 1, 1) := by decide +kernel
theorem dd_H_one_2 : decode prog_1_method_8_code 2 = .ok (.invokevirtual 142, 3) := by decide +kernel
theorem dd_H_one_5 : decode prog_1_method_8_code 5 = .ok (.ifCond .eq 12, 3) := by decide +kernel
theorem dd_H_one_8 : decode prog_1_method_8_code 8 = .ok (.iload_n 2, 1) := by decide +kernel
theorem dd_H_one_9 : decode prog_1_method_8_code 9 = .ok (.iconst 0, 1) := by decide +kernel
theorem dd_H_one_10 : decode prog_1_method_8_code 10 = .ok (.iconst 3, 1) := by decide +kernel
theorem dd_H_one_11 : decode prog_1_method_8_code 11 = .ok (.invokestatic 66, 3) := by decide +kernel
theorem dd_H_one_14 : decode prog_1_method_8_code 14 = .ok (.ifCond .ne 5, 3) := by decide +kernel
theorem dd_H_one_17 : decode prog_1_method_8_code 17 = .ok (.iconst (-1), 1) := by decide +kernel
theorem dd_H_one_18 : decode prog_1_method_8_code 18 = .ok (.ireturn, 1) := by decide +kernel
theorem dd_H_one_19 : decode prog_1_method_8_code 19 = .ok (.iload_n 2, 1) := by decide +kernel
theorem dd_H_one_20 : decode prog_1_method_8_code 20 = .ok (.ifCond .ne 16, 3) := by decide +kernel
theorem dd_H_one_23 : decode prog_1_method_8_code 23 = .ok (.aload_n 0, 1) := by decide +kernel
theorem dd_H_one_24 : decode prog_1_method_8_code 24 = .ok (.getfield 10, 3) := by decide +kernel
theorem dd_H_one_27 : decode prog_1_method_8_code 27 = .ok (.getfield 145, 3) := by decide +kernel
theorem dd_H_one_30 : decode prog_1_method_8_code 30 = .ok (.iload_n 1, 1) := by decide +kernel
theorem dd_H_one_31 : decode prog_1_method_8_code 31 = .ok (.aaload, 1) := by decide +kernel
theorem dd_H_one_32 : decode prog_1_method_8_code 32 = .ok (.getfield 149, 3) := by decide +kernel
theorem dd_H_one_35 : decode prog_1_method_8_code 35 = .ok (.ireturn, 1) := by decide +kernel
theorem dd_H_one_36 : decode prog_1_method_8_code 36 = .ok (.iload_n 2, 1) := by decide +kernel
theorem dd_H_one_37 : decode prog_1_method_8_code 37 = .ok (.iconst 1, 1) := by decide +kernel
theorem dd_H_one_38 : decode prog_1_method_8_code 38 = .ok (.if_icmp .ne 16, 3) := by decide +kernel
theorem dd_H_one_41 : decode prog_1_method_8_code 41 = .ok (.aload_n 0, 1) := by decide +kernel
theorem dd_H_one_42 : decode prog_1_method_8_code 42 = .ok (.getfield 10, 3) := by decide +kernel
theorem dd_H_one_45 : decode prog_1_method_8_code 45 = .ok (.getfield 145, 3) := by decide +kernel
theorem dd_H_one_48 : decode prog_1_method_8_code 48 = .ok (.iload_n 1, 1) := by decide +kernel
theorem dd_H_one_49 : decode prog_1_method_8_code 49 = .ok (.aaload, 1) := by decide +kernel
theorem dd_H_one_50 : decode prog_1_method_8_code 50 = .ok (.getfield 154, 3) := by decide +kernel
theorem dd_H_one_53 : decode prog_1_method_8_code 53 = .ok (.ireturn, 1) := by decide +kernel
theorem dd_H_one_54 : decode prog_1_method_8_code 54 = .ok (.aload_n 0, 1) := by decide +kernel
theorem dd_H_one_55 : decode prog_1_method_8_code 55 = .ok (.getfield 16, 3) := by decide +kernel
theorem dd_H_one_58 : decode prog_1_method_8_code 58 = .ok (.aload_n 0, 1) := by decide +kernel
theorem dd_H_one_59 : decode prog_1_method_8_code 59 = .ok (.getfield 10, 3) := by decide +kernel
theorem dd_H_one_62 : decode prog_1_method_8_code 62 = .ok (.invokevirtual 87, 3) := by decide +kernel
theorem dd_H_one_65 : decode prog_1_method_8_code 65 = .ok (.aload_n 0, 1) := by decide +kernel
theorem dd_H_one_66 : decode prog_1_method_8_code 66 = .ok (.getfield 16, 3) := by decide +kernel
theorem dd_H_one_69 : decode prog_1_method_8_code 69 = .ok (.iconst 0, 1) := by decide +kernel
theorem dd_H_one_70 : decode prog_1_method_8_code 70 = .ok (.invokevirtual 157, 3) := by decide +kernel
theorem dd_H_one_73 : decode prog_1_method_8_code 73 = .ok (.iload_n 2, 1) := by decide +kernel
theorem dd_H_one_74 : decode prog_1_method_8_code 74 = .ok (.iconst 2, 1) := by decide +kernel
theorem dd_H_one_75 : decode prog_1_method_8_code 75 = .ok (.if_icmp .ne 18, 3) := by decide +kernel
theorem dd_H_one_78 : decode prog_1_method_8_code 78 = .ok (.aload_n 0, 1) := by decide +kernel
theorem dd_H_one_79 : decode prog_1_method_8_code 79 = .ok (.getfield 16, 3) := by decide +kernel
theorem dd_H_one_82 : decode prog_1_method_8_code 82 = .ok (.getfield 145, 3) := by decide +kernel
theorem dd_H_one_85 : decode prog_1_method_8_code 85 = .ok (.iload_n 1, 1) := by decide +kernel
theorem dd_H_one_86 : decode prog_1_method_8_code 86 = .ok (.aaload, 1) := by decide +kernel
theorem dd_H_one_87 : decode prog_1_method_8_code 87 = .ok (.getfield 161, 3) := by decide +kernel
theorem dd_H_one_90 : decode prog_1_method_8_code 90 = .ok (.goto 15, 3) := by decide +kernel
theorem dd_H_one_93 : decode prog_1_method_8_code 93 = .ok (.aload_n 0, 1) := by decide +kernel
theorem dd_H_one_94 : decode prog_1_method_8_code 94 = .ok (.getfield 16, 3) := by decide +kernel
theorem dd_H_one_97 : decode prog_1_method_8_code 97 = .ok (.getfield 145, 3) := by decide +kernel
theorem dd_H_one_100 : decode prog_1_method_8_code 100 = .ok (.iload_n 1, 1) := by decide +kernel
theorem dd_H_one_101 : decode prog_1_method_8_code 101 = .ok (.aaload, 1) := by decide +kernel
theorem dd_H_one_102 : decode prog_1_method_8_code 102 = .ok (.getfield 164, 3) := by decide +kernel
theorem dd_H_one_105 : decode prog_1_method_8_code 105 = .ok (.ireturn, 1) := by decide +kernel
theorem dd_H_alter_0 : decode prog_1_method_9_code 0 = .ok (.aload_n 0, 1) := by decide +kernel
theorem dd_H_alter_1 : decode prog_1_method_9_code 1 = .ok (.iload_n 1, 1) := by decide +kernel
theorem dd_H_alter_2 : decode prog_1_method_9_code 2 = .ok (.invokevirtual 113, 3) := by decide +kernel
theorem dd_H_alter_5 : decode prog_1_method_9_code 5 = .ok (.ifCond .ne 5, 3) := by decide +kernel
theorem dd_H_alter_8 : decode prog_1_method_9_code 8 = .ok (.iconst (-1), 1) := by decide +kernel
theorem dd_H_alter_9 : decode prog_1_method_9_code 9 = .ok (.ireturn, 1) := by decide +kernel
theorem dd_H_alter_10 : decode prog_1_method_9_code 10 = .ok (.aload_n 0, 1) := by decide +kernel
theorem dd_H_alter_11 : decode prog_1_method_9_code 11 = .ok (.getfield 10, 3) := by decide +kernel
theorem dd_H_alter_14 : decode prog_1_method_9_code 14 = .ok (.getfield 117, 3) := by decide +kernel
theorem dd_H_alter_17 : decode prog_1_method_9_code 17 = .ok (.iload_n 1, 1) := by decide +kernel
theorem dd_H_alter_18 : decode prog_1_method_9_code 18 = .ok (.aaload, 1) := by decide +kernel
theorem dd_H_alter_19 : decode prog_1_method_9_code 19 = .ok (.astore 4, 2) := by decide +kernel
theorem dd_H_alter_21 : decode prog_1_method_9_code 21 = .ok (.iconst (-1), 1) := by decide +kernel
theorem dd_H_alter_22 : decode prog_1_method_9_code 22 = .ok (.istore 5, 2) := by decide +kernel
theorem dd_H_alter_24 : decode prog_1_method_9_code 24 = .ok (.iload_n 2, 1) := by decide +kernel
theorem dd_H_alter_25 : decode prog_1_method_9_code 25 = .ok (.ifCond .ne 36, 3) := by decide +kernel
theorem dd_H_alter_28 : decode prog_1_method_9_code 28 = .ok (.iload_n 3, 1) := by decide +kernel
theorem dd_H_alter_29 : decode prog_1_method_9_code 29 = .ok (.invokestatic 167, 3) := by decide +kernel
theorem dd_H_alter_32 : decode prog_1_method_9_code 32 = .ok (.ifCond .eq 29, 3) := by decide +kernel
theorem dd_H_alter_35 : decode prog_1_method_9_code 35 = .ok (.aload 4, 2) := by decide +kernel
theorem dd_H_alter_37 : decode prog_1_method_9_code 37 = .ok (.getfield 121, 3) := by decide +kernel
theorem dd_H_alter_40 : decode prog_1_method_9_code 40 = .ok (.istore 5, 2) := by decide +kernel
theorem dd_H_alter_42 : decode prog_1_method_9_code 42 = .ok (.aload 4, 2) := by decide +kernel
theorem dd_H_alter_44 : decode prog_1_method_9_code 44 = .ok (.iload_n 3, 1) := by decide +kernel
theorem dd_H_alter_45 : decode prog_1_method_9_code 45 = .ok (.aload 4, 2) := by decide +kernel
theorem dd_H_alter_47 : decode prog_1_method_9_code 47 = .ok (.getfield 126, 3) := by decide +kernel
theorem dd_H_alter_50 : decode prog_1_method_9_code 50 = .ok (.aload 4, 2) := by decide +kernel
theorem dd_H_alter_52 : decode prog_1_method_9_code 52 = .ok (.getfield 129, 3) := by decide +kernel
theorem dd_H_alter_55 : decode prog_1_method_9_code 55 = .ok (.invokevirtual 170, 3) := by decide +kernel
theorem dd_H_alter_58 : decode prog_1_method_9_code 58 = .ok (.goto 76, 3) := by decide +kernel
theorem dd_H_alter_61 : decode prog_1_method_9_code 61 = .ok (.iload_n 2, 1) := by decide +kernel
theorem dd_H_alter_62 : decode prog_1_method_9_code 62 = .ok (.iconst 1, 1) := by decide +kernel
theorem dd_H_alter_63 : decode prog_1_method_9_code 63 = .ok (.if_icmp .ne 36, 3) := by decide +kernel
theorem dd_H_alter_66 : decode prog_1_method_9_code 66 = .ok (.iload_n 3, 1) := by decide +kernel
theorem dd_H_alter_67 : decode prog_1_method_9_code 67 = .ok (.invokestatic 174, 3) := by decide +kernel
theorem dd_H_alter_70 : decode prog_1_method_9_code 70 = .ok (.ifCond .eq 29, 3) := by decide +kernel
theorem dd_H_alter_73 : decode prog_1_method_9_code 73 = .ok (.aload 4, 2) := by decide +kernel
theorem dd_H_alter_75 : decode prog_1_method_9_code 75 = .ok (.getfield 126, 3) := by decide +kernel
theorem dd_H_alter_78 : decode prog_1_method_9_code 78 = .ok (.istore 5, 2) := by decide +kernel
theorem dd_H_alter_80 : decode prog_1_method_9_code 80 = .ok (.aload 4, 2) := by decide +kernel
theorem dd_H_alter_82 : decode prog_1_method_9_code 82 = .ok (.aload 4, 2) := by decide +kernel
theorem dd_H_alter_84 : decode prog_1_method_9_code 84 = .ok (.getfield 121, 3) := by decide +kernel
theorem dd_H_alter_87 : decode prog_1_method_9_code 87 = .ok (.iload_n 3, 1) := by decide +kernel
theorem dd_H_alter_88 : decode prog_1_method_9_code 88 = .ok (.aload 4, 2) := by decide +kernel
theorem dd_H_alter_90 : decode prog_1_method_9_code 90 = .ok (.getfield 129, 3) := by decide +kernel
theorem dd_H_alter_93 : decode prog_1_method_9_code 93 = .ok (.invokevirtual 170, 3) := by decide +kernel
theorem dd_H_alter_96 : decode prog_1_method_9_code 96 = .ok (.goto 38, 3) := by decide +kernel
theorem dd_H_alter_99 : decode prog_1_method_9_code 99 = .ok (.iload_n 2, 1) := by decide +kernel
theorem dd_H_alter_100 : decode prog_1_method_9_code 100 = .ok (.iconst 2, 1) := by decide +kernel
theorem dd_H_alter_101 : decode prog_1_method_9_code 101 = .ok (.if_icmp .ne 33, 3) := by decide +kernel
theorem dd_H_alter_104 : decode prog_1_method_9_code 104 = .ok (.iload_n 3, 1) := by decide +kernel
theorem dd_H_alter_105 : decode prog_1_method_9_code 105 = .ok (.invokestatic 177, 3) := by decide +kernel
theorem dd_H_alter_108 : decode prog_1_method_9_code 108 = .ok (.ifCond .eq 26, 3) := by decide +kernel
theorem dd_H_alter_111 : decode prog_1_method_9_code 111 = .ok (.aload 4, 2) := by decide +kernel
theorem dd_H_alter_113 : decode prog_1_method_9_code 113 = .ok (.getfield 129, 3) := by decide +kernel
theorem dd_H_alter_116 : decode prog_1_method_9_code 116 = .ok (.istore 5, 2) := by decide +kernel
theorem dd_H_alter_118 : decode prog_1_method_9_code 118 = .ok (.aload 4, 2) := by decide +kernel
theorem dd_H_alter_120 : decode prog_1_method_9_code 120 = .ok (.aload 4, 2) := by decide +kernel
theorem dd_H_alter_122 : decode prog_1_method_9_code 122 = .ok (.getfield 121, 3) := by decide +kernel
theorem dd_H_alter_125 : decode prog_1_method_9_code 125 = .ok (.aload 4, 2) := by decide +kernel
theorem dd_H_alter_127 : decode prog_1_method_9_code 127 = .ok (.getfield 126, 3) := by decide +kernel
theorem dd_H_alter_130 : decode prog_1_method_9_code 130 = .ok (.iload_n 3, 1) := by decide +kernel
theorem dd_H_alter_131 : decode prog_1_method_9_code 131 = .ok (.invokevirtual 170, 3) := by decide +kernel
theorem dd_H_alter_134 : decode prog_1_method_9_code 134 = .ok (.iload 5, 2) := by decide +kernel
theorem dd_H_alter_136 : decode prog_1_method_9_code 136 = .ok (.ireturn, 1) := by decide +kernel
theorem dd_H_train_0 : decode prog_1_method_10_code 0 = .ok (.aload_n 0, 1) := by decide +kernel
theorem dd_H_train_1 : decode prog_1_method_10_code 1 = .ok (.iload_n 1, 1) := by decide +kernel
theorem dd_H_train_2 : decode prog_1_method_10_code 2 = .ok (.invokevirtual 142, 3) := by decide +kernel
theorem dd_H_train_5 : decode prog_1_method_10_code 5 = .ok (.ifCond .ne 5, 3) := by decide +kernel
theorem dd_H_train_8 : decode prog_1_method_10_code 8 = .ok (.iconst (-1), 1) := by decide +kernel
theorem dd_H_train_9 : decode prog_1_method_10_code 9 = .ok (.ireturn, 1) := by decide +kernel
theorem dd_H_train_10 : decode prog_1_method_10_code 10 = .ok (.aload_n 0, 1) := by decide +kernel
theorem dd_H_train_11 : decode prog_1_method_10_code 11 = .ok (.getfield 10, 3) := by decide +kernel
theorem dd_H_train_14 : decode prog_1_method_10_code 14 = .ok (.getfield 145, 3) := by decide +kernel
theorem dd_H_train_17 : decode prog_1_method_10_code 17 = .ok (.iload_n 1, 1) := by decide +kernel
theorem dd_H_train_18 : decode prog_1_method_10_code 18 = .ok (.aaload, 1) := by decide +kernel
theorem dd_H_train_19 : decode prog_1_method_10_code 19 = .ok (.astore 4, 2) := by decide +kernel
theorem dd_H_train_21 : decode prog_1_method_10_code 21 = .ok (.iconst (-1), 1) := by decide +kernel
theorem dd_H_train_22 : decode prog_1_method_10_code 22 = .ok (.istore 5, 2) := by decide +kernel
theorem dd_H_train_24 : decode prog_1_method_10_code 24 = .ok (.iload_n 2, 1) := by decide +kernel
theorem dd_H_train_25 : decode prog_1_method_10_code 25 = .ok (.ifCond .ne 29, 3) := by decide +kernel
theorem dd_H_train_28 : decode prog_1_method_10_code 28 = .ok (.iload_n 3, 1) := by decide +kernel
theorem dd_H_train_29 : decode prog_1_method_10_code 29 = .ok (.iconst 1, 1) := by decide +kernel
theorem dd_H_train_30 : decode prog_1_method_10_code 30 = .ok (.bipush 20, 2) := by decide +kernel
theorem dd_H_train_32 : decode prog_1_method_10_code 32 = .ok (.invokestatic 66, 3) := by decide +kernel
theorem dd_H_train_35 : decode prog_1_method_10_code 35 = .ok (.ifCond .eq 19, 3) := by decide +kernel
theorem dd_H_train_38 : decode prog_1_method_10_code 38 = .ok (.aload 4, 2) := by decide +kernel
theorem dd_H_train_40 : decode prog_1_method_10_code 40 = .ok (.getfield 149, 3) := by decide +kernel
theorem dd_H_train_43 : decode prog_1_method_10_code 43 = .ok (.istore 5, 2) := by decide +kernel
theorem dd_H_train_45 : decode prog_1_method_10_code 45 = .ok (.aload 4, 2) := by decide +kernel
theorem dd_H_train_47 : decode prog_1_method_10_code 47 = .ok (.iload_n 3, 1) := by decide +kernel
theorem dd_H_train_48 : decode prog_1_method_10_code 48 = .ok (.putfield 149, 3) := by decide +kernel
theorem dd_H_train_51 : decode prog_1_method_10_code 51 = .ok (.goto 32, 3) := by decide +kernel
theorem dd_H_train_54 : decode prog_1_method_10_code 54 = .ok (.iload_n 2, 1) := by decide +kernel
theorem dd_H_train_55 : decode prog_1_method_10_code 55 = .ok (.iconst 1, 1) := by decide +kernel
theorem dd_H_train_56 : decode prog_1_method_10_code 56 = .ok (.if_icmp .ne 27, 3) := by decide +kernel
theorem dd_H_train_59 : decode prog_1_method_10_code 59 = .ok (.iload_n 3, 1) := by decide +kernel
theorem dd_H_train_60 : decode prog_1_method_10_code 60 = .ok (.iconst 0, 1) := by decide +kernel
theorem dd_H_train_61 : decode prog_1_method_10_code 61 = .ok (.sipush 999, 3) := by decide +kernel
theorem dd_H_train_64 : decode prog_1_method_10_code 64 = .ok (.invokestatic 66, 3) := by decide +kernel
theorem dd_H_train_67 : decode prog_1_method_10_code 67 = .ok (.ifCond .eq 16, 3) := by decide +kernel
theorem dd_H_train_70 : decode prog_1_method_10_code 70 = .ok (.aload 4, 2) := by decide +kernel
theorem dd_H_train_72 : decode prog_1_method_10_code 72 = .ok (.getfield 154, 3) := by decide +kernel
theorem dd_H_train_75 : decode prog_1_method_10_code 75 = .ok (.istore 5, 2) := by decide +kernel
theorem dd_H_train_77 : decode prog_1_method_10_code 77 = .ok (.aload 4, 2) := by decide +kernel
theorem dd_H_train_79 : decode prog_1_method_10_code 79 = .ok (.iload_n 3, 1) := by decide +kernel
theorem dd_H_train_80 : decode prog_1_method_10_code 80 = .ok (.putfield 154, 3) := by decide +kernel
theorem dd_H_train_83 : decode prog_1_method_10_code 83 = .ok (.iload 5, 2) := by decide +kernel
theorem dd_H_train_85 : decode prog_1_method_10_code 85 = .ok (.ireturn, 1) := by decide +kernel
theorem dd_H_set_0 : decode prog_1_method_11_code 0 = .ok (.iconst (-1), 1) := by decide +kernel
theorem dd_H_set_1 : decode prog_1_method_11_code 1 = .ok (.istore_n 3, 1) := by decide +kernel
theorem dd_H_set_2 : decode prog_1_method_11_code 2 = .ok (.iload_n 1, 1) := by decide +kernel
theorem dd_H_set_3 : decode prog_1_method_11_code 3 = .ok (.ifCond .ne 32, 3) := by decide +kernel
theorem dd_H_set_6 : decode prog_1_method_11_code 6 = .ok (.iload_n 2, 1) := by decide +kernel
theorem dd_H_set_7 : decode prog_1_method_11_code 7 = .ok (.iconst 0, 1) := by decide +kernel
theorem dd_H_set_8 : decode prog_1_method_11_code 8 = .ok (.bipush 6, 2) := by decide +kernel
theorem dd_H_set_10 : decode prog_1_method_11_code 10 = .ok (.invokestatic 66, 3) := by decide +kernel
theorem dd_H_set_13 : decode prog_1_method_11_code 13 = .ok (.ifCond .eq 22, 3) := by decide +kernel
theorem dd_H_set_16 : decode prog_1_method_11_code 16 = .ok (.aload_n 0, 1) := by decide +kernel
theorem dd_H_set_17 : decode prog_1_method_11_code 17 = .ok (.getfield 10, 3) := by decide +kernel
theorem dd_H_set_20 : decode prog_1_method_11_code 20 = .ok (.getfield 100, 3) := by decide +kernel
theorem dd_H_set_23 : decode prog_1_method_11_code 23 = .ok (.istore_n 3, 1) := by decide +kernel
theorem dd_H_set_24 : decode prog_1_method_11_code 24 = .ok (.aload_n 0, 1) := by decide +kernel
theorem dd_H_set_25 : decode prog_1_method_11_code 25 = .ok (.getfield 10, 3) := by decide +kernel
theorem dd_H_set_28 : decode prog_1_method_11_code 28 = .ok (.iload_n 2, 1) := by decide +kernel
theorem dd_H_set_29 : decode prog_1_method_11_code 29 = .ok (.putfield 100, 3) := by decide +kernel
theorem dd_H_set_32 : decode prog_1_method_11_code 32 = .ok (.goto 34, 3) := by decide +kernel
theorem dd_H_set_35 : decode prog_1_method_11_code 35 = .ok (.iload_n 1, 1) := by decide +kernel
theorem dd_H_set_36 : decode prog_1_method_11_code 36 = .ok (.iconst 1, 1) := by decide +kernel
theorem dd_H_set_37 : decode prog_1_method_11_code 37 = .ok (.if_icmp .ne 29, 3) := by decide +kernel
theorem dd_H_set_40 : decode prog_1_method_11_code 40 = .ok (.iload_n 2, 1) := by decide +kernel
theorem dd_H_set_41 : decode prog_1_method_11_code 41 = .ok (.iconst 0, 1) := by decide +kernel
theorem dd_H_set_42 : decode prog_1_method_11_code 42 = .ok (.bipush 8, 2) := by decide +kernel
theorem dd_H_set_44 : decode prog_1_method_11_code 44 = .ok (.invokestatic 66, 3) := by decide +kernel
theorem dd_H_set_47 : decode prog_1_method_11_code 47 = .ok (.ifCond .eq 19, 3) := by decide +kernel
theorem dd_H_set_50 : decode prog_1_method_11_code 50 = .ok (.aload_n 0, 1) := by decide +kernel
theorem dd_H_set_51 : decode prog_1_method_11_code 51 = .ok (.getfield 10, 3) := by decide +kernel
theorem dd_H_set_54 : decode prog_1_method_11_code 54 = .ok (.getfield 103, 3) := by decide +kernel
theorem dd_H_set_57 : decode prog_1_method_11_code 57 = .ok (.istore_n 3, 1) := by decide +kernel
theorem dd_H_set_58 : decode prog_1_method_11_code 58 = .ok (.aload_n 0, 1) := by decide +kernel
theorem dd_H_set_59 : decode prog_1_method_11_code 59 = .ok (.getfield 10, 3) := by decide +kernel
theorem dd_H_set_62 : decode prog_1_method_11_code 62 = .ok (.iload_n 2, 1) := by decide +kernel
theorem dd_H_set_63 : decode prog_1_method_11_code 63 = .ok (.putfield 103, 3) := by decide +kernel
theorem dd_H_set_66 : decode prog_1_method_11_code 66 = .ok (.iload_n 3, 1) := by decide +kernel
theorem dd_H_set_67 : decode prog_1_method_11_code 67 = .ok (.ireturn, 1) := by decide +kernel
theorem dd_H_stock_0 : decode prog_1_method_12_code 0 = .ok (.iload_n 1, 1) := by decide +kernel
theorem dd_H_stock_1 : decode prog_1_method_12_code 1 = .ok (.invokestatic 167, 3) := by decide +kernel
theorem dd_H_stock_4 : decode prog_1_method_12_code 4 = .ok (.ifCond .eq 17, 3) := by decide +kernel
theorem dd_H_stock_7 : decode prog_1_method_12_code 7 = .ok (.iload_n 2, 1) := by decide +kernel
theorem dd_H_stock_8 : decode prog_1_method_12_code 8 = .ok (.invokestatic 174, 3) := by decide +kernel
theorem dd_H_stock_11 : decode prog_1_method_12_code 11 = .ok (.ifCond .eq 10, 3) := by decide +kernel
theorem dd_H_stock_14 : decode prog_1_method_12_code 14 = .ok (.iload_n 3, 1) := by decide +kernel
theorem dd_H_stock_15 : decode prog_1_method_12_code 15 = .ok (.invokestatic 177, 3) := by decide +kernel
theorem dd_H_stock_18 : decode prog_1_method_12_code 18 = .ok (.ifCond .ne 5, 3) := by decide +kernel
theorem dd_H_stock_21 : decode prog_1_method_12_code 21 = .ok (.iconst (-1), 1) := by decide +kernel
theorem dd_H_stock_22 : decode prog_1_method_12_code 22 = .ok (.ireturn, 1) := by decide +kernel
theorem dd_H_stock_23 : decode prog_1_method_12_code 23 = .ok (.aload_n 0, 1) := by decide +kernel
theorem dd_H_stock_24 : decode prog_1_method_12_code 24 = .ok (.getfield 10, 3) := by decide +kernel
theorem dd_H_stock_27 : decode prog_1_method_12_code 27 = .ok (.getfield 91, 3) := by decide +kernel
theorem dd_H_stock_30 : decode prog_1_method_12_code 30 = .ok (.bipush 8, 2) := by decide +kernel
theorem dd_H_stock_32 : decode prog_1_method_12_code 32 = .ok (.if_icmp .lt 6, 3) := by decide +kernel
theorem dd_H_stock_35 : decode prog_1_method_12_code 35 = .ok (.bipush (-3), 2) := by decide +kernel
theorem dd_H_stock_37 : decode prog_1_method_12_code 37 = .ok (.ireturn, 1) := by decide +kernel
theorem dd_H_stock_38 : decode prog_1_method_12_code 38 = .ok (.aload_n 0, 1) := by decide +kernel
theorem dd_H_stock_39 : decode prog_1_method_12_code 39 = .ok (.getfield 10, 3) := by decide +kernel
theorem dd_H_stock_42 : decode prog_1_method_12_code 42 = .ok (.iload_n 1, 1) := by decide +kernel
theorem dd_H_stock_43 : decode prog_1_method_12_code 43 = .ok (.iload_n 2, 1) := by decide +kernel
theorem dd_H_stock_44 : decode prog_1_method_12_code 44 = .ok (.iload_n 3, 1) := by decide +kernel
theorem dd_H_stock_45 : decode prog_1_method_12_code 45 = .ok (.invokevirtual 180, 3) := by decide +kernel
theorem dd_H_stock_48 : decode prog_1_method_12_code 48 = .ok (.aload_n 0, 1) := by decide +kernel
theorem dd_H_stock_49 : decode prog_1_method_12_code 49 = .ok (.getfield 10, 3) := by decide +kernel
theorem dd_H_stock_52 : decode prog_1_method_12_code 52 = .ok (.getfield 91, 3) := by decide +kernel
theorem dd_H_stock_55 : decode prog_1_method_12_code 55 = .ok (.ireturn, 1) := by decide +kernel
theorem dd_H_hide_0 : decode prog_1_method_13_code 0 = .ok (.aload_n 0, 1) := by decide +kernel
theorem dd_H_hide_1 : decode prog_1_method_13_code 1 = .ok (.iload_n 1, 1) := by decide +kernel
theorem dd_H_hide_2 : decode prog_1_method_13_code 2 = .ok (.invokevirtual 113, 3) := by decide +kernel
theorem dd_H_hide_5 : decode prog_1_method_13_code 5 = .ok (.ifCond .ne 5, 3) := by decide +kernel
theorem dd_H_hide_8 : decode prog_1_method_13_code 8 = .ok (.iconst (-1), 1) := by decide +kernel
theorem dd_H_hide_9 : decode prog_1_method_13_code 9 = .ok (.ireturn, 1) := by decide +kernel
theorem dd_H_hide_10 : decode prog_1_method_13_code 10 = .ok (.aload_n 0, 1) := by decide +kernel
theorem dd_H_hide_11 : decode prog_1_method_13_code 11 = .ok (.getfield 10, 3) := by decide +kernel
theorem dd_H_hide_14 : decode prog_1_method_13_code 14 = .ok (.getfield 117, 3) := by decide +kernel
theorem dd_H_hide_17 : decode prog_1_method_13_code 17 = .ok (.iload_n 1, 1) := by decide +kernel
theorem dd_H_hide_18 : decode prog_1_method_13_code 18 = .ok (.aaload, 1) := by decide +kernel
theorem dd_H_hide_19 : decode prog_1_method_13_code 19 = .ok (.getfield 132, 3) := by decide +kernel
theorem dd_H_hide_22 : decode prog_1_method_13_code 22 = .ok (.ifCond .eq 6, 3) := by decide +kernel
theorem dd_H_hide_25 : decode prog_1_method_13_code 25 = .ok (.bipush (-2), 2) := by decide +kernel
theorem dd_H_hide_27 : decode prog_1_method_13_code 27 = .ok (.ireturn, 1) := by decide +kernel
theorem dd_H_hide_28 : decode prog_1_method_13_code 28 = .ok (.aload_n 0, 1) := by decide +kernel
theorem dd_H_hide_29 : decode prog_1_method_13_code 29 = .ok (.getfield 10, 3) := by decide +kernel
theorem dd_H_hide_32 : decode prog_1_method_13_code 32 = .ok (.getfield 117, 3) := by decide +kernel
theorem dd_H_hide_35 : decode prog_1_method_13_code 35 = .ok (.iload_n 1, 1) := by decide +kernel
theorem dd_H_hide_36 : decode prog_1_method_13_code 36 = .ok (.aaload, 1) := by decide +kernel
theorem dd_H_hide_37 : decode prog_1_method_13_code 37 = .ok (.iconst 1, 1) := by decide +kernel
theorem dd_H_hide_38 : decode prog_1_method_13_code 38 = .ok (.putfield 132, 3) := by decide +kernel
theorem dd_H_hide_41 : decode prog_1_method_13_code 41 = .ok (.iconst 1, 1) := by decide +kernel
theorem dd_H_hide_42 : decode prog_1_method_13_code 42 = .ok (.ireturn, 1) := by decide +kernel
theorem dd_H_fill_0 : decode prog_1_method_14_code 0 = .ok (.aload_n 0, 1) := by decide +kernel
theorem dd_H_fill_1 : decode prog_1_method_14_code 1 = .ok (.getfield 10, 3) := by decide +kernel
theorem dd_H_fill_4 : decode prog_1_method_14_code 4 = .ok (.bipush 8, 2) := by decide +kernel
theorem dd_H_fill_6 : decode prog_1_method_14_code 6 = .ok (.invokevirtual 183, 3) := by decide +kernel
theorem dd_H_fill_9 : decode prog_1_method_14_code 9 = .ok (.ireturn, 1) := by decide +kernel
theorem dd_H_weeks_0 : decode prog_1_method_15_code 0 = .ok (.iload_n 1, 1) := by decide +kernel
theorem dd_H_weeks_1 : decode prog_1_method_15_code 1 = .ok (.iconst 0, 1) := by decide +kernel
theorem dd_H_weeks_2 : decode prog_1_method_15_code 2 = .ok (.bipush 30, 2) := by decide +kernel
theorem dd_H_weeks_4 : decode prog_1_method_15_code 4 = .ok (.invokestatic 66, 3) := by decide +kernel
theorem dd_H_weeks_7 : decode prog_1_method_15_code 7 = .ok (.ifCond .ne 5, 3) := by decide +kernel
theorem dd_H_weeks_10 : decode prog_1_method_15_code 10 = .ok (.iconst (-1), 1) := by decide +kernel
theorem dd_H_weeks_11 : decode prog_1_method_15_code 11 = .ok (.ireturn, 1) := by decide +kernel
theorem dd_H_weeks_12 : decode prog_1_method_15_code 12 = .ok (.aload_n 0, 1) := by decide +kernel
theorem dd_H_weeks_13 : decode prog_1_method_15_code 13 = .ok (.getfield 10, 3) := by decide +kernel
theorem dd_H_weeks_16 : decode prog_1_method_15_code 16 = .ok (.getfield 97, 3) := by decide +kernel
theorem dd_H_weeks_19 : decode prog_1_method_15_code 19 = .ok (.iload_n 1, 1) := by decide +kernel
theorem dd_H_weeks_20 : decode prog_1_method_15_code 20 = .ok (.iadd, 1) := by decide +kernel
theorem dd_H_weeks_21 : decode prog_1_method_15_code 21 = .ok (.sipush 999, 3) := by decide +kernel
theorem dd_H_weeks_24 : decode prog_1_method_15_code 24 = .ok (.if_icmp .le 6, 3) := by decide +kernel
theorem dd_H_weeks_27 : decode prog_1_method_15_code 27 = .ok (.bipush (-3), 2) := by decide +kernel
theorem dd_H_weeks_29 : decode prog_1_method_15_code 29 = .ok (.ireturn, 1) := by decide +kernel
theorem dd_H_weeks_30 : decode prog_1_method_15_code 30 = .ok (.aload_n 0, 1) := by decide +kernel
theorem dd_H_weeks_31 : decode prog_1_method_15_code 31 = .ok (.getfield 10, 3) := by decide +kernel
theorem dd_H_weeks_34 : decode prog_1_method_15_code 34 = .ok (.invokevirtual 110, 3) := by decide +kernel
theorem dd_H_weeks_37 : decode prog_1_method_15_code 37 = .ok (.istore_n 2, 1) := by decide +kernel
theorem dd_H_weeks_38 : decode prog_1_method_15_code 38 = .ok (.aload_n 0, 1) := by decide +kernel
theorem dd_H_weeks_39 : decode prog_1_method_15_code 39 = .ok (.getfield 10, 3) := by decide +kernel
theorem dd_H_weeks_42 : decode prog_1_method_15_code 42 = .ok (.iload_n 1, 1) := by decide +kernel
theorem dd_H_weeks_43 : decode prog_1_method_15_code 43 = .ok (.invokevirtual 187, 3) := by decide +kernel
theorem dd_H_weeks_46 : decode prog_1_method_15_code 46 = .ok (.aload_n 0, 1) := by decide +kernel
theorem dd_H_weeks_47 : decode prog_1_method_15_code 47 = .ok (.getfield 10, 3) := by decide +kernel
theorem dd_H_weeks_50 : decode prog_1_method_15_code 50 = .ok (.invokevirtual 110, 3) := by decide +kernel
theorem dd_H_weeks_53 : decode prog_1_method_15_code 53 = .ok (.iload_n 2, 1) := by decide +kernel
theorem dd_H_weeks_54 : decode prog_1_method_15_code 54 = .ok (.isub, 1) := by decide +kernel
theorem dd_H_weeks_55 : decode prog_1_method_15_code 55 = .ok (.ireturn, 1) := by decide +kernel
theorem dd_H_runs_0 : decode prog_1_method_16_code 0 = .ok (.iload_n 1, 1) := by decide +kernel
theorem dd_H_runs_1 : decode prog_1_method_16_code 1 = .ok (.iconst 0, 1) := by decide +kernel
theorem dd_H_runs_2 : decode prog_1_method_16_code 2 = .ok (.bipush 60, 2) := by decide +kernel
theorem dd_H_runs_4 : decode prog_1_method_16_code 4 = .ok (.invokestatic 66, 3) := by decide +kernel
theorem dd_H_runs_7 : decode prog_1_method_16_code 7 = .ok (.ifCond .eq 12, 3) := by decide +kernel
theorem dd_H_runs_10 : decode prog_1_method_16_code 10 = .ok (.iload_n 2, 1) := by decide +kernel
theorem dd_H_runs_11 : decode prog_1_method_16_code 11 = .ok (.iconst 0, 1) := by decide +kernel
theorem dd_H_runs_12 : decode prog_1_method_16_code 12 = .ok (.iconst 4, 1) := by decide +kernel
theorem dd_H_runs_13 : decode prog_1_method_16_code 13 = .ok (.invokestatic 66, 3) := by decide +kernel
theorem dd_H_runs_16 : decode prog_1_method_16_code 16 = .ok (.ifCond .ne 5, 3) := by decide +kernel
theorem dd_H_runs_19 : decode prog_1_method_16_code 19 = .ok (.iconst (-1), 1) := by decide +kernel
theorem dd_H_runs_20 : decode prog_1_method_16_code 20 = .ok (.ireturn, 1) := by decide +kernel
theorem dd_H_runs_21 : decode prog_1_method_16_code 21 = .ok (.aload_n 0, 1) := by decide +kernel
theorem dd_H_runs_22 : decode prog_1_method_16_code 22 = .ok (.getfield 16, 3) := by decide +kernel
theorem dd_H_runs_25 : decode prog_1_method_16_code 25 = .ok (.aload_n 0, 1) := by decide +kernel
theorem dd_H_runs_26 : decode prog_1_method_16_code 26 = .ok (.getfield 10, 3) := by decide +kernel
theorem dd_H_runs_29 : decode prog_1_method_16_code 29 = .ok (.invokevirtual 87, 3) := by decide +kernel
theorem dd_H_runs_32 : decode prog_1_method_16_code 32 = .ok (.aload_n 0, 1) := by decide +kernel
theorem dd_H_runs_33 : decode prog_1_method_16_code 33 = .ok (.getfield 16, 3) := by decide +kernel
theorem dd_H_runs_36 : decode prog_1_method_16_code 36 = .ok (.iload_n 1, 1) := by decide +kernel
theorem dd_H_runs_37 : decode prog_1_method_16_code 37 = .ok (.invokevirtual 187, 3) := by decide +kernel
theorem dd_H_runs_40 : decode prog_1_method_16_code 40 = .ok (.iload_n 2, 1) := by decide +kernel
theorem dd_H_runs_41 : decode prog_1_method_16_code 41 = .ok (.tableswitch 71 0 3 #[31, 47, 55, 63], 31) := by decide +kernel
theorem dd_H_runs_72 : decode prog_1_method_16_code 72 = .ok (.aload_n 0, 1) := by decide +kernel
theorem dd_H_runs_73 : decode prog_1_method_16_code 73 = .ok (.getfield 16, 3) := by decide +kernel
theorem dd_H_runs_76 : decode prog_1_method_16_code 76 = .ok (.invokevirtual 110, 3) := by decide +kernel
theorem dd_H_runs_79 : decode prog_1_method_16_code 79 = .ok (.aload_n 0, 1) := by decide +kernel
theorem dd_H_runs_80 : decode prog_1_method_16_code 80 = .ok (.getfield 10, 3) := by decide +kernel
theorem dd_H_runs_83 : decode prog_1_method_16_code 83 = .ok (.invokevirtual 110, 3) := by decide +kernel
theorem dd_H_runs_86 : decode prog_1_method_16_code 86 = .ok (.isub, 1) := by decide +kernel
theorem dd_H_runs_87 : decode prog_1_method_16_code 87 = .ok (.ireturn, 1) := by decide +kernel
theorem dd_H_runs_88 : decode prog_1_method_16_code 88 = .ok (.aload_n 0, 1) := by decide +kernel
theorem dd_H_runs_89 : decode prog_1_method_16_code 89 = .ok (.getfield 16, 3) := by decide +kernel
theorem dd_H_runs_92 : decode prog_1_method_16_code 92 = .ok (.invokevirtual 106, 3) := by decide +kernel
theorem dd_H_runs_95 : decode prog_1_method_16_code 95 = .ok (.ireturn, 1) := by decide +kernel
theorem dd_H_runs_96 : decode prog_1_method_16_code 96 = .ok (.aload_n 0, 1) := by decide +kernel
theorem dd_H_runs_97 : decode prog_1_method_16_code 97 = .ok (.getfield 16, 3) := by decide +kernel
theorem dd_H_runs_100 : decode prog_1_method_16_code 100 = .ok (.getfield 190, 3) := by decide +kernel
theorem dd_H_runs_103 : decode prog_1_method_16_code 103 = .ok (.ireturn, 1) := by decide +kernel
theorem dd_H_runs_104 : decode prog_1_method_16_code 104 = .ok (.aload_n 0, 1) := by decide +kernel
theorem dd_H_runs_105 : decode prog_1_method_16_code 105 = .ok (.getfield 16, 3) := by decide +kernel
theorem dd_H_runs_108 : decode prog_1_method_16_code 108 = .ok (.getfield 193, 3) := by decide +kernel
theorem dd_H_runs_111 : decode prog_1_method_16_code 111 = .ok (.ireturn, 1) := by decide +kernel
theorem dd_H_runs_112 : decode prog_1_method_16_code 112 = .ok (.aload_n 0, 1) := by decide +kernel
theorem dd_H_runs_113 : decode prog_1_method_16_code 113 = .ok (.getfield 16, 3) := by decide +kernel
theorem dd_H_runs_116 : decode prog_1_method_16_code 116 = .ok (.invokevirtual 196, 3) := by decide +kernel
theorem dd_H_runs_119 : decode prog_1_method_16_code 119 = .ok (.ireturn, 1) := by decide +kernel
theorem dd_H_ahead_0 : decode prog_1_method_17_code 0 = .ok (.aload_n 0, 1) := by decide +kernel
theorem dd_H_ahead_1 : decode prog_1_method_17_code 1 = .ok (.iload_n 1, 1) := by decide +kernel
theorem dd_H_ahead_2 : decode prog_1_method_17_code 2 = .ok (.invokevirtual 142, 3) := by decide +kernel
theorem dd_H_ahead_5 : decode prog_1_method_17_code 5 = .ok (.ifCond .eq 22, 3) := by decide +kernel
theorem dd_H_ahead_8 : decode prog_1_method_17_code 8 = .ok (.iload_n 2, 1) := by decide +kernel
theorem dd_H_ahead_9 : decode prog_1_method_17_code 9 = .ok (.iconst 0, 1) := by decide +kernel
theorem dd_H_ahead_10 : decode prog_1_method_17_code 10 = .ok (.bipush 60, 2) := by decide +kernel
theorem dd_H_ahead_12 : decode prog_1_method_17_code 12 = .ok (.invokestatic 66, 3) := by decide +kernel
theorem dd_H_ahead_15 : decode prog_1_method_17_code 15 = .ok (.ifCond .eq 12, 3) := by decide +kernel
theorem dd_H_ahead_18 : decode prog_1_method_17_code 18 = .ok (.iload_n 3, 1) := by decide +kernel
theorem dd_H_ahead_19 : decode prog_1_method_17_code 19 = .ok (.iconst 0, 1) := by decide +kernel
theorem dd_H_ahead_20 : decode prog_1_method_17_code 20 = .ok (.iconst 1, 1) := by decide +kernel
theorem dd_H_ahead_21 : decode prog_1_method_17_code 21 = .ok (.invokestatic 66, 3) := by decide +kernel
theorem dd_H_ahead_24 : decode prog_1_method_17_code 24 = .ok (.ifCond .ne 5, 3) := by decide +kernel
theorem dd_H_ahead_27 : decode prog_1_method_17_code 27 = .ok (.iconst (-1), 1) := by decide +kernel
theorem dd_H_ahead_28 : decode prog_1_method_17_code 28 = .ok (.ireturn, 1) := by decide +kernel
theorem dd_H_ahead_29 : decode prog_1_method_17_code 29 = .ok (.aload_n 0, 1) := by decide +kernel
theorem dd_H_ahead_30 : decode prog_1_method_17_code 30 = .ok (.getfield 16, 3) := by decide +kernel
theorem dd_H_ahead_33 : decode prog_1_method_17_code 33 = .ok (.aload_n 0, 1) := by decide +kernel
theorem dd_H_ahead_34 : decode prog_1_method_17_code 34 = .ok (.getfield 10, 3) := by decide +kernel
theorem dd_H_ahead_37 : decode prog_1_method_17_code 37 = .ok (.invokevirtual 87, 3) := by decide +kernel
theorem dd_H_ahead_40 : decode prog_1_method_17_code 40 = .ok (.aload_n 0, 1) := by decide +kernel
theorem dd_H_ahead_41 : decode prog_1_method_17_code 41 = .ok (.getfield 16, 3) := by decide +kernel
theorem dd_H_ahead_44 : decode prog_1_method_17_code 44 = .ok (.iload_n 2, 1) := by decide +kernel
theorem dd_H_ahead_45 : decode prog_1_method_17_code 45 = .ok (.invokevirtual 187, 3) := by decide +kernel
theorem dd_H_ahead_48 : decode prog_1_method_17_code 48 = .ok (.iload_n 3, 1) := by decide +kernel
theorem dd_H_ahead_49 : decode prog_1_method_17_code 49 = .ok (.ifCond .ne 18, 3) := by decide +kernel
theorem dd_H_ahead_52 : decode prog_1_method_17_code 52 = .ok (.aload_n 0, 1) := by decide +kernel
theorem dd_H_ahead_53 : decode prog_1_method_17_code 53 = .ok (.getfield 16, 3) := by decide +kernel
theorem dd_H_ahead_56 : decode prog_1_method_17_code 56 = .ok (.getfield 145, 3) := by decide +kernel
theorem dd_H_ahead_59 : decode prog_1_method_17_code 59 = .ok (.iload_n 1, 1) := by decide +kernel
theorem dd_H_ahead_60 : decode prog_1_method_17_code 60 = .ok (.aaload, 1) := by decide +kernel
theorem dd_H_ahead_61 : decode prog_1_method_17_code 61 = .ok (.getfield 154, 3) := by decide +kernel
theorem dd_H_ahead_64 : decode prog_1_method_17_code 64 = .ok (.goto 15, 3) := by decide +kernel
theorem dd_H_ahead_67 : decode prog_1_method_17_code 67 = .ok (.aload_n 0, 1) := by decide +kernel
theorem dd_H_ahead_68 : decode prog_1_method_17_code 68 = .ok (.getfield 16, 3) := by decide +kernel
theorem dd_H_ahead_71 : decode prog_1_method_17_code 71 = .ok (.getfield 145, 3) := by decide +kernel
theorem dd_H_ahead_74 : decode prog_1_method_17_code 74 = .ok (.iload_n 1, 1) := by decide +kernel
theorem dd_H_ahead_75 : decode prog_1_method_17_code 75 = .ok (.aaload, 1) := by decide +kernel
theorem dd_H_ahead_76 : decode prog_1_method_17_code 76 = .ok (.getfield 149, 3) := by decide +kernel
theorem dd_H_ahead_79 : decode prog_1_method_17_code 79 = .ok (.ireturn, 1) := by decide +kernel
theorem dd_H_gone_0 : decode prog_1_method_18_code 0 = .ok (.aload_n 0, 1) := by decide +kernel
theorem dd_H_gone_1 : decode prog_1_method_18_code 1 = .ok (.iload_n 1, 1) := by decide +kernel
theorem dd_H_gone_2 : decode prog_1_method_18_code 2 = .ok (.invokevirtual 113, 3) := by decide +kernel
theorem dd_H_gone_5 : decode prog_1_method_18_code 5 = .ok (.ifCond .ne 5, 3) := by decide +kernel
theorem dd_H_gone_8 : decode prog_1_method_18_code 8 = .ok (.iconst (-1), 1) := by decide +kernel
theorem dd_H_gone_9 : decode prog_1_method_18_code 9 = .ok (.ireturn, 1) := by decide +kernel
theorem dd_H_gone_10 : decode prog_1_method_18_code 10 = .ok (.aload_n 0, 1) := by decide +kernel
theorem dd_H_gone_11 : decode prog_1_method_18_code 11 = .ok (.getfield 16, 3) := by decide +kernel
theorem dd_H_gone_14 : decode prog_1_method_18_code 14 = .ok (.aload_n 0, 1) := by decide +kernel
theorem dd_H_gone_15 : decode prog_1_method_18_code 15 = .ok (.getfield 10, 3) := by decide +kernel
theorem dd_H_gone_18 : decode prog_1_method_18_code 18 = .ok (.invokevirtual 87, 3) := by decide +kernel
theorem dd_H_gone_21 : decode prog_1_method_18_code 21 = .ok (.iconst 0, 1) := by decide +kernel
theorem dd_H_gone_22 : decode prog_1_method_18_code 22 = .ok (.istore_n 2, 1) := by decide +kernel
theorem dd_H_gone_23 : decode prog_1_method_18_code 23 = .ok (.iload_n 2, 1) := by decide +kernel
theorem dd_H_gone_24 : decode prog_1_method_18_code 24 = .ok (.bipush 60, 2) := by decide +kernel
theorem dd_H_gone_26 : decode prog_1_method_18_code 26 = .ok (.if_icmp .gt 33, 3) := by decide +kernel
theorem dd_H_gone_29 : decode prog_1_method_18_code 29 = .ok (.aload_n 0, 1) := by decide +kernel
theorem dd_H_gone_30 : decode prog_1_method_18_code 30 = .ok (.getfield 16, 3) := by decide +kernel
theorem dd_H_gone_33 : decode prog_1_method_18_code 33 = .ok (.iconst 0, 1) := by decide +kernel
theorem dd_H_gone_34 : decode prog_1_method_18_code 34 = .ok (.invokevirtual 199, 3) := by decide +kernel
theorem dd_H_gone_37 : decode prog_1_method_18_code 37 = .ok (.aload_n 0, 1) := by decide +kernel
theorem dd_H_gone_38 : decode prog_1_method_18_code 38 = .ok (.getfield 16, 3) := by decide +kernel
theorem dd_H_gone_41 : decode prog_1_method_18_code 41 = .ok (.getfield 202, 3) := by decide +kernel
theorem dd_H_gone_44 : decode prog_1_method_18_code 44 = .ok (.iload_n 1, 1) := by decide +kernel
theorem dd_H_gone_45 : decode prog_1_method_18_code 45 = .ok (.invokestatic 205, 3) := by decide +kernel
theorem dd_H_gone_48 : decode prog_1_method_18_code 48 = .ok (.ifCond .eq 5, 3) := by decide +kernel
theorem dd_H_gone_51 : decode prog_1_method_18_code 51 = .ok (.iload_n 2, 1) := by decide +kernel
theorem dd_H_gone_52 : decode prog_1_method_18_code 52 = .ok (.ireturn, 1) := by decide +kernel
theorem dd_H_gone_53 : decode prog_1_method_18_code 53 = .ok (.iinc 2 1, 3) := by decide +kernel
theorem dd_H_gone_56 : decode prog_1_method_18_code 56 = .ok (.goto (-33), 3) := by decide +kernel
theorem dd_H_gone_59 : decode prog_1_method_18_code 59 = .ok (.bipush (-4), 2) := by decide +kernel
theorem dd_H_gone_61 : decode prog_1_method_18_code 61 = .ok (.ireturn, 1) := by decide +kernel
theorem dd_H_rich_0 : decode prog_1_method_19_code 0 = .ok (.aload_n 0, 1) := by decide +kernel
theorem dd_H_rich_1 : decode prog_1_method_19_code 1 = .ok (.iload_n 1, 1) := by decide +kernel
theorem dd_H_rich_2 : decode prog_1_method_19_code 2 = .ok (.invokevirtual 142, 3) := by decide +kernel
theorem dd_H_rich_5 : decode prog_1_method_19_code 5 = .ok (.ifCond .eq 14, 3) := by decide +kernel
theorem dd_H_rich_8 : decode prog_1_method_19_code 8 = .ok (.iload_n 2, 1) := by decide +kernel
theorem dd_H_rich_9 : decode prog_1_method_19_code 9 = .ok (.iconst 0, 1) := by decide +kernel
theorem dd_H_rich_10 : decode prog_1_method_19_code 10 = .ok (.sipush 999, 3) := by decide +kernel
theorem dd_H_rich_13 : decode prog_1_method_19_code 13 = .ok (.invokestatic 66, 3) := by decide +kernel
theorem dd_H_rich_16 : decode prog_1_method_19_code 16 = .ok (.ifCond .ne 5, 3) := by decide +kernel
theorem dd_H_rich_19 : decode prog_1_method_19_code 19 = .ok (.iconst (-1), 1) := by decide +kernel
theorem dd_H_rich_20 : decode prog_1_method_19_code 20 = .ok (.ireturn, 1) := by decide +kernel
theorem dd_H_rich_21 : decode prog_1_method_19_code 21 = .ok (.aload_n 0, 1) := by decide +kernel
theorem dd_H_rich_22 : decode prog_1_method_19_code 22 = .ok (.getfield 16, 3) := by decide +kernel
theorem dd_H_rich_25 : decode prog_1_method_19_code 25 = .ok (.aload_n 0, 1) := by decide +kernel
theorem dd_H_rich_26 : decode prog_1_method_19_code 26 = .ok (.getfield 10, 3) := by decide +kernel
theorem dd_H_rich_29 : decode prog_1_method_19_code 29 = .ok (.invokevirtual 87, 3) := by decide +kernel
theorem dd_H_rich_32 : decode prog_1_method_19_code 32 = .ok (.iconst 0, 1) := by decide +kernel
theorem dd_H_rich_33 : decode prog_1_method_19_code 33 = .ok (.istore_n 3, 1) := by decide +kernel
theorem dd_H_rich_34 : decode prog_1_method_19_code 34 = .ok (.iload_n 3, 1) := by decide +kernel
theorem dd_H_rich_35 : decode prog_1_method_19_code 35 = .ok (.bipush 60, 2) := by decide +kernel
theorem dd_H_rich_37 : decode prog_1_method_19_code 37 = .ok (.if_icmp .gt 35, 3) := by decide +kernel
theorem dd_H_rich_40 : decode prog_1_method_19_code 40 = .ok (.aload_n 0, 1) := by decide +kernel
theorem dd_H_rich_41 : decode prog_1_method_19_code 41 = .ok (.getfield 16, 3) := by decide +kernel
theorem dd_H_rich_44 : decode prog_1_method_19_code 44 = .ok (.getfield 145, 3) := by decide +kernel
theorem dd_H_rich_47 : decode prog_1_method_19_code 47 = .ok (.iload_n 1, 1) := by decide +kernel
theorem dd_H_rich_48 : decode prog_1_method_19_code 48 = .ok (.aaload, 1) := by decide +kernel
theorem dd_H_rich_49 : decode prog_1_method_19_code 49 = .ok (.getfield 154, 3) := by decide +kernel
theorem dd_H_rich_52 : decode prog_1_method_19_code 52 = .ok (.iload_n 2, 1) := by decide +kernel
theorem dd_H_rich_53 : decode prog_1_method_19_code 53 = .ok (.if_icmp .lt 5, 3) := by decide +kernel
theorem dd_H_rich_56 : decode prog_1_method_19_code 56 = .ok (.iload_n 3, 1) := by decide +kernel
theorem dd_H_rich_57 : decode prog_1_method_19_code 57 = .ok (.ireturn, 1) := by decide +kernel
theorem dd_H_rich_58 : decode prog_1_method_19_code 58 = .ok (.aload_n 0, 1) := by decide +kernel
theorem dd_H_rich_59 : decode prog_1_method_19_code 59 = .ok (.getfield 16, 3) := by decide +kernel
theorem dd_H_rich_62 : decode prog_1_method_19_code 62 = .ok (.iconst 0, 1) := by decide +kernel
theorem dd_H_rich_63 : decode prog_1_method_19_code 63 = .ok (.invokevirtual 199, 3) := by decide +kernel
theorem dd_H_rich_66 : decode prog_1_method_19_code 66 = .ok (.iinc 3 1, 3) := by decide +kernel
theorem dd_H_rich_69 : decode prog_1_method_19_code 69 = .ok (.goto (-35), 3) := by decide +kernel
theorem dd_H_rich_72 : decode prog_1_method_19_code 72 = .ok (.bipush (-4), 2) := by decide +kernel
theorem dd_H_rich_74 : decode prog_1_method_19_code 74 = .ok (.ireturn, 1) := by decide +kernel
theorem dd_H_arms_0 : decode prog_1_method_20_code 0 = .ok (.aload_n 0, 1) := by decide +kernel
theorem dd_H_arms_1 : decode prog_1_method_20_code 1 = .ok (.iload_n 1, 1) := by decide +kernel
theorem dd_H_arms_2 : decode prog_1_method_20_code 2 = .ok (.invokevirtual 142, 3) := by decide +kernel
theorem dd_H_arms_5 : decode prog_1_method_20_code 5 = .ok (.ifCond .eq 12, 3) := by decide +kernel
theorem dd_H_arms_8 : decode prog_1_method_20_code 8 = .ok (.iload_n 2, 1) := by decide +kernel
theorem dd_H_arms_9 : decode prog_1_method_20_code 9 = .ok (.iconst 0, 1) := by decide +kernel
theorem dd_H_arms_10 : decode prog_1_method_20_code 10 = .ok (.iconst 2, 1) := by decide +kernel
theorem dd_H_arms_11 : decode prog_1_method_20_code 11 = .ok (.invokestatic 66, 3) := by decide +kernel
theorem dd_H_arms_14 : decode prog_1_method_20_code 14 = .ok (.ifCond .ne 5, 3) := by decide +kernel
theorem dd_H_arms_17 : decode prog_1_method_20_code 17 = .ok (.iconst (-1), 1) := by decide +kernel
theorem dd_H_arms_18 : decode prog_1_method_20_code 18 = .ok (.ireturn, 1) := by decide +kernel
theorem dd_H_arms_19 : decode prog_1_method_20_code 19 = .ok (.aload_n 0, 1) := by decide +kernel
theorem dd_H_arms_20 : decode prog_1_method_20_code 20 = .ok (.getfield 10, 3) := by decide +kernel
theorem dd_H_arms_23 : decode prog_1_method_20_code 23 = .ok (.invokevirtual 106, 3) := by decide +kernel
theorem dd_H_arms_26 : decode prog_1_method_20_code 26 = .ok (.istore_n 3, 1) := by decide +kernel
theorem dd_H_arms_27 : decode prog_1_method_20_code 27 = .ok (.iconst 0, 1) := by decide +kernel
theorem dd_H_arms_28 : decode prog_1_method_20_code 28 = .ok (.istore 4, 2) := by decide +kernel
theorem dd_H_arms_30 : decode prog_1_method_20_code 30 = .ok (.iconst 0, 1) := by decide +kernel
theorem dd_H_arms_31 : decode prog_1_method_20_code 31 = .ok (.istore 5, 2) := by decide +kernel
theorem dd_H_arms_33 : decode prog_1_method_20_code 33 = .ok (.iconst 1, 1) := by decide +kernel
theorem dd_H_arms_34 : decode prog_1_method_20_code 34 = .ok (.istore 6, 2) := by decide +kernel
theorem dd_H_arms_36 : decode prog_1_method_20_code 36 = .ok (.iload 6, 2) := by decide +kernel
theorem dd_H_arms_38 : decode prog_1_method_20_code 38 = .ok (.iload_n 3, 1) := by decide +kernel
theorem dd_H_arms_39 : decode prog_1_method_20_code 39 = .ok (.if_icmp .gt 71, 3) := by decide +kernel
theorem dd_H_arms_42 : decode prog_1_method_20_code 42 = .ok (.iload 6, 2) := by decide +kernel
theorem dd_H_arms_44 : decode prog_1_method_20_code 44 = .ok (.iload_n 3, 1) := by decide +kernel
theorem dd_H_arms_45 : decode prog_1_method_20_code 45 = .ok (.iconst (-1), 1) := by decide +kernel
theorem dd_H_arms_46 : decode prog_1_method_20_code 46 = .ok (.ixor, 1) := by decide +kernel
theorem dd_H_arms_47 : decode prog_1_method_20_code 47 = .ok (.iand, 1) := by decide +kernel
theorem dd_H_arms_48 : decode prog_1_method_20_code 48 = .ok (.ifCond .ne 56, 3) := by decide +kernel
theorem dd_H_arms_51 : decode prog_1_method_20_code 51 = .ok (.aload_n 0, 1) := by decide +kernel
theorem dd_H_arms_52 : decode prog_1_method_20_code 52 = .ok (.getfield 10, 3) := by decide +kernel
theorem dd_H_arms_55 : decode prog_1_method_20_code 55 = .ok (.iload 6, 2) := by decide +kernel
theorem dd_H_arms_57 : decode prog_1_method_20_code 57 = .ok (.invokevirtual 209, 3) := by decide +kernel
theorem dd_H_arms_60 : decode prog_1_method_20_code 60 = .ok (.aload_n 0, 1) := by decide +kernel
theorem dd_H_arms_61 : decode prog_1_method_20_code 61 = .ok (.getfield 10, 3) := by decide +kernel
theorem dd_H_arms_64 : decode prog_1_method_20_code 64 = .ok (.getfield 145, 3) := by decide +kernel
theorem dd_H_arms_67 : decode prog_1_method_20_code 67 = .ok (.iload_n 1, 1) := by decide +kernel
theorem dd_H_arms_68 : decode prog_1_method_20_code 68 = .ok (.aaload, 1) := by decide +kernel
theorem dd_H_arms_69 : decode prog_1_method_20_code 69 = .ok (.getfield 149, 3) := by decide +kernel
theorem dd_H_arms_72 : decode prog_1_method_20_code 72 = .ok (.if_icmp .gt 32, 3) := by decide +kernel
theorem dd_H_arms_75 : decode prog_1_method_20_code 75 = .ok (.aload_n 0, 1) := by decide +kernel
theorem dd_H_arms_76 : decode prog_1_method_20_code 76 = .ok (.getfield 10, 3) := by decide +kernel
theorem dd_H_arms_79 : decode prog_1_method_20_code 79 = .ok (.iload 6, 2) := by decide +kernel
theorem dd_H_arms_81 : decode prog_1_method_20_code 81 = .ok (.invokevirtual 212, 3) := by decide +kernel
theorem dd_H_arms_84 : decode prog_1_method_20_code 84 = .ok (.iload 5, 2) := by decide +kernel
theorem dd_H_arms_86 : decode prog_1_method_20_code 86 = .ok (.if_icmp .le 18, 3) := by decide +kernel
theorem dd_H_arms_89 : decode prog_1_method_20_code 89 = .ok (.iload 6, 2) := by decide +kernel
theorem dd_H_arms_91 : decode prog_1_method_20_code 91 = .ok (.istore 4, 2) := by decide +kernel
theorem dd_H_arms_93 : decode prog_1_method_20_code 93 = .ok (.aload_n 0, 1) := by decide +kernel
theorem dd_H_arms_94 : decode prog_1_method_20_code 94 = .ok (.getfield 10, 3) := by decide +kernel
theorem dd_H_arms_97 : decode prog_1_method_20_code 97 = .ok (.iload 6, 2) := by decide +kernel
theorem dd_H_arms_99 : decode prog_1_method_20_code 99 = .ok (.invokevirtual 212, 3) := by decide +kernel
theorem dd_H_arms_102 : decode prog_1_method_20_code 102 = .ok (.istore 5, 2) := by decide +kernel
theorem dd_H_arms_104 : decode prog_1_method_20_code 104 = .ok (.iinc 6 1, 3) := by decide +kernel
theorem dd_H_arms_107 : decode prog_1_method_20_code 107 = .ok (.goto (-71), 3) := by decide +kernel
theorem dd_H_arms_110 : decode prog_1_method_20_code 110 = .ok (.iload_n 2, 1) := by decide +kernel
theorem dd_H_arms_111 : decode prog_1_method_20_code 111 = .ok (.lookupswitch 31 #[(0, 25), (1, 28)], 25) := by decide +kernel
theorem dd_H_arms_136 : decode prog_1_method_20_code 136 = .ok (.iload 4, 2) := by decide +kernel
theorem dd_H_arms_138 : decode prog_1_method_20_code 138 = .ok (.ireturn, 1) := by decide +kernel
theorem dd_H_arms_139 : decode prog_1_method_20_code 139 = .ok (.iload 5, 2) := by decide +kernel
theorem dd_H_arms_141 : decode prog_1_method_20_code 141 = .ok (.ireturn, 1) := by decide +kernel
theorem dd_H_arms_142 : decode prog_1_method_20_code 142 = .ok (.aload_n 0, 1) := by decide +kernel
theorem dd_H_arms_143 : decode prog_1_method_20_code 143 = .ok (.getfield 10, 3) := by decide +kernel
theorem dd_H_arms_146 : decode prog_1_method_20_code 146 = .ok (.iload 4, 2) := by decide +kernel
theorem dd_H_arms_148 : decode prog_1_method_20_code 148 = .ok (.invokevirtual 209, 3) := by decide +kernel
theorem dd_H_arms_151 : decode prog_1_method_20_code 151 = .ok (.ireturn, 1) := by decide +kernel
theorem dd_H_need_0 : decode prog_1_method_21_code 0 = .ok (.aload_n 0, 1) := by decide +kernel
theorem dd_H_need_1 : decode prog_1_method_21_code 1 = .ok (.iload_n 1, 1) := by decide +kernel
theorem dd_H_need_2 : decode prog_1_method_21_code 2 = .ok (.invokevirtual 142, 3) := by decide +kernel
theorem dd_H_need_5 : decode prog_1_method_21_code 5 = .ok (.ifCond .eq 11, 3) := by decide +kernel
theorem dd_H_need_8 : decode prog_1_method_21_code 8 = .ok (.aload_n 0, 1) := by decide +kernel
theorem dd_H_need_9 : decode prog_1_method_21_code 9 = .ok (.iload_n 2, 1) := by decide +kernel
theorem dd_H_need_10 : decode prog_1_method_21_code 10 = .ok (.invokevirtual 113, 3) := by decide +kernel
theorem dd_H_need_13 : decode prog_1_method_21_code 13 = .ok (.ifCond .ne 5, 3) := by decide +kernel
theorem dd_H_need_16 : decode prog_1_method_21_code 16 = .ok (.iconst (-1), 1) := by decide +kernel
theorem dd_H_need_17 : decode prog_1_method_21_code 17 = .ok (.ireturn, 1) := by decide +kernel
theorem dd_H_need_18 : decode prog_1_method_21_code 18 = .ok (.iconst 1, 1) := by decide +kernel
theorem dd_H_need_19 : decode prog_1_method_21_code 19 = .ok (.istore_n 3, 1) := by decide +kernel
theorem dd_H_need_20 : decode prog_1_method_21_code 20 = .ok (.iload_n 3, 1) := by decide +kernel
theorem dd_H_need_21 : decode prog_1_method_21_code 21 = .ok (.bipush 20, 2) := by decide +kernel
theorem dd_H_need_23 : decode prog_1_method_21_code 23 = .ok (.if_icmp .gt 62, 3) := by decide +kernel
theorem dd_H_need_26 : decode prog_1_method_21_code 26 = .ok (.aload_n 0, 1) := by decide +kernel
theorem dd_H_need_27 : decode prog_1_method_21_code 27 = .ok (.getfield 16, 3) := by decide +kernel
theorem dd_H_need_30 : decode prog_1_method_21_code 30 = .ok (.aload_n 0, 1) := by decide +kernel
theorem dd_H_need_31 : decode prog_1_method_21_code 31 = .ok (.getfield 10, 3) := by decide +kernel
theorem dd_H_need_34 : decode prog_1_method_21_code 34 = .ok (.invokevirtual 87, 3) := by decide +kernel
theorem dd_H_need_37 : decode prog_1_method_21_code 37 = .ok (.aload_n 0, 1) := by decide +kernel
theorem dd_H_need_38 : decode prog_1_method_21_code 38 = .ok (.getfield 16, 3) := by decide +kernel
theorem dd_H_need_41 : decode prog_1_method_21_code 41 = .ok (.getfield 145, 3) := by decide +kernel
theorem dd_H_need_44 : decode prog_1_method_21_code 44 = .ok (.iload_n 1, 1) := by decide +kernel
theorem dd_H_need_45 : decode prog_1_method_21_code 45 = .ok (.aaload, 1) := by decide +kernel
theorem dd_H_need_46 : decode prog_1_method_21_code 46 = .ok (.iload_n 3, 1) := by decide +kernel
theorem dd_H_need_47 : decode prog_1_method_21_code 47 = .ok (.putfield 149, 3) := by decide +kernel
theorem dd_H_need_50 : decode prog_1_method_21_code 50 = .ok (.aload_n 0, 1) := by decide +kernel
theorem dd_H_need_51 : decode prog_1_method_21_code 51 = .ok (.getfield 16, 3) := by decide +kernel
theorem dd_H_need_54 : decode prog_1_method_21_code 54 = .ok (.iconst 0, 1) := by decide +kernel
theorem dd_H_need_55 : decode prog_1_method_21_code 55 = .ok (.invokevirtual 157, 3) := by decide +kernel
theorem dd_H_need_58 : decode prog_1_method_21_code 58 = .ok (.aload_n 0, 1) := by decide +kernel
theorem dd_H_need_59 : decode prog_1_method_21_code 59 = .ok (.getfield 16, 3) := by decide +kernel
theorem dd_H_need_62 : decode prog_1_method_21_code 62 = .ok (.getfield 145, 3) := by decide +kernel
theorem dd_H_need_65 : decode prog_1_method_21_code 65 = .ok (.iload_n 1, 1) := by decide +kernel
theorem dd_H_need_66 : decode prog_1_method_21_code 66 = .ok (.aaload, 1) := by decide +kernel
theorem dd_H_need_67 : decode prog_1_method_21_code 67 = .ok (.getfield 161, 3) := by decide +kernel
theorem dd_H_need_70 : decode prog_1_method_21_code 70 = .ok (.iload_n 2, 1) := by decide +kernel
theorem dd_H_need_71 : decode prog_1_method_21_code 71 = .ok (.invokestatic 205, 3) := by decide +kernel
theorem dd_H_need_74 : decode prog_1_method_21_code 74 = .ok (.ifCond .eq 5, 3) := by decide +kernel
theorem dd_H_need_77 : decode prog_1_method_21_code 77 = .ok (.iload_n 3, 1) := by decide +kernel
theorem dd_H_need_78 : decode prog_1_method_21_code 78 = .ok (.ireturn, 1) := by decide +kernel
theorem dd_H_need_79 : decode prog_1_method_21_code 79 = .ok (.iinc 3 1, 3) := by decide +kernel
theorem dd_H_need_82 : decode prog_1_method_21_code 82 = .ok (.goto (-62), 3) := by decide +kernel
theorem dd_H_need_85 : decode prog_1_method_21_code 85 = .ok (.bipush (-4), 2) := by decide +kernel
theorem dd_H_need_87 : decode prog_1_method_21_code 87 = .ok (.ireturn, 1) := by decide +kernel
theorem dd_H_fair_0 : decode prog_1_method_22_code 0 = .ok (.iload_n 1, 1) := by decide +kernel
theorem dd_H_fair_1 : decode prog_1_method_22_code 1 = .ok (.iconst 0, 1) := by decide +kernel
theorem dd_H_fair_2 : decode prog_1_method_22_code 2 = .ok (.bipush 60, 2) := by decide +kernel
theorem dd_H_fair_4 : decode prog_1_method_22_code 4 = .ok (.invokestatic 66, 3) := by decide +kernel
theorem dd_H_fair_7 : decode prog_1_method_22_code 7 = .ok (.ifCond .eq 12, 3) := by decide +kernel
theorem dd_H_fair_10 : decode prog_1_method_22_code 10 = .ok (.iload_n 2, 1) := by decide +kernel
theorem dd_H_fair_11 : decode prog_1_method_22_code 11 = .ok (.iconst 0, 1) := by decide +kernel
theorem dd_H_fair_12 : decode prog_1_method_22_code 12 = .ok (.iconst 1, 1) := by decide +kernel
theorem dd_H_fair_13 : decode prog_1_method_22_code 13 = .ok (.invokestatic 66, 3) := by decide +kernel
theorem dd_H_fair_16 : decode prog_1_method_22_code 16 = .ok (.ifCond .ne 5, 3) := by decide +kernel
theorem dd_H_fair_19 : decode prog_1_method_22_code 19 = .ok (.iconst (-1), 1) := by decide +kernel
theorem dd_H_fair_20 : decode prog_1_method_22_code 20 = .ok (.ireturn, 1) := by decide +kernel
theorem dd_H_fair_21 : decode prog_1_method_22_code 21 = .ok (.aload_n 0, 1) := by decide +kernel
theorem dd_H_fair_22 : decode prog_1_method_22_code 22 = .ok (.getfield 10, 3) := by decide +kernel
theorem dd_H_fair_25 : decode prog_1_method_22_code 25 = .ok (.getfield 94, 3) := by decide +kernel
theorem dd_H_fair_28 : decode prog_1_method_22_code 28 = .ok (.ifCond .ne 6, 3) := by decide +kernel
theorem dd_H_fair_31 : decode prog_1_method_22_code 31 = .ok (.bipush (-2), 2) := by decide +kernel
theorem dd_H_fair_33 : decode prog_1_method_22_code 33 = .ok (.ireturn, 1) := by decide +kernel
theorem dd_H_fair_34 : decode prog_1_method_22_code 34 = .ok (.iconst 0, 1) := by decide +kernel
theorem dd_H_fair_35 : decode prog_1_method_22_code 35 = .ok (.istore_n 3, 1) := by decide +kernel
theorem dd_H_fair_36 : decode prog_1_method_22_code 36 = .ok (.iconst (-1), 1) := by decide +kernel
theorem dd_H_fair_37 : decode prog_1_method_22_code 37 = .ok (.istore 4, 2) := by decide +kernel
theorem dd_H_fair_39 : decode prog_1_method_22_code 39 = .ok (.iconst 0, 1) := by decide +kernel
theorem dd_H_fair_40 : decode prog_1_method_22_code 40 = .ok (.istore 5, 2) := by decide +kernel
theorem dd_H_fair_42 : decode prog_1_method_22_code 42 = .ok (.iload 5, 2) := by decide +kernel
theorem dd_H_fair_44 : decode prog_1_method_22_code 44 = .ok (.bipush 6, 2) := by decide +kernel
theorem dd_H_fair_46 : decode prog_1_method_22_code 46 = .ok (.if_icmp .gt 61, 3) := by decide +kernel
theorem dd_H_fair_49 : decode prog_1_method_22_code 49 = .ok (.aload_n 0, 1) := by decide +kernel
theorem dd_H_fair_50 : decode prog_1_method_22_code 50 = .ok (.getfield 16, 3) := by decide +kernel
theorem dd_H_fair_53 : decode prog_1_method_22_code 53 = .ok (.aload_n 0, 1) := by decide +kernel
theorem dd_H_fair_54 : decode prog_1_method_22_code 54 = .ok (.getfield 10, 3) := by decide +kernel
theorem dd_H_fair_57 : decode prog_1_method_22_code 57 = .ok (.invokevirtual 87, 3) := by decide +kernel
theorem dd_H_fair_60 : decode prog_1_method_22_code 60 = .ok (.aload_n 0, 1) := by decide +kernel
theorem dd_H_fair_61 : decode prog_1_method_22_code 61 = .ok (.getfield 16, 3) := by decide +kernel
theorem dd_H_fair_64 : decode prog_1_method_22_code 64 = .ok (.iload 5, 2) := by decide +kernel
theorem dd_H_fair_66 : decode prog_1_method_22_code 66 = .ok (.putfield 100, 3) := by decide +kernel
theorem dd_H_fair_69 : decode prog_1_method_22_code 69 = .ok (.aload_n 0, 1) := by decide +kernel
theorem dd_H_fair_70 : decode prog_1_method_22_code 70 = .ok (.getfield 16, 3) := by decide +kernel
theorem dd_H_fair_73 : decode prog_1_method_22_code 73 = .ok (.iload_n 1, 1) := by decide +kernel
theorem dd_H_fair_74 : decode prog_1_method_22_code 74 = .ok (.invokevirtual 187, 3) := by decide +kernel
theorem dd_H_fair_77 : decode prog_1_method_22_code 77 = .ok (.aload_n 0, 1) := by decide +kernel
theorem dd_H_fair_78 : decode prog_1_method_22_code 78 = .ok (.getfield 16, 3) := by decide +kernel
theorem dd_H_fair_81 : decode prog_1_method_22_code 81 = .ok (.invokevirtual 196, 3) := by decide +kernel
theorem dd_H_fair_84 : decode prog_1_method_22_code 84 = .ok (.iload 4, 2) := by decide +kernel
theorem dd_H_fair_86 : decode prog_1_method_22_code 86 = .ok (.if_icmp .le 15, 3) := by decide +kernel
theorem dd_H_fair_89 : decode prog_1_method_22_code 89 = .ok (.iload 5, 2) := by decide +kernel
theorem dd_H_fair_91 : decode prog_1_method_22_code 91 = .ok (.istore_n 3, 1) := by decide +kernel
theorem dd_H_fair_92 : decode prog_1_method_22_code 92 = .ok (.aload_n 0, 1) := by decide +kernel
theorem dd_H_fair_93 : decode prog_1_method_22_code 93 = .ok (.getfield 16, 3) := by decide +kernel
theorem dd_H_fair_96 : decode prog_1_method_22_code 96 = .ok (.invokevirtual 196, 3) := by decide +kernel
theorem dd_H_fair_99 : decode prog_1_method_22_code 99 = .ok (.istore 4, 2) := by decide +kernel
theorem dd_H_fair_101 : decode prog_1_method_22_code 101 = .ok (.iinc 5 1, 3) := by decide +kernel
theorem dd_H_fair_104 : decode prog_1_method_22_code 104 = .ok (.goto (-62), 3) := by decide +kernel
theorem dd_H_fair_107 : decode prog_1_method_22_code 107 = .ok (.iload_n 2, 1) := by decide +kernel
theorem dd_H_fair_108 : decode prog_1_method_22_code 108 = .ok (.ifCond .ne 7, 3) := by decide +kernel
theorem dd_H_fair_111 : decode prog_1_method_22_code 111 = .ok (.iload_n 3, 1) := by decide +kernel
theorem dd_H_fair_112 : decode prog_1_method_22_code 112 = .ok (.goto 5, 3) := by decide +kernel
theorem dd_H_fair_115 : decode prog_1_method_22_code 115 = .ok (.iload 4, 2) := by decide +kernel
theorem dd_H_fair_117 : decode prog_1_method_22_code 117 = .ok (.ireturn, 1) := by decide +kernel
theorem dd_H_swap_0 : decode prog_1_method_23_code 0 = .ok (.iload_n 1, 1) := by decide +kernel
theorem dd_H_swap_1 : decode prog_1_method_23_code 1 = .ok (.iconst 0, 1) := by decide +kernel
theorem dd_H_swap_2 : decode prog_1_method_23_code 2 = .ok (.bipush 60, 2) := by decide +kernel
theorem dd_H_swap_4 : decode prog_1_method_23_code 4 = .ok (.invokestatic 66, 3) := by decide +kernel
theorem dd_H_swap_7 : decode prog_1_method_23_code 7 = .ok (.ifCond .eq 12, 3) := by decide +kernel
theorem dd_H_swap_10 : decode prog_1_method_23_code 10 = .ok (.iload_n 2, 1) := by decide +kernel
theorem dd_H_swap_11 : decode prog_1_method_23_code 11 = .ok (.iconst 0, 1) := by decide +kernel
theorem dd_H_swap_12 : decode prog_1_method_23_code 12 = .ok (.iconst 1, 1) := by decide +kernel
theorem dd_H_swap_13 : decode prog_1_method_23_code 13 = .ok (.invokestatic 66, 3) := by decide +kernel
theorem dd_H_swap_16 : decode prog_1_method_23_code 16 = .ok (.ifCond .ne 5, 3) := by decide +kernel
theorem dd_H_swap_19 : decode prog_1_method_23_code 19 = .ok (.iconst (-1), 1) := by decide +kernel
theorem dd_H_swap_20 : decode prog_1_method_23_code 20 = .ok (.ireturn, 1) := by decide +kernel
theorem dd_H_swap_21 : decode prog_1_method_23_code 21 = .ok (.bipush (-4), 2) := by decide +kernel
theorem dd_H_swap_23 : decode prog_1_method_23_code 23 = .ok (.istore_n 3, 1) := by decide +kernel
theorem dd_H_swap_24 : decode prog_1_method_23_code 24 = .ok (.aload_n 0, 1) := by decide +kernel
theorem dd_H_swap_25 : decode prog_1_method_23_code 25 = .ok (.iload_n 1, 1) := by decide +kernel
theorem dd_H_swap_26 : decode prog_1_method_23_code 26 = .ok (.invokevirtual 215, 3) := by decide +kernel
theorem dd_H_swap_29 : decode prog_1_method_23_code 29 = .ok (.istore 4, 2) := by decide +kernel
theorem dd_H_swap_31 : decode prog_1_method_23_code 31 = .ok (.iconst 0, 1) := by decide +kernel
theorem dd_H_swap_32 : decode prog_1_method_23_code 32 = .ok (.istore 5, 2) := by decide +kernel
theorem dd_H_swap_34 : decode prog_1_method_23_code 34 = .ok (.iload 5, 2) := by decide +kernel
theorem dd_H_swap_36 : decode prog_1_method_23_code 36 = .ok (.aload_n 0, 1) := by decide +kernel
theorem dd_H_swap_37 : decode prog_1_method_23_code 37 = .ok (.getfield 10, 3) := by decide +kernel
theorem dd_H_swap_40 : decode prog_1_method_23_code 40 = .ok (.getfield 94, 3) := by decide +kernel
theorem dd_H_swap_43 : decode prog_1_method_23_code 43 = .ok (.if_icmp .ge 93, 3) := by decide +kernel
theorem dd_H_swap_46 : decode prog_1_method_23_code 46 = .ok (.iload 5, 2) := by decide +kernel
theorem dd_H_swap_48 : decode prog_1_method_23_code 48 = .ok (.iconst 1, 1) := by decide +kernel
theorem dd_H_swap_49 : decode prog_1_method_23_code 49 = .ok (.iadd, 1) := by decide +kernel
theorem dd_H_swap_50 : decode prog_1_method_23_code 50 = .ok (.istore 6, 2) := by decide +kernel
theorem dd_H_swap_52 : decode prog_1_method_23_code 52 = .ok (.iload 6, 2) := by decide +kernel
theorem dd_H_swap_54 : decode prog_1_method_23_code 54 = .ok (.aload_n 0, 1) := by decide +kernel
theorem dd_H_swap_55 : decode prog_1_method_23_code 55 = .ok (.getfield 10, 3) := by decide +kernel
theorem dd_H_swap_58 : decode prog_1_method_23_code 58 = .ok (.getfield 94, 3) := by decide +kernel
theorem dd_H_swap_61 : decode prog_1_method_23_code 61 = .ok (.if_icmp .ge 69, 3) := by decide +kernel
theorem dd_H_swap_64 : decode prog_1_method_23_code 64 = .ok (.aload_n 0, 1) := by decide +kernel
theorem dd_H_swap_65 : decode prog_1_method_23_code 65 = .ok (.getfield 16, 3) := by decide +kernel
theorem dd_H_swap_68 : decode prog_1_method_23_code 68 = .ok (.aload_n 0, 1) := by decide +kernel
theorem dd_H_swap_69 : decode prog_1_method_23_code 69 = .ok (.getfield 10, 3) := by decide +kernel
theorem dd_H_swap_72 : decode prog_1_method_23_code 72 = .ok (.invokevirtual 87, 3) := by decide +kernel
theorem dd_H_swap_75 : decode prog_1_method_23_code 75 = .ok (.aload_n 0, 1) := by decide +kernel
theorem dd_H_swap_76 : decode prog_1_method_23_code 76 = .ok (.getfield 16, 3) := by decide +kernel
theorem dd_H_swap_79 : decode prog_1_method_23_code 79 = .ok (.iload 5, 2) := by decide +kernel
theorem dd_H_swap_81 : decode prog_1_method_23_code 81 = .ok (.iload 6, 2) := by decide +kernel
theorem dd_H_swap_83 : decode prog_1_method_23_code 83 = .ok (.invokevirtual 218, 3) := by decide +kernel
theorem dd_H_swap_86 : decode prog_1_method_23_code 86 = .ok (.aload_n 0, 1) := by decide +kernel
theorem dd_H_swap_87 : decode prog_1_method_23_code 87 = .ok (.getfield 16, 3) := by decide +kernel
theorem dd_H_swap_90 : decode prog_1_method_23_code 90 = .ok (.iload_n 1, 1) := by decide +kernel
theorem dd_H_swap_91 : decode prog_1_method_23_code 91 = .ok (.invokevirtual 187, 3) := by decide +kernel
theorem dd_H_swap_94 : decode prog_1_method_23_code 94 = .ok (.aload_n 0, 1) := by decide +kernel
theorem dd_H_swap_95 : decode prog_1_method_23_code 95 = .ok (.getfield 16, 3) := by decide +kernel
theorem dd_H_swap_98 : decode prog_1_method_23_code 98 = .ok (.invokevirtual 110, 3) := by decide +kernel
theorem dd_H_swap_101 : decode prog_1_method_23_code 101 = .ok (.iload 4, 2) := by decide +kernel
theorem dd_H_swap_103 : decode prog_1_method_23_code 103 = .ok (.if_icmp .le 21, 3) := by decide +kernel
theorem dd_H_swap_106 : decode prog_1_method_23_code 106 = .ok (.bipush 10, 2) := by decide +kernel
theorem dd_H_swap_108 : decode prog_1_method_23_code 108 = .ok (.iload 5, 2) := by decide +kernel
theorem dd_H_swap_110 : decode prog_1_method_23_code 110 = .ok (.imul, 1) := by decide +kernel
theorem dd_H_swap_111 : decode prog_1_method_23_code 111 = .ok (.iload 6, 2) := by decide +kernel
theorem dd_H_swap_113 : decode prog_1_method_23_code 113 = .ok (.iadd, 1) := by decide +kernel
theorem dd_H_swap_114 : decode prog_1_method_23_code 114 = .ok (.istore_n 3, 1) := by decide +kernel
theorem dd_H_swap_115 : decode prog_1_method_23_code 115 = .ok (.aload_n 0, 1) := by decide +kernel
theorem dd_H_swap_116 : decode prog_1_method_23_code 116 = .ok (.getfield 16, 3) := by decide +kernel
theorem dd_H_swap_119 : decode prog_1_method_23_code 119 = .ok (.invokevirtual 110, 3) := by decide +kernel
theorem dd_H_swap_122 : decode prog_1_method_23_code 122 = .ok (.istore 4, 2) := by decide +kernel
theorem dd_H_swap_124 : decode prog_1_method_23_code 124 = .ok (.iinc 6 1, 3) := by decide +kernel
theorem dd_H_swap_127 : decode prog_1_method_23_code 127 = .ok (.goto (-75), 3) := by decide +kernel
theorem dd_H_swap_130 : decode prog_1_method_23_code 130 = .ok (.iinc 5 1, 3) := by decide +kernel
theorem dd_H_swap_133 : decode prog_1_method_23_code 133 = .ok (.goto (-99), 3) := by decide +kernel
theorem dd_H_swap_136 : decode prog_1_method_23_code 136 = .ok (.aload_n 0, 1) := by decide +kernel
theorem dd_H_swap_137 : decode prog_1_method_23_code 137 = .ok (.iload_n 3, 1) := by decide +kernel
theorem dd_H_swap_138 : decode prog_1_method_23_code 138 = .ok (.iload 4, 2) := by decide +kernel
theorem dd_H_swap_140 : decode prog_1_method_23_code 140 = .ok (.iload_n 2, 1) := by decide +kernel
theorem dd_H_swap_141 : decode prog_1_method_23_code 141 = .ok (.invokevirtual 222, 3) := by decide +kernel
theorem dd_H_swap_144 : decode prog_1_method_23_code 144 = .ok (.ireturn, 1) := by decide +kernel
theorem dd_H_lose_0 : decode prog_1_method_24_code 0 = .ok (.iload_n 1, 1) := by decide +kernel
theorem dd_H_lose_1 : decode prog_1_method_24_code 1 = .ok (.iconst 0, 1) := by decide +kernel
theorem dd_H_lose_2 : decode prog_1_method_24_code 2 = .ok (.bipush 60, 2) := by decide +kernel
theorem dd_H_lose_4 : decode prog_1_method_24_code 4 = .ok (.invokestatic 66, 3) := by decide +kernel
theorem dd_H_lose_7 : decode prog_1_method_24_code 7 = .ok (.ifCond .eq 12, 3) := by decide +kernel
theorem dd_H_lose_10 : decode prog_1_method_24_code 10 = .ok (.iload_n 2, 1) := by decide +kernel
theorem dd_H_lose_11 : decode prog_1_method_24_code 11 = .ok (.iconst 0, 1) := by decide +kernel
theorem dd_H_lose_12 : decode prog_1_method_24_code 12 = .ok (.iconst 1, 1) := by decide +kernel
theorem dd_H_lose_13 : decode prog_1_method_24_code 13 = .ok (.invokestatic 66, 3) := by decide +kernel
theorem dd_H_lose_16 : decode prog_1_method_24_code 16 = .ok (.ifCond .ne 5, 3) := by decide +kernel
theorem dd_H_lose_19 : decode prog_1_method_24_code 19 = .ok (.iconst (-1), 1) := by decide +kernel
theorem dd_H_lose_20 : decode prog_1_method_24_code 20 = .ok (.ireturn, 1) := by decide +kernel
theorem dd_H_lose_21 : decode prog_1_method_24_code 21 = .ok (.bipush (-4), 2) := by decide +kernel
theorem dd_H_lose_23 : decode prog_1_method_24_code 23 = .ok (.istore_n 3, 1) := by decide +kernel
theorem dd_H_lose_24 : decode prog_1_method_24_code 24 = .ok (.aload_n 0, 1) := by decide +kernel
theorem dd_H_lose_25 : decode prog_1_method_24_code 25 = .ok (.iload_n 1, 1) := by decide +kernel
theorem dd_H_lose_26 : decode prog_1_method_24_code 26 = .ok (.invokevirtual 215, 3) := by decide +kernel
theorem dd_H_lose_29 : decode prog_1_method_24_code 29 = .ok (.istore 4, 2) := by decide +kernel
theorem dd_H_lose_31 : decode prog_1_method_24_code 31 = .ok (.iconst 0, 1) := by decide +kernel
theorem dd_H_lose_32 : decode prog_1_method_24_code 32 = .ok (.istore 5, 2) := by decide +kernel
theorem dd_H_lose_34 : decode prog_1_method_24_code 34 = .ok (.iload 5, 2) := by decide +kernel
theorem dd_H_lose_36 : decode prog_1_method_24_code 36 = .ok (.aload_n 0, 1) := by decide +kernel
theorem dd_H_lose_37 : decode prog_1_method_24_code 37 = .ok (.getfield 10, 3) := by decide +kernel
theorem dd_H_lose_40 : decode prog_1_method_24_code 40 = .ok (.getfield 91, 3) := by decide +kernel
theorem dd_H_lose_43 : decode prog_1_method_24_code 43 = .ok (.if_icmp .ge 82, 3) := by decide +kernel
theorem dd_H_lose_46 : decode prog_1_method_24_code 46 = .ok (.aload_n 0, 1) := by decide +kernel
theorem dd_H_lose_47 : decode prog_1_method_24_code 47 = .ok (.getfield 10, 3) := by decide +kernel
theorem dd_H_lose_50 : decode prog_1_method_24_code 50 = .ok (.getfield 117, 3) := by decide +kernel
theorem dd_H_lose_53 : decode prog_1_method_24_code 53 = .ok (.iload 5, 2) := by decide +kernel
theorem dd_H_lose_55 : decode prog_1_method_24_code 55 = .ok (.aaload, 1) := by decide +kernel
theorem dd_H_lose_56 : decode prog_1_method_24_code 56 = .ok (.getfield 132, 3) := by decide +kernel
theorem dd_H_lose_59 : decode prog_1_method_24_code 59 = .ok (.ifCond .ne 60, 3) := by decide +kernel
theorem dd_H_lose_62 : decode prog_1_method_24_code 62 = .ok (.aload_n 0, 1) := by decide +kernel
theorem dd_H_lose_63 : decode prog_1_method_24_code 63 = .ok (.getfield 16, 3) := by decide +kernel
theorem dd_H_lose_66 : decode prog_1_method_24_code 66 = .ok (.aload_n 0, 1) := by decide +kernel
theorem dd_H_lose_67 : decode prog_1_method_24_code 67 = .ok (.getfield 10, 3) := by decide +kernel
theorem dd_H_lose_70 : decode prog_1_method_24_code 70 = .ok (.invokevirtual 87, 3) := by decide +kernel
theorem dd_H_lose_73 : decode prog_1_method_24_code 73 = .ok (.aload_n 0, 1) := by decide +kernel
theorem dd_H_lose_74 : decode prog_1_method_24_code 74 = .ok (.getfield 16, 3) := by decide +kernel
theorem dd_H_lose_77 : decode prog_1_method_24_code 77 = .ok (.getfield 117, 3) := by decide +kernel
theorem dd_H_lose_80 : decode prog_1_method_24_code 80 = .ok (.iload 5, 2) := by decide +kernel
theorem dd_H_lose_82 : decode prog_1_method_24_code 82 = .ok (.aaload, 1) := by decide +kernel
theorem dd_H_lose_83 : decode prog_1_method_24_code 83 = .ok (.iconst 1, 1) := by decide +kernel
theorem dd_H_lose_84 : decode prog_1_method_24_code 84 = .ok (.putfield 132, 3) := by decide +kernel
theorem dd_H_lose_87 : decode prog_1_method_24_code 87 = .ok (.aload_n 0, 1) := by decide +kernel
theorem dd_H_lose_88 : decode prog_1_method_24_code 88 = .ok (.getfield 16, 3) := by decide +kernel
theorem dd_H_lose_91 : decode prog_1_method_24_code 91 = .ok (.iload_n 1, 1) := by decide +kernel
theorem dd_H_lose_92 : decode prog_1_method_24_code 92 = .ok (.invokevirtual 187, 3) := by decide +kernel
theorem dd_H_lose_95 : decode prog_1_method_24_code 95 = .ok (.aload_n 0, 1) := by decide +kernel
theorem dd_H_lose_96 : decode prog_1_method_24_code 96 = .ok (.getfield 16, 3) := by decide +kernel
theorem dd_H_lose_99 : decode prog_1_method_24_code 99 = .ok (.invokevirtual 110, 3) := by decide +kernel
theorem dd_H_lose_102 : decode prog_1_method_24_code 102 = .ok (.iload 4, 2) := by decide +kernel
theorem dd_H_lose_104 : decode prog_1_method_24_code 104 = .ok (.if_icmp .le 15, 3) := by decide +kernel
theorem dd_H_lose_107 : decode prog_1_method_24_code 107 = .ok (.iload 5, 2) := by decide +kernel
theorem dd_H_lose_109 : decode prog_1_method_24_code 109 = .ok (.istore_n 3, 1) := by decide +kernel
theorem dd_H_lose_110 : decode prog_1_method_24_code 110 = .ok (.aload_n 0, 1) := by decide +kernel
theorem dd_H_lose_111 : decode prog_1_method_24_code 111 = .ok (.getfield 16, 3) := by decide +kernel
theorem dd_H_lose_114 : decode prog_1_method_24_code 114 = .ok (.invokevirtual 110, 3) := by decide +kernel
theorem dd_H_lose_117 : decode prog_1_method_24_code 117 = .ok (.istore 4, 2) := by decide +kernel
theorem dd_H_lose_119 : decode prog_1_method_24_code 119 = .ok (.iinc 5 1, 3) := by decide +kernel
theorem dd_H_lose_122 : decode prog_1_method_24_code 122 = .ok (.goto (-88), 3) := by decide +kernel
theorem dd_H_lose_125 : decode prog_1_method_24_code 125 = .ok (.aload_n 0, 1) := by decide +kernel
theorem dd_H_lose_126 : decode prog_1_method_24_code 126 = .ok (.iload_n 3, 1) := by decide +kernel
theorem dd_H_lose_127 : decode prog_1_method_24_code 127 = .ok (.iload 4, 2) := by decide +kernel
theorem dd_H_lose_129 : decode prog_1_method_24_code 129 = .ok (.iload_n 2, 1) := by decide +kernel
theorem dd_H_lose_130 : decode prog_1_method_24_code 130 = .ok (.invokevirtual 222, 3) := by decide +kernel
theorem dd_H_lose_133 : decode prog_1_method_24_code 133 = .ok (.ireturn, 1) := by decide +kernel
theorem dd_H_price_0 : decode prog_1_method_25_code 0 = .ok (.aload_n 0, 1) := by decide +kernel
theorem dd_H_price_1 : decode prog_1_method_25_code 1 = .ok (.iload_n 1, 1) := by decide +kernel
theorem dd_H_price_2 : decode prog_1_method_25_code 2 = .ok (.invokevirtual 113, 3) := by decide +kernel
theorem dd_H_price_5 : decode prog_1_method_25_code 5 = .ok (.ifCond .ne 5, 3) := by decide +kernel
theorem dd_H_price_8 : decode prog_1_method_25_code 8 = .ok (.iconst (-1), 1) := by decide +kernel
theorem dd_H_price_9 : decode prog_1_method_25_code 9 = .ok (.ireturn, 1) := by decide +kernel
theorem dd_H_price_10 : decode prog_1_method_25_code 10 = .ok (.iconst 0, 1) := by decide +kernel
theorem dd_H_price_11 : decode prog_1_method_25_code 11 = .ok (.istore_n 2, 1) := by decide +kernel
theorem dd_H_price_12 : decode prog_1_method_25_code 12 = .ok (.iload_n 2, 1) := by decide +kernel
theorem dd_H_price_13 : decode prog_1_method_25_code 13 = .ok (.bipush 9, 2) := by decide +kernel
theorem dd_H_price_15 : decode prog_1_method_25_code 15 = .ok (.if_icmp .gt 81, 3) := by decide +kernel
theorem dd_H_price_18 : decode prog_1_method_25_code 18 = .ok (.aload_n 0, 1) := by decide +kernel
theorem dd_H_price_19 : decode prog_1_method_25_code 19 = .ok (.getfield 16, 3) := by decide +kernel
theorem dd_H_price_22 : decode prog_1_method_25_code 22 = .ok (.aload_n 0, 1) := by decide +kernel
theorem dd_H_price_23 : decode prog_1_method_25_code 23 = .ok (.getfield 10, 3) := by decide +kernel
theorem dd_H_price_26 : decode prog_1_method_25_code 26 = .ok (.invokevirtual 87, 3) := by decide +kernel
theorem dd_H_price_29 : decode prog_1_method_25_code 29 = .ok (.aload_n 0, 1) := by decide +kernel
theorem dd_H_price_30 : decode prog_1_method_25_code 30 = .ok (.getfield 16, 3) := by decide +kernel
theorem dd_H_price_33 : decode prog_1_method_25_code 33 = .ok (.getfield 117, 3) := by decide +kernel
theorem dd_H_price_36 : decode prog_1_method_25_code 36 = .ok (.iload_n 1, 1) := by decide +kernel
theorem dd_H_price_37 : decode prog_1_method_25_code 37 = .ok (.aaload, 1) := by decide +kernel
theorem dd_H_price_38 : decode prog_1_method_25_code 38 = .ok (.aload_n 0, 1) := by decide +kernel
theorem dd_H_price_39 : decode prog_1_method_25_code 39 = .ok (.getfield 10, 3) := by decide +kernel
theorem dd_H_price_42 : decode prog_1_method_25_code 42 = .ok (.getfield 117, 3) := by decide +kernel
theorem dd_H_price_45 : decode prog_1_method_25_code 45 = .ok (.iload_n 1, 1) := by decide +kernel
theorem dd_H_price_46 : decode prog_1_method_25_code 46 = .ok (.aaload, 1) := by decide +kernel
theorem dd_H_price_47 : decode prog_1_method_25_code 47 = .ok (.getfield 121, 3) := by decide +kernel
theorem dd_H_price_50 : decode prog_1_method_25_code 50 = .ok (.aload_n 0, 1) := by decide +kernel
theorem dd_H_price_51 : decode prog_1_method_25_code 51 = .ok (.getfield 10, 3) := by decide +kernel
theorem dd_H_price_54 : decode prog_1_method_25_code 54 = .ok (.getfield 117, 3) := by decide +kernel
theorem dd_H_price_57 : decode prog_1_method_25_code 57 = .ok (.iload_n 1, 1) := by decide +kernel
theorem dd_H_price_58 : decode prog_1_method_25_code 58 = .ok (.aaload, 1) := by decide +kernel
theorem dd_H_price_59 : decode prog_1_method_25_code 59 = .ok (.getfield 126, 3) := by decide +kernel
theorem dd_H_price_62 : decode prog_1_method_25_code 62 = .ok (.iload_n 2, 1) := by decide +kernel
theorem dd_H_price_63 : decode prog_1_method_25_code 63 = .ok (.invokevirtual 170, 3) := by decide +kernel
theorem dd_H_price_66 : decode prog_1_method_25_code 66 = .ok (.aload_n 0, 1) := by decide +kernel
theorem dd_H_price_67 : decode prog_1_method_25_code 67 = .ok (.getfield 16, 3) := by decide +kernel
theorem dd_H_price_70 : decode prog_1_method_25_code 70 = .ok (.iconst 0, 1) := by decide +kernel
theorem dd_H_price_71 : decode prog_1_method_25_code 71 = .ok (.invokevirtual 157, 3) := by decide +kernel
theorem dd_H_price_74 : decode prog_1_method_25_code 74 = .ok (.aload_n 0, 1) := by decide +kernel
theorem dd_H_price_75 : decode prog_1_method_25_code 75 = .ok (.getfield 16, 3) := by decide +kernel
theorem dd_H_price_78 : decode prog_1_method_25_code 78 = .ok (.getfield 202, 3) := by decide +kernel
theorem dd_H_price_81 : decode prog_1_method_25_code 81 = .ok (.iload_n 1, 1) := by decide +kernel
theorem dd_H_price_82 : decode prog_1_method_25_code 82 = .ok (.invokestatic 205, 3) := by decide +kernel
theorem dd_H_price_85 : decode prog_1_method_25_code 85 = .ok (.ifCond .eq 5, 3) := by decide +kernel
theorem dd_H_price_88 : decode prog_1_method_25_code 88 = .ok (.iload_n 2, 1) := by decide +kernel
theorem dd_H_price_89 : decode prog_1_method_25_code 89 = .ok (.ireturn, 1) := by decide +kernel
theorem dd_H_price_90 : decode prog_1_method_25_code 90 = .ok (.iinc 2 1, 3) := by decide +kernel
theorem dd_H_price_93 : decode prog_1_method_25_code 93 = .ok (.goto (-81), 3) := by decide +kernel
theorem dd_H_price_96 : decode prog_1_method_25_code 96 = .ok (.bipush (-4), 2) := by decide +kernel
theorem dd_H_price_98 : decode prog_1_method_25_code 98 = .ok (.ireturn, 1) := by decide +kernel
theorem dd_H_kind_0 : decode prog_1_method_26_code 0 = .ok (.aload_n 0, 1) := by decide +kernel
theorem dd_H_kind_1 : decode prog_1_method_26_code 1 = .ok (.iload_n 1, 1) := by decide +kernel
theorem dd_H_kind_2 : decode prog_1_method_26_code 2 = .ok (.invokevirtual 113, 3) := by decide +kernel
theorem dd_H_kind_5 : decode prog_1_method_26_code 5 = .ok (.ifCond .eq 22, 3) := by decide +kernel
theorem dd_H_kind_8 : decode prog_1_method_26_code 8 = .ok (.iload_n 2, 1) := by decide +kernel
theorem dd_H_kind_9 : decode prog_1_method_26_code 9 = .ok (.iconst 0, 1) := by decide +kernel
theorem dd_H_kind_10 : decode prog_1_method_26_code 10 = .ok (.bipush 60, 2) := by decide +kernel
theorem dd_H_kind_12 : decode prog_1_method_26_code 12 = .ok (.invokestatic 66, 3) := by decide +kernel
theorem dd_H_kind_15 : decode prog_1_method_26_code 15 = .ok (.ifCond .eq 12, 3) := by decide +kernel
theorem dd_H_kind_18 : decode prog_1_method_26_code 18 = .ok (.iload_n 3, 1) := by decide +kernel
theorem dd_H_kind_19 : decode prog_1_method_26_code 19 = .ok (.iconst 0, 1) := by decide +kernel
theorem dd_H_kind_20 : decode prog_1_method_26_code 20 = .ok (.iconst 1, 1) := by decide +kernel
theorem dd_H_kind_21 : decode prog_1_method_26_code 21 = .ok (.invokestatic 66, 3) := by decide +kernel
theorem dd_H_kind_24 : decode prog_1_method_26_code 24 = .ok (.ifCond .ne 5, 3) := by decide +kernel
theorem dd_H_kind_27 : decode prog_1_method_26_code 27 = .ok (.iconst (-1), 1) := by decide +kernel
theorem dd_H_kind_28 : decode prog_1_method_26_code 28 = .ok (.ireturn, 1) := by decide +kernel
theorem dd_H_kind_29 : decode prog_1_method_26_code 29 = .ok (.bipush (-4), 2) := by decide +kernel
theorem dd_H_kind_31 : decode prog_1_method_26_code 31 = .ok (.istore 4, 2) := by decide +kernel
theorem dd_H_kind_33 : decode prog_1_method_26_code 33 = .ok (.iconst (-1), 1) := by decide +kernel
theorem dd_H_kind_34 : decode prog_1_method_26_code 34 = .ok (.istore 5, 2) := by decide +kernel
theorem dd_H_kind_36 : decode prog_1_method_26_code 36 = .ok (.iconst 0, 1) := by decide +kernel
theorem dd_H_kind_37 : decode prog_1_method_26_code 37 = .ok (.istore 6, 2) := by decide +kernel
theorem dd_H_kind_39 : decode prog_1_method_26_code 39 = .ok (.iload 6, 2) := by decide +kernel
theorem dd_H_kind_41 : decode prog_1_method_26_code 41 = .ok (.iconst 3, 1) := by decide +kernel
theorem dd_H_kind_42 : decode prog_1_method_26_code 42 = .ok (.if_icmp .gt 49, 3) := by decide +kernel
theorem dd_H_kind_45 : decode prog_1_method_26_code 45 = .ok (.aload_n 0, 1) := by decide +kernel
theorem dd_H_kind_46 : decode prog_1_method_26_code 46 = .ok (.iload_n 1, 1) := by decide +kernel
theorem dd_H_kind_47 : decode prog_1_method_26_code 47 = .ok (.iload 6, 2) := by decide +kernel
theorem dd_H_kind_49 : decode prog_1_method_26_code 49 = .ok (.invokevirtual 226, 3) := by decide +kernel
theorem dd_H_kind_52 : decode prog_1_method_26_code 52 = .ok (.aload_n 0, 1) := by decide +kernel
theorem dd_H_kind_53 : decode prog_1_method_26_code 53 = .ok (.getfield 16, 3) := by decide +kernel
theorem dd_H_kind_56 : decode prog_1_method_26_code 56 = .ok (.iload_n 2, 1) := by decide +kernel
theorem dd_H_kind_57 : decode prog_1_method_26_code 57 = .ok (.invokevirtual 187, 3) := by decide +kernel
theorem dd_H_kind_60 : decode prog_1_method_26_code 60 = .ok (.aload_n 0, 1) := by decide +kernel
theorem dd_H_kind_61 : decode prog_1_method_26_code 61 = .ok (.getfield 16, 3) := by decide +kernel
theorem dd_H_kind_64 : decode prog_1_method_26_code 64 = .ok (.invokevirtual 110, 3) := by decide +kernel
theorem dd_H_kind_67 : decode prog_1_method_26_code 67 = .ok (.iload 5, 2) := by decide +kernel
theorem dd_H_kind_69 : decode prog_1_method_26_code 69 = .ok (.if_icmp .le 16, 3) := by decide +kernel
theorem dd_H_kind_72 : decode prog_1_method_26_code 72 = .ok (.iload 6, 2) := by decide +kernel
theorem dd_H_kind_74 : decode prog_1_method_26_code 74 = .ok (.istore 4, 2) := by decide +kernel
theorem dd_H_kind_76 : decode prog_1_method_26_code 76 = .ok (.aload_n 0, 1) := by decide +kernel
theorem dd_H_kind_77 : decode prog_1_method_26_code 77 = .ok (.getfield 16, 3) := by decide +kernel
theorem dd_H_kind_80 : decode prog_1_method_26_code 80 = .ok (.invokevirtual 110, 3) := by decide +kernel
theorem dd_H_kind_83 : decode prog_1_method_26_code 83 = .ok (.istore 5, 2) := by decide +kernel
theorem dd_H_kind_85 : decode prog_1_method_26_code 85 = .ok (.iinc 6 1, 3) := by decide +kernel
theorem dd_H_kind_88 : decode prog_1_method_26_code 88 = .ok (.goto (-49), 3) := by decide +kernel
theorem dd_H_kind_91 : decode prog_1_method_26_code 91 = .ok (.aload_n 0, 1) := by decide +kernel
theorem dd_H_kind_92 : decode prog_1_method_26_code 92 = .ok (.iload 4, 2) := by decide +kernel
theorem dd_H_kind_94 : decode prog_1_method_26_code 94 = .ok (.iload 5, 2) := by decide +kernel
theorem dd_H_kind_96 : decode prog_1_method_26_code 96 = .ok (.iload_n 3, 1) := by decide +kernel
theorem dd_H_kind_97 : decode prog_1_method_26_code 97 = .ok (.invokevirtual 222, 3) := by decide +kernel
theorem dd_H_kind_100 : decode prog_1_method_26_code 100 = .ok (.ireturn, 1) := by decide +kernel
theorem dd_H_luck_0 : decode prog_1_method_27_code 0 = .ok (.iload_n 1, 1) := by decide +kernel
theorem dd_H_luck_1 : decode prog_1_method_27_code 1 = .ok (.iconst 0, 1) := by decide +kernel
theorem dd_H_luck_2 : decode prog_1_method_27_code 2 = .ok (.bipush 10, 2) := by decide +kernel
theorem dd_H_luck_4 : decode prog_1_method_27_code 4 = .ok (.invokestatic 66, 3) := by decide +kernel
theorem dd_H_luck_7 : decode prog_1_method_27_code 7 = .ok (.ifCond .eq 20, 3) := by decide +kernel
theorem dd_H_luck_10 : decode prog_1_method_27_code 10 = .ok (.aload_n 0, 1) := by decide +kernel
theorem dd_H_luck_11 : decode prog_1_method_27_code 11 = .ok (.iload_n 2, 1) := by decide +kernel
theorem dd_H_luck_12 : decode prog_1_method_27_code 12 = .ok (.invokevirtual 113, 3) := by decide +kernel
theorem dd_H_luck_15 : decode prog_1_method_27_code 15 = .ok (.ifCond .eq 12, 3) := by decide +kernel
theorem dd_H_luck_18 : decode prog_1_method_27_code 18 = .ok (.iload_n 3, 1) := by decide +kernel
theorem dd_H_luck_19 : decode prog_1_method_27_code 19 = .ok (.iconst 0, 1) := by decide +kernel
theorem dd_H_luck_20 : decode prog_1_method_27_code 20 = .ok (.iconst 1, 1) := by decide +kernel
theorem dd_H_luck_21 : decode prog_1_method_27_code 21 = .ok (.invokestatic 66, 3) := by decide +kernel
theorem dd_H_luck_24 : decode prog_1_method_27_code 24 = .ok (.ifCond .ne 7, 3) := by decide +kernel
theorem dd_H_luck_27 : decode prog_1_method_27_code 27 = .ok (.ldc2_w 229, 3) := by decide +kernel
theorem dd_H_luck_30 : decode prog_1_method_27_code 30 = .ok (.lreturn, 1) := by decide +kernel
theorem dd_H_luck_31 : decode prog_1_method_27_code 31 = .ok (.lconst 0, 1) := by decide +kernel
theorem dd_H_luck_32 : decode prog_1_method_27_code 32 = .ok (.lstore 4, 2) := by decide +kernel
theorem dd_H_luck_34 : decode prog_1_method_27_code 34 = .ok (.iconst 0, 1) := by decide +kernel
theorem dd_H_luck_35 : decode prog_1_method_27_code 35 = .ok (.istore 6, 2) := by decide +kernel
theorem dd_H_luck_37 : decode prog_1_method_27_code 37 = .ok (.iload 6, 2) := by decide +kernel
theorem dd_H_luck_39 : decode prog_1_method_27_code 39 = .ok (.aload_n 0, 1) := by decide +kernel
theorem dd_H_luck_40 : decode prog_1_method_27_code 40 = .ok (.invokevirtual 231, 3) := by decide +kernel
theorem dd_H_luck_43 : decode prog_1_method_27_code 43 = .ok (.if_icmp .ge 55, 3) := by decide +kernel
theorem dd_H_luck_46 : decode prog_1_method_27_code 46 = .ok (.aload_n 0, 1) := by decide +kernel
theorem dd_H_luck_47 : decode prog_1_method_27_code 47 = .ok (.getfield 16, 3) := by decide +kernel
theorem dd_H_luck_50 : decode prog_1_method_27_code 50 = .ok (.aload_n 0, 1) := by decide +kernel
theorem dd_H_luck_51 : decode prog_1_method_27_code 51 = .ok (.getfield 10, 3) := by decide +kernel
theorem dd_H_luck_54 : decode prog_1_method_27_code 54 = .ok (.invokevirtual 87, 3) := by decide +kernel
theorem dd_H_luck_57 : decode prog_1_method_27_code 57 = .ok (.aload_n 0, 1) := by decide +kernel
theorem dd_H_luck_58 : decode prog_1_method_27_code 58 = .ok (.getfield 16, 3) := by decide +kernel
theorem dd_H_luck_61 : decode prog_1_method_27_code 61 = .ok (.iload 6, 2) := by decide +kernel
theorem dd_H_luck_63 : decode prog_1_method_27_code 63 = .ok (.invokevirtual 157, 3) := by decide +kernel
theorem dd_H_luck_66 : decode prog_1_method_27_code 66 = .ok (.aload_n 0, 1) := by decide +kernel
theorem dd_H_luck_67 : decode prog_1_method_27_code 67 = .ok (.getfield 16, 3) := by decide +kernel
theorem dd_H_luck_70 : decode prog_1_method_27_code 70 = .ok (.getfield 202, 3) := by decide +kernel
theorem dd_H_luck_73 : decode prog_1_method_27_code 73 = .ok (.iload_n 2, 1) := by decide +kernel
theorem dd_H_luck_74 : decode prog_1_method_27_code 74 = .ok (.invokestatic 205, 3) := by decide +kernel
theorem dd_H_luck_77 : decode prog_1_method_27_code 77 = .ok (.ifCond .eq 15, 3) := by decide +kernel
theorem dd_H_luck_80 : decode prog_1_method_27_code 80 = .ok (.lload 4, 2) := by decide +kernel
theorem dd_H_luck_82 : decode prog_1_method_27_code 82 = .ok (.aload_n 0, 1) := by decide +kernel
theorem dd_H_luck_83 : decode prog_1_method_27_code 83 = .ok (.iload_n 1, 1) := by decide +kernel
theorem dd_H_luck_84 : decode prog_1_method_27_code 84 = .ok (.iload 6, 2) := by decide +kernel
theorem dd_H_luck_86 : decode prog_1_method_27_code 86 = .ok (.invokevirtual 234, 3) := by decide +kernel
theorem dd_H_luck_89 : decode prog_1_method_27_code 89 = .ok (.ladd, 1) := by decide +kernel
theorem dd_H_luck_90 : decode prog_1_method_27_code 90 = .ok (.lstore 4, 2) := by decide +kernel
theorem dd_H_luck_92 : decode prog_1_method_27_code 92 = .ok (.iinc 6 1, 3) := by decide +kernel
theorem dd_H_luck_95 : decode prog_1_method_27_code 95 = .ok (.goto (-58), 3) := by decide +kernel
theorem dd_H_luck_98 : decode prog_1_method_27_code 98 = .ok (.lload 4, 2) := by decide +kernel
theorem dd_H_luck_100 : decode prog_1_method_27_code 100 = .ok (.aload_n 0, 1) := by decide +kernel
theorem dd_H_luck_101 : decode prog_1_method_27_code 101 = .ok (.invokevirtual 238, 3) := by decide +kernel
theorem dd_H_luck_104 : decode prog_1_method_27_code 104 = .ok (.iload_n 3, 1) := by decide +kernel
theorem dd_H_luck_105 : decode prog_1_method_27_code 105 = .ok (.invokestatic 242, 3) := by decide +kernel
theorem dd_H_luck_108 : decode prog_1_method_27_code 108 = .ok (.lreturn, 1) := by decide +kernel
theorem dd_H_mean_0 : decode prog_1_method_28_code 0 = .ok (.iload_n 1, 1) := by decide +kernel
theorem dd_H_mean_1 : decode prog_1_method_28_code 1 = .ok (.iconst 0, 1) := by decide +kernel
theorem dd_H_mean_2 : decode prog_1_method_28_code 2 = .ok (.bipush 10, 2) := by decide +kernel
theorem dd_H_mean_4 : decode prog_1_method_28_code 4 = .ok (.invokestatic 66, 3) := by decide +kernel
theorem dd_H_mean_7 : decode prog_1_method_28_code 7 = .ok (.ifCond .eq 21, 3) := by decide +kernel
theorem dd_H_mean_10 : decode prog_1_method_28_code 10 = .ok (.iload_n 2, 1) := by decide +kernel
theorem dd_H_mean_11 : decode prog_1_method_28_code 11 = .ok (.iconst 0, 1) := by decide +kernel
theorem dd_H_mean_12 : decode prog_1_method_28_code 12 = .ok (.iconst 2, 1) := by decide +kernel
theorem dd_H_mean_13 : decode prog_1_method_28_code 13 = .ok (.invokestatic 66, 3) := by decide +kernel
theorem dd_H_mean_16 : decode prog_1_method_28_code 16 = .ok (.ifCond .eq 12, 3) := by decide +kernel
theorem dd_H_mean_19 : decode prog_1_method_28_code 19 = .ok (.iload_n 3, 1) := by decide +kernel
theorem dd_H_mean_20 : decode prog_1_method_28_code 20 = .ok (.iconst 0, 1) := by decide +kernel
theorem dd_H_mean_21 : decode prog_1_method_28_code 21 = .ok (.iconst 1, 1) := by decide +kernel
theorem dd_H_mean_22 : decode prog_1_method_28_code 22 = .ok (.invokestatic 66, 3) := by decide +kernel
theorem dd_H_mean_25 : decode prog_1_method_28_code 25 = .ok (.ifCond .ne 7, 3) := by decide +kernel
theorem dd_H_mean_28 : decode prog_1_method_28_code 28 = .ok (.ldc2_w 229, 3) := by decide +kernel
theorem dd_H_mean_31 : decode prog_1_method_28_code 31 = .ok (.lreturn, 1) := by decide +kernel
theorem dd_H_mean_32 : decode prog_1_method_28_code 32 = .ok (.lconst 0, 1) := by decide +kernel
theorem dd_H_mean_33 : decode prog_1_method_28_code 33 = .ok (.lstore 4, 2) := by decide +kernel
theorem dd_H_mean_35 : decode prog_1_method_28_code 35 = .ok (.lconst 1, 1) := by decide +kernel
theorem dd_H_mean_36 : decode prog_1_method_28_code 36 = .ok (.lstore 6, 2) := by decide +kernel
theorem dd_H_mean_38 : decode prog_1_method_28_code 38 = .ok (.iload_n 2, 1) := by decide +kernel
theorem dd_H_mean_39 : decode prog_1_method_28_code 39 = .ok (.iconst 1, 1) := by decide +kernel
theorem dd_H_mean_40 : decode prog_1_method_28_code 40 = .ok (.if_icmp .ne 23, 3) := by decide +kernel
theorem dd_H_mean_43 : decode prog_1_method_28_code 43 = .ok (.aload_n 0, 1) := by decide +kernel
theorem dd_H_mean_44 : decode prog_1_method_28_code 44 = .ok (.aload_n 0, 1) := by decide +kernel
theorem dd_H_mean_45 : decode prog_1_method_28_code 45 = .ok (.getfield 10, 3) := by decide +kernel
theorem dd_H_mean_48 : decode prog_1_method_28_code 48 = .ok (.iload_n 1, 1) := by decide +kernel
theorem dd_H_mean_49 : decode prog_1_method_28_code 49 = .ok (.invokevirtual 246, 3) := by decide +kernel
theorem dd_H_mean_52 : decode prog_1_method_28_code 52 = .ok (.lstore 4, 2) := by decide +kernel
theorem dd_H_mean_54 : decode prog_1_method_28_code 54 = .ok (.aload_n 0, 1) := by decide +kernel
theorem dd_H_mean_55 : decode prog_1_method_28_code 55 = .ok (.invokevirtual 238, 3) := by decide +kernel
theorem dd_H_mean_58 : decode prog_1_method_28_code 58 = .ok (.lstore 6, 2) := by decide +kernel
theorem dd_H_mean_60 : decode prog_1_method_28_code 60 = .ok (.goto 26, 3) := by decide +kernel
theorem dd_H_mean_63 : decode prog_1_method_28_code 63 = .ok (.iload_n 2, 1) := by decide +kernel
theorem dd_H_mean_64 : decode prog_1_method_28_code 64 = .ok (.iconst 2, 1) := by decide +kernel
theorem dd_H_mean_65 : decode prog_1_method_28_code 65 = .ok (.if_icmp .ne 21, 3) := by decide +kernel
theorem dd_H_mean_68 : decode prog_1_method_28_code 68 = .ok (.aload_n 0, 1) := by decide +kernel
theorem dd_H_mean_69 : decode prog_1_method_28_code 69 = .ok (.iload_n 1, 1) := by decide +kernel
theorem dd_H_mean_70 : decode prog_1_method_28_code 70 = .ok (.invokevirtual 250, 3) := by decide +kernel
theorem dd_H_mean_73 : decode prog_1_method_28_code 73 = .ok (.lstore 4, 2) := by decide +kernel
theorem dd_H_mean_75 : decode prog_1_method_28_code 75 = .ok (.aload_n 0, 1) := by decide +kernel
theorem dd_H_mean_76 : decode prog_1_method_28_code 76 = .ok (.invokevirtual 238, 3) := by decide +kernel
theorem dd_H_mean_79 : decode prog_1_method_28_code 79 = .ok (.aload_n 0, 1) := by decide +kernel
theorem dd_H_mean_80 : decode prog_1_method_28_code 80 = .ok (.invokevirtual 238, 3) := by decide +kernel
theorem dd_H_mean_83 : decode prog_1_method_28_code 83 = .ok (.lmul, 1) := by decide +kernel
theorem dd_H_mean_84 : decode prog_1_method_28_code 84 = .ok (.lstore 6, 2) := by decide +kernel
theorem dd_H_mean_86 : decode prog_1_method_28_code 86 = .ok (.lload 4, 2) := by decide +kernel
theorem dd_H_mean_88 : decode prog_1_method_28_code 88 = .ok (.lload 6, 2) := by decide +kernel
theorem dd_H_mean_90 : decode prog_1_method_28_code 90 = .ok (.iload_n 3, 1) := by decide +kernel
theorem dd_H_mean_91 : decode prog_1_method_28_code 91 = .ok (.invokestatic 242, 3) := by decide +kernel
theorem dd_H_mean_94 : decode prog_1_method_28_code 94 = .ok (.lreturn, 1) := by decide +kernel
theorem dd_H_see_0 : decode prog_1_method_29_code 0 = .ok (.iload_n 1, 1) := by decide +kernel
theorem dd_H_see_1 : decode prog_1_method_29_code 1 = .ok (.iconst 0, 1) := by decide +kernel
theorem dd_H_see_2 : decode prog_1_method_29_code 2 = .ok (.bipush 20, 2) := by decide +kernel
theorem dd_H_see_4 : decode prog_1_method_29_code 4 = .ok (.invokestatic 66, 3) := by decide +kernel
theorem dd_H_see_7 : decode prog_1_method_29_code 7 = .ok (.ifCond .eq 22, 3) := by decide +kernel
theorem dd_H_see_10 : decode prog_1_method_29_code 10 = .ok (.aload_n 0, 1) := by decide +kernel
theorem dd_H_see_11 : decode prog_1_method_29_code 11 = .ok (.iload_n 2, 1) := by decide +kernel
theorem dd_H_see_12 : decode prog_1_method_29_code 12 = .ok (.invokevirtual 142, 3) := by decide +kernel
theorem dd_H_see_15 : decode prog_1_method_29_code 15 = .ok (.ifCond .eq 14, 3) := by decide +kernel
theorem dd_H_see_18 : decode prog_1_method_29_code 18 = .ok (.iload_n 3, 1) := by decide +kernel
theorem dd_H_see_19 : decode prog_1_method_29_code 19 = .ok (.iconst 0, 1) := by decide +kernel
theorem dd_H_see_20 : decode prog_1_method_29_code 20 = .ok (.sipush 999, 3) := by decide +kernel
theorem dd_H_see_23 : decode prog_1_method_29_code 23 = .ok (.invokestatic 66, 3) := by decide +kernel
theorem dd_H_see_26 : decode prog_1_method_29_code 26 = .ok (.ifCond .ne 5, 3) := by decide +kernel
theorem dd_H_see_29 : decode prog_1_method_29_code 29 = .ok (.iconst (-1), 1) := by decide +kernel
theorem dd_H_see_30 : decode prog_1_method_29_code 30 = .ok (.ireturn, 1) := by decide +kernel
theorem dd_H_see_31 : decode prog_1_method_29_code 31 = .ok (.aload_n 0, 1) := by decide +kernel
theorem dd_H_see_32 : decode prog_1_method_29_code 32 = .ok (.getfield 54, 3) := by decide +kernel
theorem dd_H_see_35 : decode prog_1_method_29_code 35 = .ok (.bipush 6, 2) := by decide +kernel
theorem dd_H_see_37 : decode prog_1_method_29_code 37 = .ok (.if_icmp .lt 6, 3) := by decide +kernel
theorem dd_H_see_40 : decode prog_1_method_29_code 40 = .ok (.bipush (-3), 2) := by decide +kernel
theorem dd_H_see_42 : decode prog_1_method_29_code 42 = .ok (.ireturn, 1) := by decide +kernel
theorem dd_H_see_43 : decode prog_1_method_29_code 43 = .ok (.aload_n 0, 1) := by decide +kernel
theorem dd_H_see_44 : decode prog_1_method_29_code 44 = .ok (.getfield 45, 3) := by decide +kernel
theorem dd_H_see_47 : decode prog_1_method_29_code 47 = .ok (.aload_n 0, 1) := by decide +kernel
theorem dd_H_see_48 : decode prog_1_method_29_code 48 = .ok (.getfield 54, 3) := by decide +kernel
theorem dd_H_see_51 : decode prog_1_method_29_code 51 = .ok (.aaload, 1) := by decide +kernel
theorem dd_H_see_52 : decode prog_1_method_29_code 52 = .ok (.iload_n 1, 1) := by decide +kernel
theorem dd_H_see_53 : decode prog_1_method_29_code 53 = .ok (.putfield 254, 3) := by decide +kernel
theorem dd_H_see_56 : decode prog_1_method_29_code 56 = .ok (.aload_n 0, 1) := by decide +kernel
theorem dd_H_see_57 : decode prog_1_method_29_code 57 = .ok (.getfield 45, 3) := by decide +kernel
theorem dd_H_see_60 : decode prog_1_method_29_code 60 = .ok (.aload_n 0, 1) := by decide +kernel
theorem dd_H_see_61 : decode prog_1_method_29_code 61 = .ok (.getfield 54, 3) := by decide +kernel
theorem dd_H_see_64 : decode prog_1_method_29_code 64 = .ok (.aaload, 1) := by decide +kernel
theorem dd_H_see_65 : decode prog_1_method_29_code 65 = .ok (.iload_n 2, 1) := by decide +kernel
theorem dd_H_see_66 : decode prog_1_method_29_code 66 = .ok (.putfield 257, 3) := by decide +kernel
theorem dd_H_see_69 : decode prog_1_method_29_code 69 = .ok (.aload_n 0, 1) := by decide +kernel
theorem dd_H_see_70 : decode prog_1_method_29_code 70 = .ok (.getfield 45, 3) := by decide +kernel
theorem dd_H_see_73 : decode prog_1_method_29_code 73 = .ok (.aload_n 0, 1) := by decide +kernel
theorem dd_H_see_74 : decode prog_1_method_29_code 74 = .ok (.getfield 54, 3) := by decide +kernel
theorem dd_H_see_77 : decode prog_1_method_29_code 77 = .ok (.aaload, 1) := by decide +kernel
theorem dd_H_see_78 : decode prog_1_method_29_code 78 = .ok (.iload_n 3, 1) := by decide +kernel
theorem dd_H_see_79 : decode prog_1_method_29_code 79 = .ok (.putfield 260, 3) := by decide +kernel
theorem dd_H_see_82 : decode prog_1_method_29_code 82 = .ok (.aload_n 0, 1) := by decide +kernel
theorem dd_H_see_83 : decode prog_1_method_29_code 83 = .ok (.dup, 1) := by decide +kernel
theorem dd_H_see_84 : decode prog_1_method_29_code 84 = .ok (.getfield 54, 3) := by decide +kernel
theorem dd_H_see_87 : decode prog_1_method_29_code 87 = .ok (.iconst 1, 1) := by decide +kernel
theorem dd_H_see_88 : decode prog_1_method_29_code 88 = .ok (.iadd, 1) := by decide +kernel
theorem dd_H_see_89 : decode prog_1_method_29_code 89 = .ok (.putfield 54, 3) := by decide +kernel
theorem dd_H_see_92 : decode prog_1_method_29_code 92 = .ok (.aload_n 0, 1) := by decide +kernel
theorem dd_H_see_93 : decode prog_1_method_29_code 93 = .ok (.getfield 54, 3) := by decide +kernel
theorem dd_H_see_96 : decode prog_1_method_29_code 96 = .ok (.ireturn, 1) := by decide +kernel
theorem dd_H_forget_0 : decode prog_1_method_30_code 0 = .ok (.aload_n 0, 1) := by decide +kernel
theorem dd_H_forget_1 : decode prog_1_method_30_code 1 = .ok (.getfield 54, 3) := by decide +kernel
theorem dd_H_forget_4 : decode prog_1_method_30_code 4 = .ok (.istore_n 2, 1) := by decide +kernel
theorem dd_H_forget_5 : decode prog_1_method_30_code 5 = .ok (.iload_n 1, 1) := by decide +kernel
theorem dd_H_forget_6 : decode prog_1_method_30_code 6 = .ok (.iconst 0, 1) := by decide +kernel
theorem dd_H_forget_7 : decode prog_1_method_30_code 7 = .ok (.iload_n 2, 1) := by decide +kernel
theorem dd_H_forget_8 : decode prog_1_method_30_code 8 = .ok (.invokestatic 66, 3) := by decide +kernel
theorem dd_H_forget_11 : decode prog_1_method_30_code 11 = .ok (.ifCond .ne 5, 3) := by decide +kernel
theorem dd_H_forget_14 : decode prog_1_method_30_code 14 = .ok (.iconst (-1), 1) := by decide +kernel
theorem dd_H_forget_15 : decode prog_1_method_30_code 15 = .ok (.ireturn, 1) := by decide +kernel
theorem dd_H_forget_16 : decode prog_1_method_30_code 16 = .ok (.aload_n 0, 1) := by decide +kernel
theorem dd_H_forget_17 : decode prog_1_method_30_code 17 = .ok (.iload_n 1, 1) := by decide +kernel
theorem dd_H_forget_18 : decode prog_1_method_30_code 18 = .ok (.putfield 54, 3) := by decide +kernel
theorem dd_H_forget_21 : decode prog_1_method_30_code 21 = .ok (.iload_n 2, 1) := by decide +kernel
theorem dd_H_forget_22 : decode prog_1_method_30_code 22 = .ok (.ireturn, 1) := by decide +kernel
theorem dd_H_kinds_0 : decode prog_1_method_31_code 0 = .ok (.aload_n 0, 1) := by decide +kernel
theorem dd_H_kinds_1 : decode prog_1_method_31_code 1 = .ok (.iload_n 1, 1) := by decide +kernel
theorem dd_H_kinds_2 : decode prog_1_method_31_code 2 = .ok (.invokevirtual 113, 3) := by decide +kernel
theorem dd_H_kinds_5 : decode prog_1_method_31_code 5 = .ok (.ifCond .ne 5, 3) := by decide +kernel
theorem dd_H_kinds_8 : decode prog_1_method_31_code 8 = .ok (.iconst (-1), 1) := by decide +kernel
theorem dd_H_kinds_9 : decode prog_1_method_31_code 9 = .ok (.ireturn, 1) := by decide +kernel
theorem dd_H_kinds_10 : decode prog_1_method_31_code 10 = .ok (.iconst 0, 1) := by decide +kernel
theorem dd_H_kinds_11 : decode prog_1_method_31_code 11 = .ok (.istore_n 2, 1) := by decide +kernel
theorem dd_H_kinds_12 : decode prog_1_method_31_code 12 = .ok (.iconst 0, 1) := by decide +kernel
theorem dd_H_kinds_13 : decode prog_1_method_31_code 13 = .ok (.istore_n 3, 1) := by decide +kernel
theorem dd_H_kinds_14 : decode prog_1_method_31_code 14 = .ok (.iload_n 3, 1) := by decide +kernel
theorem dd_H_kinds_15 : decode prog_1_method_31_code 15 = .ok (.iconst 3, 1) := by decide +kernel
theorem dd_H_kinds_16 : decode prog_1_method_31_code 16 = .ok (.if_icmp .gt 28, 3) := by decide +kernel
theorem dd_H_kinds_19 : decode prog_1_method_31_code 19 = .ok (.aload_n 0, 1) := by decide +kernel
theorem dd_H_kinds_20 : decode prog_1_method_31_code 20 = .ok (.iload_n 1, 1) := by decide +kernel
theorem dd_H_kinds_21 : decode prog_1_method_31_code 21 = .ok (.iload_n 3, 1) := by decide +kernel
theorem dd_H_kinds_22 : decode prog_1_method_31_code 22 = .ok (.invokevirtual 226, 3) := by decide +kernel
theorem dd_H_kinds_25 : decode prog_1_method_31_code 25 = .ok (.aload_n 0, 1) := by decide +kernel
theorem dd_H_kinds_26 : decode prog_1_method_31_code 26 = .ok (.invokevirtual 261, 3) := by decide +kernel
theorem dd_H_kinds_29 : decode prog_1_method_31_code 29 = .ok (.ifCond .eq 9, 3) := by decide +kernel
theorem dd_H_kinds_32 : decode prog_1_method_31_code 32 = .ok (.iload_n 2, 1) := by decide +kernel
theorem dd_H_kinds_33 : decode prog_1_method_31_code 33 = .ok (.iconst 1, 1) := by decide +kernel
theorem dd_H_kinds_34 : decode prog_1_method_31_code 34 = .ok (.iload_n 3, 1) := by decide +kernel
theorem dd_H_kinds_35 : decode prog_1_method_31_code 35 = .ok (.ishl, 1) := by decide +kernel
theorem dd_H_kinds_36 : decode prog_1_method_31_code 36 = .ok (.ior, 1) := by decide +kernel
theorem dd_H_kinds_37 : decode prog_1_method_31_code 37 = .ok (.istore_n 2, 1) := by decide +kernel
theorem dd_H_kinds_38 : decode prog_1_method_31_code 38 = .ok (.iinc 3 1, 3) := by decide +kernel
theorem dd_H_kinds_41 : decode prog_1_method_31_code 41 = .ok (.goto (-27), 3) := by decide +kernel
theorem dd_H_kinds_44 : decode prog_1_method_31_code 44 = .ok (.iload_n 2, 1) := by decide +kernel
theorem dd_H_kinds_45 : decode prog_1_method_31_code 45 = .ok (.ireturn, 1) := by decide +kernel
theorem dd_H_weights_0 : decode prog_1_method_32_code 0 = .ok (.aload_n 0, 1) := by decide +kernel
theorem dd_H_weights_1 : decode prog_1_method_32_code 1 = .ok (.iload_n 1, 1) := by decide +kernel
theorem dd_H_weights_2 : decode prog_1_method_32_code 2 = .ok (.invokevirtual 113, 3) := by decide +kernel
theorem dd_H_weights_5 : decode prog_1_method_32_code 5 = .ok (.ifCond .ne 5, 3) := by decide +kernel
theorem dd_H_weights_8 : decode prog_1_method_32_code 8 = .ok (.iconst (-1), 1) := by decide +kernel
theorem dd_H_weights_9 : decode prog_1_method_32_code 9 = .ok (.ireturn, 1) := by decide +kernel
theorem dd_H_weights_10 : decode prog_1_method_32_code 10 = .ok (.iconst 0, 1) := by decide +kernel
theorem dd_H_weights_11 : decode prog_1_method_32_code 11 = .ok (.istore_n 2, 1) := by decide +kernel
theorem dd_H_weights_12 : decode prog_1_method_32_code 12 = .ok (.iconst 1, 1) := by decide +kernel
theorem dd_H_weights_13 : decode prog_1_method_32_code 13 = .ok (.istore_n 3, 1) := by decide +kernel
theorem dd_H_weights_14 : decode prog_1_method_32_code 14 = .ok (.iload_n 3, 1) := by decide +kernel
theorem dd_H_weights_15 : decode prog_1_method_32_code 15 = .ok (.bipush 9, 2) := by decide +kernel
theorem dd_H_weights_17 : decode prog_1_method_32_code 17 = .ok (.if_icmp .gt 70, 3) := by decide +kernel
theorem dd_H_weights_20 : decode prog_1_method_32_code 20 = .ok (.aload_n 0, 1) := by decide +kernel
theorem dd_H_weights_21 : decode prog_1_method_32_code 21 = .ok (.getfield 16, 3) := by decide +kernel
theorem dd_H_weights_24 : decode prog_1_method_32_code 24 = .ok (.aload_n 0, 1) := by decide +kernel
theorem dd_H_weights_25 : decode prog_1_method_32_code 25 = .ok (.getfield 10, 3) := by decide +kernel
theorem dd_H_weights_28 : decode prog_1_method_32_code 28 = .ok (.invokevirtual 87, 3) := by decide +kernel
theorem dd_H_weights_31 : decode prog_1_method_32_code 31 = .ok (.aload_n 0, 1) := by decide +kernel
theorem dd_H_weights_32 : decode prog_1_method_32_code 32 = .ok (.getfield 16, 3) := by decide +kernel
theorem dd_H_weights_35 : decode prog_1_method_32_code 35 = .ok (.getfield 117, 3) := by decide +kernel
theorem dd_H_weights_38 : decode prog_1_method_32_code 38 = .ok (.iload_n 1, 1) := by decide +kernel
theorem dd_H_weights_39 : decode prog_1_method_32_code 39 = .ok (.aaload, 1) := by decide +kernel
theorem dd_H_weights_40 : decode prog_1_method_32_code 40 = .ok (.aload_n 0, 1) := by decide +kernel
theorem dd_H_weights_41 : decode prog_1_method_32_code 41 = .ok (.getfield 10, 3) := by decide +kernel
theorem dd_H_weights_44 : decode prog_1_method_32_code 44 = .ok (.getfield 117, 3) := by decide +kernel
theorem dd_H_weights_47 : decode prog_1_method_32_code 47 = .ok (.iload_n 1, 1) := by decide +kernel
theorem dd_H_weights_48 : decode prog_1_method_32_code 48 = .ok (.aaload, 1) := by decide +kernel
theorem dd_H_weights_49 : decode prog_1_method_32_code 49 = .ok (.getfield 121, 3) := by decide +kernel
theorem dd_H_weights_52 : decode prog_1_method_32_code 52 = .ok (.iload_n 3, 1) := by decide +kernel
theorem dd_H_weights_53 : decode prog_1_method_32_code 53 = .ok (.aload_n 0, 1) := by decide +kernel
theorem dd_H_weights_54 : decode prog_1_method_32_code 54 = .ok (.getfield 10, 3) := by decide +kernel
theorem dd_H_weights_57 : decode prog_1_method_32_code 57 = .ok (.getfield 117, 3) := by decide +kernel
theorem dd_H_weights_60 : decode prog_1_method_32_code 60 = .ok (.iload_n 1, 1) := by decide +kernel
theorem dd_H_weights_61 : decode prog_1_method_32_code 61 = .ok (.aaload, 1) := by decide +kernel
theorem dd_H_weights_62 : decode prog_1_method_32_code 62 = .ok (.getfield 129, 3) := by decide +kernel
theorem dd_H_weights_65 : decode prog_1_method_32_code 65 = .ok (.invokevirtual 170, 3) := by decide +kernel
theorem dd_H_weights_68 : decode prog_1_method_32_code 68 = .ok (.aload_n 0, 1) := by decide +kernel
theorem dd_H_weights_69 : decode prog_1_method_32_code 69 = .ok (.invokevirtual 261, 3) := by decide +kernel
theorem dd_H_weights_72 : decode prog_1_method_32_code 72 = .ok (.ifCond .eq 9, 3) := by decide +kernel
theorem dd_H_weights_75 : decode prog_1_method_32_code 75 = .ok (.iload_n 2, 1) := by decide +kernel
theorem dd_H_weights_76 : decode prog_1_method_32_code 76 = .ok (.iconst 1, 1) := by decide +kernel
theorem dd_H_weights_77 : decode prog_1_method_32_code 77 = .ok (.iload_n 3, 1) := by decide +kernel
theorem dd_H_weights_78 : decode prog_1_method_32_code 78 = .ok (.ishl, 1) := by decide +kernel
theorem dd_H_weights_79 : decode prog_1_method_32_code 79 = .ok (.ior, 1) := by decide +kernel
theorem dd_H_weights_80 : decode prog_1_method_32_code 80 = .ok (.istore_n 2, 1) := by decide +kernel
theorem dd_H_weights_81 : decode prog_1_method_32_code 81 = .ok (.iinc 3 1, 3) := by decide +kernel
theorem dd_H_weights_84 : decode prog_1_method_32_code 84 = .ok (.goto (-70), 3) := by decide +kernel
theorem dd_H_weights_87 : decode prog_1_method_32_code 87 = .ok (.iload_n 2, 1) := by decide +kernel
theorem dd_H_weights_88 : decode prog_1_method_32_code 88 = .ok (.ireturn, 1) := by decide +kernel
theorem dd_H_strengths_0 : decode prog_1_method_33_code 0 = .ok (.aload_n 0, 1) := by decide +kernel
theorem dd_H_strengths_1 : decode prog_1_method_33_code 1 = .ok (.iload_n 1, 1) := by decide +kernel
theorem dd_H_strengths_2 : decode prog_1_method_33_code 2 = .ok (.invokevirtual 142, 3) := by decide +kernel
theorem dd_H_strengths_5 : decode prog_1_method_33_code 5 = .ok (.ifCond .ne 5, 3) := by decide +kernel
theorem dd_H_strengths_8 : decode prog_1_method_33_code 8 = .ok (.iconst (-1), 1) := by decide +kernel
theorem dd_H_strengths_9 : decode prog_1_method_33_code 9 = .ok (.ireturn, 1) := by decide +kernel
theorem dd_H_strengths_10 : decode prog_1_method_33_code 10 = .ok (.aload_n 0, 1) := by decide +kernel
theorem dd_H_strengths_11 : decode prog_1_method_33_code 11 = .ok (.iload_n 1, 1) := by decide +kernel
theorem dd_H_strengths_12 : decode prog_1_method_33_code 12 = .ok (.invokevirtual 265, 3) := by decide +kernel
theorem dd_H_strengths_15 : decode prog_1_method_33_code 15 = .ok (.ireturn, 1) := by decide +kernel
theorem dd_H_ask_0 : decode prog_1_method_34_code 0 = .ok (.aload_n 0, 1) := by decide +kernel
theorem dd_H_ask_1 : decode prog_1_method_34_code 1 = .ok (.iload_n 1, 1) := by decide +kernel
theorem dd_H_ask_2 : decode prog_1_method_34_code 2 = .ok (.invokevirtual 142, 3) := by decide +kernel
theorem dd_H_ask_5 : decode prog_1_method_34_code 5 = .ok (.ifCond .eq 12, 3) := by decide +kernel
theorem dd_H_ask_8 : decode prog_1_method_34_code 8 = .ok (.iload_n 2, 1) := by decide +kernel
theorem dd_H_ask_9 : decode prog_1_method_34_code 9 = .ok (.iconst 0, 1) := by decide +kernel
theorem dd_H_ask_10 : decode prog_1_method_34_code 10 = .ok (.iconst 1, 1) := by decide +kernel
theorem dd_H_ask_11 : decode prog_1_method_34_code 11 = .ok (.invokestatic 66, 3) := by decide +kernel
theorem dd_H_ask_14 : decode prog_1_method_34_code 14 = .ok (.ifCond .ne 5, 3) := by decide +kernel
theorem dd_H_ask_17 : decode prog_1_method_34_code 17 = .ok (.iconst (-1), 1) := by decide +kernel
theorem dd_H_ask_18 : decode prog_1_method_34_code 18 = .ok (.ireturn, 1) := by decide +kernel
theorem dd_H_ask_19 : decode prog_1_method_34_code 19 = .ok (.aload_n 0, 1) := by decide +kernel
theorem dd_H_ask_20 : decode prog_1_method_34_code 20 = .ok (.iload_n 1, 1) := by decide +kernel
theorem dd_H_ask_21 : decode prog_1_method_34_code 21 = .ok (.invokevirtual 265, 3) := by decide +kernel
theorem dd_H_ask_24 : decode prog_1_method_34_code 24 = .ok (.istore_n 3, 1) := by decide +kernel
theorem dd_H_ask_25 : decode prog_1_method_34_code 25 = .ok (.aload_n 0, 1) := by decide +kernel
theorem dd_H_ask_26 : decode prog_1_method_34_code 26 = .ok (.iload_n 1, 1) := by decide +kernel
theorem dd_H_ask_27 : decode prog_1_method_34_code 27 = .ok (.iload_n 3, 1) := by decide +kernel
theorem dd_H_ask_28 : decode prog_1_method_34_code 28 = .ok (.invokevirtual 268, 3) := by decide +kernel
theorem dd_H_ask_31 : decode prog_1_method_34_code 31 = .ok (.bipush (-4), 2) := by decide +kernel
theorem dd_H_ask_33 : decode prog_1_method_34_code 33 = .ok (.istore 4, 2) := by decide +kernel
theorem dd_H_ask_35 : decode prog_1_method_34_code 35 = .ok (.iload_n 3, 1) := by decide +kernel
theorem dd_H_ask_36 : decode prog_1_method_34_code 36 = .ok (.invokestatic 271, 3) := by decide +kernel
theorem dd_H_ask_39 : decode prog_1_method_34_code 39 = .ok (.istore 5, 2) := by decide +kernel
theorem dd_H_ask_41 : decode prog_1_method_34_code 41 = .ok (.iconst 0, 1) := by decide +kernel
theorem dd_H_ask_42 : decode prog_1_method_34_code 42 = .ok (.istore 6, 2) := by decide +kernel
theorem dd_H_ask_44 : decode prog_1_method_34_code 44 = .ok (.iload 6, 2) := by decide +kernel
theorem dd_H_ask_46 : decode prog_1_method_34_code 46 = .ok (.bipush 20, 2) := by decide +kernel
theorem dd_H_ask_48 : decode prog_1_method_34_code 48 = .ok (.if_icmp .gt 65, 3) := by decide +kernel
theorem dd_H_ask_51 : decode prog_1_method_34_code 51 = .ok (.iconst 0, 1) := by decide +kernel
theorem dd_H_ask_52 : decode prog_1_method_34_code 52 = .ok (.istore 7, 2) := by decide +kernel
theorem dd_H_ask_54 : decode prog_1_method_34_code 54 = .ok (.iload 7, 2) := by decide +kernel
theorem dd_H_ask_56 : decode prog_1_method_34_code 56 = .ok (.aload_n 0, 1) := by decide +kernel
theorem dd_H_ask_57 : decode prog_1_method_34_code 57 = .ok (.getfield 10, 3) := by decide +kernel
theorem dd_H_ask_60 : decode prog_1_method_34_code 60 = .ok (.getfield 94, 3) := by decide +kernel
theorem dd_H_ask_63 : decode prog_1_method_34_code 63 = .ok (.if_icmp .ge 44, 3) := by decide +kernel
theorem dd_H_ask_66 : decode prog_1_method_34_code 66 = .ok (.aload_n 0, 1) := by decide +kernel
theorem dd_H_ask_67 : decode prog_1_method_34_code 67 = .ok (.iload_n 3, 1) := by decide +kernel
theorem dd_H_ask_68 : decode prog_1_method_34_code 68 = .ok (.iload 6, 2) := by decide +kernel
theorem dd_H_ask_70 : decode prog_1_method_34_code 70 = .ok (.iconst 4, 1) := by decide +kernel
theorem dd_H_ask_71 : decode prog_1_method_34_code 71 = .ok (.imul, 1) := by decide +kernel
theorem dd_H_ask_72 : decode prog_1_method_34_code 72 = .ok (.iload 7, 2) := by decide +kernel
theorem dd_H_ask_74 : decode prog_1_method_34_code 74 = .ok (.iadd, 1) := by decide +kernel
theorem dd_H_ask_75 : decode prog_1_method_34_code 75 = .ok (.invokevirtual 276, 3) := by decide +kernel
theorem dd_H_ask_78 : decode prog_1_method_34_code 78 = .ok (.istore 8, 2) := by decide +kernel
theorem dd_H_ask_80 : decode prog_1_method_34_code 80 = .ok (.iload 8, 2) := by decide +kernel
theorem dd_H_ask_82 : decode prog_1_method_34_code 82 = .ok (.iload 5, 2) := by decide +kernel
theorem dd_H_ask_84 : decode prog_1_method_34_code 84 = .ok (.if_icmp .ge 17, 3) := by decide +kernel
theorem dd_H_ask_87 : decode prog_1_method_34_code 87 = .ok (.bipush 10, 2) := by decide +kernel
theorem dd_H_ask_89 : decode prog_1_method_34_code 89 = .ok (.iload 6, 2) := by decide +kernel
theorem dd_H_ask_91 : decode prog_1_method_34_code 91 = .ok (.imul, 1) := by decide +kernel
theorem dd_H_ask_92 : decode prog_1_method_34_code 92 = .ok (.iload 7, 2) := by decide +kernel
theorem dd_H_ask_94 : decode prog_1_method_34_code 94 = .ok (.iadd, 1) := by decide +kernel
theorem dd_H_ask_95 : decode prog_1_method_34_code 95 = .ok (.istore 4, 2) := by decide +kernel
theorem dd_H_ask_97 : decode prog_1_method_34_code 97 = .ok (.iload 8, 2) := by decide +kernel
theorem dd_H_ask_99 : decode prog_1_method_34_code 99 = .ok (.istore 5, 2) := by decide +kernel
theorem dd_H_ask_101 : decode prog_1_method_34_code 101 = .ok (.iinc 7 1, 3) := by decide +kernel
theorem dd_H_ask_104 : decode prog_1_method_34_code 104 = .ok (.goto (-50), 3) := by decide +kernel
theorem dd_H_ask_107 : decode prog_1_method_34_code 107 = .ok (.iinc 6 1, 3) := by decide +kernel
theorem dd_H_ask_110 : decode prog_1_method_34_code 110 = .ok (.goto (-66), 3) := by decide +kernel
theorem dd_H_ask_113 : decode prog_1_method_34_code 113 = .ok (.iload 4, 2) := by decide +kernel
theorem dd_H_ask_115 : decode prog_1_method_34_code 115 = .ok (.bipush (-4), 2) := by decide +kernel
theorem dd_H_ask_117 : decode prog_1_method_34_code 117 = .ok (.if_icmp .ne 6, 3) := by decide +kernel
theorem dd_H_ask_120 : decode prog_1_method_34_code 120 = .ok (.bipush (-4), 2) := by decide +kernel
theorem dd_H_ask_122 : decode prog_1_method_34_code 122 = .ok (.ireturn, 1) := by decide +kernel
theorem dd_H_ask_123 : decode prog_1_method_34_code 123 = .ok (.iload_n 2, 1) := by decide +kernel
theorem dd_H_ask_124 : decode prog_1_method_34_code 124 = .ok (.ifCond .ne 8, 3) := by decide +kernel
theorem dd_H_ask_127 : decode prog_1_method_34_code 127 = .ok (.iload 4, 2) := by decide +kernel
theorem dd_H_ask_129 : decode prog_1_method_34_code 129 = .ok (.goto 5, 3) := by decide +kernel
theorem dd_H_ask_132 : decode prog_1_method_34_code 132 = .ok (.iload 5, 2) := by decide +kernel
theorem dd_H_ask_134 : decode prog_1_method_34_code 134 = .ok (.ireturn, 1) := by decide +kernel
theorem dd_H_drift_0 : decode prog_1_method_35_code 0 = .ok (.iload_n 2, 1) := by decide +kernel
theorem dd_H_drift_1 : decode prog_1_method_35_code 1 = .ok (.iconst 1, 1) := by decide +kernel
theorem dd_H_drift_2 : decode prog_1_method_35_code 2 = .ok (.bipush 60, 2) := by decide +kernel
theorem dd_H_drift_4 : decode prog_1_method_35_code 4 = .ok (.invokestatic 66, 3) := by decide +kernel
theorem dd_H_drift_7 : decode prog_1_method_35_code 7 = .ok (.ifCond .eq 12, 3) := by decide +kernel
theorem dd_H_drift_10 : decode prog_1_method_35_code 10 = .ok (.iload_n 3, 1) := by decide +kernel
theorem dd_H_drift_11 : decode prog_1_method_35_code 11 = .ok (.iconst 0, 1) := by decide +kernel
theorem dd_H_drift_12 : decode prog_1_method_35_code 12 = .ok (.iconst 1, 1) := by decide +kernel
theorem dd_H_drift_13 : decode prog_1_method_35_code 13 = .ok (.invokestatic 66, 3) := by decide +kernel
theorem dd_H_drift_16 : decode prog_1_method_35_code 16 = .ok (.ifCond .ne 5, 3) := by decide +kernel
theorem dd_H_drift_19 : decode prog_1_method_35_code 19 = .ok (.iconst (-1), 1) := by decide +kernel
theorem dd_H_drift_20 : decode prog_1_method_35_code 20 = .ok (.ireturn, 1) := by decide +kernel
theorem dd_H_drift_21 : decode prog_1_method_35_code 21 = .ok (.aload_n 0, 1) := by decide +kernel
theorem dd_H_drift_22 : decode prog_1_method_35_code 22 = .ok (.getfield 10, 3) := by decide +kernel
theorem dd_H_drift_25 : decode prog_1_method_35_code 25 = .ok (.getfield 91, 3) := by decide +kernel
theorem dd_H_drift_28 : decode prog_1_method_35_code 28 = .ok (.ifCond .ne 6, 3) := by decide +kernel
theorem dd_H_drift_31 : decode prog_1_method_35_code 31 = .ok (.bipush (-2), 2) := by decide +kernel
theorem dd_H_drift_33 : decode prog_1_method_35_code 33 = .ok (.ireturn, 1) := by decide +kernel
theorem dd_H_drift_34 : decode prog_1_method_35_code 34 = .ok (.aload_n 0, 1) := by decide +kernel
theorem dd_H_drift_35 : decode prog_1_method_35_code 35 = .ok (.getfield 16, 3) := by decide +kernel
theorem dd_H_drift_38 : decode prog_1_method_35_code 38 = .ok (.aload_n 0, 1) := by decide +kernel
theorem dd_H_drift_39 : decode prog_1_method_35_code 39 = .ok (.getfield 10, 3) := by decide +kernel
theorem dd_H_drift_42 : decode prog_1_method_35_code 42 = .ok (.invokevirtual 87, 3) := by decide +kernel
theorem dd_H_drift_45 : decode prog_1_method_35_code 45 = .ok (.iload_n 1, 1) := by decide +kernel
theorem dd_H_drift_46 : decode prog_1_method_35_code 46 = .ok (.istore 4, 2) := by decide +kernel
theorem dd_H_drift_48 : decode prog_1_method_35_code 48 = .ok (.iconst 0, 1) := by decide +kernel
theorem dd_H_drift_49 : decode prog_1_method_35_code 49 = .ok (.istore 5, 2) := by decide +kernel
theorem dd_H_drift_51 : decode prog_1_method_35_code 51 = .ok (.iload 5, 2) := by decide +kernel
theorem dd_H_drift_53 : decode prog_1_method_35_code 53 = .ok (.iload_n 2, 1) := by decide +kernel
theorem dd_H_drift_54 : decode prog_1_method_35_code 54 = .ok (.if_icmp .ge 100, 3) := by decide +kernel
theorem dd_H_drift_57 : decode prog_1_method_35_code 57 = .ok (.iload 4, 2) := by decide +kernel
theorem dd_H_drift_59 : decode prog_1_method_35_code 59 = .ok (.ldc_w 280, 3) := by decide +kernel
theorem dd_H_drift_62 : decode prog_1_method_35_code 62 = .ok (.imul, 1) := by decide +kernel
theorem dd_H_drift_63 : decode prog_1_method_35_code 63 = .ok (.sipush 12345, 3) := by decide +kernel
theorem dd_H_drift_66 : decode prog_1_method_35_code 66 = .ok (.iadd, 1) := by decide +kernel
theorem dd_H_drift_67 : decode prog_1_method_35_code 67 = .ok (.istore 4, 2) := by decide +kernel
theorem dd_H_drift_69 : decode prog_1_method_35_code 69 = .ok (.iload 4, 2) := by decide +kernel
theorem dd_H_drift_71 : decode prog_1_method_35_code 71 = .ok (.bipush 16, 2) := by decide +kernel
theorem dd_H_drift_73 : decode prog_1_method_35_code 73 = .ok (.iushr, 1) := by decide +kernel
theorem dd_H_drift_74 : decode prog_1_method_35_code 74 = .ok (.sipush 32767, 3) := by decide +kernel
theorem dd_H_drift_77 : decode prog_1_method_35_code 77 = .ok (.iand, 1) := by decide +kernel
theorem dd_H_drift_78 : decode prog_1_method_35_code 78 = .ok (.istore 6, 2) := by decide +kernel
theorem dd_H_drift_80 : decode prog_1_method_35_code 80 = .ok (.aload_n 0, 1) := by decide +kernel
theorem dd_H_drift_81 : decode prog_1_method_35_code 81 = .ok (.getfield 16, 3) := by decide +kernel
theorem dd_H_drift_84 : decode prog_1_method_35_code 84 = .ok (.getfield 117, 3) := by decide +kernel
theorem dd_H_drift_87 : decode prog_1_method_35_code 87 = .ok (.iload 6, 2) := by decide +kernel
theorem dd_H_drift_89 : decode prog_1_method_35_code 89 = .ok (.bipush 8, 2) := by decide +kernel
theorem dd_H_drift_91 : decode prog_1_method_35_code 91 = .ok (.idiv, 1) := by decide +kernel
theorem dd_H_drift_92 : decode prog_1_method_35_code 92 = .ok (.aload_n 0, 1) := by decide +kernel
theorem dd_H_drift_93 : decode prog_1_method_35_code 93 = .ok (.getfield 10, 3) := by decide +kernel
theorem dd_H_drift_96 : decode prog_1_method_35_code 96 = .ok (.getfield 91, 3) := by decide +kernel
theorem dd_H_drift_99 : decode prog_1_method_35_code 99 = .ok (.irem, 1) := by decide +kernel
theorem dd_H_drift_100 : decode prog_1_method_35_code 100 = .ok (.aaload, 1) := by decide +kernel
theorem dd_H_drift_101 : decode prog_1_method_35_code 101 = .ok (.astore 7, 2) := by decide +kernel
theorem dd_H_drift_103 : decode prog_1_method_35_code 103 = .ok (.aload 7, 2) := by decide +kernel
theorem dd_H_drift_105 : decode prog_1_method_35_code 105 = .ok (.aload 7, 2) := by decide +kernel
theorem dd_H_drift_107 : decode prog_1_method_35_code 107 = .ok (.getfield 121, 3) := by decide +kernel
theorem dd_H_drift_110 : decode prog_1_method_35_code 110 = .ok (.iconst 1, 1) := by decide +kernel
theorem dd_H_drift_111 : decode prog_1_method_35_code 111 = .ok (.iload 6, 2) := by decide +kernel
theorem dd_H_drift_113 : decode prog_1_method_35_code 113 = .ok (.bipush 64, 2) := by decide +kernel
theorem dd_H_drift_115 : decode prog_1_method_35_code 115 = .ok (.idiv, 1) := by decide +kernel
theorem dd_H_drift_116 : decode prog_1_method_35_code 116 = .ok (.bipush 9, 2) := by decide +kernel
theorem dd_H_drift_118 : decode prog_1_method_35_code 118 = .ok (.irem, 1) := by decide +kernel
theorem dd_H_drift_119 : decode prog_1_method_35_code 119 = .ok (.iadd, 1) := by decide +kernel
theorem dd_H_drift_120 : decode prog_1_method_35_code 120 = .ok (.aload 7, 2) := by decide +kernel
theorem dd_H_drift_122 : decode prog_1_method_35_code 122 = .ok (.getfield 129, 3) := by decide +kernel
theorem dd_H_drift_125 : decode prog_1_method_35_code 125 = .ok (.invokevirtual 170, 3) := by decide +kernel
theorem dd_H_drift_128 : decode prog_1_method_35_code 128 = .ok (.aload_n 0, 1) := by decide +kernel
theorem dd_H_drift_129 : decode prog_1_method_35_code 129 = .ok (.getfield 16, 3) := by decide +kernel
theorem dd_H_drift_132 : decode prog_1_method_35_code 132 = .ok (.iload 6, 2) := by decide +kernel
theorem dd_H_drift_134 : decode prog_1_method_35_code 134 = .ok (.bipush 7, 2) := by decide +kernel
theorem dd_H_drift_136 : decode prog_1_method_35_code 136 = .ok (.irem, 1) := by decide +kernel
theorem dd_H_drift_137 : decode prog_1_method_35_code 137 = .ok (.putfield 100, 3) := by decide +kernel
theorem dd_H_drift_140 : decode prog_1_method_35_code 140 = .ok (.aload_n 0, 1) := by decide +kernel
theorem dd_H_drift_141 : decode prog_1_method_35_code 141 = .ok (.getfield 16, 3) := by decide +kernel
theorem dd_H_drift_144 : decode prog_1_method_35_code 144 = .ok (.iconst 0, 1) := by decide +kernel
theorem dd_H_drift_145 : decode prog_1_method_35_code 145 = .ok (.invokevirtual 199, 3) := by decide +kernel
theorem dd_H_drift_148 : decode prog_1_method_35_code 148 = .ok (.iinc 5 1, 3) := by decide +kernel
theorem dd_H_drift_151 : decode prog_1_method_35_code 151 = .ok (.goto (-100), 3) := by decide +kernel
theorem dd_H_drift_154 : decode prog_1_method_35_code 154 = .ok (.iload_n 3, 1) := by decide +kernel
theorem dd_H_drift_155 : decode prog_1_method_35_code 155 = .ok (.ifCond .ne 21, 3) := by decide +kernel
theorem dd_H_drift_158 : decode prog_1_method_35_code 158 = .ok (.aload_n 0, 1) := by decide +kernel
theorem dd_H_drift_159 : decode prog_1_method_35_code 159 = .ok (.getfield 16, 3) := by decide +kernel
theorem dd_H_drift_162 : decode prog_1_method_35_code 162 = .ok (.invokevirtual 110, 3) := by decide +kernel
theorem dd_H_drift_165 : decode prog_1_method_35_code 165 = .ok (.aload_n 0, 1) := by decide +kernel
theorem dd_H_drift_166 : decode prog_1_method_35_code 166 = .ok (.getfield 10, 3) := by decide +kernel
theorem dd_H_drift_169 : decode prog_1_method_35_code 169 = .ok (.invokevirtual 110, 3) := by decide +kernel
theorem dd_H_drift_172 : decode prog_1_method_35_code 172 = .ok (.isub, 1) := by decide +kernel
theorem dd_H_drift_173 : decode prog_1_method_35_code 173 = .ok (.goto 10, 3) := by decide +kernel
theorem dd_H_drift_176 : decode prog_1_method_35_code 176 = .ok (.aload_n 0, 1) := by decide +kernel
theorem dd_H_drift_177 : decode prog_1_method_35_code 177 = .ok (.getfield 16, 3) := by decide +kernel
theorem dd_H_drift_180 : decode prog_1_method_35_code 180 = .ok (.getfield 190, 3) := by decide +kernel
theorem dd_H_drift_183 : decode prog_1_method_35_code 183 = .ok (.ireturn, 1) := by decide +kernel
theorem dd_H_keep_0 : decode prog_1_method_36_code 0 = .ok (.iload_n 1, 1) := by decide +kernel
theorem dd_H_keep_1 : decode prog_1_method_36_code 1 = .ok (.iconst 0, 1) := by decide +kernel
theorem dd_H_keep_2 : decode prog_1_method_36_code 2 = .ok (.iconst 1, 1) := by decide +kernel
theorem dd_H_keep_3 : decode prog_1_method_36_code 3 = .ok (.invokestatic 66, 3) := by decide +kernel
theorem dd_H_keep_6 : decode prog_1_method_36_code 6 = .ok (.ifCond .ne 5, 3) := by decide +kernel
theorem dd_H_keep_9 : decode prog_1_method_36_code 9 = .ok (.iconst (-1), 1) := by decide +kernel
theorem dd_H_keep_10 : decode prog_1_method_36_code 10 = .ok (.ireturn, 1) := by decide +kernel
theorem dd_H_keep_11 : decode prog_1_method_36_code 11 = .ok (.aload_n 0, 1) := by decide +kernel
theorem dd_H_keep_12 : decode prog_1_method_36_code 12 = .ok (.getfield 26, 3) := by decide +kernel
theorem dd_H_keep_15 : decode prog_1_method_36_code 15 = .ok (.iload_n 1, 1) := by decide +kernel
theorem dd_H_keep_16 : decode prog_1_method_36_code 16 = .ok (.baload, 1) := by decide +kernel
theorem dd_H_keep_17 : decode prog_1_method_36_code 17 = .ok (.ifCond .eq 7, 3) := by decide +kernel
theorem dd_H_keep_20 : decode prog_1_method_36_code 20 = .ok (.iconst 1, 1) := by decide +kernel
theorem dd_H_keep_21 : decode prog_1_method_36_code 21 = .ok (.goto 4, 3) := by decide +kernel
theorem dd_H_keep_24 : decode prog_1_method_36_code 24 = .ok (.iconst 0, 1) := by decide +kernel
theorem dd_H_keep_25 : decode prog_1_method_36_code 25 = .ok (.istore_n 2, 1) := by decide +kernel
theorem dd_H_keep_26 : decode prog_1_method_36_code 26 = .ok (.aload_n 0, 1) := by decide +kernel
theorem dd_H_keep_27 : decode prog_1_method_36_code 27 = .ok (.getfield 22, 3) := by decide +kernel
theorem dd_H_keep_30 : decode prog_1_method_36_code 30 = .ok (.iload_n 1, 1) := by decide +kernel
theorem dd_H_keep_31 : decode prog_1_method_36_code 31 = .ok (.aaload, 1) := by decide +kernel
theorem dd_H_keep_32 : decode prog_1_method_36_code 32 = .ok (.aload_n 0, 1) := by decide +kernel
theorem dd_H_keep_33 : decode prog_1_method_36_code 33 = .ok (.getfield 10, 3) := by decide +kernel
theorem dd_H_keep_36 : decode prog_1_method_36_code 36 = .ok (.invokevirtual 87, 3) := by decide +kernel
theorem dd_H_keep_39 : decode prog_1_method_36_code 39 = .ok (.aload_n 0, 1) := by decide +kernel
theorem dd_H_keep_40 : decode prog_1_method_36_code 40 = .ok (.getfield 26, 3) := by decide +kernel
theorem dd_H_keep_43 : decode prog_1_method_36_code 43 = .ok (.iload_n 1, 1) := by decide +kernel
theorem dd_H_keep_44 : decode prog_1_method_36_code 44 = .ok (.iconst 1, 1) := by decide +kernel
theorem dd_H_keep_45 : decode prog_1_method_36_code 45 = .ok (.bastore, 1) := by decide +kernel
theorem dd_H_keep_46 : decode prog_1_method_36_code 46 = .ok (.iload_n 2, 1) := by decide +kernel
theorem dd_H_keep_47 : decode prog_1_method_36_code 47 = .ok (.ireturn, 1) := by decide +kernel
theorem dd_H_back_0 : decode prog_1_method_37_code 0 = .ok (.iload_n 1, 1) := by decide +kernel
theorem dd_H_back_1 : decode prog_1_method_37_code 1 = .ok (.iconst 0, 1) := by decide +kernel
theorem dd_H_back_2 : decode prog_1_method_37_code 2 = .ok (.iconst 1, 1) := by decide +kernel
theorem dd_H_back_3 : decode prog_1_method_37_code 3 = .ok (.invokestatic 66, 3) := by decide +kernel
theorem dd_H_back_6 : decode prog_1_method_37_code 6 = .ok (.ifCond .ne 5, 3) := by decide +kernel
theorem dd_H_back_9 : decode prog_1_method_37_code 9 = .ok (.iconst (-1), 1) := by decide +kernel
theorem dd_H_back_10 : decode prog_1_method_37_code 10 = .ok (.ireturn, 1) := by decide +kernel
theorem dd_H_back_11 : decode prog_1_method_37_code 11 = .ok (.aload_n 0, 1) := by decide +kernel
theorem dd_H_back_12 : decode prog_1_method_37_code 12 = .ok (.getfield 26, 3) := by decide +kernel
theorem dd_H_back_15 : decode prog_1_method_37_code 15 = .ok (.iload_n 1, 1) := by decide +kernel
theorem dd_H_back_16 : decode prog_1_method_37_code 16 = .ok (.baload, 1) := by decide +kernel
theorem dd_H_back_17 : decode prog_1_method_37_code 17 = .ok (.ifCond .ne 6, 3) := by decide +kernel
theorem dd_H_back_20 : decode prog_1_method_37_code 20 = .ok (.bipush (-2), 2) := by decide +kernel
theorem dd_H_back_22 : decode prog_1_method_37_code 22 = .ok (.ireturn, 1) := by decide +kernel
theorem dd_H_back_23 : decode prog_1_method_37_code 23 = .ok (.aload_n 0, 1) := by decide +kernel
theorem dd_H_back_24 : decode prog_1_method_37_code 24 = .ok (.getfield 10, 3) := by decide +kernel
theorem dd_H_back_27 : decode prog_1_method_37_code 27 = .ok (.aload_n 0, 1) := by decide +kernel
theorem dd_H_back_28 : decode prog_1_method_37_code 28 = .ok (.getfield 22, 3) := by decide +kernel
theorem dd_H_back_31 : decode prog_1_method_37_code 31 = .ok (.iload_n 1, 1) := by decide +kernel
theorem dd_H_back_32 : decode prog_1_method_37_code 32 = .ok (.aaload, 1) := by decide +kernel
theorem dd_H_back_33 : decode prog_1_method_37_code 33 = .ok (.invokevirtual 87, 3) := by decide +kernel
theorem dd_H_back_36 : decode prog_1_method_37_code 36 = .ok (.aload_n 0, 1) := by decide +kernel
theorem dd_H_back_37 : decode prog_1_method_37_code 37 = .ok (.getfield 10, 3) := by decide +kernel
theorem dd_H_back_40 : decode prog_1_method_37_code 40 = .ok (.getfield 97, 3) := by decide +kernel
theorem dd_H_back_43 : decode prog_1_method_37_code 43 = .ok (.ireturn, 1) := by decide +kernel
theorem dd_H_sheet_0 : decode prog_1_method_38_code 0 = .ok (.iload_n 1, 1) := by decide +kernel
theorem dd_H_sheet_1 : decode prog_1_method_38_code 1 = .ok (.invokestatic 281, 3) := by decide +kernel
theorem dd_H_sheet_4 : decode prog_1_method_38_code 4 = .ok (.ifCond .eq 16, 3) := by decide +kernel
theorem dd_H_sheet_7 : decode prog_1_method_38_code 7 = .ok (.iload_n 2, 1) := by decide +kernel
theorem dd_H_sheet_8 : decode prog_1_method_38_code 8 = .ok (.invokestatic 284, 3) := by decide +kernel
theorem dd_H_sheet_11 : decode prog_1_method_38_code 11 = .ok (.ifCond .eq 9, 3) := by decide +kernel
theorem dd_H_sheet_14 : decode prog_1_method_38_code 14 = .ok (.iload_n 3, 1) := by decide +kernel
theorem dd_H_sheet_15 : decode prog_1_method_38_code 15 = .ok (.bipush 40, 2) := by decide +kernel
theorem dd_H_sheet_17 : decode prog_1_method_38_code 17 = .ok (.if_icmp .le 5, 3) := by decide +kernel
theorem dd_H_sheet_20 : decode prog_1_method_38_code 20 = .ok (.iconst (-1), 1) := by decide +kernel
theorem dd_H_sheet_21 : decode prog_1_method_38_code 21 = .ok (.ireturn, 1) := by decide +kernel
theorem dd_H_sheet_22 : decode prog_1_method_38_code 22 = .ok (.iload_n 3, 1) := by decide +kernel
theorem dd_H_sheet_23 : decode prog_1_method_38_code 23 = .ok (.ifCond .ge 6, 3) := by decide +kernel
theorem dd_H_sheet_26 : decode prog_1_method_38_code 26 = .ok (.bipush (-14), 2) := by decide +kernel
theorem dd_H_sheet_28 : decode prog_1_method_38_code 28 = .ok (.ireturn, 1) := by decide +kernel
theorem dd_H_sheet_29 : decode prog_1_method_38_code 29 = .ok (.aload_n 0, 1) := by decide +kernel
theorem dd_H_sheet_30 : decode prog_1_method_38_code 30 = .ok (.getfield 39, 3) := by decide +kernel
theorem dd_H_sheet_33 : decode prog_1_method_38_code 33 = .ok (.iload_n 1, 1) := by decide +kernel
theorem dd_H_sheet_34 : decode prog_1_method_38_code 34 = .ok (.aaload, 1) := by decide +kernel
theorem dd_H_sheet_35 : decode prog_1_method_38_code 35 = .ok (.iload_n 2, 1) := by decide +kernel
theorem dd_H_sheet_36 : decode prog_1_method_38_code 36 = .ok (.iload_n 3, 1) := by decide +kernel
theorem dd_H_sheet_37 : decode prog_1_method_38_code 37 = .ok (.invokevirtual 287, 3) := by decide +kernel
theorem dd_H_sheet_40 : decode prog_1_method_38_code 40 = .ok (.iconst 1, 1) := by decide +kernel
theorem dd_H_sheet_41 : decode prog_1_method_38_code 41 = .ok (.ireturn, 1) := by decide +kernel
theorem dd_H_lay_0 : decode prog_1_method_39_code 0 = .ok (.iload_n 1, 1) := by decide +kernel
theorem dd_H_lay_1 : decode prog_1_method_39_code 1 = .ok (.invokestatic 281, 3) := by decide +kernel
theorem dd_H_lay_4 : decode prog_1_method_39_code 4 = .ok (.ifCond .ne 5, 3) := by decide +kernel
theorem dd_H_lay_7 : decode prog_1_method_39_code 7 = .ok (.iconst (-1), 1) := by decide +kernel
theorem dd_H_lay_8 : decode prog_1_method_39_code 8 = .ok (.ireturn, 1) := by decide +kernel
theorem dd_H_lay_9 : decode prog_1_method_39_code 9 = .ok (.aload_n 0, 1) := by decide +kernel
theorem dd_H_lay_10 : decode prog_1_method_39_code 10 = .ok (.getfield 39, 3) := by decide +kernel
theorem dd_H_lay_13 : decode prog_1_method_39_code 13 = .ok (.iload_n 1, 1) := by decide +kernel
theorem dd_H_lay_14 : decode prog_1_method_39_code 14 = .ok (.aaload, 1) := by decide +kernel
theorem dd_H_lay_15 : decode prog_1_method_39_code 15 = .ok (.aload_n 0, 1) := by decide +kernel
theorem dd_H_lay_16 : decode prog_1_method_39_code 16 = .ok (.getfield 39, 3) := by decide +kernel
theorem dd_H_lay_19 : decode prog_1_method_39_code 19 = .ok (.iload_n 1, 1) := by decide +kernel
theorem dd_H_lay_20 : decode prog_1_method_39_code 20 = .ok (.aaload, 1) := by decide +kernel
theorem dd_H_lay_21 : decode prog_1_method_39_code 21 = .ok (.getfield 290, 3) := by decide +kernel
theorem dd_H_lay_24 : decode prog_1_method_39_code 24 = .ok (.iload_n 2, 1) := by decide +kernel
theorem dd_H_lay_25 : decode prog_1_method_39_code 25 = .ok (.iconst 1, 1) := by decide +kernel
theorem dd_H_lay_26 : decode prog_1_method_39_code 26 = .ok (.invokevirtual 293, 3) := by decide +kernel
theorem dd_H_lay_29 : decode prog_1_method_39_code 29 = .ok (.istore 4, 2) := by decide +kernel
theorem dd_H_lay_31 : decode prog_1_method_39_code 31 = .ok (.iload 4, 2) := by decide +kernel
theorem dd_H_lay_33 : decode prog_1_method_39_code 33 = .ok (.ifCond .eq 9, 3) := by decide +kernel
theorem dd_H_lay_36 : decode prog_1_method_39_code 36 = .ok (.bipush (-10), 2) := by decide +kernel
theorem dd_H_lay_38 : decode prog_1_method_39_code 38 = .ok (.iload 4, 2) := by decide +kernel
theorem dd_H_lay_40 : decode prog_1_method_39_code 40 = .ok (.isub, 1) := by decide +kernel
theorem dd_H_lay_41 : decode prog_1_method_39_code 41 = .ok (.ireturn, 1) := by decide +kernel
theorem dd_H_lay_42 : decode prog_1_method_39_code 42 = .ok (.aload_n 0, 1) := by decide +kernel
theorem dd_H_lay_43 : decode prog_1_method_39_code 43 = .ok (.getfield 39, 3) := by decide +kernel
theorem dd_H_lay_46 : decode prog_1_method_39_code 46 = .ok (.iload_n 1, 1) := by decide +kernel
theorem dd_H_lay_47 : decode prog_1_method_39_code 47 = .ok (.aaload, 1) := by decide +kernel
theorem dd_H_lay_48 : decode prog_1_method_39_code 48 = .ok (.iload_n 2, 1) := by decide +kernel
theorem dd_H_lay_49 : decode prog_1_method_39_code 49 = .ok (.iload_n 3, 1) := by decide +kernel
theorem dd_H_lay_50 : decode prog_1_method_39_code 50 = .ok (.invokevirtual 296, 3) := by decide +kernel
theorem dd_H_lay_53 : decode prog_1_method_39_code 53 = .ok (.iconst 1, 1) := by decide +kernel
theorem dd_H_lay_54 : decode prog_1_method_39_code 54 = .ok (.ireturn, 1) := by decide +kernel
theorem dd_H_read_0 : decode prog_1_method_40_code 0 = .ok (.iload_n 1, 1) := by decide +kernel
theorem dd_H_read_1 : decode prog_1_method_40_code 1 = .ok (.invokestatic 281, 3) := by decide +kernel
theorem dd_H_read_4 : decode prog_1_method_40_code 4 = .ok (.ifCond .eq 21, 3) := by decide +kernel
theorem dd_H_read_7 : decode prog_1_method_40_code 7 = .ok (.iload_n 2, 1) := by decide +kernel
theorem dd_H_read_8 : decode prog_1_method_40_code 8 = .ok (.invokestatic 284, 3) := by decide +kernel
theorem dd_H_read_11 : decode prog_1_method_40_code 11 = .ok (.ifCond .eq 14, 3) := by decide +kernel
theorem dd_H_read_14 : decode prog_1_method_40_code 14 = .ok (.iload 4, 2) := by decide +kernel
theorem dd_H_read_16 : decode prog_1_method_40_code 16 = .ok (.iconst 0, 1) := by decide +kernel
theorem dd_H_read_17 : decode prog_1_method_40_code 17 = .ok (.bipush 13, 2) := by decide +kernel
theorem dd_H_read_19 : decode prog_1_method_40_code 19 = .ok (.invokestatic 66, 3) := by decide +kernel
theorem dd_H_read_22 : decode prog_1_method_40_code 22 = .ok (.ifCond .ne 5, 3) := by decide +kernel
theorem dd_H_read_25 : decode prog_1_method_40_code 25 = .ok (.iconst (-1), 1) := by decide +kernel
theorem dd_H_read_26 : decode prog_1_method_40_code 26 = .ok (.ireturn, 1) := by decide +kernel
theorem dd_H_read_27 : decode prog_1_method_40_code 27 = .ok (.aload_n 0, 1) := by decide +kernel
theorem dd_H_read_28 : decode prog_1_method_40_code 28 = .ok (.getfield 39, 3) := by decide +kernel
theorem dd_H_read_31 : decode prog_1_method_40_code 31 = .ok (.iload_n 1, 1) := by decide +kernel
theorem dd_H_read_32 : decode prog_1_method_40_code 32 = .ok (.aaload, 1) := by decide +kernel
theorem dd_H_read_33 : decode prog_1_method_40_code 33 = .ok (.astore 5, 2) := by decide +kernel
theorem dd_H_read_35 : decode prog_1_method_40_code 35 = .ok (.aload_n 0, 1) := by decide +kernel
theorem dd_H_read_36 : decode prog_1_method_40_code 36 = .ok (.getfield 10, 3) := by decide +kernel
theorem dd_H_read_39 : decode prog_1_method_40_code 39 = .ok (.getfield 91, 3) := by decide +kernel
theorem dd_H_read_42 : decode prog_1_method_40_code 42 = .ok (.istore 6, 2) := by decide +kernel
theorem dd_H_read_44 : decode prog_1_method_40_code 44 = .ok (.iconst 0, 1) := by decide +kernel
theorem dd_H_read_45 : decode prog_1_method_40_code 45 = .ok (.istore 7, 2) := by decide +kernel
theorem dd_H_read_47 : decode prog_1_method_40_code 47 = .ok (.iload 7, 2) := by decide +kernel
theorem dd_H_read_49 : decode prog_1_method_40_code 49 = .ok (.iload 4, 2) := by decide +kernel
theorem dd_H_read_51 : decode prog_1_method_40_code 51 = .ok (.if_icmp .ge 92, 3) := by decide +kernel
theorem dd_H_read_54 : decode prog_1_method_40_code 54 = .ok (.iload_n 3, 1) := by decide +kernel
theorem dd_H_read_55 : decode prog_1_method_40_code 55 = .ok (.iconst 3, 1) := by decide +kernel
theorem dd_H_read_56 : decode prog_1_method_40_code 56 = .ok (.iload 7, 2) := by decide +kernel
theorem dd_H_read_58 : decode prog_1_method_40_code 58 = .ok (.imul, 1) := by decide +kernel
theorem dd_H_read_59 : decode prog_1_method_40_code 59 = .ok (.iadd, 1) := by decide +kernel
theorem dd_H_read_60 : decode prog_1_method_40_code 60 = .ok (.istore 8, 2) := by decide +kernel
theorem dd_H_read_62 : decode prog_1_method_40_code 62 = .ok (.aload 5, 2) := by decide +kernel
theorem dd_H_read_64 : decode prog_1_method_40_code 64 = .ok (.iload_n 2, 1) := by decide +kernel
theorem dd_H_read_65 : decode prog_1_method_40_code 65 = .ok (.iload 8, 2) := by decide +kernel
theorem dd_H_read_67 : decode prog_1_method_40_code 67 = .ok (.iconst 3, 1) := by decide +kernel
theorem dd_H_read_68 : decode prog_1_method_40_code 68 = .ok (.invokevirtual 293, 3) := by decide +kernel
theorem dd_H_read_71 : decode prog_1_method_40_code 71 = .ok (.istore 9, 2) := by decide +kernel
theorem dd_H_read_73 : decode prog_1_method_40_code 73 = .ok (.iload 9, 2) := by decide +kernel
theorem dd_H_read_75 : decode prog_1_method_40_code 75 = .ok (.ifCond .eq 12, 3) := by decide +kernel
theorem dd_H_read_78 : decode prog_1_method_40_code 78 = .ok (.aload_n 0, 1) := by decide +kernel
theorem dd_H_read_79 : decode prog_1_method_40_code 79 = .ok (.iload 9, 2) := by decide +kernel
theorem dd_H_read_81 : decode prog_1_method_40_code 81 = .ok (.putfield 61, 3) := by decide +kernel
theorem dd_H_read_84 : decode prog_1_method_40_code 84 = .ok (.iload 7, 2) := by decide +kernel
theorem dd_H_read_86 : decode prog_1_method_40_code 86 = .ok (.ireturn, 1) := by decide +kernel
theorem dd_H_read_87 : decode prog_1_method_40_code 87 = .ok (.aload_n 0, 1) := by decide +kernel
theorem dd_H_read_88 : decode prog_1_method_40_code 88 = .ok (.aload 5, 2) := by decide +kernel
theorem dd_H_read_90 : decode prog_1_method_40_code 90 = .ok (.getfield 299, 3) := by decide +kernel
theorem dd_H_read_93 : decode prog_1_method_40_code 93 = .ok (.iload 8, 2) := by decide +kernel
theorem dd_H_read_95 : decode prog_1_method_40_code 95 = .ok (.iaload, 1) := by decide +kernel
theorem dd_H_read_96 : decode prog_1_method_40_code 96 = .ok (.aload 5, 2) := by decide +kernel
theorem dd_H_read_98 : decode prog_1_method_40_code 98 = .ok (.getfield 299, 3) := by decide +kernel
theorem dd_H_read_101 : decode prog_1_method_40_code 101 = .ok (.iload 8, 2) := by decide +kernel
theorem dd_H_read_103 : decode prog_1_method_40_code 103 = .ok (.iconst 1, 1) := by decide +kernel
theorem dd_H_read_104 : decode prog_1_method_40_code 104 = .ok (.iadd, 1) := by decide +kernel
theorem dd_H_read_105 : decode prog_1_method_40_code 105 = .ok (.iaload, 1) := by decide +kernel
theorem dd_H_read_106 : decode prog_1_method_40_code 106 = .ok (.aload 5, 2) := by decide +kernel
theorem dd_H_read_108 : decode prog_1_method_40_code 108 = .ok (.getfield 299, 3) := by decide +kernel
theorem dd_H_read_111 : decode prog_1_method_40_code 111 = .ok (.iload 8, 2) := by decide +kernel
theorem dd_H_read_113 : decode prog_1_method_40_code 113 = .ok (.iconst 2, 1) := by decide +kernel
theorem dd_H_read_114 : decode prog_1_method_40_code 114 = .ok (.iadd, 1) := by decide +kernel
theorem dd_H_read_115 : decode prog_1_method_40_code 115 = .ok (.iaload, 1) := by decide +kernel
theorem dd_H_read_116 : decode prog_1_method_40_code 116 = .ok (.invokevirtual 302, 3) := by decide +kernel
theorem dd_H_read_119 : decode prog_1_method_40_code 119 = .ok (.ifCond .ge 18, 3) := by decide +kernel
theorem dd_H_read_122 : decode prog_1_method_40_code 122 = .ok (.aload_n 0, 1) := by decide +kernel
theorem dd_H_read_123 : decode prog_1_method_40_code 123 = .ok (.getfield 10, 3) := by decide +kernel
theorem dd_H_read_126 : decode prog_1_method_40_code 126 = .ok (.iload 6, 2) := by decide +kernel
theorem dd_H_read_128 : decode prog_1_method_40_code 128 = .ok (.putfield 91, 3) := by decide +kernel
theorem dd_H_read_131 : decode prog_1_method_40_code 131 = .ok (.bipush (-20), 2) := by decide +kernel
theorem dd_H_read_133 : decode prog_1_method_40_code 133 = .ok (.iload 7, 2) := by decide +kernel
theorem dd_H_read_135 : decode prog_1_method_40_code 135 = .ok (.isub, 1) := by decide +kernel
theorem dd_H_read_136 : decode prog_1_method_40_code 136 = .ok (.ireturn, 1) := by decide +kernel
theorem dd_H_read_137 : decode prog_1_method_40_code 137 = .ok (.iinc 7 1, 3) := by decide +kernel
theorem dd_H_read_140 : decode prog_1_method_40_code 140 = .ok (.goto (-93), 3) := by decide +kernel
theorem dd_H_read_143 : decode prog_1_method_40_code 143 = .ok (.aload_n 0, 1) := by decide +kernel
theorem dd_H_read_144 : decode prog_1_method_40_code 144 = .ok (.iconst 0, 1) := by decide +kernel
theorem dd_H_read_145 : decode prog_1_method_40_code 145 = .ok (.putfield 61, 3) := by decide +kernel
theorem dd_H_read_148 : decode prog_1_method_40_code 148 = .ok (.iload 4, 2) := by decide +kernel
theorem dd_H_read_150 : decode prog_1_method_40_code 150 = .ok (.ireturn, 1) := by decide +kernel
theorem dd_H_torn_0 : decode prog_1_method_41_code 0 = .ok (.aload_n 0, 1) := by decide +kernel
theorem dd_H_torn_1 : decode prog_1_method_41_code 1 = .ok (.getfield 61, 3) := by decide +kernel
theorem dd_H_torn_4 : decode prog_1_method_41_code 4 = .ok (.ireturn, 1) := by decide +kernel
theorem dd_H_count_0 : decode prog_1_method_42_code 0 = .ok (.iload_n 1, 1) := by decide +kernel
theorem dd_H_count_1 : decode prog_1_method_42_code 1 = .ok (.tableswitch 101 0 5 #[39, 44, 49, 57, 85, 93], 39) := by decide +kernel
theorem dd_H_count_40 : decode prog_1_method_42_code 40 = .ok (.aload_n 0, 1) := by decide +kernel
theorem dd_H_count_41 : decode prog_1_method_42_code 41 = .ok (.getfield 54, 3) := by decide +kernel
theorem dd_H_count_44 : decode prog_1_method_42_code 44 = .ok (.ireturn, 1) := by decide +kernel
theorem dd_H_count_45 : decode prog_1_method_42_code 45 = .ok (.aload_n 0, 1) := by decide +kernel
theorem dd_H_count_46 : decode prog_1_method_42_code 46 = .ok (.invokevirtual 305, 3) := by decide +kernel
theorem dd_H_count_49 : decode prog_1_method_42_code 49 = .ok (.ireturn, 1) := by decide +kernel
theorem dd_H_count_50 : decode prog_1_method_42_code 50 = .ok (.aload_n 0, 1) := by decide +kernel
theorem dd_H_count_51 : decode prog_1_method_42_code 51 = .ok (.getfield 33, 3) := by decide +kernel
theorem dd_H_count_54 : decode prog_1_method_42_code 54 = .ok (.getfield 70, 3) := by decide +kernel
theorem dd_H_count_57 : decode prog_1_method_42_code 57 = .ok (.ireturn, 1) := by decide +kernel
theorem dd_H_count_58 : decode prog_1_method_42_code 58 = .ok (.aload_n 0, 1) := by decide +kernel
theorem dd_H_count_59 : decode prog_1_method_42_code 59 = .ok (.getfield 39, 3) := by decide +kernel
theorem dd_H_count_62 : decode prog_1_method_42_code 62 = .ok (.iconst 0, 1) := by decide +kernel
theorem dd_H_count_63 : decode prog_1_method_42_code 63 = .ok (.aaload, 1) := by decide +kernel
theorem dd_H_count_64 : decode prog_1_method_42_code 64 = .ok (.getfield 290, 3) := by decide +kernel
theorem dd_H_count_67 : decode prog_1_method_42_code 67 = .ok (.iconst (-1), 1) := by decide +kernel
theorem dd_H_count_68 : decode prog_1_method_42_code 68 = .ok (.if_icmp .ne 8, 3) := by decide +kernel
theorem dd_H_count_71 : decode prog_1_method_42_code 71 = .ok (.bipush (-4), 2) := by decide +kernel
theorem dd_H_count_73 : decode prog_1_method_42_code 73 = .ok (.goto 12, 3) := by decide +kernel
theorem dd_H_count_76 : decode prog_1_method_42_code 76 = .ok (.aload_n 0, 1) := by decide +kernel
theorem dd_H_count_77 : decode prog_1_method_42_code 77 = .ok (.getfield 39, 3) := by decide +kernel
theorem dd_H_count_80 : decode prog_1_method_42_code 80 = .ok (.iconst 0, 1) := by decide +kernel
theorem dd_H_count_81 : decode prog_1_method_42_code 81 = .ok (.aaload, 1) := by decide +kernel
theorem dd_H_count_82 : decode prog_1_method_42_code 82 = .ok (.getfield 308, 3) := by decide +kernel
theorem dd_H_count_85 : decode prog_1_method_42_code 85 = .ok (.ireturn, 1) := by decide +kernel
theorem dd_H_count_86 : decode prog_1_method_42_code 86 = .ok (.aload_n 0, 1) := by decide +kernel
theorem dd_H_count_87 : decode prog_1_method_42_code 87 = .ok (.getfield 10, 3) := by decide +kernel
theorem dd_H_count_90 : decode prog_1_method_42_code 90 = .ok (.invokevirtual 311, 3) := by decide +kernel
theorem dd_H_count_93 : decode prog_1_method_42_code 93 = .ok (.ireturn, 1) := by decide +kernel
theorem dd_H_count_94 : decode prog_1_method_42_code 94 = .ok (.aload_n 0, 1) := by decide +kernel
theorem dd_H_count_95 : decode prog_1_method_42_code 95 = .ok (.getfield 10, 3) := by decide +kernel
theorem dd_H_count_98 : decode prog_1_method_42_code 98 = .ok (.invokevirtual 314, 3) := by decide +kernel
theorem dd_H_count_101 : decode prog_1_method_42_code 101 = .ok (.ireturn, 1) := by decide +kernel
theorem dd_H_count_102 : decode prog_1_method_42_code 102 = .ok (.iconst (-1), 1) := by decide +kernel
theorem dd_H_count_103 : decode prog_1_method_42_code 103 = .ok (.ireturn, 1) := by decide +kernel
theorem dd_H_within_0 : decode prog_1_method_43_code 0 = .ok (.iload_n 0, 1) := by decide +kernel
theorem dd_H_within_1 : decode prog_1_method_43_code 1 = .ok (.iload_n 1, 1) := by decide +kernel
theorem dd_H_within_2 : decode prog_1_method_43_code 2 = .ok (.if_icmp .lt 12, 3) := by decide +kernel
theorem dd_H_within_5 : decode prog_1_method_43_code 5 = .ok (.iload_n 0, 1) := by decide +kernel
theorem dd_H_within_6 : decode prog_1_method_43_code 6 = .ok (.iload_n 2, 1) := by decide +kernel
theorem dd_H_within_7 : decode prog_1_method_43_code 7 = .ok (.if_icmp .gt 7, 3) := by decide +kernel
theorem dd_H_within_10 : decode prog_1_method_43_code 10 = .ok (.iconst 1, 1) := by decide +kernel
theorem dd_H_within_11 : decode prog_1_method_43_code 11 = .ok (.goto 4, 3) := by decide +kernel
theorem dd_H_within_14 : decode prog_1_method_43_code 14 = .ok (.iconst 0, 1) := by decide +kernel
theorem dd_H_within_15 : decode prog_1_method_43_code 15 = .ok (.ireturn, 1) := by decide +kernel
theorem dd_H_hasBit_0 : decode prog_1_method_44_code 0 = .ok (.iload_n 0, 1) := by decide +kernel
theorem dd_H_hasBit_1 : decode prog_1_method_44_code 1 = .ok (.iload_n 1, 1) := by decide +kernel
theorem dd_H_hasBit_2 : decode prog_1_method_44_code 2 = .ok (.ishr, 1) := by decide +kernel
theorem dd_H_hasBit_3 : decode prog_1_method_44_code 3 = .ok (.iconst 1, 1) := by decide +kernel
theorem dd_H_hasBit_4 : decode prog_1_method_44_code 4 = .ok (.iand, 1) := by decide +kernel
theorem dd_H_hasBit_5 : decode prog_1_method_44_code 5 = .ok (.iconst 1, 1) := by decide +kernel
theorem dd_H_hasBit_6 : decode prog_1_method_44_code 6 = .ok (.if_icmp .ne 7, 3) := by decide +kernel
theorem dd_H_hasBit_9 : decode prog_1_method_44_code 9 = .ok (.iconst 1, 1) := by decide +kernel
theorem dd_H_hasBit_10 : decode prog_1_method_44_code 10 = .ok (.goto 4, 3) := by decide +kernel
theorem dd_H_hasBit_13 : decode prog_1_method_44_code 13 = .ok (.iconst 0, 1) := by decide +kernel
theorem dd_H_hasBit_14 : decode prog_1_method_44_code 14 = .ok (.ireturn, 1) := by decide +kernel
theorem dd_H_isKind_0 : decode prog_1_method_45_code 0 = .ok (.iload_n 0, 1) := by decide +kernel
theorem dd_H_isKind_1 : decode prog_1_method_45_code 1 = .ok (.iconst 0, 1) := by decide +kernel
theorem dd_H_isKind_2 : decode prog_1_method_45_code 2 = .ok (.iconst 3, 1) := by decide +kernel
theorem dd_H_isKind_3 : decode prog_1_method_45_code 3 = .ok (.invokestatic 66, 3) := by decide +kernel
theorem dd_H_isKind_6 : decode prog_1_method_45_code 6 = .ok (.ireturn, 1) := by decide +kernel
theorem dd_H_isWeight_0 : decode prog_1_method_46_code 0 = .ok (.iload_n 0, 1) := by decide +kernel
theorem dd_H_isWeight_1 : decode prog_1_method_46_code 1 = .ok (.iconst 1, 1) := by decide +kernel
theorem dd_H_isWeight_2 : decode prog_1_method_46_code 2 = .ok (.bipush 9, 2) := by decide +kernel
theorem dd_H_isWeight_4 : decode prog_1_method_46_code 4 = .ok (.invokestatic 66, 3) := by decide +kernel
theorem dd_H_isWeight_7 : decode prog_1_method_46_code 7 = .ok (.ireturn, 1) := by decide +kernel
theorem dd_H_isWorth_0 : decode prog_1_method_47_code 0 = .ok (.iload_n 0, 1) := by decide +kernel
theorem dd_H_isWorth_1 : decode prog_1_method_47_code 1 = .ok (.iconst 0, 1) := by decide +kernel
theorem dd_H_isWorth_2 : decode prog_1_method_47_code 2 = .ok (.bipush 9, 2) := by decide +kernel
theorem dd_H_isWorth_4 : decode prog_1_method_47_code 4 = .ok (.invokestatic 66, 3) := by decide +kernel
theorem dd_H_isWorth_7 : decode prog_1_method_47_code 7 = .ok (.ireturn, 1) := by decide +kernel
theorem dd_H_isSheet_0 : decode prog_1_method_48_code 0 = .ok (.iload_n 0, 1) := by decide +kernel
theorem dd_H_isSheet_1 : decode prog_1_method_48_code 1 = .ok (.iconst 0, 1) := by decide +kernel
theorem dd_H_isSheet_2 : decode prog_1_method_48_code 2 = .ok (.iconst 3, 1) := by decide +kernel
theorem dd_H_isSheet_3 : decode prog_1_method_48_code 3 = .ok (.invokestatic 66, 3) := by decide +kernel
theorem dd_H_isSheet_6 : decode prog_1_method_48_code 6 = .ok (.ireturn, 1) := by decide +kernel
theorem dd_H_isLane_0 : decode prog_1_method_49_code 0 = .ok (.iload_n 0, 1) := by decide +kernel
theorem dd_H_isLane_1 : decode prog_1_method_49_code 1 = .ok (.iconst 0, 1) := by decide +kernel
theorem dd_H_isLane_2 : decode prog_1_method_49_code 2 = .ok (.iconst 2, 1) := by decide +kernel
theorem dd_H_isLane_3 : decode prog_1_method_49_code 3 = .ok (.invokestatic 66, 3) := by decide +kernel
theorem dd_H_isLane_6 : decode prog_1_method_49_code 6 = .ok (.ireturn, 1) := by decide +kernel
theorem dd_H_isGood_0 : decode prog_1_method_50_code 0 = .ok (.iload_n 1, 1) := by decide +kernel
theorem dd_H_isGood_1 : decode prog_1_method_50_code 1 = .ok (.iconst 0, 1) := by decide +kernel
theorem dd_H_isGood_2 : decode prog_1_method_50_code 2 = .ok (.aload_n 0, 1) := by decide +kernel
theorem dd_H_isGood_3 : decode prog_1_method_50_code 3 = .ok (.getfield 10, 3) := by decide +kernel
theorem dd_H_isGood_6 : decode prog_1_method_50_code 6 = .ok (.getfield 91, 3) := by decide +kernel
theorem dd_H_isGood_9 : decode prog_1_method_50_code 9 = .ok (.iconst 1, 1) := by decide +kernel
theorem dd_H_isGood_10 : decode prog_1_method_50_code 10 = .ok (.isub, 1) := by decide +kernel
theorem dd_H_isGood_11 : decode prog_1_method_50_code 11 = .ok (.invokestatic 66, 3) := by decide +kernel
theorem dd_H_isGood_14 : decode prog_1_method_50_code 14 = .ok (.ireturn, 1) := by decide +kernel
theorem dd_H_isOne_0 : decode prog_1_method_51_code 0 = .ok (.iload_n 1, 1) := by decide +kernel
theorem dd_H_isOne_1 : decode prog_1_method_51_code 1 = .ok (.iconst 0, 1) := by decide +kernel
theorem dd_H_isOne_2 : decode prog_1_method_51_code 2 = .ok (.aload_n 0, 1) := by decide +kernel
theorem dd_H_isOne_3 : decode prog_1_method_51_code 3 = .ok (.getfield 10, 3) := by decide +kernel
theorem dd_H_isOne_6 : decode prog_1_method_51_code 6 = .ok (.getfield 94, 3) := by decide +kernel
theorem dd_H_isOne_9 : decode prog_1_method_51_code 9 = .ok (.iconst 1, 1) := by decide +kernel
theorem dd_H_isOne_10 : decode prog_1_method_51_code 10 = .ok (.isub, 1) := by decide +kernel
theorem dd_H_isOne_11 : decode prog_1_method_51_code 11 = .ok (.invokestatic 66, 3) := by decide +kernel
theorem dd_H_isOne_14 : decode prog_1_method_51_code 14 = .ok (.ireturn, 1) := by decide +kernel
theorem dd_H_keptImages_0 : decode prog_1_method_52_code 0 = .ok (.iconst 0, 1) := by decide +kernel
theorem dd_H_keptImages_1 : decode prog_1_method_52_code 1 = .ok (.istore_n 1, 1) := by decide +kernel
theorem dd_H_keptImages_2 : decode prog_1_method_52_code 2 = .ok (.iconst 0, 1) := by decide +kernel
theorem dd_H_keptImages_3 : decode prog_1_method_52_code 3 = .ok (.istore_n 2, 1) := by decide +kernel
theorem dd_H_keptImages_4 : decode prog_1_method_52_code 4 = .ok (.iload_n 2, 1) := by decide +kernel
theorem dd_H_keptImages_5 : decode prog_1_method_52_code 5 = .ok (.iconst 2, 1) := by decide +kernel
theorem dd_H_keptImages_6 : decode prog_1_method_52_code 6 = .ok (.if_icmp .ge 21, 3) := by decide +kernel
theorem dd_H_keptImages_9 : decode prog_1_method_52_code 9 = .ok (.aload_n 0, 1) := by decide +kernel
theorem dd_H_keptImages_10 : decode prog_1_method_52_code 10 = .ok (.getfield 26, 3) := by decide +kernel
theorem dd_H_keptImages_13 : decode prog_1_method_52_code 13 = .ok (.iload_n 2, 1) := by decide +kernel
theorem dd_H_keptImages_14 : decode prog_1_method_52_code 14 = .ok (.baload, 1) := by decide +kernel
theorem dd_H_keptImages_15 : decode prog_1_method_52_code 15 = .ok (.ifCond .eq 6, 3) := by decide +kernel
theorem dd_H_keptImages_18 : decode prog_1_method_52_code 18 = .ok (.iinc 1 1, 3) := by decide +kernel
theorem dd_H_keptImages_21 : decode prog_1_method_52_code 21 = .ok (.iinc 2 1, 3) := by decide +kernel
theorem dd_H_keptImages_24 : decode prog_1_method_52_code 24 = .ok (.goto (-20), 3) := by decide +kernel
theorem dd_H_keptImages_27 : decode prog_1_method_52_code 27 = .ok (.iload_n 1, 1) := by decide +kernel
theorem dd_H_keptImages_28 : decode prog_1_method_52_code 28 = .ok (.ireturn, 1) := by decide +kernel
theorem dd_H_wagesAsItIs_0 : decode prog_1_method_53_code 0 = .ok (.aload_n 0, 1) := by decide +kernel
theorem dd_H_wagesAsItIs_1 : decode prog_1_method_53_code 1 = .ok (.getfield 16, 3) := by decide +kernel
theorem dd_H_wagesAsItIs_4 : decode prog_1_method_53_code 4 = .ok (.aload_n 0, 1) := by decide +kernel
theorem dd_H_wagesAsItIs_5 : decode prog_1_method_53_code 5 = .ok (.getfield 10, 3) := by decide +kernel
theorem dd_H_wagesAsItIs_8 : decode prog_1_method_53_code 8 = .ok (.invokevirtual 87, 3) := by decide +kernel
theorem dd_H_wagesAsItIs_11 : decode prog_1_method_53_code 11 = .ok (.aload_n 0, 1) := by decide +kernel
theorem dd_H_wagesAsItIs_12 : decode prog_1_method_53_code 12 = .ok (.getfield 16, 3) := by decide +kernel
theorem dd_H_wagesAsItIs_15 : decode prog_1_method_53_code 15 = .ok (.iload_n 1, 1) := by decide +kernel
theorem dd_H_wagesAsItIs_16 : decode prog_1_method_53_code 16 = .ok (.invokevirtual 187, 3) := by decide +kernel
theorem dd_H_wagesAsItIs_19 : decode prog_1_method_53_code 19 = .ok (.aload_n 0, 1) := by decide +kernel
theorem dd_H_wagesAsItIs_20 : decode prog_1_method_53_code 20 = .ok (.getfield 16, 3) := by decide +kernel
theorem dd_H_wagesAsItIs_23 : decode prog_1_method_53_code 23 = .ok (.invokevirtual 110, 3) := by decide +kernel
theorem dd_H_wagesAsItIs_26 : decode prog_1_method_53_code 26 = .ok (.ireturn, 1) := by decide +kernel
theorem dd_H_bestOrMore_0 : decode prog_1_method_54_code 0 = .ok (.iload_n 1, 1) := by decide +kernel
theorem dd_H_bestOrMore_1 : decode prog_1_method_54_code 1 = .ok (.bipush (-4), 2) := by decide +kernel
theorem dd_H_bestOrMore_3 : decode prog_1_method_54_code 3 = .ok (.if_icmp .ne 6, 3) := by decide +kernel
theorem dd_H_bestOrMore_6 : decode prog_1_method_54_code 6 = .ok (.bipush (-4), 2) := by decide +kernel
theorem dd_H_bestOrMore_8 : decode prog_1_method_54_code 8 = .ok (.ireturn, 1) := by decide +kernel
theorem dd_H_bestOrMore_9 : decode prog_1_method_54_code 9 = .ok (.iload_n 3, 1) := by decide +kernel
theorem dd_H_bestOrMore_10 : decode prog_1_method_54_code 10 = .ok (.ifCond .ne 7, 3) := by decide +kernel
theorem dd_H_bestOrMore_13 : decode prog_1_method_54_code 13 = .ok (.iload_n 1, 1) := by decide +kernel
theorem dd_H_bestOrMore_14 : decode prog_1_method_54_code 14 = .ok (.goto 12, 3) := by decide +kernel
theorem dd_H_bestOrMore_17 : decode prog_1_method_54_code 17 = .ok (.iload_n 2, 1) := by decide +kernel
theorem dd_H_bestOrMore_18 : decode prog_1_method_54_code 18 = .ok (.aload_n 0, 1) := by decide +kernel
theorem dd_H_bestOrMore_19 : decode prog_1_method_54_code 19 = .ok (.getfield 10, 3) := by decide +kernel
theorem dd_H_bestOrMore_22 : decode prog_1_method_54_code 22 = .ok (.invokevirtual 110, 3) := by decide +kernel
theorem dd_H_bestOrMore_25 : decode prog_1_method_54_code 25 = .ok (.isub, 1) := by decide +kernel
theorem dd_H_bestOrMore_26 : decode prog_1_method_54_code 26 = .ok (.ireturn, 1) := by decide +kernel
theorem dd_H_tryKind_0 : decode prog_1_method_55_code 0 = .ok (.aload_n 0, 1) := by decide +kernel
theorem dd_H_tryKind_1 : decode prog_1_method_55_code 1 = .ok (.getfield 16, 3) := by decide +kernel
theorem dd_H_tryKind_4 : decode prog_1_method_55_code 4 = .ok (.aload_n 0, 1) := by decide +kernel
theorem dd_H_tryKind_5 : decode prog_1_method_55_code 5 = .ok (.getfield 10, 3) := by decide +kernel
theorem dd_H_tryKind_8 : decode prog_1_method_55_code 8 = .ok (.invokevirtual 87, 3) := by decide +kernel
theorem dd_H_tryKind_11 : decode prog_1_method_55_code 11 = .ok (.aload_n 0, 1) := by decide +kernel
theorem dd_H_tryKind_12 : decode prog_1_method_55_code 12 = .ok (.getfield 16, 3) := by decide +kernel
theorem dd_H_tryKind_15 : decode prog_1_method_55_code 15 = .ok (.getfield 117, 3) := by decide +kernel
theorem dd_H_tryKind_18 : decode prog_1_method_55_code 18 = .ok (.iload_n 1, 1) := by decide +kernel
theorem dd_H_tryKind_19 : decode prog_1_method_55_code 19 = .ok (.aaload, 1) := by decide +kernel
theorem dd_H_tryKind_20 : decode prog_1_method_55_code 20 = .ok (.iload_n 2, 1) := by decide +kernel
theorem dd_H_tryKind_21 : decode prog_1_method_55_code 21 = .ok (.aload_n 0, 1) := by decide +kernel
theorem dd_H_tryKind_22 : decode prog_1_method_55_code 22 = .ok (.getfield 10, 3) := by decide +kernel
theorem dd_H_tryKind_25 : decode prog_1_method_55_code 25 = .ok (.getfield 117, 3) := by decide +kernel
theorem dd_H_tryKind_28 : decode prog_1_method_55_code 28 = .ok (.iload_n 1, 1) := by decide +kernel
theorem dd_H_tryKind_29 : decode prog_1_method_55_code 29 = .ok (.aaload, 1) := by decide +kernel
theorem dd_H_tryKind_30 : decode prog_1_method_55_code 30 = .ok (.getfield 126, 3) := by decide +kernel
theorem dd_H_tryKind_33 : decode prog_1_method_55_code 33 = .ok (.aload_n 0, 1) := by decide +kernel
theorem dd_H_tryKind_34 : decode prog_1_method_55_code 34 = .ok (.getfield 10, 3) := by decide +kernel
theorem dd_H_tryKind_37 : decode prog_1_method_55_code 37 = .ok (.getfield 117, 3) := by decide +kernel
theorem dd_H_tryKind_40 : decode prog_1_method_55_code 40 = .ok (.iload_n 1, 1) := by decide +kernel
theorem dd_H_tryKind_41 : decode prog_1_method_55_code 41 = .ok (.aaload, 1) := by decide +kernel
theorem dd_H_tryKind_42 : decode prog_1_method_55_code 42 = .ok (.getfield 129, 3) := by decide +kernel
theorem dd_H_tryKind_45 : decode prog_1_method_55_code 45 = .ok (.invokevirtual 170, 3) := by decide +kernel
theorem dd_H_tryKind_48 : decode prog_1_method_55_code 48 = .ok (.return_, 1) := by decide +kernel
theorem dd_H_illnesses_0 : decode prog_1_method_56_code 0 = .ok (.iconst 1, 1) := by decide +kernel
theorem dd_H_illnesses_1 : decode prog_1_method_56_code 1 = .ok (.aload_n 0, 1) := by decide +kernel
theorem dd_H_illnesses_2 : decode prog_1_method_56_code 2 = .ok (.getfield 10, 3) := by decide +kernel
theorem dd_H_illnesses_5 : decode prog_1_method_56_code 5 = .ok (.getfield 94, 3) := by decide +kernel
theorem dd_H_illnesses_8 : decode prog_1_method_56_code 8 = .ok (.ishl, 1) := by decide +kernel
theorem dd_H_illnesses_9 : decode prog_1_method_56_code 9 = .ok (.ireturn, 1) := by decide +kernel
theorem dd_H_waysOfIllness_0 : decode prog_1_method_57_code 0 = .ok (.lconst 1, 1) := by decide +kernel
theorem dd_H_waysOfIllness_1 : decode prog_1_method_57_code 1 = .ok (.lstore_n 3, 1) := by decide +kernel
theorem dd_H_waysOfIllness_2 : decode prog_1_method_57_code 2 = .ok (.iconst 0, 1) := by decide +kernel
theorem dd_H_waysOfIllness_3 : decode prog_1_method_57_code 3 = .ok (.istore 5, 2) := by decide +kernel
theorem dd_H_waysOfIllness_5 : decode prog_1_method_57_code 5 = .ok (.iload 5, 2) := by decide +kernel
theorem dd_H_waysOfIllness_7 : decode prog_1_method_57_code 7 = .ok (.aload_n 0, 1) := by decide +kernel
theorem dd_H_waysOfIllness_8 : decode prog_1_method_57_code 8 = .ok (.getfield 10, 3) := by decide +kernel
theorem dd_H_waysOfIllness_11 : decode prog_1_method_57_code 11 = .ok (.getfield 94, 3) := by decide +kernel
theorem dd_H_waysOfIllness_14 : decode prog_1_method_57_code 14 = .ok (.if_icmp .ge 31, 3) := by decide +kernel
theorem dd_H_waysOfIllness_17 : decode prog_1_method_57_code 17 = .ok (.lload_n 3, 1) := by decide +kernel
theorem dd_H_waysOfIllness_18 : decode prog_1_method_57_code 18 = .ok (.iload_n 2, 1) := by decide +kernel
theorem dd_H_waysOfIllness_19 : decode prog_1_method_57_code 19 = .ok (.iload 5, 2) := by decide +kernel
theorem dd_H_waysOfIllness_21 : decode prog_1_method_57_code 21 = .ok (.invokestatic 205, 3) := by decide +kernel
theorem dd_H_waysOfIllness_24 : decode prog_1_method_57_code 24 = .ok (.ifCond .eq 8, 3) := by decide +kernel
theorem dd_H_waysOfIllness_27 : decode prog_1_method_57_code 27 = .ok (.iload_n 1, 1) := by decide +kernel
theorem dd_H_waysOfIllness_28 : decode prog_1_method_57_code 28 = .ok (.i2l, 1) := by decide +kernel
theorem dd_H_waysOfIllness_29 : decode prog_1_method_57_code 29 = .ok (.goto 8, 3) := by decide +kernel
theorem dd_H_waysOfIllness_32 : decode prog_1_method_57_code 32 = .ok (.bipush 10, 2) := by decide +kernel
theorem dd_H_waysOfIllness_34 : decode prog_1_method_57_code 34 = .ok (.iload_n 1, 1) := by decide +kernel
theorem dd_H_waysOfIllness_35 : decode prog_1_method_57_code 35 = .ok (.isub, 1) := by decide +kernel
theorem dd_H_waysOfIllness_36 : decode prog_1_method_57_code 36 = .ok (.i2l, 1) := by decide +kernel
theorem dd_H_waysOfIllness_37 : decode prog_1_method_57_code 37 = .ok (.lmul, 1) := by decide +kernel
theorem dd_H_waysOfIllness_38 : decode prog_1_method_57_code 38 = .ok (.lstore_n 3, 1) := by decide +kernel
theorem dd_H_waysOfIllness_39 : decode prog_1_method_57_code 39 = .ok (.iinc 5 1, 3) := by decide +kernel
theorem dd_H_waysOfIllness_42 : decode prog_1_method_57_code 42 = .ok (.goto (-37), 3) := by decide +kernel
theorem dd_H_waysOfIllness_45 : decode prog_1_method_57_code 45 = .ok (.lload_n 3, 1) := by decide +kernel
theorem dd_H_waysOfIllness_46 : decode prog_1_method_57_code 46 = .ok (.lreturn, 1) := by decide +kernel
theorem dd_H_allWaysOfIllness_0 : decode prog_1_method_58_code 0 = .ok (.lconst 1, 1) := by decide +kernel
theorem dd_H_allWaysOfIllness_1 : decode prog_1_method_58_code 1 = .ok (.lstore_n 1, 1) := by decide +kernel
theorem dd_H_allWaysOfIllness_2 : decode prog_1_method_58_code 2 = .ok (.iconst 0, 1) := by decide +kernel
theorem dd_H_allWaysOfIllness_3 : decode prog_1_method_58_code 3 = .ok (.istore_n 3, 1) := by decide +kernel
theorem dd_H_allWaysOfIllness_4 : decode prog_1_method_58_code 4 = .ok (.iload_n 3, 1) := by decide +kernel
theorem dd_H_allWaysOfIllness_5 : decode prog_1_method_58_code 5 = .ok (.aload_n 0, 1) := by decide +kernel
theorem dd_H_allWaysOfIllness_6 : decode prog_1_method_58_code 6 = .ok (.getfield 10, 3) := by decide +kernel
theorem dd_H_allWaysOfIllness_9 : decode prog_1_method_58_code 9 = .ok (.getfield 94, 3) := by decide +kernel
theorem dd_H_allWaysOfIllness_12 : decode prog_1_method_58_code 12 = .ok (.if_icmp .ge 15, 3) := by decide +kernel
theorem dd_H_allWaysOfIllness_15 : decode prog_1_method_58_code 15 = .ok (.lload_n 1, 1) := by decide +kernel
theorem dd_H_allWaysOfIllness_16 : decode prog_1_method_58_code 16 = .ok (.ldc2_w 317, 3) := by decide +kernel
theorem dd_H_allWaysOfIllness_19 : decode prog_1_method_58_code 19 = .ok (.lmul, 1) := by decide +kernel
theorem dd_H_allWaysOfIllness_20 : decode prog_1_method_58_code 20 = .ok (.lstore_n 1, 1) := by decide +kernel
theorem dd_H_allWaysOfIllness_21 : decode prog_1_method_58_code 21 = .ok (.iinc 3 1, 3) := by decide +kernel
theorem dd_H_allWaysOfIllness_24 : decode prog_1_method_58_code 24 = .ok (.goto (-20), 3) := by decide +kernel
theorem dd_H_allWaysOfIllness_27 : decode prog_1_method_58_code 27 = .ok (.lload_n 1, 1) := by decide +kernel
theorem dd_H_allWaysOfIllness_28 : decode prog_1_method_58_code 28 = .ok (.lreturn, 1) := by decide +kernel
theorem dd_H_gainsBehindWeek_0 : decode prog_1_method_59_code 0 = .ok (.lconst 0, 1) := by decide +kernel
theorem dd_H_gainsBehindWeek_1 : decode prog_1_method_59_code 1 = .ok (.lstore_n 3, 1) := by decide +kernel
theorem dd_H_gainsBehindWeek_2 : decode prog_1_method_59_code 2 = .ok (.iconst 0, 1) := by decide +kernel
theorem dd_H_gainsBehindWeek_3 : decode prog_1_method_59_code 3 = .ok (.istore 5, 2) := by decide +kernel
theorem dd_H_gainsBehindWeek_5 : decode prog_1_method_59_code 5 = .ok (.iload 5, 2) := by decide +kernel
theorem dd_H_gainsBehindWeek_7 : decode prog_1_method_59_code 7 = .ok (.aload_n 0, 1) := by decide +kernel
theorem dd_H_gainsBehindWeek_8 : decode prog_1_method_59_code 8 = .ok (.invokevirtual 231, 3) := by decide +kernel
theorem dd_H_gainsBehindWeek_11 : decode prog_1_method_59_code 11 = .ok (.if_icmp .ge 64, 3) := by decide +kernel
theorem dd_H_gainsBehindWeek_14 : decode prog_1_method_59_code 14 = .ok (.aload_n 0, 1) := by decide +kernel
theorem dd_H_gainsBehindWeek_15 : decode prog_1_method_59_code 15 = .ok (.iload_n 2, 1) := by decide +kernel
theorem dd_H_gainsBehindWeek_16 : decode prog_1_method_59_code 16 = .ok (.iload 5, 2) := by decide +kernel
theorem dd_H_gainsBehindWeek_18 : decode prog_1_method_59_code 18 = .ok (.invokevirtual 234, 3) := by decide +kernel
theorem dd_H_gainsBehindWeek_21 : decode prog_1_method_59_code 21 = .ok (.lstore 6, 2) := by decide +kernel
theorem dd_H_gainsBehindWeek_23 : decode prog_1_method_59_code 23 = .ok (.lload 6, 2) := by decide +kernel
theorem dd_H_gainsBehindWeek_25 : decode prog_1_method_59_code 25 = .ok (.lconst 0, 1) := by decide +kernel
theorem dd_H_gainsBehindWeek_26 : decode prog_1_method_59_code 26 = .ok (.lcmp, 1) := by decide +kernel
theorem dd_H_gainsBehindWeek_27 : decode prog_1_method_59_code 27 = .ok (.ifCond .eq 42, 3) := by decide +kernel
theorem dd_H_gainsBehindWeek_30 : decode prog_1_method_59_code 30 = .ok (.aload_n 0, 1) := by decide +kernel
theorem dd_H_gainsBehindWeek_31 : decode prog_1_method_59_code 31 = .ok (.getfield 16, 3) := by decide +kernel
theorem dd_H_gainsBehindWeek_34 : decode prog_1_method_59_code 34 = .ok (.aload_n 1, 1) := by decide +kernel
theorem dd_H_gainsBehindWeek_35 : decode prog_1_method_59_code 35 = .ok (.invokevirtual 87, 3) := by decide +kernel
theorem dd_H_gainsBehindWeek_38 : decode prog_1_method_59_code 38 = .ok (.aload_n 0, 1) := by decide +kernel
theorem dd_H_gainsBehindWeek_39 : decode prog_1_method_59_code 39 = .ok (.getfield 16, 3) := by decide +kernel
theorem dd_H_gainsBehindWeek_42 : decode prog_1_method_59_code 42 = .ok (.iload 5, 2) := by decide +kernel
theorem dd_H_gainsBehindWeek_44 : decode prog_1_method_59_code 44 = .ok (.invokevirtual 199, 3) := by decide +kernel
theorem dd_H_gainsBehindWeek_47 : decode prog_1_method_59_code 47 = .ok (.lload_n 3, 1) := by decide +kernel
theorem dd_H_gainsBehindWeek_48 : decode prog_1_method_59_code 48 = .ok (.lload 6, 2) := by decide +kernel
theorem dd_H_gainsBehindWeek_50 : decode prog_1_method_59_code 50 = .ok (.aload_n 0, 1) := by decide +kernel
theorem dd_H_gainsBehindWeek_51 : decode prog_1_method_59_code 51 = .ok (.getfield 16, 3) := by decide +kernel
theorem dd_H_gainsBehindWeek_54 : decode prog_1_method_59_code 54 = .ok (.invokevirtual 110, 3) := by decide +kernel
theorem dd_H_gainsBehindWeek_57 : decode prog_1_method_59_code 57 = .ok (.aload_n 0, 1) := by decide +kernel
theorem dd_H_gainsBehindWeek_58 : decode prog_1_method_59_code 58 = .ok (.getfield 10, 3) := by decide +kernel
theorem dd_H_gainsBehindWeek_61 : decode prog_1_method_59_code 61 = .ok (.invokevirtual 110, 3) := by decide +kernel
theorem dd_H_gainsBehindWeek_64 : decode prog_1_method_59_code 64 = .ok (.isub, 1) := by decide +kernel
theorem dd_H_gainsBehindWeek_65 : decode prog_1_method_59_code 65 = .ok (.i2l, 1) := by decide +kernel
theorem dd_H_gainsBehindWeek_66 : decode prog_1_method_59_code 66 = .ok (.lmul, 1) := by decide +kernel
theorem dd_H_gainsBehindWeek_67 : decode prog_1_method_59_code 67 = .ok (.ladd, 1) := by decide +kernel
theorem dd_H_gainsBehindWeek_68 : decode prog_1_method_59_code 68 = .ok (.lstore_n 3, 1) := by decide +kernel
theorem dd_H_gainsBehindWeek_69 : decode prog_1_method_59_code 69 = .ok (.iinc 5 1, 3) := by decide +kernel
theorem dd_H_gainsBehindWeek_72 : decode prog_1_method_59_code 72 = .ok (.goto (-67), 3) := by decide +kernel
theorem dd_H_gainsBehindWeek_75 : decode prog_1_method_59_code 75 = .ok (.lload_n 3, 1) := by decide +kernel
theorem dd_H_gainsBehindWeek_76 : decode prog_1_method_59_code 76 = .ok (.lreturn, 1) := by decide +kernel
theorem dd_H_gainsBehindTwoWeeks_0 : decode prog_1_method_60_code 0 = .ok (.lconst 0, 1) := by decide +kernel
theorem dd_H_gainsBehindTwoWeeks_1 : decode prog_1_method_60_code 1 = .ok (.lstore_n 2, 1) := by decide +kernel
theorem dd_H_gainsBehindTwoWeeks_2 : decode prog_1_method_60_code 2 = .ok (.iconst 0, 1) := by decide +kernel
theorem dd_H_gainsBehindTwoWeeks_3 : decode prog_1_method_60_code 3 = .ok (.istore 4, 2) := by decide +kernel
theorem dd_H_gainsBehindTwoWeeks_5 : decode prog_1_method_60_code 5 = .ok (.iload 4, 2) := by decide +kernel
theorem dd_H_gainsBehindTwoWeeks_7 : decode prog_1_method_60_code 7 = .ok (.aload_n 0, 1) := by decide +kernel
theorem dd_H_gainsBehindTwoWeeks_8 : decode prog_1_method_60_code 8 = .ok (.invokevirtual 231, 3) := by decide +kernel
theorem dd_H_gainsBehindTwoWeeks_11 : decode prog_1_method_60_code 11 = .ok (.if_icmp .ge 60, 3) := by decide +kernel
theorem dd_H_gainsBehindTwoWeeks_14 : decode prog_1_method_60_code 14 = .ok (.aload_n 0, 1) := by decide +kernel
theorem dd_H_gainsBehindTwoWeeks_15 : decode prog_1_method_60_code 15 = .ok (.iload_n 1, 1) := by decide +kernel
theorem dd_H_gainsBehindTwoWeeks_16 : decode prog_1_method_60_code 16 = .ok (.iload 4, 2) := by decide +kernel
theorem dd_H_gainsBehindTwoWeeks_18 : decode prog_1_method_60_code 18 = .ok (.invokevirtual 234, 3) := by decide +kernel
theorem dd_H_gainsBehindTwoWeeks_21 : decode prog_1_method_60_code 21 = .ok (.lstore 5, 2) := by decide +kernel
theorem dd_H_gainsBehindTwoWeeks_23 : decode prog_1_method_60_code 23 = .ok (.lload 5, 2) := by decide +kernel
theorem dd_H_gainsBehindTwoWeeks_25 : decode prog_1_method_60_code 25 = .ok (.lconst 0, 1) := by decide +kernel
theorem dd_H_gainsBehindTwoWeeks_26 : decode prog_1_method_60_code 26 = .ok (.lcmp, 1) := by decide +kernel
theorem dd_H_gainsBehindTwoWeeks_27 : decode prog_1_method_60_code 27 = .ok (.ifCond .eq 38, 3) := by decide +kernel
theorem dd_H_gainsBehindTwoWeeks_30 : decode prog_1_method_60_code 30 = .ok (.aload_n 0, 1) := by decide +kernel
theorem dd_H_gainsBehindTwoWeeks_31 : decode prog_1_method_60_code 31 = .ok (.getfield 19, 3) := by decide +kernel
theorem dd_H_gainsBehindTwoWeeks_34 : decode prog_1_method_60_code 34 = .ok (.aload_n 0, 1) := by decide +kernel
theorem dd_H_gainsBehindTwoWeeks_35 : decode prog_1_method_60_code 35 = .ok (.getfield 10, 3) := by decide +kernel
theorem dd_H_gainsBehindTwoWeeks_38 : decode prog_1_method_60_code 38 = .ok (.invokevirtual 87, 3) := by decide +kernel
theorem dd_H_gainsBehindTwoWeeks_41 : decode prog_1_method_60_code 41 = .ok (.aload_n 0, 1) := by decide +kernel
theorem dd_H_gainsBehindTwoWeeks_42 : decode prog_1_method_60_code 42 = .ok (.getfield 19, 3) := by decide +kernel
theorem dd_H_gainsBehindTwoWeeks_45 : decode prog_1_method_60_code 45 = .ok (.iload 4, 2) := by decide +kernel
theorem dd_H_gainsBehindTwoWeeks_47 : decode prog_1_method_60_code 47 = .ok (.invokevirtual 199, 3) := by decide +kernel
theorem dd_H_gainsBehindTwoWeeks_50 : decode prog_1_method_60_code 50 = .ok (.lload_n 2, 1) := by decide +kernel
theorem dd_H_gainsBehindTwoWeeks_51 : decode prog_1_method_60_code 51 = .ok (.lload 5, 2) := by decide +kernel
theorem dd_H_gainsBehindTwoWeeks_53 : decode prog_1_method_60_code 53 = .ok (.aload_n 0, 1) := by decide +kernel
theorem dd_H_gainsBehindTwoWeeks_54 : decode prog_1_method_60_code 54 = .ok (.aload_n 0, 1) := by decide +kernel
theorem dd_H_gainsBehindTwoWeeks_55 : decode prog_1_method_60_code 55 = .ok (.getfield 19, 3) := by decide +kernel
theorem dd_H_gainsBehindTwoWeeks_58 : decode prog_1_method_60_code 58 = .ok (.iload_n 1, 1) := by decide +kernel
theorem dd_H_gainsBehindTwoWeeks_59 : decode prog_1_method_60_code 59 = .ok (.invokevirtual 246, 3) := by decide +kernel
theorem dd_H_gainsBehindTwoWeeks_62 : decode prog_1_method_60_code 62 = .ok (.lmul, 1) := by decide +kernel
theorem dd_H_gainsBehindTwoWeeks_63 : decode prog_1_method_60_code 63 = .ok (.ladd, 1) := by decide +kernel
theorem dd_H_gainsBehindTwoWeeks_64 : decode prog_1_method_60_code 64 = .ok (.lstore_n 2, 1) := by decide +kernel
theorem dd_H_gainsBehindTwoWeeks_65 : decode prog_1_method_60_code 65 = .ok (.iinc 4 1, 3) := by decide +kernel
theorem dd_H_gainsBehindTwoWeeks_68 : decode prog_1_method_60_code 68 = .ok (.goto (-63), 3) := by decide +kernel
theorem dd_H_gainsBehindTwoWeeks_71 : decode prog_1_method_60_code 71 = .ok (.lload_n 2, 1) := by decide +kernel
theorem dd_H_gainsBehindTwoWeeks_72 : decode prog_1_method_60_code 72 = .ok (.lreturn, 1) := by decide +kernel
theorem dd_H_partOfFraction_0 : decode prog_1_method_61_code 0 = .ok (.lload_n 0, 1) := by decide +kernel
theorem dd_H_partOfFraction_1 : decode prog_1_method_61_code 1 = .ok (.lload_n 2, 1) := by decide +kernel
theorem dd_H_partOfFraction_2 : decode prog_1_method_61_code 2 = .ok (.invokestatic 319, 3) := by decide +kernel
theorem dd_H_partOfFraction_5 : decode prog_1_method_61_code 5 = .ok (.lstore 5, 2) := by decide +kernel
theorem dd_H_partOfFraction_7 : decode prog_1_method_61_code 7 = .ok (.lload 5, 2) := by decide +kernel
theorem dd_H_partOfFraction_9 : decode prog_1_method_61_code 9 = .ok (.lconst 0, 1) := by decide +kernel
theorem dd_H_partOfFraction_10 : decode prog_1_method_61_code 10 = .ok (.lcmp, 1) := by decide +kernel
theorem dd_H_partOfFraction_11 : decode prog_1_method_61_code 11 = .ok (.ifCond .ne 5, 3) := by decide +kernel
theorem dd_H_partOfFraction_14 : decode prog_1_method_61_code 14 = .ok (.lconst 0, 1) := by decide +kernel
theorem dd_H_partOfFraction_15 : decode prog_1_method_61_code 15 = .ok (.lreturn, 1) := by decide +kernel
theorem dd_H_partOfFraction_16 : decode prog_1_method_61_code 16 = .ok (.iload 4, 2) := by decide +kernel
theorem dd_H_partOfFraction_18 : decode prog_1_method_61_code 18 = .ok (.ifCond .ne 7, 3) := by decide +kernel
theorem dd_H_partOfFraction_21 : decode prog_1_method_61_code 21 = .ok (.lload_n 0, 1) := by decide +kernel
theorem dd_H_partOfFraction_22 : decode prog_1_method_61_code 22 = .ok (.goto 4, 3) := by decide +kernel
theorem dd_H_partOfFraction_25 : decode prog_1_method_61_code 25 = .ok (.lload_n 2, 1) := by decide +kernel
theorem dd_H_partOfFraction_26 : decode prog_1_method_61_code 26 = .ok (.lload 5, 2) := by decide +kernel
theorem dd_H_partOfFraction_28 : decode prog_1_method_61_code 28 = .ok (.ldiv, 1) := by decide +kernel
theorem dd_H_partOfFraction_29 : decode prog_1_method_61_code 29 = .ok (.lreturn, 1) := by decide +kernel
theorem dd_H_commonDivisor_0 : decode prog_1_method_62_code 0 = .ok (.lload_n 0, 1) := by decide +kernel
theorem dd_H_commonDivisor_1 : decode prog_1_method_62_code 1 = .ok (.lstore 4, 2) := by decide +kernel
theorem dd_H_commonDivisor_3 : decode prog_1_method_62_code 3 = .ok (.lload_n 2, 1) := by decide +kernel
theorem dd_H_commonDivisor_4 : decode prog_1_method_62_code 4 = .ok (.lstore 6, 2) := by decide +kernel
theorem dd_H_commonDivisor_6 : decode prog_1_method_62_code 6 = .ok (.iconst 0, 1) := by decide +kernel
theorem dd_H_commonDivisor_7 : decode prog_1_method_62_code 7 = .ok (.istore 8, 2) := by decide +kernel
theorem dd_H_commonDivisor_9 : decode prog_1_method_62_code 9 = .ok (.iload 8, 2) := by decide +kernel
theorem dd_H_commonDivisor_11 : decode prog_1_method_62_code 11 = .ok (.bipush 100, 2) := by decide +kernel
theorem dd_H_commonDivisor_13 : decode prog_1_method_62_code 13 = .ok (.if_icmp .ge 31, 3) := by decide +kernel
theorem dd_H_commonDivisor_16 : decode prog_1_method_62_code 16 = .ok (.lload 6, 2) := by decide +kernel
theorem dd_H_commonDivisor_18 : decode prog_1_method_62_code 18 = .ok (.lconst 0, 1) := by decide +kernel
theorem dd_H_commonDivisor_19 : decode prog_1_method_62_code 19 = .ok (.lcmp, 1) := by decide +kernel
theorem dd_H_commonDivisor_20 : decode prog_1_method_62_code 20 = .ok (.ifCond .eq 24, 3) := by decide +kernel
theorem dd_H_commonDivisor_23 : decode prog_1_method_62_code 23 = .ok (.lload 4, 2) := by decide +kernel
theorem dd_H_commonDivisor_25 : decode prog_1_method_62_code 25 = .ok (.lload 6, 2) := by decide +kernel
theorem dd_H_commonDivisor_27 : decode prog_1_method_62_code 27 = .ok (.lrem, 1) := by decide +kernel
theorem dd_H_commonDivisor_28 : decode prog_1_method_62_code 28 = .ok (.lstore 9, 2) := by decide +kernel
theorem dd_H_commonDivisor_30 : decode prog_1_method_62_code 30 = .ok (.lload 6, 2) := by decide +kernel
theorem dd_H_commonDivisor_32 : decode prog_1_method_62_code 32 = .ok (.lstore 4, 2) := by decide +kernel
theorem dd_H_commonDivisor_34 : decode prog_1_method_62_code 34 = .ok (.lload 9, 2) := by decide +kernel
theorem dd_H_commonDivisor_36 : decode prog_1_method_62_code 36 = .ok (.lstore 6, 2) := by decide +kernel
theorem dd_H_commonDivisor_38 : decode prog_1_method_62_code 38 = .ok (.iinc 8 1, 3) := by decide +kernel
theorem dd_H_commonDivisor_41 : decode prog_1_method_62_code 41 = .ok (.goto (-32), 3) := by decide +kernel
theorem dd_H_commonDivisor_44 : decode prog_1_method_62_code 44 = .ok (.lload 4, 2) := by decide +kernel
theorem dd_H_commonDivisor_46 : decode prog_1_method_62_code 46 = .ok (.lreturn, 1) := by decide +kernel
theorem dd_H_trialGoesAsSeen_0 : decode prog_1_method_63_code 0 = .ok (.aload_n 0, 1) := by decide +kernel
theorem dd_H_trialGoesAsSeen_1 : decode prog_1_method_63_code 1 = .ok (.invokevirtual 323, 3) := by decide +kernel
theorem dd_H_trialGoesAsSeen_4 : decode prog_1_method_63_code 4 = .ok (.istore_n 1, 1) := by decide +kernel
theorem dd_H_trialGoesAsSeen_5 : decode prog_1_method_63_code 5 = .ok (.iconst 0, 1) := by decide +kernel
theorem dd_H_trialGoesAsSeen_6 : decode prog_1_method_63_code 6 = .ok (.istore_n 2, 1) := by decide +kernel
theorem dd_H_trialGoesAsSeen_7 : decode prog_1_method_63_code 7 = .ok (.iload_n 2, 1) := by decide +kernel
theorem dd_H_trialGoesAsSeen_8 : decode prog_1_method_63_code 8 = .ok (.iload_n 1, 1) := by decide +kernel
theorem dd_H_trialGoesAsSeen_9 : decode prog_1_method_63_code 9 = .ok (.if_icmp .ge 27, 3) := by decide +kernel
theorem dd_H_trialGoesAsSeen_12 : decode prog_1_method_63_code 12 = .ok (.aload_n 0, 1) := by decide +kernel
theorem dd_H_trialGoesAsSeen_13 : decode prog_1_method_63_code 13 = .ok (.iload_n 2, 1) := by decide +kernel
theorem dd_H_trialGoesAsSeen_14 : decode prog_1_method_63_code 14 = .ok (.invokevirtual 326, 3) := by decide +kernel
theorem dd_H_trialGoesAsSeen_17 : decode prog_1_method_63_code 17 = .ok (.ifCond .ne 5, 3) := by decide +kernel
theorem dd_H_trialGoesAsSeen_20 : decode prog_1_method_63_code 20 = .ok (.iconst 0, 1) := by decide +kernel
theorem dd_H_trialGoesAsSeen_21 : decode prog_1_method_63_code 21 = .ok (.ireturn, 1) := by decide +kernel
theorem dd_H_trialGoesAsSeen_22 : decode prog_1_method_63_code 22 = .ok (.aload_n 0, 1) := by decide +kernel
theorem dd_H_trialGoesAsSeen_23 : decode prog_1_method_63_code 23 = .ok (.getfield 16, 3) := by decide +kernel
theorem dd_H_trialGoesAsSeen_26 : decode prog_1_method_63_code 26 = .ok (.iconst 0, 1) := by decide +kernel
theorem dd_H_trialGoesAsSeen_27 : decode prog_1_method_63_code 27 = .ok (.invokevirtual 199, 3) := by decide +kernel
theorem dd_H_trialGoesAsSeen_30 : decode prog_1_method_63_code 30 = .ok (.iinc 2 1, 3) := by decide +kernel
theorem dd_H_trialGoesAsSeen_33 : decode prog_1_method_63_code 33 = .ok (.goto (-26), 3) := by decide +kernel
theorem dd_H_trialGoesAsSeen_36 : decode prog_1_method_63_code 36 = .ok (.aload_n 0, 1) := by decide +kernel
theorem dd_H_trialGoesAsSeen_37 : decode prog_1_method_63_code 37 = .ok (.iload_n 1, 1) := by decide +kernel
theorem dd_H_trialGoesAsSeen_38 : decode prog_1_method_63_code 38 = .ok (.invokevirtual 326, 3) := by decide +kernel
theorem dd_H_trialGoesAsSeen_41 : decode prog_1_method_63_code 41 = .ok (.ireturn, 1) := by decide +kernel
theorem dd_H_trialIsAsSeen_0 : decode prog_1_method_64_code 0 = .ok (.iconst 0, 1) := by decide +kernel
theorem dd_H_trialIsAsSeen_1 : decode prog_1_method_64_code 1 = .ok (.istore_n 2, 1) := by decide +kernel
theorem dd_H_trialIsAsSeen_2 : decode prog_1_method_64_code 2 = .ok (.iload_n 2, 1) := by decide +kernel
theorem dd_H_trialIsAsSeen_3 : decode prog_1_method_64_code 3 = .ok (.aload_n 0, 1) := by decide +kernel
theorem dd_H_trialIsAsSeen_4 : decode prog_1_method_64_code 4 = .ok (.getfield 54, 3) := by decide +kernel
theorem dd_H_trialIsAsSeen_7 : decode prog_1_method_64_code 7 = .ok (.if_icmp .ge 48, 3) := by decide +kernel
theorem dd_H_trialIsAsSeen_10 : decode prog_1_method_64_code 10 = .ok (.aload_n 0, 1) := by decide +kernel
theorem dd_H_trialIsAsSeen_11 : decode prog_1_method_64_code 11 = .ok (.getfield 45, 3) := by decide +kernel
theorem dd_H_trialIsAsSeen_14 : decode prog_1_method_64_code 14 = .ok (.iload_n 2, 1) := by decide +kernel
theorem dd_H_trialIsAsSeen_15 : decode prog_1_method_64_code 15 = .ok (.aaload, 1) := by decide +kernel
theorem dd_H_trialIsAsSeen_16 : decode prog_1_method_64_code 16 = .ok (.astore_n 3, 1) := by decide +kernel
theorem dd_H_trialIsAsSeen_17 : decode prog_1_method_64_code 17 = .ok (.aload_n 3, 1) := by decide +kernel
theorem dd_H_trialIsAsSeen_18 : decode prog_1_method_64_code 18 = .ok (.getfield 254, 3) := by decide +kernel
theorem dd_H_trialIsAsSeen_21 : decode prog_1_method_64_code 21 = .ok (.iload_n 1, 1) := by decide +kernel
theorem dd_H_trialIsAsSeen_22 : decode prog_1_method_64_code 22 = .ok (.if_icmp .ne 27, 3) := by decide +kernel
theorem dd_H_trialIsAsSeen_25 : decode prog_1_method_64_code 25 = .ok (.aload_n 0, 1) := by decide +kernel
theorem dd_H_trialIsAsSeen_26 : decode prog_1_method_64_code 26 = .ok (.getfield 16, 3) := by decide +kernel
theorem dd_H_trialIsAsSeen_29 : decode prog_1_method_64_code 29 = .ok (.getfield 145, 3) := by decide +kernel
theorem dd_H_trialIsAsSeen_32 : decode prog_1_method_64_code 32 = .ok (.aload_n 3, 1) := by decide +kernel
theorem dd_H_trialIsAsSeen_33 : decode prog_1_method_64_code 33 = .ok (.getfield 257, 3) := by decide +kernel
theorem dd_H_trialIsAsSeen_36 : decode prog_1_method_64_code 36 = .ok (.aaload, 1) := by decide +kernel
theorem dd_H_trialIsAsSeen_37 : decode prog_1_method_64_code 37 = .ok (.getfield 154, 3) := by decide +kernel
theorem dd_H_trialIsAsSeen_40 : decode prog_1_method_64_code 40 = .ok (.aload_n 3, 1) := by decide +kernel
theorem dd_H_trialIsAsSeen_41 : decode prog_1_method_64_code 41 = .ok (.getfield 260, 3) := by decide +kernel
theorem dd_H_trialIsAsSeen_44 : decode prog_1_method_64_code 44 = .ok (.if_icmp .eq 5, 3) := by decide +kernel
theorem dd_H_trialIsAsSeen_47 : decode prog_1_method_64_code 47 = .ok (.iconst 0, 1) := by decide +kernel
theorem dd_H_trialIsAsSeen_48 : decode prog_1_method_64_code 48 = .ok (.ireturn, 1) := by decide +kernel
theorem dd_H_trialIsAsSeen_49 : decode prog_1_method_64_code 49 = .ok (.iinc 2 1, 3) := by decide +kernel
theorem dd_H_trialIsAsSeen_52 : decode prog_1_method_64_code 52 = .ok (.goto (-50), 3) := by decide +kernel
theorem dd_H_trialIsAsSeen_55 : decode prog_1_method_64_code 55 = .ok (.iconst 1, 1) := by decide +kernel
theorem dd_H_trialIsAsSeen_56 : decode prog_1_method_64_code 56 = .ok (.ireturn, 1) := by decide +kernel
theorem dd_H_lastWeekSeen_0 : decode prog_1_method_65_code 0 = .ok (.iconst 0, 1) := by decide +kernel
theorem dd_H_lastWeekSeen_1 : decode prog_1_method_65_code 1 = .ok (.istore_n 1, 1) := by decide +kernel
theorem dd_H_lastWeekSeen_2 : decode prog_1_method_65_code 2 = .ok (.iconst 0, 1) := by decide +kernel
theorem dd_H_lastWeekSeen_3 : decode prog_1_method_65_code 3 = .ok (.istore_n 2, 1) := by decide +kernel
theorem dd_H_lastWeekSeen_4 : decode prog_1_method_65_code 4 = .ok (.iload_n 2, 1) := by decide +kernel
theorem dd_H_lastWeekSeen_5 : decode prog_1_method_65_code 5 = .ok (.aload_n 0, 1) := by decide +kernel
theorem dd_H_lastWeekSeen_6 : decode prog_1_method_65_code 6 = .ok (.getfield 54, 3) := by decide +kernel
theorem dd_H_lastWeekSeen_9 : decode prog_1_method_65_code 9 = .ok (.if_icmp .ge 23, 3) := by decide +kernel
theorem dd_H_lastWeekSeen_12 : decode prog_1_method_65_code 12 = .ok (.iload_n 1, 1) := by decide +kernel
theorem dd_H_lastWeekSeen_13 : decode prog_1_method_65_code 13 = .ok (.aload_n 0, 1) := by decide +kernel
theorem dd_H_lastWeekSeen_14 : decode prog_1_method_65_code 14 = .ok (.getfield 45, 3) := by decide +kernel
theorem dd_H_lastWeekSeen_17 : decode prog_1_method_65_code 17 = .ok (.iload_n 2, 1) := by decide +kernel
theorem dd_H_lastWeekSeen_18 : decode prog_1_method_65_code 18 = .ok (.aaload, 1) := by decide +kernel
theorem dd_H_lastWeekSeen_19 : decode prog_1_method_65_code 19 = .ok (.getfield 254, 3) := by decide +kernel
theorem dd_H_lastWeekSeen_22 : decode prog_1_method_65_code 22 = .ok (.invokestatic 329, 3) := by decide +kernel
theorem dd_H_lastWeekSeen_25 : decode prog_1_method_65_code 25 = .ok (.istore_n 1, 1) := by decide +kernel
theorem dd_H_lastWeekSeen_26 : decode prog_1_method_65_code 26 = .ok (.iinc 2 1, 3) := by decide +kernel
theorem dd_H_lastWeekSeen_29 : decode prog_1_method_65_code 29 = .ok (.goto (-25), 3) := by decide +kernel
theorem dd_H_lastWeekSeen_32 : decode prog_1_method_65_code 32 = .ok (.iload_n 1, 1) := by decide +kernel
theorem dd_H_lastWeekSeen_33 : decode prog_1_method_65_code 33 = .ok (.ireturn, 1) := by decide +kernel
theorem dd_H_strengthsAsSeen_0 : decode prog_1_method_66_code 0 = .ok (.iconst 0, 1) := by decide +kernel
theorem dd_H_strengthsAsSeen_1 : decode prog_1_method_66_code 1 = .ok (.istore_n 2, 1) := by decide +kernel
theorem dd_H_strengthsAsSeen_2 : decode prog_1_method_66_code 2 = .ok (.iconst 1, 1) := by decide +kernel
theorem dd_H_strengthsAsSeen_3 : decode prog_1_method_66_code 3 = .ok (.istore_n 3, 1) := by decide +kernel
theorem dd_H_strengthsAsSeen_4 : decode prog_1_method_66_code 4 = .ok (.iload_n 3, 1) := by decide +kernel
theorem dd_H_strengthsAsSeen_5 : decode prog_1_method_66_code 5 = .ok (.bipush 20, 2) := by decide +kernel
theorem dd_H_strengthsAsSeen_7 : decode prog_1_method_66_code 7 = .ok (.if_icmp .gt 46, 3) := by decide +kernel
theorem dd_H_strengthsAsSeen_10 : decode prog_1_method_66_code 10 = .ok (.aload_n 0, 1) := by decide +kernel
theorem dd_H_strengthsAsSeen_11 : decode prog_1_method_66_code 11 = .ok (.getfield 16, 3) := by decide +kernel
theorem dd_H_strengthsAsSeen_14 : decode prog_1_method_66_code 14 = .ok (.aload_n 0, 1) := by decide +kernel
theorem dd_H_strengthsAsSeen_15 : decode prog_1_method_66_code 15 = .ok (.getfield 10, 3) := by decide +kernel
theorem dd_H_strengthsAsSeen_18 : decode prog_1_method_66_code 18 = .ok (.invokevirtual 87, 3) := by decide +kernel
theorem dd_H_strengthsAsSeen_21 : decode prog_1_method_66_code 21 = .ok (.aload_n 0, 1) := by decide +kernel
theorem dd_H_strengthsAsSeen_22 : decode prog_1_method_66_code 22 = .ok (.getfield 16, 3) := by decide +kernel
theorem dd_H_strengthsAsSeen_25 : decode prog_1_method_66_code 25 = .ok (.getfield 145, 3) := by decide +kernel
theorem dd_H_strengthsAsSeen_28 : decode prog_1_method_66_code 28 = .ok (.iload_n 1, 1) := by decide +kernel
theorem dd_H_strengthsAsSeen_29 : decode prog_1_method_66_code 29 = .ok (.aaload, 1) := by decide +kernel
theorem dd_H_strengthsAsSeen_30 : decode prog_1_method_66_code 30 = .ok (.iload_n 3, 1) := by decide +kernel
theorem dd_H_strengthsAsSeen_31 : decode prog_1_method_66_code 31 = .ok (.putfield 149, 3) := by decide +kernel
theorem dd_H_strengthsAsSeen_34 : decode prog_1_method_66_code 34 = .ok (.aload_n 0, 1) := by decide +kernel
theorem dd_H_strengthsAsSeen_35 : decode prog_1_method_66_code 35 = .ok (.invokevirtual 261, 3) := by decide +kernel
theorem dd_H_strengthsAsSeen_38 : decode prog_1_method_66_code 38 = .ok (.ifCond .eq 9, 3) := by decide +kernel
theorem dd_H_strengthsAsSeen_41 : decode prog_1_method_66_code 41 = .ok (.iload_n 2, 1) := by decide +kernel
theorem dd_H_strengthsAsSeen_42 : decode prog_1_method_66_code 42 = .ok (.iconst 1, 1) := by decide +kernel
theorem dd_H_strengthsAsSeen_43 : decode prog_1_method_66_code 43 = .ok (.iload_n 3, 1) := by decide +kernel
theorem dd_H_strengthsAsSeen_44 : decode prog_1_method_66_code 44 = .ok (.ishl, 1) := by decide +kernel
theorem dd_H_strengthsAsSeen_45 : decode prog_1_method_66_code 45 = .ok (.ior, 1) := by decide +kernel
theorem dd_H_strengthsAsSeen_46 : decode prog_1_method_66_code 46 = .ok (.istore_n 2, 1) := by decide +kernel
theorem dd_H_strengthsAsSeen_47 : decode prog_1_method_66_code 47 = .ok (.iinc 3 1, 3) := by decide +kernel
theorem dd_H_strengthsAsSeen_50 : decode prog_1_method_66_code 50 = .ok (.goto (-46), 3) := by decide +kernel
theorem dd_H_strengthsAsSeen_53 : decode prog_1_method_66_code 53 = .ok (.iload_n 2, 1) := by decide +kernel
theorem dd_H_strengthsAsSeen_54 : decode prog_1_method_66_code 54 = .ok (.ireturn, 1) := by decide +kernel
theorem dd_H_foretell_0 : decode prog_1_method_67_code 0 = .ok (.iconst 1, 1) := by decide +kernel
theorem dd_H_foretell_1 : decode prog_1_method_67_code 1 = .ok (.istore_n 3, 1) := by decide +kernel
theorem dd_H_foretell_2 : decode prog_1_method_67_code 2 = .ok (.iload_n 3, 1) := by decide +kernel
theorem dd_H_foretell_3 : decode prog_1_method_67_code 3 = .ok (.bipush 20, 2) := by decide +kernel
theorem dd_H_foretell_5 : decode prog_1_method_67_code 5 = .ok (.if_icmp .gt 46, 3) := by decide +kernel
theorem dd_H_foretell_8 : decode prog_1_method_67_code 8 = .ok (.iload_n 2, 1) := by decide +kernel
theorem dd_H_foretell_9 : decode prog_1_method_67_code 9 = .ok (.iload_n 3, 1) := by decide +kernel
theorem dd_H_foretell_10 : decode prog_1_method_67_code 10 = .ok (.invokestatic 205, 3) := by decide +kernel
theorem dd_H_foretell_13 : decode prog_1_method_67_code 13 = .ok (.ifCond .eq 32, 3) := by decide +kernel
theorem dd_H_foretell_16 : decode prog_1_method_67_code 16 = .ok (.aload_n 0, 1) := by decide +kernel
theorem dd_H_foretell_17 : decode prog_1_method_67_code 17 = .ok (.getfield 16, 3) := by decide +kernel
theorem dd_H_foretell_20 : decode prog_1_method_67_code 20 = .ok (.aload_n 0, 1) := by decide +kernel
theorem dd_H_foretell_21 : decode prog_1_method_67_code 21 = .ok (.getfield 10, 3) := by decide +kernel
theorem dd_H_foretell_24 : decode prog_1_method_67_code 24 = .ok (.invokevirtual 87, 3) := by decide +kernel
theorem dd_H_foretell_27 : decode prog_1_method_67_code 27 = .ok (.aload_n 0, 1) := by decide +kernel
theorem dd_H_foretell_28 : decode prog_1_method_67_code 28 = .ok (.getfield 16, 3) := by decide +kernel
theorem dd_H_foretell_31 : decode prog_1_method_67_code 31 = .ok (.getfield 145, 3) := by decide +kernel
theorem dd_H_foretell_34 : decode prog_1_method_67_code 34 = .ok (.iload_n 1, 1) := by decide +kernel
theorem dd_H_foretell_35 : decode prog_1_method_67_code 35 = .ok (.aaload, 1) := by decide +kernel
theorem dd_H_foretell_36 : decode prog_1_method_67_code 36 = .ok (.iload_n 3, 1) := by decide +kernel
theorem dd_H_foretell_37 : decode prog_1_method_67_code 37 = .ok (.putfield 149, 3) := by decide +kernel
theorem dd_H_foretell_40 : decode prog_1_method_67_code 40 = .ok (.aload_n 0, 1) := by decide +kernel
theorem dd_H_foretell_41 : decode prog_1_method_67_code 41 = .ok (.iload_n 3, 1) := by decide +kernel
theorem dd_H_foretell_42 : decode prog_1_method_67_code 42 = .ok (.invokevirtual 334, 3) := by decide +kernel
theorem dd_H_foretell_45 : decode prog_1_method_67_code 45 = .ok (.iinc 3 1, 3) := by decide +kernel
theorem dd_H_foretell_48 : decode prog_1_method_67_code 48 = .ok (.goto (-46), 3) := by decide +kernel
theorem dd_H_foretell_51 : decode prog_1_method_67_code 51 = .ok (.return_, 1) := by decide +kernel
theorem dd_H_foretellRow_0 : decode prog_1_method_68_code 0 = .ok (.iconst 0, 1) := by decide +kernel
theorem dd_H_foretellRow_1 : decode prog_1_method_68_code 1 = .ok (.istore_n 2, 1) := by decide +kernel
theorem dd_H_foretellRow_2 : decode prog_1_method_68_code 2 = .ok (.iload_n 2, 1) := by decide +kernel
theorem dd_H_foretellRow_3 : decode prog_1_method_68_code 3 = .ok (.bipush 20, 2) := by decide +kernel
theorem dd_H_foretellRow_5 : decode prog_1_method_68_code 5 = .ok (.if_icmp .gt 60, 3) := by decide +kernel
theorem dd_H_foretellRow_8 : decode prog_1_method_68_code 8 = .ok (.iconst 0, 1) := by decide +kernel
theorem dd_H_foretellRow_9 : decode prog_1_method_68_code 9 = .ok (.istore_n 3, 1) := by decide +kernel
theorem dd_H_foretellRow_10 : decode prog_1_method_68_code 10 = .ok (.iload_n 3, 1) := by decide +kernel
theorem dd_H_foretellRow_11 : decode prog_1_method_68_code 11 = .ok (.aload_n 0, 1) := by decide +kernel
theorem dd_H_foretellRow_12 : decode prog_1_method_68_code 12 = .ok (.getfield 10, 3) := by decide +kernel
theorem dd_H_foretellRow_15 : decode prog_1_method_68_code 15 = .ok (.getfield 94, 3) := by decide +kernel
theorem dd_H_foretellRow_18 : decode prog_1_method_68_code 18 = .ok (.if_icmp .ge 33, 3) := by decide +kernel
theorem dd_H_foretellRow_21 : decode prog_1_method_68_code 21 = .ok (.aload_n 0, 1) := by decide +kernel
theorem dd_H_foretellRow_22 : decode prog_1_method_68_code 22 = .ok (.getfield 51, 3) := by decide +kernel
theorem dd_H_foretellRow_25 : decode prog_1_method_68_code 25 = .ok (.iload_n 1, 1) := by decide +kernel
theorem dd_H_foretellRow_26 : decode prog_1_method_68_code 26 = .ok (.aaload, 1) := by decide +kernel
theorem dd_H_foretellRow_27 : decode prog_1_method_68_code 27 = .ok (.iload_n 2, 1) := by decide +kernel
theorem dd_H_foretellRow_28 : decode prog_1_method_68_code 28 = .ok (.iconst 4, 1) := by decide +kernel
theorem dd_H_foretellRow_29 : decode prog_1_method_68_code 29 = .ok (.imul, 1) := by decide +kernel
theorem dd_H_foretellRow_30 : decode prog_1_method_68_code 30 = .ok (.iload_n 3, 1) := by decide +kernel
theorem dd_H_foretellRow_31 : decode prog_1_method_68_code 31 = .ok (.iadd, 1) := by decide +kernel
theorem dd_H_foretellRow_32 : decode prog_1_method_68_code 32 = .ok (.aload_n 0, 1) := by decide +kernel
theorem dd_H_foretellRow_33 : decode prog_1_method_68_code 33 = .ok (.getfield 16, 3) := by decide +kernel
theorem dd_H_foretellRow_36 : decode prog_1_method_68_code 36 = .ok (.getfield 145, 3) := by decide +kernel
theorem dd_H_foretellRow_39 : decode prog_1_method_68_code 39 = .ok (.iload_n 3, 1) := by decide +kernel
theorem dd_H_foretellRow_40 : decode prog_1_method_68_code 40 = .ok (.aaload, 1) := by decide +kernel
theorem dd_H_foretellRow_41 : decode prog_1_method_68_code 41 = .ok (.getfield 154, 3) := by decide +kernel
theorem dd_H_foretellRow_44 : decode prog_1_method_68_code 44 = .ok (.iastore, 1) := by decide +kernel
theorem dd_H_foretellRow_45 : decode prog_1_method_68_code 45 = .ok (.iinc 3 1, 3) := by decide +kernel
theorem dd_H_foretellRow_48 : decode prog_1_method_68_code 48 = .ok (.goto (-38), 3) := by decide +kernel
theorem dd_H_foretellRow_51 : decode prog_1_method_68_code 51 = .ok (.aload_n 0, 1) := by decide +kernel
theorem dd_H_foretellRow_52 : decode prog_1_method_68_code 52 = .ok (.getfield 16, 3) := by decide +kernel
theorem dd_H_foretellRow_55 : decode prog_1_method_68_code 55 = .ok (.iconst 0, 1) := by decide +kernel
theorem dd_H_foretellRow_56 : decode prog_1_method_68_code 56 = .ok (.invokevirtual 199, 3) := by decide +kernel
theorem dd_H_foretellRow_59 : decode prog_1_method_68_code 59 = .ok (.iinc 2 1, 3) := by decide +kernel
theorem dd_H_foretellRow_62 : decode prog_1_method_68_code 62 = .ok (.goto (-60), 3) := by decide +kernel
theorem dd_H_foretellRow_65 : decode prog_1_method_68_code 65 = .ok (.return_, 1) := by decide +kernel
theorem dd_H_mostAlike_0 : decode prog_1_method_69_code 0 = .ok (.iconst 0, 1) := by decide +kernel
theorem dd_H_mostAlike_1 : decode prog_1_method_69_code 1 = .ok (.istore_n 3, 1) := by decide +kernel
theorem dd_H_mostAlike_2 : decode prog_1_method_69_code 2 = .ok (.iconst 1, 1) := by decide +kernel
theorem dd_H_mostAlike_3 : decode prog_1_method_69_code 3 = .ok (.istore 4, 2) := by decide +kernel
theorem dd_H_mostAlike_5 : decode prog_1_method_69_code 5 = .ok (.iload 4, 2) := by decide +kernel
theorem dd_H_mostAlike_7 : decode prog_1_method_69_code 7 = .ok (.bipush 20, 2) := by decide +kernel
theorem dd_H_mostAlike_9 : decode prog_1_method_69_code 9 = .ok (.if_icmp .gt 31, 3) := by decide +kernel
theorem dd_H_mostAlike_12 : decode prog_1_method_69_code 12 = .ok (.iload_n 1, 1) := by decide +kernel
theorem dd_H_mostAlike_13 : decode prog_1_method_69_code 13 = .ok (.iload 4, 2) := by decide +kernel
theorem dd_H_mostAlike_15 : decode prog_1_method_69_code 15 = .ok (.invokestatic 205, 3) := by decide +kernel
theorem dd_H_mostAlike_18 : decode prog_1_method_69_code 18 = .ok (.ifCond .eq 16, 3) := by decide +kernel
theorem dd_H_mostAlike_21 : decode prog_1_method_69_code 21 = .ok (.iload_n 3, 1) := by decide +kernel
theorem dd_H_mostAlike_22 : decode prog_1_method_69_code 22 = .ok (.aload_n 0, 1) := by decide +kernel
theorem dd_H_mostAlike_23 : decode prog_1_method_69_code 23 = .ok (.iload 4, 2) := by decide +kernel
theorem dd_H_mostAlike_25 : decode prog_1_method_69_code 25 = .ok (.iload_n 1, 1) := by decide +kernel
theorem dd_H_mostAlike_26 : decode prog_1_method_69_code 26 = .ok (.iload_n 2, 1) := by decide +kernel
theorem dd_H_mostAlike_27 : decode prog_1_method_69_code 27 = .ok (.invokevirtual 337, 3) := by decide +kernel
theorem dd_H_mostAlike_30 : decode prog_1_method_69_code 30 = .ok (.invokestatic 329, 3) := by decide +kernel
theorem dd_H_mostAlike_33 : decode prog_1_method_69_code 33 = .ok (.istore_n 3, 1) := by decide +kernel
theorem dd_H_mostAlike_34 : decode prog_1_method_69_code 34 = .ok (.iinc 4 1, 3) := by decide +kernel
theorem dd_H_mostAlike_37 : decode prog_1_method_69_code 37 = .ok (.goto (-32), 3) := by decide +kernel
theorem dd_H_mostAlike_40 : decode prog_1_method_69_code 40 = .ok (.iload_n 3, 1) := by decide +kernel
theorem dd_H_mostAlike_41 : decode prog_1_method_69_code 41 = .ok (.ireturn, 1) := by decide +kernel
theorem dd_H_alikeFrom_0 : decode prog_1_method_70_code 0 = .ok (.iconst 0, 1) := by decide +kernel
theorem dd_H_alikeFrom_1 : decode prog_1_method_70_code 1 = .ok (.istore 4, 2) := by decide +kernel
theorem dd_H_alikeFrom_3 : decode prog_1_method_70_code 3 = .ok (.iload_n 1, 1) := by decide +kernel
theorem dd_H_alikeFrom_4 : decode prog_1_method_70_code 4 = .ok (.istore 5, 2) := by decide +kernel
theorem dd_H_alikeFrom_6 : decode prog_1_method_70_code 6 = .ok (.iload 5, 2) := by decide +kernel
theorem dd_H_alikeFrom_8 : decode prog_1_method_70_code 8 = .ok (.bipush 20, 2) := by decide +kernel
theorem dd_H_alikeFrom_10 : decode prog_1_method_70_code 10 = .ok (.if_icmp .gt 41, 3) := by decide +kernel
theorem dd_H_alikeFrom_13 : decode prog_1_method_70_code 13 = .ok (.iload_n 2, 1) := by decide +kernel
theorem dd_H_alikeFrom_14 : decode prog_1_method_70_code 14 = .ok (.iload 5, 2) := by decide +kernel
theorem dd_H_alikeFrom_16 : decode prog_1_method_70_code 16 = .ok (.invokestatic 205, 3) := by decide +kernel
theorem dd_H_alikeFrom_19 : decode prog_1_method_70_code 19 = .ok (.ifCond .eq 26, 3) := by decide +kernel
theorem dd_H_alikeFrom_22 : decode prog_1_method_70_code 22 = .ok (.aload_n 0, 1) := by decide +kernel
theorem dd_H_alikeFrom_23 : decode prog_1_method_70_code 23 = .ok (.getfield 51, 3) := by decide +kernel
theorem dd_H_alikeFrom_26 : decode prog_1_method_70_code 26 = .ok (.iload 5, 2) := by decide +kernel
theorem dd_H_alikeFrom_28 : decode prog_1_method_70_code 28 = .ok (.aaload, 1) := by decide +kernel
theorem dd_H_alikeFrom_29 : decode prog_1_method_70_code 29 = .ok (.iload_n 3, 1) := by decide +kernel
theorem dd_H_alikeFrom_30 : decode prog_1_method_70_code 30 = .ok (.iaload, 1) := by decide +kernel
theorem dd_H_alikeFrom_31 : decode prog_1_method_70_code 31 = .ok (.aload_n 0, 1) := by decide +kernel
theorem dd_H_alikeFrom_32 : decode prog_1_method_70_code 32 = .ok (.getfield 51, 3) := by decide +kernel
theorem dd_H_alikeFrom_35 : decode prog_1_method_70_code 35 = .ok (.iload_n 1, 1) := by decide +kernel
theorem dd_H_alikeFrom_36 : decode prog_1_method_70_code 36 = .ok (.aaload, 1) := by decide +kernel
theorem dd_H_alikeFrom_37 : decode prog_1_method_70_code 37 = .ok (.iload_n 3, 1) := by decide +kernel
theorem dd_H_alikeFrom_38 : decode prog_1_method_70_code 38 = .ok (.iaload, 1) := by decide +kernel
theorem dd_H_alikeFrom_39 : decode prog_1_method_70_code 39 = .ok (.if_icmp .ne 6, 3) := by decide +kernel
theorem dd_H_alikeFrom_42 : decode prog_1_method_70_code 42 = .ok (.iinc 4 1, 3) := by decide +kernel
theorem dd_H_alikeFrom_45 : decode prog_1_method_70_code 45 = .ok (.iinc 5 1, 3) := by decide +kernel
theorem dd_H_alikeFrom_48 : decode prog_1_method_70_code 48 = .ok (.goto (-42), 3) := by decide +kernel
theorem dd_H_alikeFrom_51 : decode prog_1_method_70_code 51 = .ok (.iload 4, 2) := by decide +kernel
theorem dd_H_alikeFrom_53 : decode prog_1_method_70_code 53 = .ok (.ireturn, 1) := by decide +kernel

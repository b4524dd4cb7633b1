/-! the JDK behind the text constants: names, words, decodings -/
abbrev yy_JS_length : MethodName := ⟨"java/lang/String", "length", "()I"⟩
abbrev mm_JS_length : MM := (yy_JS_length, prog_12_method_54_code, 1, (some .int), { frames := 1, cells := 0, slots := 0, locals := 20 })
theorem nk_JS_length : nameOk mm_JS_length 0 := ⟨by decide +kernel, by decide +kernel, by decide +kernel⟩
theorem wc_JS_length : Cond.code yy_JS_length prog_12_method_54_code 1 (some .int) ∈ gw := gwi 394 (by decide +kernel) (by decide +kernel)
theorem wi_JS_length : Cond.instanceMethod yy_JS_length ∈ gw := gwi 392 (by decide +kernel) (by decide +kernel)
theorem wx_JS_length : Cond.selects "java/lang/String" yy_JS_length yy_JS_length ∈ gw := gwi 393 (by decide +kernel) (by decide +kernel)
theorem dd_JS_length_0 : decode prog_12_method_54_code 0 = .ok (.aload_n 0, 1) := by decide +kernel
theorem dd_JS_length_1 : decode prog_12_method_54_code 1 = .ok (.getfield 9, 3) := by decide +kernel
theorem dd_JS_length_4 : decode prog_12_method_54_code 4 = .ok (.arraylength, 1) := by decide +kernel
theorem dd_JS_length_5 : decode prog_12_method_54_code 5 = .ok (.aload_n 0, 1) := by decide +kernel
theorem dd_JS_length_6 : decode prog_12_method_54_code 6 = .ok (.invokevirtual 335, 3) := by decide +kernel
theorem dd_JS_length_9 : decode prog_12_method_54_code 9 = .ok (.ishr, 1) := by decide +kernel
theorem dd_JS_length_10 : decode prog_12_method_54_code 10 = .ok (.ireturn, 1) := by decide +kernel
abbrev yy_JS_coder : MethodName := ⟨"java/lang/String", "coder", "()B"⟩
abbrev mm_JS_coder : MM := (yy_JS_coder, prog_12_method_152_code, 1, (some .byte), { frames := 0, cells := 0, slots := 0, locals := 0 })
theorem nk_JS_coder : nameOk mm_JS_coder 0 := ⟨by decide +kernel, by decide +kernel, by decide +kernel⟩
theorem wc_JS_coder : Cond.code yy_JS_coder prog_12_method_152_code 1 (some .byte) ∈ gw := gwi 398 (by decide +kernel) (by decide +kernel)
theorem wi_JS_coder : Cond.instanceMethod yy_JS_coder ∈ gw := gwi 396 (by decide +kernel) (by decide +kernel)
theorem wx_JS_coder : Cond.selects "java/lang/String" yy_JS_coder yy_JS_coder ∈ gw := gwi 397 (by decide +kernel) (by decide +kernel)
theorem dd_JS_coder_0 : decode prog_12_method_152_code 0 = .ok (.getstatic 38, 3) := by decide +kernel
theorem dd_JS_coder_3 : decode prog_12_method_152_code 3 = .ok (.ifCond .eq 10, 3) := by decide +kernel
theorem dd_JS_coder_6 : decode prog_12_method_152_code 6 = .ok (.aload_n 0, 1) := by decide +kernel
theorem dd_JS_coder_7 : decode prog_12_method_152_code 7 = .ok (.getfield 15, 3) := by decide +kernel
theorem dd_JS_coder_10 : decode prog_12_method_152_code 10 = .ok (.goto 4, 3) := by decide +kernel
theorem dd_JS_coder_13 : decode prog_12_method_152_code 13 = .ok (.iconst 1, 1) := by decide +kernel
theorem dd_JS_coder_14 : decode prog_12_method_152_code 14 = .ok (.ireturn, 1) := by decide +kernel
abbrev yy_JS_charAt : MethodName := ⟨"java/lang/String", "charAt", "(I)C"⟩
abbrev mm_JS_charAt : MM := (yy_JS_charAt, prog_12_method_56_code, 2, (some .char), { frames := 3, cells := 0, slots := 0, locals := 64 })
theorem nk_JS_charAt : nameOk mm_JS_charAt 1 := ⟨by decide +kernel, by decide +kernel, by decide +kernel⟩
theorem wc_JS_charAt : Cond.code yy_JS_charAt prog_12_method_56_code 2 (some .char) ∈ gw := gwi 404 (by decide +kernel) (by decide +kernel)
theorem wi_JS_charAt : Cond.instanceMethod yy_JS_charAt ∈ gw := gwi 402 (by decide +kernel) (by decide +kernel)
theorem wx_JS_charAt : Cond.selects "java/lang/String" yy_JS_charAt yy_JS_charAt ∈ gw := gwi 403 (by decide +kernel) (by decide +kernel)
theorem dd_JS_charAt_0 : decode prog_12_method_56_code 0 = .ok (.aload_n 0, 1) := by decide +kernel
theorem dd_JS_charAt_1 : decode prog_12_method_56_code 1 = .ok (.invokevirtual 492, 3) := by decide +kernel
theorem dd_JS_charAt_4 : decode prog_12_method_56_code 4 = .ok (.ifCond .eq 12, 3) := by decide +kernel
theorem dd_JS_charAt_7 : decode prog_12_method_56_code 7 = .ok (.aload_n 0, 1) := by decide +kernel
theorem dd_JS_charAt_8 : decode prog_12_method_56_code 8 = .ok (.getfield 9, 3) := by decide +kernel
theorem dd_JS_charAt_11 : decode prog_12_method_56_code 11 = .ok (.iload_n 1, 1) := by decide +kernel
theorem dd_JS_charAt_12 : decode prog_12_method_56_code 12 = .ok (.invokestatic 495, 3) := by decide +kernel
theorem dd_JS_charAt_15 : decode prog_12_method_56_code 15 = .ok (.ireturn, 1) := by decide +kernel
theorem dd_JS_charAt_16 : decode prog_12_method_56_code 16 = .ok (.aload_n 0, 1) := by decide +kernel
theorem dd_JS_charAt_17 : decode prog_12_method_56_code 17 = .ok (.getfield 9, 3) := by decide +kernel
theorem dd_JS_charAt_20 : decode prog_12_method_56_code 20 = .ok (.iload_n 1, 1) := by decide +kernel
theorem dd_JS_charAt_21 : decode prog_12_method_56_code 21 = .ok (.invokestatic 498, 3) := by decide +kernel
theorem dd_JS_charAt_24 : decode prog_12_method_56_code 24 = .ok (.ireturn, 1) := by decide +kernel
abbrev yy_JS_isLatin1 : MethodName := ⟨"java/lang/String", "isLatin1", "()Z"⟩
abbrev mm_JS_isLatin1 : MM := (yy_JS_isLatin1, prog_12_method_154_code, 1, (some .boolean), { frames := 0, cells := 0, slots := 0, locals := 0 })
theorem nk_JS_isLatin1 : nameOk mm_JS_isLatin1 0 := ⟨by decide +kernel, by decide +kernel, by decide +kernel⟩
theorem wc_JS_isLatin1 : Cond.code yy_JS_isLatin1 prog_12_method_154_code 1 (some .boolean) ∈ gw := gwi 408 (by decide +kernel) (by decide +kernel)
theorem wi_JS_isLatin1 : Cond.instanceMethod yy_JS_isLatin1 ∈ gw := gwi 406 (by decide +kernel) (by decide +kernel)
theorem wx_JS_isLatin1 : Cond.selects "java/lang/String" yy_JS_isLatin1 yy_JS_isLatin1 ∈ gw := gwi 407 (by decide +kernel) (by decide +kernel)
theorem dd_JS_isLatin1_0 : decode prog_12_method_154_code 0 = .ok (.getstatic 38, 3) := by decide +kernel
theorem dd_JS_isLatin1_3 : decode prog_12_method_154_code 3 = .ok (.ifCond .eq 14, 3) := by decide +kernel
theorem dd_JS_isLatin1_6 : decode prog_12_method_154_code 6 = .ok (.aload_n 0, 1) := by decide +kernel
theorem dd_JS_isLatin1_7 : decode prog_12_method_154_code 7 = .ok (.getfield 15, 3) := by decide +kernel
theorem dd_JS_isLatin1_10 : decode prog_12_method_154_code 10 = .ok (.ifCond .ne 7, 3) := by decide +kernel
theorem dd_JS_isLatin1_13 : decode prog_12_method_154_code 13 = .ok (.iconst 1, 1) := by decide +kernel
theorem dd_JS_isLatin1_14 : decode prog_12_method_154_code 14 = .ok (.goto 4, 3) := by decide +kernel
theorem dd_JS_isLatin1_17 : decode prog_12_method_154_code 17 = .ok (.iconst 0, 1) := by decide +kernel
theorem dd_JS_isLatin1_18 : decode prog_12_method_154_code 18 = .ok (.ireturn, 1) := by decide +kernel
abbrev yy_JS_checkIndex : MethodName := ⟨"java/lang/String", "checkIndex", "(II)V"⟩
abbrev mm_JS_checkIndex : MM := (yy_JS_checkIndex, prog_12_method_155_code, 2, none, { frames := 1, cells := 0, slots := 0, locals := 22 })
theorem nk_JS_checkIndex : nameOk mm_JS_checkIndex 2 := ⟨by decide +kernel, by decide +kernel, by decide +kernel⟩
theorem wc_JS_checkIndex : Cond.code yy_JS_checkIndex prog_12_method_155_code 2 none ∈ gw := gwi 414 (by decide +kernel) (by decide +kernel)
theorem ws_JS_checkIndex : Cond.static yy_JS_checkIndex ∈ gw := gwi 413 (by decide +kernel) (by decide +kernel)
theorem dd_JS_checkIndex_0 : decode prog_12_method_155_code 0 = .ok (.iload_n 0, 1) := by decide +kernel
theorem dd_JS_checkIndex_1 : decode prog_12_method_155_code 1 = .ok (.iload_n 1, 1) := by decide +kernel
theorem dd_JS_checkIndex_2 : decode prog_12_method_155_code 2 = .ok (.getstatic 1053, 3) := by decide +kernel
theorem dd_JS_checkIndex_5 : decode prog_12_method_155_code 5 = .ok (.invokestatic 1059, 3) := by decide +kernel
theorem dd_JS_checkIndex_8 : decode prog_12_method_155_code 8 = .ok (.pop, 1) := by decide +kernel
theorem dd_JS_checkIndex_9 : decode prog_12_method_155_code 9 = .ok (.return_, 1) := by decide +kernel
abbrev yy_JL_charAt : MethodName := ⟨"java/lang/StringLatin1", "charAt", "([BI)C"⟩
abbrev mm_JL_charAt : MM := (yy_JL_charAt, prog_13_method_2_code, 2, (some .char), { frames := 2, cells := 0, slots := 0, locals := 43 })
theorem nk_JL_charAt : nameOk mm_JL_charAt 2 := ⟨by decide +kernel, by decide +kernel, by decide +kernel⟩
theorem wc_JL_charAt : Cond.code yy_JL_charAt prog_13_method_2_code 2 (some .char) ∈ gw := gwi 411 (by decide +kernel) (by decide +kernel)
theorem ws_JL_charAt : Cond.static yy_JL_charAt ∈ gw := gwi 410 (by decide +kernel) (by decide +kernel)
theorem dd_JL_charAt_0 : decode prog_13_method_2_code 0 = .ok (.iload_n 1, 1) := by decide +kernel
theorem dd_JL_charAt_1 : decode prog_13_method_2_code 1 = .ok (.aload_n 0, 1) := by decide +kernel
theorem dd_JL_charAt_2 : decode prog_13_method_2_code 2 = .ok (.arraylength, 1) := by decide +kernel
theorem dd_JL_charAt_3 : decode prog_13_method_2_code 3 = .ok (.invokestatic 9, 3) := by decide +kernel
theorem dd_JL_charAt_6 : decode prog_13_method_2_code 6 = .ok (.aload_n 0, 1) := by decide +kernel
theorem dd_JL_charAt_7 : decode prog_13_method_2_code 7 = .ok (.iload_n 1, 1) := by decide +kernel
theorem dd_JL_charAt_8 : decode prog_13_method_2_code 8 = .ok (.baload, 1) := by decide +kernel
theorem dd_JL_charAt_9 : decode prog_13_method_2_code 9 = .ok (.sipush 255, 3) := by decide +kernel
theorem dd_JL_charAt_12 : decode prog_13_method_2_code 12 = .ok (.iand, 1) := by decide +kernel
theorem dd_JL_charAt_13 : decode prog_13_method_2_code 13 = .ok (.i2c, 1) := by decide +kernel
theorem dd_JL_charAt_14 : decode prog_13_method_2_code 14 = .ok (.ireturn, 1) := by decide +kernel
abbrev yy_JP_checkIndex : MethodName := ⟨"jdk/internal/util/Preconditions", "checkIndex", "(IILjava/util/function/BiFunction;)I"⟩
abbrev mm_JP_checkIndex : MM := (yy_JP_checkIndex, prog_15_method_11_code, 3, (some .int), { frames := 0, cells := 0, slots := 0, locals := 0 })
theorem nk_JP_checkIndex : nameOk mm_JP_checkIndex 3 := ⟨by decide +kernel, by decide +kernel, by decide +kernel⟩
theorem wc_JP_checkIndex : Cond.code yy_JP_checkIndex prog_15_method_11_code 3 (some .int) ∈ gw := gwi 419 (by decide +kernel) (by decide +kernel)
theorem ws_JP_checkIndex : Cond.static yy_JP_checkIndex ∈ gw := gwi 418 (by decide +kernel) (by decide +kernel)
theorem dd_JP_checkIndex_0 : decode prog_15_method_11_code 0 = .ok (.iload_n 0, 1) := by decide +kernel
theorem dd_JP_checkIndex_1 : decode prog_15_method_11_code 1 = .ok (.ifCond .lt 8, 3) := by decide +kernel
theorem dd_JP_checkIndex_4 : decode prog_15_method_11_code 4 = .ok (.iload_n 0, 1) := by decide +kernel
theorem dd_JP_checkIndex_5 : decode prog_15_method_11_code 5 = .ok (.iload_n 1, 1) := by decide +kernel
theorem dd_JP_checkIndex_6 : decode prog_15_method_11_code 6 = .ok (.if_icmp .lt 10, 3) := by decide +kernel
theorem dd_JP_checkIndex_9 : decode prog_15_method_11_code 9 = .ok (.aload_n 2, 1) := by decide +kernel
theorem dd_JP_checkIndex_10 : decode prog_15_method_11_code 10 = .ok (.iload_n 0, 1) := by decide +kernel
theorem dd_JP_checkIndex_11 : decode prog_15_method_11_code 11 = .ok (.iload_n 1, 1) := by decide +kernel
theorem dd_JP_checkIndex_12 : decode prog_15_method_11_code 12 = .ok (.invokestatic 95, 3) := by decide +kernel
theorem dd_JP_checkIndex_15 : decode prog_15_method_11_code 15 = .ok (.athrow, 1) := by decide +kernel
theorem dd_JP_checkIndex_16 : decode prog_15_method_11_code 16 = .ok (.iload_n 0, 1) := by decide +kernel
theorem dd_JP_checkIndex_17 : decode prog_15_method_11_code 17 = .ok (.ireturn, 1) := by decide +kernel
theorem wf_9 : Cond.fieldLink "java/lang/String" 9 "java/lang/String" "value" "[B" ∈ gw := gwi 1241 (by decide +kernel) (by decide +kernel)
theorem wf_15 : Cond.fieldLink "java/lang/String" 15 "java/lang/String" "coder" "B" ∈ gw := gwi 1242 (by decide +kernel) (by decide +kernel)
theorem wf_38 : Cond.fieldLink "java/lang/String" 38 "java/lang/String" "COMPACT_STRINGS" "Z" ∈ gw := gwi 399 (by decide +kernel) (by decide +kernel)
theorem wf_1053 : Cond.fieldLink "java/lang/String" 1053 "jdk/internal/util/Preconditions" "SIOOBE_FORMATTER" "Ljava/util/function/BiFunction;" ∈ gw := gwi 415 (by decide +kernel) (by decide +kernel)
theorem wm_S_335 : Cond.methodLink "java/lang/String" 335 yy_JS_coder ∈ gw := gwi 395 (by decide +kernel) (by decide +kernel)
theorem wm_S_492 : Cond.methodLink "java/lang/String" 492 yy_JS_isLatin1 ∈ gw := gwi 405 (by decide +kernel) (by decide +kernel)
theorem wm_S_495 : Cond.methodLink "java/lang/String" 495 yy_JL_charAt ∈ gw := gwi 409 (by decide +kernel) (by decide +kernel)
theorem wm_S_1059 : Cond.methodLink "java/lang/String" 1059 yy_JP_checkIndex ∈ gw := gwi 417 (by decide +kernel) (by decide +kernel)
theorem wm_L_9 : Cond.methodLink "java/lang/StringLatin1" 9 yy_JS_checkIndex ∈ gw := gwi 412 (by decide +kernel) (by decide +kernel)
theorem wm_P_119 : Cond.methodLink "HaulWages$Tape" 119 yy_JS_length ∈ gw := gwi 391 (by decide +kernel) (by decide +kernel)
theorem wm_P_123 : Cond.methodLink "HaulWages$Tape" 123 yy_JS_charAt ∈ gw := gwi 401 (by decide +kernel) (by decide +kernel)
theorem wi_S : Cond.initialized "java/lang/String" ∈ gw := gwi 71 (by decide +kernel) (by decide +kernel)
theorem wi_L : Cond.initialized "java/lang/StringLatin1" ∈ gw := gwi 72 (by decide +kernel) (by decide +kernel)
theorem wi_P : Cond.initialized "jdk/internal/util/Preconditions" ∈ gw := gwi 73 (by decide +kernel) (by decide +kernel)

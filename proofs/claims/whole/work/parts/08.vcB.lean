/-! the steps of the methods, folded -/
theorem vc_H_feed {E : EE} {Q : Int → JM → Prop} (x1 : Int) (M : JM) (h : JC E mm_H_within [vI x1, vI 0, vI 127] M (fun a2 M1 => ((a2 ≠ 0 → ((M1 9 0 1 < 160 → (0 ≤ M1 9 0 1 ∧ M1 9 0 1 < 160) ∧ ∀ M3 : JM, M3 = pt M1 10 0 ((M1 9 0 1).toNat) x1 → ∀ M4 : JM, M4 = pt M3 9 0 1 (w32 (M3 9 0 1 + 1)) → Q (M4 9 0 1) M4) ∧ (160 ≤ M1 9 0 1 → Q (-3) M1))) ∧ (a2 = 0 → Q (-1) M1)))) : JC E mm_H_feed [vR 0 0, vI x1] M Q := by
  refine j_entry (L0 := [(0, vR 0 0), (1, vI x1)]) pn_H (Nat.le_of_ble_eq_true rfl) rfl ?_
  refine j_iload_n (j := 1) dd_H_feed_0 rfl rfl ?_
  refine j_iconst dd_H_feed_1 (inRd rfl) ?_
  refine j_bipush dd_H_feed_2 rfl (inRd rfl) ?_
  refine j_cSI (mm' := mm_H_within) (As := [vI x1, vI 0, vI 127]) (rest := []) h dd_H_feed_4 (ws4 wd_328 wd_329 wd_63 wd_330) nk_H_within (rok rfl) (Nat.le_of_ble_eq_true rfl) (fun _ => rfl) (fun a2 M1 h => ?_)
  refine j_if_ne (tgt := 12) dd_H_feed_7 (by decide) (fun c => ?_) (fun c => ?_)
  · have h := h.1 c
    refine j_aload_n (j := 0) dd_H_feed_12 rfl rfl ?_
    refine gf_0_5 dd_H_feed_13 wd_292 ?_
    refine gf_9_1 dd_H_feed_16 wd_214 ?_
    refine j_sipush dd_H_feed_19 rfl (inRd rfl) ?_
    refine j_icmp_lt (tgt := 28) dd_H_feed_22 (by decide) (fun c => ?_) (fun c => ?_)
    · have h := h.1 c
      refine j_aload_n (j := 0) dd_H_feed_28 rfl rfl ?_
      refine gf_0_5 dd_H_feed_29 wd_292 ?_
      refine gf_9_0 dd_H_feed_32 wd_212 ?_
      refine j_aload_n (j := 0) dd_H_feed_35 rfl rfl ?_
      refine gf_0_5 dd_H_feed_36 wd_292 ?_
      refine gf_9_1 dd_H_feed_39 wd_214 ?_
      refine j_iload_n (j := 1) dd_H_feed_42 rfl rfl ?_
      refine st_10 dd_H_feed_43 h.1 (fun M3 eM3 => ?_)
      have h := h.2
      have h := h M3 eM3
      refine j_aload_n (j := 0) dd_H_feed_44 rfl rfl ?_
      refine gf_0_5 dd_H_feed_45 wd_292 ?_
      refine j_dup dd_H_feed_48 rfl ?_
      refine gf_9_1 dd_H_feed_49 wd_214 ?_
      refine j_iconst dd_H_feed_52 (inRd rfl) ?_
      refine j_iadd dd_H_feed_53 ?_
      refine pf_9_1 dd_H_feed_54 wd_214 (fun M4 eM4 => ?_)
      have h := h M4 eM4
      refine j_aload_n (j := 0) dd_H_feed_57 rfl rfl ?_
      refine gf_0_5 dd_H_feed_58 wd_292 ?_
      refine gf_9_1 dd_H_feed_61 wd_214 ?_
      exact j_iret dd_H_feed_64 rfl h
    · have h := h.2 c
      refine j_bipush dd_H_feed_25 rfl (inRd rfl) ?_
      exact j_iret dd_H_feed_27 rfl h
  · have h := h.2 c
    refine j_iconst dd_H_feed_10 (inRd rfl) ?_
    exact j_iret dd_H_feed_11 rfl h
theorem vc_H_end {E : EE} {Q : Int → JM → Prop} (x1 : Int) (M : JM) (h : ∀ a1 : Int, a1 = M 9 0 1 → JC E mm_H_within [vI x1, vI 0, vI a1] M (fun a3 M2 => ((a3 ≠ 0 → ∀ M4 : JM, M4 = pt M2 9 0 1 x1 → Q a1 M4) ∧ (a3 = 0 → Q (-1) M2)))) : JC E mm_H_end [vR 0 0, vI x1] M Q := by
  refine j_entry (L0 := [(0, vR 0 0), (1, vI x1)]) pn_H (Nat.le_of_ble_eq_true rfl) rfl ?_
  refine j_aload_n (j := 0) dd_H_end_0 rfl rfl ?_
  refine gf_0_5 dd_H_end_1 wd_292 ?_
  refine gf_9_1 dd_H_end_4 wd_214 ?_
  refine j_topI (fun a1 ea1 => ?_)
  have h := h a1 ea1
  refine j_istore_n (j := 2) dd_H_end_7 rfl (by decide) rfl ?_
  refine j_iload_n (j := 1) dd_H_end_8 rfl rfl ?_
  refine j_iconst dd_H_end_9 (inRd rfl) ?_
  refine j_iload_n (j := 2) dd_H_end_10 rfl rfl ?_
  refine j_cSI (mm' := mm_H_within) (As := [vI x1, vI 0, vI a1]) (rest := []) h dd_H_end_11 (ws4 wd_328 wd_329 wd_63 wd_330) nk_H_within (rok rfl) (Nat.le_of_ble_eq_true rfl) (fun _ => rfl) (fun a3 M2 h => ?_)
  refine j_if_ne (tgt := 19) dd_H_end_14 (by decide) (fun c => ?_) (fun c => ?_)
  · have h := h.1 c
    refine j_aload_n (j := 0) dd_H_end_19 rfl rfl ?_
    refine gf_0_5 dd_H_end_20 wd_292 ?_
    refine j_iload_n (j := 1) dd_H_end_23 rfl rfl ?_
    refine pf_9_1 dd_H_end_24 wd_214 (fun M4 eM4 => ?_)
    have h := h M4 eM4
    refine j_iload_n (j := 2) dd_H_end_27 rfl rfl ?_
    exact j_iret dd_H_end_28 rfl h
  · have h := h.2 c
    refine j_iconst dd_H_end_17 (inRd rfl) ?_
    exact j_iret dd_H_end_18 rfl h
theorem vc_H_text {E : EE} {Q : Int → JM → Prop}  (M : JM) (h : JC E mm_P_tellAll [vR 9 0, vR 3 1] M (fun a2 M1 => ∀ M3 : JM, M3 = pt M1 9 0 1 0 → ∀ M4 : JM, M4 = pt M3 0 0 10 (M3 9 0 7) → ((M4 0 0 10 = 0 → JC E mm_T_copyFrom [vR 3 0, vR 3 1] M4 (fun a6 M5 => ∀ M7 : JM, M7 = pt M5 0 0 9 0 → JG E mm_H_text Q 67 [(0, vR 0 0), (1, vI a2), (2, vI 0)] [] M7)) ∧ (M4 0 0 10 ≠ 0 → Q (w32 ((-10) - (M4 9 0 8))) M4)))) : JC E mm_H_text [vR 0 0] M Q := by
  refine j_entry (L0 := [(0, vR 0 0)]) pn_H (Nat.le_of_ble_eq_true rfl) rfl ?_
  refine j_aload_n (j := 0) dd_H_text_0 rfl rfl ?_
  refine gf_0_5 dd_H_text_1 wd_292 ?_
  refine j_aload_n (j := 0) dd_H_text_4 rfl rfl ?_
  refine gf_0_1 dd_H_text_5 wd_288 ?_
  refine j_cVI (mm' := mm_P_tellAll) (t := 9) (i := 0) (As := [vR 3 1]) (rest := []) h dd_H_text_8 (ws5 wd_339 wd_340 wd_341 wd_67 wd_342) nk_P_tellAll (rok rfl) (by unfold isW; omega) ⟨_, ce_9 _⟩ rfl (Nat.le_of_ble_eq_true rfl) (fun _ => rfl) (fun a2 M1 h => ?_)
  refine j_istore_n (j := 1) dd_H_text_11 rfl (by decide) rfl ?_
  refine j_aload_n (j := 0) dd_H_text_12 rfl rfl ?_
  refine gf_0_5 dd_H_text_13 wd_292 ?_
  refine j_iconst dd_H_text_16 (inRd rfl) ?_
  refine pf_9_1 dd_H_text_17 wd_214 (fun M3 eM3 => ?_)
  have h := h M3 eM3
  refine j_aload_n (j := 0) dd_H_text_20 rfl rfl ?_
  refine j_aload_n (j := 0) dd_H_text_21 rfl rfl ?_
  refine gf_0_5 dd_H_text_22 wd_292 ?_
  refine gf_9_7 dd_H_text_25 wd_221 ?_
  refine pf_0_10 dd_H_text_28 wd_297 (fun M4 eM4 => ?_)
  have h := h M4 eM4
  refine j_aload_n (j := 0) dd_H_text_31 rfl rfl ?_
  refine gf_0_10 dd_H_text_32 wd_297 ?_
  refine j_if_eq (tgt := 49) dd_H_text_35 (by decide) (fun c => ?_) (fun c => ?_)
  · have h := h.1 c
    refine j_aload_n (j := 0) dd_H_text_49 rfl rfl ?_
    refine gf_0_0 dd_H_text_50 wd_287 ?_
    refine j_aload_n (j := 0) dd_H_text_53 rfl rfl ?_
    refine gf_0_1 dd_H_text_54 wd_288 ?_
    refine j_cVV (mm' := mm_T_copyFrom) (t := 3) (i := 0) (As := [vR 3 1]) (rest := []) h dd_H_text_57 (ws5 wd_479 wd_480 wd_481 wd_64 wd_482) nk_T_copyFrom (rok rfl) (by unfold isW; omega) ⟨_, ce_3 _⟩ rfl (Nat.le_of_ble_eq_true rfl) (fun _ => rfl) (fun a6 M5 h => ?_)
    refine j_aload_n (j := 0) dd_H_text_60 rfl rfl ?_
    refine j_iconst dd_H_text_61 (inRd rfl) ?_
    refine pf_0_9 dd_H_text_62 wd_296 (fun M7 eM7 => ?_)
    have h := h M7 eM7
    refine j_iconst dd_H_text_65 (inRd rfl) ?_
    refine j_istore_n (j := 2) dd_H_text_66 rfl (by decide) rfl ?_
    exact j_jump h (jsub_c rfl (jsub_c rfl (jsub_c rfl jsub_0)))
  · have h := h.2 c
    refine j_bipush dd_H_text_38 rfl (inRd rfl) ?_
    refine j_aload_n (j := 0) dd_H_text_40 rfl rfl ?_
    refine gf_0_5 dd_H_text_41 wd_292 ?_
    refine gf_9_8 dd_H_text_44 wd_223 ?_
    refine j_isub dd_H_text_47 ?_
    exact j_iret dd_H_text_48 rfl h
theorem vc_H_text_67 {E : EE} {Q : Int → JM → Prop} (l1 : Int) (l2 : Int) (M : JM) (h : ((2 ≤ l2 → Q l1 M) ∧ (l2 < 2 → (0 ≤ l2 ∧ l2 < 2) ∧ ∀ M1 : JM, M1 = pt M 12 0 l2.toNat 0 → ∀ a2 : Int, a2 = w32 (l2 + 1) → JG E mm_H_text Q 67 [(0, vR 0 0), (1, vI l1), (2, vI a2)] [] M1))) : JG E mm_H_text Q 67 [(0, vR 0 0), (1, vI l1), (2, vI l2)] [] M := by
  refine j_iload_n (j := 2) dd_H_text_67 rfl rfl ?_
  refine j_iconst dd_H_text_68 (inRd rfl) ?_
  refine j_icmp_ge (tgt := 85) dd_H_text_69 (by decide) (fun c => ?_) (fun c => ?_)
  · have h := h.1 c
    refine j_iload_n (j := 1) dd_H_text_85 rfl rfl ?_
    exact j_iret dd_H_text_86 rfl h
  · have h := h.2 c
    refine j_aload_n (j := 0) dd_H_text_72 rfl rfl ?_
    refine gf_0_4 dd_H_text_73 wd_291 ?_
    refine j_iload_n (j := 2) dd_H_text_76 rfl rfl ?_
    refine j_iconst dd_H_text_77 (inRd rfl) ?_
    refine st_12 dd_H_text_78 h.1 (Or.inl rfl) (fun M1 eM1 => ?_)
    have h := h.2
    have h := h M1 eM1
    refine j_iincN dd_H_text_79 rfl rfl (fun a2 ea2 => ?_)
    have h := h a2 ea2
    refine j_goto (tgt := 67) dd_H_text_82 (by decide) ?_
    exact j_jump h (jsub_c rfl (jsub_c rfl (jsub_c rfl jsub_0)))
theorem vc_H_fault {E : EE} {Q : Int → JM → Prop}  (M : JM) (h : Q (M 0 0 10) M) : JC E mm_H_fault [vR 0 0] M Q := by
  refine j_entry (L0 := [(0, vR 0 0)]) pn_H (Nat.le_of_ble_eq_true rfl) rfl ?_
  refine j_aload_n (j := 0) dd_H_fault_0 rfl rfl ?_
  refine gf_0_10 dd_H_fault_1 wd_297 ?_
  exact j_iret dd_H_fault_4 rfl h
theorem vc_H_rule {E : EE} {Q : Int → JM → Prop} (x1 : Int) (M : JM) (h : (((x1 < 0 ∨ 6 < x1) → Q (-1) M) ∧ (x1 = 0 → Q (M 3 0 2) M) ∧ (x1 = 1 → Q (M 3 0 3) M) ∧ (x1 = 2 → Q (M 3 0 6) M) ∧ (x1 = 3 → Q (M 3 0 4) M) ∧ (x1 = 4 → Q (M 3 0 5) M) ∧ (x1 = 5 → JC E mm_T_storeBits [vR 3 0] M (fun a2 M1 => Q a2 M1)) ∧ (x1 = 6 → JC E mm_T_wagesOfAll [vR 3 0] M (fun a4 M3 => Q a4 M3)))) : JC E mm_H_rule [vR 0 0, vI x1] M Q := by
  refine j_entry (L0 := [(0, vR 0 0), (1, vI x1)]) pn_H (Nat.le_of_ble_eq_true rfl) rfl ?_
  refine j_iload_n (j := 1) dd_H_rule_0 rfl rfl ?_
  have hc : (x1 < 0 ∨ 6 < x1) ∨ x1 = 0 ∨ x1 = 1 ∨ x1 = 2 ∨ x1 = 3 ∨ x1 = 4 ∨ x1 = 5 ∨ x1 = 6 := by omega
  rcases hc with hc | hc | hc | hc | hc | hc | hc | hc
  · have h := h.1 hc
    refine j_tabOut (tgt := 100) dd_H_rule_1 hc (by decide) ?_
    refine j_iconst dd_H_rule_100 (inRd rfl) ?_
    exact j_iret dd_H_rule_101 rfl h
  · have h := h.2.1 hc
    refine j_tabIn (tgt := 44) (off := 43) dd_H_rule_1 (by omega) (by omega) (by rw [hc]; rfl) (by decide) ?_
    refine j_aload_n (j := 0) dd_H_rule_44 rfl rfl ?_
    refine gf_0_0 dd_H_rule_45 wd_287 ?_
    refine gf_3_2 dd_H_rule_48 wd_165 ?_
    exact j_iret dd_H_rule_51 rfl h
  · have h := h.2.2.1 hc
    refine j_tabIn (tgt := 52) (off := 51) dd_H_rule_1 (by omega) (by omega) (by rw [hc]; rfl) (by decide) ?_
    refine j_aload_n (j := 0) dd_H_rule_52 rfl rfl ?_
    refine gf_0_0 dd_H_rule_53 wd_287 ?_
    refine gf_3_3 dd_H_rule_56 wd_168 ?_
    exact j_iret dd_H_rule_59 rfl h
  · have h := h.2.2.2.1 hc
    refine j_tabIn (tgt := 60) (off := 59) dd_H_rule_1 (by omega) (by omega) (by rw [hc]; rfl) (by decide) ?_
    refine j_aload_n (j := 0) dd_H_rule_60 rfl rfl ?_
    refine gf_0_0 dd_H_rule_61 wd_287 ?_
    refine gf_3_6 dd_H_rule_64 wd_176 ?_
    exact j_iret dd_H_rule_67 rfl h
  · have h := h.2.2.2.2.1 hc
    refine j_tabIn (tgt := 68) (off := 67) dd_H_rule_1 (by omega) (by omega) (by rw [hc]; rfl) (by decide) ?_
    refine j_aload_n (j := 0) dd_H_rule_68 rfl rfl ?_
    refine gf_0_0 dd_H_rule_69 wd_287 ?_
    refine gf_3_4 dd_H_rule_72 wd_171 ?_
    exact j_iret dd_H_rule_75 rfl h
  · have h := h.2.2.2.2.2.1 hc
    refine j_tabIn (tgt := 76) (off := 75) dd_H_rule_1 (by omega) (by omega) (by rw [hc]; rfl) (by decide) ?_
    refine j_aload_n (j := 0) dd_H_rule_76 rfl rfl ?_
    refine gf_0_0 dd_H_rule_77 wd_287 ?_
    refine gf_3_5 dd_H_rule_80 wd_174 ?_
    exact j_iret dd_H_rule_83 rfl h
  · have h := h.2.2.2.2.2.2.1 hc
    refine j_tabIn (tgt := 84) (off := 83) dd_H_rule_1 (by omega) (by omega) (by rw [hc]; rfl) (by decide) ?_
    refine j_aload_n (j := 0) dd_H_rule_84 rfl rfl ?_
    refine gf_0_0 dd_H_rule_85 wd_287 ?_
    refine j_cVI (mm' := mm_T_storeBits) (t := 3) (i := 0) (As := []) (rest := []) h dd_H_rule_88 (ws5 wd_500 wd_501 wd_502 wd_64 wd_503) nk_T_storeBits (rok rfl) (by unfold isW; omega) ⟨_, ce_3 _⟩ rfl (Nat.le_of_ble_eq_true rfl) (fun _ => rfl) (fun a2 M1 h => ?_)
    exact j_iret dd_H_rule_91 rfl h
  · have h := h.2.2.2.2.2.2.2 hc
    refine j_tabIn (tgt := 92) (off := 91) dd_H_rule_1 (by omega) (by omega) (by rw [hc]; rfl) (by decide) ?_
    refine j_aload_n (j := 0) dd_H_rule_92 rfl rfl ?_
    refine gf_0_0 dd_H_rule_93 wd_287 ?_
    refine j_cVI (mm' := mm_T_wagesOfAll) (t := 3) (i := 0) (As := []) (rest := []) h dd_H_rule_96 (ws5 wd_504 wd_505 wd_506 wd_64 wd_507) nk_T_wagesOfAll (rok rfl) (by unfold isW; omega) ⟨_, ce_3 _⟩ rfl (Nat.le_of_ble_eq_true rfl) (fun _ => rfl) (fun a4 M3 h => ?_)
    exact j_iret dd_H_rule_99 rfl h
theorem vc_H_good {E : EE} {Q : Int → JM → Prop} (x1 : Int) (x2 : Int) (M : JM) (h : JC E mm_H_isGood [vR 0 0, vI x1] M (fun a2 M1 => ((a2 ≠ 0 → (0 ≤ x1 ∧ x1 < 8) ∧ (((x2 < 0 ∨ 5 < x2) → Q (-1) M1) ∧ (x2 = 0 → Q (M1 1 (8 * 0 + x1.toNat) 0) M1) ∧ (x2 = 1 → Q (M1 1 (8 * 0 + x1.toNat) 1) M1) ∧ (x2 = 2 → Q (M1 1 (8 * 0 + x1.toNat) 2) M1) ∧ (x2 = 3 → ((M1 1 (8 * 0 + x1.toNat) 5 = 0 → Q 0 M1) ∧ (M1 1 (8 * 0 + x1.toNat) 5 ≠ 0 → Q 1 M1))) ∧ (x2 = 4 → Q (M1 1 (8 * 0 + x1.toNat) 3) M1) ∧ (x2 = 5 → Q (M1 1 (8 * 0 + x1.toNat) 4) M1))) ∧ (a2 = 0 → Q (-1) M1)))) : JC E mm_H_good [vR 0 0, vI x1, vI x2] M Q := by
  refine j_entry (L0 := [(0, vR 0 0), (1, vI x1), (2, vI x2)]) pn_H (Nat.le_of_ble_eq_true rfl) rfl ?_
  refine j_aload_n (j := 0) dd_H_good_0 rfl rfl ?_
  refine j_iload_n (j := 1) dd_H_good_1 rfl rfl ?_
  refine j_cVI (mm' := mm_H_isGood) (t := 0) (i := 0) (As := [vI x1]) (rest := []) h dd_H_good_2 (ws5 wd_512 wd_514 wd_13 wd_63 wd_515) nk_H_isGood (rok rfl) (by unfold isW; omega) ⟨_, ce_0 _⟩ rfl (Nat.le_of_ble_eq_true rfl) (fun _ => rfl) (fun a2 M1 h => ?_)
  refine j_if_ne (tgt := 10) dd_H_good_5 (by decide) (fun c => ?_) (fun c => ?_)
  · have h := h.1 c
    refine j_aload_n (j := 0) dd_H_good_10 rfl rfl ?_
    refine gf_0_0 dd_H_good_11 wd_287 ?_
    refine gf_3_0 dd_H_good_14 wd_160 ?_
    refine j_iload_n (j := 1) dd_H_good_17 rfl rfl ?_
    refine ld_4 dd_H_good_18 h.1 ?_
    have h := h.2
    refine j_astore_n (j := 3) dd_H_good_19 rfl (by decide) rfl ?_
    refine j_iload_n (j := 2) dd_H_good_20 rfl rfl ?_
    have hc : (x2 < 0 ∨ 5 < x2) ∨ x2 = 0 ∨ x2 = 1 ∨ x2 = 2 ∨ x2 = 3 ∨ x2 = 4 ∨ x2 = 5 := by omega
    rcases hc with hc | hc | hc | hc | hc | hc | hc
    · have h := h.1 hc
      refine j_tabOut (tgt := 98) dd_H_good_21 hc (by decide) ?_
      refine j_iconst dd_H_good_98 (inRd rfl) ?_
      exact j_iret dd_H_good_99 rfl h
    · have h := h.2.1 hc
      refine j_tabIn (tgt := 60) (off := 39) dd_H_good_21 (by omega) (by omega) (by rw [hc]; rfl) (by decide) ?_
      refine j_aload_n (j := 3) dd_H_good_60 rfl rfl ?_
      refine gf_1_0 dd_H_good_61 wd_101 ?_
      exact j_iret dd_H_good_64 rfl h
    · have h := h.2.2.1 hc
      refine j_tabIn (tgt := 65) (off := 44) dd_H_good_21 (by omega) (by omega) (by rw [hc]; rfl) (by decide) ?_
      refine j_aload_n (j := 3) dd_H_good_65 rfl rfl ?_
      refine gf_1_1 dd_H_good_66 wd_103 ?_
      exact j_iret dd_H_good_69 rfl h
    · have h := h.2.2.2.1 hc
      refine j_tabIn (tgt := 70) (off := 49) dd_H_good_21 (by omega) (by omega) (by rw [hc]; rfl) (by decide) ?_
      refine j_aload_n (j := 3) dd_H_good_70 rfl rfl ?_
      refine gf_1_2 dd_H_good_71 wd_105 ?_
      exact j_iret dd_H_good_74 rfl h
    · have h := h.2.2.2.2.1 hc
      refine j_tabIn (tgt := 75) (off := 54) dd_H_good_21 (by omega) (by omega) (by rw [hc]; rfl) (by decide) ?_
      refine j_aload_n (j := 3) dd_H_good_75 rfl rfl ?_
      refine gf_1_5 dd_H_good_76 wd_115 ?_
      refine j_if_eq (tgt := 86) dd_H_good_79 (by decide) (fun c => ?_) (fun c => ?_)
      · have h := h.1 c
        refine j_iconst dd_H_good_86 (inRd rfl) ?_
        exact j_iret dd_H_good_87 rfl h
      · have h := h.2 c
        refine j_iconst dd_H_good_82 (inRd rfl) ?_
        refine j_goto (tgt := 87) dd_H_good_83 (by decide) ?_
        exact j_iret dd_H_good_87 rfl h
    · have h := h.2.2.2.2.2.1 hc
      refine j_tabIn (tgt := 88) (off := 67) dd_H_good_21 (by omega) (by omega) (by rw [hc]; rfl) (by decide) ?_
      refine j_aload_n (j := 3) dd_H_good_88 rfl rfl ?_
      refine gf_1_3 dd_H_good_89 wd_108 ?_
      exact j_iret dd_H_good_92 rfl h
    · have h := h.2.2.2.2.2.2 hc
      refine j_tabIn (tgt := 93) (off := 72) dd_H_good_21 (by omega) (by omega) (by rw [hc]; rfl) (by decide) ?_
      refine j_aload_n (j := 3) dd_H_good_93 rfl rfl ?_
      refine gf_1_4 dd_H_good_94 wd_111 ?_
      exact j_iret dd_H_good_97 rfl h
  · have h := h.2 c
    refine j_iconst dd_H_good_8 (inRd rfl) ?_
    exact j_iret dd_H_good_9 rfl h
theorem vc_H_one {E : EE} {Q : Int → JM → Prop} (x1 : Int) (x2 : Int) (M : JM) (h : JC E mm_H_isOne [vR 0 0, vI x1] M (fun a2 M1 => ((a2 = 0 → Q (-1) M1) ∧ (a2 ≠ 0 → JC E mm_H_within [vI x2, vI 0, vI 3] M1 (fun a4 M3 => ((a4 ≠ 0 → ((x2 ≠ 0 → ((x2 ≠ 1 → JC E mm_T_copyFrom [vR 3 1, vR 3 0] M3 (fun a6 M5 => JC E mm_T_carryOut [vR 3 1, vI 0] M5 (fun a8 M7 => ((x2 ≠ 2 → (0 ≤ x1 ∧ x1 < 4) ∧ Q (M7 2 (4 * 1 + (M7 5 1 x1.toNat).toNat) 3) M7) ∧ (x2 = 2 → (0 ≤ x1 ∧ x1 < 4) ∧ Q (M7 2 (4 * 1 + (M7 5 1 x1.toNat).toNat) 2) M7))))) ∧ (x2 = 1 → (0 ≤ x1 ∧ x1 < 4) ∧ Q (M3 2 (4 * 0 + (M3 5 0 x1.toNat).toNat) 1) M3))) ∧ (x2 = 0 → (0 ≤ x1 ∧ x1 < 4) ∧ Q (M3 2 (4 * 0 + (M3 5 0 x1.toNat).toNat) 0) M3))) ∧ (a4 = 0 → Q (-1) M3))))))) : JC E mm_H_one [vR 0 0, vI x1, vI x2] M Q := by
  refine j_entry (L0 := [(0, vR 0 0), (1, vI x1), (2, vI x2)]) pn_H (Nat.le_of_ble_eq_true rfl) rfl ?_
  refine j_aload_n (j := 0) dd_H_one_0 rfl rfl ?_
  refine j_iload_n (j := 1) dd_H_one_1 rfl rfl ?_
  refine j_cVI (mm' := mm_H_isOne) (t := 0) (i := 0) (As := [vI x1]) (rest := []) h dd_H_one_2 (ws5 wd_520 wd_522 wd_14 wd_63 wd_523) nk_H_isOne (rok rfl) (by unfold isW; omega) ⟨_, ce_0 _⟩ rfl (Nat.le_of_ble_eq_true rfl) (fun _ => rfl) (fun a2 M1 h => ?_)
  refine j_if_eq (tgt := 17) dd_H_one_5 (by decide) (fun c => ?_) (fun c => ?_)
  · have h := h.1 c
    refine j_iconst dd_H_one_17 (inRd rfl) ?_
    exact j_iret dd_H_one_18 rfl h
  · have h := h.2 c
    refine j_iload_n (j := 2) dd_H_one_8 rfl rfl ?_
    refine j_iconst dd_H_one_9 (inRd rfl) ?_
    refine j_iconst dd_H_one_10 (inRd rfl) ?_
    refine j_cSI (mm' := mm_H_within) (As := [vI x2, vI 0, vI 3]) (rest := []) h dd_H_one_11 (ws4 wd_328 wd_329 wd_63 wd_330) nk_H_within (rok rfl) (Nat.le_of_ble_eq_true rfl) (fun _ => rfl) (fun a4 M3 h => ?_)
    refine j_if_ne (tgt := 19) dd_H_one_14 (by decide) (fun c => ?_) (fun c => ?_)
    · have h := h.1 c
      refine j_iload_n (j := 2) dd_H_one_19 rfl rfl ?_
      refine j_if_ne (tgt := 36) dd_H_one_20 (by decide) (fun c => ?_) (fun c => ?_)
      · have h := h.1 c
        refine j_iload_n (j := 2) dd_H_one_36 rfl rfl ?_
        refine j_iconst dd_H_one_37 (inRd rfl) ?_
        refine j_icmp_ne (tgt := 54) dd_H_one_38 (by decide) (fun c => ?_) (fun c => ?_)
        · have h := h.1 c
          refine j_aload_n (j := 0) dd_H_one_54 rfl rfl ?_
          refine gf_0_1 dd_H_one_55 wd_288 ?_
          refine j_aload_n (j := 0) dd_H_one_58 rfl rfl ?_
          refine gf_0_0 dd_H_one_59 wd_287 ?_
          refine j_cVV (mm' := mm_T_copyFrom) (t := 3) (i := 1) (As := [vR 3 0]) (rest := []) h dd_H_one_62 (ws5 wd_479 wd_480 wd_481 wd_64 wd_482) nk_T_copyFrom (rok rfl) (by unfold isW; omega) ⟨_, ce_3 _⟩ rfl (Nat.le_of_ble_eq_true rfl) (fun _ => rfl) (fun a6 M5 h => ?_)
          refine j_aload_n (j := 0) dd_H_one_65 rfl rfl ?_
          refine gf_0_1 dd_H_one_66 wd_288 ?_
          refine j_iconst dd_H_one_69 (inRd rfl) ?_
          refine j_cVV (mm' := mm_T_carryOut) (t := 3) (i := 1) (As := [vI 0]) (rest := []) h dd_H_one_70 (ws5 wd_524 wd_525 wd_526 wd_64 wd_527) nk_T_carryOut (rok rfl) (by unfold isW; omega) ⟨_, ce_3 _⟩ rfl (Nat.le_of_ble_eq_true rfl) (fun _ => rfl) (fun a8 M7 h => ?_)
          refine j_iload_n (j := 2) dd_H_one_73 rfl rfl ?_
          refine j_iconst dd_H_one_74 (inRd rfl) ?_
          refine j_icmp_ne (tgt := 93) dd_H_one_75 (by decide) (fun c => ?_) (fun c => ?_)
          · have h := h.1 c
            refine j_aload_n (j := 0) dd_H_one_93 rfl rfl ?_
            refine gf_0_1 dd_H_one_94 wd_288 ?_
            refine gf_3_1 dd_H_one_97 wd_162 ?_
            refine j_iload_n (j := 1) dd_H_one_100 rfl rfl ?_
            refine ld_5 dd_H_one_101 h.1 ?_
            have h := h.2
            refine gf_2_3 dd_H_one_102 wd_144 ?_
            exact j_iret dd_H_one_105 rfl h
          · have h := h.2 c
            refine j_aload_n (j := 0) dd_H_one_78 rfl rfl ?_
            refine gf_0_1 dd_H_one_79 wd_288 ?_
            refine gf_3_1 dd_H_one_82 wd_162 ?_
            refine j_iload_n (j := 1) dd_H_one_85 rfl rfl ?_
            refine ld_5 dd_H_one_86 h.1 ?_
            have h := h.2
            refine gf_2_2 dd_H_one_87 wd_141 ?_
            refine j_goto (tgt := 105) dd_H_one_90 (by decide) ?_
            exact j_iret dd_H_one_105 rfl h
        · have h := h.2 c
          refine j_aload_n (j := 0) dd_H_one_41 rfl rfl ?_
          refine gf_0_0 dd_H_one_42 wd_287 ?_
          refine gf_3_1 dd_H_one_45 wd_162 ?_
          refine j_iload_n (j := 1) dd_H_one_48 rfl rfl ?_
          refine ld_5 dd_H_one_49 h.1 ?_
          have h := h.2
          refine gf_2_1 dd_H_one_50 wd_139 ?_
          exact j_iret dd_H_one_53 rfl h
      · have h := h.2 c
        refine j_aload_n (j := 0) dd_H_one_23 rfl rfl ?_
        refine gf_0_0 dd_H_one_24 wd_287 ?_
        refine gf_3_1 dd_H_one_27 wd_162 ?_
        refine j_iload_n (j := 1) dd_H_one_30 rfl rfl ?_
        refine ld_5 dd_H_one_31 h.1 ?_
        have h := h.2
        refine gf_2_0 dd_H_one_32 wd_136 ?_
        exact j_iret dd_H_one_35 rfl h
    · have h := h.2 c
      refine j_iconst dd_H_one_17 (inRd rfl) ?_
      exact j_iret dd_H_one_18 rfl h
theorem vc_H_alter {E : EE} {Q : Int → JM → Prop} (x1 : Int) (x2 : Int) (x3 : Int) (M : JM) (h : JC E mm_H_isGood [vR 0 0, vI x1] M (fun a2 M1 => ((a2 ≠ 0 → (0 ≤ x1 ∧ x1 < 8) ∧ ((x2 ≠ 0 → JG E mm_H_alter Q 61 [(2, vI x2), (3, vI x3), (4, vR 1 (8 * 0 + x1.toNat)), (5, vI (-1))] [] M1) ∧ (x2 = 0 → JC E mm_H_isKind [vI x3] M1 (fun a4 M3 => ((a4 = 0 → JG E mm_H_alter Q 61 [(2, vI x2), (3, vI x3), (4, vR 1 (8 * 0 + x1.toNat)), (5, vI (-1))] [] M3) ∧ (a4 ≠ 0 → ∀ a5 : Int, a5 = M3 1 (8 * 0 + x1.toNat) 0 → JC E mm_G_become [vR 1 (8 * 0 + x1.toNat), vI x3, vI (M3 1 (8 * 0 + x1.toNat) 1), vI (M3 1 (8 * 0 + x1.toNat) 2)] M3 (fun a7 M6 => Q a5 M6))))))) ∧ (a2 = 0 → Q (-1) M1)))) : JC E mm_H_alter [vR 0 0, vI x1, vI x2, vI x3] M Q := by
  refine j_entry (L0 := [(0, vR 0 0), (1, vI x1), (2, vI x2), (3, vI x3)]) pn_H (Nat.le_of_ble_eq_true rfl) rfl ?_
  refine j_aload_n (j := 0) dd_H_alter_0 rfl rfl ?_
  refine j_iload_n (j := 1) dd_H_alter_1 rfl rfl ?_
  refine j_cVI (mm' := mm_H_isGood) (t := 0) (i := 0) (As := [vI x1]) (rest := []) h dd_H_alter_2 (ws5 wd_512 wd_514 wd_13 wd_63 wd_515) nk_H_isGood (rok rfl) (by unfold isW; omega) ⟨_, ce_0 _⟩ rfl (Nat.le_of_ble_eq_true rfl) (fun _ => rfl) (fun a2 M1 h => ?_)
  refine j_if_ne (tgt := 10) dd_H_alter_5 (by decide) (fun c => ?_) (fun c => ?_)
  · have h := h.1 c
    refine j_aload_n (j := 0) dd_H_alter_10 rfl rfl ?_
    refine gf_0_0 dd_H_alter_11 wd_287 ?_
    refine gf_3_0 dd_H_alter_14 wd_160 ?_
    refine j_iload_n (j := 1) dd_H_alter_17 rfl rfl ?_
    refine ld_4 dd_H_alter_18 h.1 ?_
    have h := h.2
    refine j_astore (j := 4) dd_H_alter_19 (by decide) rfl ?_
    refine j_iconst dd_H_alter_21 (inRd rfl) ?_
    refine j_istore (j := 5) dd_H_alter_22 (by decide) rfl ?_
    refine j_iload_n (j := 2) dd_H_alter_24 rfl rfl ?_
    refine j_if_ne (tgt := 61) dd_H_alter_25 (by decide) (fun c => ?_) (fun c => ?_)
    · have h := h.1 c
      exact j_jump h (jsub_c rfl (jsub_c rfl (jsub_c rfl (jsub_c rfl jsub_0))))
    · have h := h.2 c
      refine j_iload_n (j := 3) dd_H_alter_28 rfl rfl ?_
      refine j_cSI (mm' := mm_H_isKind) (As := [vI x3]) (rest := []) h dd_H_alter_29 (ws4 wd_543 wd_544 wd_63 wd_545) nk_H_isKind (rok rfl) (Nat.le_of_ble_eq_true rfl) (fun _ => rfl) (fun a4 M3 h => ?_)
      refine j_if_eq (tgt := 61) dd_H_alter_32 (by decide) (fun c => ?_) (fun c => ?_)
      · have h := h.1 c
        exact j_jump h (jsub_c rfl (jsub_c rfl (jsub_c rfl (jsub_c rfl jsub_0))))
      · have h := h.2 c
        refine j_aload (j := 4) dd_H_alter_35 rfl ?_
        refine gf_1_0 dd_H_alter_37 wd_101 ?_
        refine j_topI (fun a5 ea5 => ?_)
        have h := h a5 ea5
        refine j_istore (j := 5) dd_H_alter_40 (by decide) rfl ?_
        refine j_aload (j := 4) dd_H_alter_42 rfl ?_
        refine j_iload_n (j := 3) dd_H_alter_44 rfl rfl ?_
        refine j_aload (j := 4) dd_H_alter_45 rfl ?_
        refine gf_1_1 dd_H_alter_47 wd_103 ?_
        refine j_aload (j := 4) dd_H_alter_50 rfl ?_
        refine gf_1_2 dd_H_alter_52 wd_105 ?_
        refine j_cVV (mm' := mm_G_become) (t := 1) (i := (8 * 0 + x1.toNat)) (As := [vI x3, vI (M3 1 (8 * 0 + x1.toNat) 1), vI (M3 1 (8 * 0 + x1.toNat) 2)]) (rest := []) h dd_H_alter_55 (ws5 wd_546 wd_457 wd_458 wd_65 wd_459) nk_G_become (rok rfl) (by unfold isW; omega) ⟨_, ce_1 _⟩ rfl (Nat.le_of_ble_eq_true rfl) (fun _ => rfl) (fun a7 M6 h => ?_)
        refine j_goto (tgt := 134) dd_H_alter_58 (by decide) ?_
        refine j_iload (j := 5) dd_H_alter_134 rfl ?_
        exact j_iret dd_H_alter_136 rfl h
  · have h := h.2 c
    refine j_iconst dd_H_alter_8 (inRd rfl) ?_
    exact j_iret dd_H_alter_9 rfl h
theorem vc_H_alter_61 {E : EE} {Q : Int → JM → Prop} (x2 : Int) (x3 : Int) (r_4 : Nat) (l5 : Int) (M : JM) (h : ((x2 ≠ 1 → JG E mm_H_alter Q 99 [(2, vI x2), (3, vI x3), (4, vR 1 r_4), (5, vI l5)] [] M) ∧ (x2 = 1 → JC E mm_H_isWeight [vI x3] M (fun a2 M1 => ((a2 = 0 → JG E mm_H_alter Q 99 [(2, vI x2), (3, vI x3), (4, vR 1 r_4), (5, vI l5)] [] M1) ∧ (a2 ≠ 0 → ∀ a3 : Int, a3 = M1 1 r_4 1 → JC E mm_G_become [vR 1 r_4, vI (M1 1 r_4 0), vI x3, vI (M1 1 r_4 2)] M1 (fun a5 M4 => Q a3 M4))))))) : JG E mm_H_alter Q 61 [(2, vI x2), (3, vI x3), (4, vR 1 r_4), (5, vI l5)] [] M := by
  refine j_iload_n (j := 2) dd_H_alter_61 rfl rfl ?_
  refine j_iconst dd_H_alter_62 (inRd rfl) ?_
  refine j_icmp_ne (tgt := 99) dd_H_alter_63 (by decide) (fun c => ?_) (fun c => ?_)
  · have h := h.1 c
    exact j_jump h (jsub_c rfl (jsub_c rfl (jsub_c rfl (jsub_c rfl jsub_0))))
  · have h := h.2 c
    refine j_iload_n (j := 3) dd_H_alter_66 rfl rfl ?_
    refine j_cSI (mm' := mm_H_isWeight) (As := [vI x3]) (rest := []) h dd_H_alter_67 (ws4 wd_547 wd_548 wd_63 wd_549) nk_H_isWeight (rok rfl) (Nat.le_of_ble_eq_true rfl) (fun _ => rfl) (fun a2 M1 h => ?_)
    refine j_if_eq (tgt := 99) dd_H_alter_70 (by decide) (fun c => ?_) (fun c => ?_)
    · have h := h.1 c
      exact j_jump h (jsub_c rfl (jsub_c rfl (jsub_c rfl (jsub_c rfl jsub_0))))
    · have h := h.2 c
      refine j_aload (j := 4) dd_H_alter_73 rfl ?_
      refine gf_1_1 dd_H_alter_75 wd_103 ?_
      refine j_topI (fun a3 ea3 => ?_)
      have h := h a3 ea3
      refine j_istore (j := 5) dd_H_alter_78 (by decide) rfl ?_
      refine j_aload (j := 4) dd_H_alter_80 rfl ?_
      refine j_aload (j := 4) dd_H_alter_82 rfl ?_
      refine gf_1_0 dd_H_alter_84 wd_101 ?_
      refine j_iload_n (j := 3) dd_H_alter_87 rfl rfl ?_
      refine j_aload (j := 4) dd_H_alter_88 rfl ?_
      refine gf_1_2 dd_H_alter_90 wd_105 ?_
      refine j_cVV (mm' := mm_G_become) (t := 1) (i := r_4) (As := [vI (M1 1 r_4 0), vI x3, vI (M1 1 r_4 2)]) (rest := []) h dd_H_alter_93 (ws5 wd_546 wd_457 wd_458 wd_65 wd_459) nk_G_become (rok rfl) (by unfold isW; omega) ⟨_, ce_1 _⟩ rfl (Nat.le_of_ble_eq_true rfl) (fun _ => rfl) (fun a5 M4 h => ?_)
      refine j_goto (tgt := 134) dd_H_alter_96 (by decide) ?_
      refine j_iload (j := 5) dd_H_alter_134 rfl ?_
      exact j_iret dd_H_alter_136 rfl h
theorem vc_H_alter_99 {E : EE} {Q : Int → JM → Prop} (x2 : Int) (x3 : Int) (r_4 : Nat) (l5 : Int) (M : JM) (h : ((x2 ≠ 2 → Q l5 M) ∧ (x2 = 2 → JC E mm_H_isWorth [vI x3] M (fun a2 M1 => ((a2 = 0 → Q l5 M1) ∧ (a2 ≠ 0 → ∀ a3 : Int, a3 = M1 1 r_4 2 → JC E mm_G_become [vR 1 r_4, vI (M1 1 r_4 0), vI (M1 1 r_4 1), vI x3] M1 (fun a5 M4 => Q a3 M4))))))) : JG E mm_H_alter Q 99 [(2, vI x2), (3, vI x3), (4, vR 1 r_4), (5, vI l5)] [] M := by
  refine j_iload_n (j := 2) dd_H_alter_99 rfl rfl ?_
  refine j_iconst dd_H_alter_100 (inRd rfl) ?_
  refine j_icmp_ne (tgt := 134) dd_H_alter_101 (by decide) (fun c => ?_) (fun c => ?_)
  · have h := h.1 c
    refine j_iload (j := 5) dd_H_alter_134 rfl ?_
    exact j_iret dd_H_alter_136 rfl h
  · have h := h.2 c
    refine j_iload_n (j := 3) dd_H_alter_104 rfl rfl ?_
    refine j_cSI (mm' := mm_H_isWorth) (As := [vI x3]) (rest := []) h dd_H_alter_105 (ws4 wd_550 wd_551 wd_63 wd_552) nk_H_isWorth (rok rfl) (Nat.le_of_ble_eq_true rfl) (fun _ => rfl) (fun a2 M1 h => ?_)
    refine j_if_eq (tgt := 134) dd_H_alter_108 (by decide) (fun c => ?_) (fun c => ?_)
    · have h := h.1 c
      refine j_iload (j := 5) dd_H_alter_134 rfl ?_
      exact j_iret dd_H_alter_136 rfl h
    · have h := h.2 c
      refine j_aload (j := 4) dd_H_alter_111 rfl ?_
      refine gf_1_2 dd_H_alter_113 wd_105 ?_
      refine j_topI (fun a3 ea3 => ?_)
      have h := h a3 ea3
      refine j_istore (j := 5) dd_H_alter_116 (by decide) rfl ?_
      refine j_aload (j := 4) dd_H_alter_118 rfl ?_
      refine j_aload (j := 4) dd_H_alter_120 rfl ?_
      refine gf_1_0 dd_H_alter_122 wd_101 ?_
      refine j_aload (j := 4) dd_H_alter_125 rfl ?_
      refine gf_1_1 dd_H_alter_127 wd_103 ?_
      refine j_iload_n (j := 3) dd_H_alter_130 rfl rfl ?_
      refine j_cVV (mm' := mm_G_become) (t := 1) (i := r_4) (As := [vI (M1 1 r_4 0), vI (M1 1 r_4 1), vI x3]) (rest := []) h dd_H_alter_131 (ws5 wd_546 wd_457 wd_458 wd_65 wd_459) nk_G_become (rok rfl) (by unfold isW; omega) ⟨_, ce_1 _⟩ rfl (Nat.le_of_ble_eq_true rfl) (fun _ => rfl) (fun a5 M4 h => ?_)
      refine j_iload (j := 5) dd_H_alter_134 rfl ?_
      exact j_iret dd_H_alter_136 rfl h
theorem vc_H_train {E : EE} {Q : Int → JM → Prop} (x1 : Int) (x2 : Int) (x3 : Int) (M : JM) (h : JC E mm_H_isOne [vR 0 0, vI x1] M (fun a2 M1 => ((a2 ≠ 0 → (0 ≤ x1 ∧ x1 < 4) ∧ ((x2 ≠ 0 → JG E mm_H_train Q 54 [(2, vI x2), (3, vI x3), (4, vR 2 (4 * 0 + (M1 5 0 x1.toNat).toNat)), (5, vI (-1))] [] M1) ∧ (x2 = 0 → JC E mm_H_within [vI x3, vI 1, vI 20] M1 (fun a4 M3 => ((a4 = 0 → JG E mm_H_train Q 54 [(2, vI x2), (3, vI x3), (4, vR 2 (4 * 0 + (M1 5 0 x1.toNat).toNat)), (5, vI (-1))] [] M3) ∧ (a4 ≠ 0 → ∀ a5 : Int, a5 = M3 2 (4 * 0 + (M1 5 0 x1.toNat).toNat) 0 → ∀ M6 : JM, M6 = pt M3 2 (4 * 0 + (M1 5 0 x1.toNat).toNat) 0 x3 → Q a5 M6)))))) ∧ (a2 = 0 → Q (-1) M1)))) : JC E mm_H_train [vR 0 0, vI x1, vI x2, vI x3] M Q := by
  refine j_entry (L0 := [(0, vR 0 0), (1, vI x1), (2, vI x2), (3, vI x3)]) pn_H (Nat.le_of_ble_eq_true rfl) rfl ?_
  refine j_aload_n (j := 0) dd_H_train_0 rfl rfl ?_
  refine j_iload_n (j := 1) dd_H_train_1 rfl rfl ?_
  refine j_cVI (mm' := mm_H_isOne) (t := 0) (i := 0) (As := [vI x1]) (rest := []) h dd_H_train_2 (ws5 wd_520 wd_522 wd_14 wd_63 wd_523) nk_H_isOne (rok rfl) (by unfold isW; omega) ⟨_, ce_0 _⟩ rfl (Nat.le_of_ble_eq_true rfl) (fun _ => rfl) (fun a2 M1 h => ?_)
  refine j_if_ne (tgt := 10) dd_H_train_5 (by decide) (fun c => ?_) (fun c => ?_)
  · have h := h.1 c
    refine j_aload_n (j := 0) dd_H_train_10 rfl rfl ?_
    refine gf_0_0 dd_H_train_11 wd_287 ?_
    refine gf_3_1 dd_H_train_14 wd_162 ?_
    refine j_iload_n (j := 1) dd_H_train_17 rfl rfl ?_
    refine ld_5 dd_H_train_18 h.1 ?_
    have h := h.2
    refine j_astore (j := 4) dd_H_train_19 (by decide) rfl ?_
    refine j_iconst dd_H_train_21 (inRd rfl) ?_
    refine j_istore (j := 5) dd_H_train_22 (by decide) rfl ?_
    refine j_iload_n (j := 2) dd_H_train_24 rfl rfl ?_
    refine j_if_ne (tgt := 54) dd_H_train_25 (by decide) (fun c => ?_) (fun c => ?_)
    · have h := h.1 c
      exact j_jump h (jsub_c rfl (jsub_c rfl (jsub_c rfl (jsub_c rfl jsub_0))))
    · have h := h.2 c
      refine j_iload_n (j := 3) dd_H_train_28 rfl rfl ?_
      refine j_iconst dd_H_train_29 (inRd rfl) ?_
      refine j_bipush dd_H_train_30 rfl (inRd rfl) ?_
      refine j_cSI (mm' := mm_H_within) (As := [vI x3, vI 1, vI 20]) (rest := []) h dd_H_train_32 (ws4 wd_328 wd_329 wd_63 wd_330) nk_H_within (rok rfl) (Nat.le_of_ble_eq_true rfl) (fun _ => rfl) (fun a4 M3 h => ?_)
      refine j_if_eq (tgt := 54) dd_H_train_35 (by decide) (fun c => ?_) (fun c => ?_)
      · have h := h.1 c
        exact j_jump h (jsub_c rfl (jsub_c rfl (jsub_c rfl (jsub_c rfl jsub_0))))
      · have h := h.2 c
        refine j_aload (j := 4) dd_H_train_38 rfl ?_
        refine gf_2_0 dd_H_train_40 wd_136 ?_
        refine j_topI (fun a5 ea5 => ?_)
        have h := h a5 ea5
        refine j_istore (j := 5) dd_H_train_43 (by decide) rfl ?_
        refine j_aload (j := 4) dd_H_train_45 rfl ?_
        refine j_iload_n (j := 3) dd_H_train_47 rfl rfl ?_
        refine pf_2_0 dd_H_train_48 wd_136 (fun M6 eM6 => ?_)
        have h := h M6 eM6
        refine j_goto (tgt := 83) dd_H_train_51 (by decide) ?_
        refine j_iload (j := 5) dd_H_train_83 rfl ?_
        exact j_iret dd_H_train_85 rfl h
  · have h := h.2 c
    refine j_iconst dd_H_train_8 (inRd rfl) ?_
    exact j_iret dd_H_train_9 rfl h
theorem vc_H_train_54 {E : EE} {Q : Int → JM → Prop} (x2 : Int) (x3 : Int) (r_4 : Nat) (l5 : Int) (M : JM) (h : ((x2 ≠ 1 → Q l5 M) ∧ (x2 = 1 → JC E mm_H_within [vI x3, vI 0, vI 999] M (fun a2 M1 => ((a2 = 0 → Q l5 M1) ∧ (a2 ≠ 0 → ∀ a3 : Int, a3 = M1 2 r_4 1 → ∀ M4 : JM, M4 = pt M1 2 r_4 1 x3 → Q a3 M4)))))) : JG E mm_H_train Q 54 [(2, vI x2), (3, vI x3), (4, vR 2 r_4), (5, vI l5)] [] M := by
  refine j_iload_n (j := 2) dd_H_train_54 rfl rfl ?_
  refine j_iconst dd_H_train_55 (inRd rfl) ?_
  refine j_icmp_ne (tgt := 83) dd_H_train_56 (by decide) (fun c => ?_) (fun c => ?_)
  · have h := h.1 c
    refine j_iload (j := 5) dd_H_train_83 rfl ?_
    exact j_iret dd_H_train_85 rfl h
  · have h := h.2 c
    refine j_iload_n (j := 3) dd_H_train_59 rfl rfl ?_
    refine j_iconst dd_H_train_60 (inRd rfl) ?_
    refine j_sipush dd_H_train_61 rfl (inRd rfl) ?_
    refine j_cSI (mm' := mm_H_within) (As := [vI x3, vI 0, vI 999]) (rest := []) h dd_H_train_64 (ws4 wd_328 wd_329 wd_63 wd_330) nk_H_within (rok rfl) (Nat.le_of_ble_eq_true rfl) (fun _ => rfl) (fun a2 M1 h => ?_)
    refine j_if_eq (tgt := 83) dd_H_train_67 (by decide) (fun c => ?_) (fun c => ?_)
    · have h := h.1 c
      refine j_iload (j := 5) dd_H_train_83 rfl ?_
      exact j_iret dd_H_train_85 rfl h
    · have h := h.2 c
      refine j_aload (j := 4) dd_H_train_70 rfl ?_
      refine gf_2_1 dd_H_train_72 wd_139 ?_
      refine j_topI (fun a3 ea3 => ?_)
      have h := h a3 ea3
      refine j_istore (j := 5) dd_H_train_75 (by decide) rfl ?_
      refine j_aload (j := 4) dd_H_train_77 rfl ?_
      refine j_iload_n (j := 3) dd_H_train_79 rfl rfl ?_
      refine pf_2_1 dd_H_train_80 wd_139 (fun M4 eM4 => ?_)
      have h := h M4 eM4
      refine j_iload (j := 5) dd_H_train_83 rfl ?_
      exact j_iret dd_H_train_85 rfl h
theorem vc_H_set {E : EE} {Q : Int → JM → Prop} (x1 : Int) (x2 : Int) (M : JM) (h : ((x1 ≠ 0 → JG E mm_H_set Q 35 [(0, vR 0 0), (1, vI x1), (2, vI x2), (3, vI (-1))] [] M) ∧ (x1 = 0 → JC E mm_H_within [vI x2, vI 0, vI 6] M (fun a2 M1 => ((a2 = 0 → JG E mm_H_set Q 35 [(0, vR 0 0), (1, vI x1), (2, vI x2), (3, vI (-1))] [] M1) ∧ (a2 ≠ 0 → ∀ a3 : Int, a3 = M1 3 0 4 → ∀ M4 : JM, M4 = pt M1 3 0 4 x2 → Q a3 M4)))))) : JC E mm_H_set [vR 0 0, vI x1, vI x2] M Q := by
  refine j_entry (L0 := [(0, vR 0 0), (1, vI x1), (2, vI x2)]) pn_H (Nat.le_of_ble_eq_true rfl) rfl ?_
  refine j_iconst dd_H_set_0 (inRd rfl) ?_
  refine j_istore_n (j := 3) dd_H_set_1 rfl (by decide) rfl ?_
  refine j_iload_n (j := 1) dd_H_set_2 rfl rfl ?_
  refine j_if_ne (tgt := 35) dd_H_set_3 (by decide) (fun c => ?_) (fun c => ?_)
  · have h := h.1 c
    exact j_jump h (jsub_c rfl (jsub_c rfl (jsub_c rfl (jsub_c rfl jsub_0))))
  · have h := h.2 c
    refine j_iload_n (j := 2) dd_H_set_6 rfl rfl ?_
    refine j_iconst dd_H_set_7 (inRd rfl) ?_
    refine j_bipush dd_H_set_8 rfl (inRd rfl) ?_
    refine j_cSI (mm' := mm_H_within) (As := [vI x2, vI 0, vI 6]) (rest := []) h dd_H_set_10 (ws4 wd_328 wd_329 wd_63 wd_330) nk_H_within (rok rfl) (Nat.le_of_ble_eq_true rfl) (fun _ => rfl) (fun a2 M1 h => ?_)
    refine j_if_eq (tgt := 35) dd_H_set_13 (by decide) (fun c => ?_) (fun c => ?_)
    · have h := h.1 c
      exact j_jump h (jsub_c rfl (jsub_c rfl (jsub_c rfl (jsub_c rfl jsub_0))))
    · have h := h.2 c
      refine j_aload_n (j := 0) dd_H_set_16 rfl rfl ?_
      refine gf_0_0 dd_H_set_17 wd_287 ?_
      refine gf_3_4 dd_H_set_20 wd_171 ?_
      refine j_topI (fun a3 ea3 => ?_)
      have h := h a3 ea3
      refine j_istore_n (j := 3) dd_H_set_23 rfl (by decide) rfl ?_
      refine j_aload_n (j := 0) dd_H_set_24 rfl rfl ?_
      refine gf_0_0 dd_H_set_25 wd_287 ?_
      refine j_iload_n (j := 2) dd_H_set_28 rfl rfl ?_
      refine pf_3_4 dd_H_set_29 wd_171 (fun M4 eM4 => ?_)
      have h := h M4 eM4
      refine j_goto (tgt := 66) dd_H_set_32 (by decide) ?_
      refine j_iload_n (j := 3) dd_H_set_66 rfl rfl ?_
      exact j_iret dd_H_set_67 rfl h
theorem vc_H_set_35 {E : EE} {Q : Int → JM → Prop} (x1 : Int) (x2 : Int) (l3 : Int) (M : JM) (h : ((x1 ≠ 1 → Q l3 M) ∧ (x1 = 1 → JC E mm_H_within [vI x2, vI 0, vI 8] M (fun a2 M1 => ((a2 = 0 → Q l3 M1) ∧ (a2 ≠ 0 → ∀ a3 : Int, a3 = M1 3 0 5 → ∀ M4 : JM, M4 = pt M1 3 0 5 x2 → Q a3 M4)))))) : JG E mm_H_set Q 35 [(0, vR 0 0), (1, vI x1), (2, vI x2), (3, vI l3)] [] M := by
  refine j_iload_n (j := 1) dd_H_set_35 rfl rfl ?_
  refine j_iconst dd_H_set_36 (inRd rfl) ?_
  refine j_icmp_ne (tgt := 66) dd_H_set_37 (by decide) (fun c => ?_) (fun c => ?_)
  · have h := h.1 c
    refine j_iload_n (j := 3) dd_H_set_66 rfl rfl ?_
    exact j_iret dd_H_set_67 rfl h
  · have h := h.2 c
    refine j_iload_n (j := 2) dd_H_set_40 rfl rfl ?_
    refine j_iconst dd_H_set_41 (inRd rfl) ?_
    refine j_bipush dd_H_set_42 rfl (inRd rfl) ?_
    refine j_cSI (mm' := mm_H_within) (As := [vI x2, vI 0, vI 8]) (rest := []) h dd_H_set_44 (ws4 wd_328 wd_329 wd_63 wd_330) nk_H_within (rok rfl) (Nat.le_of_ble_eq_true rfl) (fun _ => rfl) (fun a2 M1 h => ?_)
    refine j_if_eq (tgt := 66) dd_H_set_47 (by decide) (fun c => ?_) (fun c => ?_)
    · have h := h.1 c
      refine j_iload_n (j := 3) dd_H_set_66 rfl rfl ?_
      exact j_iret dd_H_set_67 rfl h
    · have h := h.2 c
      refine j_aload_n (j := 0) dd_H_set_50 rfl rfl ?_
      refine gf_0_0 dd_H_set_51 wd_287 ?_
      refine gf_3_5 dd_H_set_54 wd_174 ?_
      refine j_topI (fun a3 ea3 => ?_)
      have h := h a3 ea3
      refine j_istore_n (j := 3) dd_H_set_57 rfl (by decide) rfl ?_
      refine j_aload_n (j := 0) dd_H_set_58 rfl rfl ?_
      refine gf_0_0 dd_H_set_59 wd_287 ?_
      refine j_iload_n (j := 2) dd_H_set_62 rfl rfl ?_
      refine pf_3_5 dd_H_set_63 wd_174 (fun M4 eM4 => ?_)
      have h := h M4 eM4
      refine j_iload_n (j := 3) dd_H_set_66 rfl rfl ?_
      exact j_iret dd_H_set_67 rfl h
theorem vc_H_stock {E : EE} {Q : Int → JM → Prop} (x1 : Int) (x2 : Int) (x3 : Int) (M : JM) (h : JC E mm_H_isKind [vI x1] M (fun a2 M1 => ((a2 = 0 → Q (-1) M1) ∧ (a2 ≠ 0 → JC E mm_H_isWeight [vI x2] M1 (fun a4 M3 => ((a4 = 0 → Q (-1) M3) ∧ (a4 ≠ 0 → JC E mm_H_isWorth [vI x3] M3 (fun a6 M5 => ((a6 ≠ 0 → ((M5 3 0 2 < 8 → JC E mm_T_addGood [vR 3 0, vI x1, vI x2, vI x3] M5 (fun a8 M7 => Q (M7 3 0 2) M7)) ∧ (8 ≤ M5 3 0 2 → Q (-3) M5))) ∧ (a6 = 0 → Q (-1) M5)))))))))) : JC E mm_H_stock [vR 0 0, vI x1, vI x2, vI x3] M Q := by
  refine j_entry (L0 := [(0, vR 0 0), (1, vI x1), (2, vI x2), (3, vI x3)]) pn_H (Nat.le_of_ble_eq_true rfl) rfl ?_
  refine j_iload_n (j := 1) dd_H_stock_0 rfl rfl ?_
  refine j_cSI (mm' := mm_H_isKind) (As := [vI x1]) (rest := []) h dd_H_stock_1 (ws4 wd_543 wd_544 wd_63 wd_545) nk_H_isKind (rok rfl) (Nat.le_of_ble_eq_true rfl) (fun _ => rfl) (fun a2 M1 h => ?_)
  refine j_if_eq (tgt := 21) dd_H_stock_4 (by decide) (fun c => ?_) (fun c => ?_)
  · have h := h.1 c
    refine j_iconst dd_H_stock_21 (inRd rfl) ?_
    exact j_iret dd_H_stock_22 rfl h
  · have h := h.2 c
    refine j_iload_n (j := 2) dd_H_stock_7 rfl rfl ?_
    refine j_cSI (mm' := mm_H_isWeight) (As := [vI x2]) (rest := []) h dd_H_stock_8 (ws4 wd_547 wd_548 wd_63 wd_549) nk_H_isWeight (rok rfl) (Nat.le_of_ble_eq_true rfl) (fun _ => rfl) (fun a4 M3 h => ?_)
    refine j_if_eq (tgt := 21) dd_H_stock_11 (by decide) (fun c => ?_) (fun c => ?_)
    · have h := h.1 c
      refine j_iconst dd_H_stock_21 (inRd rfl) ?_
      exact j_iret dd_H_stock_22 rfl h
    · have h := h.2 c
      refine j_iload_n (j := 3) dd_H_stock_14 rfl rfl ?_
      refine j_cSI (mm' := mm_H_isWorth) (As := [vI x3]) (rest := []) h dd_H_stock_15 (ws4 wd_550 wd_551 wd_63 wd_552) nk_H_isWorth (rok rfl) (Nat.le_of_ble_eq_true rfl) (fun _ => rfl) (fun a6 M5 h => ?_)
      refine j_if_ne (tgt := 23) dd_H_stock_18 (by decide) (fun c => ?_) (fun c => ?_)
      · have h := h.1 c
        refine j_aload_n (j := 0) dd_H_stock_23 rfl rfl ?_
        refine gf_0_0 dd_H_stock_24 wd_287 ?_
        refine gf_3_2 dd_H_stock_27 wd_165 ?_
        refine j_bipush dd_H_stock_30 rfl (inRd rfl) ?_
        refine j_icmp_lt (tgt := 38) dd_H_stock_32 (by decide) (fun c => ?_) (fun c => ?_)
        · have h := h.1 c
          refine j_aload_n (j := 0) dd_H_stock_38 rfl rfl ?_
          refine gf_0_0 dd_H_stock_39 wd_287 ?_
          refine j_iload_n (j := 1) dd_H_stock_42 rfl rfl ?_
          refine j_iload_n (j := 2) dd_H_stock_43 rfl rfl ?_
          refine j_iload_n (j := 3) dd_H_stock_44 rfl rfl ?_
          refine j_cVV (mm' := mm_T_addGood) (t := 3) (i := 0) (As := [vI x1, vI x2, vI x3]) (rest := []) h dd_H_stock_45 (ws5 wd_565 wd_453 wd_454 wd_64 wd_455) nk_T_addGood (rok rfl) (by unfold isW; omega) ⟨_, ce_3 _⟩ rfl (Nat.le_of_ble_eq_true rfl) (fun _ => rfl) (fun a8 M7 h => ?_)
          refine j_aload_n (j := 0) dd_H_stock_48 rfl rfl ?_
          refine gf_0_0 dd_H_stock_49 wd_287 ?_
          refine gf_3_2 dd_H_stock_52 wd_165 ?_
          exact j_iret dd_H_stock_55 rfl h
        · have h := h.2 c
          refine j_bipush dd_H_stock_35 rfl (inRd rfl) ?_
          exact j_iret dd_H_stock_37 rfl h
      · have h := h.2 c
        refine j_iconst dd_H_stock_21 (inRd rfl) ?_
        exact j_iret dd_H_stock_22 rfl h
theorem vc_H_hide {E : EE} {Q : Int → JM → Prop} (x1 : Int) (M : JM) (h : JC E mm_H_isGood [vR 0 0, vI x1] M (fun a2 M1 => ((a2 ≠ 0 → (0 ≤ x1 ∧ x1 < 8) ∧ ((M1 1 (8 * 0 + x1.toNat) 5 = 0 → (0 ≤ x1 ∧ x1 < 8) ∧ ∀ M3 : JM, M3 = pt M1 1 (8 * 0 + x1.toNat) 5 1 → Q 1 M3) ∧ (M1 1 (8 * 0 + x1.toNat) 5 ≠ 0 → Q (-2) M1))) ∧ (a2 = 0 → Q (-1) M1)))) : JC E mm_H_hide [vR 0 0, vI x1] M Q := by
  refine j_entry (L0 := [(0, vR 0 0), (1, vI x1)]) pn_H (Nat.le_of_ble_eq_true rfl) rfl ?_
  refine j_aload_n (j := 0) dd_H_hide_0 rfl rfl ?_
  refine j_iload_n (j := 1) dd_H_hide_1 rfl rfl ?_
  refine j_cVI (mm' := mm_H_isGood) (t := 0) (i := 0) (As := [vI x1]) (rest := []) h dd_H_hide_2 (ws5 wd_512 wd_514 wd_13 wd_63 wd_515) nk_H_isGood (rok rfl) (by unfold isW; omega) ⟨_, ce_0 _⟩ rfl (Nat.le_of_ble_eq_true rfl) (fun _ => rfl) (fun a2 M1 h => ?_)
  refine j_if_ne (tgt := 10) dd_H_hide_5 (by decide) (fun c => ?_) (fun c => ?_)
  · have h := h.1 c
    refine j_aload_n (j := 0) dd_H_hide_10 rfl rfl ?_
    refine gf_0_0 dd_H_hide_11 wd_287 ?_
    refine gf_3_0 dd_H_hide_14 wd_160 ?_
    refine j_iload_n (j := 1) dd_H_hide_17 rfl rfl ?_
    refine ld_4 dd_H_hide_18 h.1 ?_
    have h := h.2
    refine gf_1_5 dd_H_hide_19 wd_115 ?_
    refine j_if_eq (tgt := 28) dd_H_hide_22 (by decide) (fun c => ?_) (fun c => ?_)
    · have h := h.1 c
      refine j_aload_n (j := 0) dd_H_hide_28 rfl rfl ?_
      refine gf_0_0 dd_H_hide_29 wd_287 ?_
      refine gf_3_0 dd_H_hide_32 wd_160 ?_
      refine j_iload_n (j := 1) dd_H_hide_35 rfl rfl ?_
      refine ld_4 dd_H_hide_36 h.1 ?_
      have h := h.2
      refine j_iconst dd_H_hide_37 (inRd rfl) ?_
      refine pf_1_5 dd_H_hide_38 wd_115 (Or.inr rfl) (fun M3 eM3 => ?_)
      have h := h M3 eM3
      refine j_iconst dd_H_hide_41 (inRd rfl) ?_
      exact j_iret dd_H_hide_42 rfl h
    · have h := h.2 c
      refine j_bipush dd_H_hide_25 rfl (inRd rfl) ?_
      exact j_iret dd_H_hide_27 rfl h
  · have h := h.2 c
    refine j_iconst dd_H_hide_8 (inRd rfl) ?_
    exact j_iret dd_H_hide_9 rfl h
theorem vc_H_fill {E : EE} {Q : Int → JM → Prop}  (M : JM) (h : JC E mm_T_bringBack [vR 3 0, vI 8] M (fun a2 M1 => Q a2 M1)) : JC E mm_H_fill [vR 0 0] M Q := by
  refine j_entry (L0 := [(0, vR 0 0)]) pn_H (Nat.le_of_ble_eq_true rfl) rfl ?_
  refine j_aload_n (j := 0) dd_H_fill_0 rfl rfl ?_
  refine gf_0_0 dd_H_fill_1 wd_287 ?_
  refine j_bipush dd_H_fill_4 rfl (inRd rfl) ?_
  refine j_cVI (mm' := mm_T_bringBack) (t := 3) (i := 0) (As := [vI 8]) (rest := []) h dd_H_fill_6 (ws5 wd_574 wd_575 wd_576 wd_64 wd_577) nk_T_bringBack (rok rfl) (by unfold isW; omega) ⟨_, ce_3 _⟩ rfl (Nat.le_of_ble_eq_true rfl) (fun _ => rfl) (fun a2 M1 h => ?_)
  exact j_iret dd_H_fill_9 rfl h
theorem vc_H_weeks {E : EE} {Q : Int → JM → Prop} (x1 : Int) (M : JM) (h : JC E mm_H_within [vI x1, vI 0, vI 30] M (fun a2 M1 => ((a2 ≠ 0 → ((w32 (M1 3 0 6 + x1) ≤ 999 → JC E mm_T_wagesOfAll [vR 3 0] M1 (fun a4 M3 => JC E mm_T_passWeeks [vR 3 0, vI x1] M3 (fun a6 M5 => JC E mm_T_wagesOfAll [vR 3 0] M5 (fun a8 M7 => Q (w32 (a8 - a4)) M7)))) ∧ (999 < w32 (M1 3 0 6 + x1) → Q (-3) M1))) ∧ (a2 = 0 → Q (-1) M1)))) : JC E mm_H_weeks [vR 0 0, vI x1] M Q := by
  refine j_entry (L0 := [(0, vR 0 0), (1, vI x1)]) pn_H (Nat.le_of_ble_eq_true rfl) rfl ?_
  refine j_iload_n (j := 1) dd_H_weeks_0 rfl rfl ?_
  refine j_iconst dd_H_weeks_1 (inRd rfl) ?_
  refine j_bipush dd_H_weeks_2 rfl (inRd rfl) ?_
  refine j_cSI (mm' := mm_H_within) (As := [vI x1, vI 0, vI 30]) (rest := []) h dd_H_weeks_4 (ws4 wd_328 wd_329 wd_63 wd_330) nk_H_within (rok rfl) (Nat.le_of_ble_eq_true rfl) (fun _ => rfl) (fun a2 M1 h => ?_)
  refine j_if_ne (tgt := 12) dd_H_weeks_7 (by decide) (fun c => ?_) (fun c => ?_)
  · have h := h.1 c
    refine j_aload_n (j := 0) dd_H_weeks_12 rfl rfl ?_
    refine gf_0_0 dd_H_weeks_13 wd_287 ?_
    refine gf_3_6 dd_H_weeks_16 wd_176 ?_
    refine j_iload_n (j := 1) dd_H_weeks_19 rfl rfl ?_
    refine j_iadd dd_H_weeks_20 ?_
    refine j_sipush dd_H_weeks_21 rfl (inRd rfl) ?_
    refine j_icmp_le (tgt := 30) dd_H_weeks_24 (by decide) (fun c => ?_) (fun c => ?_)
    · have h := h.1 c
      refine j_aload_n (j := 0) dd_H_weeks_30 rfl rfl ?_
      refine gf_0_0 dd_H_weeks_31 wd_287 ?_
      refine j_cVI (mm' := mm_T_wagesOfAll) (t := 3) (i := 0) (As := []) (rest := []) h dd_H_weeks_34 (ws5 wd_504 wd_505 wd_506 wd_64 wd_507) nk_T_wagesOfAll (rok rfl) (by unfold isW; omega) ⟨_, ce_3 _⟩ rfl (Nat.le_of_ble_eq_true rfl) (fun _ => rfl) (fun a4 M3 h => ?_)
      refine j_istore_n (j := 2) dd_H_weeks_37 rfl (by decide) rfl ?_
      refine j_aload_n (j := 0) dd_H_weeks_38 rfl rfl ?_
      refine gf_0_0 dd_H_weeks_39 wd_287 ?_
      refine j_iload_n (j := 1) dd_H_weeks_42 rfl rfl ?_
      refine j_cVV (mm' := mm_T_passWeeks) (t := 3) (i := 0) (As := [vI x1]) (rest := []) h dd_H_weeks_43 (ws5 wd_582 wd_583 wd_584 wd_64 wd_585) nk_T_passWeeks (rok rfl) (by unfold isW; omega) ⟨_, ce_3 _⟩ rfl (Nat.le_of_ble_eq_true rfl) (fun _ => rfl) (fun a6 M5 h => ?_)
      refine j_aload_n (j := 0) dd_H_weeks_46 rfl rfl ?_
      refine gf_0_0 dd_H_weeks_47 wd_287 ?_
      refine j_cVI (mm' := mm_T_wagesOfAll) (t := 3) (i := 0) (As := []) (rest := []) h dd_H_weeks_50 (ws5 wd_504 wd_505 wd_506 wd_64 wd_507) nk_T_wagesOfAll (rok rfl) (by unfold isW; omega) ⟨_, ce_3 _⟩ rfl (Nat.le_of_ble_eq_true rfl) (fun _ => rfl) (fun a8 M7 h => ?_)
      refine j_iload_n (j := 2) dd_H_weeks_53 rfl rfl ?_
      refine j_isub dd_H_weeks_54 ?_
      exact j_iret dd_H_weeks_55 rfl h
    · have h := h.2 c
      refine j_bipush dd_H_weeks_27 rfl (inRd rfl) ?_
      exact j_iret dd_H_weeks_29 rfl h
  · have h := h.2 c
    refine j_iconst dd_H_weeks_10 (inRd rfl) ?_
    exact j_iret dd_H_weeks_11 rfl h
theorem vc_H_runs {E : EE} {Q : Int → JM → Prop} (x1 : Int) (x2 : Int) (M : JM) (h : JC E mm_H_within [vI x1, vI 0, vI 60] M (fun a2 M1 => ((a2 = 0 → Q (-1) M1) ∧ (a2 ≠ 0 → JC E mm_H_within [vI x2, vI 0, vI 4] M1 (fun a4 M3 => ((a4 ≠ 0 → JC E mm_T_copyFrom [vR 3 1, vR 3 0] M3 (fun a6 M5 => JC E mm_T_passWeeks [vR 3 1, vI x1] M5 (fun a8 M7 => (((x2 < 0 ∨ 3 < x2) → JC E mm_T_leastWages [vR 3 1] M7 (fun a10 M9 => Q a10 M9)) ∧ (x2 = 0 → JC E mm_T_wagesOfAll [vR 3 1] M7 (fun a12 M11 => JC E mm_T_wagesOfAll [vR 3 0] M11 (fun a14 M13 => Q (w32 (a12 - a14)) M13))) ∧ (x2 = 1 → JC E mm_T_storeBits [vR 3 1] M7 (fun a16 M15 => Q a16 M15)) ∧ (x2 = 2 → Q (M7 3 1 8) M7) ∧ (x2 = 3 → Q (M7 3 1 9) M7))))) ∧ (a4 = 0 → Q (-1) M3))))))) : JC E mm_H_runs [vR 0 0, vI x1, vI x2] M Q := by
  refine j_entry (L0 := [(0, vR 0 0), (1, vI x1), (2, vI x2)]) pn_H (Nat.le_of_ble_eq_true rfl) rfl ?_
  refine j_iload_n (j := 1) dd_H_runs_0 rfl rfl ?_
  refine j_iconst dd_H_runs_1 (inRd rfl) ?_
  refine j_bipush dd_H_runs_2 rfl (inRd rfl) ?_
  refine j_cSI (mm' := mm_H_within) (As := [vI x1, vI 0, vI 60]) (rest := []) h dd_H_runs_4 (ws4 wd_328 wd_329 wd_63 wd_330) nk_H_within (rok rfl) (Nat.le_of_ble_eq_true rfl) (fun _ => rfl) (fun a2 M1 h => ?_)
  refine j_if_eq (tgt := 19) dd_H_runs_7 (by decide) (fun c => ?_) (fun c => ?_)
  · have h := h.1 c
    refine j_iconst dd_H_runs_19 (inRd rfl) ?_
    exact j_iret dd_H_runs_20 rfl h
  · have h := h.2 c
    refine j_iload_n (j := 2) dd_H_runs_10 rfl rfl ?_
    refine j_iconst dd_H_runs_11 (inRd rfl) ?_
    refine j_iconst dd_H_runs_12 (inRd rfl) ?_
    refine j_cSI (mm' := mm_H_within) (As := [vI x2, vI 0, vI 4]) (rest := []) h dd_H_runs_13 (ws4 wd_328 wd_329 wd_63 wd_330) nk_H_within (rok rfl) (Nat.le_of_ble_eq_true rfl) (fun _ => rfl) (fun a4 M3 h => ?_)
    refine j_if_ne (tgt := 21) dd_H_runs_16 (by decide) (fun c => ?_) (fun c => ?_)
    · have h := h.1 c
      refine j_aload_n (j := 0) dd_H_runs_21 rfl rfl ?_
      refine gf_0_1 dd_H_runs_22 wd_288 ?_
      refine j_aload_n (j := 0) dd_H_runs_25 rfl rfl ?_
      refine gf_0_0 dd_H_runs_26 wd_287 ?_
      refine j_cVV (mm' := mm_T_copyFrom) (t := 3) (i := 1) (As := [vR 3 0]) (rest := []) h dd_H_runs_29 (ws5 wd_479 wd_480 wd_481 wd_64 wd_482) nk_T_copyFrom (rok rfl) (by unfold isW; omega) ⟨_, ce_3 _⟩ rfl (Nat.le_of_ble_eq_true rfl) (fun _ => rfl) (fun a6 M5 h => ?_)
      refine j_aload_n (j := 0) dd_H_runs_32 rfl rfl ?_
      refine gf_0_1 dd_H_runs_33 wd_288 ?_
      refine j_iload_n (j := 1) dd_H_runs_36 rfl rfl ?_
      refine j_cVV (mm' := mm_T_passWeeks) (t := 3) (i := 1) (As := [vI x1]) (rest := []) h dd_H_runs_37 (ws5 wd_582 wd_583 wd_584 wd_64 wd_585) nk_T_passWeeks (rok rfl) (by unfold isW; omega) ⟨_, ce_3 _⟩ rfl (Nat.le_of_ble_eq_true rfl) (fun _ => rfl) (fun a8 M7 h => ?_)
      refine j_iload_n (j := 2) dd_H_runs_40 rfl rfl ?_
      have hc : (x2 < 0 ∨ 3 < x2) ∨ x2 = 0 ∨ x2 = 1 ∨ x2 = 2 ∨ x2 = 3 := by omega
      rcases hc with hc | hc | hc | hc | hc
      · have h := h.1 hc
        refine j_tabOut (tgt := 112) dd_H_runs_41 hc (by decide) ?_
        refine j_aload_n (j := 0) dd_H_runs_112 rfl rfl ?_
        refine gf_0_1 dd_H_runs_113 wd_288 ?_
        refine j_cVI (mm' := mm_T_leastWages) (t := 3) (i := 1) (As := []) (rest := []) h dd_H_runs_116 (ws5 wd_608 wd_609 wd_610 wd_64 wd_611) nk_T_leastWages (rok rfl) (by unfold isW; omega) ⟨_, ce_3 _⟩ rfl (Nat.le_of_ble_eq_true rfl) (fun _ => rfl) (fun a10 M9 h => ?_)
        exact j_iret dd_H_runs_119 rfl h
      · have h := h.2.1 hc
        refine j_tabIn (tgt := 72) (off := 31) dd_H_runs_41 (by omega) (by omega) (by rw [hc]; rfl) (by decide) ?_
        refine j_aload_n (j := 0) dd_H_runs_72 rfl rfl ?_
        refine gf_0_1 dd_H_runs_73 wd_288 ?_
        refine j_cVI (mm' := mm_T_wagesOfAll) (t := 3) (i := 1) (As := []) (rest := []) h dd_H_runs_76 (ws5 wd_504 wd_505 wd_506 wd_64 wd_507) nk_T_wagesOfAll (rok rfl) (by unfold isW; omega) ⟨_, ce_3 _⟩ rfl (Nat.le_of_ble_eq_true rfl) (fun _ => rfl) (fun a12 M11 h => ?_)
        refine j_aload_n (j := 0) dd_H_runs_79 rfl rfl ?_
        refine gf_0_0 dd_H_runs_80 wd_287 ?_
        refine j_cVI (mm' := mm_T_wagesOfAll) (t := 3) (i := 0) (As := []) (rest := [vI a12]) h dd_H_runs_83 (ws5 wd_504 wd_505 wd_506 wd_64 wd_507) nk_T_wagesOfAll (rok rfl) (by unfold isW; omega) ⟨_, ce_3 _⟩ rfl (Nat.le_of_ble_eq_true rfl) (fun _ => rfl) (fun a14 M13 h => ?_)
        refine j_isub dd_H_runs_86 ?_
        exact j_iret dd_H_runs_87 rfl h
      · have h := h.2.2.1 hc
        refine j_tabIn (tgt := 88) (off := 47) dd_H_runs_41 (by omega) (by omega) (by rw [hc]; rfl) (by decide) ?_
        refine j_aload_n (j := 0) dd_H_runs_88 rfl rfl ?_
        refine gf_0_1 dd_H_runs_89 wd_288 ?_
        refine j_cVI (mm' := mm_T_storeBits) (t := 3) (i := 1) (As := []) (rest := []) h dd_H_runs_92 (ws5 wd_500 wd_501 wd_502 wd_64 wd_503) nk_T_storeBits (rok rfl) (by unfold isW; omega) ⟨_, ce_3 _⟩ rfl (Nat.le_of_ble_eq_true rfl) (fun _ => rfl) (fun a16 M15 h => ?_)
        exact j_iret dd_H_runs_95 rfl h
      · have h := h.2.2.2.1 hc
        refine j_tabIn (tgt := 96) (off := 55) dd_H_runs_41 (by omega) (by omega) (by rw [hc]; rfl) (by decide) ?_
        refine j_aload_n (j := 0) dd_H_runs_96 rfl rfl ?_
        refine gf_0_1 dd_H_runs_97 wd_288 ?_
        refine gf_3_8 dd_H_runs_100 wd_180 ?_
        exact j_iret dd_H_runs_103 rfl h
      · have h := h.2.2.2.2 hc
        refine j_tabIn (tgt := 104) (off := 63) dd_H_runs_41 (by omega) (by omega) (by rw [hc]; rfl) (by decide) ?_
        refine j_aload_n (j := 0) dd_H_runs_104 rfl rfl ?_
        refine gf_0_1 dd_H_runs_105 wd_288 ?_
        refine gf_3_9 dd_H_runs_108 wd_182 ?_
        exact j_iret dd_H_runs_111 rfl h
    · have h := h.2 c
      refine j_iconst dd_H_runs_19 (inRd rfl) ?_
      exact j_iret dd_H_runs_20 rfl h
theorem vc_H_ahead {E : EE} {Q : Int → JM → Prop} (x1 : Int) (x2 : Int) (x3 : Int) (M : JM) (h : JC E mm_H_isOne [vR 0 0, vI x1] M (fun a2 M1 => ((a2 = 0 → Q (-1) M1) ∧ (a2 ≠ 0 → JC E mm_H_within [vI x2, vI 0, vI 60] M1 (fun a4 M3 => ((a4 = 0 → Q (-1) M3) ∧ (a4 ≠ 0 → JC E mm_H_within [vI x3, vI 0, vI 1] M3 (fun a6 M5 => ((a6 ≠ 0 → JC E mm_T_copyFrom [vR 3 1, vR 3 0] M5 (fun a8 M7 => JC E mm_T_passWeeks [vR 3 1, vI x2] M7 (fun a10 M9 => ((x3 ≠ 0 → (0 ≤ x1 ∧ x1 < 4) ∧ Q (M9 2 (4 * 1 + (M9 5 1 x1.toNat).toNat) 0) M9) ∧ (x3 = 0 → (0 ≤ x1 ∧ x1 < 4) ∧ Q (M9 2 (4 * 1 + (M9 5 1 x1.toNat).toNat) 1) M9))))) ∧ (a6 = 0 → Q (-1) M5)))))))))) : JC E mm_H_ahead [vR 0 0, vI x1, vI x2, vI x3] M Q := by
  refine j_entry (L0 := [(0, vR 0 0), (1, vI x1), (2, vI x2), (3, vI x3)]) pn_H (Nat.le_of_ble_eq_true rfl) rfl ?_
  refine j_aload_n (j := 0) dd_H_ahead_0 rfl rfl ?_
  refine j_iload_n (j := 1) dd_H_ahead_1 rfl rfl ?_
  refine j_cVI (mm' := mm_H_isOne) (t := 0) (i := 0) (As := [vI x1]) (rest := []) h dd_H_ahead_2 (ws5 wd_520 wd_522 wd_14 wd_63 wd_523) nk_H_isOne (rok rfl) (by unfold isW; omega) ⟨_, ce_0 _⟩ rfl (Nat.le_of_ble_eq_true rfl) (fun _ => rfl) (fun a2 M1 h => ?_)
  refine j_if_eq (tgt := 27) dd_H_ahead_5 (by decide) (fun c => ?_) (fun c => ?_)
  · have h := h.1 c
    refine j_iconst dd_H_ahead_27 (inRd rfl) ?_
    exact j_iret dd_H_ahead_28 rfl h
  · have h := h.2 c
    refine j_iload_n (j := 2) dd_H_ahead_8 rfl rfl ?_
    refine j_iconst dd_H_ahead_9 (inRd rfl) ?_
    refine j_bipush dd_H_ahead_10 rfl (inRd rfl) ?_
    refine j_cSI (mm' := mm_H_within) (As := [vI x2, vI 0, vI 60]) (rest := []) h dd_H_ahead_12 (ws4 wd_328 wd_329 wd_63 wd_330) nk_H_within (rok rfl) (Nat.le_of_ble_eq_true rfl) (fun _ => rfl) (fun a4 M3 h => ?_)
    refine j_if_eq (tgt := 27) dd_H_ahead_15 (by decide) (fun c => ?_) (fun c => ?_)
    · have h := h.1 c
      refine j_iconst dd_H_ahead_27 (inRd rfl) ?_
      exact j_iret dd_H_ahead_28 rfl h
    · have h := h.2 c
      refine j_iload_n (j := 3) dd_H_ahead_18 rfl rfl ?_
      refine j_iconst dd_H_ahead_19 (inRd rfl) ?_
      refine j_iconst dd_H_ahead_20 (inRd rfl) ?_
      refine j_cSI (mm' := mm_H_within) (As := [vI x3, vI 0, vI 1]) (rest := []) h dd_H_ahead_21 (ws4 wd_328 wd_329 wd_63 wd_330) nk_H_within (rok rfl) (Nat.le_of_ble_eq_true rfl) (fun _ => rfl) (fun a6 M5 h => ?_)
      refine j_if_ne (tgt := 29) dd_H_ahead_24 (by decide) (fun c => ?_) (fun c => ?_)
      · have h := h.1 c
        refine j_aload_n (j := 0) dd_H_ahead_29 rfl rfl ?_
        refine gf_0_1 dd_H_ahead_30 wd_288 ?_
        refine j_aload_n (j := 0) dd_H_ahead_33 rfl rfl ?_
        refine gf_0_0 dd_H_ahead_34 wd_287 ?_
        refine j_cVV (mm' := mm_T_copyFrom) (t := 3) (i := 1) (As := [vR 3 0]) (rest := []) h dd_H_ahead_37 (ws5 wd_479 wd_480 wd_481 wd_64 wd_482) nk_T_copyFrom (rok rfl) (by unfold isW; omega) ⟨_, ce_3 _⟩ rfl (Nat.le_of_ble_eq_true rfl) (fun _ => rfl) (fun a8 M7 h => ?_)
        refine j_aload_n (j := 0) dd_H_ahead_40 rfl rfl ?_
        refine gf_0_1 dd_H_ahead_41 wd_288 ?_
        refine j_iload_n (j := 2) dd_H_ahead_44 rfl rfl ?_
        refine j_cVV (mm' := mm_T_passWeeks) (t := 3) (i := 1) (As := [vI x2]) (rest := []) h dd_H_ahead_45 (ws5 wd_582 wd_583 wd_584 wd_64 wd_585) nk_T_passWeeks (rok rfl) (by unfold isW; omega) ⟨_, ce_3 _⟩ rfl (Nat.le_of_ble_eq_true rfl) (fun _ => rfl) (fun a10 M9 h => ?_)
        refine j_iload_n (j := 3) dd_H_ahead_48 rfl rfl ?_
        refine j_if_ne (tgt := 67) dd_H_ahead_49 (by decide) (fun c => ?_) (fun c => ?_)
        · have h := h.1 c
          refine j_aload_n (j := 0) dd_H_ahead_67 rfl rfl ?_
          refine gf_0_1 dd_H_ahead_68 wd_288 ?_
          refine gf_3_1 dd_H_ahead_71 wd_162 ?_
          refine j_iload_n (j := 1) dd_H_ahead_74 rfl rfl ?_
          refine ld_5 dd_H_ahead_75 h.1 ?_
          have h := h.2
          refine gf_2_0 dd_H_ahead_76 wd_136 ?_
          exact j_iret dd_H_ahead_79 rfl h
        · have h := h.2 c
          refine j_aload_n (j := 0) dd_H_ahead_52 rfl rfl ?_
          refine gf_0_1 dd_H_ahead_53 wd_288 ?_
          refine gf_3_1 dd_H_ahead_56 wd_162 ?_
          refine j_iload_n (j := 1) dd_H_ahead_59 rfl rfl ?_
          refine ld_5 dd_H_ahead_60 h.1 ?_
          have h := h.2
          refine gf_2_1 dd_H_ahead_61 wd_139 ?_
          refine j_goto (tgt := 79) dd_H_ahead_64 (by decide) ?_
          exact j_iret dd_H_ahead_79 rfl h
      · have h := h.2 c
        refine j_iconst dd_H_ahead_27 (inRd rfl) ?_
        exact j_iret dd_H_ahead_28 rfl h
theorem vc_H_gone {E : EE} {Q : Int → JM → Prop} (x1 : Int) (M : JM) (h : JC E mm_H_isGood [vR 0 0, vI x1] M (fun a2 M1 => ((a2 ≠ 0 → JC E mm_T_copyFrom [vR 3 1, vR 3 0] M1 (fun a4 M3 => JG E mm_H_gone Q 23 [(0, vR 0 0), (1, vI x1), (2, vI 0)] [] M3)) ∧ (a2 = 0 → Q (-1) M1)))) : JC E mm_H_gone [vR 0 0, vI x1] M Q := by
  refine j_entry (L0 := [(0, vR 0 0), (1, vI x1)]) pn_H (Nat.le_of_ble_eq_true rfl) rfl ?_
  refine j_aload_n (j := 0) dd_H_gone_0 rfl rfl ?_
  refine j_iload_n (j := 1) dd_H_gone_1 rfl rfl ?_
  refine j_cVI (mm' := mm_H_isGood) (t := 0) (i := 0) (As := [vI x1]) (rest := []) h dd_H_gone_2 (ws5 wd_512 wd_514 wd_13 wd_63 wd_515) nk_H_isGood (rok rfl) (by unfold isW; omega) ⟨_, ce_0 _⟩ rfl (Nat.le_of_ble_eq_true rfl) (fun _ => rfl) (fun a2 M1 h => ?_)
  refine j_if_ne (tgt := 10) dd_H_gone_5 (by decide) (fun c => ?_) (fun c => ?_)
  · have h := h.1 c
    refine j_aload_n (j := 0) dd_H_gone_10 rfl rfl ?_
    refine gf_0_1 dd_H_gone_11 wd_288 ?_
    refine j_aload_n (j := 0) dd_H_gone_14 rfl rfl ?_
    refine gf_0_0 dd_H_gone_15 wd_287 ?_
    refine j_cVV (mm' := mm_T_copyFrom) (t := 3) (i := 1) (As := [vR 3 0]) (rest := []) h dd_H_gone_18 (ws5 wd_479 wd_480 wd_481 wd_64 wd_482) nk_T_copyFrom (rok rfl) (by unfold isW; omega) ⟨_, ce_3 _⟩ rfl (Nat.le_of_ble_eq_true rfl) (fun _ => rfl) (fun a4 M3 h => ?_)
    refine j_iconst dd_H_gone_21 (inRd rfl) ?_
    refine j_istore_n (j := 2) dd_H_gone_22 rfl (by decide) rfl ?_
    exact j_jump h (jsub_c rfl (jsub_c rfl (jsub_c rfl jsub_0)))
  · have h := h.2 c
    refine j_iconst dd_H_gone_8 (inRd rfl) ?_
    exact j_iret dd_H_gone_9 rfl h
theorem vc_H_gone_23 {E : EE} {Q : Int → JM → Prop} (x1 : Int) (l2 : Int) (M : JM) (h : ((60 < l2 → Q (-4) M) ∧ (l2 ≤ 60 → JC E mm_T_passWeek [vR 3 1, vI 0] M (fun a2 M1 => JC E mm_H_hasBit [vI (M1 3 1 7), vI x1] M1 (fun a4 M3 => ((a4 = 0 → ∀ a5 : Int, a5 = w32 (l2 + 1) → JG E mm_H_gone Q 23 [(0, vR 0 0), (1, vI x1), (2, vI a5)] [] M3) ∧ (a4 ≠ 0 → Q l2 M3))))))) : JG E mm_H_gone Q 23 [(0, vR 0 0), (1, vI x1), (2, vI l2)] [] M := by
  refine j_iload_n (j := 2) dd_H_gone_23 rfl rfl ?_
  refine j_bipush dd_H_gone_24 rfl (inRd rfl) ?_
  refine j_icmp_gt (tgt := 59) dd_H_gone_26 (by decide) (fun c => ?_) (fun c => ?_)
  · have h := h.1 c
    refine j_bipush dd_H_gone_59 rfl (inRd rfl) ?_
    exact j_iret dd_H_gone_61 rfl h
  · have h := h.2 c
    refine j_aload_n (j := 0) dd_H_gone_29 rfl rfl ?_
    refine gf_0_1 dd_H_gone_30 wd_288 ?_
    refine j_iconst dd_H_gone_33 (inRd rfl) ?_
    refine j_cVV (mm' := mm_T_passWeek) (t := 3) (i := 1) (As := [vI 0]) (rest := []) h dd_H_gone_34 (ws5 wd_620 wd_587 wd_588 wd_64 wd_589) nk_T_passWeek (rok rfl) (by unfold isW; omega) ⟨_, ce_3 _⟩ rfl (Nat.le_of_ble_eq_true rfl) (fun _ => rfl) (fun a2 M1 h => ?_)
    refine j_aload_n (j := 0) dd_H_gone_37 rfl rfl ?_
    refine gf_0_1 dd_H_gone_38 wd_288 ?_
    refine gf_3_7 dd_H_gone_41 wd_178 ?_
    refine j_iload_n (j := 1) dd_H_gone_44 rfl rfl ?_
    refine j_cSI (mm' := mm_H_hasBit) (As := [vI (M1 3 1 7), vI x1]) (rest := []) h dd_H_gone_45 (ws4 wd_621 wd_533 wd_63 wd_534) nk_H_hasBit (rok rfl) (Nat.le_of_ble_eq_true rfl) (fun _ => rfl) (fun a4 M3 h => ?_)
    refine j_if_eq (tgt := 53) dd_H_gone_48 (by decide) (fun c => ?_) (fun c => ?_)
    · have h := h.1 c
      refine j_iincN dd_H_gone_53 rfl rfl (fun a5 ea5 => ?_)
      have h := h a5 ea5
      refine j_goto (tgt := 23) dd_H_gone_56 (by decide) ?_
      exact j_jump h (jsub_c rfl (jsub_c rfl (jsub_c rfl jsub_0)))
    · have h := h.2 c
      refine j_iload_n (j := 2) dd_H_gone_51 rfl rfl ?_
      exact j_iret dd_H_gone_52 rfl h
theorem vc_H_rich {E : EE} {Q : Int → JM → Prop} (x1 : Int) (x2 : Int) (M : JM) (h : JC E mm_H_isOne [vR 0 0, vI x1] M (fun a2 M1 => ((a2 = 0 → Q (-1) M1) ∧ (a2 ≠ 0 → JC E mm_H_within [vI x2, vI 0, vI 999] M1 (fun a4 M3 => ((a4 ≠ 0 → JC E mm_T_copyFrom [vR 3 1, vR 3 0] M3 (fun a6 M5 => JG E mm_H_rich Q 34 [(0, vR 0 0), (1, vI x1), (2, vI x2), (3, vI 0)] [] M5)) ∧ (a4 = 0 → Q (-1) M3))))))) : JC E mm_H_rich [vR 0 0, vI x1, vI x2] M Q := by
  refine j_entry (L0 := [(0, vR 0 0), (1, vI x1), (2, vI x2)]) pn_H (Nat.le_of_ble_eq_true rfl) rfl ?_
  refine j_aload_n (j := 0) dd_H_rich_0 rfl rfl ?_
  refine j_iload_n (j := 1) dd_H_rich_1 rfl rfl ?_
  refine j_cVI (mm' := mm_H_isOne) (t := 0) (i := 0) (As := [vI x1]) (rest := []) h dd_H_rich_2 (ws5 wd_520 wd_522 wd_14 wd_63 wd_523) nk_H_isOne (rok rfl) (by unfold isW; omega) ⟨_, ce_0 _⟩ rfl (Nat.le_of_ble_eq_true rfl) (fun _ => rfl) (fun a2 M1 h => ?_)
  refine j_if_eq (tgt := 19) dd_H_rich_5 (by decide) (fun c => ?_) (fun c => ?_)
  · have h := h.1 c
    refine j_iconst dd_H_rich_19 (inRd rfl) ?_
    exact j_iret dd_H_rich_20 rfl h
  · have h := h.2 c
    refine j_iload_n (j := 2) dd_H_rich_8 rfl rfl ?_
    refine j_iconst dd_H_rich_9 (inRd rfl) ?_
    refine j_sipush dd_H_rich_10 rfl (inRd rfl) ?_
    refine j_cSI (mm' := mm_H_within) (As := [vI x2, vI 0, vI 999]) (rest := []) h dd_H_rich_13 (ws4 wd_328 wd_329 wd_63 wd_330) nk_H_within (rok rfl) (Nat.le_of_ble_eq_true rfl) (fun _ => rfl) (fun a4 M3 h => ?_)
    refine j_if_ne (tgt := 21) dd_H_rich_16 (by decide) (fun c => ?_) (fun c => ?_)
    · have h := h.1 c
      refine j_aload_n (j := 0) dd_H_rich_21 rfl rfl ?_
      refine gf_0_1 dd_H_rich_22 wd_288 ?_
      refine j_aload_n (j := 0) dd_H_rich_25 rfl rfl ?_
      refine gf_0_0 dd_H_rich_26 wd_287 ?_
      refine j_cVV (mm' := mm_T_copyFrom) (t := 3) (i := 1) (As := [vR 3 0]) (rest := []) h dd_H_rich_29 (ws5 wd_479 wd_480 wd_481 wd_64 wd_482) nk_T_copyFrom (rok rfl) (by unfold isW; omega) ⟨_, ce_3 _⟩ rfl (Nat.le_of_ble_eq_true rfl) (fun _ => rfl) (fun a6 M5 h => ?_)
      refine j_iconst dd_H_rich_32 (inRd rfl) ?_
      refine j_istore_n (j := 3) dd_H_rich_33 rfl (by decide) rfl ?_
      exact j_jump h (jsub_c rfl (jsub_c rfl (jsub_c rfl (jsub_c rfl jsub_0))))
    · have h := h.2 c
      refine j_iconst dd_H_rich_19 (inRd rfl) ?_
      exact j_iret dd_H_rich_20 rfl h
theorem vc_H_rich_34 {E : EE} {Q : Int → JM → Prop} (x1 : Int) (x2 : Int) (l3 : Int) (M : JM) (h : ((60 < l3 → Q (-4) M) ∧ (l3 ≤ 60 → (0 ≤ x1 ∧ x1 < 4) ∧ ((M 2 (4 * 1 + (M 5 1 x1.toNat).toNat) 1 < x2 → JC E mm_T_passWeek [vR 3 1, vI 0] M (fun a2 M1 => ∀ a3 : Int, a3 = w32 (l3 + 1) → JG E mm_H_rich Q 34 [(0, vR 0 0), (1, vI x1), (2, vI x2), (3, vI a3)] [] M1)) ∧ (x2 ≤ M 2 (4 * 1 + (M 5 1 x1.toNat).toNat) 1 → Q l3 M))))) : JG E mm_H_rich Q 34 [(0, vR 0 0), (1, vI x1), (2, vI x2), (3, vI l3)] [] M := by
  refine j_iload_n (j := 3) dd_H_rich_34 rfl rfl ?_
  refine j_bipush dd_H_rich_35 rfl (inRd rfl) ?_
  refine j_icmp_gt (tgt := 72) dd_H_rich_37 (by decide) (fun c => ?_) (fun c => ?_)
  · have h := h.1 c
    refine j_bipush dd_H_rich_72 rfl (inRd rfl) ?_
    exact j_iret dd_H_rich_74 rfl h
  · have h := h.2 c
    refine j_aload_n (j := 0) dd_H_rich_40 rfl rfl ?_
    refine gf_0_1 dd_H_rich_41 wd_288 ?_
    refine gf_3_1 dd_H_rich_44 wd_162 ?_
    refine j_iload_n (j := 1) dd_H_rich_47 rfl rfl ?_
    refine ld_5 dd_H_rich_48 h.1 ?_
    have h := h.2
    refine gf_2_1 dd_H_rich_49 wd_139 ?_
    refine j_iload_n (j := 2) dd_H_rich_52 rfl rfl ?_
    refine j_icmp_lt (tgt := 58) dd_H_rich_53 (by decide) (fun c => ?_) (fun c => ?_)
    · have h := h.1 c
      refine j_aload_n (j := 0) dd_H_rich_58 rfl rfl ?_
      refine gf_0_1 dd_H_rich_59 wd_288 ?_
      refine j_iconst dd_H_rich_62 (inRd rfl) ?_
      refine j_cVV (mm' := mm_T_passWeek) (t := 3) (i := 1) (As := [vI 0]) (rest := []) h dd_H_rich_63 (ws5 wd_620 wd_587 wd_588 wd_64 wd_589) nk_T_passWeek (rok rfl) (by unfold isW; omega) ⟨_, ce_3 _⟩ rfl (Nat.le_of_ble_eq_true rfl) (fun _ => rfl) (fun a2 M1 h => ?_)
      refine j_iincN dd_H_rich_66 rfl rfl (fun a3 ea3 => ?_)
      have h := h a3 ea3
      refine j_goto (tgt := 34) dd_H_rich_69 (by decide) ?_
      exact j_jump h (jsub_c rfl (jsub_c rfl (jsub_c rfl (jsub_c rfl jsub_0))))
    · have h := h.2 c
      refine j_iload_n (j := 3) dd_H_rich_56 rfl rfl ?_
      exact j_iret dd_H_rich_57 rfl h
theorem vc_H_arms {E : EE} {Q : Int → JM → Prop} (x1 : Int) (x2 : Int) (M : JM) (h : JC E mm_H_isOne [vR 0 0, vI x1] M (fun a2 M1 => ((a2 = 0 → Q (-1) M1) ∧ (a2 ≠ 0 → JC E mm_H_within [vI x2, vI 0, vI 2] M1 (fun a4 M3 => ((a4 ≠ 0 → JC E mm_T_storeBits [vR 3 0] M3 (fun a6 M5 => JG E mm_H_arms Q 36 [(0, vR 0 0), (1, vI x1), (2, vI x2), (3, vI a6), (4, vI 0), (5, vI 0), (6, vI 1)] [] M5)) ∧ (a4 = 0 → Q (-1) M3))))))) : JC E mm_H_arms [vR 0 0, vI x1, vI x2] M Q := by
  refine j_entry (L0 := [(0, vR 0 0), (1, vI x1), (2, vI x2)]) pn_H (Nat.le_of_ble_eq_true rfl) rfl ?_
  refine j_aload_n (j := 0) dd_H_arms_0 rfl rfl ?_
  refine j_iload_n (j := 1) dd_H_arms_1 rfl rfl ?_
  refine j_cVI (mm' := mm_H_isOne) (t := 0) (i := 0) (As := [vI x1]) (rest := []) h dd_H_arms_2 (ws5 wd_520 wd_522 wd_14 wd_63 wd_523) nk_H_isOne (rok rfl) (by unfold isW; omega) ⟨_, ce_0 _⟩ rfl (Nat.le_of_ble_eq_true rfl) (fun _ => rfl) (fun a2 M1 h => ?_)
  refine j_if_eq (tgt := 17) dd_H_arms_5 (by decide) (fun c => ?_) (fun c => ?_)
  · have h := h.1 c
    refine j_iconst dd_H_arms_17 (inRd rfl) ?_
    exact j_iret dd_H_arms_18 rfl h
  · have h := h.2 c
    refine j_iload_n (j := 2) dd_H_arms_8 rfl rfl ?_
    refine j_iconst dd_H_arms_9 (inRd rfl) ?_
    refine j_iconst dd_H_arms_10 (inRd rfl) ?_
    refine j_cSI (mm' := mm_H_within) (As := [vI x2, vI 0, vI 2]) (rest := []) h dd_H_arms_11 (ws4 wd_328 wd_329 wd_63 wd_330) nk_H_within (rok rfl) (Nat.le_of_ble_eq_true rfl) (fun _ => rfl) (fun a4 M3 h => ?_)
    refine j_if_ne (tgt := 19) dd_H_arms_14 (by decide) (fun c => ?_) (fun c => ?_)
    · have h := h.1 c
      refine j_aload_n (j := 0) dd_H_arms_19 rfl rfl ?_
      refine gf_0_0 dd_H_arms_20 wd_287 ?_
      refine j_cVI (mm' := mm_T_storeBits) (t := 3) (i := 0) (As := []) (rest := []) h dd_H_arms_23 (ws5 wd_500 wd_501 wd_502 wd_64 wd_503) nk_T_storeBits (rok rfl) (by unfold isW; omega) ⟨_, ce_3 _⟩ rfl (Nat.le_of_ble_eq_true rfl) (fun _ => rfl) (fun a6 M5 h => ?_)
      refine j_istore_n (j := 3) dd_H_arms_26 rfl (by decide) rfl ?_
      refine j_iconst dd_H_arms_27 (inRd rfl) ?_
      refine j_istore (j := 4) dd_H_arms_28 (by decide) rfl ?_
      refine j_iconst dd_H_arms_30 (inRd rfl) ?_
      refine j_istore (j := 5) dd_H_arms_31 (by decide) rfl ?_
      refine j_iconst dd_H_arms_33 (inRd rfl) ?_
      refine j_istore (j := 6) dd_H_arms_34 (by decide) rfl ?_
      exact j_jump h (jsub_c rfl (jsub_c rfl (jsub_c rfl (jsub_c rfl (jsub_c rfl (jsub_c rfl (jsub_c rfl jsub_0)))))))
    · have h := h.2 c
      refine j_iconst dd_H_arms_17 (inRd rfl) ?_
      exact j_iret dd_H_arms_18 rfl h
theorem vc_H_arms_36 {E : EE} {Q : Int → JM → Prop} (x1 : Int) (x2 : Int) (l3 : Int) (l4 : Int) (l5 : Int) (l6 : Int) (M : JM) (h : ((l3 < l6 → (((x2 ≠ 0 ∧ x2 ≠ 1) → JC E mm_T_heftOf [vR 3 0, vI l4] M (fun a2 M1 => Q a2 M1)) ∧ (x2 = 0 → Q l4 M) ∧ (x2 = 1 → Q l5 M))) ∧ (l6 ≤ l3 → ((and32 l6 (xor32 l3 (-1)) ≠ 0 → ∀ a3 : Int, a3 = w32 (l6 + 1) → JG E mm_H_arms Q 36 [(0, vR 0 0), (1, vI x1), (2, vI x2), (3, vI l3), (4, vI l4), (5, vI l5), (6, vI a3)] [] M) ∧ (and32 l6 (xor32 l3 (-1)) = 0 → JC E mm_T_heftOf [vR 3 0, vI l6] M (fun a5 M4 => (0 ≤ x1 ∧ x1 < 4) ∧ ((M4 2 (4 * 0 + (M4 5 0 x1.toNat).toNat) 0 < a5 → ∀ a6 : Int, a6 = w32 (l6 + 1) → JG E mm_H_arms Q 36 [(0, vR 0 0), (1, vI x1), (2, vI x2), (3, vI l3), (4, vI l4), (5, vI l5), (6, vI a6)] [] M4) ∧ (a5 ≤ M4 2 (4 * 0 + (M4 5 0 x1.toNat).toNat) 0 → JC E mm_T_paysOf [vR 3 0, vI l6] M4 (fun a8 M7 => ((a8 ≤ l5 → ∀ a9 : Int, a9 = w32 (l6 + 1) → JG E mm_H_arms Q 36 [(0, vR 0 0), (1, vI x1), (2, vI x2), (3, vI l3), (4, vI l4), (5, vI l5), (6, vI a9)] [] M7) ∧ (l5 < a8 → JC E mm_T_paysOf [vR 3 0, vI l6] M7 (fun a11 M10 => ∀ a12 : Int, a12 = w32 (l6 + 1) → JG E mm_H_arms Q 36 [(0, vR 0 0), (1, vI x1), (2, vI x2), (3, vI l3), (4, vI l6), (5, vI a11), (6, vI a12)] [] M10)))))))))))) : JG E mm_H_arms Q 36 [(0, vR 0 0), (1, vI x1), (2, vI x2), (3, vI l3), (4, vI l4), (5, vI l5), (6, vI l6)] [] M := by
  refine j_iload (j := 6) dd_H_arms_36 rfl ?_
  refine j_iload_n (j := 3) dd_H_arms_38 rfl rfl ?_
  refine j_icmp_gt (tgt := 110) dd_H_arms_39 (by decide) (fun c => ?_) (fun c => ?_)
  · have h := h.1 c
    refine j_iload_n (j := 2) dd_H_arms_110 rfl rfl ?_
    have hc : (x2 ≠ 0 ∧ x2 ≠ 1) ∨ x2 = 0 ∨ x2 = 1 := by omega
    rcases hc with hc | hc | hc
    · have h := h.1 hc
      refine j_look (tgt := 142) (off := 31) dd_H_arms_111 (by decide) (by simp [Op.lookupswitch.offset, hc.1, hc.2, Ne.symm hc.1, Ne.symm hc.2]) (by decide) ?_
      refine j_aload_n (j := 0) dd_H_arms_142 rfl rfl ?_
      refine gf_0_0 dd_H_arms_143 wd_287 ?_
      refine j_iload (j := 4) dd_H_arms_146 rfl ?_
      refine j_cVI (mm' := mm_T_heftOf) (t := 3) (i := 0) (As := [vI l4]) (rest := []) h dd_H_arms_148 (ws5 wd_630 wd_631 wd_632 wd_64 wd_633) nk_T_heftOf (rok rfl) (by unfold isW; omega) ⟨_, ce_3 _⟩ rfl (Nat.le_of_ble_eq_true rfl) (fun _ => rfl) (fun a2 M1 h => ?_)
      exact j_iret dd_H_arms_151 rfl h
    · have h := h.2.1 hc
      refine j_look (tgt := 136) (off := 25) dd_H_arms_111 (by decide) (by rw [hc]; rfl) (by decide) ?_
      refine j_iload (j := 4) dd_H_arms_136 rfl ?_
      exact j_iret dd_H_arms_138 rfl h
    · have h := h.2.2 hc
      refine j_look (tgt := 139) (off := 28) dd_H_arms_111 (by decide) (by rw [hc]; rfl) (by decide) ?_
      refine j_iload (j := 5) dd_H_arms_139 rfl ?_
      exact j_iret dd_H_arms_141 rfl h
  · have h := h.2 c
    refine j_iload (j := 6) dd_H_arms_42 rfl ?_
    refine j_iload_n (j := 3) dd_H_arms_44 rfl rfl ?_
    refine j_iconst dd_H_arms_45 (inRd rfl) ?_
    refine j_ixor dd_H_arms_46 ?_
    refine j_iand dd_H_arms_47 ?_
    refine j_if_ne (tgt := 104) dd_H_arms_48 (by decide) (fun c => ?_) (fun c => ?_)
    · have h := h.1 c
      refine j_iincN dd_H_arms_104 rfl rfl (fun a3 ea3 => ?_)
      have h := h a3 ea3
      refine j_goto (tgt := 36) dd_H_arms_107 (by decide) ?_
      exact j_jump h (jsub_c rfl (jsub_c rfl (jsub_c rfl (jsub_c rfl (jsub_c rfl (jsub_c rfl (jsub_c rfl jsub_0)))))))
    · have h := h.2 c
      refine j_aload_n (j := 0) dd_H_arms_51 rfl rfl ?_
      refine gf_0_0 dd_H_arms_52 wd_287 ?_
      refine j_iload (j := 6) dd_H_arms_55 rfl ?_
      refine j_cVI (mm' := mm_T_heftOf) (t := 3) (i := 0) (As := [vI l6]) (rest := []) h dd_H_arms_57 (ws5 wd_630 wd_631 wd_632 wd_64 wd_633) nk_T_heftOf (rok rfl) (by unfold isW; omega) ⟨_, ce_3 _⟩ rfl (Nat.le_of_ble_eq_true rfl) (fun _ => rfl) (fun a5 M4 h => ?_)
      refine j_aload_n (j := 0) dd_H_arms_60 rfl rfl ?_
      refine gf_0_0 dd_H_arms_61 wd_287 ?_
      refine gf_3_1 dd_H_arms_64 wd_162 ?_
      refine j_iload_n (j := 1) dd_H_arms_67 rfl rfl ?_
      refine ld_5 dd_H_arms_68 h.1 ?_
      have h := h.2
      refine gf_2_0 dd_H_arms_69 wd_136 ?_
      refine j_icmp_gt (tgt := 104) dd_H_arms_72 (by decide) (fun c => ?_) (fun c => ?_)
      · have h := h.1 c
        refine j_iincN dd_H_arms_104 rfl rfl (fun a6 ea6 => ?_)
        have h := h a6 ea6
        refine j_goto (tgt := 36) dd_H_arms_107 (by decide) ?_
        exact j_jump h (jsub_c rfl (jsub_c rfl (jsub_c rfl (jsub_c rfl (jsub_c rfl (jsub_c rfl (jsub_c rfl jsub_0)))))))
      · have h := h.2 c
        refine j_aload_n (j := 0) dd_H_arms_75 rfl rfl ?_
        refine gf_0_0 dd_H_arms_76 wd_287 ?_
        refine j_iload (j := 6) dd_H_arms_79 rfl ?_
        refine j_cVI (mm' := mm_T_paysOf) (t := 3) (i := 0) (As := [vI l6]) (rest := []) h dd_H_arms_81 (ws5 wd_634 wd_635 wd_636 wd_64 wd_637) nk_T_paysOf (rok rfl) (by unfold isW; omega) ⟨_, ce_3 _⟩ rfl (Nat.le_of_ble_eq_true rfl) (fun _ => rfl) (fun a8 M7 h => ?_)
        refine j_iload (j := 5) dd_H_arms_84 rfl ?_
        refine j_icmp_le (tgt := 104) dd_H_arms_86 (by decide) (fun c => ?_) (fun c => ?_)
        · have h := h.1 c
          refine j_iincN dd_H_arms_104 rfl rfl (fun a9 ea9 => ?_)
          have h := h a9 ea9
          refine j_goto (tgt := 36) dd_H_arms_107 (by decide) ?_
          exact j_jump h (jsub_c rfl (jsub_c rfl (jsub_c rfl (jsub_c rfl (jsub_c rfl (jsub_c rfl (jsub_c rfl jsub_0)))))))
        · have h := h.2 c
          refine j_iload (j := 6) dd_H_arms_89 rfl ?_
          refine j_istore (j := 4) dd_H_arms_91 (by decide) rfl ?_
          refine j_aload_n (j := 0) dd_H_arms_93 rfl rfl ?_
          refine gf_0_0 dd_H_arms_94 wd_287 ?_
          refine j_iload (j := 6) dd_H_arms_97 rfl ?_
          refine j_cVI (mm' := mm_T_paysOf) (t := 3) (i := 0) (As := [vI l6]) (rest := []) h dd_H_arms_99 (ws5 wd_634 wd_635 wd_636 wd_64 wd_637) nk_T_paysOf (rok rfl) (by unfold isW; omega) ⟨_, ce_3 _⟩ rfl (Nat.le_of_ble_eq_true rfl) (fun _ => rfl) (fun a11 M10 h => ?_)
          refine j_istore (j := 5) dd_H_arms_102 (by decide) rfl ?_
          refine j_iincN dd_H_arms_104 rfl rfl (fun a12 ea12 => ?_)
          have h := h a12 ea12
          refine j_goto (tgt := 36) dd_H_arms_107 (by decide) ?_
          exact j_jump h (jsub_c rfl (jsub_c rfl (jsub_c rfl (jsub_c rfl (jsub_c rfl (jsub_c rfl (jsub_c rfl jsub_0)))))))
theorem vc_H_need {E : EE} {Q : Int → JM → Prop} (x1 : Int) (x2 : Int) (M : JM) (h : JC E mm_H_isOne [vR 0 0, vI x1] M (fun a2 M1 => ((a2 = 0 → Q (-1) M1) ∧ (a2 ≠ 0 → JC E mm_H_isGood [vR 0 0, vI x2] M1 (fun a4 M3 => ((a4 ≠ 0 → JG E mm_H_need Q 20 [(0, vR 0 0), (1, vI x1), (2, vI x2), (3, vI 1)] [] M3) ∧ (a4 = 0 → Q (-1) M3))))))) : JC E mm_H_need [vR 0 0, vI x1, vI x2] M Q := by
  refine j_entry (L0 := [(0, vR 0 0), (1, vI x1), (2, vI x2)]) pn_H (Nat.le_of_ble_eq_true rfl) rfl ?_
  refine j_aload_n (j := 0) dd_H_need_0 rfl rfl ?_
  refine j_iload_n (j := 1) dd_H_need_1 rfl rfl ?_
  refine j_cVI (mm' := mm_H_isOne) (t := 0) (i := 0) (As := [vI x1]) (rest := []) h dd_H_need_2 (ws5 wd_520 wd_522 wd_14 wd_63 wd_523) nk_H_isOne (rok rfl) (by unfold isW; omega) ⟨_, ce_0 _⟩ rfl (Nat.le_of_ble_eq_true rfl) (fun _ => rfl) (fun a2 M1 h => ?_)
  refine j_if_eq (tgt := 16) dd_H_need_5 (by decide) (fun c => ?_) (fun c => ?_)
  · have h := h.1 c
    refine j_iconst dd_H_need_16 (inRd rfl) ?_
    exact j_iret dd_H_need_17 rfl h
  · have h := h.2 c
    refine j_aload_n (j := 0) dd_H_need_8 rfl rfl ?_
    refine j_iload_n (j := 2) dd_H_need_9 rfl rfl ?_
    refine j_cVI (mm' := mm_H_isGood) (t := 0) (i := 0) (As := [vI x2]) (rest := []) h dd_H_need_10 (ws5 wd_512 wd_514 wd_13 wd_63 wd_515) nk_H_isGood (rok rfl) (by unfold isW; omega) ⟨_, ce_0 _⟩ rfl (Nat.le_of_ble_eq_true rfl) (fun _ => rfl) (fun a4 M3 h => ?_)
    refine j_if_ne (tgt := 18) dd_H_need_13 (by decide) (fun c => ?_) (fun c => ?_)
    · have h := h.1 c
      refine j_iconst dd_H_need_18 (inRd rfl) ?_
      refine j_istore_n (j := 3) dd_H_need_19 rfl (by decide) rfl ?_
      exact j_jump h (jsub_c rfl (jsub_c rfl (jsub_c rfl (jsub_c rfl jsub_0))))
    · have h := h.2 c
      refine j_iconst dd_H_need_16 (inRd rfl) ?_
      exact j_iret dd_H_need_17 rfl h
theorem vc_H_need_20 {E : EE} {Q : Int → JM → Prop} (x1 : Int) (x2 : Int) (l3 : Int) (M : JM) (h : ((20 < l3 → Q (-4) M) ∧ (l3 ≤ 20 → JC E mm_T_copyFrom [vR 3 1, vR 3 0] M (fun a2 M1 => (0 ≤ x1 ∧ x1 < 4) ∧ ∀ M3 : JM, M3 = pt M1 2 (4 * 1 + (M1 5 1 x1.toNat).toNat) 0 l3 → JC E mm_T_carryOut [vR 3 1, vI 0] M3 (fun a5 M4 => (0 ≤ x1 ∧ x1 < 4) ∧ JC E mm_H_hasBit [vI (M4 2 (4 * 1 + (M4 5 1 x1.toNat).toNat) 2), vI x2] M4 (fun a7 M6 => ((a7 = 0 → ∀ a8 : Int, a8 = w32 (l3 + 1) → JG E mm_H_need Q 20 [(0, vR 0 0), (1, vI x1), (2, vI x2), (3, vI a8)] [] M6) ∧ (a7 ≠ 0 → Q l3 M6)))))))) : JG E mm_H_need Q 20 [(0, vR 0 0), (1, vI x1), (2, vI x2), (3, vI l3)] [] M := by
  refine j_iload_n (j := 3) dd_H_need_20 rfl rfl ?_
  refine j_bipush dd_H_need_21 rfl (inRd rfl) ?_
  refine j_icmp_gt (tgt := 85) dd_H_need_23 (by decide) (fun c => ?_) (fun c => ?_)
  · have h := h.1 c
    refine j_bipush dd_H_need_85 rfl (inRd rfl) ?_
    exact j_iret dd_H_need_87 rfl h
  · have h := h.2 c
    refine j_aload_n (j := 0) dd_H_need_26 rfl rfl ?_
    refine gf_0_1 dd_H_need_27 wd_288 ?_
    refine j_aload_n (j := 0) dd_H_need_30 rfl rfl ?_
    refine gf_0_0 dd_H_need_31 wd_287 ?_
    refine j_cVV (mm' := mm_T_copyFrom) (t := 3) (i := 1) (As := [vR 3 0]) (rest := []) h dd_H_need_34 (ws5 wd_479 wd_480 wd_481 wd_64 wd_482) nk_T_copyFrom (rok rfl) (by unfold isW; omega) ⟨_, ce_3 _⟩ rfl (Nat.le_of_ble_eq_true rfl) (fun _ => rfl) (fun a2 M1 h => ?_)
    refine j_aload_n (j := 0) dd_H_need_37 rfl rfl ?_
    refine gf_0_1 dd_H_need_38 wd_288 ?_
    refine gf_3_1 dd_H_need_41 wd_162 ?_
    refine j_iload_n (j := 1) dd_H_need_44 rfl rfl ?_
    refine ld_5 dd_H_need_45 h.1 ?_
    have h := h.2
    refine j_iload_n (j := 3) dd_H_need_46 rfl rfl ?_
    refine pf_2_0 dd_H_need_47 wd_136 (fun M3 eM3 => ?_)
    have h := h M3 eM3
    refine j_aload_n (j := 0) dd_H_need_50 rfl rfl ?_
    refine gf_0_1 dd_H_need_51 wd_288 ?_
    refine j_iconst dd_H_need_54 (inRd rfl) ?_
    refine j_cVV (mm' := mm_T_carryOut) (t := 3) (i := 1) (As := [vI 0]) (rest := []) h dd_H_need_55 (ws5 wd_524 wd_525 wd_526 wd_64 wd_527) nk_T_carryOut (rok rfl) (by unfold isW; omega) ⟨_, ce_3 _⟩ rfl (Nat.le_of_ble_eq_true rfl) (fun _ => rfl) (fun a5 M4 h => ?_)
    refine j_aload_n (j := 0) dd_H_need_58 rfl rfl ?_
    refine gf_0_1 dd_H_need_59 wd_288 ?_
    refine gf_3_1 dd_H_need_62 wd_162 ?_
    refine j_iload_n (j := 1) dd_H_need_65 rfl rfl ?_
    refine ld_5 dd_H_need_66 h.1 ?_
    have h := h.2
    refine gf_2_2 dd_H_need_67 wd_141 ?_
    refine j_iload_n (j := 2) dd_H_need_70 rfl rfl ?_
    refine j_cSI (mm' := mm_H_hasBit) (As := [vI (M4 2 (4 * 1 + (M4 5 1 x1.toNat).toNat) 2), vI x2]) (rest := []) h dd_H_need_71 (ws4 wd_621 wd_533 wd_63 wd_534) nk_H_hasBit (rok rfl) (Nat.le_of_ble_eq_true rfl) (fun _ => rfl) (fun a7 M6 h => ?_)
    refine j_if_eq (tgt := 79) dd_H_need_74 (by decide) (fun c => ?_) (fun c => ?_)
    · have h := h.1 c
      refine j_iincN dd_H_need_79 rfl rfl (fun a8 ea8 => ?_)
      have h := h a8 ea8
      refine j_goto (tgt := 20) dd_H_need_82 (by decide) ?_
      exact j_jump h (jsub_c rfl (jsub_c rfl (jsub_c rfl (jsub_c rfl jsub_0))))
    · have h := h.2 c
      refine j_iload_n (j := 3) dd_H_need_77 rfl rfl ?_
      exact j_iret dd_H_need_78 rfl h
theorem vc_H_fair {E : EE} {Q : Int → JM → Prop} (x1 : Int) (x2 : Int) (M : JM) (h : JC E mm_H_within [vI x1, vI 0, vI 60] M (fun a2 M1 => ((a2 = 0 → Q (-1) M1) ∧ (a2 ≠ 0 → JC E mm_H_within [vI x2, vI 0, vI 1] M1 (fun a4 M3 => ((a4 ≠ 0 → ((M3 3 0 3 ≠ 0 → JG E mm_H_fair Q 42 [(0, vR 0 0), (1, vI x1), (2, vI x2), (3, vI 0), (4, vI (-1)), (5, vI 0)] [] M3) ∧ (M3 3 0 3 = 0 → Q (-2) M3))) ∧ (a4 = 0 → Q (-1) M3))))))) : JC E mm_H_fair [vR 0 0, vI x1, vI x2] M Q := by
  refine j_entry (L0 := [(0, vR 0 0), (1, vI x1), (2, vI x2)]) pn_H (Nat.le_of_ble_eq_true rfl) rfl ?_
  refine j_iload_n (j := 1) dd_H_fair_0 rfl rfl ?_
  refine j_iconst dd_H_fair_1 (inRd rfl) ?_
  refine j_bipush dd_H_fair_2 rfl (inRd rfl) ?_
  refine j_cSI (mm' := mm_H_within) (As := [vI x1, vI 0, vI 60]) (rest := []) h dd_H_fair_4 (ws4 wd_328 wd_329 wd_63 wd_330) nk_H_within (rok rfl) (Nat.le_of_ble_eq_true rfl) (fun _ => rfl) (fun a2 M1 h => ?_)
  refine j_if_eq (tgt := 19) dd_H_fair_7 (by decide) (fun c => ?_) (fun c => ?_)
  · have h := h.1 c
    refine j_iconst dd_H_fair_19 (inRd rfl) ?_
    exact j_iret dd_H_fair_20 rfl h
  · have h := h.2 c
    refine j_iload_n (j := 2) dd_H_fair_10 rfl rfl ?_
    refine j_iconst dd_H_fair_11 (inRd rfl) ?_
    refine j_iconst dd_H_fair_12 (inRd rfl) ?_
    refine j_cSI (mm' := mm_H_within) (As := [vI x2, vI 0, vI 1]) (rest := []) h dd_H_fair_13 (ws4 wd_328 wd_329 wd_63 wd_330) nk_H_within (rok rfl) (Nat.le_of_ble_eq_true rfl) (fun _ => rfl) (fun a4 M3 h => ?_)
    refine j_if_ne (tgt := 21) dd_H_fair_16 (by decide) (fun c => ?_) (fun c => ?_)
    · have h := h.1 c
      refine j_aload_n (j := 0) dd_H_fair_21 rfl rfl ?_
      refine gf_0_0 dd_H_fair_22 wd_287 ?_
      refine gf_3_3 dd_H_fair_25 wd_168 ?_
      refine j_if_ne (tgt := 34) dd_H_fair_28 (by decide) (fun c => ?_) (fun c => ?_)
      · have h := h.1 c
        refine j_iconst dd_H_fair_34 (inRd rfl) ?_
        refine j_istore_n (j := 3) dd_H_fair_35 rfl (by decide) rfl ?_
        refine j_iconst dd_H_fair_36 (inRd rfl) ?_
        refine j_istore (j := 4) dd_H_fair_37 (by decide) rfl ?_
        refine j_iconst dd_H_fair_39 (inRd rfl) ?_
        refine j_istore (j := 5) dd_H_fair_40 (by decide) rfl ?_
        exact j_jump h (jsub_c rfl (jsub_c rfl (jsub_c rfl (jsub_c rfl (jsub_c rfl (jsub_c rfl jsub_0))))))
      · have h := h.2 c
        refine j_bipush dd_H_fair_31 rfl (inRd rfl) ?_
        exact j_iret dd_H_fair_33 rfl h
    · have h := h.2 c
      refine j_iconst dd_H_fair_19 (inRd rfl) ?_
      exact j_iret dd_H_fair_20 rfl h
theorem vc_H_fair_42 {E : EE} {Q : Int → JM → Prop} (x1 : Int) (x2 : Int) (l3 : Int) (l4 : Int) (l5 : Int) (M : JM) (h : ((6 < l5 → ((x2 ≠ 0 → Q l4 M) ∧ (x2 = 0 → Q l3 M))) ∧ (l5 ≤ 6 → JC E mm_T_copyFrom [vR 3 1, vR 3 0] M (fun a2 M1 => ∀ M3 : JM, M3 = pt M1 3 1 4 l5 → JC E mm_T_passWeeks [vR 3 1, vI x1] M3 (fun a5 M4 => JC E mm_T_leastWages [vR 3 1] M4 (fun a7 M6 => ((a7 ≤ l4 → ∀ a8 : Int, a8 = w32 (l5 + 1) → JG E mm_H_fair Q 42 [(0, vR 0 0), (1, vI x1), (2, vI x2), (3, vI l3), (4, vI l4), (5, vI a8)] [] M6) ∧ (l4 < a7 → JC E mm_T_leastWages [vR 3 1] M6 (fun a10 M9 => ∀ a11 : Int, a11 = w32 (l5 + 1) → JG E mm_H_fair Q 42 [(0, vR 0 0), (1, vI x1), (2, vI x2), (3, vI l5), (4, vI a10), (5, vI a11)] [] M9))))))))) : JG E mm_H_fair Q 42 [(0, vR 0 0), (1, vI x1), (2, vI x2), (3, vI l3), (4, vI l4), (5, vI l5)] [] M := by
  refine j_iload (j := 5) dd_H_fair_42 rfl ?_
  refine j_bipush dd_H_fair_44 rfl (inRd rfl) ?_
  refine j_icmp_gt (tgt := 107) dd_H_fair_46 (by decide) (fun c => ?_) (fun c => ?_)
  · have h := h.1 c
    refine j_iload_n (j := 2) dd_H_fair_107 rfl rfl ?_
    refine j_if_ne (tgt := 115) dd_H_fair_108 (by decide) (fun c => ?_) (fun c => ?_)
    · have h := h.1 c
      refine j_iload (j := 4) dd_H_fair_115 rfl ?_
      exact j_iret dd_H_fair_117 rfl h
    · have h := h.2 c
      refine j_iload_n (j := 3) dd_H_fair_111 rfl rfl ?_
      refine j_goto (tgt := 117) dd_H_fair_112 (by decide) ?_
      exact j_iret dd_H_fair_117 rfl h
  · have h := h.2 c
    refine j_aload_n (j := 0) dd_H_fair_49 rfl rfl ?_
    refine gf_0_1 dd_H_fair_50 wd_288 ?_
    refine j_aload_n (j := 0) dd_H_fair_53 rfl rfl ?_
    refine gf_0_0 dd_H_fair_54 wd_287 ?_
    refine j_cVV (mm' := mm_T_copyFrom) (t := 3) (i := 1) (As := [vR 3 0]) (rest := []) h dd_H_fair_57 (ws5 wd_479 wd_480 wd_481 wd_64 wd_482) nk_T_copyFrom (rok rfl) (by unfold isW; omega) ⟨_, ce_3 _⟩ rfl (Nat.le_of_ble_eq_true rfl) (fun _ => rfl) (fun a2 M1 h => ?_)
    refine j_aload_n (j := 0) dd_H_fair_60 rfl rfl ?_
    refine gf_0_1 dd_H_fair_61 wd_288 ?_
    refine j_iload (j := 5) dd_H_fair_64 rfl ?_
    refine pf_3_4 dd_H_fair_66 wd_171 (fun M3 eM3 => ?_)
    have h := h M3 eM3
    refine j_aload_n (j := 0) dd_H_fair_69 rfl rfl ?_
    refine gf_0_1 dd_H_fair_70 wd_288 ?_
    refine j_iload_n (j := 1) dd_H_fair_73 rfl rfl ?_
    refine j_cVV (mm' := mm_T_passWeeks) (t := 3) (i := 1) (As := [vI x1]) (rest := []) h dd_H_fair_74 (ws5 wd_582 wd_583 wd_584 wd_64 wd_585) nk_T_passWeeks (rok rfl) (by unfold isW; omega) ⟨_, ce_3 _⟩ rfl (Nat.le_of_ble_eq_true rfl) (fun _ => rfl) (fun a5 M4 h => ?_)
    refine j_aload_n (j := 0) dd_H_fair_77 rfl rfl ?_
    refine gf_0_1 dd_H_fair_78 wd_288 ?_
    refine j_cVI (mm' := mm_T_leastWages) (t := 3) (i := 1) (As := []) (rest := []) h dd_H_fair_81 (ws5 wd_608 wd_609 wd_610 wd_64 wd_611) nk_T_leastWages (rok rfl) (by unfold isW; omega) ⟨_, ce_3 _⟩ rfl (Nat.le_of_ble_eq_true rfl) (fun _ => rfl) (fun a7 M6 h => ?_)
    refine j_iload (j := 4) dd_H_fair_84 rfl ?_
    refine j_icmp_le (tgt := 101) dd_H_fair_86 (by decide) (fun c => ?_) (fun c => ?_)
    · have h := h.1 c
      refine j_iincN dd_H_fair_101 rfl rfl (fun a8 ea8 => ?_)
      have h := h a8 ea8
      refine j_goto (tgt := 42) dd_H_fair_104 (by decide) ?_
      exact j_jump h (jsub_c rfl (jsub_c rfl (jsub_c rfl (jsub_c rfl (jsub_c rfl (jsub_c rfl jsub_0))))))
    · have h := h.2 c
      refine j_iload (j := 5) dd_H_fair_89 rfl ?_
      refine j_istore_n (j := 3) dd_H_fair_91 rfl (by decide) rfl ?_
      refine j_aload_n (j := 0) dd_H_fair_92 rfl rfl ?_
      refine gf_0_1 dd_H_fair_93 wd_288 ?_
      refine j_cVI (mm' := mm_T_leastWages) (t := 3) (i := 1) (As := []) (rest := []) h dd_H_fair_96 (ws5 wd_608 wd_609 wd_610 wd_64 wd_611) nk_T_leastWages (rok rfl) (by unfold isW; omega) ⟨_, ce_3 _⟩ rfl (Nat.le_of_ble_eq_true rfl) (fun _ => rfl) (fun a10 M9 h => ?_)
      refine j_istore (j := 4) dd_H_fair_99 (by decide) rfl ?_
      refine j_iincN dd_H_fair_101 rfl rfl (fun a11 ea11 => ?_)
      have h := h a11 ea11
      refine j_goto (tgt := 42) dd_H_fair_104 (by decide) ?_
      exact j_jump h (jsub_c rfl (jsub_c rfl (jsub_c rfl (jsub_c rfl (jsub_c rfl (jsub_c rfl jsub_0))))))
theorem vc_H_swap {E : EE} {Q : Int → JM → Prop} (x1 : Int) (x2 : Int) (M : JM) (h : JC E mm_H_within [vI x1, vI 0, vI 60] M (fun a2 M1 => ((a2 = 0 → Q (-1) M1) ∧ (a2 ≠ 0 → JC E mm_H_within [vI x2, vI 0, vI 1] M1 (fun a4 M3 => ((a4 ≠ 0 → JC E mm_H_wagesAsItIs [vR 0 0, vI x1] M3 (fun a6 M5 => JG E mm_H_swap Q 34 [(0, vR 0 0), (1, vI x1), (2, vI x2), (3, vI (-4)), (4, vI a6), (5, vI 0)] [] M5)) ∧ (a4 = 0 → Q (-1) M3))))))) : JC E mm_H_swap [vR 0 0, vI x1, vI x2] M Q := by
  refine j_entry (L0 := [(0, vR 0 0), (1, vI x1), (2, vI x2)]) pn_H (Nat.le_of_ble_eq_true rfl) rfl ?_
  refine j_iload_n (j := 1) dd_H_swap_0 rfl rfl ?_
  refine j_iconst dd_H_swap_1 (inRd rfl) ?_
  refine j_bipush dd_H_swap_2 rfl (inRd rfl) ?_
  refine j_cSI (mm' := mm_H_within) (As := [vI x1, vI 0, vI 60]) (rest := []) h dd_H_swap_4 (ws4 wd_328 wd_329 wd_63 wd_330) nk_H_within (rok rfl) (Nat.le_of_ble_eq_true rfl) (fun _ => rfl) (fun a2 M1 h => ?_)
  refine j_if_eq (tgt := 19) dd_H_swap_7 (by decide) (fun c => ?_) (fun c => ?_)
  · have h := h.1 c
    refine j_iconst dd_H_swap_19 (inRd rfl) ?_
    exact j_iret dd_H_swap_20 rfl h
  · have h := h.2 c
    refine j_iload_n (j := 2) dd_H_swap_10 rfl rfl ?_
    refine j_iconst dd_H_swap_11 (inRd rfl) ?_
    refine j_iconst dd_H_swap_12 (inRd rfl) ?_
    refine j_cSI (mm' := mm_H_within) (As := [vI x2, vI 0, vI 1]) (rest := []) h dd_H_swap_13 (ws4 wd_328 wd_329 wd_63 wd_330) nk_H_within (rok rfl) (Nat.le_of_ble_eq_true rfl) (fun _ => rfl) (fun a4 M3 h => ?_)
    refine j_if_ne (tgt := 21) dd_H_swap_16 (by decide) (fun c => ?_) (fun c => ?_)
    · have h := h.1 c
      refine j_bipush dd_H_swap_21 rfl (inRd rfl) ?_
      refine j_istore_n (j := 3) dd_H_swap_23 rfl (by decide) rfl ?_
      refine j_aload_n (j := 0) dd_H_swap_24 rfl rfl ?_
      refine j_iload_n (j := 1) dd_H_swap_25 rfl rfl ?_
      refine j_cVI (mm' := mm_H_wagesAsItIs) (t := 0) (i := 0) (As := [vI x1]) (rest := []) h dd_H_swap_26 (ws5 wd_650 wd_652 wd_17 wd_63 wd_653) nk_H_wagesAsItIs (rok rfl) (by unfold isW; omega) ⟨_, ce_0 _⟩ rfl (Nat.le_of_ble_eq_true rfl) (fun _ => rfl) (fun a6 M5 h => ?_)
      refine j_istore (j := 4) dd_H_swap_29 (by decide) rfl ?_
      refine j_iconst dd_H_swap_31 (inRd rfl) ?_
      refine j_istore (j := 5) dd_H_swap_32 (by decide) rfl ?_
      exact j_jump h (jsub_c rfl (jsub_c rfl (jsub_c rfl (jsub_c rfl (jsub_c rfl (jsub_c rfl jsub_0))))))
    · have h := h.2 c
      refine j_iconst dd_H_swap_19 (inRd rfl) ?_
      exact j_iret dd_H_swap_20 rfl h
theorem vc_H_swap_34 {E : EE} {Q : Int → JM → Prop} (x1 : Int) (x2 : Int) (l3 : Int) (l4 : Int) (l5 : Int) (M : JM) (h : ((M 3 0 3 ≤ l5 → JC E mm_H_bestOrMore [vR 0 0, vI l3, vI l4, vI x2] M (fun a2 M1 => Q a2 M1)) ∧ (l5 < M 3 0 3 → ∀ a3 : Int, a3 = w32 (l5 + 1) → JG E mm_H_swap Q 52 [(0, vR 0 0), (1, vI x1), (2, vI x2), (3, vI l3), (4, vI l4), (5, vI l5), (6, vI a3)] [] M))) : JG E mm_H_swap Q 34 [(0, vR 0 0), (1, vI x1), (2, vI x2), (3, vI l3), (4, vI l4), (5, vI l5)] [] M := by
  refine j_iload (j := 5) dd_H_swap_34 rfl ?_
  refine j_aload_n (j := 0) dd_H_swap_36 rfl rfl ?_
  refine gf_0_0 dd_H_swap_37 wd_287 ?_
  refine gf_3_3 dd_H_swap_40 wd_168 ?_
  refine j_icmp_ge (tgt := 136) dd_H_swap_43 (by decide) (fun c => ?_) (fun c => ?_)
  · have h := h.1 c
    refine j_aload_n (j := 0) dd_H_swap_136 rfl rfl ?_
    refine j_iload_n (j := 3) dd_H_swap_137 rfl rfl ?_
    refine j_iload (j := 4) dd_H_swap_138 rfl ?_
    refine j_iload_n (j := 2) dd_H_swap_140 rfl rfl ?_
    refine j_cVI (mm' := mm_H_bestOrMore) (t := 0) (i := 0) (As := [vI l3, vI l4, vI x2]) (rest := []) h dd_H_swap_141 (ws5 wd_658 wd_660 wd_18 wd_63 wd_661) nk_H_bestOrMore (rok rfl) (by unfold isW; omega) ⟨_, ce_0 _⟩ rfl (Nat.le_of_ble_eq_true rfl) (fun _ => rfl) (fun a2 M1 h => ?_)
    exact j_iret dd_H_swap_144 rfl h
  · have h := h.2 c
    refine j_iload (j := 5) dd_H_swap_46 rfl ?_
    refine j_iconst dd_H_swap_48 (inRd rfl) ?_
    refine j_iadd dd_H_swap_49 ?_
    refine j_topI (fun a3 ea3 => ?_)
    have h := h a3 ea3
    refine j_istore (j := 6) dd_H_swap_50 (by decide) rfl ?_
    exact j_jump h (jsub_c rfl (jsub_c rfl (jsub_c rfl (jsub_c rfl (jsub_c rfl (jsub_c rfl (jsub_c rfl jsub_0)))))))
theorem vc_H_swap_52 {E : EE} {Q : Int → JM → Prop} (x1 : Int) (x2 : Int) (l3 : Int) (l4 : Int) (l5 : Int) (l6 : Int) (M : JM) (h : ((M 3 0 3 ≤ l6 → ∀ a1 : Int, a1 = w32 (l5 + 1) → JG E mm_H_swap Q 34 [(0, vR 0 0), (1, vI x1), (2, vI x2), (3, vI l3), (4, vI l4), (5, vI a1)] [] M) ∧ (l6 < M 3 0 3 → JC E mm_T_copyFrom [vR 3 1, vR 3 0] M (fun a3 M2 => JC E mm_T_changePlaces [vR 3 1, vI l5, vI l6] M2 (fun a5 M4 => JC E mm_T_passWeeks [vR 3 1, vI x1] M4 (fun a7 M6 => JC E mm_T_wagesOfAll [vR 3 1] M6 (fun a9 M8 => ((a9 ≤ l4 → ∀ a10 : Int, a10 = w32 (l6 + 1) → JG E mm_H_swap Q 52 [(0, vR 0 0), (1, vI x1), (2, vI x2), (3, vI l3), (4, vI l4), (5, vI l5), (6, vI a10)] [] M8) ∧ (l4 < a9 → ∀ a11 : Int, a11 = w32 (w32 (10 * l5) + l6) → JC E mm_T_wagesOfAll [vR 3 1] M8 (fun a13 M12 => ∀ a14 : Int, a14 = w32 (l6 + 1) → JG E mm_H_swap Q 52 [(0, vR 0 0), (1, vI x1), (2, vI x2), (3, vI a11), (4, vI a13), (5, vI l5), (6, vI a14)] [] M12)))))))))) : JG E mm_H_swap Q 52 [(0, vR 0 0), (1, vI x1), (2, vI x2), (3, vI l3), (4, vI l4), (5, vI l5), (6, vI l6)] [] M := by
  refine j_iload (j := 6) dd_H_swap_52 rfl ?_
  refine j_aload_n (j := 0) dd_H_swap_54 rfl rfl ?_
  refine gf_0_0 dd_H_swap_55 wd_287 ?_
  refine gf_3_3 dd_H_swap_58 wd_168 ?_
  refine j_icmp_ge (tgt := 130) dd_H_swap_61 (by decide) (fun c => ?_) (fun c => ?_)
  · have h := h.1 c
    refine j_iincN dd_H_swap_130 rfl rfl (fun a1 ea1 => ?_)
    have h := h a1 ea1
    refine j_goto (tgt := 34) dd_H_swap_133 (by decide) ?_
    exact j_jump h (jsub_c rfl (jsub_c rfl (jsub_c rfl (jsub_c rfl (jsub_c rfl (jsub_c rfl jsub_0))))))
  · have h := h.2 c
    refine j_aload_n (j := 0) dd_H_swap_64 rfl rfl ?_
    refine gf_0_1 dd_H_swap_65 wd_288 ?_
    refine j_aload_n (j := 0) dd_H_swap_68 rfl rfl ?_
    refine gf_0_0 dd_H_swap_69 wd_287 ?_
    refine j_cVV (mm' := mm_T_copyFrom) (t := 3) (i := 1) (As := [vR 3 0]) (rest := []) h dd_H_swap_72 (ws5 wd_479 wd_480 wd_481 wd_64 wd_482) nk_T_copyFrom (rok rfl) (by unfold isW; omega) ⟨_, ce_3 _⟩ rfl (Nat.le_of_ble_eq_true rfl) (fun _ => rfl) (fun a3 M2 h => ?_)
    refine j_aload_n (j := 0) dd_H_swap_75 rfl rfl ?_
    refine gf_0_1 dd_H_swap_76 wd_288 ?_
    refine j_iload (j := 5) dd_H_swap_79 rfl ?_
    refine j_iload (j := 6) dd_H_swap_81 rfl ?_
    refine j_cVV (mm' := mm_T_changePlaces) (t := 3) (i := 1) (As := [vI l5, vI l6]) (rest := []) h dd_H_swap_83 (ws5 wd_654 wd_655 wd_656 wd_64 wd_657) nk_T_changePlaces (rok rfl) (by unfold isW; omega) ⟨_, ce_3 _⟩ rfl (Nat.le_of_ble_eq_true rfl) (fun _ => rfl) (fun a5 M4 h => ?_)
    refine j_aload_n (j := 0) dd_H_swap_86 rfl rfl ?_
    refine gf_0_1 dd_H_swap_87 wd_288 ?_
    refine j_iload_n (j := 1) dd_H_swap_90 rfl rfl ?_
    refine j_cVV (mm' := mm_T_passWeeks) (t := 3) (i := 1) (As := [vI x1]) (rest := []) h dd_H_swap_91 (ws5 wd_582 wd_583 wd_584 wd_64 wd_585) nk_T_passWeeks (rok rfl) (by unfold isW; omega) ⟨_, ce_3 _⟩ rfl (Nat.le_of_ble_eq_true rfl) (fun _ => rfl) (fun a7 M6 h => ?_)
    refine j_aload_n (j := 0) dd_H_swap_94 rfl rfl ?_
    refine gf_0_1 dd_H_swap_95 wd_288 ?_
    refine j_cVI (mm' := mm_T_wagesOfAll) (t := 3) (i := 1) (As := []) (rest := []) h dd_H_swap_98 (ws5 wd_504 wd_505 wd_506 wd_64 wd_507) nk_T_wagesOfAll (rok rfl) (by unfold isW; omega) ⟨_, ce_3 _⟩ rfl (Nat.le_of_ble_eq_true rfl) (fun _ => rfl) (fun a9 M8 h => ?_)
    refine j_iload (j := 4) dd_H_swap_101 rfl ?_
    refine j_icmp_le (tgt := 124) dd_H_swap_103 (by decide) (fun c => ?_) (fun c => ?_)
    · have h := h.1 c
      refine j_iincN dd_H_swap_124 rfl rfl (fun a10 ea10 => ?_)
      have h := h a10 ea10
      refine j_goto (tgt := 52) dd_H_swap_127 (by decide) ?_
      exact j_jump h (jsub_c rfl (jsub_c rfl (jsub_c rfl (jsub_c rfl (jsub_c rfl (jsub_c rfl (jsub_c rfl jsub_0)))))))
    · have h := h.2 c
      refine j_bipush dd_H_swap_106 rfl (inRd rfl) ?_
      refine j_iload (j := 5) dd_H_swap_108 rfl ?_
      refine j_imul dd_H_swap_110 ?_
      refine j_iload (j := 6) dd_H_swap_111 rfl ?_
      refine j_iadd dd_H_swap_113 ?_
      refine j_topI (fun a11 ea11 => ?_)
      have h := h a11 ea11
      refine j_istore_n (j := 3) dd_H_swap_114 rfl (by decide) rfl ?_
      refine j_aload_n (j := 0) dd_H_swap_115 rfl rfl ?_
      refine gf_0_1 dd_H_swap_116 wd_288 ?_
      refine j_cVI (mm' := mm_T_wagesOfAll) (t := 3) (i := 1) (As := []) (rest := []) h dd_H_swap_119 (ws5 wd_504 wd_505 wd_506 wd_64 wd_507) nk_T_wagesOfAll (rok rfl) (by unfold isW; omega) ⟨_, ce_3 _⟩ rfl (Nat.le_of_ble_eq_true rfl) (fun _ => rfl) (fun a13 M12 h => ?_)
      refine j_istore (j := 4) dd_H_swap_122 (by decide) rfl ?_
      refine j_iincN dd_H_swap_124 rfl rfl (fun a14 ea14 => ?_)
      have h := h a14 ea14
      refine j_goto (tgt := 52) dd_H_swap_127 (by decide) ?_
      exact j_jump h (jsub_c rfl (jsub_c rfl (jsub_c rfl (jsub_c rfl (jsub_c rfl (jsub_c rfl (jsub_c rfl jsub_0)))))))
theorem vc_H_lose {E : EE} {Q : Int → JM → Prop} (x1 : Int) (x2 : Int) (M : JM) (h : JC E mm_H_within [vI x1, vI 0, vI 60] M (fun a2 M1 => ((a2 = 0 → Q (-1) M1) ∧ (a2 ≠ 0 → JC E mm_H_within [vI x2, vI 0, vI 1] M1 (fun a4 M3 => ((a4 ≠ 0 → JC E mm_H_wagesAsItIs [vR 0 0, vI x1] M3 (fun a6 M5 => JG E mm_H_lose Q 34 [(0, vR 0 0), (1, vI x1), (2, vI x2), (3, vI (-4)), (4, vI a6), (5, vI 0)] [] M5)) ∧ (a4 = 0 → Q (-1) M3))))))) : JC E mm_H_lose [vR 0 0, vI x1, vI x2] M Q := by
  refine j_entry (L0 := [(0, vR 0 0), (1, vI x1), (2, vI x2)]) pn_H (Nat.le_of_ble_eq_true rfl) rfl ?_
  refine j_iload_n (j := 1) dd_H_lose_0 rfl rfl ?_
  refine j_iconst dd_H_lose_1 (inRd rfl) ?_
  refine j_bipush dd_H_lose_2 rfl (inRd rfl) ?_
  refine j_cSI (mm' := mm_H_within) (As := [vI x1, vI 0, vI 60]) (rest := []) h dd_H_lose_4 (ws4 wd_328 wd_329 wd_63 wd_330) nk_H_within (rok rfl) (Nat.le_of_ble_eq_true rfl) (fun _ => rfl) (fun a2 M1 h => ?_)
  refine j_if_eq (tgt := 19) dd_H_lose_7 (by decide) (fun c => ?_) (fun c => ?_)
  · have h := h.1 c
    refine j_iconst dd_H_lose_19 (inRd rfl) ?_
    exact j_iret dd_H_lose_20 rfl h
  · have h := h.2 c
    refine j_iload_n (j := 2) dd_H_lose_10 rfl rfl ?_
    refine j_iconst dd_H_lose_11 (inRd rfl) ?_
    refine j_iconst dd_H_lose_12 (inRd rfl) ?_
    refine j_cSI (mm' := mm_H_within) (As := [vI x2, vI 0, vI 1]) (rest := []) h dd_H_lose_13 (ws4 wd_328 wd_329 wd_63 wd_330) nk_H_within (rok rfl) (Nat.le_of_ble_eq_true rfl) (fun _ => rfl) (fun a4 M3 h => ?_)
    refine j_if_ne (tgt := 21) dd_H_lose_16 (by decide) (fun c => ?_) (fun c => ?_)
    · have h := h.1 c
      refine j_bipush dd_H_lose_21 rfl (inRd rfl) ?_
      refine j_istore_n (j := 3) dd_H_lose_23 rfl (by decide) rfl ?_
      refine j_aload_n (j := 0) dd_H_lose_24 rfl rfl ?_
      refine j_iload_n (j := 1) dd_H_lose_25 rfl rfl ?_
      refine j_cVI (mm' := mm_H_wagesAsItIs) (t := 0) (i := 0) (As := [vI x1]) (rest := []) h dd_H_lose_26 (ws5 wd_650 wd_652 wd_17 wd_63 wd_653) nk_H_wagesAsItIs (rok rfl) (by unfold isW; omega) ⟨_, ce_0 _⟩ rfl (Nat.le_of_ble_eq_true rfl) (fun _ => rfl) (fun a6 M5 h => ?_)
      refine j_istore (j := 4) dd_H_lose_29 (by decide) rfl ?_
      refine j_iconst dd_H_lose_31 (inRd rfl) ?_
      refine j_istore (j := 5) dd_H_lose_32 (by decide) rfl ?_
      exact j_jump h (jsub_c rfl (jsub_c rfl (jsub_c rfl (jsub_c rfl (jsub_c rfl (jsub_c rfl jsub_0))))))
    · have h := h.2 c
      refine j_iconst dd_H_lose_19 (inRd rfl) ?_
      exact j_iret dd_H_lose_20 rfl h
theorem vc_H_lose_34 {E : EE} {Q : Int → JM → Prop} (x1 : Int) (x2 : Int) (l3 : Int) (l4 : Int) (l5 : Int) (M : JM) (h : ((M 3 0 2 ≤ l5 → JC E mm_H_bestOrMore [vR 0 0, vI l3, vI l4, vI x2] M (fun a2 M1 => Q a2 M1)) ∧ (l5 < M 3 0 2 → (0 ≤ l5 ∧ l5 < 8) ∧ ((M 1 (8 * 0 + l5.toNat) 5 ≠ 0 → ∀ a3 : Int, a3 = w32 (l5 + 1) → JG E mm_H_lose Q 34 [(0, vR 0 0), (1, vI x1), (2, vI x2), (3, vI l3), (4, vI l4), (5, vI a3)] [] M) ∧ (M 1 (8 * 0 + l5.toNat) 5 = 0 → JC E mm_T_copyFrom [vR 3 1, vR 3 0] M (fun a5 M4 => (0 ≤ l5 ∧ l5 < 8) ∧ ∀ M6 : JM, M6 = pt M4 1 (8 * 1 + l5.toNat) 5 1 → JC E mm_T_passWeeks [vR 3 1, vI x1] M6 (fun a8 M7 => JC E mm_T_wagesOfAll [vR 3 1] M7 (fun a10 M9 => ((a10 ≤ l4 → ∀ a11 : Int, a11 = w32 (l5 + 1) → JG E mm_H_lose Q 34 [(0, vR 0 0), (1, vI x1), (2, vI x2), (3, vI l3), (4, vI l4), (5, vI a11)] [] M9) ∧ (l4 < a10 → JC E mm_T_wagesOfAll [vR 3 1] M9 (fun a13 M12 => ∀ a14 : Int, a14 = w32 (l5 + 1) → JG E mm_H_lose Q 34 [(0, vR 0 0), (1, vI x1), (2, vI x2), (3, vI l5), (4, vI a13), (5, vI a14)] [] M12))))))))))) : JG E mm_H_lose Q 34 [(0, vR 0 0), (1, vI x1), (2, vI x2), (3, vI l3), (4, vI l4), (5, vI l5)] [] M := by
  refine j_iload (j := 5) dd_H_lose_34 rfl ?_
  refine j_aload_n (j := 0) dd_H_lose_36 rfl rfl ?_
  refine gf_0_0 dd_H_lose_37 wd_287 ?_
  refine gf_3_2 dd_H_lose_40 wd_165 ?_
  refine j_icmp_ge (tgt := 125) dd_H_lose_43 (by decide) (fun c => ?_) (fun c => ?_)
  · have h := h.1 c
    refine j_aload_n (j := 0) dd_H_lose_125 rfl rfl ?_
    refine j_iload_n (j := 3) dd_H_lose_126 rfl rfl ?_
    refine j_iload (j := 4) dd_H_lose_127 rfl ?_
    refine j_iload_n (j := 2) dd_H_lose_129 rfl rfl ?_
    refine j_cVI (mm' := mm_H_bestOrMore) (t := 0) (i := 0) (As := [vI l3, vI l4, vI x2]) (rest := []) h dd_H_lose_130 (ws5 wd_658 wd_660 wd_18 wd_63 wd_661) nk_H_bestOrMore (rok rfl) (by unfold isW; omega) ⟨_, ce_0 _⟩ rfl (Nat.le_of_ble_eq_true rfl) (fun _ => rfl) (fun a2 M1 h => ?_)
    exact j_iret dd_H_lose_133 rfl h
  · have h := h.2 c
    refine j_aload_n (j := 0) dd_H_lose_46 rfl rfl ?_
    refine gf_0_0 dd_H_lose_47 wd_287 ?_
    refine gf_3_0 dd_H_lose_50 wd_160 ?_
    refine j_iload (j := 5) dd_H_lose_53 rfl ?_
    refine ld_4 dd_H_lose_55 h.1 ?_
    have h := h.2
    refine gf_1_5 dd_H_lose_56 wd_115 ?_
    refine j_if_ne (tgt := 119) dd_H_lose_59 (by decide) (fun c => ?_) (fun c => ?_)
    · have h := h.1 c
      refine j_iincN dd_H_lose_119 rfl rfl (fun a3 ea3 => ?_)
      have h := h a3 ea3
      refine j_goto (tgt := 34) dd_H_lose_122 (by decide) ?_
      exact j_jump h (jsub_c rfl (jsub_c rfl (jsub_c rfl (jsub_c rfl (jsub_c rfl (jsub_c rfl jsub_0))))))
    · have h := h.2 c
      refine j_aload_n (j := 0) dd_H_lose_62 rfl rfl ?_
      refine gf_0_1 dd_H_lose_63 wd_288 ?_
      refine j_aload_n (j := 0) dd_H_lose_66 rfl rfl ?_
      refine gf_0_0 dd_H_lose_67 wd_287 ?_
      refine j_cVV (mm' := mm_T_copyFrom) (t := 3) (i := 1) (As := [vR 3 0]) (rest := []) h dd_H_lose_70 (ws5 wd_479 wd_480 wd_481 wd_64 wd_482) nk_T_copyFrom (rok rfl) (by unfold isW; omega) ⟨_, ce_3 _⟩ rfl (Nat.le_of_ble_eq_true rfl) (fun _ => rfl) (fun a5 M4 h => ?_)
      refine j_aload_n (j := 0) dd_H_lose_73 rfl rfl ?_
      refine gf_0_1 dd_H_lose_74 wd_288 ?_
      refine gf_3_0 dd_H_lose_77 wd_160 ?_
      refine j_iload (j := 5) dd_H_lose_80 rfl ?_
      refine ld_4 dd_H_lose_82 h.1 ?_
      have h := h.2
      refine j_iconst dd_H_lose_83 (inRd rfl) ?_
      refine pf_1_5 dd_H_lose_84 wd_115 (Or.inr rfl) (fun M6 eM6 => ?_)
      have h := h M6 eM6
      refine j_aload_n (j := 0) dd_H_lose_87 rfl rfl ?_
      refine gf_0_1 dd_H_lose_88 wd_288 ?_
      refine j_iload_n (j := 1) dd_H_lose_91 rfl rfl ?_
      refine j_cVV (mm' := mm_T_passWeeks) (t := 3) (i := 1) (As := [vI x1]) (rest := []) h dd_H_lose_92 (ws5 wd_582 wd_583 wd_584 wd_64 wd_585) nk_T_passWeeks (rok rfl) (by unfold isW; omega) ⟨_, ce_3 _⟩ rfl (Nat.le_of_ble_eq_true rfl) (fun _ => rfl) (fun a8 M7 h => ?_)
      refine j_aload_n (j := 0) dd_H_lose_95 rfl rfl ?_
      refine gf_0_1 dd_H_lose_96 wd_288 ?_
      refine j_cVI (mm' := mm_T_wagesOfAll) (t := 3) (i := 1) (As := []) (rest := []) h dd_H_lose_99 (ws5 wd_504 wd_505 wd_506 wd_64 wd_507) nk_T_wagesOfAll (rok rfl) (by unfold isW; omega) ⟨_, ce_3 _⟩ rfl (Nat.le_of_ble_eq_true rfl) (fun _ => rfl) (fun a10 M9 h => ?_)
      refine j_iload (j := 4) dd_H_lose_102 rfl ?_
      refine j_icmp_le (tgt := 119) dd_H_lose_104 (by decide) (fun c => ?_) (fun c => ?_)
      · have h := h.1 c
        refine j_iincN dd_H_lose_119 rfl rfl (fun a11 ea11 => ?_)
        have h := h a11 ea11
        refine j_goto (tgt := 34) dd_H_lose_122 (by decide) ?_
        exact j_jump h (jsub_c rfl (jsub_c rfl (jsub_c rfl (jsub_c rfl (jsub_c rfl (jsub_c rfl jsub_0))))))
      · have h := h.2 c
        refine j_iload (j := 5) dd_H_lose_107 rfl ?_
        refine j_istore_n (j := 3) dd_H_lose_109 rfl (by decide) rfl ?_
        refine j_aload_n (j := 0) dd_H_lose_110 rfl rfl ?_
        refine gf_0_1 dd_H_lose_111 wd_288 ?_
        refine j_cVI (mm' := mm_T_wagesOfAll) (t := 3) (i := 1) (As := []) (rest := []) h dd_H_lose_114 (ws5 wd_504 wd_505 wd_506 wd_64 wd_507) nk_T_wagesOfAll (rok rfl) (by unfold isW; omega) ⟨_, ce_3 _⟩ rfl (Nat.le_of_ble_eq_true rfl) (fun _ => rfl) (fun a13 M12 h => ?_)
        refine j_istore (j := 4) dd_H_lose_117 (by decide) rfl ?_
        refine j_iincN dd_H_lose_119 rfl rfl (fun a14 ea14 => ?_)
        have h := h a14 ea14
        refine j_goto (tgt := 34) dd_H_lose_122 (by decide) ?_
        exact j_jump h (jsub_c rfl (jsub_c rfl (jsub_c rfl (jsub_c rfl (jsub_c rfl (jsub_c rfl jsub_0))))))
theorem vc_H_price {E : EE} {Q : Int → JM → Prop} (x1 : Int) (M : JM) (h : JC E mm_H_isGood [vR 0 0, vI x1] M (fun a2 M1 => ((a2 ≠ 0 → JG E mm_H_price Q 12 [(0, vR 0 0), (1, vI x1), (2, vI 0)] [] M1) ∧ (a2 = 0 → Q (-1) M1)))) : JC E mm_H_price [vR 0 0, vI x1] M Q := by
  refine j_entry (L0 := [(0, vR 0 0), (1, vI x1)]) pn_H (Nat.le_of_ble_eq_true rfl) rfl ?_
  refine j_aload_n (j := 0) dd_H_price_0 rfl rfl ?_
  refine j_iload_n (j := 1) dd_H_price_1 rfl rfl ?_
  refine j_cVI (mm' := mm_H_isGood) (t := 0) (i := 0) (As := [vI x1]) (rest := []) h dd_H_price_2 (ws5 wd_512 wd_514 wd_13 wd_63 wd_515) nk_H_isGood (rok rfl) (by unfold isW; omega) ⟨_, ce_0 _⟩ rfl (Nat.le_of_ble_eq_true rfl) (fun _ => rfl) (fun a2 M1 h => ?_)
  refine j_if_ne (tgt := 10) dd_H_price_5 (by decide) (fun c => ?_) (fun c => ?_)
  · have h := h.1 c
    refine j_iconst dd_H_price_10 (inRd rfl) ?_
    refine j_istore_n (j := 2) dd_H_price_11 rfl (by decide) rfl ?_
    exact j_jump h (jsub_c rfl (jsub_c rfl (jsub_c rfl jsub_0)))
  · have h := h.2 c
    refine j_iconst dd_H_price_8 (inRd rfl) ?_
    exact j_iret dd_H_price_9 rfl h
theorem vc_H_price_12 {E : EE} {Q : Int → JM → Prop} (x1 : Int) (l2 : Int) (M : JM) (h : ((9 < l2 → Q (-4) M) ∧ (l2 ≤ 9 → JC E mm_T_copyFrom [vR 3 1, vR 3 0] M (fun a2 M1 => (0 ≤ x1 ∧ x1 < 8) ∧ (0 ≤ x1 ∧ x1 < 8) ∧ (0 ≤ x1 ∧ x1 < 8) ∧ JC E mm_G_become [vR 1 (8 * 1 + x1.toNat), vI (M1 1 (8 * 0 + x1.toNat) 0), vI (M1 1 (8 * 0 + x1.toNat) 1), vI l2] M1 (fun a4 M3 => JC E mm_T_carryOut [vR 3 1, vI 0] M3 (fun a6 M5 => JC E mm_H_hasBit [vI (M5 3 1 7), vI x1] M5 (fun a8 M7 => ((a8 = 0 → ∀ a9 : Int, a9 = w32 (l2 + 1) → JG E mm_H_price Q 12 [(0, vR 0 0), (1, vI x1), (2, vI a9)] [] M7) ∧ (a8 ≠ 0 → Q l2 M7))))))))) : JG E mm_H_price Q 12 [(0, vR 0 0), (1, vI x1), (2, vI l2)] [] M := by
  refine j_iload_n (j := 2) dd_H_price_12 rfl rfl ?_
  refine j_bipush dd_H_price_13 rfl (inRd rfl) ?_
  refine j_icmp_gt (tgt := 96) dd_H_price_15 (by decide) (fun c => ?_) (fun c => ?_)
  · have h := h.1 c
    refine j_bipush dd_H_price_96 rfl (inRd rfl) ?_
    exact j_iret dd_H_price_98 rfl h
  · have h := h.2 c
    refine j_aload_n (j := 0) dd_H_price_18 rfl rfl ?_
    refine gf_0_1 dd_H_price_19 wd_288 ?_
    refine j_aload_n (j := 0) dd_H_price_22 rfl rfl ?_
    refine gf_0_0 dd_H_price_23 wd_287 ?_
    refine j_cVV (mm' := mm_T_copyFrom) (t := 3) (i := 1) (As := [vR 3 0]) (rest := []) h dd_H_price_26 (ws5 wd_479 wd_480 wd_481 wd_64 wd_482) nk_T_copyFrom (rok rfl) (by unfold isW; omega) ⟨_, ce_3 _⟩ rfl (Nat.le_of_ble_eq_true rfl) (fun _ => rfl) (fun a2 M1 h => ?_)
    refine j_aload_n (j := 0) dd_H_price_29 rfl rfl ?_
    refine gf_0_1 dd_H_price_30 wd_288 ?_
    refine gf_3_0 dd_H_price_33 wd_160 ?_
    refine j_iload_n (j := 1) dd_H_price_36 rfl rfl ?_
    refine ld_4 dd_H_price_37 h.1 ?_
    have h := h.2
    refine j_aload_n (j := 0) dd_H_price_38 rfl rfl ?_
    refine gf_0_0 dd_H_price_39 wd_287 ?_
    refine gf_3_0 dd_H_price_42 wd_160 ?_
    refine j_iload_n (j := 1) dd_H_price_45 rfl rfl ?_
    refine ld_4 dd_H_price_46 h.1 ?_
    have h := h.2
    refine gf_1_0 dd_H_price_47 wd_101 ?_
    refine j_aload_n (j := 0) dd_H_price_50 rfl rfl ?_
    refine gf_0_0 dd_H_price_51 wd_287 ?_
    refine gf_3_0 dd_H_price_54 wd_160 ?_
    refine j_iload_n (j := 1) dd_H_price_57 rfl rfl ?_
    refine ld_4 dd_H_price_58 h.1 ?_
    have h := h.2
    refine gf_1_1 dd_H_price_59 wd_103 ?_
    refine j_iload_n (j := 2) dd_H_price_62 rfl rfl ?_
    refine j_cVV (mm' := mm_G_become) (t := 1) (i := (8 * 1 + x1.toNat)) (As := [vI (M1 1 (8 * 0 + x1.toNat) 0), vI (M1 1 (8 * 0 + x1.toNat) 1), vI l2]) (rest := []) h dd_H_price_63 (ws5 wd_546 wd_457 wd_458 wd_65 wd_459) nk_G_become (rok rfl) (by unfold isW; omega) ⟨_, ce_1 _⟩ rfl (Nat.le_of_ble_eq_true rfl) (fun _ => rfl) (fun a4 M3 h => ?_)
    refine j_aload_n (j := 0) dd_H_price_66 rfl rfl ?_
    refine gf_0_1 dd_H_price_67 wd_288 ?_
    refine j_iconst dd_H_price_70 (inRd rfl) ?_
    refine j_cVV (mm' := mm_T_carryOut) (t := 3) (i := 1) (As := [vI 0]) (rest := []) h dd_H_price_71 (ws5 wd_524 wd_525 wd_526 wd_64 wd_527) nk_T_carryOut (rok rfl) (by unfold isW; omega) ⟨_, ce_3 _⟩ rfl (Nat.le_of_ble_eq_true rfl) (fun _ => rfl) (fun a6 M5 h => ?_)
    refine j_aload_n (j := 0) dd_H_price_74 rfl rfl ?_
    refine gf_0_1 dd_H_price_75 wd_288 ?_
    refine gf_3_7 dd_H_price_78 wd_178 ?_
    refine j_iload_n (j := 1) dd_H_price_81 rfl rfl ?_
    refine j_cSI (mm' := mm_H_hasBit) (As := [vI (M5 3 1 7), vI x1]) (rest := []) h dd_H_price_82 (ws4 wd_621 wd_533 wd_63 wd_534) nk_H_hasBit (rok rfl) (Nat.le_of_ble_eq_true rfl) (fun _ => rfl) (fun a8 M7 h => ?_)
    refine j_if_eq (tgt := 90) dd_H_price_85 (by decide) (fun c => ?_) (fun c => ?_)
    · have h := h.1 c
      refine j_iincN dd_H_price_90 rfl rfl (fun a9 ea9 => ?_)
      have h := h a9 ea9
      refine j_goto (tgt := 12) dd_H_price_93 (by decide) ?_
      exact j_jump h (jsub_c rfl (jsub_c rfl (jsub_c rfl jsub_0)))
    · have h := h.2 c
      refine j_iload_n (j := 2) dd_H_price_88 rfl rfl ?_
      exact j_iret dd_H_price_89 rfl h
theorem vc_H_kind {E : EE} {Q : Int → JM → Prop} (x1 : Int) (x2 : Int) (x3 : Int) (M : JM) (h : JC E mm_H_isGood [vR 0 0, vI x1] M (fun a2 M1 => ((a2 = 0 → Q (-1) M1) ∧ (a2 ≠ 0 → JC E mm_H_within [vI x2, vI 0, vI 60] M1 (fun a4 M3 => ((a4 = 0 → Q (-1) M3) ∧ (a4 ≠ 0 → JC E mm_H_within [vI x3, vI 0, vI 1] M3 (fun a6 M5 => ((a6 ≠ 0 → JG E mm_H_kind Q 39 [(0, vR 0 0), (1, vI x1), (2, vI x2), (3, vI x3), (4, vI (-4)), (5, vI (-1)), (6, vI 0)] [] M5) ∧ (a6 = 0 → Q (-1) M5)))))))))) : JC E mm_H_kind [vR 0 0, vI x1, vI x2, vI x3] M Q := by
  refine j_entry (L0 := [(0, vR 0 0), (1, vI x1), (2, vI x2), (3, vI x3)]) pn_H (Nat.le_of_ble_eq_true rfl) rfl ?_
  refine j_aload_n (j := 0) dd_H_kind_0 rfl rfl ?_
  refine j_iload_n (j := 1) dd_H_kind_1 rfl rfl ?_
  refine j_cVI (mm' := mm_H_isGood) (t := 0) (i := 0) (As := [vI x1]) (rest := []) h dd_H_kind_2 (ws5 wd_512 wd_514 wd_13 wd_63 wd_515) nk_H_isGood (rok rfl) (by unfold isW; omega) ⟨_, ce_0 _⟩ rfl (Nat.le_of_ble_eq_true rfl) (fun _ => rfl) (fun a2 M1 h => ?_)
  refine j_if_eq (tgt := 27) dd_H_kind_5 (by decide) (fun c => ?_) (fun c => ?_)
  · have h := h.1 c
    refine j_iconst dd_H_kind_27 (inRd rfl) ?_
    exact j_iret dd_H_kind_28 rfl h
  · have h := h.2 c
    refine j_iload_n (j := 2) dd_H_kind_8 rfl rfl ?_
    refine j_iconst dd_H_kind_9 (inRd rfl) ?_
    refine j_bipush dd_H_kind_10 rfl (inRd rfl) ?_
    refine j_cSI (mm' := mm_H_within) (As := [vI x2, vI 0, vI 60]) (rest := []) h dd_H_kind_12 (ws4 wd_328 wd_329 wd_63 wd_330) nk_H_within (rok rfl) (Nat.le_of_ble_eq_true rfl) (fun _ => rfl) (fun a4 M3 h => ?_)
    refine j_if_eq (tgt := 27) dd_H_kind_15 (by decide) (fun c => ?_) (fun c => ?_)
    · have h := h.1 c
      refine j_iconst dd_H_kind_27 (inRd rfl) ?_
      exact j_iret dd_H_kind_28 rfl h
    · have h := h.2 c
      refine j_iload_n (j := 3) dd_H_kind_18 rfl rfl ?_
      refine j_iconst dd_H_kind_19 (inRd rfl) ?_
      refine j_iconst dd_H_kind_20 (inRd rfl) ?_
      refine j_cSI (mm' := mm_H_within) (As := [vI x3, vI 0, vI 1]) (rest := []) h dd_H_kind_21 (ws4 wd_328 wd_329 wd_63 wd_330) nk_H_within (rok rfl) (Nat.le_of_ble_eq_true rfl) (fun _ => rfl) (fun a6 M5 h => ?_)
      refine j_if_ne (tgt := 29) dd_H_kind_24 (by decide) (fun c => ?_) (fun c => ?_)
      · have h := h.1 c
        refine j_bipush dd_H_kind_29 rfl (inRd rfl) ?_
        refine j_istore (j := 4) dd_H_kind_31 (by decide) rfl ?_
        refine j_iconst dd_H_kind_33 (inRd rfl) ?_
        refine j_istore (j := 5) dd_H_kind_34 (by decide) rfl ?_
        refine j_iconst dd_H_kind_36 (inRd rfl) ?_
        refine j_istore (j := 6) dd_H_kind_37 (by decide) rfl ?_
        exact j_jump h (jsub_c rfl (jsub_c rfl (jsub_c rfl (jsub_c rfl (jsub_c rfl (jsub_c rfl (jsub_c rfl jsub_0)))))))
      · have h := h.2 c
        refine j_iconst dd_H_kind_27 (inRd rfl) ?_
        exact j_iret dd_H_kind_28 rfl h
theorem vc_H_kind_39 {E : EE} {Q : Int → JM → Prop} (x1 : Int) (x2 : Int) (x3 : Int) (l4 : Int) (l5 : Int) (l6 : Int) (M : JM) (h : ((3 < l6 → JC E mm_H_bestOrMore [vR 0 0, vI l4, vI l5, vI x3] M (fun a2 M1 => Q a2 M1)) ∧ (l6 ≤ 3 → JC E mm_H_tryKind [vR 0 0, vI x1, vI l6] M (fun a4 M3 => JC E mm_T_passWeeks [vR 3 1, vI x2] M3 (fun a6 M5 => JC E mm_T_wagesOfAll [vR 3 1] M5 (fun a8 M7 => ((a8 ≤ l5 → ∀ a9 : Int, a9 = w32 (l6 + 1) → JG E mm_H_kind Q 39 [(0, vR 0 0), (1, vI x1), (2, vI x2), (3, vI x3), (4, vI l4), (5, vI l5), (6, vI a9)] [] M7) ∧ (l5 < a8 → JC E mm_T_wagesOfAll [vR 3 1] M7 (fun a11 M10 => ∀ a12 : Int, a12 = w32 (l6 + 1) → JG E mm_H_kind Q 39 [(0, vR 0 0), (1, vI x1), (2, vI x2), (3, vI x3), (4, vI l6), (5, vI a11), (6, vI a12)] [] M10))))))))) : JG E mm_H_kind Q 39 [(0, vR 0 0), (1, vI x1), (2, vI x2), (3, vI x3), (4, vI l4), (5, vI l5), (6, vI l6)] [] M := by
  refine j_iload (j := 6) dd_H_kind_39 rfl ?_
  refine j_iconst dd_H_kind_41 (inRd rfl) ?_
  refine j_icmp_gt (tgt := 91) dd_H_kind_42 (by decide) (fun c => ?_) (fun c => ?_)
  · have h := h.1 c
    refine j_aload_n (j := 0) dd_H_kind_91 rfl rfl ?_
    refine j_iload (j := 4) dd_H_kind_92 rfl ?_
    refine j_iload (j := 5) dd_H_kind_94 rfl ?_
    refine j_iload_n (j := 3) dd_H_kind_96 rfl rfl ?_
    refine j_cVI (mm' := mm_H_bestOrMore) (t := 0) (i := 0) (As := [vI l4, vI l5, vI x3]) (rest := []) h dd_H_kind_97 (ws5 wd_658 wd_660 wd_18 wd_63 wd_661) nk_H_bestOrMore (rok rfl) (by unfold isW; omega) ⟨_, ce_0 _⟩ rfl (Nat.le_of_ble_eq_true rfl) (fun _ => rfl) (fun a2 M1 h => ?_)
    exact j_iret dd_H_kind_100 rfl h
  · have h := h.2 c
    refine j_aload_n (j := 0) dd_H_kind_45 rfl rfl ?_
    refine j_iload_n (j := 1) dd_H_kind_46 rfl rfl ?_
    refine j_iload (j := 6) dd_H_kind_47 rfl ?_
    refine j_cVV (mm' := mm_H_tryKind) (t := 0) (i := 0) (As := [vI x1, vI l6]) (rest := []) h dd_H_kind_49 (ws5 wd_674 wd_676 wd_19 wd_63 wd_677) nk_H_tryKind (rok rfl) (by unfold isW; omega) ⟨_, ce_0 _⟩ rfl (Nat.le_of_ble_eq_true rfl) (fun _ => rfl) (fun a4 M3 h => ?_)
    refine j_aload_n (j := 0) dd_H_kind_52 rfl rfl ?_
    refine gf_0_1 dd_H_kind_53 wd_288 ?_
    refine j_iload_n (j := 2) dd_H_kind_56 rfl rfl ?_
    refine j_cVV (mm' := mm_T_passWeeks) (t := 3) (i := 1) (As := [vI x2]) (rest := []) h dd_H_kind_57 (ws5 wd_582 wd_583 wd_584 wd_64 wd_585) nk_T_passWeeks (rok rfl) (by unfold isW; omega) ⟨_, ce_3 _⟩ rfl (Nat.le_of_ble_eq_true rfl) (fun _ => rfl) (fun a6 M5 h => ?_)
    refine j_aload_n (j := 0) dd_H_kind_60 rfl rfl ?_
    refine gf_0_1 dd_H_kind_61 wd_288 ?_
    refine j_cVI (mm' := mm_T_wagesOfAll) (t := 3) (i := 1) (As := []) (rest := []) h dd_H_kind_64 (ws5 wd_504 wd_505 wd_506 wd_64 wd_507) nk_T_wagesOfAll (rok rfl) (by unfold isW; omega) ⟨_, ce_3 _⟩ rfl (Nat.le_of_ble_eq_true rfl) (fun _ => rfl) (fun a8 M7 h => ?_)
    refine j_iload (j := 5) dd_H_kind_67 rfl ?_
    refine j_icmp_le (tgt := 85) dd_H_kind_69 (by decide) (fun c => ?_) (fun c => ?_)
    · have h := h.1 c
      refine j_iincN dd_H_kind_85 rfl rfl (fun a9 ea9 => ?_)
      have h := h a9 ea9
      refine j_goto (tgt := 39) dd_H_kind_88 (by decide) ?_
      exact j_jump h (jsub_c rfl (jsub_c rfl (jsub_c rfl (jsub_c rfl (jsub_c rfl (jsub_c rfl (jsub_c rfl jsub_0)))))))
    · have h := h.2 c
      refine j_iload (j := 6) dd_H_kind_72 rfl ?_
      refine j_istore (j := 4) dd_H_kind_74 (by decide) rfl ?_
      refine j_aload_n (j := 0) dd_H_kind_76 rfl rfl ?_
      refine gf_0_1 dd_H_kind_77 wd_288 ?_
      refine j_cVI (mm' := mm_T_wagesOfAll) (t := 3) (i := 1) (As := []) (rest := []) h dd_H_kind_80 (ws5 wd_504 wd_505 wd_506 wd_64 wd_507) nk_T_wagesOfAll (rok rfl) (by unfold isW; omega) ⟨_, ce_3 _⟩ rfl (Nat.le_of_ble_eq_true rfl) (fun _ => rfl) (fun a11 M10 h => ?_)
      refine j_istore (j := 5) dd_H_kind_83 (by decide) rfl ?_
      refine j_iincN dd_H_kind_85 rfl rfl (fun a12 ea12 => ?_)
      have h := h a12 ea12
      refine j_goto (tgt := 39) dd_H_kind_88 (by decide) ?_
      exact j_jump h (jsub_c rfl (jsub_c rfl (jsub_c rfl (jsub_c rfl (jsub_c rfl (jsub_c rfl (jsub_c rfl jsub_0)))))))
theorem vc_H_luck {E : EE} {Q : Int → JM → Prop} (x1 : Int) (x2 : Int) (x3 : Int) (M : JM) (h : JC E mm_H_within [vI x1, vI 0, vI 10] M (fun a2 M1 => ((a2 = 0 → Q (-1) M1) ∧ (a2 ≠ 0 → JC E mm_H_isGood [vR 0 0, vI x2] M1 (fun a4 M3 => ((a4 = 0 → Q (-1) M3) ∧ (a4 ≠ 0 → JC E mm_H_within [vI x3, vI 0, vI 1] M3 (fun a6 M5 => ((a6 ≠ 0 → JG E mm_H_luck Q 37 [(0, vR 0 0), (1, vI x1), (2, vI x2), (3, vI x3), (4, vL 0), (6, vI 0)] [] M5) ∧ (a6 = 0 → Q (-1) M5)))))))))) : JC E mm_H_luck [vR 0 0, vI x1, vI x2, vI x3] M Q := by
  refine j_entry (L0 := [(0, vR 0 0), (1, vI x1), (2, vI x2), (3, vI x3)]) pn_H (Nat.le_of_ble_eq_true rfl) rfl ?_
  refine j_iload_n (j := 1) dd_H_luck_0 rfl rfl ?_
  refine j_iconst dd_H_luck_1 (inRd rfl) ?_
  refine j_bipush dd_H_luck_2 rfl (inRd rfl) ?_
  refine j_cSI (mm' := mm_H_within) (As := [vI x1, vI 0, vI 10]) (rest := []) h dd_H_luck_4 (ws4 wd_328 wd_329 wd_63 wd_330) nk_H_within (rok rfl) (Nat.le_of_ble_eq_true rfl) (fun _ => rfl) (fun a2 M1 h => ?_)
  refine j_if_eq (tgt := 27) dd_H_luck_7 (by decide) (fun c => ?_) (fun c => ?_)
  · have h := h.1 c
    refine j_ldc2 (x := (-1)) dd_H_luck_27 wd_682 rfl (inLd rfl) ?_
    exact j_lret dd_H_luck_30 rfl h
  · have h := h.2 c
    refine j_aload_n (j := 0) dd_H_luck_10 rfl rfl ?_
    refine j_iload_n (j := 2) dd_H_luck_11 rfl rfl ?_
    refine j_cVI (mm' := mm_H_isGood) (t := 0) (i := 0) (As := [vI x2]) (rest := []) h dd_H_luck_12 (ws5 wd_512 wd_514 wd_13 wd_63 wd_515) nk_H_isGood (rok rfl) (by unfold isW; omega) ⟨_, ce_0 _⟩ rfl (Nat.le_of_ble_eq_true rfl) (fun _ => rfl) (fun a4 M3 h => ?_)
    refine j_if_eq (tgt := 27) dd_H_luck_15 (by decide) (fun c => ?_) (fun c => ?_)
    · have h := h.1 c
      refine j_ldc2 (x := (-1)) dd_H_luck_27 wd_682 rfl (inLd rfl) ?_
      exact j_lret dd_H_luck_30 rfl h
    · have h := h.2 c
      refine j_iload_n (j := 3) dd_H_luck_18 rfl rfl ?_
      refine j_iconst dd_H_luck_19 (inRd rfl) ?_
      refine j_iconst dd_H_luck_20 (inRd rfl) ?_
      refine j_cSI (mm' := mm_H_within) (As := [vI x3, vI 0, vI 1]) (rest := []) h dd_H_luck_21 (ws4 wd_328 wd_329 wd_63 wd_330) nk_H_within (rok rfl) (Nat.le_of_ble_eq_true rfl) (fun _ => rfl) (fun a6 M5 h => ?_)
      refine j_if_ne (tgt := 31) dd_H_luck_24 (by decide) (fun c => ?_) (fun c => ?_)
      · have h := h.1 c
        refine j_lconst (x := 0) dd_H_luck_31 rfl (inLd rfl) ?_
        refine j_lstore (j := 4) dd_H_luck_32 (by decide) rfl rfl ?_
        refine j_iconst dd_H_luck_34 (inRd rfl) ?_
        refine j_istore (j := 6) dd_H_luck_35 (by decide) rfl ?_
        exact j_jump h (jsub_c rfl (jsub_c rfl (jsub_c rfl (jsub_c rfl (jsub_c rfl (jsub_c rfl jsub_0))))))
      · have h := h.2 c
        refine j_ldc2 (x := (-1)) dd_H_luck_27 wd_682 rfl (inLd rfl) ?_
        exact j_lret dd_H_luck_30 rfl h
theorem vc_H_luck_37 {E : EE} {Q : Int → JM → Prop} (x1 : Int) (x2 : Int) (x3 : Int) (l4 : Int) (l6 : Int) (M : JM) (h : JC E mm_H_illnesses [vR 0 0] M (fun a2 M1 => ((a2 ≤ l6 → JC E mm_H_allWaysOfIllness [vR 0 0] M1 (fun a4 M3 => JC E mm_H_partOfFraction [vL l4, vL a4, vI x3] M3 (fun a6 M5 => Q a6 M5))) ∧ (l6 < a2 → JC E mm_T_copyFrom [vR 3 1, vR 3 0] M1 (fun a8 M7 => JC E mm_T_carryOut [vR 3 1, vI l6] M7 (fun a10 M9 => JC E mm_H_hasBit [vI (M9 3 1 7), vI x2] M9 (fun a12 M11 => ((a12 = 0 → ∀ a13 : Int, a13 = w32 (l6 + 1) → JG E mm_H_luck Q 37 [(0, vR 0 0), (1, vI x1), (2, vI x2), (3, vI x3), (4, vL l4), (6, vI a13)] [] M11) ∧ (a12 ≠ 0 → JC E mm_H_waysOfIllness [vR 0 0, vI x1, vI l6] M11 (fun a15 M14 => ∀ a16 : Int, a16 = w64 (l4 + a15) → ∀ a17 : Int, a17 = w32 (l6 + 1) → JG E mm_H_luck Q 37 [(0, vR 0 0), (1, vI x1), (2, vI x2), (3, vI x3), (4, vL a16), (6, vI a17)] [] M14)))))))))) : JG E mm_H_luck Q 37 [(0, vR 0 0), (1, vI x1), (2, vI x2), (3, vI x3), (4, vL l4), (6, vI l6)] [] M := by
  refine j_iload (j := 6) dd_H_luck_37 rfl ?_
  refine j_aload_n (j := 0) dd_H_luck_39 rfl rfl ?_
  refine j_cVI (mm' := mm_H_illnesses) (t := 0) (i := 0) (As := []) (rest := [vI l6]) h dd_H_luck_40 (ws5 wd_683 wd_685 wd_20 wd_63 wd_686) nk_H_illnesses (rok rfl) (by unfold isW; omega) ⟨_, ce_0 _⟩ rfl (Nat.le_of_ble_eq_true rfl) (fun _ => rfl) (fun a2 M1 h => ?_)
  refine j_icmp_ge (tgt := 98) dd_H_luck_43 (by decide) (fun c => ?_) (fun c => ?_)
  · have h := h.1 c
    refine j_lload (j := 4) dd_H_luck_98 rfl ?_
    refine j_aload_n (j := 0) dd_H_luck_100 rfl rfl ?_
    refine j_cVL (mm' := mm_H_allWaysOfIllness) (t := 0) (i := 0) (As := []) (rest := [vL l4]) h dd_H_luck_101 (ws5 wd_691 wd_693 wd_22 wd_63 wd_694) nk_H_allWaysOfIllness (rok rfl) (by unfold isW; omega) ⟨_, ce_0 _⟩ rfl (Nat.le_of_ble_eq_true rfl) (fun _ => rfl) (fun a4 M3 h => ?_)
    refine j_iload_n (j := 3) dd_H_luck_104 rfl rfl ?_
    refine j_cSL (mm' := mm_H_partOfFraction) (As := [vL l4, vL a4, vI x3]) (rest := []) h dd_H_luck_105 (ws4 wd_696 wd_697 wd_63 wd_698) nk_H_partOfFraction (rok rfl) (Nat.le_of_ble_eq_true rfl) (fun _ => rfl) (fun a6 M5 h => ?_)
    exact j_lret dd_H_luck_108 rfl h
  · have h := h.2 c
    refine j_aload_n (j := 0) dd_H_luck_46 rfl rfl ?_
    refine gf_0_1 dd_H_luck_47 wd_288 ?_
    refine j_aload_n (j := 0) dd_H_luck_50 rfl rfl ?_
    refine gf_0_0 dd_H_luck_51 wd_287 ?_
    refine j_cVV (mm' := mm_T_copyFrom) (t := 3) (i := 1) (As := [vR 3 0]) (rest := []) h dd_H_luck_54 (ws5 wd_479 wd_480 wd_481 wd_64 wd_482) nk_T_copyFrom (rok rfl) (by unfold isW; omega) ⟨_, ce_3 _⟩ rfl (Nat.le_of_ble_eq_true rfl) (fun _ => rfl) (fun a8 M7 h => ?_)
    refine j_aload_n (j := 0) dd_H_luck_57 rfl rfl ?_
    refine gf_0_1 dd_H_luck_58 wd_288 ?_
    refine j_iload (j := 6) dd_H_luck_61 rfl ?_
    refine j_cVV (mm' := mm_T_carryOut) (t := 3) (i := 1) (As := [vI l6]) (rest := []) h dd_H_luck_63 (ws5 wd_524 wd_525 wd_526 wd_64 wd_527) nk_T_carryOut (rok rfl) (by unfold isW; omega) ⟨_, ce_3 _⟩ rfl (Nat.le_of_ble_eq_true rfl) (fun _ => rfl) (fun a10 M9 h => ?_)
    refine j_aload_n (j := 0) dd_H_luck_66 rfl rfl ?_
    refine gf_0_1 dd_H_luck_67 wd_288 ?_
    refine gf_3_7 dd_H_luck_70 wd_178 ?_
    refine j_iload_n (j := 2) dd_H_luck_73 rfl rfl ?_
    refine j_cSI (mm' := mm_H_hasBit) (As := [vI (M9 3 1 7), vI x2]) (rest := []) h dd_H_luck_74 (ws4 wd_621 wd_533 wd_63 wd_534) nk_H_hasBit (rok rfl) (Nat.le_of_ble_eq_true rfl) (fun _ => rfl) (fun a12 M11 h => ?_)
    refine j_if_eq (tgt := 92) dd_H_luck_77 (by decide) (fun c => ?_) (fun c => ?_)
    · have h := h.1 c
      refine j_iincN dd_H_luck_92 rfl rfl (fun a13 ea13 => ?_)
      have h := h a13 ea13
      refine j_goto (tgt := 37) dd_H_luck_95 (by decide) ?_
      exact j_jump h (jsub_c rfl (jsub_c rfl (jsub_c rfl (jsub_c rfl (jsub_c rfl (jsub_c rfl jsub_0))))))
    · have h := h.2 c
      refine j_lload (j := 4) dd_H_luck_80 rfl ?_
      refine j_aload_n (j := 0) dd_H_luck_82 rfl rfl ?_
      refine j_iload_n (j := 1) dd_H_luck_83 rfl rfl ?_
      refine j_iload (j := 6) dd_H_luck_84 rfl ?_
      refine j_cVL (mm' := mm_H_waysOfIllness) (t := 0) (i := 0) (As := [vI x1, vI l6]) (rest := [vL l4]) h dd_H_luck_86 (ws5 wd_687 wd_689 wd_21 wd_63 wd_690) nk_H_waysOfIllness (rok rfl) (by unfold isW; omega) ⟨_, ce_0 _⟩ rfl (Nat.le_of_ble_eq_true rfl) (fun _ => rfl) (fun a15 M14 h => ?_)
      refine j_ladd dd_H_luck_89 ?_
      refine j_topL (fun a16 ea16 => ?_)
      have h := h a16 ea16
      refine j_lstore (j := 4) dd_H_luck_90 (by decide) rfl rfl ?_
      refine j_iincN dd_H_luck_92 rfl rfl (fun a17 ea17 => ?_)
      have h := h a17 ea17
      refine j_goto (tgt := 37) dd_H_luck_95 (by decide) ?_
      exact j_jump h (jsub_c rfl (jsub_c rfl (jsub_c rfl (jsub_c rfl (jsub_c rfl (jsub_c rfl jsub_0))))))
theorem vc_H_mean {E : EE} {Q : Int → JM → Prop} (x1 : Int) (x2 : Int) (x3 : Int) (M : JM) (h : JC E mm_H_within [vI x1, vI 0, vI 10] M (fun a2 M1 => ((a2 = 0 → Q (-1) M1) ∧ (a2 ≠ 0 → JC E mm_H_within [vI x2, vI 0, vI 2] M1 (fun a4 M3 => ((a4 = 0 → Q (-1) M3) ∧ (a4 ≠ 0 → JC E mm_H_within [vI x3, vI 0, vI 1] M3 (fun a6 M5 => ((a6 ≠ 0 → ((x2 ≠ 1 → ((x2 ≠ 2 → JG E mm_H_mean Q 86 [(3, vI x3), (4, vL 0), (6, vL 1)] [] M5) ∧ (x2 = 2 → JC E mm_H_gainsBehindTwoWeeks [vR 0 0, vI x1] M5 (fun a8 M7 => JC E mm_H_allWaysOfIllness [vR 0 0] M7 (fun a10 M9 => JC E mm_H_allWaysOfIllness [vR 0 0] M9 (fun a12 M11 => ∀ a13 : Int, a13 = w64 (a10 * a12) → JG E mm_H_mean Q 86 [(3, vI x3), (4, vL a8), (6, vL a13)] [] M11)))))) ∧ (x2 = 1 → JC E mm_H_gainsBehindWeek [vR 0 0, vR 3 0, vI x1] M5 (fun a15 M14 => JC E mm_H_allWaysOfIllness [vR 0 0] M14 (fun a17 M16 => JG E mm_H_mean Q 86 [(3, vI x3), (4, vL a15), (6, vL a17)] [] M16))))) ∧ (a6 = 0 → Q (-1) M5)))))))))) : JC E mm_H_mean [vR 0 0, vI x1, vI x2, vI x3] M Q := by
  refine j_entry (L0 := [(0, vR 0 0), (1, vI x1), (2, vI x2), (3, vI x3)]) pn_H (Nat.le_of_ble_eq_true rfl) rfl ?_
  refine j_iload_n (j := 1) dd_H_mean_0 rfl rfl ?_
  refine j_iconst dd_H_mean_1 (inRd rfl) ?_
  refine j_bipush dd_H_mean_2 rfl (inRd rfl) ?_
  refine j_cSI (mm' := mm_H_within) (As := [vI x1, vI 0, vI 10]) (rest := []) h dd_H_mean_4 (ws4 wd_328 wd_329 wd_63 wd_330) nk_H_within (rok rfl) (Nat.le_of_ble_eq_true rfl) (fun _ => rfl) (fun a2 M1 h => ?_)
  refine j_if_eq (tgt := 28) dd_H_mean_7 (by decide) (fun c => ?_) (fun c => ?_)
  · have h := h.1 c
    refine j_ldc2 (x := (-1)) dd_H_mean_28 wd_682 rfl (inLd rfl) ?_
    exact j_lret dd_H_mean_31 rfl h
  · have h := h.2 c
    refine j_iload_n (j := 2) dd_H_mean_10 rfl rfl ?_
    refine j_iconst dd_H_mean_11 (inRd rfl) ?_
    refine j_iconst dd_H_mean_12 (inRd rfl) ?_
    refine j_cSI (mm' := mm_H_within) (As := [vI x2, vI 0, vI 2]) (rest := []) h dd_H_mean_13 (ws4 wd_328 wd_329 wd_63 wd_330) nk_H_within (rok rfl) (Nat.le_of_ble_eq_true rfl) (fun _ => rfl) (fun a4 M3 h => ?_)
    refine j_if_eq (tgt := 28) dd_H_mean_16 (by decide) (fun c => ?_) (fun c => ?_)
    · have h := h.1 c
      refine j_ldc2 (x := (-1)) dd_H_mean_28 wd_682 rfl (inLd rfl) ?_
      exact j_lret dd_H_mean_31 rfl h
    · have h := h.2 c
      refine j_iload_n (j := 3) dd_H_mean_19 rfl rfl ?_
      refine j_iconst dd_H_mean_20 (inRd rfl) ?_
      refine j_iconst dd_H_mean_21 (inRd rfl) ?_
      refine j_cSI (mm' := mm_H_within) (As := [vI x3, vI 0, vI 1]) (rest := []) h dd_H_mean_22 (ws4 wd_328 wd_329 wd_63 wd_330) nk_H_within (rok rfl) (Nat.le_of_ble_eq_true rfl) (fun _ => rfl) (fun a6 M5 h => ?_)
      refine j_if_ne (tgt := 32) dd_H_mean_25 (by decide) (fun c => ?_) (fun c => ?_)
      · have h := h.1 c
        refine j_lconst (x := 0) dd_H_mean_32 rfl (inLd rfl) ?_
        refine j_lstore (j := 4) dd_H_mean_33 (by decide) rfl rfl ?_
        refine j_lconst (x := 1) dd_H_mean_35 rfl (inLd rfl) ?_
        refine j_lstore (j := 6) dd_H_mean_36 (by decide) rfl rfl ?_
        refine j_iload_n (j := 2) dd_H_mean_38 rfl rfl ?_
        refine j_iconst dd_H_mean_39 (inRd rfl) ?_
        refine j_icmp_ne (tgt := 63) dd_H_mean_40 (by decide) (fun c => ?_) (fun c => ?_)
        · have h := h.1 c
          refine j_iload_n (j := 2) dd_H_mean_63 rfl rfl ?_
          refine j_iconst dd_H_mean_64 (inRd rfl) ?_
          refine j_icmp_ne (tgt := 86) dd_H_mean_65 (by decide) (fun c => ?_) (fun c => ?_)
          · have h := h.1 c
            exact j_jump h (jsub_c rfl (jsub_c rfl (jsub_c rfl jsub_0)))
          · have h := h.2 c
            refine j_aload_n (j := 0) dd_H_mean_68 rfl rfl ?_
            refine j_iload_n (j := 1) dd_H_mean_69 rfl rfl ?_
            refine j_cVL (mm' := mm_H_gainsBehindTwoWeeks) (t := 0) (i := 0) (As := [vI x1]) (rest := []) h dd_H_mean_70 (ws5 wd_710 wd_712 wd_24 wd_63 wd_713) nk_H_gainsBehindTwoWeeks (rok rfl) (by unfold isW; omega) ⟨_, ce_0 _⟩ rfl (Nat.le_of_ble_eq_true rfl) (fun _ => rfl) (fun a8 M7 h => ?_)
            refine j_lstore (j := 4) dd_H_mean_73 (by decide) rfl rfl ?_
            refine j_aload_n (j := 0) dd_H_mean_75 rfl rfl ?_
            refine j_cVL (mm' := mm_H_allWaysOfIllness) (t := 0) (i := 0) (As := []) (rest := []) h dd_H_mean_76 (ws5 wd_691 wd_693 wd_22 wd_63 wd_694) nk_H_allWaysOfIllness (rok rfl) (by unfold isW; omega) ⟨_, ce_0 _⟩ rfl (Nat.le_of_ble_eq_true rfl) (fun _ => rfl) (fun a10 M9 h => ?_)
            refine j_aload_n (j := 0) dd_H_mean_79 rfl rfl ?_
            refine j_cVL (mm' := mm_H_allWaysOfIllness) (t := 0) (i := 0) (As := []) (rest := [vL a10]) h dd_H_mean_80 (ws5 wd_691 wd_693 wd_22 wd_63 wd_694) nk_H_allWaysOfIllness (rok rfl) (by unfold isW; omega) ⟨_, ce_0 _⟩ rfl (Nat.le_of_ble_eq_true rfl) (fun _ => rfl) (fun a12 M11 h => ?_)
            refine j_lmul dd_H_mean_83 ?_
            refine j_topL (fun a13 ea13 => ?_)
            have h := h a13 ea13
            refine j_lstore (j := 6) dd_H_mean_84 (by decide) rfl rfl ?_
            exact j_jump h (jsub_c rfl (jsub_c rfl (jsub_c rfl jsub_0)))
        · have h := h.2 c
          refine j_aload_n (j := 0) dd_H_mean_43 rfl rfl ?_
          refine j_aload_n (j := 0) dd_H_mean_44 rfl rfl ?_
          refine gf_0_0 dd_H_mean_45 wd_287 ?_
          refine j_iload_n (j := 1) dd_H_mean_48 rfl rfl ?_
          refine j_cVL (mm' := mm_H_gainsBehindWeek) (t := 0) (i := 0) (As := [vR 3 0, vI x1]) (rest := []) h dd_H_mean_49 (ws5 wd_706 wd_708 wd_23 wd_63 wd_709) nk_H_gainsBehindWeek (rok rfl) (by unfold isW; omega) ⟨_, ce_0 _⟩ rfl (Nat.le_of_ble_eq_true rfl) (fun _ => rfl) (fun a15 M14 h => ?_)
          refine j_lstore (j := 4) dd_H_mean_52 (by decide) rfl rfl ?_
          refine j_aload_n (j := 0) dd_H_mean_54 rfl rfl ?_
          refine j_cVL (mm' := mm_H_allWaysOfIllness) (t := 0) (i := 0) (As := []) (rest := []) h dd_H_mean_55 (ws5 wd_691 wd_693 wd_22 wd_63 wd_694) nk_H_allWaysOfIllness (rok rfl) (by unfold isW; omega) ⟨_, ce_0 _⟩ rfl (Nat.le_of_ble_eq_true rfl) (fun _ => rfl) (fun a17 M16 h => ?_)
          refine j_lstore (j := 6) dd_H_mean_58 (by decide) rfl rfl ?_
          refine j_goto (tgt := 86) dd_H_mean_60 (by decide) ?_
          exact j_jump h (jsub_c rfl (jsub_c rfl (jsub_c rfl jsub_0)))
      · have h := h.2 c
        refine j_ldc2 (x := (-1)) dd_H_mean_28 wd_682 rfl (inLd rfl) ?_
        exact j_lret dd_H_mean_31 rfl h
theorem vc_H_mean_86 {E : EE} {Q : Int → JM → Prop} (x3 : Int) (l4 : Int) (l6 : Int) (M : JM) (h : JC E mm_H_partOfFraction [vL l4, vL l6, vI x3] M (fun a2 M1 => Q a2 M1)) : JG E mm_H_mean Q 86 [(3, vI x3), (4, vL l4), (6, vL l6)] [] M := by
  refine j_lload (j := 4) dd_H_mean_86 rfl ?_
  refine j_lload (j := 6) dd_H_mean_88 rfl ?_
  refine j_iload_n (j := 3) dd_H_mean_90 rfl rfl ?_
  refine j_cSL (mm' := mm_H_partOfFraction) (As := [vL l4, vL l6, vI x3]) (rest := []) h dd_H_mean_91 (ws4 wd_696 wd_697 wd_63 wd_698) nk_H_partOfFraction (rok rfl) (Nat.le_of_ble_eq_true rfl) (fun _ => rfl) (fun a2 M1 h => ?_)
  exact j_lret dd_H_mean_94 rfl h
theorem vc_H_see {E : EE} {Q : Int → JM → Prop} (x1 : Int) (x2 : Int) (x3 : Int) (M : JM) (h : JC E mm_H_within [vI x1, vI 0, vI 20] M (fun a2 M1 => ((a2 = 0 → Q (-1) M1) ∧ (a2 ≠ 0 → JC E mm_H_isOne [vR 0 0, vI x2] M1 (fun a4 M3 => ((a4 = 0 → Q (-1) M3) ∧ (a4 ≠ 0 → JC E mm_H_within [vI x3, vI 0, vI 999] M3 (fun a6 M5 => ((a6 ≠ 0 → ((M5 0 0 9 < 6 → (0 ≤ M5 0 0 9 ∧ M5 0 0 9 < 6) ∧ ∀ M7 : JM, M7 = pt M5 8 ((M5 0 0 9).toNat) 0 x1 → (0 ≤ M7 0 0 9 ∧ M7 0 0 9 < 6) ∧ ∀ M8 : JM, M8 = pt M7 8 ((M7 0 0 9).toNat) 1 x2 → (0 ≤ M8 0 0 9 ∧ M8 0 0 9 < 6) ∧ ∀ M9 : JM, M9 = pt M8 8 ((M8 0 0 9).toNat) 2 x3 → ∀ M10 : JM, M10 = pt M9 0 0 9 (w32 (M9 0 0 9 + 1)) → Q (M10 0 0 9) M10) ∧ (6 ≤ M5 0 0 9 → Q (-3) M5))) ∧ (a6 = 0 → Q (-1) M5)))))))))) : JC E mm_H_see [vR 0 0, vI x1, vI x2, vI x3] M Q := by
  refine j_entry (L0 := [(0, vR 0 0), (1, vI x1), (2, vI x2), (3, vI x3)]) pn_H (Nat.le_of_ble_eq_true rfl) rfl ?_
  refine j_iload_n (j := 1) dd_H_see_0 rfl rfl ?_
  refine j_iconst dd_H_see_1 (inRd rfl) ?_
  refine j_bipush dd_H_see_2 rfl (inRd rfl) ?_
  refine j_cSI (mm' := mm_H_within) (As := [vI x1, vI 0, vI 20]) (rest := []) h dd_H_see_4 (ws4 wd_328 wd_329 wd_63 wd_330) nk_H_within (rok rfl) (Nat.le_of_ble_eq_true rfl) (fun _ => rfl) (fun a2 M1 h => ?_)
  refine j_if_eq (tgt := 29) dd_H_see_7 (by decide) (fun c => ?_) (fun c => ?_)
  · have h := h.1 c
    refine j_iconst dd_H_see_29 (inRd rfl) ?_
    exact j_iret dd_H_see_30 rfl h
  · have h := h.2 c
    refine j_aload_n (j := 0) dd_H_see_10 rfl rfl ?_
    refine j_iload_n (j := 2) dd_H_see_11 rfl rfl ?_
    refine j_cVI (mm' := mm_H_isOne) (t := 0) (i := 0) (As := [vI x2]) (rest := []) h dd_H_see_12 (ws5 wd_520 wd_522 wd_14 wd_63 wd_523) nk_H_isOne (rok rfl) (by unfold isW; omega) ⟨_, ce_0 _⟩ rfl (Nat.le_of_ble_eq_true rfl) (fun _ => rfl) (fun a4 M3 h => ?_)
    refine j_if_eq (tgt := 29) dd_H_see_15 (by decide) (fun c => ?_) (fun c => ?_)
    · have h := h.1 c
      refine j_iconst dd_H_see_29 (inRd rfl) ?_
      exact j_iret dd_H_see_30 rfl h
    · have h := h.2 c
      refine j_iload_n (j := 3) dd_H_see_18 rfl rfl ?_
      refine j_iconst dd_H_see_19 (inRd rfl) ?_
      refine j_sipush dd_H_see_20 rfl (inRd rfl) ?_
      refine j_cSI (mm' := mm_H_within) (As := [vI x3, vI 0, vI 999]) (rest := []) h dd_H_see_23 (ws4 wd_328 wd_329 wd_63 wd_330) nk_H_within (rok rfl) (Nat.le_of_ble_eq_true rfl) (fun _ => rfl) (fun a6 M5 h => ?_)
      refine j_if_ne (tgt := 31) dd_H_see_26 (by decide) (fun c => ?_) (fun c => ?_)
      · have h := h.1 c
        refine j_aload_n (j := 0) dd_H_see_31 rfl rfl ?_
        refine gf_0_9 dd_H_see_32 wd_296 ?_
        refine j_bipush dd_H_see_35 rfl (inRd rfl) ?_
        refine j_icmp_lt (tgt := 43) dd_H_see_37 (by decide) (fun c => ?_) (fun c => ?_)
        · have h := h.1 c
          refine j_aload_n (j := 0) dd_H_see_43 rfl rfl ?_
          refine gf_0_7 dd_H_see_44 wd_294 ?_
          refine j_aload_n (j := 0) dd_H_see_47 rfl rfl ?_
          refine gf_0_9 dd_H_see_48 wd_296 ?_
          refine ld_14 dd_H_see_51 h.1 ?_
          have h := h.2
          refine j_iload_n (j := 1) dd_H_see_52 rfl rfl ?_
          refine pf_8_0 dd_H_see_53 wd_275 (fun M7 eM7 => ?_)
          have h := h M7 eM7
          refine j_aload_n (j := 0) dd_H_see_56 rfl rfl ?_
          refine gf_0_7 dd_H_see_57 wd_294 ?_
          refine j_aload_n (j := 0) dd_H_see_60 rfl rfl ?_
          refine gf_0_9 dd_H_see_61 wd_296 ?_
          refine ld_14 dd_H_see_64 h.1 ?_
          have h := h.2
          refine j_iload_n (j := 2) dd_H_see_65 rfl rfl ?_
          refine pf_8_1 dd_H_see_66 wd_277 (fun M8 eM8 => ?_)
          have h := h M8 eM8
          refine j_aload_n (j := 0) dd_H_see_69 rfl rfl ?_
          refine gf_0_7 dd_H_see_70 wd_294 ?_
          refine j_aload_n (j := 0) dd_H_see_73 rfl rfl ?_
          refine gf_0_9 dd_H_see_74 wd_296 ?_
          refine ld_14 dd_H_see_77 h.1 ?_
          have h := h.2
          refine j_iload_n (j := 3) dd_H_see_78 rfl rfl ?_
          refine pf_8_2 dd_H_see_79 wd_279 (fun M9 eM9 => ?_)
          have h := h M9 eM9
          refine j_aload_n (j := 0) dd_H_see_82 rfl rfl ?_
          refine j_dup dd_H_see_83 rfl ?_
          refine gf_0_9 dd_H_see_84 wd_296 ?_
          refine j_iconst dd_H_see_87 (inRd rfl) ?_
          refine j_iadd dd_H_see_88 ?_
          refine pf_0_9 dd_H_see_89 wd_296 (fun M10 eM10 => ?_)
          have h := h M10 eM10
          refine j_aload_n (j := 0) dd_H_see_92 rfl rfl ?_
          refine gf_0_9 dd_H_see_93 wd_296 ?_
          exact j_iret dd_H_see_96 rfl h
        · have h := h.2 c
          refine j_bipush dd_H_see_40 rfl (inRd rfl) ?_
          exact j_iret dd_H_see_42 rfl h
      · have h := h.2 c
        refine j_iconst dd_H_see_29 (inRd rfl) ?_
        exact j_iret dd_H_see_30 rfl h
theorem vc_H_forget {E : EE} {Q : Int → JM → Prop} (x1 : Int) (M : JM) (h : ∀ a1 : Int, a1 = M 0 0 9 → JC E mm_H_within [vI x1, vI 0, vI a1] M (fun a3 M2 => ((a3 ≠ 0 → ∀ M4 : JM, M4 = pt M2 0 0 9 x1 → Q a1 M4) ∧ (a3 = 0 → Q (-1) M2)))) : JC E mm_H_forget [vR 0 0, vI x1] M Q := by
  refine j_entry (L0 := [(0, vR 0 0), (1, vI x1)]) pn_H (Nat.le_of_ble_eq_true rfl) rfl ?_
  refine j_aload_n (j := 0) dd_H_forget_0 rfl rfl ?_
  refine gf_0_9 dd_H_forget_1 wd_296 ?_
  refine j_topI (fun a1 ea1 => ?_)
  have h := h a1 ea1
  refine j_istore_n (j := 2) dd_H_forget_4 rfl (by decide) rfl ?_
  refine j_iload_n (j := 1) dd_H_forget_5 rfl rfl ?_
  refine j_iconst dd_H_forget_6 (inRd rfl) ?_
  refine j_iload_n (j := 2) dd_H_forget_7 rfl rfl ?_
  refine j_cSI (mm' := mm_H_within) (As := [vI x1, vI 0, vI a1]) (rest := []) h dd_H_forget_8 (ws4 wd_328 wd_329 wd_63 wd_330) nk_H_within (rok rfl) (Nat.le_of_ble_eq_true rfl) (fun _ => rfl) (fun a3 M2 h => ?_)
  refine j_if_ne (tgt := 16) dd_H_forget_11 (by decide) (fun c => ?_) (fun c => ?_)
  · have h := h.1 c
    refine j_aload_n (j := 0) dd_H_forget_16 rfl rfl ?_
    refine j_iload_n (j := 1) dd_H_forget_17 rfl rfl ?_
    refine pf_0_9 dd_H_forget_18 wd_296 (fun M4 eM4 => ?_)
    have h := h M4 eM4
    refine j_iload_n (j := 2) dd_H_forget_21 rfl rfl ?_
    exact j_iret dd_H_forget_22 rfl h
  · have h := h.2 c
    refine j_iconst dd_H_forget_14 (inRd rfl) ?_
    exact j_iret dd_H_forget_15 rfl h
theorem vc_H_kinds {E : EE} {Q : Int → JM → Prop} (x1 : Int) (M : JM) (h : JC E mm_H_isGood [vR 0 0, vI x1] M (fun a2 M1 => ((a2 ≠ 0 → JG E mm_H_kinds Q 14 [(0, vR 0 0), (1, vI x1), (2, vI 0), (3, vI 0)] [] M1) ∧ (a2 = 0 → Q (-1) M1)))) : JC E mm_H_kinds [vR 0 0, vI x1] M Q := by
  refine j_entry (L0 := [(0, vR 0 0), (1, vI x1)]) pn_H (Nat.le_of_ble_eq_true rfl) rfl ?_
  refine j_aload_n (j := 0) dd_H_kinds_0 rfl rfl ?_
  refine j_iload_n (j := 1) dd_H_kinds_1 rfl rfl ?_
  refine j_cVI (mm' := mm_H_isGood) (t := 0) (i := 0) (As := [vI x1]) (rest := []) h dd_H_kinds_2 (ws5 wd_512 wd_514 wd_13 wd_63 wd_515) nk_H_isGood (rok rfl) (by unfold isW; omega) ⟨_, ce_0 _⟩ rfl (Nat.le_of_ble_eq_true rfl) (fun _ => rfl) (fun a2 M1 h => ?_)
  refine j_if_ne (tgt := 10) dd_H_kinds_5 (by decide) (fun c => ?_) (fun c => ?_)
  · have h := h.1 c
    refine j_iconst dd_H_kinds_10 (inRd rfl) ?_
    refine j_istore_n (j := 2) dd_H_kinds_11 rfl (by decide) rfl ?_
    refine j_iconst dd_H_kinds_12 (inRd rfl) ?_
    refine j_istore_n (j := 3) dd_H_kinds_13 rfl (by decide) rfl ?_
    exact j_jump h (jsub_c rfl (jsub_c rfl (jsub_c rfl (jsub_c rfl jsub_0))))
  · have h := h.2 c
    refine j_iconst dd_H_kinds_8 (inRd rfl) ?_
    exact j_iret dd_H_kinds_9 rfl h
theorem vc_H_kinds_14 {E : EE} {Q : Int → JM → Prop} (x1 : Int) (l2 : Int) (l3 : Int) (M : JM) (h : ((3 < l3 → Q l2 M) ∧ (l3 ≤ 3 → JC E mm_H_tryKind [vR 0 0, vI x1, vI l3] M (fun a2 M1 => JC E mm_H_trialGoesAsSeen [vR 0 0] M1 (fun a4 M3 => ((a4 = 0 → ∀ a5 : Int, a5 = w32 (l3 + 1) → JG E mm_H_kinds Q 14 [(0, vR 0 0), (1, vI x1), (2, vI l2), (3, vI a5)] [] M3) ∧ (a4 ≠ 0 → ∀ a6 : Int, a6 = or32 l2 (shl32 1 l3) → ∀ a7 : Int, a7 = w32 (l3 + 1) → JG E mm_H_kinds Q 14 [(0, vR 0 0), (1, vI x1), (2, vI a6), (3, vI a7)] [] M3))))))) : JG E mm_H_kinds Q 14 [(0, vR 0 0), (1, vI x1), (2, vI l2), (3, vI l3)] [] M := by
  refine j_iload_n (j := 3) dd_H_kinds_14 rfl rfl ?_
  refine j_iconst dd_H_kinds_15 (inRd rfl) ?_
  refine j_icmp_gt (tgt := 44) dd_H_kinds_16 (by decide) (fun c => ?_) (fun c => ?_)
  · have h := h.1 c
    refine j_iload_n (j := 2) dd_H_kinds_44 rfl rfl ?_
    exact j_iret dd_H_kinds_45 rfl h
  · have h := h.2 c
    refine j_aload_n (j := 0) dd_H_kinds_19 rfl rfl ?_
    refine j_iload_n (j := 1) dd_H_kinds_20 rfl rfl ?_
    refine j_iload_n (j := 3) dd_H_kinds_21 rfl rfl ?_
    refine j_cVV (mm' := mm_H_tryKind) (t := 0) (i := 0) (As := [vI x1, vI l3]) (rest := []) h dd_H_kinds_22 (ws5 wd_674 wd_676 wd_19 wd_63 wd_677) nk_H_tryKind (rok rfl) (by unfold isW; omega) ⟨_, ce_0 _⟩ rfl (Nat.le_of_ble_eq_true rfl) (fun _ => rfl) (fun a2 M1 h => ?_)
    refine j_aload_n (j := 0) dd_H_kinds_25 rfl rfl ?_
    refine j_cVI (mm' := mm_H_trialGoesAsSeen) (t := 0) (i := 0) (As := []) (rest := []) h dd_H_kinds_26 (ws5 wd_726 wd_728 wd_25 wd_63 wd_729) nk_H_trialGoesAsSeen (rok rfl) (by unfold isW; omega) ⟨_, ce_0 _⟩ rfl (Nat.le_of_ble_eq_true rfl) (fun _ => rfl) (fun a4 M3 h => ?_)
    refine j_if_eq (tgt := 38) dd_H_kinds_29 (by decide) (fun c => ?_) (fun c => ?_)
    · have h := h.1 c
      refine j_iincN dd_H_kinds_38 rfl rfl (fun a5 ea5 => ?_)
      have h := h a5 ea5
      refine j_goto (tgt := 14) dd_H_kinds_41 (by decide) ?_
      exact j_jump h (jsub_c rfl (jsub_c rfl (jsub_c rfl (jsub_c rfl jsub_0))))
    · have h := h.2 c
      refine j_iload_n (j := 2) dd_H_kinds_32 rfl rfl ?_
      refine j_iconst dd_H_kinds_33 (inRd rfl) ?_
      refine j_iload_n (j := 3) dd_H_kinds_34 rfl rfl ?_
      refine j_ishl dd_H_kinds_35 ?_
      refine j_ior dd_H_kinds_36 ?_
      refine j_topI (fun a6 ea6 => ?_)
      have h := h a6 ea6
      refine j_istore_n (j := 2) dd_H_kinds_37 rfl (by decide) rfl ?_
      refine j_iincN dd_H_kinds_38 rfl rfl (fun a7 ea7 => ?_)
      have h := h a7 ea7
      refine j_goto (tgt := 14) dd_H_kinds_41 (by decide) ?_
      exact j_jump h (jsub_c rfl (jsub_c rfl (jsub_c rfl (jsub_c rfl jsub_0))))
theorem vc_H_weights {E : EE} {Q : Int → JM → Prop} (x1 : Int) (M : JM) (h : JC E mm_H_isGood [vR 0 0, vI x1] M (fun a2 M1 => ((a2 ≠ 0 → JG E mm_H_weights Q 14 [(0, vR 0 0), (1, vI x1), (2, vI 0), (3, vI 1)] [] M1) ∧ (a2 = 0 → Q (-1) M1)))) : JC E mm_H_weights [vR 0 0, vI x1] M Q := by
  refine j_entry (L0 := [(0, vR 0 0), (1, vI x1)]) pn_H (Nat.le_of_ble_eq_true rfl) rfl ?_
  refine j_aload_n (j := 0) dd_H_weights_0 rfl rfl ?_
  refine j_iload_n (j := 1) dd_H_weights_1 rfl rfl ?_
  refine j_cVI (mm' := mm_H_isGood) (t := 0) (i := 0) (As := [vI x1]) (rest := []) h dd_H_weights_2 (ws5 wd_512 wd_514 wd_13 wd_63 wd_515) nk_H_isGood (rok rfl) (by unfold isW; omega) ⟨_, ce_0 _⟩ rfl (Nat.le_of_ble_eq_true rfl) (fun _ => rfl) (fun a2 M1 h => ?_)
  refine j_if_ne (tgt := 10) dd_H_weights_5 (by decide) (fun c => ?_) (fun c => ?_)
  · have h := h.1 c
    refine j_iconst dd_H_weights_10 (inRd rfl) ?_
    refine j_istore_n (j := 2) dd_H_weights_11 rfl (by decide) rfl ?_
    refine j_iconst dd_H_weights_12 (inRd rfl) ?_
    refine j_istore_n (j := 3) dd_H_weights_13 rfl (by decide) rfl ?_
    exact j_jump h (jsub_c rfl (jsub_c rfl (jsub_c rfl (jsub_c rfl jsub_0))))
  · have h := h.2 c
    refine j_iconst dd_H_weights_8 (inRd rfl) ?_
    exact j_iret dd_H_weights_9 rfl h
theorem vc_H_weights_14 {E : EE} {Q : Int → JM → Prop} (x1 : Int) (l2 : Int) (l3 : Int) (M : JM) (h : ((9 < l3 → Q l2 M) ∧ (l3 ≤ 9 → JC E mm_T_copyFrom [vR 3 1, vR 3 0] M (fun a2 M1 => (0 ≤ x1 ∧ x1 < 8) ∧ (0 ≤ x1 ∧ x1 < 8) ∧ (0 ≤ x1 ∧ x1 < 8) ∧ JC E mm_G_become [vR 1 (8 * 1 + x1.toNat), vI (M1 1 (8 * 0 + x1.toNat) 0), vI l3, vI (M1 1 (8 * 0 + x1.toNat) 2)] M1 (fun a4 M3 => JC E mm_H_trialGoesAsSeen [vR 0 0] M3 (fun a6 M5 => ((a6 = 0 → ∀ a7 : Int, a7 = w32 (l3 + 1) → JG E mm_H_weights Q 14 [(0, vR 0 0), (1, vI x1), (2, vI l2), (3, vI a7)] [] M5) ∧ (a6 ≠ 0 → ∀ a8 : Int, a8 = or32 l2 (shl32 1 l3) → ∀ a9 : Int, a9 = w32 (l3 + 1) → JG E mm_H_weights Q 14 [(0, vR 0 0), (1, vI x1), (2, vI a8), (3, vI a9)] [] M5)))))))) : JG E mm_H_weights Q 14 [(0, vR 0 0), (1, vI x1), (2, vI l2), (3, vI l3)] [] M := by
  refine j_iload_n (j := 3) dd_H_weights_14 rfl rfl ?_
  refine j_bipush dd_H_weights_15 rfl (inRd rfl) ?_
  refine j_icmp_gt (tgt := 87) dd_H_weights_17 (by decide) (fun c => ?_) (fun c => ?_)
  · have h := h.1 c
    refine j_iload_n (j := 2) dd_H_weights_87 rfl rfl ?_
    exact j_iret dd_H_weights_88 rfl h
  · have h := h.2 c
    refine j_aload_n (j := 0) dd_H_weights_20 rfl rfl ?_
    refine gf_0_1 dd_H_weights_21 wd_288 ?_
    refine j_aload_n (j := 0) dd_H_weights_24 rfl rfl ?_
    refine gf_0_0 dd_H_weights_25 wd_287 ?_
    refine j_cVV (mm' := mm_T_copyFrom) (t := 3) (i := 1) (As := [vR 3 0]) (rest := []) h dd_H_weights_28 (ws5 wd_479 wd_480 wd_481 wd_64 wd_482) nk_T_copyFrom (rok rfl) (by unfold isW; omega) ⟨_, ce_3 _⟩ rfl (Nat.le_of_ble_eq_true rfl) (fun _ => rfl) (fun a2 M1 h => ?_)
    refine j_aload_n (j := 0) dd_H_weights_31 rfl rfl ?_
    refine gf_0_1 dd_H_weights_32 wd_288 ?_
    refine gf_3_0 dd_H_weights_35 wd_160 ?_
    refine j_iload_n (j := 1) dd_H_weights_38 rfl rfl ?_
    refine ld_4 dd_H_weights_39 h.1 ?_
    have h := h.2
    refine j_aload_n (j := 0) dd_H_weights_40 rfl rfl ?_
    refine gf_0_0 dd_H_weights_41 wd_287 ?_
    refine gf_3_0 dd_H_weights_44 wd_160 ?_
    refine j_iload_n (j := 1) dd_H_weights_47 rfl rfl ?_
    refine ld_4 dd_H_weights_48 h.1 ?_
    have h := h.2
    refine gf_1_0 dd_H_weights_49 wd_101 ?_
    refine j_iload_n (j := 3) dd_H_weights_52 rfl rfl ?_
    refine j_aload_n (j := 0) dd_H_weights_53 rfl rfl ?_
    refine gf_0_0 dd_H_weights_54 wd_287 ?_
    refine gf_3_0 dd_H_weights_57 wd_160 ?_
    refine j_iload_n (j := 1) dd_H_weights_60 rfl rfl ?_
    refine ld_4 dd_H_weights_61 h.1 ?_
    have h := h.2
    refine gf_1_2 dd_H_weights_62 wd_105 ?_
    refine j_cVV (mm' := mm_G_become) (t := 1) (i := (8 * 1 + x1.toNat)) (As := [vI (M1 1 (8 * 0 + x1.toNat) 0), vI l3, vI (M1 1 (8 * 0 + x1.toNat) 2)]) (rest := []) h dd_H_weights_65 (ws5 wd_546 wd_457 wd_458 wd_65 wd_459) nk_G_become (rok rfl) (by unfold isW; omega) ⟨_, ce_1 _⟩ rfl (Nat.le_of_ble_eq_true rfl) (fun _ => rfl) (fun a4 M3 h => ?_)
    refine j_aload_n (j := 0) dd_H_weights_68 rfl rfl ?_
    refine j_cVI (mm' := mm_H_trialGoesAsSeen) (t := 0) (i := 0) (As := []) (rest := []) h dd_H_weights_69 (ws5 wd_726 wd_728 wd_25 wd_63 wd_729) nk_H_trialGoesAsSeen (rok rfl) (by unfold isW; omega) ⟨_, ce_0 _⟩ rfl (Nat.le_of_ble_eq_true rfl) (fun _ => rfl) (fun a6 M5 h => ?_)
    refine j_if_eq (tgt := 81) dd_H_weights_72 (by decide) (fun c => ?_) (fun c => ?_)
    · have h := h.1 c
      refine j_iincN dd_H_weights_81 rfl rfl (fun a7 ea7 => ?_)
      have h := h a7 ea7
      refine j_goto (tgt := 14) dd_H_weights_84 (by decide) ?_
      exact j_jump h (jsub_c rfl (jsub_c rfl (jsub_c rfl (jsub_c rfl jsub_0))))
    · have h := h.2 c
      refine j_iload_n (j := 2) dd_H_weights_75 rfl rfl ?_
      refine j_iconst dd_H_weights_76 (inRd rfl) ?_
      refine j_iload_n (j := 3) dd_H_weights_77 rfl rfl ?_
      refine j_ishl dd_H_weights_78 ?_
      refine j_ior dd_H_weights_79 ?_
      refine j_topI (fun a8 ea8 => ?_)
      have h := h a8 ea8
      refine j_istore_n (j := 2) dd_H_weights_80 rfl (by decide) rfl ?_
      refine j_iincN dd_H_weights_81 rfl rfl (fun a9 ea9 => ?_)
      have h := h a9 ea9
      refine j_goto (tgt := 14) dd_H_weights_84 (by decide) ?_
      exact j_jump h (jsub_c rfl (jsub_c rfl (jsub_c rfl (jsub_c rfl jsub_0))))
theorem vc_H_strengths {E : EE} {Q : Int → JM → Prop} (x1 : Int) (M : JM) (h : JC E mm_H_isOne [vR 0 0, vI x1] M (fun a2 M1 => ((a2 ≠ 0 → JC E mm_H_strengthsAsSeen [vR 0 0, vI x1] M1 (fun a4 M3 => Q a4 M3)) ∧ (a2 = 0 → Q (-1) M1)))) : JC E mm_H_strengths [vR 0 0, vI x1] M Q := by
  refine j_entry (L0 := [(0, vR 0 0), (1, vI x1)]) pn_H (Nat.le_of_ble_eq_true rfl) rfl ?_
  refine j_aload_n (j := 0) dd_H_strengths_0 rfl rfl ?_
  refine j_iload_n (j := 1) dd_H_strengths_1 rfl rfl ?_
  refine j_cVI (mm' := mm_H_isOne) (t := 0) (i := 0) (As := [vI x1]) (rest := []) h dd_H_strengths_2 (ws5 wd_520 wd_522 wd_14 wd_63 wd_523) nk_H_isOne (rok rfl) (by unfold isW; omega) ⟨_, ce_0 _⟩ rfl (Nat.le_of_ble_eq_true rfl) (fun _ => rfl) (fun a2 M1 h => ?_)
  refine j_if_ne (tgt := 10) dd_H_strengths_5 (by decide) (fun c => ?_) (fun c => ?_)
  · have h := h.1 c
    refine j_aload_n (j := 0) dd_H_strengths_10 rfl rfl ?_
    refine j_iload_n (j := 1) dd_H_strengths_11 rfl rfl ?_
    refine j_cVI (mm' := mm_H_strengthsAsSeen) (t := 0) (i := 0) (As := [vI x1]) (rest := []) h dd_H_strengths_12 (ws5 wd_747 wd_749 wd_28 wd_63 wd_750) nk_H_strengthsAsSeen (rok rfl) (by unfold isW; omega) ⟨_, ce_0 _⟩ rfl (Nat.le_of_ble_eq_true rfl) (fun _ => rfl) (fun a4 M3 h => ?_)
    exact j_iret dd_H_strengths_15 rfl h
  · have h := h.2 c
    refine j_iconst dd_H_strengths_8 (inRd rfl) ?_
    exact j_iret dd_H_strengths_9 rfl h
theorem vc_H_ask {E : EE} {Q : Int → JM → Prop} (x1 : Int) (x2 : Int) (M : JM) (h : JC E mm_H_isOne [vR 0 0, vI x1] M (fun a2 M1 => ((a2 = 0 → Q (-1) M1) ∧ (a2 ≠ 0 → JC E mm_H_within [vI x2, vI 0, vI 1] M1 (fun a4 M3 => ((a4 ≠ 0 → JC E mm_H_strengthsAsSeen [vR 0 0, vI x1] M3 (fun a6 M5 => JC E mm_H_foretell [vR 0 0, vI x1, vI a6] M5 (fun a8 M7 => JC E mm_N_bitCount [vI a6] M7 (fun a10 M9 => JG E mm_H_ask Q 44 [(0, vR 0 0), (2, vI x2), (3, vI a6), (4, vI (-4)), (5, vI a10), (6, vI 0)] [] M9)))) ∧ (a4 = 0 → Q (-1) M3))))))) : JC E mm_H_ask [vR 0 0, vI x1, vI x2] M Q := by
  refine j_entry (L0 := [(0, vR 0 0), (1, vI x1), (2, vI x2)]) pn_H (Nat.le_of_ble_eq_true rfl) rfl ?_
  refine j_aload_n (j := 0) dd_H_ask_0 rfl rfl ?_
  refine j_iload_n (j := 1) dd_H_ask_1 rfl rfl ?_
  refine j_cVI (mm' := mm_H_isOne) (t := 0) (i := 0) (As := [vI x1]) (rest := []) h dd_H_ask_2 (ws5 wd_520 wd_522 wd_14 wd_63 wd_523) nk_H_isOne (rok rfl) (by unfold isW; omega) ⟨_, ce_0 _⟩ rfl (Nat.le_of_ble_eq_true rfl) (fun _ => rfl) (fun a2 M1 h => ?_)
  refine j_if_eq (tgt := 17) dd_H_ask_5 (by decide) (fun c => ?_) (fun c => ?_)
  · have h := h.1 c
    refine j_iconst dd_H_ask_17 (inRd rfl) ?_
    exact j_iret dd_H_ask_18 rfl h
  · have h := h.2 c
    refine j_iload_n (j := 2) dd_H_ask_8 rfl rfl ?_
    refine j_iconst dd_H_ask_9 (inRd rfl) ?_
    refine j_iconst dd_H_ask_10 (inRd rfl) ?_
    refine j_cSI (mm' := mm_H_within) (As := [vI x2, vI 0, vI 1]) (rest := []) h dd_H_ask_11 (ws4 wd_328 wd_329 wd_63 wd_330) nk_H_within (rok rfl) (Nat.le_of_ble_eq_true rfl) (fun _ => rfl) (fun a4 M3 h => ?_)
    refine j_if_ne (tgt := 19) dd_H_ask_14 (by decide) (fun c => ?_) (fun c => ?_)
    · have h := h.1 c
      refine j_aload_n (j := 0) dd_H_ask_19 rfl rfl ?_
      refine j_iload_n (j := 1) dd_H_ask_20 rfl rfl ?_
      refine j_cVI (mm' := mm_H_strengthsAsSeen) (t := 0) (i := 0) (As := [vI x1]) (rest := []) h dd_H_ask_21 (ws5 wd_747 wd_749 wd_28 wd_63 wd_750) nk_H_strengthsAsSeen (rok rfl) (by unfold isW; omega) ⟨_, ce_0 _⟩ rfl (Nat.le_of_ble_eq_true rfl) (fun _ => rfl) (fun a6 M5 h => ?_)
      refine j_istore_n (j := 3) dd_H_ask_24 rfl (by decide) rfl ?_
      refine j_aload_n (j := 0) dd_H_ask_25 rfl rfl ?_
      refine j_iload_n (j := 1) dd_H_ask_26 rfl rfl ?_
      refine j_iload_n (j := 3) dd_H_ask_27 rfl rfl ?_
      refine j_cVV (mm' := mm_H_foretell) (t := 0) (i := 0) (As := [vI x1, vI a6]) (rest := []) h dd_H_ask_28 (ws5 wd_755 wd_757 wd_29 wd_63 wd_758) nk_H_foretell (rok rfl) (by unfold isW; omega) ⟨_, ce_0 _⟩ rfl (Nat.le_of_ble_eq_true rfl) (fun _ => rfl) (fun a8 M7 h => ?_)
      refine j_bipush dd_H_ask_31 rfl (inRd rfl) ?_
      refine j_istore (j := 4) dd_H_ask_33 (by decide) rfl ?_
      refine j_iload_n (j := 3) dd_H_ask_35 rfl rfl ?_
      refine j_cSI (mm' := mm_N_bitCount) (As := [vI a6]) (rest := []) h dd_H_ask_36 (ws4 wd_763 wd_764 wd_76 wd_765) nk_N_bitCount (rok rfl) (Nat.le_of_ble_eq_true rfl) (fun _ => rfl) (fun a10 M9 h => ?_)
      refine j_istore (j := 5) dd_H_ask_39 (by decide) rfl ?_
      refine j_iconst dd_H_ask_41 (inRd rfl) ?_
      refine j_istore (j := 6) dd_H_ask_42 (by decide) rfl ?_
      exact j_jump h (jsub_c rfl (jsub_c rfl (jsub_c rfl (jsub_c rfl (jsub_c rfl (jsub_c rfl jsub_0))))))
    · have h := h.2 c
      refine j_iconst dd_H_ask_17 (inRd rfl) ?_
      exact j_iret dd_H_ask_18 rfl h
theorem vc_H_ask_44 {E : EE} {Q : Int → JM → Prop} (x2 : Int) (l3 : Int) (l4 : Int) (l5 : Int) (l6 : Int) (M : JM) (h : ((20 < l6 → ((l4 ≠ (-4) → ((x2 ≠ 0 → Q l5 M) ∧ (x2 = 0 → Q l4 M))) ∧ (l4 = (-4) → Q (-4) M))) ∧ (l6 ≤ 20 → JG E mm_H_ask Q 54 [(0, vR 0 0), (2, vI x2), (3, vI l3), (4, vI l4), (5, vI l5), (6, vI l6), (7, vI 0)] [] M))) : JG E mm_H_ask Q 44 [(0, vR 0 0), (2, vI x2), (3, vI l3), (4, vI l4), (5, vI l5), (6, vI l6)] [] M := by
  refine j_iload (j := 6) dd_H_ask_44 rfl ?_
  refine j_bipush dd_H_ask_46 rfl (inRd rfl) ?_
  refine j_icmp_gt (tgt := 113) dd_H_ask_48 (by decide) (fun c => ?_) (fun c => ?_)
  · have h := h.1 c
    refine j_iload (j := 4) dd_H_ask_113 rfl ?_
    refine j_bipush dd_H_ask_115 rfl (inRd rfl) ?_
    refine j_icmp_ne (tgt := 123) dd_H_ask_117 (by decide) (fun c => ?_) (fun c => ?_)
    · have h := h.1 c
      refine j_iload_n (j := 2) dd_H_ask_123 rfl rfl ?_
      refine j_if_ne (tgt := 132) dd_H_ask_124 (by decide) (fun c => ?_) (fun c => ?_)
      · have h := h.1 c
        refine j_iload (j := 5) dd_H_ask_132 rfl ?_
        exact j_iret dd_H_ask_134 rfl h
      · have h := h.2 c
        refine j_iload (j := 4) dd_H_ask_127 rfl ?_
        refine j_goto (tgt := 134) dd_H_ask_129 (by decide) ?_
        exact j_iret dd_H_ask_134 rfl h
    · have h := h.2 c
      refine j_bipush dd_H_ask_120 rfl (inRd rfl) ?_
      exact j_iret dd_H_ask_122 rfl h
  · have h := h.2 c
    refine j_iconst dd_H_ask_51 (inRd rfl) ?_
    refine j_istore (j := 7) dd_H_ask_52 (by decide) rfl ?_
    exact j_jump h (jsub_c rfl (jsub_c rfl (jsub_c rfl (jsub_c rfl (jsub_c rfl (jsub_c rfl (jsub_c rfl jsub_0)))))))
theorem vc_H_ask_54 {E : EE} {Q : Int → JM → Prop} (x2 : Int) (l3 : Int) (l4 : Int) (l5 : Int) (l6 : Int) (l7 : Int) (M : JM) (h : ((M 3 0 3 ≤ l7 → ∀ a1 : Int, a1 = w32 (l6 + 1) → JG E mm_H_ask Q 44 [(0, vR 0 0), (2, vI x2), (3, vI l3), (4, vI l4), (5, vI l5), (6, vI a1)] [] M) ∧ (l7 < M 3 0 3 → JC E mm_H_mostAlike [vR 0 0, vI l3, vI (w32 (w32 (l6 * 4) + l7))] M (fun a3 M2 => ((l5 ≤ a3 → ∀ a4 : Int, a4 = w32 (l7 + 1) → JG E mm_H_ask Q 54 [(0, vR 0 0), (2, vI x2), (3, vI l3), (4, vI l4), (5, vI l5), (6, vI l6), (7, vI a4)] [] M2) ∧ (a3 < l5 → ∀ a5 : Int, a5 = w32 (w32 (10 * l6) + l7) → ∀ a6 : Int, a6 = w32 (l7 + 1) → JG E mm_H_ask Q 54 [(0, vR 0 0), (2, vI x2), (3, vI l3), (4, vI a5), (5, vI a3), (6, vI l6), (7, vI a6)] [] M2)))))) : JG E mm_H_ask Q 54 [(0, vR 0 0), (2, vI x2), (3, vI l3), (4, vI l4), (5, vI l5), (6, vI l6), (7, vI l7)] [] M := by
  refine j_iload (j := 7) dd_H_ask_54 rfl ?_
  refine j_aload_n (j := 0) dd_H_ask_56 rfl rfl ?_
  refine gf_0_0 dd_H_ask_57 wd_287 ?_
  refine gf_3_3 dd_H_ask_60 wd_168 ?_
  refine j_icmp_ge (tgt := 107) dd_H_ask_63 (by decide) (fun c => ?_) (fun c => ?_)
  · have h := h.1 c
    refine j_iincN dd_H_ask_107 rfl rfl (fun a1 ea1 => ?_)
    have h := h a1 ea1
    refine j_goto (tgt := 44) dd_H_ask_110 (by decide) ?_
    exact j_jump h (jsub_c rfl (jsub_c rfl (jsub_c rfl (jsub_c rfl (jsub_c rfl (jsub_c rfl jsub_0))))))
  · have h := h.2 c
    refine j_aload_n (j := 0) dd_H_ask_66 rfl rfl ?_
    refine j_iload_n (j := 3) dd_H_ask_67 rfl rfl ?_
    refine j_iload (j := 6) dd_H_ask_68 rfl ?_
    refine j_iconst dd_H_ask_70 (inRd rfl) ?_
    refine j_imul dd_H_ask_71 ?_
    refine j_iload (j := 7) dd_H_ask_72 rfl ?_
    refine j_iadd dd_H_ask_74 ?_
    refine j_cVI (mm' := mm_H_mostAlike) (t := 0) (i := 0) (As := [vI l3, vI (w32 (w32 (l6 * 4) + l7))]) (rest := []) h dd_H_ask_75 (ws5 wd_769 wd_771 wd_31 wd_63 wd_772) nk_H_mostAlike (rok rfl) (by unfold isW; omega) ⟨_, ce_0 _⟩ rfl (Nat.le_of_ble_eq_true rfl) (fun _ => rfl) (fun a3 M2 h => ?_)
    refine j_istore (j := 8) dd_H_ask_78 (by decide) rfl ?_
    refine j_iload (j := 8) dd_H_ask_80 rfl ?_
    refine j_iload (j := 5) dd_H_ask_82 rfl ?_
    refine j_icmp_ge (tgt := 101) dd_H_ask_84 (by decide) (fun c => ?_) (fun c => ?_)
    · have h := h.1 c
      refine j_iincN dd_H_ask_101 rfl rfl (fun a4 ea4 => ?_)
      have h := h a4 ea4
      refine j_goto (tgt := 54) dd_H_ask_104 (by decide) ?_
      exact j_jump h (jsub_c rfl (jsub_c rfl (jsub_c rfl (jsub_c rfl (jsub_c rfl (jsub_c rfl (jsub_c rfl jsub_0)))))))
    · have h := h.2 c
      refine j_bipush dd_H_ask_87 rfl (inRd rfl) ?_
      refine j_iload (j := 6) dd_H_ask_89 rfl ?_
      refine j_imul dd_H_ask_91 ?_
      refine j_iload (j := 7) dd_H_ask_92 rfl ?_
      refine j_iadd dd_H_ask_94 ?_
      refine j_topI (fun a5 ea5 => ?_)
      have h := h a5 ea5
      refine j_istore (j := 4) dd_H_ask_95 (by decide) rfl ?_
      refine j_iload (j := 8) dd_H_ask_97 rfl ?_
      refine j_istore (j := 5) dd_H_ask_99 (by decide) rfl ?_
      refine j_iincN dd_H_ask_101 rfl rfl (fun a6 ea6 => ?_)
      have h := h a6 ea6
      refine j_goto (tgt := 54) dd_H_ask_104 (by decide) ?_
      exact j_jump h (jsub_c rfl (jsub_c rfl (jsub_c rfl (jsub_c rfl (jsub_c rfl (jsub_c rfl (jsub_c rfl jsub_0)))))))
theorem vc_H_drift {E : EE} {Q : Int → JM → Prop} (x1 : Int) (x2 : Int) (x3 : Int) (M : JM) (h : JC E mm_H_within [vI x2, vI 1, vI 60] M (fun a2 M1 => ((a2 = 0 → Q (-1) M1) ∧ (a2 ≠ 0 → JC E mm_H_within [vI x3, vI 0, vI 1] M1 (fun a4 M3 => ((a4 ≠ 0 → ((M3 3 0 2 ≠ 0 → JC E mm_T_copyFrom [vR 3 1, vR 3 0] M3 (fun a6 M5 => JG E mm_H_drift Q 51 [(0, vR 0 0), (2, vI x2), (3, vI x3), (4, vI x1), (5, vI 0)] [] M5)) ∧ (M3 3 0 2 = 0 → Q (-2) M3))) ∧ (a4 = 0 → Q (-1) M3))))))) : JC E mm_H_drift [vR 0 0, vI x1, vI x2, vI x3] M Q := by
  refine j_entry (L0 := [(0, vR 0 0), (1, vI x1), (2, vI x2), (3, vI x3)]) pn_H (Nat.le_of_ble_eq_true rfl) rfl ?_
  refine j_iload_n (j := 2) dd_H_drift_0 rfl rfl ?_
  refine j_iconst dd_H_drift_1 (inRd rfl) ?_
  refine j_bipush dd_H_drift_2 rfl (inRd rfl) ?_
  refine j_cSI (mm' := mm_H_within) (As := [vI x2, vI 1, vI 60]) (rest := []) h dd_H_drift_4 (ws4 wd_328 wd_329 wd_63 wd_330) nk_H_within (rok rfl) (Nat.le_of_ble_eq_true rfl) (fun _ => rfl) (fun a2 M1 h => ?_)
  refine j_if_eq (tgt := 19) dd_H_drift_7 (by decide) (fun c => ?_) (fun c => ?_)
  · have h := h.1 c
    refine j_iconst dd_H_drift_19 (inRd rfl) ?_
    exact j_iret dd_H_drift_20 rfl h
  · have h := h.2 c
    refine j_iload_n (j := 3) dd_H_drift_10 rfl rfl ?_
    refine j_iconst dd_H_drift_11 (inRd rfl) ?_
    refine j_iconst dd_H_drift_12 (inRd rfl) ?_
    refine j_cSI (mm' := mm_H_within) (As := [vI x3, vI 0, vI 1]) (rest := []) h dd_H_drift_13 (ws4 wd_328 wd_329 wd_63 wd_330) nk_H_within (rok rfl) (Nat.le_of_ble_eq_true rfl) (fun _ => rfl) (fun a4 M3 h => ?_)
    refine j_if_ne (tgt := 21) dd_H_drift_16 (by decide) (fun c => ?_) (fun c => ?_)
    · have h := h.1 c
      refine j_aload_n (j := 0) dd_H_drift_21 rfl rfl ?_
      refine gf_0_0 dd_H_drift_22 wd_287 ?_
      refine gf_3_2 dd_H_drift_25 wd_165 ?_
      refine j_if_ne (tgt := 34) dd_H_drift_28 (by decide) (fun c => ?_) (fun c => ?_)
      · have h := h.1 c
        refine j_aload_n (j := 0) dd_H_drift_34 rfl rfl ?_
        refine gf_0_1 dd_H_drift_35 wd_288 ?_
        refine j_aload_n (j := 0) dd_H_drift_38 rfl rfl ?_
        refine gf_0_0 dd_H_drift_39 wd_287 ?_
        refine j_cVV (mm' := mm_T_copyFrom) (t := 3) (i := 1) (As := [vR 3 0]) (rest := []) h dd_H_drift_42 (ws5 wd_479 wd_480 wd_481 wd_64 wd_482) nk_T_copyFrom (rok rfl) (by unfold isW; omega) ⟨_, ce_3 _⟩ rfl (Nat.le_of_ble_eq_true rfl) (fun _ => rfl) (fun a6 M5 h => ?_)
        refine j_iload_n (j := 1) dd_H_drift_45 rfl rfl ?_
        refine j_istore (j := 4) dd_H_drift_46 (by decide) rfl ?_
        refine j_iconst dd_H_drift_48 (inRd rfl) ?_
        refine j_istore (j := 5) dd_H_drift_49 (by decide) rfl ?_
        exact j_jump h (jsub_c rfl (jsub_c rfl (jsub_c rfl (jsub_c rfl (jsub_c rfl jsub_0)))))
      · have h := h.2 c
        refine j_bipush dd_H_drift_31 rfl (inRd rfl) ?_
        exact j_iret dd_H_drift_33 rfl h
    · have h := h.2 c
      refine j_iconst dd_H_drift_19 (inRd rfl) ?_
      exact j_iret dd_H_drift_20 rfl h
theorem vc_H_drift_51 {E : EE} {Q : Int → JM → Prop} (x2 : Int) (x3 : Int) (l4 : Int) (l5 : Int) (M : JM) (h : ((x2 ≤ l5 → ((x3 ≠ 0 → Q (M 3 1 8) M) ∧ (x3 = 0 → JC E mm_T_wagesOfAll [vR 3 1] M (fun a2 M1 => JC E mm_T_wagesOfAll [vR 3 0] M1 (fun a4 M3 => Q (w32 (a2 - a4)) M3))))) ∧ (l5 < x2 → ∀ a5 : Int, a5 = w32 (w32 (l4 * 1103515245) + 12345) → ∀ a6 : Int, a6 = and32 (ush32 a5 16) 32767 → (M 3 0 2 ≠ 0) ∧ (0 ≤ w32 (Int.tmod (w32 (Int.tdiv a6 8)) (M 3 0 2)) ∧ w32 (Int.tmod (w32 (Int.tdiv a6 8)) (M 3 0 2)) < 8) ∧ JC E mm_G_become [vR 1 (8 * 1 + (w32 (Int.tmod (w32 (Int.tdiv a6 8)) (M 3 0 2))).toNat), vI (M 1 (8 * 1 + (w32 (Int.tmod (w32 (Int.tdiv a6 8)) (M 3 0 2))).toNat) 0), vI (w32 (1 + (w32 (Int.tmod (w32 (Int.tdiv a6 64)) 9)))), vI (M 1 (8 * 1 + (w32 (Int.tmod (w32 (Int.tdiv a6 8)) (M 3 0 2))).toNat) 2)] M (fun a8 M7 => ∀ M9 : JM, M9 = pt M7 3 1 4 (w32 (Int.tmod a6 7)) → JC E mm_T_passWeek [vR 3 1, vI 0] M9 (fun a11 M10 => ∀ a12 : Int, a12 = w32 (l5 + 1) → JG E mm_H_drift Q 51 [(0, vR 0 0), (2, vI x2), (3, vI x3), (4, vI a5), (5, vI a12)] [] M10))))) : JG E mm_H_drift Q 51 [(0, vR 0 0), (2, vI x2), (3, vI x3), (4, vI l4), (5, vI l5)] [] M := by
  refine j_iload (j := 5) dd_H_drift_51 rfl ?_
  refine j_iload_n (j := 2) dd_H_drift_53 rfl rfl ?_
  refine j_icmp_ge (tgt := 154) dd_H_drift_54 (by decide) (fun c => ?_) (fun c => ?_)
  · have h := h.1 c
    refine j_iload_n (j := 3) dd_H_drift_154 rfl rfl ?_
    refine j_if_ne (tgt := 176) dd_H_drift_155 (by decide) (fun c => ?_) (fun c => ?_)
    · have h := h.1 c
      refine j_aload_n (j := 0) dd_H_drift_176 rfl rfl ?_
      refine gf_0_1 dd_H_drift_177 wd_288 ?_
      refine gf_3_8 dd_H_drift_180 wd_180 ?_
      exact j_iret dd_H_drift_183 rfl h
    · have h := h.2 c
      refine j_aload_n (j := 0) dd_H_drift_158 rfl rfl ?_
      refine gf_0_1 dd_H_drift_159 wd_288 ?_
      refine j_cVI (mm' := mm_T_wagesOfAll) (t := 3) (i := 1) (As := []) (rest := []) h dd_H_drift_162 (ws5 wd_504 wd_505 wd_506 wd_64 wd_507) nk_T_wagesOfAll (rok rfl) (by unfold isW; omega) ⟨_, ce_3 _⟩ rfl (Nat.le_of_ble_eq_true rfl) (fun _ => rfl) (fun a2 M1 h => ?_)
      refine j_aload_n (j := 0) dd_H_drift_165 rfl rfl ?_
      refine gf_0_0 dd_H_drift_166 wd_287 ?_
      refine j_cVI (mm' := mm_T_wagesOfAll) (t := 3) (i := 0) (As := []) (rest := [vI a2]) h dd_H_drift_169 (ws5 wd_504 wd_505 wd_506 wd_64 wd_507) nk_T_wagesOfAll (rok rfl) (by unfold isW; omega) ⟨_, ce_3 _⟩ rfl (Nat.le_of_ble_eq_true rfl) (fun _ => rfl) (fun a4 M3 h => ?_)
      refine j_isub dd_H_drift_172 ?_
      refine j_goto (tgt := 183) dd_H_drift_173 (by decide) ?_
      exact j_iret dd_H_drift_183 rfl h
  · have h := h.2 c
    refine j_iload (j := 4) dd_H_drift_57 rfl ?_
    refine j_ldcw (x := 1103515245) dd_H_drift_59 wd_781 rfl (inRd rfl) ?_
    refine j_imul dd_H_drift_62 ?_
    refine j_sipush dd_H_drift_63 rfl (inRd rfl) ?_
    refine j_iadd dd_H_drift_66 ?_
    refine j_topI (fun a5 ea5 => ?_)
    have h := h a5 ea5
    refine j_istore (j := 4) dd_H_drift_67 (by decide) rfl ?_
    refine j_iload (j := 4) dd_H_drift_69 rfl ?_
    refine j_bipush dd_H_drift_71 rfl (inRd rfl) ?_
    refine j_iushr dd_H_drift_73 ?_
    refine j_sipush dd_H_drift_74 rfl (inRd rfl) ?_
    refine j_iand dd_H_drift_77 ?_
    refine j_topI (fun a6 ea6 => ?_)
    have h := h a6 ea6
    refine j_istore (j := 6) dd_H_drift_78 (by decide) rfl ?_
    refine j_aload_n (j := 0) dd_H_drift_80 rfl rfl ?_
    refine gf_0_1 dd_H_drift_81 wd_288 ?_
    refine gf_3_0 dd_H_drift_84 wd_160 ?_
    refine j_iload (j := 6) dd_H_drift_87 rfl ?_
    refine j_bipush dd_H_drift_89 rfl (inRd rfl) ?_
    refine j_idiv dd_H_drift_91 (by decide) ?_
    refine j_aload_n (j := 0) dd_H_drift_92 rfl rfl ?_
    refine gf_0_0 dd_H_drift_93 wd_287 ?_
    refine gf_3_2 dd_H_drift_96 wd_165 ?_
    refine j_irem dd_H_drift_99 h.1 ?_
    have h := h.2
    refine ld_4 dd_H_drift_100 h.1 ?_
    have h := h.2
    refine j_astore (j := 7) dd_H_drift_101 (by decide) rfl ?_
    refine j_aload (j := 7) dd_H_drift_103 rfl ?_
    refine j_aload (j := 7) dd_H_drift_105 rfl ?_
    refine gf_1_0 dd_H_drift_107 wd_101 ?_
    refine j_iconst dd_H_drift_110 (inRd rfl) ?_
    refine j_iload (j := 6) dd_H_drift_111 rfl ?_
    refine j_bipush dd_H_drift_113 rfl (inRd rfl) ?_
    refine j_idiv dd_H_drift_115 (by decide) ?_
    refine j_bipush dd_H_drift_116 rfl (inRd rfl) ?_
    refine j_irem dd_H_drift_118 (by decide) ?_
    refine j_iadd dd_H_drift_119 ?_
    refine j_aload (j := 7) dd_H_drift_120 rfl ?_
    refine gf_1_2 dd_H_drift_122 wd_105 ?_
    refine j_cVV (mm' := mm_G_become) (t := 1) (i := (8 * 1 + (w32 (Int.tmod (w32 (Int.tdiv a6 8)) (M 3 0 2))).toNat)) (As := [vI (M 1 (8 * 1 + (w32 (Int.tmod (w32 (Int.tdiv a6 8)) (M 3 0 2))).toNat) 0), vI (w32 (1 + (w32 (Int.tmod (w32 (Int.tdiv a6 64)) 9)))), vI (M 1 (8 * 1 + (w32 (Int.tmod (w32 (Int.tdiv a6 8)) (M 3 0 2))).toNat) 2)]) (rest := []) h dd_H_drift_125 (ws5 wd_546 wd_457 wd_458 wd_65 wd_459) nk_G_become (rok rfl) (by unfold isW; omega) ⟨_, ce_1 _⟩ rfl (Nat.le_of_ble_eq_true rfl) (fun _ => rfl) (fun a8 M7 h => ?_)
    refine j_aload_n (j := 0) dd_H_drift_128 rfl rfl ?_
    refine gf_0_1 dd_H_drift_129 wd_288 ?_
    refine j_iload (j := 6) dd_H_drift_132 rfl ?_
    refine j_bipush dd_H_drift_134 rfl (inRd rfl) ?_
    refine j_irem dd_H_drift_136 (by decide) ?_
    refine pf_3_4 dd_H_drift_137 wd_171 (fun M9 eM9 => ?_)
    have h := h M9 eM9
    refine j_aload_n (j := 0) dd_H_drift_140 rfl rfl ?_
    refine gf_0_1 dd_H_drift_141 wd_288 ?_
    refine j_iconst dd_H_drift_144 (inRd rfl) ?_
    refine j_cVV (mm' := mm_T_passWeek) (t := 3) (i := 1) (As := [vI 0]) (rest := []) h dd_H_drift_145 (ws5 wd_620 wd_587 wd_588 wd_64 wd_589) nk_T_passWeek (rok rfl) (by unfold isW; omega) ⟨_, ce_3 _⟩ rfl (Nat.le_of_ble_eq_true rfl) (fun _ => rfl) (fun a11 M10 h => ?_)
    refine j_iincN dd_H_drift_148 rfl rfl (fun a12 ea12 => ?_)
    have h := h a12 ea12
    refine j_goto (tgt := 51) dd_H_drift_151 (by decide) ?_
    exact j_jump h (jsub_c rfl (jsub_c rfl (jsub_c rfl (jsub_c rfl (jsub_c rfl jsub_0)))))
theorem vc_H_keep {E : EE} {Q : Int → JM → Prop} (x1 : Int) (M : JM) (h : JC E mm_H_within [vI x1, vI 0, vI 1] M (fun a2 M1 => ((a2 ≠ 0 → (0 ≤ x1 ∧ x1 < 2) ∧ ((M1 12 0 x1.toNat = 0 → JG E mm_H_keep Q 25 [(0, vR 0 0), (1, vI x1)] [vI 0] M1) ∧ (M1 12 0 x1.toNat ≠ 0 → JG E mm_H_keep Q 25 [(0, vR 0 0), (1, vI x1)] [vI 1] M1))) ∧ (a2 = 0 → Q (-1) M1)))) : JC E mm_H_keep [vR 0 0, vI x1] M Q := by
  refine j_entry (L0 := [(0, vR 0 0), (1, vI x1)]) pn_H (Nat.le_of_ble_eq_true rfl) rfl ?_
  refine j_iload_n (j := 1) dd_H_keep_0 rfl rfl ?_
  refine j_iconst dd_H_keep_1 (inRd rfl) ?_
  refine j_iconst dd_H_keep_2 (inRd rfl) ?_
  refine j_cSI (mm' := mm_H_within) (As := [vI x1, vI 0, vI 1]) (rest := []) h dd_H_keep_3 (ws4 wd_328 wd_329 wd_63 wd_330) nk_H_within (rok rfl) (Nat.le_of_ble_eq_true rfl) (fun _ => rfl) (fun a2 M1 h => ?_)
  refine j_if_ne (tgt := 11) dd_H_keep_6 (by decide) (fun c => ?_) (fun c => ?_)
  · have h := h.1 c
    refine j_aload_n (j := 0) dd_H_keep_11 rfl rfl ?_
    refine gf_0_4 dd_H_keep_12 wd_291 ?_
    refine j_iload_n (j := 1) dd_H_keep_15 rfl rfl ?_
    refine ld_12 dd_H_keep_16 h.1 ?_
    have h := h.2
    refine j_if_eq (tgt := 24) dd_H_keep_17 (by decide) (fun c => ?_) (fun c => ?_)
    · have h := h.1 c
      refine j_iconst dd_H_keep_24 (inRd rfl) ?_
      exact j_jump h (jsub_c rfl (jsub_c rfl jsub_0))
    · have h := h.2 c
      refine j_iconst dd_H_keep_20 (inRd rfl) ?_
      refine j_goto (tgt := 25) dd_H_keep_21 (by decide) ?_
      exact j_jump h (jsub_c rfl (jsub_c rfl jsub_0))
  · have h := h.2 c
    refine j_iconst dd_H_keep_9 (inRd rfl) ?_
    exact j_iret dd_H_keep_10 rfl h
theorem vc_H_keep_25 {E : EE} {Q : Int → JM → Prop} (x1 : Int) (s0 : Int) (M : JM) (h : (0 ≤ x1 ∧ x1 < 2) ∧ JC E mm_T_copyFrom [vR 3 (3 + x1.toNat), vR 3 0] M (fun a2 M1 => (0 ≤ x1 ∧ x1 < 2) ∧ ∀ M3 : JM, M3 = pt M1 12 0 x1.toNat 1 → Q s0 M3)) : JG E mm_H_keep Q 25 [(0, vR 0 0), (1, vI x1)] [vI s0] M := by
  refine j_istore_n (j := 2) dd_H_keep_25 rfl (by decide) rfl ?_
  refine j_aload_n (j := 0) dd_H_keep_26 rfl rfl ?_
  refine gf_0_3 dd_H_keep_27 wd_290 ?_
  refine j_iload_n (j := 1) dd_H_keep_30 rfl rfl ?_
  refine ld_11 dd_H_keep_31 h.1 ?_
  have h := h.2
  refine j_aload_n (j := 0) dd_H_keep_32 rfl rfl ?_
  refine gf_0_0 dd_H_keep_33 wd_287 ?_
  refine j_cVV (mm' := mm_T_copyFrom) (t := 3) (i := (3 + x1.toNat)) (As := [vR 3 0]) (rest := []) h dd_H_keep_36 (ws5 wd_479 wd_480 wd_481 wd_64 wd_482) nk_T_copyFrom (rok rfl) (by unfold isW; omega) ⟨_, ce_3 _⟩ rfl (Nat.le_of_ble_eq_true rfl) (fun _ => rfl) (fun a2 M1 h => ?_)
  refine j_aload_n (j := 0) dd_H_keep_39 rfl rfl ?_
  refine gf_0_4 dd_H_keep_40 wd_291 ?_
  refine j_iload_n (j := 1) dd_H_keep_43 rfl rfl ?_
  refine j_iconst dd_H_keep_44 (inRd rfl) ?_
  refine st_12 dd_H_keep_45 h.1 (Or.inr rfl) (fun M3 eM3 => ?_)
  have h := h.2
  have h := h M3 eM3
  refine j_iload_n (j := 2) dd_H_keep_46 rfl rfl ?_
  exact j_iret dd_H_keep_47 rfl h
theorem vc_H_back {E : EE} {Q : Int → JM → Prop} (x1 : Int) (M : JM) (h : JC E mm_H_within [vI x1, vI 0, vI 1] M (fun a2 M1 => ((a2 ≠ 0 → (0 ≤ x1 ∧ x1 < 2) ∧ ((M1 12 0 x1.toNat ≠ 0 → (0 ≤ x1 ∧ x1 < 2) ∧ JC E mm_T_copyFrom [vR 3 0, vR 3 (3 + x1.toNat)] M1 (fun a4 M3 => Q (M3 3 0 6) M3)) ∧ (M1 12 0 x1.toNat = 0 → Q (-2) M1))) ∧ (a2 = 0 → Q (-1) M1)))) : JC E mm_H_back [vR 0 0, vI x1] M Q := by
  refine j_entry (L0 := [(0, vR 0 0), (1, vI x1)]) pn_H (Nat.le_of_ble_eq_true rfl) rfl ?_
  refine j_iload_n (j := 1) dd_H_back_0 rfl rfl ?_
  refine j_iconst dd_H_back_1 (inRd rfl) ?_
  refine j_iconst dd_H_back_2 (inRd rfl) ?_
  refine j_cSI (mm' := mm_H_within) (As := [vI x1, vI 0, vI 1]) (rest := []) h dd_H_back_3 (ws4 wd_328 wd_329 wd_63 wd_330) nk_H_within (rok rfl) (Nat.le_of_ble_eq_true rfl) (fun _ => rfl) (fun a2 M1 h => ?_)
  refine j_if_ne (tgt := 11) dd_H_back_6 (by decide) (fun c => ?_) (fun c => ?_)
  · have h := h.1 c
    refine j_aload_n (j := 0) dd_H_back_11 rfl rfl ?_
    refine gf_0_4 dd_H_back_12 wd_291 ?_
    refine j_iload_n (j := 1) dd_H_back_15 rfl rfl ?_
    refine ld_12 dd_H_back_16 h.1 ?_
    have h := h.2
    refine j_if_ne (tgt := 23) dd_H_back_17 (by decide) (fun c => ?_) (fun c => ?_)
    · have h := h.1 c
      refine j_aload_n (j := 0) dd_H_back_23 rfl rfl ?_
      refine gf_0_0 dd_H_back_24 wd_287 ?_
      refine j_aload_n (j := 0) dd_H_back_27 rfl rfl ?_
      refine gf_0_3 dd_H_back_28 wd_290 ?_
      refine j_iload_n (j := 1) dd_H_back_31 rfl rfl ?_
      refine ld_11 dd_H_back_32 h.1 ?_
      have h := h.2
      refine j_cVV (mm' := mm_T_copyFrom) (t := 3) (i := 0) (As := [vR 3 (3 + x1.toNat)]) (rest := []) h dd_H_back_33 (ws5 wd_479 wd_480 wd_481 wd_64 wd_482) nk_T_copyFrom (rok rfl) (by unfold isW; omega) ⟨_, ce_3 _⟩ rfl (Nat.le_of_ble_eq_true rfl) (fun _ => rfl) (fun a4 M3 h => ?_)
      refine j_aload_n (j := 0) dd_H_back_36 rfl rfl ?_
      refine gf_0_0 dd_H_back_37 wd_287 ?_
      refine gf_3_6 dd_H_back_40 wd_176 ?_
      exact j_iret dd_H_back_43 rfl h
    · have h := h.2 c
      refine j_bipush dd_H_back_20 rfl (inRd rfl) ?_
      exact j_iret dd_H_back_22 rfl h
  · have h := h.2 c
    refine j_iconst dd_H_back_9 (inRd rfl) ?_
    exact j_iret dd_H_back_10 rfl h
theorem vc_H_sheet {E : EE} {Q : Int → JM → Prop} (x1 : Int) (x2 : Int) (x3 : Int) (M : JM) (h : JC E mm_H_isSheet [vI x1] M (fun a2 M1 => ((a2 = 0 → Q (-1) M1) ∧ (a2 ≠ 0 → JC E mm_H_isLane [vI x2] M1 (fun a4 M3 => ((a4 = 0 → Q (-1) M3) ∧ (a4 ≠ 0 → ((x3 ≤ 40 → ((0 ≤ x3 → (0 ≤ x1 ∧ x1 < 4) ∧ JC E mm_S_becomeRow [vR 6 x1.toNat, vI x2, vI x3] M3 (fun a6 M5 => Q 1 M5)) ∧ (x3 < 0 → Q (-14) M3))) ∧ (40 < x3 → Q (-1) M3))))))))) : JC E mm_H_sheet [vR 0 0, vI x1, vI x2, vI x3] M Q := by
  refine j_entry (L0 := [(0, vR 0 0), (1, vI x1), (2, vI x2), (3, vI x3)]) pn_H (Nat.le_of_ble_eq_true rfl) rfl ?_
  refine j_iload_n (j := 1) dd_H_sheet_0 rfl rfl ?_
  refine j_cSI (mm' := mm_H_isSheet) (As := [vI x1]) (rest := []) h dd_H_sheet_1 (ws4 wd_794 wd_795 wd_63 wd_796) nk_H_isSheet (rok rfl) (Nat.le_of_ble_eq_true rfl) (fun _ => rfl) (fun a2 M1 h => ?_)
  refine j_if_eq (tgt := 20) dd_H_sheet_4 (by decide) (fun c => ?_) (fun c => ?_)
  · have h := h.1 c
    refine j_iconst dd_H_sheet_20 (inRd rfl) ?_
    exact j_iret dd_H_sheet_21 rfl h
  · have h := h.2 c
    refine j_iload_n (j := 2) dd_H_sheet_7 rfl rfl ?_
    refine j_cSI (mm' := mm_H_isLane) (As := [vI x2]) (rest := []) h dd_H_sheet_8 (ws4 wd_797 wd_798 wd_63 wd_799) nk_H_isLane (rok rfl) (Nat.le_of_ble_eq_true rfl) (fun _ => rfl) (fun a4 M3 h => ?_)
    refine j_if_eq (tgt := 20) dd_H_sheet_11 (by decide) (fun c => ?_) (fun c => ?_)
    · have h := h.1 c
      refine j_iconst dd_H_sheet_20 (inRd rfl) ?_
      exact j_iret dd_H_sheet_21 rfl h
    · have h := h.2 c
      refine j_iload_n (j := 3) dd_H_sheet_14 rfl rfl ?_
      refine j_bipush dd_H_sheet_15 rfl (inRd rfl) ?_
      refine j_icmp_le (tgt := 22) dd_H_sheet_17 (by decide) (fun c => ?_) (fun c => ?_)
      · have h := h.1 c
        refine j_iload_n (j := 3) dd_H_sheet_22 rfl rfl ?_
        refine j_if_ge (tgt := 29) dd_H_sheet_23 (by decide) (fun c => ?_) (fun c => ?_)
        · have h := h.1 c
          refine j_aload_n (j := 0) dd_H_sheet_29 rfl rfl ?_
          refine gf_0_6 dd_H_sheet_30 wd_293 ?_
          refine j_iload_n (j := 1) dd_H_sheet_33 rfl rfl ?_
          refine ld_13 dd_H_sheet_34 h.1 ?_
          have h := h.2
          refine j_iload_n (j := 2) dd_H_sheet_35 rfl rfl ?_
          refine j_iload_n (j := 3) dd_H_sheet_36 rfl rfl ?_
          refine j_cVV (mm' := mm_S_becomeRow) (t := 6) (i := x1.toNat) (As := [vI x2, vI x3]) (rest := []) h dd_H_sheet_37 (ws5 wd_800 wd_801 wd_802 wd_68 wd_803) nk_S_becomeRow (rok rfl) (by unfold isW; omega) ⟨_, ce_6 _⟩ rfl (Nat.le_of_ble_eq_true rfl) (fun _ => rfl) (fun a6 M5 h => ?_)
          refine j_iconst dd_H_sheet_40 (inRd rfl) ?_
          exact j_iret dd_H_sheet_41 rfl h
        · have h := h.2 c
          refine j_bipush dd_H_sheet_26 rfl (inRd rfl) ?_
          exact j_iret dd_H_sheet_28 rfl h
      · have h := h.2 c
        refine j_iconst dd_H_sheet_20 (inRd rfl) ?_
        exact j_iret dd_H_sheet_21 rfl h
theorem vc_H_lay {E : EE} {Q : Int → JM → Prop} (x1 : Int) (x2 : Int) (x3 : Int) (M : JM) (h : JC E mm_H_isSheet [vI x1] M (fun a2 M1 => ((a2 ≠ 0 → (0 ≤ x1 ∧ x1 < 4) ∧ (0 ≤ x1 ∧ x1 < 4) ∧ JC E mm_S_faultOfCells [vR 6 x1.toNat, vI (M1 6 x1.toNat 1), vI x2, vI 1] M1 (fun a4 M3 => ((a4 = 0 → (0 ≤ x1 ∧ x1 < 4) ∧ JC E mm_S_putCell [vR 6 x1.toNat, vI x2, vI x3] M3 (fun a6 M5 => Q 1 M5)) ∧ (a4 ≠ 0 → Q (w32 ((-10) - a4)) M3)))) ∧ (a2 = 0 → Q (-1) M1)))) : JC E mm_H_lay [vR 0 0, vI x1, vI x2, vI x3] M Q := by
  refine j_entry (L0 := [(0, vR 0 0), (1, vI x1), (2, vI x2), (3, vI x3)]) pn_H (Nat.le_of_ble_eq_true rfl) rfl ?_
  refine j_iload_n (j := 1) dd_H_lay_0 rfl rfl ?_
  refine j_cSI (mm' := mm_H_isSheet) (As := [vI x1]) (rest := []) h dd_H_lay_1 (ws4 wd_794 wd_795 wd_63 wd_796) nk_H_isSheet (rok rfl) (Nat.le_of_ble_eq_true rfl) (fun _ => rfl) (fun a2 M1 h => ?_)
  refine j_if_ne (tgt := 9) dd_H_lay_4 (by decide) (fun c => ?_) (fun c => ?_)
  · have h := h.1 c
    refine j_aload_n (j := 0) dd_H_lay_9 rfl rfl ?_
    refine gf_0_6 dd_H_lay_10 wd_293 ?_
    refine j_iload_n (j := 1) dd_H_lay_13 rfl rfl ?_
    refine ld_13 dd_H_lay_14 h.1 ?_
    have h := h.2
    refine j_aload_n (j := 0) dd_H_lay_15 rfl rfl ?_
    refine gf_0_6 dd_H_lay_16 wd_293 ?_
    refine j_iload_n (j := 1) dd_H_lay_19 rfl rfl ?_
    refine ld_13 dd_H_lay_20 h.1 ?_
    have h := h.2
    refine gf_6_1 dd_H_lay_21 wd_259 ?_
    refine j_iload_n (j := 2) dd_H_lay_24 rfl rfl ?_
    refine j_iconst dd_H_lay_25 (inRd rfl) ?_
    refine j_cVI (mm' := mm_S_faultOfCells) (t := 6) (i := x1.toNat) (As := [vI (M1 6 x1.toNat 1), vI x2, vI 1]) (rest := []) h dd_H_lay_26 (ws5 wd_808 wd_809 wd_810 wd_68 wd_811) nk_S_faultOfCells (rok rfl) (by unfold isW; omega) ⟨_, ce_6 _⟩ rfl (Nat.le_of_ble_eq_true rfl) (fun _ => rfl) (fun a4 M3 h => ?_)
    refine j_istore (j := 4) dd_H_lay_29 (by decide) rfl ?_
    refine j_iload (j := 4) dd_H_lay_31 rfl ?_
    refine j_if_eq (tgt := 42) dd_H_lay_33 (by decide) (fun c => ?_) (fun c => ?_)
    · have h := h.1 c
      refine j_aload_n (j := 0) dd_H_lay_42 rfl rfl ?_
      refine gf_0_6 dd_H_lay_43 wd_293 ?_
      refine j_iload_n (j := 1) dd_H_lay_46 rfl rfl ?_
      refine ld_13 dd_H_lay_47 h.1 ?_
      have h := h.2
      refine j_iload_n (j := 2) dd_H_lay_48 rfl rfl ?_
      refine j_iload_n (j := 3) dd_H_lay_49 rfl rfl ?_
      refine j_cVV (mm' := mm_S_putCell) (t := 6) (i := x1.toNat) (As := [vI x2, vI x3]) (rest := []) h dd_H_lay_50 (ws5 wd_813 wd_814 wd_815 wd_68 wd_816) nk_S_putCell (rok rfl) (by unfold isW; omega) ⟨_, ce_6 _⟩ rfl (Nat.le_of_ble_eq_true rfl) (fun _ => rfl) (fun a6 M5 h => ?_)
      refine j_iconst dd_H_lay_53 (inRd rfl) ?_
      exact j_iret dd_H_lay_54 rfl h
    · have h := h.2 c
      refine j_bipush dd_H_lay_36 rfl (inRd rfl) ?_
      refine j_iload (j := 4) dd_H_lay_38 rfl ?_
      refine j_isub dd_H_lay_40 ?_
      exact j_iret dd_H_lay_41 rfl h
  · have h := h.2 c
    refine j_iconst dd_H_lay_7 (inRd rfl) ?_
    exact j_iret dd_H_lay_8 rfl h
theorem vc_H_read {E : EE} {Q : Int → JM → Prop} (x1 : Int) (x2 : Int) (x3 : Int) (x4 : Int) (M : JM) (h : JC E mm_H_isSheet [vI x1] M (fun a2 M1 => ((a2 = 0 → Q (-1) M1) ∧ (a2 ≠ 0 → JC E mm_H_isLane [vI x2] M1 (fun a4 M3 => ((a4 = 0 → Q (-1) M3) ∧ (a4 ≠ 0 → JC E mm_H_within [vI x4, vI 0, vI 13] M3 (fun a6 M5 => ((a6 ≠ 0 → (0 ≤ x1 ∧ x1 < 4) ∧ ∀ a7 : Int, a7 = M5 3 0 2 → JG E mm_H_read Q 47 [(0, vR 0 0), (2, vI x2), (3, vI x3), (4, vI x4), (5, vR 6 x1.toNat), (6, vI a7), (7, vI 0)] [] M5) ∧ (a6 = 0 → Q (-1) M5)))))))))) : JC E mm_H_read [vR 0 0, vI x1, vI x2, vI x3, vI x4] M Q := by
  refine j_entry (L0 := [(0, vR 0 0), (1, vI x1), (2, vI x2), (3, vI x3), (4, vI x4)]) pn_H (Nat.le_of_ble_eq_true rfl) rfl ?_
  refine j_iload_n (j := 1) dd_H_read_0 rfl rfl ?_
  refine j_cSI (mm' := mm_H_isSheet) (As := [vI x1]) (rest := []) h dd_H_read_1 (ws4 wd_794 wd_795 wd_63 wd_796) nk_H_isSheet (rok rfl) (Nat.le_of_ble_eq_true rfl) (fun _ => rfl) (fun a2 M1 h => ?_)
  refine j_if_eq (tgt := 25) dd_H_read_4 (by decide) (fun c => ?_) (fun c => ?_)
  · have h := h.1 c
    refine j_iconst dd_H_read_25 (inRd rfl) ?_
    exact j_iret dd_H_read_26 rfl h
  · have h := h.2 c
    refine j_iload_n (j := 2) dd_H_read_7 rfl rfl ?_
    refine j_cSI (mm' := mm_H_isLane) (As := [vI x2]) (rest := []) h dd_H_read_8 (ws4 wd_797 wd_798 wd_63 wd_799) nk_H_isLane (rok rfl) (Nat.le_of_ble_eq_true rfl) (fun _ => rfl) (fun a4 M3 h => ?_)
    refine j_if_eq (tgt := 25) dd_H_read_11 (by decide) (fun c => ?_) (fun c => ?_)
    · have h := h.1 c
      refine j_iconst dd_H_read_25 (inRd rfl) ?_
      exact j_iret dd_H_read_26 rfl h
    · have h := h.2 c
      refine j_iload (j := 4) dd_H_read_14 rfl ?_
      refine j_iconst dd_H_read_16 (inRd rfl) ?_
      refine j_bipush dd_H_read_17 rfl (inRd rfl) ?_
      refine j_cSI (mm' := mm_H_within) (As := [vI x4, vI 0, vI 13]) (rest := []) h dd_H_read_19 (ws4 wd_328 wd_329 wd_63 wd_330) nk_H_within (rok rfl) (Nat.le_of_ble_eq_true rfl) (fun _ => rfl) (fun a6 M5 h => ?_)
      refine j_if_ne (tgt := 27) dd_H_read_22 (by decide) (fun c => ?_) (fun c => ?_)
      · have h := h.1 c
        refine j_aload_n (j := 0) dd_H_read_27 rfl rfl ?_
        refine gf_0_6 dd_H_read_28 wd_293 ?_
        refine j_iload_n (j := 1) dd_H_read_31 rfl rfl ?_
        refine ld_13 dd_H_read_32 h.1 ?_
        have h := h.2
        refine j_astore (j := 5) dd_H_read_33 (by decide) rfl ?_
        refine j_aload_n (j := 0) dd_H_read_35 rfl rfl ?_
        refine gf_0_0 dd_H_read_36 wd_287 ?_
        refine gf_3_2 dd_H_read_39 wd_165 ?_
        refine j_topI (fun a7 ea7 => ?_)
        have h := h a7 ea7
        refine j_istore (j := 6) dd_H_read_42 (by decide) rfl ?_
        refine j_iconst dd_H_read_44 (inRd rfl) ?_
        refine j_istore (j := 7) dd_H_read_45 (by decide) rfl ?_
        exact j_jump h (jsub_c rfl (jsub_c rfl (jsub_c rfl (jsub_c rfl (jsub_c rfl (jsub_c rfl (jsub_c rfl jsub_0)))))))
      · have h := h.2 c
        refine j_iconst dd_H_read_25 (inRd rfl) ?_
        exact j_iret dd_H_read_26 rfl h
theorem vc_H_read_47 {E : EE} {Q : Int → JM → Prop} (x2 : Int) (x3 : Int) (x4 : Int) (r_5 : Nat) (l6 : Int) (l7 : Int) (M : JM) (h : ((x4 ≤ l7 → ∀ M1 : JM, M1 = pt M 0 0 11 0 → Q x4 M1) ∧ (l7 < x4 → ∀ a2 : Int, a2 = w32 (x3 + (w32 (3 * l7))) → JC E mm_S_faultOfCells [vR 6 r_5, vI x2, vI a2, vI 3] M (fun a4 M3 => ((a4 = 0 → (0 ≤ a2 ∧ a2 < 40) ∧ (0 ≤ w32 (a2 + 1) ∧ w32 (a2 + 1) < 40) ∧ (0 ≤ w32 (a2 + 2) ∧ w32 (a2 + 2) < 40) ∧ JC E mm_H_stock [vR 0 0, vI (M3 7 r_5 a2.toNat), vI (M3 7 r_5 ((w32 (a2 + 1)).toNat)), vI (M3 7 r_5 ((w32 (a2 + 2)).toNat))] M3 (fun a6 M5 => ((0 ≤ a6 → ∀ a7 : Int, a7 = w32 (l7 + 1) → JG E mm_H_read Q 47 [(0, vR 0 0), (2, vI x2), (3, vI x3), (4, vI x4), (5, vR 6 r_5), (6, vI l6), (7, vI a7)] [] M5) ∧ (a6 < 0 → ∀ M8 : JM, M8 = pt M5 3 0 2 l6 → Q (w32 ((-20) - l7)) M8)))) ∧ (a4 ≠ 0 → ∀ M9 : JM, M9 = pt M3 0 0 11 a4 → Q l7 M9)))))) : JG E mm_H_read Q 47 [(0, vR 0 0), (2, vI x2), (3, vI x3), (4, vI x4), (5, vR 6 r_5), (6, vI l6), (7, vI l7)] [] M := by
  refine j_iload (j := 7) dd_H_read_47 rfl ?_
  refine j_iload (j := 4) dd_H_read_49 rfl ?_
  refine j_icmp_ge (tgt := 143) dd_H_read_51 (by decide) (fun c => ?_) (fun c => ?_)
  · have h := h.1 c
    refine j_aload_n (j := 0) dd_H_read_143 rfl rfl ?_
    refine j_iconst dd_H_read_144 (inRd rfl) ?_
    refine pf_0_11 dd_H_read_145 wd_298 (fun M1 eM1 => ?_)
    have h := h M1 eM1
    refine j_iload (j := 4) dd_H_read_148 rfl ?_
    exact j_iret dd_H_read_150 rfl h
  · have h := h.2 c
    refine j_iload_n (j := 3) dd_H_read_54 rfl rfl ?_
    refine j_iconst dd_H_read_55 (inRd rfl) ?_
    refine j_iload (j := 7) dd_H_read_56 rfl ?_
    refine j_imul dd_H_read_58 ?_
    refine j_iadd dd_H_read_59 ?_
    refine j_topI (fun a2 ea2 => ?_)
    have h := h a2 ea2
    refine j_istore (j := 8) dd_H_read_60 (by decide) rfl ?_
    refine j_aload (j := 5) dd_H_read_62 rfl ?_
    refine j_iload_n (j := 2) dd_H_read_64 rfl rfl ?_
    refine j_iload (j := 8) dd_H_read_65 rfl ?_
    refine j_iconst dd_H_read_67 (inRd rfl) ?_
    refine j_cVI (mm' := mm_S_faultOfCells) (t := 6) (i := r_5) (As := [vI x2, vI a2, vI 3]) (rest := []) h dd_H_read_68 (ws5 wd_808 wd_809 wd_810 wd_68 wd_811) nk_S_faultOfCells (rok rfl) (by unfold isW; omega) ⟨_, ce_6 _⟩ rfl (Nat.le_of_ble_eq_true rfl) (fun _ => rfl) (fun a4 M3 h => ?_)
    refine j_istore (j := 9) dd_H_read_71 (by decide) rfl ?_
    refine j_iload (j := 9) dd_H_read_73 rfl ?_
    refine j_if_eq (tgt := 87) dd_H_read_75 (by decide) (fun c => ?_) (fun c => ?_)
    · have h := h.1 c
      refine j_aload_n (j := 0) dd_H_read_87 rfl rfl ?_
      refine j_aload (j := 5) dd_H_read_88 rfl ?_
      refine gf_6_0 dd_H_read_90 wd_257 ?_
      refine j_iload (j := 8) dd_H_read_93 rfl ?_
      refine ld_7 dd_H_read_95 h.1 ?_
      have h := h.2
      refine j_aload (j := 5) dd_H_read_96 rfl ?_
      refine gf_6_0 dd_H_read_98 wd_257 ?_
      refine j_iload (j := 8) dd_H_read_101 rfl ?_
      refine j_iconst dd_H_read_103 (inRd rfl) ?_
      refine j_iadd dd_H_read_104 ?_
      refine ld_7 dd_H_read_105 h.1 ?_
      have h := h.2
      refine j_aload (j := 5) dd_H_read_106 rfl ?_
      refine gf_6_0 dd_H_read_108 wd_257 ?_
      refine j_iload (j := 8) dd_H_read_111 rfl ?_
      refine j_iconst dd_H_read_113 (inRd rfl) ?_
      refine j_iadd dd_H_read_114 ?_
      refine ld_7 dd_H_read_115 h.1 ?_
      have h := h.2
      refine j_cVI (mm' := mm_H_stock) (t := 0) (i := 0) (As := [vI (M3 7 r_5 a2.toNat), vI (M3 7 r_5 ((w32 (a2 + 1)).toNat)), vI (M3 7 r_5 ((w32 (a2 + 2)).toNat))]) (rest := []) h dd_H_read_116 (ws5 wd_821 wd_562 wd_563 wd_63 wd_564) nk_H_stock (rok rfl) (by unfold isW; omega) ⟨_, ce_0 _⟩ rfl (Nat.le_of_ble_eq_true rfl) (fun _ => rfl) (fun a6 M5 h => ?_)
      refine j_if_ge (tgt := 137) dd_H_read_119 (by decide) (fun c => ?_) (fun c => ?_)
      · have h := h.1 c
        refine j_iincN dd_H_read_137 rfl rfl (fun a7 ea7 => ?_)
        have h := h a7 ea7
        refine j_goto (tgt := 47) dd_H_read_140 (by decide) ?_
        exact j_jump h (jsub_c rfl (jsub_c rfl (jsub_c rfl (jsub_c rfl (jsub_c rfl (jsub_c rfl (jsub_c rfl jsub_0)))))))
      · have h := h.2 c
        refine j_aload_n (j := 0) dd_H_read_122 rfl rfl ?_
        refine gf_0_0 dd_H_read_123 wd_287 ?_
        refine j_iload (j := 6) dd_H_read_126 rfl ?_
        refine pf_3_2 dd_H_read_128 wd_165 (fun M8 eM8 => ?_)
        have h := h M8 eM8
        refine j_bipush dd_H_read_131 rfl (inRd rfl) ?_
        refine j_iload (j := 7) dd_H_read_133 rfl ?_
        refine j_isub dd_H_read_135 ?_
        exact j_iret dd_H_read_136 rfl h
    · have h := h.2 c
      refine j_aload_n (j := 0) dd_H_read_78 rfl rfl ?_
      refine j_iload (j := 9) dd_H_read_79 rfl ?_
      refine pf_0_11 dd_H_read_81 wd_298 (fun M9 eM9 => ?_)
      have h := h M9 eM9
      refine j_iload (j := 7) dd_H_read_84 rfl ?_
      exact j_iret dd_H_read_86 rfl h
theorem vc_H_torn {E : EE} {Q : Int → JM → Prop}  (M : JM) (h : Q (M 0 0 11) M) : JC E mm_H_torn [vR 0 0] M Q := by
  refine j_entry (L0 := [(0, vR 0 0)]) pn_H (Nat.le_of_ble_eq_true rfl) rfl ?_
  refine j_aload_n (j := 0) dd_H_torn_0 rfl rfl ?_
  refine gf_0_11 dd_H_torn_1 wd_298 ?_
  exact j_iret dd_H_torn_4 rfl h
theorem vc_H_count {E : EE} {Q : Int → JM → Prop} (x1 : Int) (M : JM) (h : (((x1 < 0 ∨ 5 < x1) → Q (-1) M) ∧ (x1 = 0 → Q (M 0 0 9) M) ∧ (x1 = 1 → JC E mm_H_keptImages [vR 0 0] M (fun a2 M1 => Q a2 M1)) ∧ (x1 = 2 → Q (M 9 0 1) M) ∧ (x1 = 3 → ((M 6 0 1 ≠ (-1) → Q (M 6 0 2) M) ∧ (M 6 0 1 = (-1) → Q (-4) M))) ∧ (x1 = 4 → JC E mm_T_worthOfAll [vR 3 0] M (fun a4 M3 => Q a4 M3)) ∧ (x1 = 5 → JC E mm_T_strengthOfAll [vR 3 0] M (fun a6 M5 => Q a6 M5)))) : JC E mm_H_count [vR 0 0, vI x1] M Q := by
  refine j_entry (L0 := [(0, vR 0 0), (1, vI x1)]) pn_H (Nat.le_of_ble_eq_true rfl) rfl ?_
  refine j_iload_n (j := 1) dd_H_count_0 rfl rfl ?_
  have hc : (x1 < 0 ∨ 5 < x1) ∨ x1 = 0 ∨ x1 = 1 ∨ x1 = 2 ∨ x1 = 3 ∨ x1 = 4 ∨ x1 = 5 := by omega
  rcases hc with hc | hc | hc | hc | hc | hc | hc
  · have h := h.1 hc
    refine j_tabOut (tgt := 102) dd_H_count_1 hc (by decide) ?_
    refine j_iconst dd_H_count_102 (inRd rfl) ?_
    exact j_iret dd_H_count_103 rfl h
  · have h := h.2.1 hc
    refine j_tabIn (tgt := 40) (off := 39) dd_H_count_1 (by omega) (by omega) (by rw [hc]; rfl) (by decide) ?_
    refine j_aload_n (j := 0) dd_H_count_40 rfl rfl ?_
    refine gf_0_9 dd_H_count_41 wd_296 ?_
    exact j_iret dd_H_count_44 rfl h
  · have h := h.2.2.1 hc
    refine j_tabIn (tgt := 45) (off := 44) dd_H_count_1 (by omega) (by omega) (by rw [hc]; rfl) (by decide) ?_
    refine j_aload_n (j := 0) dd_H_count_45 rfl rfl ?_
    refine j_cVI (mm' := mm_H_keptImages) (t := 0) (i := 0) (As := []) (rest := []) h dd_H_count_46 (ws5 wd_830 wd_832 wd_33 wd_63 wd_833) nk_H_keptImages (rok rfl) (by unfold isW; omega) ⟨_, ce_0 _⟩ rfl (Nat.le_of_ble_eq_true rfl) (fun _ => rfl) (fun a2 M1 h => ?_)
    exact j_iret dd_H_count_49 rfl h
  · have h := h.2.2.2.1 hc
    refine j_tabIn (tgt := 50) (off := 49) dd_H_count_1 (by omega) (by omega) (by rw [hc]; rfl) (by decide) ?_
    refine j_aload_n (j := 0) dd_H_count_50 rfl rfl ?_
    refine gf_0_5 dd_H_count_51 wd_292 ?_
    refine gf_9_1 dd_H_count_54 wd_214 ?_
    exact j_iret dd_H_count_57 rfl h
  · have h := h.2.2.2.2.1 hc
    refine j_tabIn (tgt := 58) (off := 57) dd_H_count_1 (by omega) (by omega) (by rw [hc]; rfl) (by decide) ?_
    refine j_aload_n (j := 0) dd_H_count_58 rfl rfl ?_
    refine gf_0_6 dd_H_count_59 wd_293 ?_
    refine j_iconst dd_H_count_62 (inRd rfl) ?_
    refine ld_13 dd_H_count_63 ⟨by decide, by decide⟩ ?_
    refine gf_6_1 dd_H_count_64 wd_259 ?_
    refine j_iconst dd_H_count_67 (inRd rfl) ?_
    refine j_icmp_ne (tgt := 76) dd_H_count_68 (by decide) (fun c => ?_) (fun c => ?_)
    · have h := h.1 c
      refine j_aload_n (j := 0) dd_H_count_76 rfl rfl ?_
      refine gf_0_6 dd_H_count_77 wd_293 ?_
      refine j_iconst dd_H_count_80 (inRd rfl) ?_
      refine ld_13 dd_H_count_81 ⟨by decide, by decide⟩ ?_
      refine gf_6_2 dd_H_count_82 wd_261 ?_
      exact j_iret dd_H_count_85 rfl h
    · have h := h.2 c
      refine j_bipush dd_H_count_71 rfl (inRd rfl) ?_
      refine j_goto (tgt := 85) dd_H_count_73 (by decide) ?_
      exact j_iret dd_H_count_85 rfl h
  · have h := h.2.2.2.2.2.1 hc
    refine j_tabIn (tgt := 86) (off := 85) dd_H_count_1 (by omega) (by omega) (by rw [hc]; rfl) (by decide) ?_
    refine j_aload_n (j := 0) dd_H_count_86 rfl rfl ?_
    refine gf_0_0 dd_H_count_87 wd_287 ?_
    refine j_cVI (mm' := mm_T_worthOfAll) (t := 3) (i := 0) (As := []) (rest := []) h dd_H_count_90 (ws5 wd_834 wd_835 wd_836 wd_64 wd_837) nk_T_worthOfAll (rok rfl) (by unfold isW; omega) ⟨_, ce_3 _⟩ rfl (Nat.le_of_ble_eq_true rfl) (fun _ => rfl) (fun a4 M3 h => ?_)
    exact j_iret dd_H_count_93 rfl h
  · have h := h.2.2.2.2.2.2 hc
    refine j_tabIn (tgt := 94) (off := 93) dd_H_count_1 (by omega) (by omega) (by rw [hc]; rfl) (by decide) ?_
    refine j_aload_n (j := 0) dd_H_count_94 rfl rfl ?_
    refine gf_0_0 dd_H_count_95 wd_287 ?_
    refine j_cVI (mm' := mm_T_strengthOfAll) (t := 3) (i := 0) (As := []) (rest := []) h dd_H_count_98 (ws5 wd_838 wd_839 wd_840 wd_64 wd_841) nk_T_strengthOfAll (rok rfl) (by unfold isW; omega) ⟨_, ce_3 _⟩ rfl (Nat.le_of_ble_eq_true rfl) (fun _ => rfl) (fun a6 M5 h => ?_)
    exact j_iret dd_H_count_101 rfl h
theorem vc_H_within {E : EE} {Q : Int → JM → Prop} (x1 : Int) (x2 : Int) (x3 : Int) (M : JM) (h : ((x1 < x2 → Q 0 M) ∧ (x2 ≤ x1 → ((x3 < x1 → Q 0 M) ∧ (x1 ≤ x3 → Q 1 M))))) : JC E mm_H_within [vI x1, vI x2, vI x3] M Q := by
  refine j_entry (L0 := [(0, vI x1), (1, vI x2), (2, vI x3)]) pn_H (Nat.le_of_ble_eq_true rfl) rfl ?_
  refine j_iload_n (j := 0) dd_H_within_0 rfl rfl ?_
  refine j_iload_n (j := 1) dd_H_within_1 rfl rfl ?_
  refine j_icmp_lt (tgt := 14) dd_H_within_2 (by decide) (fun c => ?_) (fun c => ?_)
  · have h := h.1 c
    refine j_iconst dd_H_within_14 (inRd rfl) ?_
    exact j_zret dd_H_within_15 rfl (Or.inl rfl) h
  · have h := h.2 c
    refine j_iload_n (j := 0) dd_H_within_5 rfl rfl ?_
    refine j_iload_n (j := 2) dd_H_within_6 rfl rfl ?_
    refine j_icmp_gt (tgt := 14) dd_H_within_7 (by decide) (fun c => ?_) (fun c => ?_)
    · have h := h.1 c
      refine j_iconst dd_H_within_14 (inRd rfl) ?_
      exact j_zret dd_H_within_15 rfl (Or.inl rfl) h
    · have h := h.2 c
      refine j_iconst dd_H_within_10 (inRd rfl) ?_
      refine j_goto (tgt := 15) dd_H_within_11 (by decide) ?_
      exact j_zret dd_H_within_15 rfl (Or.inr rfl) h
theorem vc_H_hasBit {E : EE} {Q : Int → JM → Prop} (x1 : Int) (x2 : Int) (M : JM) (h : ((and32 (shr32 x1 x2) 1 ≠ 1 → Q 0 M) ∧ (and32 (shr32 x1 x2) 1 = 1 → Q 1 M))) : JC E mm_H_hasBit [vI x1, vI x2] M Q := by
  refine j_entry (L0 := [(0, vI x1), (1, vI x2)]) pn_H (Nat.le_of_ble_eq_true rfl) rfl ?_
  refine j_iload_n (j := 0) dd_H_hasBit_0 rfl rfl ?_
  refine j_iload_n (j := 1) dd_H_hasBit_1 rfl rfl ?_
  refine j_ishr dd_H_hasBit_2 ?_
  refine j_iconst dd_H_hasBit_3 (inRd rfl) ?_
  refine j_iand dd_H_hasBit_4 ?_
  refine j_iconst dd_H_hasBit_5 (inRd rfl) ?_
  refine j_icmp_ne (tgt := 13) dd_H_hasBit_6 (by decide) (fun c => ?_) (fun c => ?_)
  · have h := h.1 c
    refine j_iconst dd_H_hasBit_13 (inRd rfl) ?_
    exact j_zret dd_H_hasBit_14 rfl (Or.inl rfl) h
  · have h := h.2 c
    refine j_iconst dd_H_hasBit_9 (inRd rfl) ?_
    refine j_goto (tgt := 14) dd_H_hasBit_10 (by decide) ?_
    exact j_zret dd_H_hasBit_14 rfl (Or.inr rfl) h
theorem vc_H_isKind {E : EE} {Q : Int → JM → Prop} (x1 : Int) (M : JM) (h : JC E mm_H_within [vI x1, vI 0, vI 3] M (fun a2 M1 => ((a2 = 0 ∨ a2 = 1) ∧ Q a2 M1))) : JC E mm_H_isKind [vI x1] M Q := by
  refine j_entry (L0 := [(0, vI x1)]) pn_H (Nat.le_of_ble_eq_true rfl) rfl ?_
  refine j_iload_n (j := 0) dd_H_isKind_0 rfl rfl ?_
  refine j_iconst dd_H_isKind_1 (inRd rfl) ?_
  refine j_iconst dd_H_isKind_2 (inRd rfl) ?_
  refine j_cSI (mm' := mm_H_within) (As := [vI x1, vI 0, vI 3]) (rest := []) h dd_H_isKind_3 (ws4 wd_328 wd_329 wd_63 wd_330) nk_H_within (rok rfl) (Nat.le_of_ble_eq_true rfl) (fun _ => rfl) (fun a2 M1 h => ?_)
  exact j_zret dd_H_isKind_6 rfl h.1 h.2
theorem vc_H_isWeight {E : EE} {Q : Int → JM → Prop} (x1 : Int) (M : JM) (h : JC E mm_H_within [vI x1, vI 1, vI 9] M (fun a2 M1 => ((a2 = 0 ∨ a2 = 1) ∧ Q a2 M1))) : JC E mm_H_isWeight [vI x1] M Q := by
  refine j_entry (L0 := [(0, vI x1)]) pn_H (Nat.le_of_ble_eq_true rfl) rfl ?_
  refine j_iload_n (j := 0) dd_H_isWeight_0 rfl rfl ?_
  refine j_iconst dd_H_isWeight_1 (inRd rfl) ?_
  refine j_bipush dd_H_isWeight_2 rfl (inRd rfl) ?_
  refine j_cSI (mm' := mm_H_within) (As := [vI x1, vI 1, vI 9]) (rest := []) h dd_H_isWeight_4 (ws4 wd_328 wd_329 wd_63 wd_330) nk_H_within (rok rfl) (Nat.le_of_ble_eq_true rfl) (fun _ => rfl) (fun a2 M1 h => ?_)
  exact j_zret dd_H_isWeight_7 rfl h.1 h.2
theorem vc_H_isWorth {E : EE} {Q : Int → JM → Prop} (x1 : Int) (M : JM) (h : JC E mm_H_within [vI x1, vI 0, vI 9] M (fun a2 M1 => ((a2 = 0 ∨ a2 = 1) ∧ Q a2 M1))) : JC E mm_H_isWorth [vI x1] M Q := by
  refine j_entry (L0 := [(0, vI x1)]) pn_H (Nat.le_of_ble_eq_true rfl) rfl ?_
  refine j_iload_n (j := 0) dd_H_isWorth_0 rfl rfl ?_
  refine j_iconst dd_H_isWorth_1 (inRd rfl) ?_
  refine j_bipush dd_H_isWorth_2 rfl (inRd rfl) ?_
  refine j_cSI (mm' := mm_H_within) (As := [vI x1, vI 0, vI 9]) (rest := []) h dd_H_isWorth_4 (ws4 wd_328 wd_329 wd_63 wd_330) nk_H_within (rok rfl) (Nat.le_of_ble_eq_true rfl) (fun _ => rfl) (fun a2 M1 h => ?_)
  exact j_zret dd_H_isWorth_7 rfl h.1 h.2
theorem vc_H_isSheet {E : EE} {Q : Int → JM → Prop} (x1 : Int) (M : JM) (h : JC E mm_H_within [vI x1, vI 0, vI 3] M (fun a2 M1 => ((a2 = 0 ∨ a2 = 1) ∧ Q a2 M1))) : JC E mm_H_isSheet [vI x1] M Q := by
  refine j_entry (L0 := [(0, vI x1)]) pn_H (Nat.le_of_ble_eq_true rfl) rfl ?_
  refine j_iload_n (j := 0) dd_H_isSheet_0 rfl rfl ?_
  refine j_iconst dd_H_isSheet_1 (inRd rfl) ?_
  refine j_iconst dd_H_isSheet_2 (inRd rfl) ?_
  refine j_cSI (mm' := mm_H_within) (As := [vI x1, vI 0, vI 3]) (rest := []) h dd_H_isSheet_3 (ws4 wd_328 wd_329 wd_63 wd_330) nk_H_within (rok rfl) (Nat.le_of_ble_eq_true rfl) (fun _ => rfl) (fun a2 M1 h => ?_)
  exact j_zret dd_H_isSheet_6 rfl h.1 h.2
theorem vc_H_isLane {E : EE} {Q : Int → JM → Prop} (x1 : Int) (M : JM) (h : JC E mm_H_within [vI x1, vI 0, vI 2] M (fun a2 M1 => ((a2 = 0 ∨ a2 = 1) ∧ Q a2 M1))) : JC E mm_H_isLane [vI x1] M Q := by
  refine j_entry (L0 := [(0, vI x1)]) pn_H (Nat.le_of_ble_eq_true rfl) rfl ?_
  refine j_iload_n (j := 0) dd_H_isLane_0 rfl rfl ?_
  refine j_iconst dd_H_isLane_1 (inRd rfl) ?_
  refine j_iconst dd_H_isLane_2 (inRd rfl) ?_
  refine j_cSI (mm' := mm_H_within) (As := [vI x1, vI 0, vI 2]) (rest := []) h dd_H_isLane_3 (ws4 wd_328 wd_329 wd_63 wd_330) nk_H_within (rok rfl) (Nat.le_of_ble_eq_true rfl) (fun _ => rfl) (fun a2 M1 h => ?_)
  exact j_zret dd_H_isLane_6 rfl h.1 h.2
theorem vc_H_isGood {E : EE} {Q : Int → JM → Prop} (x1 : Int) (M : JM) (h : JC E mm_H_within [vI x1, vI 0, vI (w32 (M 3 0 2 - 1))] M (fun a2 M1 => ((a2 = 0 ∨ a2 = 1) ∧ Q a2 M1))) : JC E mm_H_isGood [vR 0 0, vI x1] M Q := by
  refine j_entry (L0 := [(0, vR 0 0), (1, vI x1)]) pn_H (Nat.le_of_ble_eq_true rfl) rfl ?_
  refine j_iload_n (j := 1) dd_H_isGood_0 rfl rfl ?_
  refine j_iconst dd_H_isGood_1 (inRd rfl) ?_
  refine j_aload_n (j := 0) dd_H_isGood_2 rfl rfl ?_
  refine gf_0_0 dd_H_isGood_3 wd_287 ?_
  refine gf_3_2 dd_H_isGood_6 wd_165 ?_
  refine j_iconst dd_H_isGood_9 (inRd rfl) ?_
  refine j_isub dd_H_isGood_10 ?_
  refine j_cSI (mm' := mm_H_within) (As := [vI x1, vI 0, vI (w32 (M 3 0 2 - 1))]) (rest := []) h dd_H_isGood_11 (ws4 wd_328 wd_329 wd_63 wd_330) nk_H_within (rok rfl) (Nat.le_of_ble_eq_true rfl) (fun _ => rfl) (fun a2 M1 h => ?_)
  exact j_zret dd_H_isGood_14 rfl h.1 h.2
theorem vc_H_isOne {E : EE} {Q : Int → JM → Prop} (x1 : Int) (M : JM) (h : JC E mm_H_within [vI x1, vI 0, vI (w32 (M 3 0 3 - 1))] M (fun a2 M1 => ((a2 = 0 ∨ a2 = 1) ∧ Q a2 M1))) : JC E mm_H_isOne [vR 0 0, vI x1] M Q := by
  refine j_entry (L0 := [(0, vR 0 0), (1, vI x1)]) pn_H (Nat.le_of_ble_eq_true rfl) rfl ?_
  refine j_iload_n (j := 1) dd_H_isOne_0 rfl rfl ?_
  refine j_iconst dd_H_isOne_1 (inRd rfl) ?_
  refine j_aload_n (j := 0) dd_H_isOne_2 rfl rfl ?_
  refine gf_0_0 dd_H_isOne_3 wd_287 ?_
  refine gf_3_3 dd_H_isOne_6 wd_168 ?_
  refine j_iconst dd_H_isOne_9 (inRd rfl) ?_
  refine j_isub dd_H_isOne_10 ?_
  refine j_cSI (mm' := mm_H_within) (As := [vI x1, vI 0, vI (w32 (M 3 0 3 - 1))]) (rest := []) h dd_H_isOne_11 (ws4 wd_328 wd_329 wd_63 wd_330) nk_H_within (rok rfl) (Nat.le_of_ble_eq_true rfl) (fun _ => rfl) (fun a2 M1 h => ?_)
  exact j_zret dd_H_isOne_14 rfl h.1 h.2
theorem vc_H_keptImages {E : EE} {Q : Int → JM → Prop}  (M : JM) (h : JG E mm_H_keptImages Q 4 [(0, vR 0 0), (1, vI 0), (2, vI 0)] [] M) : JC E mm_H_keptImages [vR 0 0] M Q := by
  refine j_entry (L0 := [(0, vR 0 0)]) pn_H (Nat.le_of_ble_eq_true rfl) rfl ?_
  refine j_iconst dd_H_keptImages_0 (inRd rfl) ?_
  refine j_istore_n (j := 1) dd_H_keptImages_1 rfl (by decide) rfl ?_
  refine j_iconst dd_H_keptImages_2 (inRd rfl) ?_
  refine j_istore_n (j := 2) dd_H_keptImages_3 rfl (by decide) rfl ?_
  exact j_jump h (jsub_c rfl (jsub_c rfl (jsub_c rfl jsub_0)))
theorem vc_H_keptImages_4 {E : EE} {Q : Int → JM → Prop} (l1 : Int) (l2 : Int) (M : JM) (h : ((2 ≤ l2 → Q l1 M) ∧ (l2 < 2 → (0 ≤ l2 ∧ l2 < 2) ∧ ((M 12 0 l2.toNat = 0 → ∀ a1 : Int, a1 = w32 (l2 + 1) → JG E mm_H_keptImages Q 4 [(0, vR 0 0), (1, vI l1), (2, vI a1)] [] M) ∧ (M 12 0 l2.toNat ≠ 0 → ∀ a2 : Int, a2 = w32 (l1 + 1) → ∀ a3 : Int, a3 = w32 (l2 + 1) → JG E mm_H_keptImages Q 4 [(0, vR 0 0), (1, vI a2), (2, vI a3)] [] M))))) : JG E mm_H_keptImages Q 4 [(0, vR 0 0), (1, vI l1), (2, vI l2)] [] M := by
  refine j_iload_n (j := 2) dd_H_keptImages_4 rfl rfl ?_
  refine j_iconst dd_H_keptImages_5 (inRd rfl) ?_
  refine j_icmp_ge (tgt := 27) dd_H_keptImages_6 (by decide) (fun c => ?_) (fun c => ?_)
  · have h := h.1 c
    refine j_iload_n (j := 1) dd_H_keptImages_27 rfl rfl ?_
    exact j_iret dd_H_keptImages_28 rfl h
  · have h := h.2 c
    refine j_aload_n (j := 0) dd_H_keptImages_9 rfl rfl ?_
    refine gf_0_4 dd_H_keptImages_10 wd_291 ?_
    refine j_iload_n (j := 2) dd_H_keptImages_13 rfl rfl ?_
    refine ld_12 dd_H_keptImages_14 h.1 ?_
    have h := h.2
    refine j_if_eq (tgt := 21) dd_H_keptImages_15 (by decide) (fun c => ?_) (fun c => ?_)
    · have h := h.1 c
      refine j_iincN dd_H_keptImages_21 rfl rfl (fun a1 ea1 => ?_)
      have h := h a1 ea1
      refine j_goto (tgt := 4) dd_H_keptImages_24 (by decide) ?_
      exact j_jump h (jsub_c rfl (jsub_c rfl (jsub_c rfl jsub_0)))
    · have h := h.2 c
      refine j_iincN dd_H_keptImages_18 rfl rfl (fun a2 ea2 => ?_)
      have h := h a2 ea2
      refine j_iincN dd_H_keptImages_21 rfl rfl (fun a3 ea3 => ?_)
      have h := h a3 ea3
      refine j_goto (tgt := 4) dd_H_keptImages_24 (by decide) ?_
      exact j_jump h (jsub_c rfl (jsub_c rfl (jsub_c rfl jsub_0)))
theorem vc_H_wagesAsItIs {E : EE} {Q : Int → JM → Prop} (x1 : Int) (M : JM) (h : JC E mm_T_copyFrom [vR 3 1, vR 3 0] M (fun a2 M1 => JC E mm_T_passWeeks [vR 3 1, vI x1] M1 (fun a4 M3 => JC E mm_T_wagesOfAll [vR 3 1] M3 (fun a6 M5 => Q a6 M5)))) : JC E mm_H_wagesAsItIs [vR 0 0, vI x1] M Q := by
  refine j_entry (L0 := [(0, vR 0 0), (1, vI x1)]) pn_H (Nat.le_of_ble_eq_true rfl) rfl ?_
  refine j_aload_n (j := 0) dd_H_wagesAsItIs_0 rfl rfl ?_
  refine gf_0_1 dd_H_wagesAsItIs_1 wd_288 ?_
  refine j_aload_n (j := 0) dd_H_wagesAsItIs_4 rfl rfl ?_
  refine gf_0_0 dd_H_wagesAsItIs_5 wd_287 ?_
  refine j_cVV (mm' := mm_T_copyFrom) (t := 3) (i := 1) (As := [vR 3 0]) (rest := []) h dd_H_wagesAsItIs_8 (ws5 wd_479 wd_480 wd_481 wd_64 wd_482) nk_T_copyFrom (rok rfl) (by unfold isW; omega) ⟨_, ce_3 _⟩ rfl (Nat.le_of_ble_eq_true rfl) (fun _ => rfl) (fun a2 M1 h => ?_)
  refine j_aload_n (j := 0) dd_H_wagesAsItIs_11 rfl rfl ?_
  refine gf_0_1 dd_H_wagesAsItIs_12 wd_288 ?_
  refine j_iload_n (j := 1) dd_H_wagesAsItIs_15 rfl rfl ?_
  refine j_cVV (mm' := mm_T_passWeeks) (t := 3) (i := 1) (As := [vI x1]) (rest := []) h dd_H_wagesAsItIs_16 (ws5 wd_582 wd_583 wd_584 wd_64 wd_585) nk_T_passWeeks (rok rfl) (by unfold isW; omega) ⟨_, ce_3 _⟩ rfl (Nat.le_of_ble_eq_true rfl) (fun _ => rfl) (fun a4 M3 h => ?_)
  refine j_aload_n (j := 0) dd_H_wagesAsItIs_19 rfl rfl ?_
  refine gf_0_1 dd_H_wagesAsItIs_20 wd_288 ?_
  refine j_cVI (mm' := mm_T_wagesOfAll) (t := 3) (i := 1) (As := []) (rest := []) h dd_H_wagesAsItIs_23 (ws5 wd_504 wd_505 wd_506 wd_64 wd_507) nk_T_wagesOfAll (rok rfl) (by unfold isW; omega) ⟨_, ce_3 _⟩ rfl (Nat.le_of_ble_eq_true rfl) (fun _ => rfl) (fun a6 M5 h => ?_)
  exact j_iret dd_H_wagesAsItIs_26 rfl h
theorem vc_H_bestOrMore {E : EE} {Q : Int → JM → Prop} (x1 : Int) (x2 : Int) (x3 : Int) (M : JM) (h : ((x1 ≠ (-4) → ((x3 ≠ 0 → JC E mm_T_wagesOfAll [vR 3 0] M (fun a2 M1 => Q (w32 (x2 - a2)) M1)) ∧ (x3 = 0 → Q x1 M))) ∧ (x1 = (-4) → Q (-4) M))) : JC E mm_H_bestOrMore [vR 0 0, vI x1, vI x2, vI x3] M Q := by
  refine j_entry (L0 := [(0, vR 0 0), (1, vI x1), (2, vI x2), (3, vI x3)]) pn_H (Nat.le_of_ble_eq_true rfl) rfl ?_
  refine j_iload_n (j := 1) dd_H_bestOrMore_0 rfl rfl ?_
  refine j_bipush dd_H_bestOrMore_1 rfl (inRd rfl) ?_
  refine j_icmp_ne (tgt := 9) dd_H_bestOrMore_3 (by decide) (fun c => ?_) (fun c => ?_)
  · have h := h.1 c
    refine j_iload_n (j := 3) dd_H_bestOrMore_9 rfl rfl ?_
    refine j_if_ne (tgt := 17) dd_H_bestOrMore_10 (by decide) (fun c => ?_) (fun c => ?_)
    · have h := h.1 c
      refine j_iload_n (j := 2) dd_H_bestOrMore_17 rfl rfl ?_
      refine j_aload_n (j := 0) dd_H_bestOrMore_18 rfl rfl ?_
      refine gf_0_0 dd_H_bestOrMore_19 wd_287 ?_
      refine j_cVI (mm' := mm_T_wagesOfAll) (t := 3) (i := 0) (As := []) (rest := [vI x2]) h dd_H_bestOrMore_22 (ws5 wd_504 wd_505 wd_506 wd_64 wd_507) nk_T_wagesOfAll (rok rfl) (by unfold isW; omega) ⟨_, ce_3 _⟩ rfl (Nat.le_of_ble_eq_true rfl) (fun _ => rfl) (fun a2 M1 h => ?_)
      refine j_isub dd_H_bestOrMore_25 ?_
      exact j_iret dd_H_bestOrMore_26 rfl h
    · have h := h.2 c
      refine j_iload_n (j := 1) dd_H_bestOrMore_13 rfl rfl ?_
      refine j_goto (tgt := 26) dd_H_bestOrMore_14 (by decide) ?_
      exact j_iret dd_H_bestOrMore_26 rfl h
  · have h := h.2 c
    refine j_bipush dd_H_bestOrMore_6 rfl (inRd rfl) ?_
    exact j_iret dd_H_bestOrMore_8 rfl h
theorem vc_H_tryKind {E : EE} {Q : Int → JM → Prop} (x1 : Int) (x2 : Int) (M : JM) (h : JC E mm_T_copyFrom [vR 3 1, vR 3 0] M (fun a2 M1 => (0 ≤ x1 ∧ x1 < 8) ∧ (0 ≤ x1 ∧ x1 < 8) ∧ (0 ≤ x1 ∧ x1 < 8) ∧ JC E mm_G_become [vR 1 (8 * 1 + x1.toNat), vI x2, vI (M1 1 (8 * 0 + x1.toNat) 1), vI (M1 1 (8 * 0 + x1.toNat) 2)] M1 (fun a4 M3 => Q 0 M3))) : JC E mm_H_tryKind [vR 0 0, vI x1, vI x2] M Q := by
  refine j_entry (L0 := [(0, vR 0 0), (1, vI x1), (2, vI x2)]) pn_H (Nat.le_of_ble_eq_true rfl) rfl ?_
  refine j_aload_n (j := 0) dd_H_tryKind_0 rfl rfl ?_
  refine gf_0_1 dd_H_tryKind_1 wd_288 ?_
  refine j_aload_n (j := 0) dd_H_tryKind_4 rfl rfl ?_
  refine gf_0_0 dd_H_tryKind_5 wd_287 ?_
  refine j_cVV (mm' := mm_T_copyFrom) (t := 3) (i := 1) (As := [vR 3 0]) (rest := []) h dd_H_tryKind_8 (ws5 wd_479 wd_480 wd_481 wd_64 wd_482) nk_T_copyFrom (rok rfl) (by unfold isW; omega) ⟨_, ce_3 _⟩ rfl (Nat.le_of_ble_eq_true rfl) (fun _ => rfl) (fun a2 M1 h => ?_)
  refine j_aload_n (j := 0) dd_H_tryKind_11 rfl rfl ?_
  refine gf_0_1 dd_H_tryKind_12 wd_288 ?_
  refine gf_3_0 dd_H_tryKind_15 wd_160 ?_
  refine j_iload_n (j := 1) dd_H_tryKind_18 rfl rfl ?_
  refine ld_4 dd_H_tryKind_19 h.1 ?_
  have h := h.2
  refine j_iload_n (j := 2) dd_H_tryKind_20 rfl rfl ?_
  refine j_aload_n (j := 0) dd_H_tryKind_21 rfl rfl ?_
  refine gf_0_0 dd_H_tryKind_22 wd_287 ?_
  refine gf_3_0 dd_H_tryKind_25 wd_160 ?_
  refine j_iload_n (j := 1) dd_H_tryKind_28 rfl rfl ?_
  refine ld_4 dd_H_tryKind_29 h.1 ?_
  have h := h.2
  refine gf_1_1 dd_H_tryKind_30 wd_103 ?_
  refine j_aload_n (j := 0) dd_H_tryKind_33 rfl rfl ?_
  refine gf_0_0 dd_H_tryKind_34 wd_287 ?_
  refine gf_3_0 dd_H_tryKind_37 wd_160 ?_
  refine j_iload_n (j := 1) dd_H_tryKind_40 rfl rfl ?_
  refine ld_4 dd_H_tryKind_41 h.1 ?_
  have h := h.2
  refine gf_1_2 dd_H_tryKind_42 wd_105 ?_
  refine j_cVV (mm' := mm_G_become) (t := 1) (i := (8 * 1 + x1.toNat)) (As := [vI x2, vI (M1 1 (8 * 0 + x1.toNat) 1), vI (M1 1 (8 * 0 + x1.toNat) 2)]) (rest := []) h dd_H_tryKind_45 (ws5 wd_546 wd_457 wd_458 wd_65 wd_459) nk_G_become (rok rfl) (by unfold isW; omega) ⟨_, ce_1 _⟩ rfl (Nat.le_of_ble_eq_true rfl) (fun _ => rfl) (fun a4 M3 h => ?_)
  exact j_vret dd_H_tryKind_48 rfl h
theorem vc_H_illnesses {E : EE} {Q : Int → JM → Prop}  (M : JM) (h : Q (shl32 1 (M 3 0 3)) M) : JC E mm_H_illnesses [vR 0 0] M Q := by
  refine j_entry (L0 := [(0, vR 0 0)]) pn_H (Nat.le_of_ble_eq_true rfl) rfl ?_
  refine j_iconst dd_H_illnesses_0 (inRd rfl) ?_
  refine j_aload_n (j := 0) dd_H_illnesses_1 rfl rfl ?_
  refine gf_0_0 dd_H_illnesses_2 wd_287 ?_
  refine gf_3_3 dd_H_illnesses_5 wd_168 ?_
  refine j_ishl dd_H_illnesses_8 ?_
  exact j_iret dd_H_illnesses_9 rfl h
theorem vc_H_waysOfIllness {E : EE} {Q : Int → JM → Prop} (x1 : Int) (x2 : Int) (M : JM) (h : JG E mm_H_waysOfIllness Q 5 [(0, vR 0 0), (1, vI x1), (2, vI x2), (3, vL 1), (5, vI 0)] [] M) : JC E mm_H_waysOfIllness [vR 0 0, vI x1, vI x2] M Q := by
  refine j_entry (L0 := [(0, vR 0 0), (1, vI x1), (2, vI x2)]) pn_H (Nat.le_of_ble_eq_true rfl) rfl ?_
  refine j_lconst (x := 1) dd_H_waysOfIllness_0 rfl (inLd rfl) ?_
  refine j_lstore_n (j := 3) dd_H_waysOfIllness_1 rfl (by decide) rfl rfl ?_
  refine j_iconst dd_H_waysOfIllness_2 (inRd rfl) ?_
  refine j_istore (j := 5) dd_H_waysOfIllness_3 (by decide) rfl ?_
  exact j_jump h (jsub_c rfl (jsub_c rfl (jsub_c rfl (jsub_c rfl (jsub_c rfl jsub_0)))))
theorem vc_H_waysOfIllness_5 {E : EE} {Q : Int → JM → Prop} (x1 : Int) (x2 : Int) (l3 : Int) (l5 : Int) (M : JM) (h : ((M 3 0 3 ≤ l5 → Q l3 M) ∧ (l5 < M 3 0 3 → JC E mm_H_hasBit [vI x2, vI l5] M (fun a2 M1 => ((a2 = 0 → JG E mm_H_waysOfIllness Q 37 [(0, vR 0 0), (1, vI x1), (2, vI x2), (5, vI l5)] [vL (w32 (10 - x1)), vL l3] M1) ∧ (a2 ≠ 0 → JG E mm_H_waysOfIllness Q 37 [(0, vR 0 0), (1, vI x1), (2, vI x2), (5, vI l5)] [vL x1, vL l3] M1)))))) : JG E mm_H_waysOfIllness Q 5 [(0, vR 0 0), (1, vI x1), (2, vI x2), (3, vL l3), (5, vI l5)] [] M := by
  refine j_iload (j := 5) dd_H_waysOfIllness_5 rfl ?_
  refine j_aload_n (j := 0) dd_H_waysOfIllness_7 rfl rfl ?_
  refine gf_0_0 dd_H_waysOfIllness_8 wd_287 ?_
  refine gf_3_3 dd_H_waysOfIllness_11 wd_168 ?_
  refine j_icmp_ge (tgt := 45) dd_H_waysOfIllness_14 (by decide) (fun c => ?_) (fun c => ?_)
  · have h := h.1 c
    refine j_lload_n (j := 3) dd_H_waysOfIllness_45 rfl rfl ?_
    exact j_lret dd_H_waysOfIllness_46 rfl h
  · have h := h.2 c
    refine j_lload_n (j := 3) dd_H_waysOfIllness_17 rfl rfl ?_
    refine j_iload_n (j := 2) dd_H_waysOfIllness_18 rfl rfl ?_
    refine j_iload (j := 5) dd_H_waysOfIllness_19 rfl ?_
    refine j_cSI (mm' := mm_H_hasBit) (As := [vI x2, vI l5]) (rest := [vL l3]) h dd_H_waysOfIllness_21 (ws4 wd_621 wd_533 wd_63 wd_534) nk_H_hasBit (rok rfl) (Nat.le_of_ble_eq_true rfl) (fun _ => rfl) (fun a2 M1 h => ?_)
    refine j_if_eq (tgt := 32) dd_H_waysOfIllness_24 (by decide) (fun c => ?_) (fun c => ?_)
    · have h := h.1 c
      refine j_bipush dd_H_waysOfIllness_32 rfl (inRd rfl) ?_
      refine j_iload_n (j := 1) dd_H_waysOfIllness_34 rfl rfl ?_
      refine j_isub dd_H_waysOfIllness_35 ?_
      refine j_i2l dd_H_waysOfIllness_36 ?_
      exact j_jump h (jsub_c rfl (jsub_c rfl (jsub_c rfl (jsub_c rfl jsub_0))))
    · have h := h.2 c
      refine j_iload_n (j := 1) dd_H_waysOfIllness_27 rfl rfl ?_
      refine j_i2l dd_H_waysOfIllness_28 ?_
      refine j_goto (tgt := 37) dd_H_waysOfIllness_29 (by decide) ?_
      exact j_jump h (jsub_c rfl (jsub_c rfl (jsub_c rfl (jsub_c rfl jsub_0))))
theorem vc_H_waysOfIllness_37 {E : EE} {Q : Int → JM → Prop} (x1 : Int) (x2 : Int) (l5 : Int) (s0 : Int) (s1 : Int) (M : JM) (h : ∀ a1 : Int, a1 = w64 (s0 * s1) → ∀ a2 : Int, a2 = w32 (l5 + 1) → JG E mm_H_waysOfIllness Q 5 [(0, vR 0 0), (1, vI x1), (2, vI x2), (3, vL a1), (5, vI a2)] [] M) : JG E mm_H_waysOfIllness Q 37 [(0, vR 0 0), (1, vI x1), (2, vI x2), (5, vI l5)] [vL s1, vL s0] M := by
  refine j_lmul dd_H_waysOfIllness_37 ?_
  refine j_topL (fun a1 ea1 => ?_)
  have h := h a1 ea1
  refine j_lstore_n (j := 3) dd_H_waysOfIllness_38 rfl (by decide) rfl rfl ?_
  refine j_iincN dd_H_waysOfIllness_39 rfl rfl (fun a2 ea2 => ?_)
  have h := h a2 ea2
  refine j_goto (tgt := 5) dd_H_waysOfIllness_42 (by decide) ?_
  exact j_jump h (jsub_c rfl (jsub_c rfl (jsub_c rfl (jsub_c rfl (jsub_c rfl jsub_0)))))
theorem vc_H_allWaysOfIllness {E : EE} {Q : Int → JM → Prop}  (M : JM) (h : JG E mm_H_allWaysOfIllness Q 4 [(0, vR 0 0), (1, vL 1), (3, vI 0)] [] M) : JC E mm_H_allWaysOfIllness [vR 0 0] M Q := by
  refine j_entry (L0 := [(0, vR 0 0)]) pn_H (Nat.le_of_ble_eq_true rfl) rfl ?_
  refine j_lconst (x := 1) dd_H_allWaysOfIllness_0 rfl (inLd rfl) ?_
  refine j_lstore_n (j := 1) dd_H_allWaysOfIllness_1 rfl (by decide) rfl rfl ?_
  refine j_iconst dd_H_allWaysOfIllness_2 (inRd rfl) ?_
  refine j_istore_n (j := 3) dd_H_allWaysOfIllness_3 rfl (by decide) rfl ?_
  exact j_jump h (jsub_c rfl (jsub_c rfl (jsub_c rfl jsub_0)))
theorem vc_H_allWaysOfIllness_4 {E : EE} {Q : Int → JM → Prop} (l1 : Int) (l3 : Int) (M : JM) (h : ((M 3 0 3 ≤ l3 → Q l1 M) ∧ (l3 < M 3 0 3 → ∀ a1 : Int, a1 = w64 (l1 * 10) → ∀ a2 : Int, a2 = w32 (l3 + 1) → JG E mm_H_allWaysOfIllness Q 4 [(0, vR 0 0), (1, vL a1), (3, vI a2)] [] M))) : JG E mm_H_allWaysOfIllness Q 4 [(0, vR 0 0), (1, vL l1), (3, vI l3)] [] M := by
  refine j_iload_n (j := 3) dd_H_allWaysOfIllness_4 rfl rfl ?_
  refine j_aload_n (j := 0) dd_H_allWaysOfIllness_5 rfl rfl ?_
  refine gf_0_0 dd_H_allWaysOfIllness_6 wd_287 ?_
  refine gf_3_3 dd_H_allWaysOfIllness_9 wd_168 ?_
  refine j_icmp_ge (tgt := 27) dd_H_allWaysOfIllness_12 (by decide) (fun c => ?_) (fun c => ?_)
  · have h := h.1 c
    refine j_lload_n (j := 1) dd_H_allWaysOfIllness_27 rfl rfl ?_
    exact j_lret dd_H_allWaysOfIllness_28 rfl h
  · have h := h.2 c
    refine j_lload_n (j := 1) dd_H_allWaysOfIllness_15 rfl rfl ?_
    refine j_ldc2 (x := 10) dd_H_allWaysOfIllness_16 wd_695 rfl (inLd rfl) ?_
    refine j_lmul dd_H_allWaysOfIllness_19 ?_
    refine j_topL (fun a1 ea1 => ?_)
    have h := h a1 ea1
    refine j_lstore_n (j := 1) dd_H_allWaysOfIllness_20 rfl (by decide) rfl rfl ?_
    refine j_iincN dd_H_allWaysOfIllness_21 rfl rfl (fun a2 ea2 => ?_)
    have h := h a2 ea2
    refine j_goto (tgt := 4) dd_H_allWaysOfIllness_24 (by decide) ?_
    exact j_jump h (jsub_c rfl (jsub_c rfl (jsub_c rfl jsub_0)))
theorem vc_H_gainsBehindWeek {E : EE} {Q : Int → JM → Prop} (r1 : Nat) (x2 : Int) (M : JM) (h : JG E mm_H_gainsBehindWeek Q 5 [(0, vR 0 0), (1, vR 3 r1), (2, vI x2), (3, vL 0), (5, vI 0)] [] M) : JC E mm_H_gainsBehindWeek [vR 0 0, vR 3 r1, vI x2] M Q := by
  refine j_entry (L0 := [(0, vR 0 0), (1, vR 3 r1), (2, vI x2)]) pn_H (Nat.le_of_ble_eq_true rfl) rfl ?_
  refine j_lconst (x := 0) dd_H_gainsBehindWeek_0 rfl (inLd rfl) ?_
  refine j_lstore_n (j := 3) dd_H_gainsBehindWeek_1 rfl (by decide) rfl rfl ?_
  refine j_iconst dd_H_gainsBehindWeek_2 (inRd rfl) ?_
  refine j_istore (j := 5) dd_H_gainsBehindWeek_3 (by decide) rfl ?_
  exact j_jump h (jsub_c rfl (jsub_c rfl (jsub_c rfl (jsub_c rfl (jsub_c rfl jsub_0)))))
theorem vc_H_gainsBehindWeek_5 {E : EE} {Q : Int → JM → Prop} (r1 : Nat) (x2 : Int) (l3 : Int) (l5 : Int) (M : JM) (h : JC E mm_H_illnesses [vR 0 0] M (fun a2 M1 => ((a2 ≤ l5 → Q l3 M1) ∧ (l5 < a2 → JC E mm_H_waysOfIllness [vR 0 0, vI x2, vI l5] M1 (fun a4 M3 => ((cmpL a4 0 = 0 → ∀ a5 : Int, a5 = w32 (l5 + 1) → JG E mm_H_gainsBehindWeek Q 5 [(0, vR 0 0), (1, vR 3 r1), (2, vI x2), (3, vL l3), (5, vI a5)] [] M3) ∧ (cmpL a4 0 ≠ 0 → JC E mm_T_copyFrom [vR 3 1, vR 3 r1] M3 (fun a7 M6 => JC E mm_T_passWeek [vR 3 1, vI l5] M6 (fun a9 M8 => JC E mm_T_wagesOfAll [vR 3 1] M8 (fun a11 M10 => JC E mm_T_wagesOfAll [vR 3 0] M10 (fun a13 M12 => ∀ a14 : Int, a14 = w64 (l3 + (w64 (a4 * (w32 (a11 - a13))))) → ∀ a15 : Int, a15 = w32 (l5 + 1) → JG E mm_H_gainsBehindWeek Q 5 [(0, vR 0 0), (1, vR 3 r1), (2, vI x2), (3, vL a14), (5, vI a15)] [] M12))))))))))) : JG E mm_H_gainsBehindWeek Q 5 [(0, vR 0 0), (1, vR 3 r1), (2, vI x2), (3, vL l3), (5, vI l5)] [] M := by
  refine j_iload (j := 5) dd_H_gainsBehindWeek_5 rfl ?_
  refine j_aload_n (j := 0) dd_H_gainsBehindWeek_7 rfl rfl ?_
  refine j_cVI (mm' := mm_H_illnesses) (t := 0) (i := 0) (As := []) (rest := [vI l5]) h dd_H_gainsBehindWeek_8 (ws5 wd_683 wd_685 wd_20 wd_63 wd_686) nk_H_illnesses (rok rfl) (by unfold isW; omega) ⟨_, ce_0 _⟩ rfl (Nat.le_of_ble_eq_true rfl) (fun _ => rfl) (fun a2 M1 h => ?_)
  refine j_icmp_ge (tgt := 75) dd_H_gainsBehindWeek_11 (by decide) (fun c => ?_) (fun c => ?_)
  · have h := h.1 c
    refine j_lload_n (j := 3) dd_H_gainsBehindWeek_75 rfl rfl ?_
    exact j_lret dd_H_gainsBehindWeek_76 rfl h
  · have h := h.2 c
    refine j_aload_n (j := 0) dd_H_gainsBehindWeek_14 rfl rfl ?_
    refine j_iload_n (j := 2) dd_H_gainsBehindWeek_15 rfl rfl ?_
    refine j_iload (j := 5) dd_H_gainsBehindWeek_16 rfl ?_
    refine j_cVL (mm' := mm_H_waysOfIllness) (t := 0) (i := 0) (As := [vI x2, vI l5]) (rest := []) h dd_H_gainsBehindWeek_18 (ws5 wd_687 wd_689 wd_21 wd_63 wd_690) nk_H_waysOfIllness (rok rfl) (by unfold isW; omega) ⟨_, ce_0 _⟩ rfl (Nat.le_of_ble_eq_true rfl) (fun _ => rfl) (fun a4 M3 h => ?_)
    refine j_lstore (j := 6) dd_H_gainsBehindWeek_21 (by decide) rfl rfl ?_
    refine j_lload (j := 6) dd_H_gainsBehindWeek_23 rfl ?_
    refine j_lconst (x := 0) dd_H_gainsBehindWeek_25 rfl (inLd rfl) ?_
    refine j_lcmp dd_H_gainsBehindWeek_26 ?_
    refine j_if_eq (tgt := 69) dd_H_gainsBehindWeek_27 (by decide) (fun c => ?_) (fun c => ?_)
    · have h := h.1 c
      refine j_iincN dd_H_gainsBehindWeek_69 rfl rfl (fun a5 ea5 => ?_)
      have h := h a5 ea5
      refine j_goto (tgt := 5) dd_H_gainsBehindWeek_72 (by decide) ?_
      exact j_jump h (jsub_c rfl (jsub_c rfl (jsub_c rfl (jsub_c rfl (jsub_c rfl jsub_0)))))
    · have h := h.2 c
      refine j_aload_n (j := 0) dd_H_gainsBehindWeek_30 rfl rfl ?_
      refine gf_0_1 dd_H_gainsBehindWeek_31 wd_288 ?_
      refine j_aload_n (j := 1) dd_H_gainsBehindWeek_34 rfl rfl ?_
      refine j_cVV (mm' := mm_T_copyFrom) (t := 3) (i := 1) (As := [vR 3 r1]) (rest := []) h dd_H_gainsBehindWeek_35 (ws5 wd_479 wd_480 wd_481 wd_64 wd_482) nk_T_copyFrom (rok rfl) (by unfold isW; omega) ⟨_, ce_3 _⟩ rfl (Nat.le_of_ble_eq_true rfl) (fun _ => rfl) (fun a7 M6 h => ?_)
      refine j_aload_n (j := 0) dd_H_gainsBehindWeek_38 rfl rfl ?_
      refine gf_0_1 dd_H_gainsBehindWeek_39 wd_288 ?_
      refine j_iload (j := 5) dd_H_gainsBehindWeek_42 rfl ?_
      refine j_cVV (mm' := mm_T_passWeek) (t := 3) (i := 1) (As := [vI l5]) (rest := []) h dd_H_gainsBehindWeek_44 (ws5 wd_620 wd_587 wd_588 wd_64 wd_589) nk_T_passWeek (rok rfl) (by unfold isW; omega) ⟨_, ce_3 _⟩ rfl (Nat.le_of_ble_eq_true rfl) (fun _ => rfl) (fun a9 M8 h => ?_)
      refine j_lload_n (j := 3) dd_H_gainsBehindWeek_47 rfl rfl ?_
      refine j_lload (j := 6) dd_H_gainsBehindWeek_48 rfl ?_
      refine j_aload_n (j := 0) dd_H_gainsBehindWeek_50 rfl rfl ?_
      refine gf_0_1 dd_H_gainsBehindWeek_51 wd_288 ?_
      refine j_cVI (mm' := mm_T_wagesOfAll) (t := 3) (i := 1) (As := []) (rest := [vL a4, vL l3]) h dd_H_gainsBehindWeek_54 (ws5 wd_504 wd_505 wd_506 wd_64 wd_507) nk_T_wagesOfAll (rok rfl) (by unfold isW; omega) ⟨_, ce_3 _⟩ rfl (Nat.le_of_ble_eq_true rfl) (fun _ => rfl) (fun a11 M10 h => ?_)
      refine j_aload_n (j := 0) dd_H_gainsBehindWeek_57 rfl rfl ?_
      refine gf_0_0 dd_H_gainsBehindWeek_58 wd_287 ?_
      refine j_cVI (mm' := mm_T_wagesOfAll) (t := 3) (i := 0) (As := []) (rest := [vI a11, vL a4, vL l3]) h dd_H_gainsBehindWeek_61 (ws5 wd_504 wd_505 wd_506 wd_64 wd_507) nk_T_wagesOfAll (rok rfl) (by unfold isW; omega) ⟨_, ce_3 _⟩ rfl (Nat.le_of_ble_eq_true rfl) (fun _ => rfl) (fun a13 M12 h => ?_)
      refine j_isub dd_H_gainsBehindWeek_64 ?_
      refine j_i2l dd_H_gainsBehindWeek_65 ?_
      refine j_lmul dd_H_gainsBehindWeek_66 ?_
      refine j_ladd dd_H_gainsBehindWeek_67 ?_
      refine j_topL (fun a14 ea14 => ?_)
      have h := h a14 ea14
      refine j_lstore_n (j := 3) dd_H_gainsBehindWeek_68 rfl (by decide) rfl rfl ?_
      refine j_iincN dd_H_gainsBehindWeek_69 rfl rfl (fun a15 ea15 => ?_)
      have h := h a15 ea15
      refine j_goto (tgt := 5) dd_H_gainsBehindWeek_72 (by decide) ?_
      exact j_jump h (jsub_c rfl (jsub_c rfl (jsub_c rfl (jsub_c rfl (jsub_c rfl jsub_0)))))
theorem vc_H_gainsBehindTwoWeeks {E : EE} {Q : Int → JM → Prop} (x1 : Int) (M : JM) (h : JG E mm_H_gainsBehindTwoWeeks Q 5 [(0, vR 0 0), (1, vI x1), (2, vL 0), (4, vI 0)] [] M) : JC E mm_H_gainsBehindTwoWeeks [vR 0 0, vI x1] M Q := by
  refine j_entry (L0 := [(0, vR 0 0), (1, vI x1)]) pn_H (Nat.le_of_ble_eq_true rfl) rfl ?_
  refine j_lconst (x := 0) dd_H_gainsBehindTwoWeeks_0 rfl (inLd rfl) ?_
  refine j_lstore_n (j := 2) dd_H_gainsBehindTwoWeeks_1 rfl (by decide) rfl rfl ?_
  refine j_iconst dd_H_gainsBehindTwoWeeks_2 (inRd rfl) ?_
  refine j_istore (j := 4) dd_H_gainsBehindTwoWeeks_3 (by decide) rfl ?_
  exact j_jump h (jsub_c rfl (jsub_c rfl (jsub_c rfl (jsub_c rfl jsub_0))))
theorem vc_H_gainsBehindTwoWeeks_5 {E : EE} {Q : Int → JM → Prop} (x1 : Int) (l2 : Int) (l4 : Int) (M : JM) (h : JC E mm_H_illnesses [vR 0 0] M (fun a2 M1 => ((a2 ≤ l4 → Q l2 M1) ∧ (l4 < a2 → JC E mm_H_waysOfIllness [vR 0 0, vI x1, vI l4] M1 (fun a4 M3 => ((cmpL a4 0 = 0 → ∀ a5 : Int, a5 = w32 (l4 + 1) → JG E mm_H_gainsBehindTwoWeeks Q 5 [(0, vR 0 0), (1, vI x1), (2, vL l2), (4, vI a5)] [] M3) ∧ (cmpL a4 0 ≠ 0 → JC E mm_T_copyFrom [vR 3 2, vR 3 0] M3 (fun a7 M6 => JC E mm_T_passWeek [vR 3 2, vI l4] M6 (fun a9 M8 => JC E mm_H_gainsBehindWeek [vR 0 0, vR 3 2, vI x1] M8 (fun a11 M10 => ∀ a12 : Int, a12 = w64 (l2 + (w64 (a4 * a11))) → ∀ a13 : Int, a13 = w32 (l4 + 1) → JG E mm_H_gainsBehindTwoWeeks Q 5 [(0, vR 0 0), (1, vI x1), (2, vL a12), (4, vI a13)] [] M10)))))))))) : JG E mm_H_gainsBehindTwoWeeks Q 5 [(0, vR 0 0), (1, vI x1), (2, vL l2), (4, vI l4)] [] M := by
  refine j_iload (j := 4) dd_H_gainsBehindTwoWeeks_5 rfl ?_
  refine j_aload_n (j := 0) dd_H_gainsBehindTwoWeeks_7 rfl rfl ?_
  refine j_cVI (mm' := mm_H_illnesses) (t := 0) (i := 0) (As := []) (rest := [vI l4]) h dd_H_gainsBehindTwoWeeks_8 (ws5 wd_683 wd_685 wd_20 wd_63 wd_686) nk_H_illnesses (rok rfl) (by unfold isW; omega) ⟨_, ce_0 _⟩ rfl (Nat.le_of_ble_eq_true rfl) (fun _ => rfl) (fun a2 M1 h => ?_)
  refine j_icmp_ge (tgt := 71) dd_H_gainsBehindTwoWeeks_11 (by decide) (fun c => ?_) (fun c => ?_)
  · have h := h.1 c
    refine j_lload_n (j := 2) dd_H_gainsBehindTwoWeeks_71 rfl rfl ?_
    exact j_lret dd_H_gainsBehindTwoWeeks_72 rfl h
  · have h := h.2 c
    refine j_aload_n (j := 0) dd_H_gainsBehindTwoWeeks_14 rfl rfl ?_
    refine j_iload_n (j := 1) dd_H_gainsBehindTwoWeeks_15 rfl rfl ?_
    refine j_iload (j := 4) dd_H_gainsBehindTwoWeeks_16 rfl ?_
    refine j_cVL (mm' := mm_H_waysOfIllness) (t := 0) (i := 0) (As := [vI x1, vI l4]) (rest := []) h dd_H_gainsBehindTwoWeeks_18 (ws5 wd_687 wd_689 wd_21 wd_63 wd_690) nk_H_waysOfIllness (rok rfl) (by unfold isW; omega) ⟨_, ce_0 _⟩ rfl (Nat.le_of_ble_eq_true rfl) (fun _ => rfl) (fun a4 M3 h => ?_)
    refine j_lstore (j := 5) dd_H_gainsBehindTwoWeeks_21 (by decide) rfl rfl ?_
    refine j_lload (j := 5) dd_H_gainsBehindTwoWeeks_23 rfl ?_
    refine j_lconst (x := 0) dd_H_gainsBehindTwoWeeks_25 rfl (inLd rfl) ?_
    refine j_lcmp dd_H_gainsBehindTwoWeeks_26 ?_
    refine j_if_eq (tgt := 65) dd_H_gainsBehindTwoWeeks_27 (by decide) (fun c => ?_) (fun c => ?_)
    · have h := h.1 c
      refine j_iincN dd_H_gainsBehindTwoWeeks_65 rfl rfl (fun a5 ea5 => ?_)
      have h := h a5 ea5
      refine j_goto (tgt := 5) dd_H_gainsBehindTwoWeeks_68 (by decide) ?_
      exact j_jump h (jsub_c rfl (jsub_c rfl (jsub_c rfl (jsub_c rfl jsub_0))))
    · have h := h.2 c
      refine j_aload_n (j := 0) dd_H_gainsBehindTwoWeeks_30 rfl rfl ?_
      refine gf_0_2 dd_H_gainsBehindTwoWeeks_31 wd_289 ?_
      refine j_aload_n (j := 0) dd_H_gainsBehindTwoWeeks_34 rfl rfl ?_
      refine gf_0_0 dd_H_gainsBehindTwoWeeks_35 wd_287 ?_
      refine j_cVV (mm' := mm_T_copyFrom) (t := 3) (i := 2) (As := [vR 3 0]) (rest := []) h dd_H_gainsBehindTwoWeeks_38 (ws5 wd_479 wd_480 wd_481 wd_64 wd_482) nk_T_copyFrom (rok rfl) (by unfold isW; omega) ⟨_, ce_3 _⟩ rfl (Nat.le_of_ble_eq_true rfl) (fun _ => rfl) (fun a7 M6 h => ?_)
      refine j_aload_n (j := 0) dd_H_gainsBehindTwoWeeks_41 rfl rfl ?_
      refine gf_0_2 dd_H_gainsBehindTwoWeeks_42 wd_289 ?_
      refine j_iload (j := 4) dd_H_gainsBehindTwoWeeks_45 rfl ?_
      refine j_cVV (mm' := mm_T_passWeek) (t := 3) (i := 2) (As := [vI l4]) (rest := []) h dd_H_gainsBehindTwoWeeks_47 (ws5 wd_620 wd_587 wd_588 wd_64 wd_589) nk_T_passWeek (rok rfl) (by unfold isW; omega) ⟨_, ce_3 _⟩ rfl (Nat.le_of_ble_eq_true rfl) (fun _ => rfl) (fun a9 M8 h => ?_)
      refine j_lload_n (j := 2) dd_H_gainsBehindTwoWeeks_50 rfl rfl ?_
      refine j_lload (j := 5) dd_H_gainsBehindTwoWeeks_51 rfl ?_
      refine j_aload_n (j := 0) dd_H_gainsBehindTwoWeeks_53 rfl rfl ?_
      refine j_aload_n (j := 0) dd_H_gainsBehindTwoWeeks_54 rfl rfl ?_
      refine gf_0_2 dd_H_gainsBehindTwoWeeks_55 wd_289 ?_
      refine j_iload_n (j := 1) dd_H_gainsBehindTwoWeeks_58 rfl rfl ?_
      refine j_cVL (mm' := mm_H_gainsBehindWeek) (t := 0) (i := 0) (As := [vR 3 2, vI x1]) (rest := [vL a4, vL l2]) h dd_H_gainsBehindTwoWeeks_59 (ws5 wd_706 wd_708 wd_23 wd_63 wd_709) nk_H_gainsBehindWeek (rok rfl) (by unfold isW; omega) ⟨_, ce_0 _⟩ rfl (Nat.le_of_ble_eq_true rfl) (fun _ => rfl) (fun a11 M10 h => ?_)
      refine j_lmul dd_H_gainsBehindTwoWeeks_62 ?_
      refine j_ladd dd_H_gainsBehindTwoWeeks_63 ?_
      refine j_topL (fun a12 ea12 => ?_)
      have h := h a12 ea12
      refine j_lstore_n (j := 2) dd_H_gainsBehindTwoWeeks_64 rfl (by decide) rfl rfl ?_
      refine j_iincN dd_H_gainsBehindTwoWeeks_65 rfl rfl (fun a13 ea13 => ?_)
      have h := h a13 ea13
      refine j_goto (tgt := 5) dd_H_gainsBehindTwoWeeks_68 (by decide) ?_
      exact j_jump h (jsub_c rfl (jsub_c rfl (jsub_c rfl (jsub_c rfl jsub_0))))
theorem vc_H_partOfFraction {E : EE} {Q : Int → JM → Prop} (x1 : Int) (x2 : Int) (x3 : Int) (M : JM) (h : JC E mm_H_commonDivisor [vL x1, vL x2] M (fun a2 M1 => ((cmpL a2 0 ≠ 0 → ((x3 ≠ 0 → (a2 ≠ 0) ∧ Q (w64 (Int.tdiv x2 a2)) M1) ∧ (x3 = 0 → (a2 ≠ 0) ∧ Q (w64 (Int.tdiv x1 a2)) M1))) ∧ (cmpL a2 0 = 0 → Q 0 M1)))) : JC E mm_H_partOfFraction [vL x1, vL x2, vI x3] M Q := by
  refine j_entry (L0 := [(0, vL x1), (2, vL x2), (4, vI x3)]) pn_H (Nat.le_of_ble_eq_true rfl) rfl ?_
  refine j_lload_n (j := 0) dd_H_partOfFraction_0 rfl rfl ?_
  refine j_lload_n (j := 2) dd_H_partOfFraction_1 rfl rfl ?_
  refine j_cSL (mm' := mm_H_commonDivisor) (As := [vL x1, vL x2]) (rest := []) h dd_H_partOfFraction_2 (ws4 wd_699 wd_700 wd_63 wd_701) nk_H_commonDivisor (rok rfl) (Nat.le_of_ble_eq_true rfl) (fun _ => rfl) (fun a2 M1 h => ?_)
  refine j_lstore (j := 5) dd_H_partOfFraction_5 (by decide) rfl rfl ?_
  refine j_lload (j := 5) dd_H_partOfFraction_7 rfl ?_
  refine j_lconst (x := 0) dd_H_partOfFraction_9 rfl (inLd rfl) ?_
  refine j_lcmp dd_H_partOfFraction_10 ?_
  refine j_if_ne (tgt := 16) dd_H_partOfFraction_11 (by decide) (fun c => ?_) (fun c => ?_)
  · have h := h.1 c
    refine j_iload (j := 4) dd_H_partOfFraction_16 rfl ?_
    refine j_if_ne (tgt := 25) dd_H_partOfFraction_18 (by decide) (fun c => ?_) (fun c => ?_)
    · have h := h.1 c
      refine j_lload_n (j := 2) dd_H_partOfFraction_25 rfl rfl ?_
      refine j_lload (j := 5) dd_H_partOfFraction_26 rfl ?_
      refine j_ldiv dd_H_partOfFraction_28 h.1 ?_
      have h := h.2
      exact j_lret dd_H_partOfFraction_29 rfl h
    · have h := h.2 c
      refine j_lload_n (j := 0) dd_H_partOfFraction_21 rfl rfl ?_
      refine j_goto (tgt := 26) dd_H_partOfFraction_22 (by decide) ?_
      refine j_lload (j := 5) dd_H_partOfFraction_26 rfl ?_
      refine j_ldiv dd_H_partOfFraction_28 h.1 ?_
      have h := h.2
      exact j_lret dd_H_partOfFraction_29 rfl h
  · have h := h.2 c
    refine j_lconst (x := 0) dd_H_partOfFraction_14 rfl (inLd rfl) ?_
    exact j_lret dd_H_partOfFraction_15 rfl h
theorem vc_H_commonDivisor {E : EE} {Q : Int → JM → Prop} (x1 : Int) (x2 : Int) (M : JM) (h : JG E mm_H_commonDivisor Q 9 [(4, vL x1), (6, vL x2), (8, vI 0)] [] M) : JC E mm_H_commonDivisor [vL x1, vL x2] M Q := by
  refine j_entry (L0 := [(0, vL x1), (2, vL x2)]) pn_H (Nat.le_of_ble_eq_true rfl) rfl ?_
  refine j_lload_n (j := 0) dd_H_commonDivisor_0 rfl rfl ?_
  refine j_lstore (j := 4) dd_H_commonDivisor_1 (by decide) rfl rfl ?_
  refine j_lload_n (j := 2) dd_H_commonDivisor_3 rfl rfl ?_
  refine j_lstore (j := 6) dd_H_commonDivisor_4 (by decide) rfl rfl ?_
  refine j_iconst dd_H_commonDivisor_6 (inRd rfl) ?_
  refine j_istore (j := 8) dd_H_commonDivisor_7 (by decide) rfl ?_
  exact j_jump h (jsub_c rfl (jsub_c rfl (jsub_c rfl jsub_0)))
theorem vc_H_commonDivisor_9 {E : EE} {Q : Int → JM → Prop} (l4 : Int) (l6 : Int) (l8 : Int) (M : JM) (h : ((100 ≤ l8 → Q l4 M) ∧ (l8 < 100 → ((cmpL l6 0 = 0 → Q l4 M) ∧ (cmpL l6 0 ≠ 0 → (l6 ≠ 0) ∧ ∀ a1 : Int, a1 = w64 (Int.tmod l4 l6) → ∀ a2 : Int, a2 = w32 (l8 + 1) → JG E mm_H_commonDivisor Q 9 [(4, vL l6), (6, vL a1), (8, vI a2)] [] M))))) : JG E mm_H_commonDivisor Q 9 [(4, vL l4), (6, vL l6), (8, vI l8)] [] M := by
  refine j_iload (j := 8) dd_H_commonDivisor_9 rfl ?_
  refine j_bipush dd_H_commonDivisor_11 rfl (inRd rfl) ?_
  refine j_icmp_ge (tgt := 44) dd_H_commonDivisor_13 (by decide) (fun c => ?_) (fun c => ?_)
  · have h := h.1 c
    refine j_lload (j := 4) dd_H_commonDivisor_44 rfl ?_
    exact j_lret dd_H_commonDivisor_46 rfl h
  · have h := h.2 c
    refine j_lload (j := 6) dd_H_commonDivisor_16 rfl ?_
    refine j_lconst (x := 0) dd_H_commonDivisor_18 rfl (inLd rfl) ?_
    refine j_lcmp dd_H_commonDivisor_19 ?_
    refine j_if_eq (tgt := 44) dd_H_commonDivisor_20 (by decide) (fun c => ?_) (fun c => ?_)
    · have h := h.1 c
      refine j_lload (j := 4) dd_H_commonDivisor_44 rfl ?_
      exact j_lret dd_H_commonDivisor_46 rfl h
    · have h := h.2 c
      refine j_lload (j := 4) dd_H_commonDivisor_23 rfl ?_
      refine j_lload (j := 6) dd_H_commonDivisor_25 rfl ?_
      refine j_lrem dd_H_commonDivisor_27 h.1 ?_
      have h := h.2
      refine j_topL (fun a1 ea1 => ?_)
      have h := h a1 ea1
      refine j_lstore (j := 9) dd_H_commonDivisor_28 (by decide) rfl rfl ?_
      refine j_lload (j := 6) dd_H_commonDivisor_30 rfl ?_
      refine j_lstore (j := 4) dd_H_commonDivisor_32 (by decide) rfl rfl ?_
      refine j_lload (j := 9) dd_H_commonDivisor_34 rfl ?_
      refine j_lstore (j := 6) dd_H_commonDivisor_36 (by decide) rfl rfl ?_
      refine j_iincN dd_H_commonDivisor_38 rfl rfl (fun a2 ea2 => ?_)
      have h := h a2 ea2
      refine j_goto (tgt := 9) dd_H_commonDivisor_41 (by decide) ?_
      exact j_jump h (jsub_c rfl (jsub_c rfl (jsub_c rfl jsub_0)))
theorem vc_H_trialGoesAsSeen {E : EE} {Q : Int → JM → Prop}  (M : JM) (h : JC E mm_H_lastWeekSeen [vR 0 0] M (fun a2 M1 => JG E mm_H_trialGoesAsSeen Q 7 [(0, vR 0 0), (1, vI a2), (2, vI 0)] [] M1)) : JC E mm_H_trialGoesAsSeen [vR 0 0] M Q := by
  refine j_entry (L0 := [(0, vR 0 0)]) pn_H (Nat.le_of_ble_eq_true rfl) rfl ?_
  refine j_aload_n (j := 0) dd_H_trialGoesAsSeen_0 rfl rfl ?_
  refine j_cVI (mm' := mm_H_lastWeekSeen) (t := 0) (i := 0) (As := []) (rest := []) h dd_H_trialGoesAsSeen_1 (ws5 wd_730 wd_732 wd_26 wd_63 wd_733) nk_H_lastWeekSeen (rok rfl) (by unfold isW; omega) ⟨_, ce_0 _⟩ rfl (Nat.le_of_ble_eq_true rfl) (fun _ => rfl) (fun a2 M1 h => ?_)
  refine j_istore_n (j := 1) dd_H_trialGoesAsSeen_4 rfl (by decide) rfl ?_
  refine j_iconst dd_H_trialGoesAsSeen_5 (inRd rfl) ?_
  refine j_istore_n (j := 2) dd_H_trialGoesAsSeen_6 rfl (by decide) rfl ?_
  exact j_jump h (jsub_c rfl (jsub_c rfl (jsub_c rfl jsub_0)))
theorem vc_H_trialGoesAsSeen_7 {E : EE} {Q : Int → JM → Prop} (l1 : Int) (l2 : Int) (M : JM) (h : ((l1 ≤ l2 → JC E mm_H_trialIsAsSeen [vR 0 0, vI l1] M (fun a2 M1 => ((a2 = 0 ∨ a2 = 1) ∧ Q a2 M1))) ∧ (l2 < l1 → JC E mm_H_trialIsAsSeen [vR 0 0, vI l2] M (fun a4 M3 => ((a4 ≠ 0 → JC E mm_T_passWeek [vR 3 1, vI 0] M3 (fun a6 M5 => ∀ a7 : Int, a7 = w32 (l2 + 1) → JG E mm_H_trialGoesAsSeen Q 7 [(0, vR 0 0), (1, vI l1), (2, vI a7)] [] M5)) ∧ (a4 = 0 → Q 0 M3)))))) : JG E mm_H_trialGoesAsSeen Q 7 [(0, vR 0 0), (1, vI l1), (2, vI l2)] [] M := by
  refine j_iload_n (j := 2) dd_H_trialGoesAsSeen_7 rfl rfl ?_
  refine j_iload_n (j := 1) dd_H_trialGoesAsSeen_8 rfl rfl ?_
  refine j_icmp_ge (tgt := 36) dd_H_trialGoesAsSeen_9 (by decide) (fun c => ?_) (fun c => ?_)
  · have h := h.1 c
    refine j_aload_n (j := 0) dd_H_trialGoesAsSeen_36 rfl rfl ?_
    refine j_iload_n (j := 1) dd_H_trialGoesAsSeen_37 rfl rfl ?_
    refine j_cVI (mm' := mm_H_trialIsAsSeen) (t := 0) (i := 0) (As := [vI l1]) (rest := []) h dd_H_trialGoesAsSeen_38 (ws5 wd_735 wd_737 wd_27 wd_63 wd_738) nk_H_trialIsAsSeen (rok rfl) (by unfold isW; omega) ⟨_, ce_0 _⟩ rfl (Nat.le_of_ble_eq_true rfl) (fun _ => rfl) (fun a2 M1 h => ?_)
    exact j_zret dd_H_trialGoesAsSeen_41 rfl h.1 h.2
  · have h := h.2 c
    refine j_aload_n (j := 0) dd_H_trialGoesAsSeen_12 rfl rfl ?_
    refine j_iload_n (j := 2) dd_H_trialGoesAsSeen_13 rfl rfl ?_
    refine j_cVI (mm' := mm_H_trialIsAsSeen) (t := 0) (i := 0) (As := [vI l2]) (rest := []) h dd_H_trialGoesAsSeen_14 (ws5 wd_735 wd_737 wd_27 wd_63 wd_738) nk_H_trialIsAsSeen (rok rfl) (by unfold isW; omega) ⟨_, ce_0 _⟩ rfl (Nat.le_of_ble_eq_true rfl) (fun _ => rfl) (fun a4 M3 h => ?_)
    refine j_if_ne (tgt := 22) dd_H_trialGoesAsSeen_17 (by decide) (fun c => ?_) (fun c => ?_)
    · have h := h.1 c
      refine j_aload_n (j := 0) dd_H_trialGoesAsSeen_22 rfl rfl ?_
      refine gf_0_1 dd_H_trialGoesAsSeen_23 wd_288 ?_
      refine j_iconst dd_H_trialGoesAsSeen_26 (inRd rfl) ?_
      refine j_cVV (mm' := mm_T_passWeek) (t := 3) (i := 1) (As := [vI 0]) (rest := []) h dd_H_trialGoesAsSeen_27 (ws5 wd_620 wd_587 wd_588 wd_64 wd_589) nk_T_passWeek (rok rfl) (by unfold isW; omega) ⟨_, ce_3 _⟩ rfl (Nat.le_of_ble_eq_true rfl) (fun _ => rfl) (fun a6 M5 h => ?_)
      refine j_iincN dd_H_trialGoesAsSeen_30 rfl rfl (fun a7 ea7 => ?_)
      have h := h a7 ea7
      refine j_goto (tgt := 7) dd_H_trialGoesAsSeen_33 (by decide) ?_
      exact j_jump h (jsub_c rfl (jsub_c rfl (jsub_c rfl jsub_0)))
    · have h := h.2 c
      refine j_iconst dd_H_trialGoesAsSeen_20 (inRd rfl) ?_
      exact j_zret dd_H_trialGoesAsSeen_21 rfl (Or.inl rfl) h
theorem vc_H_trialIsAsSeen {E : EE} {Q : Int → JM → Prop} (x1 : Int) (M : JM) (h : JG E mm_H_trialIsAsSeen Q 2 [(0, vR 0 0), (1, vI x1), (2, vI 0)] [] M) : JC E mm_H_trialIsAsSeen [vR 0 0, vI x1] M Q := by
  refine j_entry (L0 := [(0, vR 0 0), (1, vI x1)]) pn_H (Nat.le_of_ble_eq_true rfl) rfl ?_
  refine j_iconst dd_H_trialIsAsSeen_0 (inRd rfl) ?_
  refine j_istore_n (j := 2) dd_H_trialIsAsSeen_1 rfl (by decide) rfl ?_
  exact j_jump h (jsub_c rfl (jsub_c rfl (jsub_c rfl jsub_0)))
theorem vc_H_trialIsAsSeen_2 {E : EE} {Q : Int → JM → Prop} (x1 : Int) (l2 : Int) (M : JM) (h : ((M 0 0 9 ≤ l2 → Q 1 M) ∧ (l2 < M 0 0 9 → (0 ≤ l2 ∧ l2 < 6) ∧ ((M 8 l2.toNat 0 ≠ x1 → ∀ a1 : Int, a1 = w32 (l2 + 1) → JG E mm_H_trialIsAsSeen Q 2 [(0, vR 0 0), (1, vI x1), (2, vI a1)] [] M) ∧ (M 8 l2.toNat 0 = x1 → (0 ≤ M 8 l2.toNat 1 ∧ M 8 l2.toNat 1 < 4) ∧ ((M 2 (4 * 1 + (M 5 1 ((M 8 l2.toNat 1).toNat)).toNat) 1 = M 8 l2.toNat 2 → ∀ a2 : Int, a2 = w32 (l2 + 1) → JG E mm_H_trialIsAsSeen Q 2 [(0, vR 0 0), (1, vI x1), (2, vI a2)] [] M) ∧ (M 2 (4 * 1 + (M 5 1 ((M 8 l2.toNat 1).toNat)).toNat) 1 ≠ M 8 l2.toNat 2 → Q 0 M))))))) : JG E mm_H_trialIsAsSeen Q 2 [(0, vR 0 0), (1, vI x1), (2, vI l2)] [] M := by
  refine j_iload_n (j := 2) dd_H_trialIsAsSeen_2 rfl rfl ?_
  refine j_aload_n (j := 0) dd_H_trialIsAsSeen_3 rfl rfl ?_
  refine gf_0_9 dd_H_trialIsAsSeen_4 wd_296 ?_
  refine j_icmp_ge (tgt := 55) dd_H_trialIsAsSeen_7 (by decide) (fun c => ?_) (fun c => ?_)
  · have h := h.1 c
    refine j_iconst dd_H_trialIsAsSeen_55 (inRd rfl) ?_
    exact j_zret dd_H_trialIsAsSeen_56 rfl (Or.inr rfl) h
  · have h := h.2 c
    refine j_aload_n (j := 0) dd_H_trialIsAsSeen_10 rfl rfl ?_
    refine gf_0_7 dd_H_trialIsAsSeen_11 wd_294 ?_
    refine j_iload_n (j := 2) dd_H_trialIsAsSeen_14 rfl rfl ?_
    refine ld_14 dd_H_trialIsAsSeen_15 h.1 ?_
    have h := h.2
    refine j_astore_n (j := 3) dd_H_trialIsAsSeen_16 rfl (by decide) rfl ?_
    refine j_aload_n (j := 3) dd_H_trialIsAsSeen_17 rfl rfl ?_
    refine gf_8_0 dd_H_trialIsAsSeen_18 wd_275 ?_
    refine j_iload_n (j := 1) dd_H_trialIsAsSeen_21 rfl rfl ?_
    refine j_icmp_ne (tgt := 49) dd_H_trialIsAsSeen_22 (by decide) (fun c => ?_) (fun c => ?_)
    · have h := h.1 c
      refine j_iincN dd_H_trialIsAsSeen_49 rfl rfl (fun a1 ea1 => ?_)
      have h := h a1 ea1
      refine j_goto (tgt := 2) dd_H_trialIsAsSeen_52 (by decide) ?_
      exact j_jump h (jsub_c rfl (jsub_c rfl (jsub_c rfl jsub_0)))
    · have h := h.2 c
      refine j_aload_n (j := 0) dd_H_trialIsAsSeen_25 rfl rfl ?_
      refine gf_0_1 dd_H_trialIsAsSeen_26 wd_288 ?_
      refine gf_3_1 dd_H_trialIsAsSeen_29 wd_162 ?_
      refine j_aload_n (j := 3) dd_H_trialIsAsSeen_32 rfl rfl ?_
      refine gf_8_1 dd_H_trialIsAsSeen_33 wd_277 ?_
      refine ld_5 dd_H_trialIsAsSeen_36 h.1 ?_
      have h := h.2
      refine gf_2_1 dd_H_trialIsAsSeen_37 wd_139 ?_
      refine j_aload_n (j := 3) dd_H_trialIsAsSeen_40 rfl rfl ?_
      refine gf_8_2 dd_H_trialIsAsSeen_41 wd_279 ?_
      refine j_icmp_eq (tgt := 49) dd_H_trialIsAsSeen_44 (by decide) (fun c => ?_) (fun c => ?_)
      · have h := h.1 c
        refine j_iincN dd_H_trialIsAsSeen_49 rfl rfl (fun a2 ea2 => ?_)
        have h := h a2 ea2
        refine j_goto (tgt := 2) dd_H_trialIsAsSeen_52 (by decide) ?_
        exact j_jump h (jsub_c rfl (jsub_c rfl (jsub_c rfl jsub_0)))
      · have h := h.2 c
        refine j_iconst dd_H_trialIsAsSeen_47 (inRd rfl) ?_
        exact j_zret dd_H_trialIsAsSeen_48 rfl (Or.inl rfl) h
theorem vc_H_lastWeekSeen {E : EE} {Q : Int → JM → Prop}  (M : JM) (h : JG E mm_H_lastWeekSeen Q 4 [(0, vR 0 0), (1, vI 0), (2, vI 0)] [] M) : JC E mm_H_lastWeekSeen [vR 0 0] M Q := by
  refine j_entry (L0 := [(0, vR 0 0)]) pn_H (Nat.le_of_ble_eq_true rfl) rfl ?_
  refine j_iconst dd_H_lastWeekSeen_0 (inRd rfl) ?_
  refine j_istore_n (j := 1) dd_H_lastWeekSeen_1 rfl (by decide) rfl ?_
  refine j_iconst dd_H_lastWeekSeen_2 (inRd rfl) ?_
  refine j_istore_n (j := 2) dd_H_lastWeekSeen_3 rfl (by decide) rfl ?_
  exact j_jump h (jsub_c rfl (jsub_c rfl (jsub_c rfl jsub_0)))
theorem vc_H_lastWeekSeen_4 {E : EE} {Q : Int → JM → Prop} (l1 : Int) (l2 : Int) (M : JM) (h : ((M 0 0 9 ≤ l2 → Q l1 M) ∧ (l2 < M 0 0 9 → (0 ≤ l2 ∧ l2 < 6) ∧ ∀ a1 : Int, a1 = max l1 (M 8 l2.toNat 0) → ∀ a2 : Int, a2 = w32 (l2 + 1) → JG E mm_H_lastWeekSeen Q 4 [(0, vR 0 0), (1, vI a1), (2, vI a2)] [] M))) : JG E mm_H_lastWeekSeen Q 4 [(0, vR 0 0), (1, vI l1), (2, vI l2)] [] M := by
  refine j_iload_n (j := 2) dd_H_lastWeekSeen_4 rfl rfl ?_
  refine j_aload_n (j := 0) dd_H_lastWeekSeen_5 rfl rfl ?_
  refine gf_0_9 dd_H_lastWeekSeen_6 wd_296 ?_
  refine j_icmp_ge (tgt := 32) dd_H_lastWeekSeen_9 (by decide) (fun c => ?_) (fun c => ?_)
  · have h := h.1 c
    refine j_iload_n (j := 1) dd_H_lastWeekSeen_32 rfl rfl ?_
    exact j_iret dd_H_lastWeekSeen_33 rfl h
  · have h := h.2 c
    refine j_iload_n (j := 1) dd_H_lastWeekSeen_12 rfl rfl ?_
    refine j_aload_n (j := 0) dd_H_lastWeekSeen_13 rfl rfl ?_
    refine gf_0_7 dd_H_lastWeekSeen_14 wd_294 ?_
    refine j_iload_n (j := 2) dd_H_lastWeekSeen_17 rfl rfl ?_
    refine ld_14 dd_H_lastWeekSeen_18 h.1 ?_
    have h := h.2
    refine gf_8_0 dd_H_lastWeekSeen_19 wd_275 ?_
    refine j_mmax dd_H_lastWeekSeen_22 wd_734 wd_469 wd_75 wd_470 ⟨by decide, by decide⟩ (Nat.le_of_ble_eq_true rfl) ?_
    refine j_topI (fun a1 ea1 => ?_)
    have h := h a1 ea1
    refine j_istore_n (j := 1) dd_H_lastWeekSeen_25 rfl (by decide) rfl ?_
    refine j_iincN dd_H_lastWeekSeen_26 rfl rfl (fun a2 ea2 => ?_)
    have h := h a2 ea2
    refine j_goto (tgt := 4) dd_H_lastWeekSeen_29 (by decide) ?_
    exact j_jump h (jsub_c rfl (jsub_c rfl (jsub_c rfl jsub_0)))
theorem vc_H_strengthsAsSeen {E : EE} {Q : Int → JM → Prop} (x1 : Int) (M : JM) (h : JG E mm_H_strengthsAsSeen Q 4 [(0, vR 0 0), (1, vI x1), (2, vI 0), (3, vI 1)] [] M) : JC E mm_H_strengthsAsSeen [vR 0 0, vI x1] M Q := by
  refine j_entry (L0 := [(0, vR 0 0), (1, vI x1)]) pn_H (Nat.le_of_ble_eq_true rfl) rfl ?_
  refine j_iconst dd_H_strengthsAsSeen_0 (inRd rfl) ?_
  refine j_istore_n (j := 2) dd_H_strengthsAsSeen_1 rfl (by decide) rfl ?_
  refine j_iconst dd_H_strengthsAsSeen_2 (inRd rfl) ?_
  refine j_istore_n (j := 3) dd_H_strengthsAsSeen_3 rfl (by decide) rfl ?_
  exact j_jump h (jsub_c rfl (jsub_c rfl (jsub_c rfl (jsub_c rfl jsub_0))))
theorem vc_H_strengthsAsSeen_4 {E : EE} {Q : Int → JM → Prop} (x1 : Int) (l2 : Int) (l3 : Int) (M : JM) (h : ((20 < l3 → Q l2 M) ∧ (l3 ≤ 20 → JC E mm_T_copyFrom [vR 3 1, vR 3 0] M (fun a2 M1 => (0 ≤ x1 ∧ x1 < 4) ∧ ∀ M3 : JM, M3 = pt M1 2 (4 * 1 + (M1 5 1 x1.toNat).toNat) 0 l3 → JC E mm_H_trialGoesAsSeen [vR 0 0] M3 (fun a5 M4 => ((a5 = 0 → ∀ a6 : Int, a6 = w32 (l3 + 1) → JG E mm_H_strengthsAsSeen Q 4 [(0, vR 0 0), (1, vI x1), (2, vI l2), (3, vI a6)] [] M4) ∧ (a5 ≠ 0 → ∀ a7 : Int, a7 = or32 l2 (shl32 1 l3) → ∀ a8 : Int, a8 = w32 (l3 + 1) → JG E mm_H_strengthsAsSeen Q 4 [(0, vR 0 0), (1, vI x1), (2, vI a7), (3, vI a8)] [] M4))))))) : JG E mm_H_strengthsAsSeen Q 4 [(0, vR 0 0), (1, vI x1), (2, vI l2), (3, vI l3)] [] M := by
  refine j_iload_n (j := 3) dd_H_strengthsAsSeen_4 rfl rfl ?_
  refine j_bipush dd_H_strengthsAsSeen_5 rfl (inRd rfl) ?_
  refine j_icmp_gt (tgt := 53) dd_H_strengthsAsSeen_7 (by decide) (fun c => ?_) (fun c => ?_)
  · have h := h.1 c
    refine j_iload_n (j := 2) dd_H_strengthsAsSeen_53 rfl rfl ?_
    exact j_iret dd_H_strengthsAsSeen_54 rfl h
  · have h := h.2 c
    refine j_aload_n (j := 0) dd_H_strengthsAsSeen_10 rfl rfl ?_
    refine gf_0_1 dd_H_strengthsAsSeen_11 wd_288 ?_
    refine j_aload_n (j := 0) dd_H_strengthsAsSeen_14 rfl rfl ?_
    refine gf_0_0 dd_H_strengthsAsSeen_15 wd_287 ?_
    refine j_cVV (mm' := mm_T_copyFrom) (t := 3) (i := 1) (As := [vR 3 0]) (rest := []) h dd_H_strengthsAsSeen_18 (ws5 wd_479 wd_480 wd_481 wd_64 wd_482) nk_T_copyFrom (rok rfl) (by unfold isW; omega) ⟨_, ce_3 _⟩ rfl (Nat.le_of_ble_eq_true rfl) (fun _ => rfl) (fun a2 M1 h => ?_)
    refine j_aload_n (j := 0) dd_H_strengthsAsSeen_21 rfl rfl ?_
    refine gf_0_1 dd_H_strengthsAsSeen_22 wd_288 ?_
    refine gf_3_1 dd_H_strengthsAsSeen_25 wd_162 ?_
    refine j_iload_n (j := 1) dd_H_strengthsAsSeen_28 rfl rfl ?_
    refine ld_5 dd_H_strengthsAsSeen_29 h.1 ?_
    have h := h.2
    refine j_iload_n (j := 3) dd_H_strengthsAsSeen_30 rfl rfl ?_
    refine pf_2_0 dd_H_strengthsAsSeen_31 wd_136 (fun M3 eM3 => ?_)
    have h := h M3 eM3
    refine j_aload_n (j := 0) dd_H_strengthsAsSeen_34 rfl rfl ?_
    refine j_cVI (mm' := mm_H_trialGoesAsSeen) (t := 0) (i := 0) (As := []) (rest := []) h dd_H_strengthsAsSeen_35 (ws5 wd_726 wd_728 wd_25 wd_63 wd_729) nk_H_trialGoesAsSeen (rok rfl) (by unfold isW; omega) ⟨_, ce_0 _⟩ rfl (Nat.le_of_ble_eq_true rfl) (fun _ => rfl) (fun a5 M4 h => ?_)
    refine j_if_eq (tgt := 47) dd_H_strengthsAsSeen_38 (by decide) (fun c => ?_) (fun c => ?_)
    · have h := h.1 c
      refine j_iincN dd_H_strengthsAsSeen_47 rfl rfl (fun a6 ea6 => ?_)
      have h := h a6 ea6
      refine j_goto (tgt := 4) dd_H_strengthsAsSeen_50 (by decide) ?_
      exact j_jump h (jsub_c rfl (jsub_c rfl (jsub_c rfl (jsub_c rfl jsub_0))))
    · have h := h.2 c
      refine j_iload_n (j := 2) dd_H_strengthsAsSeen_41 rfl rfl ?_
      refine j_iconst dd_H_strengthsAsSeen_42 (inRd rfl) ?_
      refine j_iload_n (j := 3) dd_H_strengthsAsSeen_43 rfl rfl ?_
      refine j_ishl dd_H_strengthsAsSeen_44 ?_
      refine j_ior dd_H_strengthsAsSeen_45 ?_
      refine j_topI (fun a7 ea7 => ?_)
      have h := h a7 ea7
      refine j_istore_n (j := 2) dd_H_strengthsAsSeen_46 rfl (by decide) rfl ?_
      refine j_iincN dd_H_strengthsAsSeen_47 rfl rfl (fun a8 ea8 => ?_)
      have h := h a8 ea8
      refine j_goto (tgt := 4) dd_H_strengthsAsSeen_50 (by decide) ?_
      exact j_jump h (jsub_c rfl (jsub_c rfl (jsub_c rfl (jsub_c rfl jsub_0))))
theorem vc_H_foretell {E : EE} {Q : Int → JM → Prop} (x1 : Int) (x2 : Int) (M : JM) (h : JG E mm_H_foretell Q 2 [(0, vR 0 0), (1, vI x1), (2, vI x2), (3, vI 1)] [] M) : JC E mm_H_foretell [vR 0 0, vI x1, vI x2] M Q := by
  refine j_entry (L0 := [(0, vR 0 0), (1, vI x1), (2, vI x2)]) pn_H (Nat.le_of_ble_eq_true rfl) rfl ?_
  refine j_iconst dd_H_foretell_0 (inRd rfl) ?_
  refine j_istore_n (j := 3) dd_H_foretell_1 rfl (by decide) rfl ?_
  exact j_jump h (jsub_c rfl (jsub_c rfl (jsub_c rfl (jsub_c rfl jsub_0))))
theorem vc_H_foretell_2 {E : EE} {Q : Int → JM → Prop} (x1 : Int) (x2 : Int) (l3 : Int) (M : JM) (h : ((20 < l3 → Q 0 M) ∧ (l3 ≤ 20 → JC E mm_H_hasBit [vI x2, vI l3] M (fun a2 M1 => ((a2 = 0 → ∀ a3 : Int, a3 = w32 (l3 + 1) → JG E mm_H_foretell Q 2 [(0, vR 0 0), (1, vI x1), (2, vI x2), (3, vI a3)] [] M1) ∧ (a2 ≠ 0 → JC E mm_T_copyFrom [vR 3 1, vR 3 0] M1 (fun a5 M4 => (0 ≤ x1 ∧ x1 < 4) ∧ ∀ M6 : JM, M6 = pt M4 2 (4 * 1 + (M4 5 1 x1.toNat).toNat) 0 l3 → JC E mm_H_foretellRow [vR 0 0, vI l3] M6 (fun a8 M7 => ∀ a9 : Int, a9 = w32 (l3 + 1) → JG E mm_H_foretell Q 2 [(0, vR 0 0), (1, vI x1), (2, vI x2), (3, vI a9)] [] M7)))))))) : JG E mm_H_foretell Q 2 [(0, vR 0 0), (1, vI x1), (2, vI x2), (3, vI l3)] [] M := by
  refine j_iload_n (j := 3) dd_H_foretell_2 rfl rfl ?_
  refine j_bipush dd_H_foretell_3 rfl (inRd rfl) ?_
  refine j_icmp_gt (tgt := 51) dd_H_foretell_5 (by decide) (fun c => ?_) (fun c => ?_)
  · have h := h.1 c
    exact j_vret dd_H_foretell_51 rfl h
  · have h := h.2 c
    refine j_iload_n (j := 2) dd_H_foretell_8 rfl rfl ?_
    refine j_iload_n (j := 3) dd_H_foretell_9 rfl rfl ?_
    refine j_cSI (mm' := mm_H_hasBit) (As := [vI x2, vI l3]) (rest := []) h dd_H_foretell_10 (ws4 wd_621 wd_533 wd_63 wd_534) nk_H_hasBit (rok rfl) (Nat.le_of_ble_eq_true rfl) (fun _ => rfl) (fun a2 M1 h => ?_)
    refine j_if_eq (tgt := 45) dd_H_foretell_13 (by decide) (fun c => ?_) (fun c => ?_)
    · have h := h.1 c
      refine j_iincN dd_H_foretell_45 rfl rfl (fun a3 ea3 => ?_)
      have h := h a3 ea3
      refine j_goto (tgt := 2) dd_H_foretell_48 (by decide) ?_
      exact j_jump h (jsub_c rfl (jsub_c rfl (jsub_c rfl (jsub_c rfl jsub_0))))
    · have h := h.2 c
      refine j_aload_n (j := 0) dd_H_foretell_16 rfl rfl ?_
      refine gf_0_1 dd_H_foretell_17 wd_288 ?_
      refine j_aload_n (j := 0) dd_H_foretell_20 rfl rfl ?_
      refine gf_0_0 dd_H_foretell_21 wd_287 ?_
      refine j_cVV (mm' := mm_T_copyFrom) (t := 3) (i := 1) (As := [vR 3 0]) (rest := []) h dd_H_foretell_24 (ws5 wd_479 wd_480 wd_481 wd_64 wd_482) nk_T_copyFrom (rok rfl) (by unfold isW; omega) ⟨_, ce_3 _⟩ rfl (Nat.le_of_ble_eq_true rfl) (fun _ => rfl) (fun a5 M4 h => ?_)
      refine j_aload_n (j := 0) dd_H_foretell_27 rfl rfl ?_
      refine gf_0_1 dd_H_foretell_28 wd_288 ?_
      refine gf_3_1 dd_H_foretell_31 wd_162 ?_
      refine j_iload_n (j := 1) dd_H_foretell_34 rfl rfl ?_
      refine ld_5 dd_H_foretell_35 h.1 ?_
      have h := h.2
      refine j_iload_n (j := 3) dd_H_foretell_36 rfl rfl ?_
      refine pf_2_0 dd_H_foretell_37 wd_136 (fun M6 eM6 => ?_)
      have h := h M6 eM6
      refine j_aload_n (j := 0) dd_H_foretell_40 rfl rfl ?_
      refine j_iload_n (j := 3) dd_H_foretell_41 rfl rfl ?_
      refine j_cVV (mm' := mm_H_foretellRow) (t := 0) (i := 0) (As := [vI l3]) (rest := []) h dd_H_foretell_42 (ws5 wd_759 wd_761 wd_30 wd_63 wd_762) nk_H_foretellRow (rok rfl) (by unfold isW; omega) ⟨_, ce_0 _⟩ rfl (Nat.le_of_ble_eq_true rfl) (fun _ => rfl) (fun a8 M7 h => ?_)
      refine j_iincN dd_H_foretell_45 rfl rfl (fun a9 ea9 => ?_)
      have h := h a9 ea9
      refine j_goto (tgt := 2) dd_H_foretell_48 (by decide) ?_
      exact j_jump h (jsub_c rfl (jsub_c rfl (jsub_c rfl (jsub_c rfl jsub_0))))
theorem vc_H_foretellRow {E : EE} {Q : Int → JM → Prop} (x1 : Int) (M : JM) (h : JG E mm_H_foretellRow Q 2 [(0, vR 0 0), (1, vI x1), (2, vI 0)] [] M) : JC E mm_H_foretellRow [vR 0 0, vI x1] M Q := by
  refine j_entry (L0 := [(0, vR 0 0), (1, vI x1)]) pn_H (Nat.le_of_ble_eq_true rfl) rfl ?_
  refine j_iconst dd_H_foretellRow_0 (inRd rfl) ?_
  refine j_istore_n (j := 2) dd_H_foretellRow_1 rfl (by decide) rfl ?_
  exact j_jump h (jsub_c rfl (jsub_c rfl (jsub_c rfl jsub_0)))
theorem vc_H_foretellRow_2 {E : EE} {Q : Int → JM → Prop} (x1 : Int) (l2 : Int) (M : JM) (h : ((20 < l2 → Q 0 M) ∧ (l2 ≤ 20 → JG E mm_H_foretellRow Q 10 [(0, vR 0 0), (1, vI x1), (2, vI l2), (3, vI 0)] [] M))) : JG E mm_H_foretellRow Q 2 [(0, vR 0 0), (1, vI x1), (2, vI l2)] [] M := by
  refine j_iload_n (j := 2) dd_H_foretellRow_2 rfl rfl ?_
  refine j_bipush dd_H_foretellRow_3 rfl (inRd rfl) ?_
  refine j_icmp_gt (tgt := 65) dd_H_foretellRow_5 (by decide) (fun c => ?_) (fun c => ?_)
  · have h := h.1 c
    exact j_vret dd_H_foretellRow_65 rfl h
  · have h := h.2 c
    refine j_iconst dd_H_foretellRow_8 (inRd rfl) ?_
    refine j_istore_n (j := 3) dd_H_foretellRow_9 rfl (by decide) rfl ?_
    exact j_jump h (jsub_c rfl (jsub_c rfl (jsub_c rfl (jsub_c rfl jsub_0))))
theorem vc_H_foretellRow_10 {E : EE} {Q : Int → JM → Prop} (x1 : Int) (l2 : Int) (l3 : Int) (M : JM) (h : ((M 3 0 3 ≤ l3 → JC E mm_T_passWeek [vR 3 1, vI 0] M (fun a2 M1 => ∀ a3 : Int, a3 = w32 (l2 + 1) → JG E mm_H_foretellRow Q 2 [(0, vR 0 0), (1, vI x1), (2, vI a3)] [] M1)) ∧ (l3 < M 3 0 3 → (0 ≤ x1 ∧ x1 < 21) ∧ (0 ≤ l3 ∧ l3 < 4) ∧ (0 ≤ w32 (w32 (l2 * 4) + l3) ∧ w32 (w32 (l2 * 4) + l3) < 84) ∧ ∀ M4 : JM, M4 = pt M 16 x1.toNat ((w32 (w32 (l2 * 4) + l3)).toNat) (M 2 (4 * 1 + (M 5 1 l3.toNat).toNat) 1) → ∀ a5 : Int, a5 = w32 (l3 + 1) → JG E mm_H_foretellRow Q 10 [(0, vR 0 0), (1, vI x1), (2, vI l2), (3, vI a5)] [] M4))) : JG E mm_H_foretellRow Q 10 [(0, vR 0 0), (1, vI x1), (2, vI l2), (3, vI l3)] [] M := by
  refine j_iload_n (j := 3) dd_H_foretellRow_10 rfl rfl ?_
  refine j_aload_n (j := 0) dd_H_foretellRow_11 rfl rfl ?_
  refine gf_0_0 dd_H_foretellRow_12 wd_287 ?_
  refine gf_3_3 dd_H_foretellRow_15 wd_168 ?_
  refine j_icmp_ge (tgt := 51) dd_H_foretellRow_18 (by decide) (fun c => ?_) (fun c => ?_)
  · have h := h.1 c
    refine j_aload_n (j := 0) dd_H_foretellRow_51 rfl rfl ?_
    refine gf_0_1 dd_H_foretellRow_52 wd_288 ?_
    refine j_iconst dd_H_foretellRow_55 (inRd rfl) ?_
    refine j_cVV (mm' := mm_T_passWeek) (t := 3) (i := 1) (As := [vI 0]) (rest := []) h dd_H_foretellRow_56 (ws5 wd_620 wd_587 wd_588 wd_64 wd_589) nk_T_passWeek (rok rfl) (by unfold isW; omega) ⟨_, ce_3 _⟩ rfl (Nat.le_of_ble_eq_true rfl) (fun _ => rfl) (fun a2 M1 h => ?_)
    refine j_iincN dd_H_foretellRow_59 rfl rfl (fun a3 ea3 => ?_)
    have h := h a3 ea3
    refine j_goto (tgt := 2) dd_H_foretellRow_62 (by decide) ?_
    exact j_jump h (jsub_c rfl (jsub_c rfl (jsub_c rfl jsub_0)))
  · have h := h.2 c
    refine j_aload_n (j := 0) dd_H_foretellRow_21 rfl rfl ?_
    refine gf_0_8 dd_H_foretellRow_22 wd_295 ?_
    refine j_iload_n (j := 1) dd_H_foretellRow_25 rfl rfl ?_
    refine ld_15 dd_H_foretellRow_26 h.1 ?_
    have h := h.2
    refine j_iload_n (j := 2) dd_H_foretellRow_27 rfl rfl ?_
    refine j_iconst dd_H_foretellRow_28 (inRd rfl) ?_
    refine j_imul dd_H_foretellRow_29 ?_
    refine j_iload_n (j := 3) dd_H_foretellRow_30 rfl rfl ?_
    refine j_iadd dd_H_foretellRow_31 ?_
    refine j_aload_n (j := 0) dd_H_foretellRow_32 rfl rfl ?_
    refine gf_0_1 dd_H_foretellRow_33 wd_288 ?_
    refine gf_3_1 dd_H_foretellRow_36 wd_162 ?_
    refine j_iload_n (j := 3) dd_H_foretellRow_39 rfl rfl ?_
    refine ld_5 dd_H_foretellRow_40 h.1 ?_
    have h := h.2
    refine gf_2_1 dd_H_foretellRow_41 wd_139 ?_
    refine st_16 dd_H_foretellRow_44 h.1 (fun M4 eM4 => ?_)
    have h := h.2
    have h := h M4 eM4
    refine j_iincN dd_H_foretellRow_45 rfl rfl (fun a5 ea5 => ?_)
    have h := h a5 ea5
    refine j_goto (tgt := 10) dd_H_foretellRow_48 (by decide) ?_
    exact j_jump h (jsub_c rfl (jsub_c rfl (jsub_c rfl (jsub_c rfl jsub_0))))
theorem vc_H_mostAlike {E : EE} {Q : Int → JM → Prop} (x1 : Int) (x2 : Int) (M : JM) (h : JG E mm_H_mostAlike Q 5 [(0, vR 0 0), (1, vI x1), (2, vI x2), (3, vI 0), (4, vI 1)] [] M) : JC E mm_H_mostAlike [vR 0 0, vI x1, vI x2] M Q := by
  refine j_entry (L0 := [(0, vR 0 0), (1, vI x1), (2, vI x2)]) pn_H (Nat.le_of_ble_eq_true rfl) rfl ?_
  refine j_iconst dd_H_mostAlike_0 (inRd rfl) ?_
  refine j_istore_n (j := 3) dd_H_mostAlike_1 rfl (by decide) rfl ?_
  refine j_iconst dd_H_mostAlike_2 (inRd rfl) ?_
  refine j_istore (j := 4) dd_H_mostAlike_3 (by decide) rfl ?_
  exact j_jump h (jsub_c rfl (jsub_c rfl (jsub_c rfl (jsub_c rfl (jsub_c rfl jsub_0)))))
theorem vc_H_mostAlike_5 {E : EE} {Q : Int → JM → Prop} (x1 : Int) (x2 : Int) (l3 : Int) (l4 : Int) (M : JM) (h : ((20 < l4 → Q l3 M) ∧ (l4 ≤ 20 → JC E mm_H_hasBit [vI x1, vI l4] M (fun a2 M1 => ((a2 = 0 → ∀ a3 : Int, a3 = w32 (l4 + 1) → JG E mm_H_mostAlike Q 5 [(0, vR 0 0), (1, vI x1), (2, vI x2), (3, vI l3), (4, vI a3)] [] M1) ∧ (a2 ≠ 0 → JC E mm_H_alikeFrom [vR 0 0, vI l4, vI x1, vI x2] M1 (fun a5 M4 => ∀ a6 : Int, a6 = max l3 a5 → ∀ a7 : Int, a7 = w32 (l4 + 1) → JG E mm_H_mostAlike Q 5 [(0, vR 0 0), (1, vI x1), (2, vI x2), (3, vI a6), (4, vI a7)] [] M4))))))) : JG E mm_H_mostAlike Q 5 [(0, vR 0 0), (1, vI x1), (2, vI x2), (3, vI l3), (4, vI l4)] [] M := by
  refine j_iload (j := 4) dd_H_mostAlike_5 rfl ?_
  refine j_bipush dd_H_mostAlike_7 rfl (inRd rfl) ?_
  refine j_icmp_gt (tgt := 40) dd_H_mostAlike_9 (by decide) (fun c => ?_) (fun c => ?_)
  · have h := h.1 c
    refine j_iload_n (j := 3) dd_H_mostAlike_40 rfl rfl ?_
    exact j_iret dd_H_mostAlike_41 rfl h
  · have h := h.2 c
    refine j_iload_n (j := 1) dd_H_mostAlike_12 rfl rfl ?_
    refine j_iload (j := 4) dd_H_mostAlike_13 rfl ?_
    refine j_cSI (mm' := mm_H_hasBit) (As := [vI x1, vI l4]) (rest := []) h dd_H_mostAlike_15 (ws4 wd_621 wd_533 wd_63 wd_534) nk_H_hasBit (rok rfl) (Nat.le_of_ble_eq_true rfl) (fun _ => rfl) (fun a2 M1 h => ?_)
    refine j_if_eq (tgt := 34) dd_H_mostAlike_18 (by decide) (fun c => ?_) (fun c => ?_)
    · have h := h.1 c
      refine j_iincN dd_H_mostAlike_34 rfl rfl (fun a3 ea3 => ?_)
      have h := h a3 ea3
      refine j_goto (tgt := 5) dd_H_mostAlike_37 (by decide) ?_
      exact j_jump h (jsub_c rfl (jsub_c rfl (jsub_c rfl (jsub_c rfl (jsub_c rfl jsub_0)))))
    · have h := h.2 c
      refine j_iload_n (j := 3) dd_H_mostAlike_21 rfl rfl ?_
      refine j_aload_n (j := 0) dd_H_mostAlike_22 rfl rfl ?_
      refine j_iload (j := 4) dd_H_mostAlike_23 rfl ?_
      refine j_iload_n (j := 1) dd_H_mostAlike_25 rfl rfl ?_
      refine j_iload_n (j := 2) dd_H_mostAlike_26 rfl rfl ?_
      refine j_cVI (mm' := mm_H_alikeFrom) (t := 0) (i := 0) (As := [vI l4, vI x1, vI x2]) (rest := [vI l3]) h dd_H_mostAlike_27 (ws5 wd_773 wd_775 wd_32 wd_63 wd_776) nk_H_alikeFrom (rok rfl) (by unfold isW; omega) ⟨_, ce_0 _⟩ rfl (Nat.le_of_ble_eq_true rfl) (fun _ => rfl) (fun a5 M4 h => ?_)
      refine j_mmax dd_H_mostAlike_30 wd_734 wd_469 wd_75 wd_470 ⟨by decide, by decide⟩ (Nat.le_of_ble_eq_true rfl) ?_
      refine j_topI (fun a6 ea6 => ?_)
      have h := h a6 ea6
      refine j_istore_n (j := 3) dd_H_mostAlike_33 rfl (by decide) rfl ?_
      refine j_iincN dd_H_mostAlike_34 rfl rfl (fun a7 ea7 => ?_)
      have h := h a7 ea7
      refine j_goto (tgt := 5) dd_H_mostAlike_37 (by decide) ?_
      exact j_jump h (jsub_c rfl (jsub_c rfl (jsub_c rfl (jsub_c rfl (jsub_c rfl jsub_0)))))
theorem vc_H_alikeFrom {E : EE} {Q : Int → JM → Prop} (x1 : Int) (x2 : Int) (x3 : Int) (M : JM) (h : JG E mm_H_alikeFrom Q 6 [(0, vR 0 0), (1, vI x1), (2, vI x2), (3, vI x3), (4, vI 0), (5, vI x1)] [] M) : JC E mm_H_alikeFrom [vR 0 0, vI x1, vI x2, vI x3] M Q := by
  refine j_entry (L0 := [(0, vR 0 0), (1, vI x1), (2, vI x2), (3, vI x3)]) pn_H (Nat.le_of_ble_eq_true rfl) rfl ?_
  refine j_iconst dd_H_alikeFrom_0 (inRd rfl) ?_
  refine j_istore (j := 4) dd_H_alikeFrom_1 (by decide) rfl ?_
  refine j_iload_n (j := 1) dd_H_alikeFrom_3 rfl rfl ?_
  refine j_istore (j := 5) dd_H_alikeFrom_4 (by decide) rfl ?_
  exact j_jump h (jsub_c rfl (jsub_c rfl (jsub_c rfl (jsub_c rfl (jsub_c rfl (jsub_c rfl jsub_0))))))
theorem vc_H_alikeFrom_6 {E : EE} {Q : Int → JM → Prop} (x1 : Int) (x2 : Int) (x3 : Int) (l4 : Int) (l5 : Int) (M : JM) (h : ((20 < l5 → Q l4 M) ∧ (l5 ≤ 20 → JC E mm_H_hasBit [vI x2, vI l5] M (fun a2 M1 => ((a2 = 0 → ∀ a3 : Int, a3 = w32 (l5 + 1) → JG E mm_H_alikeFrom Q 6 [(0, vR 0 0), (1, vI x1), (2, vI x2), (3, vI x3), (4, vI l4), (5, vI a3)] [] M1) ∧ (a2 ≠ 0 → (0 ≤ l5 ∧ l5 < 21) ∧ (0 ≤ x3 ∧ x3 < 84) ∧ (0 ≤ x1 ∧ x1 < 21) ∧ (0 ≤ x3 ∧ x3 < 84) ∧ ((M1 16 l5.toNat x3.toNat ≠ M1 16 x1.toNat x3.toNat → ∀ a4 : Int, a4 = w32 (l5 + 1) → JG E mm_H_alikeFrom Q 6 [(0, vR 0 0), (1, vI x1), (2, vI x2), (3, vI x3), (4, vI l4), (5, vI a4)] [] M1) ∧ (M1 16 l5.toNat x3.toNat = M1 16 x1.toNat x3.toNat → ∀ a5 : Int, a5 = w32 (l4 + 1) → ∀ a6 : Int, a6 = w32 (l5 + 1) → JG E mm_H_alikeFrom Q 6 [(0, vR 0 0), (1, vI x1), (2, vI x2), (3, vI x3), (4, vI a5), (5, vI a6)] [] M1)))))))) : JG E mm_H_alikeFrom Q 6 [(0, vR 0 0), (1, vI x1), (2, vI x2), (3, vI x3), (4, vI l4), (5, vI l5)] [] M := by
  refine j_iload (j := 5) dd_H_alikeFrom_6 rfl ?_
  refine j_bipush dd_H_alikeFrom_8 rfl (inRd rfl) ?_
  refine j_icmp_gt (tgt := 51) dd_H_alikeFrom_10 (by decide) (fun c => ?_) (fun c => ?_)
  · have h := h.1 c
    refine j_iload (j := 4) dd_H_alikeFrom_51 rfl ?_
    exact j_iret dd_H_alikeFrom_53 rfl h
  · have h := h.2 c
    refine j_iload_n (j := 2) dd_H_alikeFrom_13 rfl rfl ?_
    refine j_iload (j := 5) dd_H_alikeFrom_14 rfl ?_
    refine j_cSI (mm' := mm_H_hasBit) (As := [vI x2, vI l5]) (rest := []) h dd_H_alikeFrom_16 (ws4 wd_621 wd_533 wd_63 wd_534) nk_H_hasBit (rok rfl) (Nat.le_of_ble_eq_true rfl) (fun _ => rfl) (fun a2 M1 h => ?_)
    refine j_if_eq (tgt := 45) dd_H_alikeFrom_19 (by decide) (fun c => ?_) (fun c => ?_)
    · have h := h.1 c
      refine j_iincN dd_H_alikeFrom_45 rfl rfl (fun a3 ea3 => ?_)
      have h := h a3 ea3
      refine j_goto (tgt := 6) dd_H_alikeFrom_48 (by decide) ?_
      exact j_jump h (jsub_c rfl (jsub_c rfl (jsub_c rfl (jsub_c rfl (jsub_c rfl (jsub_c rfl jsub_0))))))
    · have h := h.2 c
      refine j_aload_n (j := 0) dd_H_alikeFrom_22 rfl rfl ?_
      refine gf_0_8 dd_H_alikeFrom_23 wd_295 ?_
      refine j_iload (j := 5) dd_H_alikeFrom_26 rfl ?_
      refine ld_15 dd_H_alikeFrom_28 h.1 ?_
      have h := h.2
      refine j_iload_n (j := 3) dd_H_alikeFrom_29 rfl rfl ?_
      refine ld_16 dd_H_alikeFrom_30 h.1 ?_
      have h := h.2
      refine j_aload_n (j := 0) dd_H_alikeFrom_31 rfl rfl ?_
      refine gf_0_8 dd_H_alikeFrom_32 wd_295 ?_
      refine j_iload_n (j := 1) dd_H_alikeFrom_35 rfl rfl ?_
      refine ld_15 dd_H_alikeFrom_36 h.1 ?_
      have h := h.2
      refine j_iload_n (j := 3) dd_H_alikeFrom_37 rfl rfl ?_
      refine ld_16 dd_H_alikeFrom_38 h.1 ?_
      have h := h.2
      refine j_icmp_ne (tgt := 45) dd_H_alikeFrom_39 (by decide) (fun c => ?_) (fun c => ?_)
      · have h := h.1 c
        refine j_iincN dd_H_alikeFrom_45 rfl rfl (fun a4 ea4 => ?_)
        have h := h a4 ea4
        refine j_goto (tgt := 6) dd_H_alikeFrom_48 (by decide) ?_
        exact j_jump h (jsub_c rfl (jsub_c rfl (jsub_c rfl (jsub_c rfl (jsub_c rfl (jsub_c rfl jsub_0))))))
      · have h := h.2 c
        refine j_iincN dd_H_alikeFrom_42 rfl rfl (fun a5 ea5 => ?_)
        have h := h a5 ea5
        refine j_iincN dd_H_alikeFrom_45 rfl rfl (fun a6 ea6 => ?_)
        have h := h a6 ea6
        refine j_goto (tgt := 6) dd_H_alikeFrom_48 (by decide) ?_
        exact j_jump h (jsub_c rfl (jsub_c rfl (jsub_c rfl (jsub_c rfl (jsub_c rfl (jsub_c rfl jsub_0))))))

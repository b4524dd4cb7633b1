/-! the steps of the methods, folded -/
theorem vc_M_in {E : EE} {Q : Int → JM → Prop} (x1 : Int) (x2 : Int) (x3 : Int) (M : JM) (h : ((cmpL x1 x2 < 0 → Q 0 M) ∧ (0 ≤ cmpL x1 x2 → ((0 < cmpL x1 x3 → Q 0 M) ∧ (cmpL x1 x3 ≤ 0 → Q 1 M))))) : JC E mm_M_in [vL x1, vL x2, vL x3] M Q := by
  refine j_entry (L0 := [(0, vL x1), (2, vL x2), (4, vL x3)]) pn_M (Nat.le_of_ble_eq_true rfl) rfl ?_
  refine j_lload_n (j := 0) dd_M_in_0 rfl rfl ?_
  refine j_lload_n (j := 2) dd_M_in_1 rfl rfl ?_
  refine j_lcmp dd_M_in_2 ?_
  refine j_if_lt (tgt := 17) dd_M_in_3 (by decide) (fun c => ?_) (fun c => ?_)
  · have h := h.1 c
    refine j_iconst dd_M_in_17 (inRd rfl) ?_
    exact j_zret dd_M_in_18 rfl (Or.inl rfl) h
  · have h := h.2 c
    refine j_lload_n (j := 0) dd_M_in_6 rfl rfl ?_
    refine j_lload (j := 4) dd_M_in_7 rfl ?_
    refine j_lcmp dd_M_in_9 ?_
    refine j_if_gt (tgt := 17) dd_M_in_10 (by decide) (fun c => ?_) (fun c => ?_)
    · have h := h.1 c
      refine j_iconst dd_M_in_17 (inRd rfl) ?_
      exact j_zret dd_M_in_18 rfl (Or.inl rfl) h
    · have h := h.2 c
      refine j_iconst dd_M_in_13 (inRd rfl) ?_
      refine j_goto (tgt := 18) dd_M_in_14 (by decide) ?_
      exact j_zret dd_M_in_18 rfl (Or.inr rfl) h
theorem vc_M_feed {E : EE} {Q : Int → JM → Prop} (x1 : Int) (M : JM) (h : JC E mm_M_in [vL x1, vL 0, vL 127] M (fun a2 M1 => ((a2 ≠ 0 → ((M1 20 0 6 ≠ 160 → (0 ≤ M1 20 0 6 ∧ M1 20 0 6 < 160) ∧ ∀ M3 : JM, M3 = pt M1 23 0 ((M1 20 0 6).toNat) x1 → ∀ M4 : JM, M4 = pt M3 20 0 6 (w32 (M3 20 0 6 + 1)) → Q (M4 20 0 6) M4) ∧ (M1 20 0 6 = 160 → Q (-3) M1))) ∧ (a2 = 0 → Q (-1) M1)))) : JC E mm_M_feed [vR 20 0, vI x1] M Q := by
  refine j_entry (L0 := [(0, vR 20 0), (1, vI x1)]) pn_M (Nat.le_of_ble_eq_true rfl) rfl ?_
  refine j_iload_n (j := 1) dd_M_feed_0 rfl rfl ?_
  refine j_i2l dd_M_feed_1 ?_
  refine j_lconst (x := 0) dd_M_feed_2 rfl (inLd rfl) ?_
  refine j_ldc2 (x := 127) dd_M_feed_3 wd_940 rfl (inLd rfl) ?_
  refine j_cSI (mm' := mm_M_in) (As := [vL x1, vL 0, vL 127]) (rest := []) h dd_M_feed_6 (ws4 wd_941 wd_942 wd_70 wd_943) nk_M_in (rok rfl) (Nat.le_of_ble_eq_true rfl) (fun _ => rfl) (fun a2 M1 h => ?_)
  refine j_if_ne (tgt := 14) dd_M_feed_9 (by decide) (fun c => ?_) (fun c => ?_)
  · have h := h.1 c
    refine j_aload_n (j := 0) dd_M_feed_14 rfl rfl ?_
    refine gf_20_6 dd_M_feed_15 wd_854 ?_
    refine j_sipush dd_M_feed_18 rfl (inRd rfl) ?_
    refine j_icmp_ne (tgt := 27) dd_M_feed_21 (by decide) (fun c => ?_) (fun c => ?_)
    · have h := h.1 c
      refine j_aload_n (j := 0) dd_M_feed_27 rfl rfl ?_
      refine gf_20_5 dd_M_feed_28 wd_853 ?_
      refine j_aload_n (j := 0) dd_M_feed_31 rfl rfl ?_
      refine gf_20_6 dd_M_feed_32 wd_854 ?_
      refine j_iload_n (j := 1) dd_M_feed_35 rfl rfl ?_
      refine st_23 dd_M_feed_36 h.1 (fun M3 eM3 => ?_)
      have h := h.2
      have h := h M3 eM3
      refine j_aload_n (j := 0) dd_M_feed_37 rfl rfl ?_
      refine j_dup dd_M_feed_38 rfl ?_
      refine gf_20_6 dd_M_feed_39 wd_854 ?_
      refine j_iconst dd_M_feed_42 (inRd rfl) ?_
      refine j_iadd dd_M_feed_43 ?_
      refine pf_20_6 dd_M_feed_44 wd_854 (fun M4 eM4 => ?_)
      have h := h M4 eM4
      refine j_aload_n (j := 0) dd_M_feed_47 rfl rfl ?_
      refine gf_20_6 dd_M_feed_48 wd_854 ?_
      exact j_iret dd_M_feed_51 rfl h
    · have h := h.2 c
      refine j_bipush dd_M_feed_24 rfl (inRd rfl) ?_
      exact j_iret dd_M_feed_26 rfl h
  · have h := h.2 c
    refine j_iconst dd_M_feed_12 (inRd rfl) ?_
    exact j_iret dd_M_feed_13 rfl h
theorem vc_M_end {E : EE} {Q : Int → JM → Prop} (x1 : Int) (M : JM) (h : JC E mm_M_in [vL x1, vL 0, vL (M 20 0 6)] M (fun a2 M1 => ((a2 ≠ 0 → ∀ a3 : Int, a3 = M1 20 0 6 → ∀ M4 : JM, M4 = pt M1 20 0 6 x1 → Q a3 M4) ∧ (a2 = 0 → Q (-1) M1)))) : JC E mm_M_end [vR 20 0, vI x1] M Q := by
  refine j_entry (L0 := [(0, vR 20 0), (1, vI x1)]) pn_M (Nat.le_of_ble_eq_true rfl) rfl ?_
  refine j_iload_n (j := 1) dd_M_end_0 rfl rfl ?_
  refine j_i2l dd_M_end_1 ?_
  refine j_lconst (x := 0) dd_M_end_2 rfl (inLd rfl) ?_
  refine j_aload_n (j := 0) dd_M_end_3 rfl rfl ?_
  refine gf_20_6 dd_M_end_4 wd_854 ?_
  refine j_i2l dd_M_end_7 ?_
  refine j_cSI (mm' := mm_M_in) (As := [vL x1, vL 0, vL (M 20 0 6)]) (rest := []) h dd_M_end_8 (ws4 wd_941 wd_942 wd_70 wd_943) nk_M_in (rok rfl) (Nat.le_of_ble_eq_true rfl) (fun _ => rfl) (fun a2 M1 h => ?_)
  refine j_if_ne (tgt := 16) dd_M_end_11 (by decide) (fun c => ?_) (fun c => ?_)
  · have h := h.1 c
    refine j_aload_n (j := 0) dd_M_end_16 rfl rfl ?_
    refine gf_20_6 dd_M_end_17 wd_854 ?_
    refine j_topI (fun a3 ea3 => ?_)
    have h := h a3 ea3
    refine j_istore_n (j := 2) dd_M_end_20 rfl (by decide) rfl ?_
    refine j_aload_n (j := 0) dd_M_end_21 rfl rfl ?_
    refine j_iload_n (j := 1) dd_M_end_22 rfl rfl ?_
    refine pf_20_6 dd_M_end_23 wd_854 (fun M4 eM4 => ?_)
    have h := h M4 eM4
    refine j_iload_n (j := 2) dd_M_end_26 rfl rfl ?_
    exact j_iret dd_M_end_27 rfl h
  · have h := h.2 c
    refine j_iconst dd_M_end_14 (inRd rfl) ?_
    exact j_iret dd_M_end_15 rfl h
theorem vc_M_byteAt {E : EE} {Q : Int → JM → Prop} (x1 : Int) (M : JM) (h : ((M 20 0 6 ≤ x1 → Q (-4) M) ∧ (x1 < M 20 0 6 → (0 ≤ x1 ∧ x1 < 160) ∧ Q (M 23 0 x1.toNat) M))) : JC E mm_M_byteAt [vR 20 0, vI x1] M Q := by
  refine j_entry (L0 := [(0, vR 20 0), (1, vI x1)]) pn_M (Nat.le_of_ble_eq_true rfl) rfl ?_
  refine j_iload_n (j := 1) dd_M_byteAt_0 rfl rfl ?_
  refine j_aload_n (j := 0) dd_M_byteAt_1 rfl rfl ?_
  refine gf_20_6 dd_M_byteAt_2 wd_854 ?_
  refine j_icmp_ge (tgt := 17) dd_M_byteAt_5 (by decide) (fun c => ?_) (fun c => ?_)
  · have h := h.1 c
    refine j_bipush dd_M_byteAt_17 rfl (inRd rfl) ?_
    exact j_iret dd_M_byteAt_19 rfl h
  · have h := h.2 c
    refine j_aload_n (j := 0) dd_M_byteAt_8 rfl rfl ?_
    refine gf_20_5 dd_M_byteAt_9 wd_853 ?_
    refine j_iload_n (j := 1) dd_M_byteAt_12 rfl rfl ?_
    refine ld_23 dd_M_byteAt_13 h.1 ?_
    have h := h.2
    refine j_goto (tgt := 19) dd_M_byteAt_14 (by decide) ?_
    exact j_iret dd_M_byteAt_19 rfl h
theorem vc_M_fails {E : EE} {Q : Int → JM → Prop} (x1 : Int) (M : JM) (h : ((M 20 0 8 ≠ 0 → Q 0 M) ∧ (M 20 0 8 = 0 → ∀ M1 : JM, M1 = pt M 20 0 8 x1 → ∀ M2 : JM, M2 = pt M1 20 0 9 (M1 20 0 11) → Q 0 M2))) : JC E mm_M_fails [vR 20 0, vI x1] M Q := by
  refine j_entry (L0 := [(0, vR 20 0), (1, vI x1)]) pn_M (Nat.le_of_ble_eq_true rfl) rfl ?_
  refine j_aload_n (j := 0) dd_M_fails_0 rfl rfl ?_
  refine gf_20_8 dd_M_fails_1 wd_856 ?_
  refine j_if_ne (tgt := 20) dd_M_fails_4 (by decide) (fun c => ?_) (fun c => ?_)
  · have h := h.1 c
    exact j_vret dd_M_fails_20 rfl h
  · have h := h.2 c
    refine j_aload_n (j := 0) dd_M_fails_7 rfl rfl ?_
    refine j_iload_n (j := 1) dd_M_fails_8 rfl rfl ?_
    refine pf_20_8 dd_M_fails_9 wd_856 (fun M1 eM1 => ?_)
    have h := h M1 eM1
    refine j_aload_n (j := 0) dd_M_fails_12 rfl rfl ?_
    refine j_aload_n (j := 0) dd_M_fails_13 rfl rfl ?_
    refine gf_20_11 dd_M_fails_14 wd_859 ?_
    refine pf_20_9 dd_M_fails_17 wd_857 (fun M2 eM2 => ?_)
    have h := h M2 eM2
    exact j_vret dd_M_fails_20 rfl h
theorem vc_M_nameHere {E : EE} {Q : Int → JM → Prop}  (M : JM) (h : JG E mm_M_nameHere Q 2 [(0, vR 20 0), (1, vI 0)] [] M) : JC E mm_M_nameHere [vR 20 0] M Q := by
  refine j_entry (L0 := [(0, vR 20 0)]) pn_M (Nat.le_of_ble_eq_true rfl) rfl ?_
  refine j_iconst dd_M_nameHere_0 (inRd rfl) ?_
  refine j_istore_n (j := 1) dd_M_nameHere_1 rfl (by decide) rfl ?_
  exact j_jump h (jsub_c rfl (jsub_c rfl jsub_0))
theorem vc_M_nameHere_2 {E : EE} {Q : Int → JM → Prop} (l1 : Int) (M : JM) (h : ((7 ≤ l1 → Q (-4) M) ∧ (l1 < 7 → ((M 20 0 12 ≠ 1 → Q (-4) M) ∧ (M 20 0 12 = 1 → (0 ≤ w32 (l1 + 1) ∧ w32 (l1 + 1) < 8) ∧ (0 ≤ l1 ∧ l1 < 8) ∧ ((w32 (M 20 0 10 - (M 20 0 11)) ≠ w32 (M 24 0 ((w32 (l1 + 1)).toNat) - (M 24 0 l1.toNat)) → JG E mm_M_nameHere Q 51 [(0, vR 20 0), (1, vI l1), (2, vI 0), (3, vI 0)] [] M) ∧ (w32 (M 20 0 10 - (M 20 0 11)) = w32 (M 24 0 ((w32 (l1 + 1)).toNat) - (M 24 0 l1.toNat)) → JG E mm_M_nameHere Q 51 [(0, vR 20 0), (1, vI l1), (2, vI 1), (3, vI 0)] [] M))))))) : JG E mm_M_nameHere Q 2 [(0, vR 20 0), (1, vI l1)] [] M := by
  refine j_iload_n (j := 1) dd_M_nameHere_2 rfl rfl ?_
  refine j_bipush dd_M_nameHere_3 rfl (inRd rfl) ?_
  refine j_icmp_ge (tgt := 118) dd_M_nameHere_5 (by decide) (fun c => ?_) (fun c => ?_)
  · have h := h.1 c
    refine j_bipush dd_M_nameHere_118 rfl (inRd rfl) ?_
    exact j_iret dd_M_nameHere_120 rfl h
  · have h := h.2 c
    refine j_aload_n (j := 0) dd_M_nameHere_8 rfl rfl ?_
    refine gf_20_12 dd_M_nameHere_9 wd_860 ?_
    refine j_iconst dd_M_nameHere_12 (inRd rfl) ?_
    refine j_icmp_ne (tgt := 118) dd_M_nameHere_13 (by decide) (fun c => ?_) (fun c => ?_)
    · have h := h.1 c
      refine j_bipush dd_M_nameHere_118 rfl (inRd rfl) ?_
      exact j_iret dd_M_nameHere_120 rfl h
    · have h := h.2 c
      refine j_aload_n (j := 0) dd_M_nameHere_16 rfl rfl ?_
      refine gf_20_10 dd_M_nameHere_17 wd_858 ?_
      refine j_aload_n (j := 0) dd_M_nameHere_20 rfl rfl ?_
      refine gf_20_11 dd_M_nameHere_21 wd_859 ?_
      refine j_isub dd_M_nameHere_24 ?_
      refine j_aload_n (j := 0) dd_M_nameHere_25 rfl rfl ?_
      refine gf_20_14 dd_M_nameHere_26 wd_862 ?_
      refine j_iload_n (j := 1) dd_M_nameHere_29 rfl rfl ?_
      refine j_iconst dd_M_nameHere_30 (inRd rfl) ?_
      refine j_iadd dd_M_nameHere_31 ?_
      refine ld_24 dd_M_nameHere_32 h.1 ?_
      have h := h.2
      refine j_aload_n (j := 0) dd_M_nameHere_33 rfl rfl ?_
      refine gf_20_14 dd_M_nameHere_34 wd_862 ?_
      refine j_iload_n (j := 1) dd_M_nameHere_37 rfl rfl ?_
      refine ld_24 dd_M_nameHere_38 h.1 ?_
      have h := h.2
      refine j_isub dd_M_nameHere_39 ?_
      refine j_icmp_ne (tgt := 47) dd_M_nameHere_40 (by decide) (fun c => ?_) (fun c => ?_)
      · have h := h.1 c
        refine j_iconst dd_M_nameHere_47 (inRd rfl) ?_
        refine j_istore_n (j := 2) dd_M_nameHere_48 rfl (by decide) rfl ?_
        refine j_iconst dd_M_nameHere_49 (inRd rfl) ?_
        refine j_istore_n (j := 3) dd_M_nameHere_50 rfl (by decide) rfl ?_
        exact j_jump h (jsub_c rfl (jsub_c rfl (jsub_c rfl (jsub_c rfl jsub_0))))
      · have h := h.2 c
        refine j_iconst dd_M_nameHere_43 (inRd rfl) ?_
        refine j_goto (tgt := 48) dd_M_nameHere_44 (by decide) ?_
        refine j_istore_n (j := 2) dd_M_nameHere_48 rfl (by decide) rfl ?_
        refine j_iconst dd_M_nameHere_49 (inRd rfl) ?_
        refine j_istore_n (j := 3) dd_M_nameHere_50 rfl (by decide) rfl ?_
        exact j_jump h (jsub_c rfl (jsub_c rfl (jsub_c rfl (jsub_c rfl jsub_0))))
theorem vc_M_nameHere_51 {E : EE} {Q : Int → JM → Prop} (l1 : Int) (l2 : Int) (l3 : Int) (M : JM) (h : ((l2 = 0 → JG E mm_M_nameHere Q 106 [(0, vR 20 0), (1, vI l1), (2, vI l2)] [] M) ∧ (l2 ≠ 0 → ((w32 (M 20 0 10 - (M 20 0 11)) ≤ l3 → JG E mm_M_nameHere Q 106 [(0, vR 20 0), (1, vI l1), (2, vI l2)] [] M) ∧ (l3 < w32 (M 20 0 10 - (M 20 0 11)) → JC E mm_M_byteAt [vR 20 0, vI (w32 (M 20 0 11 + l3))] M (fun a2 M1 => (0 ≤ l1 ∧ l1 < 8) ∧ (0 ≤ w32 (M1 24 0 l1.toNat + l3) ∧ w32 (M1 24 0 l1.toNat + l3) < 39) ∧ ((a2 ≠ M1 25 0 ((w32 (M1 24 0 l1.toNat + l3)).toNat) → ∀ a3 : Int, a3 = w32 (l3 + 1) → JG E mm_M_nameHere Q 51 [(0, vR 20 0), (1, vI l1), (2, vI 0), (3, vI a3)] [] M1) ∧ (a2 = M1 25 0 ((w32 (M1 24 0 l1.toNat + l3)).toNat) → ∀ a4 : Int, a4 = w32 (l3 + 1) → JG E mm_M_nameHere Q 51 [(0, vR 20 0), (1, vI l1), (2, vI 1), (3, vI a4)] [] M1)))))))) : JG E mm_M_nameHere Q 51 [(0, vR 20 0), (1, vI l1), (2, vI l2), (3, vI l3)] [] M := by
  refine j_iload_n (j := 2) dd_M_nameHere_51 rfl rfl ?_
  refine j_if_eq (tgt := 106) dd_M_nameHere_52 (by decide) (fun c => ?_) (fun c => ?_)
  · have h := h.1 c
    exact j_jump h (jsub_c rfl (jsub_c rfl (jsub_c rfl jsub_0)))
  · have h := h.2 c
    refine j_iload_n (j := 3) dd_M_nameHere_55 rfl rfl ?_
    refine j_aload_n (j := 0) dd_M_nameHere_56 rfl rfl ?_
    refine gf_20_10 dd_M_nameHere_57 wd_858 ?_
    refine j_aload_n (j := 0) dd_M_nameHere_60 rfl rfl ?_
    refine gf_20_11 dd_M_nameHere_61 wd_859 ?_
    refine j_isub dd_M_nameHere_64 ?_
    refine j_icmp_ge (tgt := 106) dd_M_nameHere_65 (by decide) (fun c => ?_) (fun c => ?_)
    · have h := h.1 c
      exact j_jump h (jsub_c rfl (jsub_c rfl (jsub_c rfl jsub_0)))
    · have h := h.2 c
      refine j_aload_n (j := 0) dd_M_nameHere_68 rfl rfl ?_
      refine j_aload_n (j := 0) dd_M_nameHere_69 rfl rfl ?_
      refine gf_20_11 dd_M_nameHere_70 wd_859 ?_
      refine j_iload_n (j := 3) dd_M_nameHere_73 rfl rfl ?_
      refine j_iadd dd_M_nameHere_74 ?_
      refine j_cVI (mm' := mm_M_byteAt) (t := 20) (i := 0) (As := [vI (w32 (M 20 0 11 + l3))]) (rest := []) h dd_M_nameHere_75 (ws5 wd_956 wd_958 wd_35 wd_70 wd_959) nk_M_byteAt (rok rfl) (by unfold isW; omega) ⟨_, ce_20 _⟩ rfl (Nat.le_of_ble_eq_true rfl) (fun _ => rfl) (fun a2 M1 h => ?_)
      refine j_aload_n (j := 0) dd_M_nameHere_78 rfl rfl ?_
      refine gf_20_15 dd_M_nameHere_79 wd_863 ?_
      refine j_aload_n (j := 0) dd_M_nameHere_82 rfl rfl ?_
      refine gf_20_14 dd_M_nameHere_83 wd_862 ?_
      refine j_iload_n (j := 1) dd_M_nameHere_86 rfl rfl ?_
      refine ld_24 dd_M_nameHere_87 h.1 ?_
      have h := h.2
      refine j_iload_n (j := 3) dd_M_nameHere_88 rfl rfl ?_
      refine j_iadd dd_M_nameHere_89 ?_
      refine ld_25 dd_M_nameHere_90 h.1 ?_
      have h := h.2
      refine j_icmp_ne (tgt := 98) dd_M_nameHere_91 (by decide) (fun c => ?_) (fun c => ?_)
      · have h := h.1 c
        refine j_iconst dd_M_nameHere_98 (inRd rfl) ?_
        refine j_istore_n (j := 2) dd_M_nameHere_99 rfl (by decide) rfl ?_
        refine j_iincN dd_M_nameHere_100 rfl rfl (fun a3 ea3 => ?_)
        have h := h a3 ea3
        refine j_goto (tgt := 51) dd_M_nameHere_103 (by decide) ?_
        exact j_jump h (jsub_c rfl (jsub_c rfl (jsub_c rfl (jsub_c rfl jsub_0))))
      · have h := h.2 c
        refine j_iconst dd_M_nameHere_94 (inRd rfl) ?_
        refine j_goto (tgt := 99) dd_M_nameHere_95 (by decide) ?_
        refine j_istore_n (j := 2) dd_M_nameHere_99 rfl (by decide) rfl ?_
        refine j_iincN dd_M_nameHere_100 rfl rfl (fun a4 ea4 => ?_)
        have h := h a4 ea4
        refine j_goto (tgt := 51) dd_M_nameHere_103 (by decide) ?_
        exact j_jump h (jsub_c rfl (jsub_c rfl (jsub_c rfl (jsub_c rfl jsub_0))))
theorem vc_M_nameHere_106 {E : EE} {Q : Int → JM → Prop} (l1 : Int) (l2 : Int) (M : JM) (h : ((l2 = 0 → ∀ a1 : Int, a1 = w32 (l1 + 1) → JG E mm_M_nameHere Q 2 [(0, vR 20 0), (1, vI a1)] [] M) ∧ (l2 ≠ 0 → Q l1 M))) : JG E mm_M_nameHere Q 106 [(0, vR 20 0), (1, vI l1), (2, vI l2)] [] M := by
  refine j_iload_n (j := 2) dd_M_nameHere_106 rfl rfl ?_
  refine j_if_eq (tgt := 112) dd_M_nameHere_107 (by decide) (fun c => ?_) (fun c => ?_)
  · have h := h.1 c
    refine j_iincN dd_M_nameHere_112 rfl rfl (fun a1 ea1 => ?_)
    have h := h a1 ea1
    refine j_goto (tgt := 2) dd_M_nameHere_115 (by decide) ?_
    exact j_jump h (jsub_c rfl (jsub_c rfl jsub_0))
  · have h := h.2 c
    refine j_iload_n (j := 1) dd_M_nameHere_110 rfl rfl ?_
    exact j_iret dd_M_nameHere_111 rfl h
theorem vc_M_step {E : EE} {Q : Int → JM → Prop}  (M : JM) (h : ((M 20 0 8 ≤ 0 → JG E mm_M_step Q 8 [(0, vR 20 0)] [] M) ∧ (0 < M 20 0 8 → Q 0 M))) : JC E mm_M_step [vR 20 0] M Q := by
  refine j_entry (L0 := [(0, vR 20 0)]) pn_M (Nat.le_of_ble_eq_true rfl) rfl ?_
  refine j_aload_n (j := 0) dd_M_step_0 rfl rfl ?_
  refine gf_20_8 dd_M_step_1 wd_856 ?_
  refine j_if_le (tgt := 8) dd_M_step_4 (by decide) (fun c => ?_) (fun c => ?_)
  · have h := h.1 c
    exact j_jump h (jsub_c rfl jsub_0)
  · have h := h.2 c
    exact j_vret dd_M_step_7 rfl h
theorem vc_M_step_8 {E : EE} {Q : Int → JM → Prop}  (M : JM) (h : JC E mm_M_byteAt [vR 20 0, vI (M 20 0 10)] M (fun a2 M1 => ((a2 ≠ 32 → ∀ M3 : JM, M3 = pt M1 20 0 11 (M1 20 0 10) → JC E mm_M_byteAt [vR 20 0, vI (M3 20 0 10)] M3 (fun a5 M4 => ∀ M6 : JM, M6 = pt M4 20 0 13 0 → ((a5 ≠ (-4) → JC E mm_M_in [vL a5, vL 97, vL 122] M6 (fun a8 M7 => ((a8 = 0 → JC E mm_M_in [vL a5, vL 48, vL 57] M7 (fun a10 M9 => ((a10 = 0 → ∀ M11 : JM, M11 = pt M9 20 0 12 3 → ∀ M12 : JM, M12 = pt M11 20 0 10 (w32 (M11 20 0 10 + 1)) → ((a5 = 59 → Q 0 M12) ∧ (a5 ≠ 59 → JC E mm_M_fails [vR 20 0, vI 1] M12 (fun a14 M13 => Q 0 M13)))) ∧ (a10 ≠ 0 → JG E mm_M_step Q 140 [(0, vR 20 0)] [] M9)))) ∧ (a8 ≠ 0 → JG E mm_M_step Q 84 [(0, vR 20 0)] [] M7)))) ∧ (a5 = (-4) → ∀ M15 : JM, M15 = pt M6 20 0 12 0 → Q 0 M15)))) ∧ (a2 = 32 → ∀ M16 : JM, M16 = pt M1 20 0 10 (w32 (M1 20 0 10 + 1)) → JG E mm_M_step Q 8 [(0, vR 20 0)] [] M16)))) : JG E mm_M_step Q 8 [(0, vR 20 0)] [] M := by
  refine j_aload_n (j := 0) dd_M_step_8 rfl rfl ?_
  refine j_aload_n (j := 0) dd_M_step_9 rfl rfl ?_
  refine gf_20_10 dd_M_step_10 wd_858 ?_
  refine j_cVI (mm' := mm_M_byteAt) (t := 20) (i := 0) (As := [vI (M 20 0 10)]) (rest := []) h dd_M_step_13 (ws5 wd_956 wd_958 wd_35 wd_70 wd_959) nk_M_byteAt (rok rfl) (by unfold isW; omega) ⟨_, ce_20 _⟩ rfl (Nat.le_of_ble_eq_true rfl) (fun _ => rfl) (fun a2 M1 h => ?_)
  refine j_bipush dd_M_step_16 rfl (inRd rfl) ?_
  refine j_icmp_ne (tgt := 34) dd_M_step_18 (by decide) (fun c => ?_) (fun c => ?_)
  · have h := h.1 c
    refine j_aload_n (j := 0) dd_M_step_34 rfl rfl ?_
    refine j_aload_n (j := 0) dd_M_step_35 rfl rfl ?_
    refine gf_20_10 dd_M_step_36 wd_858 ?_
    refine pf_20_11 dd_M_step_39 wd_859 (fun M3 eM3 => ?_)
    have h := h M3 eM3
    refine j_aload_n (j := 0) dd_M_step_42 rfl rfl ?_
    refine j_aload_n (j := 0) dd_M_step_43 rfl rfl ?_
    refine gf_20_10 dd_M_step_44 wd_858 ?_
    refine j_cVI (mm' := mm_M_byteAt) (t := 20) (i := 0) (As := [vI (M3 20 0 10)]) (rest := []) h dd_M_step_47 (ws5 wd_956 wd_958 wd_35 wd_70 wd_959) nk_M_byteAt (rok rfl) (by unfold isW; omega) ⟨_, ce_20 _⟩ rfl (Nat.le_of_ble_eq_true rfl) (fun _ => rfl) (fun a5 M4 h => ?_)
    refine j_istore_n (j := 1) dd_M_step_50 rfl (by decide) rfl ?_
    refine j_aload_n (j := 0) dd_M_step_51 rfl rfl ?_
    refine j_iconst dd_M_step_52 (inRd rfl) ?_
    refine pf_20_13 dd_M_step_53 wd_861 (fun M6 eM6 => ?_)
    have h := h M6 eM6
    refine j_iload_n (j := 1) dd_M_step_56 rfl rfl ?_
    refine j_bipush dd_M_step_57 rfl (inRd rfl) ?_
    refine j_icmp_ne (tgt := 70) dd_M_step_59 (by decide) (fun c => ?_) (fun c => ?_)
    · have h := h.1 c
      refine j_iload_n (j := 1) dd_M_step_70 rfl rfl ?_
      refine j_i2l dd_M_step_71 ?_
      refine j_ldc2 (x := 97) dd_M_step_72 wd_960 rfl (inLd rfl) ?_
      refine j_ldc2 (x := 122) dd_M_step_75 wd_961 rfl (inLd rfl) ?_
      refine j_cSI (mm' := mm_M_in) (As := [vL a5, vL 97, vL 122]) (rest := []) h dd_M_step_78 (ws4 wd_941 wd_942 wd_70 wd_943) nk_M_in (rok rfl) (Nat.le_of_ble_eq_true rfl) (fun _ => rfl) (fun a8 M7 h => ?_)
      refine j_if_eq (tgt := 126) dd_M_step_81 (by decide) (fun c => ?_) (fun c => ?_)
      · have h := h.1 c
        refine j_iload_n (j := 1) dd_M_step_126 rfl rfl ?_
        refine j_i2l dd_M_step_127 ?_
        refine j_ldc2 (x := 48) dd_M_step_128 wd_962 rfl (inLd rfl) ?_
        refine j_ldc2 (x := 57) dd_M_step_131 wd_963 rfl (inLd rfl) ?_
        refine j_cSI (mm' := mm_M_in) (As := [vL a5, vL 48, vL 57]) (rest := []) h dd_M_step_134 (ws4 wd_941 wd_942 wd_70 wd_943) nk_M_in (rok rfl) (Nat.le_of_ble_eq_true rfl) (fun _ => rfl) (fun a10 M9 h => ?_)
        refine j_if_eq (tgt := 243) dd_M_step_137 (by decide) (fun c => ?_) (fun c => ?_)
        · have h := h.1 c
          refine j_aload_n (j := 0) dd_M_step_243 rfl rfl ?_
          refine j_iconst dd_M_step_244 (inRd rfl) ?_
          refine pf_20_12 dd_M_step_245 wd_860 (fun M11 eM11 => ?_)
          have h := h M11 eM11
          refine j_aload_n (j := 0) dd_M_step_248 rfl rfl ?_
          refine j_dup dd_M_step_249 rfl ?_
          refine gf_20_10 dd_M_step_250 wd_858 ?_
          refine j_iconst dd_M_step_253 (inRd rfl) ?_
          refine j_iadd dd_M_step_254 ?_
          refine pf_20_10 dd_M_step_255 wd_858 (fun M12 eM12 => ?_)
          have h := h M12 eM12
          refine j_iload_n (j := 1) dd_M_step_258 rfl rfl ?_
          refine j_bipush dd_M_step_259 rfl (inRd rfl) ?_
          refine j_icmp_eq (tgt := 269) dd_M_step_261 (by decide) (fun c => ?_) (fun c => ?_)
          · have h := h.1 c
            exact j_vret dd_M_step_269 rfl h
          · have h := h.2 c
            refine j_aload_n (j := 0) dd_M_step_264 rfl rfl ?_
            refine j_iconst dd_M_step_265 (inRd rfl) ?_
            refine j_cVV (mm' := mm_M_fails) (t := 20) (i := 0) (As := [vI 1]) (rest := []) h dd_M_step_266 (ws5 wd_964 wd_966 wd_36 wd_70 wd_967) nk_M_fails (rok rfl) (by unfold isW; omega) ⟨_, ce_20 _⟩ rfl (Nat.le_of_ble_eq_true rfl) (fun _ => rfl) (fun a14 M13 h => ?_)
            exact j_vret dd_M_step_269 rfl h
        · have h := h.2 c
          exact j_jump h (jsub_c rfl jsub_0)
      · have h := h.2 c
        exact j_jump h (jsub_c rfl jsub_0)
    · have h := h.2 c
      refine j_aload_n (j := 0) dd_M_step_62 rfl rfl ?_
      refine j_iconst dd_M_step_63 (inRd rfl) ?_
      refine pf_20_12 dd_M_step_64 wd_860 (fun M15 eM15 => ?_)
      have h := h M15 eM15
      refine j_goto (tgt := 269) dd_M_step_67 (by decide) ?_
      exact j_vret dd_M_step_269 rfl h
  · have h := h.2 c
    refine j_aload_n (j := 0) dd_M_step_21 rfl rfl ?_
    refine j_dup dd_M_step_22 rfl ?_
    refine gf_20_10 dd_M_step_23 wd_858 ?_
    refine j_iconst dd_M_step_26 (inRd rfl) ?_
    refine j_iadd dd_M_step_27 ?_
    refine pf_20_10 dd_M_step_28 wd_858 (fun M16 eM16 => ?_)
    have h := h M16 eM16
    refine j_goto (tgt := 8) dd_M_step_31 (by decide) ?_
    exact j_jump h (jsub_c rfl jsub_0)
theorem vc_M_step_84 {E : EE} {Q : Int → JM → Prop}  (M : JM) (h : JC E mm_M_byteAt [vR 20 0, vI (M 20 0 10)] M (fun a2 M1 => JC E mm_M_in [vL a2, vL 97, vL 122] M1 (fun a4 M3 => ((a4 = 0 → ∀ M5 : JM, M5 = pt M3 20 0 12 1 → Q 0 M5) ∧ (a4 ≠ 0 → ∀ M6 : JM, M6 = pt M3 20 0 10 (w32 (M3 20 0 10 + 1)) → JG E mm_M_step Q 84 [(0, vR 20 0)] [] M6))))) : JG E mm_M_step Q 84 [(0, vR 20 0)] [] M := by
  refine j_aload_n (j := 0) dd_M_step_84 rfl rfl ?_
  refine j_aload_n (j := 0) dd_M_step_85 rfl rfl ?_
  refine gf_20_10 dd_M_step_86 wd_858 ?_
  refine j_cVI (mm' := mm_M_byteAt) (t := 20) (i := 0) (As := [vI (M 20 0 10)]) (rest := []) h dd_M_step_89 (ws5 wd_956 wd_958 wd_35 wd_70 wd_959) nk_M_byteAt (rok rfl) (by unfold isW; omega) ⟨_, ce_20 _⟩ rfl (Nat.le_of_ble_eq_true rfl) (fun _ => rfl) (fun a2 M1 h => ?_)
  refine j_i2l dd_M_step_92 ?_
  refine j_ldc2 (x := 97) dd_M_step_93 wd_960 rfl (inLd rfl) ?_
  refine j_ldc2 (x := 122) dd_M_step_96 wd_961 rfl (inLd rfl) ?_
  refine j_cSI (mm' := mm_M_in) (As := [vL a2, vL 97, vL 122]) (rest := []) h dd_M_step_99 (ws4 wd_941 wd_942 wd_70 wd_943) nk_M_in (rok rfl) (Nat.le_of_ble_eq_true rfl) (fun _ => rfl) (fun a4 M3 h => ?_)
  refine j_if_eq (tgt := 118) dd_M_step_102 (by decide) (fun c => ?_) (fun c => ?_)
  · have h := h.1 c
    refine j_aload_n (j := 0) dd_M_step_118 rfl rfl ?_
    refine j_iconst dd_M_step_119 (inRd rfl) ?_
    refine pf_20_12 dd_M_step_120 wd_860 (fun M5 eM5 => ?_)
    have h := h M5 eM5
    refine j_goto (tgt := 269) dd_M_step_123 (by decide) ?_
    exact j_vret dd_M_step_269 rfl h
  · have h := h.2 c
    refine j_aload_n (j := 0) dd_M_step_105 rfl rfl ?_
    refine j_dup dd_M_step_106 rfl ?_
    refine gf_20_10 dd_M_step_107 wd_858 ?_
    refine j_iconst dd_M_step_110 (inRd rfl) ?_
    refine j_iadd dd_M_step_111 ?_
    refine pf_20_10 dd_M_step_112 wd_858 (fun M6 eM6 => ?_)
    have h := h M6 eM6
    refine j_goto (tgt := 84) dd_M_step_115 (by decide) ?_
    exact j_jump h (jsub_c rfl jsub_0)
theorem vc_M_step_140 {E : EE} {Q : Int → JM → Prop}  (M : JM) (h : JC E mm_M_byteAt [vR 20 0, vI (M 20 0 10)] M (fun a2 M1 => JC E mm_M_in [vL a2, vL 48, vL 57] M1 (fun a4 M3 => ((a4 = 0 → ∀ M5 : JM, M5 = pt M3 20 0 12 2 → ((w32 (M5 20 0 10 - (M5 20 0 11)) ≤ 2 → Q 0 M5) ∧ (2 < w32 (M5 20 0 10 - (M5 20 0 11)) → JC E mm_M_fails [vR 20 0, vI 1] M5 (fun a7 M6 => Q 0 M6)))) ∧ (a4 ≠ 0 → ((2 ≤ w32 (M3 20 0 10 - (M3 20 0 11)) → JG E mm_M_step Q 201 [(0, vR 20 0)] [vI (M3 20 0 13), vR 20 0] M3) ∧ (w32 (M3 20 0 10 - (M3 20 0 11)) < 2 → JC E mm_M_byteAt [vR 20 0, vI (M3 20 0 10)] M3 (fun a9 M8 => JG E mm_M_step Q 201 [(0, vR 20 0)] [vI (w32 (w32 (w32 (10 * (M3 20 0 13)) + a9) - 48)), vR 20 0] M8)))))))) : JG E mm_M_step Q 140 [(0, vR 20 0)] [] M := by
  refine j_aload_n (j := 0) dd_M_step_140 rfl rfl ?_
  refine j_aload_n (j := 0) dd_M_step_141 rfl rfl ?_
  refine gf_20_10 dd_M_step_142 wd_858 ?_
  refine j_cVI (mm' := mm_M_byteAt) (t := 20) (i := 0) (As := [vI (M 20 0 10)]) (rest := []) h dd_M_step_145 (ws5 wd_956 wd_958 wd_35 wd_70 wd_959) nk_M_byteAt (rok rfl) (by unfold isW; omega) ⟨_, ce_20 _⟩ rfl (Nat.le_of_ble_eq_true rfl) (fun _ => rfl) (fun a2 M1 h => ?_)
  refine j_i2l dd_M_step_148 ?_
  refine j_ldc2 (x := 48) dd_M_step_149 wd_962 rfl (inLd rfl) ?_
  refine j_ldc2 (x := 57) dd_M_step_152 wd_963 rfl (inLd rfl) ?_
  refine j_cSI (mm' := mm_M_in) (As := [vL a2, vL 48, vL 57]) (rest := []) h dd_M_step_155 (ws4 wd_941 wd_942 wd_70 wd_943) nk_M_in (rok rfl) (Nat.le_of_ble_eq_true rfl) (fun _ => rfl) (fun a4 M3 h => ?_)
  refine j_if_eq (tgt := 217) dd_M_step_158 (by decide) (fun c => ?_) (fun c => ?_)
  · have h := h.1 c
    refine j_aload_n (j := 0) dd_M_step_217 rfl rfl ?_
    refine j_iconst dd_M_step_218 (inRd rfl) ?_
    refine pf_20_12 dd_M_step_219 wd_860 (fun M5 eM5 => ?_)
    have h := h M5 eM5
    refine j_aload_n (j := 0) dd_M_step_222 rfl rfl ?_
    refine gf_20_10 dd_M_step_223 wd_858 ?_
    refine j_aload_n (j := 0) dd_M_step_226 rfl rfl ?_
    refine gf_20_11 dd_M_step_227 wd_859 ?_
    refine j_isub dd_M_step_230 ?_
    refine j_iconst dd_M_step_231 (inRd rfl) ?_
    refine j_icmp_le (tgt := 269) dd_M_step_232 (by decide) (fun c => ?_) (fun c => ?_)
    · have h := h.1 c
      exact j_vret dd_M_step_269 rfl h
    · have h := h.2 c
      refine j_aload_n (j := 0) dd_M_step_235 rfl rfl ?_
      refine j_iconst dd_M_step_236 (inRd rfl) ?_
      refine j_cVV (mm' := mm_M_fails) (t := 20) (i := 0) (As := [vI 1]) (rest := []) h dd_M_step_237 (ws5 wd_964 wd_966 wd_36 wd_70 wd_967) nk_M_fails (rok rfl) (by unfold isW; omega) ⟨_, ce_20 _⟩ rfl (Nat.le_of_ble_eq_true rfl) (fun _ => rfl) (fun a7 M6 h => ?_)
      refine j_goto (tgt := 269) dd_M_step_240 (by decide) ?_
      exact j_vret dd_M_step_269 rfl h
  · have h := h.2 c
    refine j_aload_n (j := 0) dd_M_step_161 rfl rfl ?_
    refine j_aload_n (j := 0) dd_M_step_162 rfl rfl ?_
    refine gf_20_10 dd_M_step_163 wd_858 ?_
    refine j_aload_n (j := 0) dd_M_step_166 rfl rfl ?_
    refine gf_20_11 dd_M_step_167 wd_859 ?_
    refine j_isub dd_M_step_170 ?_
    refine j_iconst dd_M_step_171 (inRd rfl) ?_
    refine j_icmp_ge (tgt := 197) dd_M_step_172 (by decide) (fun c => ?_) (fun c => ?_)
    · have h := h.1 c
      refine j_aload_n (j := 0) dd_M_step_197 rfl rfl ?_
      refine gf_20_13 dd_M_step_198 wd_861 ?_
      exact j_jump h (jsub_c rfl jsub_0)
    · have h := h.2 c
      refine j_bipush dd_M_step_175 rfl (inRd rfl) ?_
      refine j_aload_n (j := 0) dd_M_step_177 rfl rfl ?_
      refine gf_20_13 dd_M_step_178 wd_861 ?_
      refine j_imul dd_M_step_181 ?_
      refine j_aload_n (j := 0) dd_M_step_182 rfl rfl ?_
      refine j_aload_n (j := 0) dd_M_step_183 rfl rfl ?_
      refine gf_20_10 dd_M_step_184 wd_858 ?_
      refine j_cVI (mm' := mm_M_byteAt) (t := 20) (i := 0) (As := [vI (M3 20 0 10)]) (rest := [vI (w32 (10 * (M3 20 0 13))), vR 20 0]) h dd_M_step_187 (ws5 wd_956 wd_958 wd_35 wd_70 wd_959) nk_M_byteAt (rok rfl) (by unfold isW; omega) ⟨_, ce_20 _⟩ rfl (Nat.le_of_ble_eq_true rfl) (fun _ => rfl) (fun a9 M8 h => ?_)
      refine j_iadd dd_M_step_190 ?_
      refine j_bipush dd_M_step_191 rfl (inRd rfl) ?_
      refine j_isub dd_M_step_193 ?_
      refine j_goto (tgt := 201) dd_M_step_194 (by decide) ?_
      exact j_jump h (jsub_c rfl jsub_0)
theorem vc_M_step_201 {E : EE} {Q : Int → JM → Prop} (s1 : Int) (M : JM) (h : ∀ M1 : JM, M1 = pt M 20 0 13 s1 → ∀ M2 : JM, M2 = pt M1 20 0 10 (w32 (M1 20 0 10 + 1)) → JG E mm_M_step Q 140 [(0, vR 20 0)] [] M2) : JG E mm_M_step Q 201 [(0, vR 20 0)] [vI s1, vR 20 0] M := by
  refine pf_20_13 dd_M_step_201 wd_861 (fun M1 eM1 => ?_)
  have h := h M1 eM1
  refine j_aload_n (j := 0) dd_M_step_204 rfl rfl ?_
  refine j_dup dd_M_step_205 rfl ?_
  refine gf_20_10 dd_M_step_206 wd_858 ?_
  refine j_iconst dd_M_step_209 (inRd rfl) ?_
  refine j_iadd dd_M_step_210 ?_
  refine pf_20_10 dd_M_step_211 wd_858 (fun M2 eM2 => ?_)
  have h := h M2 eM2
  refine j_goto (tgt := 140) dd_M_step_214 (by decide) ?_
  exact j_jump h (jsub_c rfl jsub_0)
theorem vc_M_number {E : EE} {Q : Int → JM → Prop} (x1 : Int) (x2 : Int) (M : JM) (h : ((M 20 0 8 ≠ 0 → JG E mm_M_number Q 20 [(0, vR 20 0), (1, vI x1), (2, vI x2)] [] M) ∧ (M 20 0 8 = 0 → ((M 20 0 12 = 2 → JG E mm_M_number Q 20 [(0, vR 20 0), (1, vI x1), (2, vI x2)] [] M) ∧ (M 20 0 12 ≠ 2 → JC E mm_M_fails [vR 20 0, vI 2] M (fun a2 M1 => JG E mm_M_number Q 20 [(0, vR 20 0), (1, vI x1), (2, vI x2)] [] M1)))))) : JC E mm_M_number [vR 20 0, vI x1, vI x2] M Q := by
  refine j_entry (L0 := [(0, vR 20 0), (1, vI x1), (2, vI x2)]) pn_M (Nat.le_of_ble_eq_true rfl) rfl ?_
  refine j_aload_n (j := 0) dd_M_number_0 rfl rfl ?_
  refine gf_20_8 dd_M_number_1 wd_856 ?_
  refine j_if_ne (tgt := 20) dd_M_number_4 (by decide) (fun c => ?_) (fun c => ?_)
  · have h := h.1 c
    exact j_jump h (jsub_c rfl (jsub_c rfl (jsub_c rfl jsub_0)))
  · have h := h.2 c
    refine j_aload_n (j := 0) dd_M_number_7 rfl rfl ?_
    refine gf_20_12 dd_M_number_8 wd_860 ?_
    refine j_iconst dd_M_number_11 (inRd rfl) ?_
    refine j_icmp_eq (tgt := 20) dd_M_number_12 (by decide) (fun c => ?_) (fun c => ?_)
    · have h := h.1 c
      exact j_jump h (jsub_c rfl (jsub_c rfl (jsub_c rfl jsub_0)))
    · have h := h.2 c
      refine j_aload_n (j := 0) dd_M_number_15 rfl rfl ?_
      refine j_iconst dd_M_number_16 (inRd rfl) ?_
      refine j_cVV (mm' := mm_M_fails) (t := 20) (i := 0) (As := [vI 2]) (rest := []) h dd_M_number_17 (ws5 wd_964 wd_966 wd_36 wd_70 wd_967) nk_M_fails (rok rfl) (by unfold isW; omega) ⟨_, ce_20 _⟩ rfl (Nat.le_of_ble_eq_true rfl) (fun _ => rfl) (fun a2 M1 h => ?_)
      exact j_jump h (jsub_c rfl (jsub_c rfl (jsub_c rfl jsub_0)))
theorem vc_M_number_20 {E : EE} {Q : Int → JM → Prop} (x1 : Int) (x2 : Int) (M : JM) (h : ((M 20 0 8 ≠ 0 → JG E mm_M_number Q 47 [(0, vR 20 0), (1, vI x1)] [] M) ∧ (M 20 0 8 = 0 → JC E mm_M_in [vL (M 20 0 13), vL x1, vL x2] M (fun a2 M1 => ((a2 ≠ 0 → JG E mm_M_number Q 47 [(0, vR 20 0), (1, vI x1)] [] M1) ∧ (a2 = 0 → JC E mm_M_fails [vR 20 0, vI 3] M1 (fun a4 M3 => JG E mm_M_number Q 47 [(0, vR 20 0), (1, vI x1)] [] M3))))))) : JG E mm_M_number Q 20 [(0, vR 20 0), (1, vI x1), (2, vI x2)] [] M := by
  refine j_aload_n (j := 0) dd_M_number_20 rfl rfl ?_
  refine gf_20_8 dd_M_number_21 wd_856 ?_
  refine j_if_ne (tgt := 47) dd_M_number_24 (by decide) (fun c => ?_) (fun c => ?_)
  · have h := h.1 c
    exact j_jump h (jsub_c rfl (jsub_c rfl jsub_0))
  · have h := h.2 c
    refine j_aload_n (j := 0) dd_M_number_27 rfl rfl ?_
    refine gf_20_13 dd_M_number_28 wd_861 ?_
    refine j_i2l dd_M_number_31 ?_
    refine j_iload_n (j := 1) dd_M_number_32 rfl rfl ?_
    refine j_i2l dd_M_number_33 ?_
    refine j_iload_n (j := 2) dd_M_number_34 rfl rfl ?_
    refine j_i2l dd_M_number_35 ?_
    refine j_cSI (mm' := mm_M_in) (As := [vL (M 20 0 13), vL x1, vL x2]) (rest := []) h dd_M_number_36 (ws4 wd_941 wd_942 wd_70 wd_943) nk_M_in (rok rfl) (Nat.le_of_ble_eq_true rfl) (fun _ => rfl) (fun a2 M1 h => ?_)
    refine j_if_ne (tgt := 47) dd_M_number_39 (by decide) (fun c => ?_) (fun c => ?_)
    · have h := h.1 c
      exact j_jump h (jsub_c rfl (jsub_c rfl jsub_0))
    · have h := h.2 c
      refine j_aload_n (j := 0) dd_M_number_42 rfl rfl ?_
      refine j_iconst dd_M_number_43 (inRd rfl) ?_
      refine j_cVV (mm' := mm_M_fails) (t := 20) (i := 0) (As := [vI 3]) (rest := []) h dd_M_number_44 (ws5 wd_964 wd_966 wd_36 wd_70 wd_967) nk_M_fails (rok rfl) (by unfold isW; omega) ⟨_, ce_20 _⟩ rfl (Nat.le_of_ble_eq_true rfl) (fun _ => rfl) (fun a4 M3 h => ?_)
      exact j_jump h (jsub_c rfl (jsub_c rfl jsub_0))
theorem vc_M_number_47 {E : EE} {Q : Int → JM → Prop} (x1 : Int) (M : JM) (h : ((M 20 0 8 ≠ 0 → JG E mm_M_number Q 62 [(0, vR 20 0)] [vI x1] M) ∧ (M 20 0 8 = 0 → JG E mm_M_number Q 62 [(0, vR 20 0)] [vI (M 20 0 13)] M))) : JG E mm_M_number Q 47 [(0, vR 20 0), (1, vI x1)] [] M := by
  refine j_aload_n (j := 0) dd_M_number_47 rfl rfl ?_
  refine gf_20_8 dd_M_number_48 wd_856 ?_
  refine j_if_ne (tgt := 61) dd_M_number_51 (by decide) (fun c => ?_) (fun c => ?_)
  · have h := h.1 c
    refine j_iload_n (j := 1) dd_M_number_61 rfl rfl ?_
    exact j_jump h (jsub_c rfl jsub_0)
  · have h := h.2 c
    refine j_aload_n (j := 0) dd_M_number_54 rfl rfl ?_
    refine gf_20_13 dd_M_number_55 wd_861 ?_
    refine j_goto (tgt := 62) dd_M_number_58 (by decide) ?_
    exact j_jump h (jsub_c rfl jsub_0)
theorem vc_M_number_62 {E : EE} {Q : Int → JM → Prop} (s0 : Int) (M : JM) (h : JC E mm_M_step [vR 20 0] M (fun a2 M1 => Q s0 M1)) : JG E mm_M_number Q 62 [(0, vR 20 0)] [vI s0] M := by
  refine j_istore_n (j := 3) dd_M_number_62 rfl (by decide) rfl ?_
  refine j_aload_n (j := 0) dd_M_number_63 rfl rfl ?_
  refine j_cVV (mm' := mm_M_step) (t := 20) (i := 0) (As := []) (rest := []) h dd_M_number_64 (ws5 wd_952 wd_954 wd_34 wd_70 wd_955) nk_M_step (rok rfl) (by unfold isW; omega) ⟨_, ce_20 _⟩ rfl (Nat.le_of_ble_eq_true rfl) (fun _ => rfl) (fun a2 M1 h => ?_)
  refine j_iload_n (j := 3) dd_M_number_67 rfl rfl ?_
  exact j_iret dd_M_number_68 rfl h
theorem vc_M_readMore {E : EE} {Q : Int → JM → Prop} (x1 : Int) (M : JM) (h : ((3 < x1 → ((x1 ≠ 4 → ((x1 ≠ 5 → JC E mm_M_number [vR 20 0, vI 0, vI 8] M (fun a2 M1 => ∀ M3 : JM, M3 = pt M1 22 0 42 (w32 (a2 - 2)) → Q 0 M3)) ∧ (x1 = 5 → JC E mm_M_number [vR 20 0, vI 0, vI 6] M (fun a5 M4 => ∀ M6 : JM, M6 = pt M4 22 0 41 (w32 (a5 - 2)) → Q 0 M6)))) ∧ (x1 = 4 → JC E mm_M_number [vR 20 0, vI 1, vI 20] M (fun a8 M7 => (0 ≤ w32 (33 + (M 20 0 3)) ∧ w32 (33 + (M 20 0 3)) < 44) ∧ ∀ M9 : JM, M9 = pt M7 22 0 ((w32 (33 + (M 20 0 3))).toNat) a8 → ∀ M10 : JM, M10 = pt M9 20 0 3 (w32 (M9 20 0 3 + 1)) → Q 0 M10)))) ∧ (x1 ≤ 3 → ∀ a11 : Int, a11 = M 22 0 32 → (0 ≤ a11 ∧ a11 < 44) ∧ ∀ M12 : JM, M12 = pt M 22 0 a11.toNat x1 → JC E mm_M_number [vR 20 0, vI 1, vI 9] M12 (fun a14 M13 => (0 ≤ w32 (8 + a11) ∧ w32 (8 + a11) < 44) ∧ ∀ M15 : JM, M15 = pt M13 22 0 ((w32 (8 + a11)).toNat) a14 → JC E mm_M_number [vR 20 0, vI 0, vI 9] M15 (fun a17 M16 => (0 ≤ w32 (16 + a11) ∧ w32 (16 + a11) < 44) ∧ ∀ M18 : JM, M18 = pt M16 22 0 ((w32 (16 + a11)).toNat) a17 → ∀ M19 : JM, M19 = pt M18 22 0 32 (w32 (M18 22 0 32 + 1)) → Q 0 M19))))) : JC E mm_M_readMore [vR 20 0, vI x1] M Q := by
  refine j_entry (L0 := [(0, vR 20 0), (1, vI x1)]) pn_M (Nat.le_of_ble_eq_true rfl) rfl ?_
  refine j_iload_n (j := 1) dd_M_readMore_0 rfl rfl ?_
  refine j_iconst dd_M_readMore_1 (inRd rfl) ?_
  refine j_icmp_gt (tgt := 66) dd_M_readMore_2 (by decide) (fun c => ?_) (fun c => ?_)
  · have h := h.1 c
    refine j_iload_n (j := 1) dd_M_readMore_66 rfl rfl ?_
    refine j_iconst dd_M_readMore_67 (inRd rfl) ?_
    refine j_icmp_ne (tgt := 103) dd_M_readMore_68 (by decide) (fun c => ?_) (fun c => ?_)
    · have h := h.1 c
      refine j_iload_n (j := 1) dd_M_readMore_103 rfl rfl ?_
      refine j_iconst dd_M_readMore_104 (inRd rfl) ?_
      refine j_icmp_ne (tgt := 127) dd_M_readMore_105 (by decide) (fun c => ?_) (fun c => ?_)
      · have h := h.1 c
        refine j_aload_n (j := 0) dd_M_readMore_127 rfl rfl ?_
        refine gf_20_2 dd_M_readMore_128 wd_850 ?_
        refine j_bipush dd_M_readMore_131 rfl (inRd rfl) ?_
        refine j_aload_n (j := 0) dd_M_readMore_133 rfl rfl ?_
        refine j_iconst dd_M_readMore_134 (inRd rfl) ?_
        refine j_bipush dd_M_readMore_135 rfl (inRd rfl) ?_
        refine j_cVI (mm' := mm_M_number) (t := 20) (i := 0) (As := [vI 0, vI 8]) (rest := [vI 42, vR 22 0]) h dd_M_readMore_137 (ws5 wd_981 wd_983 wd_40 wd_70 wd_984) nk_M_number (rok rfl) (by unfold isW; omega) ⟨_, ce_20 _⟩ rfl (Nat.le_of_ble_eq_true rfl) (fun _ => rfl) (fun a2 M1 h => ?_)
        refine j_iconst dd_M_readMore_140 (inRd rfl) ?_
        refine j_isub dd_M_readMore_141 ?_
        refine st_22 dd_M_readMore_142 ⟨by decide, by decide⟩ (fun M3 eM3 => ?_)
        have h := h M3 eM3
        exact j_vret dd_M_readMore_143 rfl h
      · have h := h.2 c
        refine j_aload_n (j := 0) dd_M_readMore_108 rfl rfl ?_
        refine gf_20_2 dd_M_readMore_109 wd_850 ?_
        refine j_bipush dd_M_readMore_112 rfl (inRd rfl) ?_
        refine j_aload_n (j := 0) dd_M_readMore_114 rfl rfl ?_
        refine j_iconst dd_M_readMore_115 (inRd rfl) ?_
        refine j_bipush dd_M_readMore_116 rfl (inRd rfl) ?_
        refine j_cVI (mm' := mm_M_number) (t := 20) (i := 0) (As := [vI 0, vI 6]) (rest := [vI 41, vR 22 0]) h dd_M_readMore_118 (ws5 wd_981 wd_983 wd_40 wd_70 wd_984) nk_M_number (rok rfl) (by unfold isW; omega) ⟨_, ce_20 _⟩ rfl (Nat.le_of_ble_eq_true rfl) (fun _ => rfl) (fun a5 M4 h => ?_)
        refine j_iconst dd_M_readMore_121 (inRd rfl) ?_
        refine j_isub dd_M_readMore_122 ?_
        refine st_22 dd_M_readMore_123 ⟨by decide, by decide⟩ (fun M6 eM6 => ?_)
        have h := h M6 eM6
        refine j_goto (tgt := 143) dd_M_readMore_124 (by decide) ?_
        exact j_vret dd_M_readMore_143 rfl h
    · have h := h.2 c
      refine j_aload_n (j := 0) dd_M_readMore_71 rfl rfl ?_
      refine gf_20_2 dd_M_readMore_72 wd_850 ?_
      refine j_bipush dd_M_readMore_75 rfl (inRd rfl) ?_
      refine j_aload_n (j := 0) dd_M_readMore_77 rfl rfl ?_
      refine gf_20_3 dd_M_readMore_78 wd_851 ?_
      refine j_iadd dd_M_readMore_81 ?_
      refine j_aload_n (j := 0) dd_M_readMore_82 rfl rfl ?_
      refine j_iconst dd_M_readMore_83 (inRd rfl) ?_
      refine j_bipush dd_M_readMore_84 rfl (inRd rfl) ?_
      refine j_cVI (mm' := mm_M_number) (t := 20) (i := 0) (As := [vI 1, vI 20]) (rest := [vI (w32 (33 + (M 20 0 3))), vR 22 0]) h dd_M_readMore_86 (ws5 wd_981 wd_983 wd_40 wd_70 wd_984) nk_M_number (rok rfl) (by unfold isW; omega) ⟨_, ce_20 _⟩ rfl (Nat.le_of_ble_eq_true rfl) (fun _ => rfl) (fun a8 M7 h => ?_)
      refine st_22 dd_M_readMore_89 h.1 (fun M9 eM9 => ?_)
      have h := h.2
      have h := h M9 eM9
      refine j_aload_n (j := 0) dd_M_readMore_90 rfl rfl ?_
      refine j_dup dd_M_readMore_91 rfl ?_
      refine gf_20_3 dd_M_readMore_92 wd_851 ?_
      refine j_iconst dd_M_readMore_95 (inRd rfl) ?_
      refine j_iadd dd_M_readMore_96 ?_
      refine pf_20_3 dd_M_readMore_97 wd_851 (fun M10 eM10 => ?_)
      have h := h M10 eM10
      refine j_goto (tgt := 143) dd_M_readMore_100 (by decide) ?_
      exact j_vret dd_M_readMore_143 rfl h
  · have h := h.2 c
    refine j_aload_n (j := 0) dd_M_readMore_5 rfl rfl ?_
    refine gf_20_2 dd_M_readMore_6 wd_850 ?_
    refine j_bipush dd_M_readMore_9 rfl (inRd rfl) ?_
    refine ld_22 dd_M_readMore_11 ⟨by decide, by decide⟩ ?_
    refine j_topI (fun a11 ea11 => ?_)
    have h := h a11 ea11
    refine j_istore_n (j := 2) dd_M_readMore_12 rfl (by decide) rfl ?_
    refine j_aload_n (j := 0) dd_M_readMore_13 rfl rfl ?_
    refine gf_20_2 dd_M_readMore_14 wd_850 ?_
    refine j_iload_n (j := 2) dd_M_readMore_17 rfl rfl ?_
    refine j_iload_n (j := 1) dd_M_readMore_18 rfl rfl ?_
    refine st_22 dd_M_readMore_19 h.1 (fun M12 eM12 => ?_)
    have h := h.2
    have h := h M12 eM12
    refine j_aload_n (j := 0) dd_M_readMore_20 rfl rfl ?_
    refine gf_20_2 dd_M_readMore_21 wd_850 ?_
    refine j_bipush dd_M_readMore_24 rfl (inRd rfl) ?_
    refine j_iload_n (j := 2) dd_M_readMore_26 rfl rfl ?_
    refine j_iadd dd_M_readMore_27 ?_
    refine j_aload_n (j := 0) dd_M_readMore_28 rfl rfl ?_
    refine j_iconst dd_M_readMore_29 (inRd rfl) ?_
    refine j_bipush dd_M_readMore_30 rfl (inRd rfl) ?_
    refine j_cVI (mm' := mm_M_number) (t := 20) (i := 0) (As := [vI 1, vI 9]) (rest := [vI (w32 (8 + a11)), vR 22 0]) h dd_M_readMore_32 (ws5 wd_981 wd_983 wd_40 wd_70 wd_984) nk_M_number (rok rfl) (by unfold isW; omega) ⟨_, ce_20 _⟩ rfl (Nat.le_of_ble_eq_true rfl) (fun _ => rfl) (fun a14 M13 h => ?_)
    refine st_22 dd_M_readMore_35 h.1 (fun M15 eM15 => ?_)
    have h := h.2
    have h := h M15 eM15
    refine j_aload_n (j := 0) dd_M_readMore_36 rfl rfl ?_
    refine gf_20_2 dd_M_readMore_37 wd_850 ?_
    refine j_bipush dd_M_readMore_40 rfl (inRd rfl) ?_
    refine j_iload_n (j := 2) dd_M_readMore_42 rfl rfl ?_
    refine j_iadd dd_M_readMore_43 ?_
    refine j_aload_n (j := 0) dd_M_readMore_44 rfl rfl ?_
    refine j_iconst dd_M_readMore_45 (inRd rfl) ?_
    refine j_bipush dd_M_readMore_46 rfl (inRd rfl) ?_
    refine j_cVI (mm' := mm_M_number) (t := 20) (i := 0) (As := [vI 0, vI 9]) (rest := [vI (w32 (16 + a11)), vR 22 0]) h dd_M_readMore_48 (ws5 wd_981 wd_983 wd_40 wd_70 wd_984) nk_M_number (rok rfl) (by unfold isW; omega) ⟨_, ce_20 _⟩ rfl (Nat.le_of_ble_eq_true rfl) (fun _ => rfl) (fun a17 M16 h => ?_)
    refine st_22 dd_M_readMore_51 h.1 (fun M18 eM18 => ?_)
    have h := h.2
    have h := h M18 eM18
    refine j_aload_n (j := 0) dd_M_readMore_52 rfl rfl ?_
    refine gf_20_2 dd_M_readMore_53 wd_850 ?_
    refine j_bipush dd_M_readMore_56 rfl (inRd rfl) ?_
    refine j_dup2 dd_M_readMore_58 rfl rfl ?_
    refine ld_22 dd_M_readMore_59 ⟨by decide, by decide⟩ ?_
    refine j_iconst dd_M_readMore_60 (inRd rfl) ?_
    refine j_iadd dd_M_readMore_61 ?_
    refine st_22 dd_M_readMore_62 ⟨by decide, by decide⟩ (fun M19 eM19 => ?_)
    have h := h M19 eM19
    refine j_goto (tgt := 143) dd_M_readMore_63 (by decide) ?_
    exact j_vret dd_M_readMore_143 rfl h
theorem vc_M_readLine {E : EE} {Q : Int → JM → Prop}  (M : JM) (h : JC E mm_M_nameHere [vR 20 0] M (fun a2 M1 => JC E mm_M_in [vL a2, vL 0, vL 6] M1 (fun a4 M3 => ((a4 ≠ 0 → ((3 < a2 → JG E mm_M_readLine Q 40 [(0, vR 20 0), (1, vI a2)] [] M3) ∧ (a2 ≤ 3 → ((M3 22 0 32 = 8 → JG E mm_M_readLine Q 53 [(0, vR 20 0), (1, vI a2)] [] M3) ∧ (M3 22 0 32 ≠ 8 → JG E mm_M_readLine Q 40 [(0, vR 20 0), (1, vI a2)] [] M3))))) ∧ (a4 = 0 → JC E mm_M_fails [vR 20 0, vI 2] M3 (fun a6 M5 => Q 0 M5)))))) : JC E mm_M_readLine [vR 20 0] M Q := by
  refine j_entry (L0 := [(0, vR 20 0)]) pn_M (Nat.le_of_ble_eq_true rfl) rfl ?_
  refine j_aload_n (j := 0) dd_M_readLine_0 rfl rfl ?_
  refine j_cVI (mm' := mm_M_nameHere) (t := 20) (i := 0) (As := []) (rest := []) h dd_M_readLine_1 (ws5 wd_972 wd_974 wd_38 wd_70 wd_975) nk_M_nameHere (rok rfl) (by unfold isW; omega) ⟨_, ce_20 _⟩ rfl (Nat.le_of_ble_eq_true rfl) (fun _ => rfl) (fun a2 M1 h => ?_)
  refine j_istore_n (j := 1) dd_M_readLine_4 rfl (by decide) rfl ?_
  refine j_iload_n (j := 1) dd_M_readLine_5 rfl rfl ?_
  refine j_i2l dd_M_readLine_6 ?_
  refine j_lconst (x := 0) dd_M_readLine_7 rfl (inLd rfl) ?_
  refine j_ldc2 (x := 6) dd_M_readLine_8 wd_976 rfl (inLd rfl) ?_
  refine j_cSI (mm' := mm_M_in) (As := [vL a2, vL 0, vL 6]) (rest := []) h dd_M_readLine_11 (ws4 wd_941 wd_942 wd_70 wd_943) nk_M_in (rok rfl) (Nat.le_of_ble_eq_true rfl) (fun _ => rfl) (fun a4 M3 h => ?_)
  refine j_if_ne (tgt := 23) dd_M_readLine_14 (by decide) (fun c => ?_) (fun c => ?_)
  · have h := h.1 c
    refine j_iload_n (j := 1) dd_M_readLine_23 rfl rfl ?_
    refine j_iconst dd_M_readLine_24 (inRd rfl) ?_
    refine j_icmp_gt (tgt := 40) dd_M_readLine_25 (by decide) (fun c => ?_) (fun c => ?_)
    · have h := h.1 c
      exact j_jump h (jsub_c rfl (jsub_c rfl jsub_0))
    · have h := h.2 c
      refine j_aload_n (j := 0) dd_M_readLine_28 rfl rfl ?_
      refine gf_20_2 dd_M_readLine_29 wd_850 ?_
      refine j_bipush dd_M_readLine_32 rfl (inRd rfl) ?_
      refine ld_22 dd_M_readLine_34 ⟨by decide, by decide⟩ ?_
      refine j_bipush dd_M_readLine_35 rfl (inRd rfl) ?_
      refine j_icmp_eq (tgt := 53) dd_M_readLine_37 (by decide) (fun c => ?_) (fun c => ?_)
      · have h := h.1 c
        exact j_jump h (jsub_c rfl (jsub_c rfl jsub_0))
      · have h := h.2 c
        exact j_jump h (jsub_c rfl (jsub_c rfl jsub_0))
  · have h := h.2 c
    refine j_aload_n (j := 0) dd_M_readLine_17 rfl rfl ?_
    refine j_iconst dd_M_readLine_18 (inRd rfl) ?_
    refine j_cVV (mm' := mm_M_fails) (t := 20) (i := 0) (As := [vI 2]) (rest := []) h dd_M_readLine_19 (ws5 wd_964 wd_966 wd_36 wd_70 wd_967) nk_M_fails (rok rfl) (by unfold isW; omega) ⟨_, ce_20 _⟩ rfl (Nat.le_of_ble_eq_true rfl) (fun _ => rfl) (fun a6 M5 h => ?_)
    exact j_vret dd_M_readLine_22 rfl h
theorem vc_M_readLine_40 {E : EE} {Q : Int → JM → Prop} (l1 : Int) (M : JM) (h : ((l1 ≠ 4 → JG E mm_M_readLine Q 58 [(0, vR 20 0), (1, vI l1)] [] M) ∧ (l1 = 4 → ((M 20 0 3 ≠ 4 → JG E mm_M_readLine Q 58 [(0, vR 20 0), (1, vI l1)] [] M) ∧ (M 20 0 3 = 4 → JG E mm_M_readLine Q 53 [(0, vR 20 0), (1, vI l1)] [] M))))) : JG E mm_M_readLine Q 40 [(0, vR 20 0), (1, vI l1)] [] M := by
  refine j_iload_n (j := 1) dd_M_readLine_40 rfl rfl ?_
  refine j_iconst dd_M_readLine_41 (inRd rfl) ?_
  refine j_icmp_ne (tgt := 58) dd_M_readLine_42 (by decide) (fun c => ?_) (fun c => ?_)
  · have h := h.1 c
    exact j_jump h (jsub_c rfl (jsub_c rfl jsub_0))
  · have h := h.2 c
    refine j_aload_n (j := 0) dd_M_readLine_45 rfl rfl ?_
    refine gf_20_3 dd_M_readLine_46 wd_851 ?_
    refine j_iconst dd_M_readLine_49 (inRd rfl) ?_
    refine j_icmp_ne (tgt := 58) dd_M_readLine_50 (by decide) (fun c => ?_) (fun c => ?_)
    · have h := h.1 c
      exact j_jump h (jsub_c rfl (jsub_c rfl jsub_0))
    · have h := h.2 c
      exact j_jump h (jsub_c rfl (jsub_c rfl jsub_0))
theorem vc_M_readLine_53 {E : EE} {Q : Int → JM → Prop} (l1 : Int) (M : JM) (h : JC E mm_M_fails [vR 20 0, vI 5] M (fun a2 M1 => JG E mm_M_readLine Q 58 [(0, vR 20 0), (1, vI l1)] [] M1)) : JG E mm_M_readLine Q 53 [(0, vR 20 0), (1, vI l1)] [] M := by
  refine j_aload_n (j := 0) dd_M_readLine_53 rfl rfl ?_
  refine j_iconst dd_M_readLine_54 (inRd rfl) ?_
  refine j_cVV (mm' := mm_M_fails) (t := 20) (i := 0) (As := [vI 5]) (rest := []) h dd_M_readLine_55 (ws5 wd_964 wd_966 wd_36 wd_70 wd_967) nk_M_fails (rok rfl) (by unfold isW; omega) ⟨_, ce_20 _⟩ rfl (Nat.le_of_ble_eq_true rfl) (fun _ => rfl) (fun a2 M1 h => ?_)
  exact j_jump h (jsub_c rfl (jsub_c rfl jsub_0))
theorem vc_M_readLine_58 {E : EE} {Q : Int → JM → Prop} (l1 : Int) (M : JM) (h : ((l1 < 5 → JG E mm_M_readLine Q 80 [(0, vR 20 0), (1, vI l1)] [] M) ∧ (5 ≤ l1 → ((and32 (shr32 (M 20 0 4) l1) 1 ≠ 1 → JG E mm_M_readLine Q 80 [(0, vR 20 0), (1, vI l1)] [] M) ∧ (and32 (shr32 (M 20 0 4) l1) 1 = 1 → JC E mm_M_fails [vR 20 0, vI 4] M (fun a2 M1 => JG E mm_M_readLine Q 80 [(0, vR 20 0), (1, vI l1)] [] M1)))))) : JG E mm_M_readLine Q 58 [(0, vR 20 0), (1, vI l1)] [] M := by
  refine j_iload_n (j := 1) dd_M_readLine_58 rfl rfl ?_
  refine j_iconst dd_M_readLine_59 (inRd rfl) ?_
  refine j_icmp_lt (tgt := 80) dd_M_readLine_60 (by decide) (fun c => ?_) (fun c => ?_)
  · have h := h.1 c
    exact j_jump h (jsub_c rfl (jsub_c rfl jsub_0))
  · have h := h.2 c
    refine j_aload_n (j := 0) dd_M_readLine_63 rfl rfl ?_
    refine gf_20_4 dd_M_readLine_64 wd_852 ?_
    refine j_iload_n (j := 1) dd_M_readLine_67 rfl rfl ?_
    refine j_ishr dd_M_readLine_68 ?_
    refine j_iconst dd_M_readLine_69 (inRd rfl) ?_
    refine j_iand dd_M_readLine_70 ?_
    refine j_iconst dd_M_readLine_71 (inRd rfl) ?_
    refine j_icmp_ne (tgt := 80) dd_M_readLine_72 (by decide) (fun c => ?_) (fun c => ?_)
    · have h := h.1 c
      exact j_jump h (jsub_c rfl (jsub_c rfl jsub_0))
    · have h := h.2 c
      refine j_aload_n (j := 0) dd_M_readLine_75 rfl rfl ?_
      refine j_iconst dd_M_readLine_76 (inRd rfl) ?_
      refine j_cVV (mm' := mm_M_fails) (t := 20) (i := 0) (As := [vI 4]) (rest := []) h dd_M_readLine_77 (ws5 wd_964 wd_966 wd_36 wd_70 wd_967) nk_M_fails (rok rfl) (by unfold isW; omega) ⟨_, ce_20 _⟩ rfl (Nat.le_of_ble_eq_true rfl) (fun _ => rfl) (fun a2 M1 h => ?_)
      exact j_jump h (jsub_c rfl (jsub_c rfl jsub_0))
theorem vc_M_readLine_80 {E : EE} {Q : Int → JM → Prop} (l1 : Int) (M : JM) (h : ∀ M1 : JM, M1 = pt M 20 0 4 (or32 (M 20 0 4) (shl32 1 l1)) → JC E mm_M_step [vR 20 0] M1 (fun a3 M2 => ((M2 20 0 8 ≤ 0 → JC E mm_M_readMore [vR 20 0, vI l1] M2 (fun a5 M4 => ((M4 20 0 8 ≠ 0 → JG E mm_M_readLine Q 129 [(0, vR 20 0)] [] M4) ∧ (M4 20 0 8 = 0 → ((M4 20 0 12 = 3 → JG E mm_M_readLine Q 129 [(0, vR 20 0)] [] M4) ∧ (M4 20 0 12 ≠ 3 → JC E mm_M_fails [vR 20 0, vI 2] M4 (fun a7 M6 => JG E mm_M_readLine Q 129 [(0, vR 20 0)] [] M6))))))) ∧ (0 < M2 20 0 8 → Q 0 M2)))) : JG E mm_M_readLine Q 80 [(0, vR 20 0), (1, vI l1)] [] M := by
  refine j_aload_n (j := 0) dd_M_readLine_80 rfl rfl ?_
  refine j_dup dd_M_readLine_81 rfl ?_
  refine gf_20_4 dd_M_readLine_82 wd_852 ?_
  refine j_iconst dd_M_readLine_85 (inRd rfl) ?_
  refine j_iload_n (j := 1) dd_M_readLine_86 rfl rfl ?_
  refine j_ishl dd_M_readLine_87 ?_
  refine j_ior dd_M_readLine_88 ?_
  refine pf_20_4 dd_M_readLine_89 wd_852 (fun M1 eM1 => ?_)
  have h := h M1 eM1
  refine j_aload_n (j := 0) dd_M_readLine_92 rfl rfl ?_
  refine j_cVV (mm' := mm_M_step) (t := 20) (i := 0) (As := []) (rest := []) h dd_M_readLine_93 (ws5 wd_952 wd_954 wd_34 wd_70 wd_955) nk_M_step (rok rfl) (by unfold isW; omega) ⟨_, ce_20 _⟩ rfl (Nat.le_of_ble_eq_true rfl) (fun _ => rfl) (fun a3 M2 h => ?_)
  refine j_aload_n (j := 0) dd_M_readLine_96 rfl rfl ?_
  refine gf_20_8 dd_M_readLine_97 wd_856 ?_
  refine j_if_le (tgt := 104) dd_M_readLine_100 (by decide) (fun c => ?_) (fun c => ?_)
  · have h := h.1 c
    refine j_aload_n (j := 0) dd_M_readLine_104 rfl rfl ?_
    refine j_iload_n (j := 1) dd_M_readLine_105 rfl rfl ?_
    refine j_cVV (mm' := mm_M_readMore) (t := 20) (i := 0) (As := [vI l1]) (rest := []) h dd_M_readLine_106 (ws5 wd_977 wd_979 wd_39 wd_70 wd_980) nk_M_readMore (rok rfl) (by unfold isW; omega) ⟨_, ce_20 _⟩ rfl (Nat.le_of_ble_eq_true rfl) (fun _ => rfl) (fun a5 M4 h => ?_)
    refine j_aload_n (j := 0) dd_M_readLine_109 rfl rfl ?_
    refine gf_20_8 dd_M_readLine_110 wd_856 ?_
    refine j_if_ne (tgt := 129) dd_M_readLine_113 (by decide) (fun c => ?_) (fun c => ?_)
    · have h := h.1 c
      exact j_jump h (jsub_c rfl jsub_0)
    · have h := h.2 c
      refine j_aload_n (j := 0) dd_M_readLine_116 rfl rfl ?_
      refine gf_20_12 dd_M_readLine_117 wd_860 ?_
      refine j_iconst dd_M_readLine_120 (inRd rfl) ?_
      refine j_icmp_eq (tgt := 129) dd_M_readLine_121 (by decide) (fun c => ?_) (fun c => ?_)
      · have h := h.1 c
        exact j_jump h (jsub_c rfl jsub_0)
      · have h := h.2 c
        refine j_aload_n (j := 0) dd_M_readLine_124 rfl rfl ?_
        refine j_iconst dd_M_readLine_125 (inRd rfl) ?_
        refine j_cVV (mm' := mm_M_fails) (t := 20) (i := 0) (As := [vI 2]) (rest := []) h dd_M_readLine_126 (ws5 wd_964 wd_966 wd_36 wd_70 wd_967) nk_M_fails (rok rfl) (by unfold isW; omega) ⟨_, ce_20 _⟩ rfl (Nat.le_of_ble_eq_true rfl) (fun _ => rfl) (fun a7 M6 h => ?_)
        exact j_jump h (jsub_c rfl jsub_0)
  · have h := h.2 c
    exact j_vret dd_M_readLine_103 rfl h
theorem vc_M_readLine_129 {E : EE} {Q : Int → JM → Prop}  (M : JM) (h : JC E mm_M_step [vR 20 0] M (fun a2 M1 => Q 0 M1)) : JG E mm_M_readLine Q 129 [(0, vR 20 0)] [] M := by
  refine j_aload_n (j := 0) dd_M_readLine_129 rfl rfl ?_
  refine j_cVV (mm' := mm_M_step) (t := 20) (i := 0) (As := []) (rest := []) h dd_M_readLine_130 (ws5 wd_952 wd_954 wd_34 wd_70 wd_955) nk_M_step (rok rfl) (by unfold isW; omega) ⟨_, ce_20 _⟩ rfl (Nat.le_of_ble_eq_true rfl) (fun _ => rfl) (fun a2 M1 h => ?_)
  exact j_vret dd_M_readLine_133 rfl h
theorem vc_M_text {E : EE} {Q : Int → JM → Prop}  (M : JM) (h : ∀ M1 : JM, M1 = pt M 20 0 8 0 → ∀ M2 : JM, M2 = pt M1 20 0 10 0 → ∀ M3 : JM, M3 = pt M2 20 0 3 0 → ∀ M4 : JM, M4 = pt M3 20 0 4 0 → JG E mm_M_text Q 24 [(0, vR 20 0), (1, vI 0), (2, vI 0)] [] M4) : JC E mm_M_text [vR 20 0] M Q := by
  refine j_entry (L0 := [(0, vR 20 0)]) pn_M (Nat.le_of_ble_eq_true rfl) rfl ?_
  refine j_aload_n (j := 0) dd_M_text_0 rfl rfl ?_
  refine j_iconst dd_M_text_1 (inRd rfl) ?_
  refine pf_20_8 dd_M_text_2 wd_856 (fun M1 eM1 => ?_)
  have h := h M1 eM1
  refine j_aload_n (j := 0) dd_M_text_5 rfl rfl ?_
  refine j_iconst dd_M_text_6 (inRd rfl) ?_
  refine pf_20_10 dd_M_text_7 wd_858 (fun M2 eM2 => ?_)
  have h := h M2 eM2
  refine j_aload_n (j := 0) dd_M_text_10 rfl rfl ?_
  refine j_iconst dd_M_text_11 (inRd rfl) ?_
  refine pf_20_3 dd_M_text_12 wd_851 (fun M3 eM3 => ?_)
  have h := h M3 eM3
  refine j_aload_n (j := 0) dd_M_text_15 rfl rfl ?_
  refine j_iconst dd_M_text_16 (inRd rfl) ?_
  refine pf_20_4 dd_M_text_17 wd_852 (fun M4 eM4 => ?_)
  have h := h M4 eM4
  refine j_iconst dd_M_text_20 (inRd rfl) ?_
  refine j_istore_n (j := 1) dd_M_text_21 rfl (by decide) rfl ?_
  refine j_iconst dd_M_text_22 (inRd rfl) ?_
  refine j_istore_n (j := 2) dd_M_text_23 rfl (by decide) rfl ?_
  exact j_jump h (jsub_c rfl (jsub_c rfl (jsub_c rfl jsub_0)))
theorem vc_M_text_24 {E : EE} {Q : Int → JM → Prop} (l1 : Int) (l2 : Int) (M : JM) (h : ((44 ≤ l2 → JC E mm_M_step [vR 20 0] M (fun a2 M1 => JG E mm_M_text Q 47 [(0, vR 20 0), (1, vI l1)] [] M1)) ∧ (l2 < 44 → (0 ≤ l2 ∧ l2 < 44) ∧ ∀ M3 : JM, M3 = pt M 22 0 l2.toNat 0 → ∀ a4 : Int, a4 = w32 (l2 + 1) → JG E mm_M_text Q 24 [(0, vR 20 0), (1, vI l1), (2, vI a4)] [] M3))) : JG E mm_M_text Q 24 [(0, vR 20 0), (1, vI l1), (2, vI l2)] [] M := by
  refine j_iload_n (j := 2) dd_M_text_24 rfl rfl ?_
  refine j_bipush dd_M_text_25 rfl (inRd rfl) ?_
  refine j_icmp_ge (tgt := 43) dd_M_text_27 (by decide) (fun c => ?_) (fun c => ?_)
  · have h := h.1 c
    refine j_aload_n (j := 0) dd_M_text_43 rfl rfl ?_
    refine j_cVV (mm' := mm_M_step) (t := 20) (i := 0) (As := []) (rest := []) h dd_M_text_44 (ws5 wd_952 wd_954 wd_34 wd_70 wd_955) nk_M_step (rok rfl) (by unfold isW; omega) ⟨_, ce_20 _⟩ rfl (Nat.le_of_ble_eq_true rfl) (fun _ => rfl) (fun a2 M1 h => ?_)
    exact j_jump h (jsub_c rfl (jsub_c rfl jsub_0))
  · have h := h.2 c
    refine j_aload_n (j := 0) dd_M_text_30 rfl rfl ?_
    refine gf_20_2 dd_M_text_31 wd_850 ?_
    refine j_iload_n (j := 2) dd_M_text_34 rfl rfl ?_
    refine j_iconst dd_M_text_35 (inRd rfl) ?_
    refine st_22 dd_M_text_36 h.1 (fun M3 eM3 => ?_)
    have h := h.2
    have h := h M3 eM3
    refine j_iincN dd_M_text_37 rfl rfl (fun a4 ea4 => ?_)
    have h := h a4 ea4
    refine j_goto (tgt := 24) dd_M_text_40 (by decide) ?_
    exact j_jump h (jsub_c rfl (jsub_c rfl (jsub_c rfl jsub_0)))
theorem vc_M_text_47 {E : EE} {Q : Int → JM → Prop} (l1 : Int) (M : JM) (h : ((M 20 0 8 ≠ 0 → JG E mm_M_text Q 71 [(0, vR 20 0), (1, vI l1)] [] M) ∧ (M 20 0 8 = 0 → ((M 20 0 12 = 0 → JG E mm_M_text Q 71 [(0, vR 20 0), (1, vI l1)] [] M) ∧ (M 20 0 12 ≠ 0 → JC E mm_M_readLine [vR 20 0] M (fun a2 M1 => ∀ a3 : Int, a3 = w32 (l1 + 1) → JG E mm_M_text Q 47 [(0, vR 20 0), (1, vI a3)] [] M1)))))) : JG E mm_M_text Q 47 [(0, vR 20 0), (1, vI l1)] [] M := by
  refine j_aload_n (j := 0) dd_M_text_47 rfl rfl ?_
  refine gf_20_8 dd_M_text_48 wd_856 ?_
  refine j_if_ne (tgt := 71) dd_M_text_51 (by decide) (fun c => ?_) (fun c => ?_)
  · have h := h.1 c
    exact j_jump h (jsub_c rfl (jsub_c rfl jsub_0))
  · have h := h.2 c
    refine j_aload_n (j := 0) dd_M_text_54 rfl rfl ?_
    refine gf_20_12 dd_M_text_55 wd_860 ?_
    refine j_if_eq (tgt := 71) dd_M_text_58 (by decide) (fun c => ?_) (fun c => ?_)
    · have h := h.1 c
      exact j_jump h (jsub_c rfl (jsub_c rfl jsub_0))
    · have h := h.2 c
      refine j_aload_n (j := 0) dd_M_text_61 rfl rfl ?_
      refine j_cVV (mm' := mm_M_readLine) (t := 20) (i := 0) (As := []) (rest := []) h dd_M_text_62 (ws5 wd_968 wd_970 wd_37 wd_70 wd_971) nk_M_readLine (rok rfl) (by unfold isW; omega) ⟨_, ce_20 _⟩ rfl (Nat.le_of_ble_eq_true rfl) (fun _ => rfl) (fun a2 M1 h => ?_)
      refine j_iincN dd_M_text_65 rfl rfl (fun a3 ea3 => ?_)
      have h := h a3 ea3
      refine j_goto (tgt := 47) dd_M_text_68 (by decide) ?_
      exact j_jump h (jsub_c rfl (jsub_c rfl jsub_0))
theorem vc_M_text_71 {E : EE} {Q : Int → JM → Prop} (l1 : Int) (M : JM) (h : ∀ M1 : JM, M1 = pt M 20 0 6 0 → ∀ M2 : JM, M2 = pt M1 20 0 7 (M1 20 0 8) → ((M2 20 0 8 ≤ 0 → JG E mm_M_text Q 101 [(0, vR 20 0), (1, vI l1), (2, vI 0)] [] M2) ∧ (0 < M2 20 0 8 → Q (w32 ((-10) - (M2 20 0 9))) M2))) : JG E mm_M_text Q 71 [(0, vR 20 0), (1, vI l1)] [] M := by
  refine j_aload_n (j := 0) dd_M_text_71 rfl rfl ?_
  refine j_iconst dd_M_text_72 (inRd rfl) ?_
  refine pf_20_6 dd_M_text_73 wd_854 (fun M1 eM1 => ?_)
  have h := h M1 eM1
  refine j_aload_n (j := 0) dd_M_text_76 rfl rfl ?_
  refine j_aload_n (j := 0) dd_M_text_77 rfl rfl ?_
  refine gf_20_8 dd_M_text_78 wd_856 ?_
  refine pf_20_7 dd_M_text_81 wd_855 (fun M2 eM2 => ?_)
  have h := h M2 eM2
  refine j_aload_n (j := 0) dd_M_text_84 rfl rfl ?_
  refine gf_20_8 dd_M_text_85 wd_856 ?_
  refine j_if_le (tgt := 99) dd_M_text_88 (by decide) (fun c => ?_) (fun c => ?_)
  · have h := h.1 c
    refine j_iconst dd_M_text_99 (inRd rfl) ?_
    refine j_istore_n (j := 2) dd_M_text_100 rfl (by decide) rfl ?_
    exact j_jump h (jsub_c rfl (jsub_c rfl (jsub_c rfl jsub_0)))
  · have h := h.2 c
    refine j_bipush dd_M_text_91 rfl (inRd rfl) ?_
    refine j_aload_n (j := 0) dd_M_text_93 rfl rfl ?_
    refine gf_20_9 dd_M_text_94 wd_857 ?_
    refine j_isub dd_M_text_97 ?_
    exact j_iret dd_M_text_98 rfl h
theorem vc_M_text_101 {E : EE} {Q : Int → JM → Prop} (l1 : Int) (l2 : Int) (M : JM) (h : ((44 ≤ l2 → ∀ M1 : JM, M1 = pt M 20 0 1 (M 20 0 3) → ∀ M2 : JM, M2 = pt M1 20 0 22 0 → ∀ M3 : JM, M3 = pt M2 30 0 0 0 → ∀ M4 : JM, M4 = pt M3 30 0 1 0 → Q l1 M4) ∧ (l2 < 44 → (0 ≤ l2 ∧ l2 < 44) ∧ (0 ≤ l2 ∧ l2 < 264) ∧ ∀ M5 : JM, M5 = pt M 21 0 l2.toNat (M 22 0 l2.toNat) → ∀ a6 : Int, a6 = w32 (l2 + 1) → JG E mm_M_text Q 101 [(0, vR 20 0), (1, vI l1), (2, vI a6)] [] M5))) : JG E mm_M_text Q 101 [(0, vR 20 0), (1, vI l1), (2, vI l2)] [] M := by
  refine j_iload_n (j := 2) dd_M_text_101 rfl rfl ?_
  refine j_bipush dd_M_text_102 rfl (inRd rfl) ?_
  refine j_icmp_ge (tgt := 125) dd_M_text_104 (by decide) (fun c => ?_) (fun c => ?_)
  · have h := h.1 c
    refine j_aload_n (j := 0) dd_M_text_125 rfl rfl ?_
    refine j_aload_n (j := 0) dd_M_text_126 rfl rfl ?_
    refine gf_20_3 dd_M_text_127 wd_851 ?_
    refine pf_20_1 dd_M_text_130 wd_849 (fun M1 eM1 => ?_)
    have h := h M1 eM1
    refine j_aload_n (j := 0) dd_M_text_133 rfl rfl ?_
    refine j_iconst dd_M_text_134 (inRd rfl) ?_
    refine pf_20_22 dd_M_text_135 wd_870 (fun M2 eM2 => ?_)
    have h := h M2 eM2
    refine j_aload_n (j := 0) dd_M_text_138 rfl rfl ?_
    refine gf_20_24 dd_M_text_139 wd_872 ?_
    refine j_iconst dd_M_text_142 (inRd rfl) ?_
    refine j_iconst dd_M_text_143 (inRd rfl) ?_
    refine st_30 dd_M_text_144 ⟨by decide, by decide⟩ (Or.inl rfl) (fun M3 eM3 => ?_)
    have h := h M3 eM3
    refine j_aload_n (j := 0) dd_M_text_145 rfl rfl ?_
    refine gf_20_24 dd_M_text_146 wd_872 ?_
    refine j_iconst dd_M_text_149 (inRd rfl) ?_
    refine j_iconst dd_M_text_150 (inRd rfl) ?_
    refine st_30 dd_M_text_151 ⟨by decide, by decide⟩ (Or.inl rfl) (fun M4 eM4 => ?_)
    have h := h M4 eM4
    refine j_iload_n (j := 1) dd_M_text_152 rfl rfl ?_
    exact j_iret dd_M_text_153 rfl h
  · have h := h.2 c
    refine j_aload_n (j := 0) dd_M_text_107 rfl rfl ?_
    refine gf_20_0 dd_M_text_108 wd_848 ?_
    refine j_iload_n (j := 2) dd_M_text_111 rfl rfl ?_
    refine j_aload_n (j := 0) dd_M_text_112 rfl rfl ?_
    refine gf_20_2 dd_M_text_113 wd_850 ?_
    refine j_iload_n (j := 2) dd_M_text_116 rfl rfl ?_
    refine ld_22 dd_M_text_117 h.1 ?_
    have h := h.2
    refine st_21 dd_M_text_118 h.1 (fun M5 eM5 => ?_)
    have h := h.2
    have h := h M5 eM5
    refine j_iincN dd_M_text_119 rfl rfl (fun a6 ea6 => ?_)
    have h := h a6 ea6
    refine j_goto (tgt := 101) dd_M_text_122 (by decide) ?_
    exact j_jump h (jsub_c rfl (jsub_c rfl (jsub_c rfl jsub_0)))
theorem vc_M_fault {E : EE} {Q : Int → JM → Prop}  (M : JM) (h : Q (M 20 0 7) M) : JC E mm_M_fault [vR 20 0] M Q := by
  refine j_entry (L0 := [(0, vR 20 0)]) pn_M (Nat.le_of_ble_eq_true rfl) rfl ?_
  refine j_aload_n (j := 0) dd_M_fault_0 rfl rfl ?_
  refine gf_20_7 dd_M_fault_1 wd_855 ?_
  exact j_iret dd_M_fault_4 rfl h
theorem vc_M_isGoods {E : EE} {Q : Int → JM → Prop} (x1 : Int) (M : JM) (h : JC E mm_M_in [vL x1, vL 0, vL (w32 (M 21 0 32 - 1))] M (fun a2 M1 => ((a2 = 0 ∨ a2 = 1) ∧ Q a2 M1))) : JC E mm_M_isGoods [vR 20 0, vI x1] M Q := by
  refine j_entry (L0 := [(0, vR 20 0), (1, vI x1)]) pn_M (Nat.le_of_ble_eq_true rfl) rfl ?_
  refine j_iload_n (j := 1) dd_M_isGoods_0 rfl rfl ?_
  refine j_i2l dd_M_isGoods_1 ?_
  refine j_lconst (x := 0) dd_M_isGoods_2 rfl (inLd rfl) ?_
  refine j_aload_n (j := 0) dd_M_isGoods_3 rfl rfl ?_
  refine gf_20_0 dd_M_isGoods_4 wd_848 ?_
  refine j_bipush dd_M_isGoods_7 rfl (inRd rfl) ?_
  refine ld_21 dd_M_isGoods_9 ⟨by decide, by decide⟩ ?_
  refine j_iconst dd_M_isGoods_10 (inRd rfl) ?_
  refine j_isub dd_M_isGoods_11 ?_
  refine j_i2l dd_M_isGoods_12 ?_
  refine j_cSI (mm' := mm_M_in) (As := [vL x1, vL 0, vL (w32 (M 21 0 32 - 1))]) (rest := []) h dd_M_isGoods_13 (ws4 wd_941 wd_942 wd_70 wd_943) nk_M_in (rok rfl) (Nat.le_of_ble_eq_true rfl) (fun _ => rfl) (fun a2 M1 h => ?_)
  exact j_zret dd_M_isGoods_16 rfl h.1 h.2
theorem vc_M_isOne {E : EE} {Q : Int → JM → Prop} (x1 : Int) (M : JM) (h : JC E mm_M_in [vL x1, vL 0, vL (w32 (M 20 0 1 - 1))] M (fun a2 M1 => ((a2 = 0 ∨ a2 = 1) ∧ Q a2 M1))) : JC E mm_M_isOne [vR 20 0, vI x1] M Q := by
  refine j_entry (L0 := [(0, vR 20 0), (1, vI x1)]) pn_M (Nat.le_of_ble_eq_true rfl) rfl ?_
  refine j_iload_n (j := 1) dd_M_isOne_0 rfl rfl ?_
  refine j_i2l dd_M_isOne_1 ?_
  refine j_lconst (x := 0) dd_M_isOne_2 rfl (inLd rfl) ?_
  refine j_aload_n (j := 0) dd_M_isOne_3 rfl rfl ?_
  refine gf_20_1 dd_M_isOne_4 wd_849 ?_
  refine j_iconst dd_M_isOne_7 (inRd rfl) ?_
  refine j_isub dd_M_isOne_8 ?_
  refine j_i2l dd_M_isOne_9 ?_
  refine j_cSI (mm' := mm_M_in) (As := [vL x1, vL 0, vL (w32 (M 20 0 1 - 1))]) (rest := []) h dd_M_isOne_10 (ws4 wd_941 wd_942 wd_70 wd_943) nk_M_in (rok rfl) (Nat.le_of_ble_eq_true rfl) (fun _ => rfl) (fun a2 M1 h => ?_)
  exact j_zret dd_M_isOne_13 rfl h.1 h.2
theorem vc_M_heftOn {E : EE} {Q : Int → JM → Prop} (x1 : Int) (x2 : Int) (M : JM) (h : (0 ≤ w32 (x1 + x2) ∧ w32 (x1 + x2) < 264) ∧ ∀ a1 : Int, a1 = M 21 0 ((w32 (x1 + x2)).toNat) → (0 ≤ w32 (w32 (x1 + 8) + x2) ∧ w32 (w32 (x1 + 8) + x2) < 264) ∧ ∀ a2 : Int, a2 = M 21 0 ((w32 (w32 (x1 + 8) + x2)).toNat) → ((a1 ≠ 0 → ((a1 ≠ 1 → ((a1 ≠ 2 → Q (w32 (w32 (2 * a2) - 1)) M) ∧ (a1 = 2 → Q (w32 (Int.tdiv (w32 (a2 + 1)) 2)) M))) ∧ (a1 = 1 → Q (w32 (2 * a2)) M))) ∧ (a1 = 0 → Q a2 M))) : JC E mm_M_heftOn [vR 20 0, vI x1, vI x2] M Q := by
  refine j_entry (L0 := [(0, vR 20 0), (1, vI x1), (2, vI x2)]) pn_M (Nat.le_of_ble_eq_true rfl) rfl ?_
  refine j_aload_n (j := 0) dd_M_heftOn_0 rfl rfl ?_
  refine gf_20_0 dd_M_heftOn_1 wd_848 ?_
  refine j_iload_n (j := 1) dd_M_heftOn_4 rfl rfl ?_
  refine j_iload_n (j := 2) dd_M_heftOn_5 rfl rfl ?_
  refine j_iadd dd_M_heftOn_6 ?_
  refine ld_21 dd_M_heftOn_7 h.1 ?_
  have h := h.2
  refine j_topI (fun a1 ea1 => ?_)
  have h := h a1 ea1
  refine j_istore_n (j := 3) dd_M_heftOn_8 rfl (by decide) rfl ?_
  refine j_aload_n (j := 0) dd_M_heftOn_9 rfl rfl ?_
  refine gf_20_0 dd_M_heftOn_10 wd_848 ?_
  refine j_iload_n (j := 1) dd_M_heftOn_13 rfl rfl ?_
  refine j_bipush dd_M_heftOn_14 rfl (inRd rfl) ?_
  refine j_iadd dd_M_heftOn_16 ?_
  refine j_iload_n (j := 2) dd_M_heftOn_17 rfl rfl ?_
  refine j_iadd dd_M_heftOn_18 ?_
  refine ld_21 dd_M_heftOn_19 h.1 ?_
  have h := h.2
  refine j_topI (fun a2 ea2 => ?_)
  have h := h a2 ea2
  refine j_istore (j := 4) dd_M_heftOn_20 (by decide) rfl ?_
  refine j_iload_n (j := 3) dd_M_heftOn_22 rfl rfl ?_
  refine j_if_ne (tgt := 31) dd_M_heftOn_23 (by decide) (fun c => ?_) (fun c => ?_)
  · have h := h.1 c
    refine j_iload_n (j := 3) dd_M_heftOn_31 rfl rfl ?_
    refine j_iconst dd_M_heftOn_32 (inRd rfl) ?_
    refine j_icmp_ne (tgt := 43) dd_M_heftOn_33 (by decide) (fun c => ?_) (fun c => ?_)
    · have h := h.1 c
      refine j_iload_n (j := 3) dd_M_heftOn_43 rfl rfl ?_
      refine j_iconst dd_M_heftOn_44 (inRd rfl) ?_
      refine j_icmp_ne (tgt := 57) dd_M_heftOn_45 (by decide) (fun c => ?_) (fun c => ?_)
      · have h := h.1 c
        refine j_iconst dd_M_heftOn_57 (inRd rfl) ?_
        refine j_iload (j := 4) dd_M_heftOn_58 rfl ?_
        refine j_imul dd_M_heftOn_60 ?_
        refine j_iconst dd_M_heftOn_61 (inRd rfl) ?_
        refine j_isub dd_M_heftOn_62 ?_
        exact j_iret dd_M_heftOn_63 rfl h
      · have h := h.2 c
        refine j_iload (j := 4) dd_M_heftOn_48 rfl ?_
        refine j_iconst dd_M_heftOn_50 (inRd rfl) ?_
        refine j_iadd dd_M_heftOn_51 ?_
        refine j_iconst dd_M_heftOn_52 (inRd rfl) ?_
        refine j_idiv dd_M_heftOn_53 (by decide) ?_
        refine j_goto (tgt := 63) dd_M_heftOn_54 (by decide) ?_
        exact j_iret dd_M_heftOn_63 rfl h
    · have h := h.2 c
      refine j_iconst dd_M_heftOn_36 (inRd rfl) ?_
      refine j_iload (j := 4) dd_M_heftOn_37 rfl ?_
      refine j_imul dd_M_heftOn_39 ?_
      refine j_goto (tgt := 63) dd_M_heftOn_40 (by decide) ?_
      exact j_iret dd_M_heftOn_63 rfl h
  · have h := h.2 c
    refine j_iload (j := 4) dd_M_heftOn_26 rfl ?_
    refine j_goto (tgt := 63) dd_M_heftOn_28 (by decide) ?_
    exact j_iret dd_M_heftOn_63 rfl h
theorem vc_M_paysOn {E : EE} {Q : Int → JM → Prop} (x1 : Int) (x2 : Int) (M : JM) (h : (0 ≤ w32 (x1 + x2) ∧ w32 (x1 + x2) < 264) ∧ ∀ a1 : Int, a1 = M 21 0 ((w32 (x1 + x2)).toNat) → (0 ≤ w32 (w32 (x1 + 16) + x2) ∧ w32 (w32 (x1 + 16) + x2) < 264) ∧ ∀ a2 : Int, a2 = M 21 0 ((w32 (w32 (x1 + 16) + x2)).toNat) → ((2 ≤ a1 → ((a1 ≠ 3 → ((a2 ≤ 2 → Q 0 M) ∧ (2 < a2 → Q (w32 (a2 - 2)) M))) ∧ (a1 = 3 → Q (w32 (2 * a2)) M))) ∧ (a1 < 2 → Q a2 M))) : JC E mm_M_paysOn [vR 20 0, vI x1, vI x2] M Q := by
  refine j_entry (L0 := [(0, vR 20 0), (1, vI x1), (2, vI x2)]) pn_M (Nat.le_of_ble_eq_true rfl) rfl ?_
  refine j_aload_n (j := 0) dd_M_paysOn_0 rfl rfl ?_
  refine gf_20_0 dd_M_paysOn_1 wd_848 ?_
  refine j_iload_n (j := 1) dd_M_paysOn_4 rfl rfl ?_
  refine j_iload_n (j := 2) dd_M_paysOn_5 rfl rfl ?_
  refine j_iadd dd_M_paysOn_6 ?_
  refine ld_21 dd_M_paysOn_7 h.1 ?_
  have h := h.2
  refine j_topI (fun a1 ea1 => ?_)
  have h := h a1 ea1
  refine j_istore_n (j := 3) dd_M_paysOn_8 rfl (by decide) rfl ?_
  refine j_aload_n (j := 0) dd_M_paysOn_9 rfl rfl ?_
  refine gf_20_0 dd_M_paysOn_10 wd_848 ?_
  refine j_iload_n (j := 1) dd_M_paysOn_13 rfl rfl ?_
  refine j_bipush dd_M_paysOn_14 rfl (inRd rfl) ?_
  refine j_iadd dd_M_paysOn_16 ?_
  refine j_iload_n (j := 2) dd_M_paysOn_17 rfl rfl ?_
  refine j_iadd dd_M_paysOn_18 ?_
  refine ld_21 dd_M_paysOn_19 h.1 ?_
  have h := h.2
  refine j_topI (fun a2 ea2 => ?_)
  have h := h a2 ea2
  refine j_istore (j := 4) dd_M_paysOn_20 (by decide) rfl ?_
  refine j_iload_n (j := 3) dd_M_paysOn_22 rfl rfl ?_
  refine j_iconst dd_M_paysOn_23 (inRd rfl) ?_
  refine j_icmp_ge (tgt := 32) dd_M_paysOn_24 (by decide) (fun c => ?_) (fun c => ?_)
  · have h := h.1 c
    refine j_iload_n (j := 3) dd_M_paysOn_32 rfl rfl ?_
    refine j_iconst dd_M_paysOn_33 (inRd rfl) ?_
    refine j_icmp_ne (tgt := 44) dd_M_paysOn_34 (by decide) (fun c => ?_) (fun c => ?_)
    · have h := h.1 c
      refine j_iload (j := 4) dd_M_paysOn_44 rfl ?_
      refine j_iconst dd_M_paysOn_46 (inRd rfl) ?_
      refine j_icmp_le (tgt := 57) dd_M_paysOn_47 (by decide) (fun c => ?_) (fun c => ?_)
      · have h := h.1 c
        refine j_iconst dd_M_paysOn_57 (inRd rfl) ?_
        exact j_iret dd_M_paysOn_58 rfl h
      · have h := h.2 c
        refine j_iload (j := 4) dd_M_paysOn_50 rfl ?_
        refine j_iconst dd_M_paysOn_52 (inRd rfl) ?_
        refine j_isub dd_M_paysOn_53 ?_
        refine j_goto (tgt := 58) dd_M_paysOn_54 (by decide) ?_
        exact j_iret dd_M_paysOn_58 rfl h
    · have h := h.2 c
      refine j_iconst dd_M_paysOn_37 (inRd rfl) ?_
      refine j_iload (j := 4) dd_M_paysOn_38 rfl ?_
      refine j_imul dd_M_paysOn_40 ?_
      refine j_goto (tgt := 58) dd_M_paysOn_41 (by decide) ?_
      exact j_iret dd_M_paysOn_58 rfl h
  · have h := h.2 c
    refine j_iload (j := 4) dd_M_paysOn_27 rfl ?_
    refine j_goto (tgt := 58) dd_M_paysOn_29 (by decide) ?_
    exact j_iret dd_M_paysOn_58 rfl h
theorem vc_M_bestFor {E : EE} {Q : Int → JM → Prop} (x1 : Int) (x2 : Int) (M : JM) (h : JG E mm_M_bestFor Q 9 [(0, vR 20 0), (1, vI x1), (2, vI x2), (3, vI (-4)), (4, vI (-1)), (5, vI 0)] [] M) : JC E mm_M_bestFor [vR 20 0, vI x1, vI x2] M Q := by
  refine j_entry (L0 := [(0, vR 20 0), (1, vI x1), (2, vI x2)]) pn_M (Nat.le_of_ble_eq_true rfl) rfl ?_
  refine j_bipush dd_M_bestFor_0 rfl (inRd rfl) ?_
  refine j_istore_n (j := 3) dd_M_bestFor_2 rfl (by decide) rfl ?_
  refine j_iconst dd_M_bestFor_3 (inRd rfl) ?_
  refine j_istore (j := 4) dd_M_bestFor_4 (by decide) rfl ?_
  refine j_iconst dd_M_bestFor_6 (inRd rfl) ?_
  refine j_istore (j := 5) dd_M_bestFor_7 (by decide) rfl ?_
  exact j_jump h (jsub_c rfl (jsub_c rfl (jsub_c rfl (jsub_c rfl (jsub_c rfl (jsub_c rfl jsub_0))))))
theorem vc_M_bestFor_9 {E : EE} {Q : Int → JM → Prop} (x1 : Int) (x2 : Int) (l3 : Int) (l4 : Int) (l5 : Int) (M : JM) (h : (0 ≤ w32 (x1 + 32) ∧ w32 (x1 + 32) < 264) ∧ ((M 21 0 ((w32 (x1 + 32)).toNat) ≤ l5 → Q l3 M) ∧ (l5 < M 21 0 ((w32 (x1 + 32)).toNat) → (0 ≤ w32 (w32 (x1 + 24) + l5) ∧ w32 (w32 (x1 + 24) + l5) < 264) ∧ ((M 21 0 ((w32 (w32 (x1 + 24) + l5)).toNat) ≠ 0 → JG E mm_M_bestFor Q 70 [(0, vR 20 0), (1, vI x1), (2, vI x2), (3, vI l3), (4, vI l4), (5, vI l5)] [] M) ∧ (M 21 0 ((w32 (w32 (x1 + 24) + l5)).toNat) = 0 → (0 ≤ x2 ∧ x2 < 4) ∧ JC E mm_M_heftOn [vR 20 0, vI x1, vI l5] M (fun a2 M1 => (0 ≤ w32 (w32 (x1 + 33) + x2) ∧ w32 (w32 (x1 + 33) + x2) < 264) ∧ ((M1 21 0 ((w32 (w32 (x1 + 33) + x2)).toNat) < w32 (M 27 0 x2.toNat + a2) → JG E mm_M_bestFor Q 70 [(0, vR 20 0), (1, vI x1), (2, vI x2), (3, vI l3), (4, vI l4), (5, vI l5)] [] M1) ∧ (w32 (M 27 0 x2.toNat + a2) ≤ M1 21 0 ((w32 (w32 (x1 + 33) + x2)).toNat) → JG E mm_M_bestFor Q 71 [(0, vR 20 0), (1, vI x1), (2, vI x2), (3, vI l3), (4, vI l4), (5, vI l5)] [vI 1] M1)))))))) : JG E mm_M_bestFor Q 9 [(0, vR 20 0), (1, vI x1), (2, vI x2), (3, vI l3), (4, vI l4), (5, vI l5)] [] M := by
  refine j_iload (j := 5) dd_M_bestFor_9 rfl ?_
  refine j_aload_n (j := 0) dd_M_bestFor_11 rfl rfl ?_
  refine gf_20_0 dd_M_bestFor_12 wd_848 ?_
  refine j_iload_n (j := 1) dd_M_bestFor_15 rfl rfl ?_
  refine j_bipush dd_M_bestFor_16 rfl (inRd rfl) ?_
  refine j_iadd dd_M_bestFor_18 ?_
  refine ld_21 dd_M_bestFor_19 h.1 ?_
  have h := h.2
  refine j_icmp_ge (tgt := 108) dd_M_bestFor_20 (by decide) (fun c => ?_) (fun c => ?_)
  · have h := h.1 c
    refine j_iload_n (j := 3) dd_M_bestFor_108 rfl rfl ?_
    exact j_iret dd_M_bestFor_109 rfl h
  · have h := h.2 c
    refine j_aload_n (j := 0) dd_M_bestFor_23 rfl rfl ?_
    refine gf_20_0 dd_M_bestFor_24 wd_848 ?_
    refine j_iload_n (j := 1) dd_M_bestFor_27 rfl rfl ?_
    refine j_bipush dd_M_bestFor_28 rfl (inRd rfl) ?_
    refine j_iadd dd_M_bestFor_30 ?_
    refine j_iload (j := 5) dd_M_bestFor_31 rfl ?_
    refine j_iadd dd_M_bestFor_33 ?_
    refine ld_21 dd_M_bestFor_34 h.1 ?_
    have h := h.2
    refine j_if_ne (tgt := 70) dd_M_bestFor_35 (by decide) (fun c => ?_) (fun c => ?_)
    · have h := h.1 c
      exact j_jump h (jsub_c rfl (jsub_c rfl (jsub_c rfl (jsub_c rfl (jsub_c rfl (jsub_c rfl jsub_0))))))
    · have h := h.2 c
      refine j_aload_n (j := 0) dd_M_bestFor_38 rfl rfl ?_
      refine gf_20_17 dd_M_bestFor_39 wd_865 ?_
      refine j_iload_n (j := 2) dd_M_bestFor_42 rfl rfl ?_
      refine ld_27 dd_M_bestFor_43 h.1 ?_
      have h := h.2
      refine j_aload_n (j := 0) dd_M_bestFor_44 rfl rfl ?_
      refine j_iload_n (j := 1) dd_M_bestFor_45 rfl rfl ?_
      refine j_iload (j := 5) dd_M_bestFor_46 rfl ?_
      refine j_cVI (mm' := mm_M_heftOn) (t := 20) (i := 0) (As := [vI x1, vI l5]) (rest := [vI (M 27 0 x2.toNat)]) h dd_M_bestFor_48 (ws5 wd_1010 wd_1012 wd_44 wd_70 wd_1013) nk_M_heftOn (rok rfl) (by unfold isW; omega) ⟨_, ce_20 _⟩ rfl (Nat.le_of_ble_eq_true rfl) (fun _ => rfl) (fun a2 M1 h => ?_)
      refine j_iadd dd_M_bestFor_51 ?_
      refine j_aload_n (j := 0) dd_M_bestFor_52 rfl rfl ?_
      refine gf_20_0 dd_M_bestFor_53 wd_848 ?_
      refine j_iload_n (j := 1) dd_M_bestFor_56 rfl rfl ?_
      refine j_bipush dd_M_bestFor_57 rfl (inRd rfl) ?_
      refine j_iadd dd_M_bestFor_59 ?_
      refine j_iload_n (j := 2) dd_M_bestFor_60 rfl rfl ?_
      refine j_iadd dd_M_bestFor_61 ?_
      refine ld_21 dd_M_bestFor_62 h.1 ?_
      have h := h.2
      refine j_icmp_gt (tgt := 70) dd_M_bestFor_63 (by decide) (fun c => ?_) (fun c => ?_)
      · have h := h.1 c
        exact j_jump h (jsub_c rfl (jsub_c rfl (jsub_c rfl (jsub_c rfl (jsub_c rfl (jsub_c rfl jsub_0))))))
      · have h := h.2 c
        refine j_iconst dd_M_bestFor_66 (inRd rfl) ?_
        refine j_goto (tgt := 71) dd_M_bestFor_67 (by decide) ?_
        exact j_jump h (jsub_c rfl (jsub_c rfl (jsub_c rfl (jsub_c rfl (jsub_c rfl (jsub_c rfl jsub_0))))))
theorem vc_M_bestFor_70 {E : EE} {Q : Int → JM → Prop} (x1 : Int) (x2 : Int) (l3 : Int) (l4 : Int) (l5 : Int) (M : JM) (h : JG E mm_M_bestFor Q 71 [(0, vR 20 0), (1, vI x1), (2, vI x2), (3, vI l3), (4, vI l4), (5, vI l5)] [vI 0] M) : JG E mm_M_bestFor Q 70 [(0, vR 20 0), (1, vI x1), (2, vI x2), (3, vI l3), (4, vI l4), (5, vI l5)] [] M := by
  refine j_iconst dd_M_bestFor_70 (inRd rfl) ?_
  exact j_jump h (jsub_c rfl (jsub_c rfl (jsub_c rfl (jsub_c rfl (jsub_c rfl (jsub_c rfl jsub_0))))))
theorem vc_M_bestFor_71 {E : EE} {Q : Int → JM → Prop} (x1 : Int) (x2 : Int) (l3 : Int) (l4 : Int) (l5 : Int) (s0 : Int) (M : JM) (h : ((s0 = 0 → ∀ a1 : Int, a1 = w32 (l5 + 1) → JG E mm_M_bestFor Q 9 [(0, vR 20 0), (1, vI x1), (2, vI x2), (3, vI l3), (4, vI l4), (5, vI a1)] [] M) ∧ (s0 ≠ 0 → JC E mm_M_paysOn [vR 20 0, vI x1, vI l5] M (fun a3 M2 => ((a3 ≤ l4 → ∀ a4 : Int, a4 = w32 (l5 + 1) → JG E mm_M_bestFor Q 9 [(0, vR 20 0), (1, vI x1), (2, vI x2), (3, vI l3), (4, vI l4), (5, vI a4)] [] M2) ∧ (l4 < a3 → JC E mm_M_paysOn [vR 20 0, vI x1, vI l5] M2 (fun a6 M5 => ∀ a7 : Int, a7 = w32 (l5 + 1) → JG E mm_M_bestFor Q 9 [(0, vR 20 0), (1, vI x1), (2, vI x2), (3, vI l5), (4, vI a6), (5, vI a7)] [] M5))))))) : JG E mm_M_bestFor Q 71 [(0, vR 20 0), (1, vI x1), (2, vI x2), (3, vI l3), (4, vI l4), (5, vI l5)] [vI s0] M := by
  refine j_istore (j := 6) dd_M_bestFor_71 (by decide) rfl ?_
  refine j_iload (j := 6) dd_M_bestFor_73 rfl ?_
  refine j_if_eq (tgt := 102) dd_M_bestFor_75 (by decide) (fun c => ?_) (fun c => ?_)
  · have h := h.1 c
    refine j_iincN dd_M_bestFor_102 rfl rfl (fun a1 ea1 => ?_)
    have h := h a1 ea1
    refine j_goto (tgt := 9) dd_M_bestFor_105 (by decide) ?_
    exact j_jump h (jsub_c rfl (jsub_c rfl (jsub_c rfl (jsub_c rfl (jsub_c rfl (jsub_c rfl jsub_0))))))
  · have h := h.2 c
    refine j_aload_n (j := 0) dd_M_bestFor_78 rfl rfl ?_
    refine j_iload_n (j := 1) dd_M_bestFor_79 rfl rfl ?_
    refine j_iload (j := 5) dd_M_bestFor_80 rfl ?_
    refine j_cVI (mm' := mm_M_paysOn) (t := 20) (i := 0) (As := [vI x1, vI l5]) (rest := []) h dd_M_bestFor_82 (ws5 wd_1014 wd_1016 wd_45 wd_70 wd_1017) nk_M_paysOn (rok rfl) (by unfold isW; omega) ⟨_, ce_20 _⟩ rfl (Nat.le_of_ble_eq_true rfl) (fun _ => rfl) (fun a3 M2 h => ?_)
    refine j_iload (j := 4) dd_M_bestFor_85 rfl ?_
    refine j_icmp_le (tgt := 102) dd_M_bestFor_87 (by decide) (fun c => ?_) (fun c => ?_)
    · have h := h.1 c
      refine j_iincN dd_M_bestFor_102 rfl rfl (fun a4 ea4 => ?_)
      have h := h a4 ea4
      refine j_goto (tgt := 9) dd_M_bestFor_105 (by decide) ?_
      exact j_jump h (jsub_c rfl (jsub_c rfl (jsub_c rfl (jsub_c rfl (jsub_c rfl (jsub_c rfl jsub_0))))))
    · have h := h.2 c
      refine j_iload (j := 5) dd_M_bestFor_90 rfl ?_
      refine j_istore_n (j := 3) dd_M_bestFor_92 rfl (by decide) rfl ?_
      refine j_aload_n (j := 0) dd_M_bestFor_93 rfl rfl ?_
      refine j_iload_n (j := 1) dd_M_bestFor_94 rfl rfl ?_
      refine j_iload (j := 5) dd_M_bestFor_95 rfl ?_
      refine j_cVI (mm' := mm_M_paysOn) (t := 20) (i := 0) (As := [vI x1, vI l5]) (rest := []) h dd_M_bestFor_97 (ws5 wd_1014 wd_1016 wd_45 wd_70 wd_1017) nk_M_paysOn (rok rfl) (by unfold isW; omega) ⟨_, ce_20 _⟩ rfl (Nat.le_of_ble_eq_true rfl) (fun _ => rfl) (fun a6 M5 h => ?_)
      refine j_istore (j := 4) dd_M_bestFor_100 (by decide) rfl ?_
      refine j_iincN dd_M_bestFor_102 rfl rfl (fun a7 ea7 => ?_)
      have h := h a7 ea7
      refine j_goto (tgt := 9) dd_M_bestFor_105 (by decide) ?_
      exact j_jump h (jsub_c rfl (jsub_c rfl (jsub_c rfl (jsub_c rfl (jsub_c rfl (jsub_c rfl jsub_0))))))
theorem vc_M_roundsOn {E : EE} {Q : Int → JM → Prop} (x1 : Int) (x2 : Int) (x3 : Int) (M : JM) (h : ∀ M1 : JM, M1 = pt M 20 0 18 0 → JG E mm_M_roundsOn Q 8 [(0, vR 20 0), (1, vI x1), (2, vI x2), (3, vI x3), (4, vI 0)] [] M1) : JC E mm_M_roundsOn [vR 20 0, vI x1, vI x2, vI x3] M Q := by
  refine j_entry (L0 := [(0, vR 20 0), (1, vI x1), (2, vI x2), (3, vI x3)]) pn_M (Nat.le_of_ble_eq_true rfl) rfl ?_
  refine j_aload_n (j := 0) dd_M_roundsOn_0 rfl rfl ?_
  refine j_iconst dd_M_roundsOn_1 (inRd rfl) ?_
  refine pf_20_18 dd_M_roundsOn_2 wd_866 (fun M1 eM1 => ?_)
  have h := h M1 eM1
  refine j_iconst dd_M_roundsOn_5 (inRd rfl) ?_
  refine j_istore (j := 4) dd_M_roundsOn_6 (by decide) rfl ?_
  exact j_jump h (jsub_c rfl (jsub_c rfl (jsub_c rfl (jsub_c rfl (jsub_c rfl jsub_0)))))
theorem vc_M_roundsOn_8 {E : EE} {Q : Int → JM → Prop} (x1 : Int) (x2 : Int) (x3 : Int) (l4 : Int) (M : JM) (h : ((4 ≤ l4 → JG E mm_M_roundsOn Q 39 [(0, vR 20 0), (1, vI x1), (2, vI x2), (3, vI x3), (4, vI 0)] [] M) ∧ (l4 < 4 → (0 ≤ l4 ∧ l4 < 4) ∧ ∀ M1 : JM, M1 = pt M 26 0 l4.toNat 0 → (0 ≤ l4 ∧ l4 < 4) ∧ ∀ M2 : JM, M2 = pt M1 27 0 l4.toNat 0 → ∀ a3 : Int, a3 = w32 (l4 + 1) → JG E mm_M_roundsOn Q 8 [(0, vR 20 0), (1, vI x1), (2, vI x2), (3, vI x3), (4, vI a3)] [] M2))) : JG E mm_M_roundsOn Q 8 [(0, vR 20 0), (1, vI x1), (2, vI x2), (3, vI x3), (4, vI l4)] [] M := by
  refine j_iload (j := 4) dd_M_roundsOn_8 rfl ?_
  refine j_iconst dd_M_roundsOn_10 (inRd rfl) ?_
  refine j_icmp_ge (tgt := 36) dd_M_roundsOn_11 (by decide) (fun c => ?_) (fun c => ?_)
  · have h := h.1 c
    refine j_iconst dd_M_roundsOn_36 (inRd rfl) ?_
    refine j_istore (j := 4) dd_M_roundsOn_37 (by decide) rfl ?_
    exact j_jump h (jsub_c rfl (jsub_c rfl (jsub_c rfl (jsub_c rfl (jsub_c rfl jsub_0)))))
  · have h := h.2 c
    refine j_aload_n (j := 0) dd_M_roundsOn_14 rfl rfl ?_
    refine gf_20_16 dd_M_roundsOn_15 wd_864 ?_
    refine j_iload (j := 4) dd_M_roundsOn_18 rfl ?_
    refine j_iconst dd_M_roundsOn_20 (inRd rfl) ?_
    refine st_26 dd_M_roundsOn_21 h.1 (fun M1 eM1 => ?_)
    have h := h.2
    have h := h M1 eM1
    refine j_aload_n (j := 0) dd_M_roundsOn_22 rfl rfl ?_
    refine gf_20_17 dd_M_roundsOn_23 wd_865 ?_
    refine j_iload (j := 4) dd_M_roundsOn_26 rfl ?_
    refine j_iconst dd_M_roundsOn_28 (inRd rfl) ?_
    refine st_27 dd_M_roundsOn_29 h.1 (fun M2 eM2 => ?_)
    have h := h.2
    have h := h M2 eM2
    refine j_iincN dd_M_roundsOn_30 rfl rfl (fun a3 ea3 => ?_)
    have h := h a3 ea3
    refine j_goto (tgt := 8) dd_M_roundsOn_33 (by decide) ?_
    exact j_jump h (jsub_c rfl (jsub_c rfl (jsub_c rfl (jsub_c rfl (jsub_c rfl jsub_0)))))
theorem vc_M_roundsOn_39 {E : EE} {Q : Int → JM → Prop} (x1 : Int) (x2 : Int) (x3 : Int) (l4 : Int) (M : JM) (h : ((x2 ≤ l4 → Q 0 M) ∧ (l4 < x2 → JG E mm_M_roundsOn Q 48 [(0, vR 20 0), (1, vI x1), (2, vI x2), (3, vI x3), (4, vI l4), (5, vI 0)] [] M))) : JG E mm_M_roundsOn Q 39 [(0, vR 20 0), (1, vI x1), (2, vI x2), (3, vI x3), (4, vI l4)] [] M := by
  refine j_iload (j := 4) dd_M_roundsOn_39 rfl ?_
  refine j_iload_n (j := 2) dd_M_roundsOn_41 rfl rfl ?_
  refine j_icmp_ge (tgt := 167) dd_M_roundsOn_42 (by decide) (fun c => ?_) (fun c => ?_)
  · have h := h.1 c
    exact j_vret dd_M_roundsOn_167 rfl h
  · have h := h.2 c
    refine j_iconst dd_M_roundsOn_45 (inRd rfl) ?_
    refine j_istore (j := 5) dd_M_roundsOn_46 (by decide) rfl ?_
    exact j_jump h (jsub_c rfl (jsub_c rfl (jsub_c rfl (jsub_c rfl (jsub_c rfl (jsub_c rfl jsub_0))))))
theorem vc_M_roundsOn_48 {E : EE} {Q : Int → JM → Prop} (x1 : Int) (x2 : Int) (x3 : Int) (l4 : Int) (l5 : Int) (M : JM) (h : ((M 20 0 1 ≤ l5 → ∀ a1 : Int, a1 = w32 (l4 + 1) → JG E mm_M_roundsOn Q 39 [(0, vR 20 0), (1, vI x1), (2, vI x2), (3, vI x3), (4, vI a1)] [] M) ∧ (l5 < M 20 0 1 → ((and32 (shr32 x3 l5) 1 ≠ 1 → JC E mm_M_bestFor [vR 20 0, vI x1, vI l5] M (fun a3 M2 => JG E mm_M_roundsOn Q 79 [(0, vR 20 0), (1, vI x1), (2, vI x2), (3, vI x3), (4, vI l4), (5, vI l5)] [vI a3] M2)) ∧ (and32 (shr32 x3 l5) 1 = 1 → JG E mm_M_roundsOn Q 79 [(0, vR 20 0), (1, vI x1), (2, vI x2), (3, vI x3), (4, vI l4), (5, vI l5)] [vI (-4)] M))))) : JG E mm_M_roundsOn Q 48 [(0, vR 20 0), (1, vI x1), (2, vI x2), (3, vI x3), (4, vI l4), (5, vI l5)] [] M := by
  refine j_iload (j := 5) dd_M_roundsOn_48 rfl ?_
  refine j_aload_n (j := 0) dd_M_roundsOn_50 rfl rfl ?_
  refine gf_20_1 dd_M_roundsOn_51 wd_849 ?_
  refine j_icmp_ge (tgt := 161) dd_M_roundsOn_54 (by decide) (fun c => ?_) (fun c => ?_)
  · have h := h.1 c
    refine j_iincN dd_M_roundsOn_161 rfl rfl (fun a1 ea1 => ?_)
    have h := h a1 ea1
    refine j_goto (tgt := 39) dd_M_roundsOn_164 (by decide) ?_
    exact j_jump h (jsub_c rfl (jsub_c rfl (jsub_c rfl (jsub_c rfl (jsub_c rfl jsub_0)))))
  · have h := h.2 c
    refine j_iload_n (j := 3) dd_M_roundsOn_57 rfl rfl ?_
    refine j_iload (j := 5) dd_M_roundsOn_58 rfl ?_
    refine j_ishr dd_M_roundsOn_60 ?_
    refine j_iconst dd_M_roundsOn_61 (inRd rfl) ?_
    refine j_iand dd_M_roundsOn_62 ?_
    refine j_iconst dd_M_roundsOn_63 (inRd rfl) ?_
    refine j_icmp_ne (tgt := 72) dd_M_roundsOn_64 (by decide) (fun c => ?_) (fun c => ?_)
    · have h := h.1 c
      refine j_aload_n (j := 0) dd_M_roundsOn_72 rfl rfl ?_
      refine j_iload_n (j := 1) dd_M_roundsOn_73 rfl rfl ?_
      refine j_iload (j := 5) dd_M_roundsOn_74 rfl ?_
      refine j_cVI (mm' := mm_M_bestFor) (t := 20) (i := 0) (As := [vI x1, vI l5]) (rest := []) h dd_M_roundsOn_76 (ws5 wd_1039 wd_1041 wd_50 wd_70 wd_1042) nk_M_bestFor (rok rfl) (by unfold isW; omega) ⟨_, ce_20 _⟩ rfl (Nat.le_of_ble_eq_true rfl) (fun _ => rfl) (fun a3 M2 h => ?_)
      exact j_jump h (jsub_c rfl (jsub_c rfl (jsub_c rfl (jsub_c rfl (jsub_c rfl (jsub_c rfl jsub_0))))))
    · have h := h.2 c
      refine j_bipush dd_M_roundsOn_67 rfl (inRd rfl) ?_
      refine j_goto (tgt := 79) dd_M_roundsOn_69 (by decide) ?_
      exact j_jump h (jsub_c rfl (jsub_c rfl (jsub_c rfl (jsub_c rfl (jsub_c rfl (jsub_c rfl jsub_0))))))
theorem vc_M_roundsOn_79 {E : EE} {Q : Int → JM → Prop} (x1 : Int) (x2 : Int) (x3 : Int) (l4 : Int) (l5 : Int) (s0 : Int) (M : JM) (h : ((s0 = (-4) → ∀ a1 : Int, a1 = w32 (l5 + 1) → JG E mm_M_roundsOn Q 48 [(0, vR 20 0), (1, vI x1), (2, vI x2), (3, vI x3), (4, vI l4), (5, vI a1)] [] M) ∧ (s0 ≠ (-4) → (0 ≤ w32 (w32 (x1 + 24) + s0) ∧ w32 (w32 (x1 + 24) + s0) < 264) ∧ ∀ M2 : JM, M2 = pt M 21 0 ((w32 (w32 (x1 + 24) + s0)).toNat) 1 → (0 ≤ l5 ∧ l5 < 4) ∧ (0 ≤ l5 ∧ l5 < 4) ∧ ∀ M3 : JM, M3 = pt M2 26 0 l5.toNat (or32 (M2 26 0 l5.toNat) (shl32 1 s0)) → (0 ≤ l5 ∧ l5 < 4) ∧ JC E mm_M_heftOn [vR 20 0, vI x1, vI s0] M3 (fun a5 M4 => (0 ≤ l5 ∧ l5 < 4) ∧ ∀ M6 : JM, M6 = pt M4 27 0 l5.toNat (w32 (M3 27 0 l5.toNat + a5)) → ∀ M7 : JM, M7 = pt M6 20 0 18 (or32 (M6 20 0 18) (shl32 1 s0)) → ∀ M8 : JM, M8 = pt M7 20 0 20 (w32 (M7 20 0 20 + 1)) → ∀ a9 : Int, a9 = w32 (l5 + 1) → JG E mm_M_roundsOn Q 48 [(0, vR 20 0), (1, vI x1), (2, vI x2), (3, vI x3), (4, vI l4), (5, vI a9)] [] M8)))) : JG E mm_M_roundsOn Q 79 [(0, vR 20 0), (1, vI x1), (2, vI x2), (3, vI x3), (4, vI l4), (5, vI l5)] [vI s0] M := by
  refine j_istore (j := 6) dd_M_roundsOn_79 (by decide) rfl ?_
  refine j_iload (j := 6) dd_M_roundsOn_81 rfl ?_
  refine j_bipush dd_M_roundsOn_83 rfl (inRd rfl) ?_
  refine j_icmp_eq (tgt := 155) dd_M_roundsOn_85 (by decide) (fun c => ?_) (fun c => ?_)
  · have h := h.1 c
    refine j_iincN dd_M_roundsOn_155 rfl rfl (fun a1 ea1 => ?_)
    have h := h a1 ea1
    refine j_goto (tgt := 48) dd_M_roundsOn_158 (by decide) ?_
    exact j_jump h (jsub_c rfl (jsub_c rfl (jsub_c rfl (jsub_c rfl (jsub_c rfl (jsub_c rfl jsub_0))))))
  · have h := h.2 c
    refine j_aload_n (j := 0) dd_M_roundsOn_88 rfl rfl ?_
    refine gf_20_0 dd_M_roundsOn_89 wd_848 ?_
    refine j_iload_n (j := 1) dd_M_roundsOn_92 rfl rfl ?_
    refine j_bipush dd_M_roundsOn_93 rfl (inRd rfl) ?_
    refine j_iadd dd_M_roundsOn_95 ?_
    refine j_iload (j := 6) dd_M_roundsOn_96 rfl ?_
    refine j_iadd dd_M_roundsOn_98 ?_
    refine j_iconst dd_M_roundsOn_99 (inRd rfl) ?_
    refine st_21 dd_M_roundsOn_100 h.1 (fun M2 eM2 => ?_)
    have h := h.2
    have h := h M2 eM2
    refine j_aload_n (j := 0) dd_M_roundsOn_101 rfl rfl ?_
    refine gf_20_16 dd_M_roundsOn_102 wd_864 ?_
    refine j_iload (j := 5) dd_M_roundsOn_105 rfl ?_
    refine j_dup2 dd_M_roundsOn_107 rfl rfl ?_
    refine ld_26 dd_M_roundsOn_108 h.1 ?_
    have h := h.2
    refine j_iconst dd_M_roundsOn_109 (inRd rfl) ?_
    refine j_iload (j := 6) dd_M_roundsOn_110 rfl ?_
    refine j_ishl dd_M_roundsOn_112 ?_
    refine j_ior dd_M_roundsOn_113 ?_
    refine st_26 dd_M_roundsOn_114 h.1 (fun M3 eM3 => ?_)
    have h := h.2
    have h := h M3 eM3
    refine j_aload_n (j := 0) dd_M_roundsOn_115 rfl rfl ?_
    refine gf_20_17 dd_M_roundsOn_116 wd_865 ?_
    refine j_iload (j := 5) dd_M_roundsOn_119 rfl ?_
    refine j_dup2 dd_M_roundsOn_121 rfl rfl ?_
    refine ld_27 dd_M_roundsOn_122 h.1 ?_
    have h := h.2
    refine j_aload_n (j := 0) dd_M_roundsOn_123 rfl rfl ?_
    refine j_iload_n (j := 1) dd_M_roundsOn_124 rfl rfl ?_
    refine j_iload (j := 6) dd_M_roundsOn_125 rfl ?_
    refine j_cVI (mm' := mm_M_heftOn) (t := 20) (i := 0) (As := [vI x1, vI s0]) (rest := [vI (M3 27 0 l5.toNat), vI l5, vR 27 0]) h dd_M_roundsOn_127 (ws5 wd_1010 wd_1012 wd_44 wd_70 wd_1013) nk_M_heftOn (rok rfl) (by unfold isW; omega) ⟨_, ce_20 _⟩ rfl (Nat.le_of_ble_eq_true rfl) (fun _ => rfl) (fun a5 M4 h => ?_)
    refine j_iadd dd_M_roundsOn_130 ?_
    refine st_27 dd_M_roundsOn_131 h.1 (fun M6 eM6 => ?_)
    have h := h.2
    have h := h M6 eM6
    refine j_aload_n (j := 0) dd_M_roundsOn_132 rfl rfl ?_
    refine j_dup dd_M_roundsOn_133 rfl ?_
    refine gf_20_18 dd_M_roundsOn_134 wd_866 ?_
    refine j_iconst dd_M_roundsOn_137 (inRd rfl) ?_
    refine j_iload (j := 6) dd_M_roundsOn_138 rfl ?_
    refine j_ishl dd_M_roundsOn_140 ?_
    refine j_ior dd_M_roundsOn_141 ?_
    refine pf_20_18 dd_M_roundsOn_142 wd_866 (fun M7 eM7 => ?_)
    have h := h M7 eM7
    refine j_aload_n (j := 0) dd_M_roundsOn_145 rfl rfl ?_
    refine j_dup dd_M_roundsOn_146 rfl ?_
    refine gf_20_20 dd_M_roundsOn_147 wd_868 ?_
    refine j_iconst dd_M_roundsOn_150 (inRd rfl) ?_
    refine j_iadd dd_M_roundsOn_151 ?_
    refine pf_20_20 dd_M_roundsOn_152 wd_868 (fun M8 eM8 => ?_)
    have h := h M8 eM8
    refine j_iincN dd_M_roundsOn_155 rfl rfl (fun a9 ea9 => ?_)
    have h := h a9 ea9
    refine j_goto (tgt := 48) dd_M_roundsOn_158 (by decide) ?_
    exact j_jump h (jsub_c rfl (jsub_c rfl (jsub_c rfl (jsub_c rfl (jsub_c rfl (jsub_c rfl jsub_0))))))
theorem vc_M_paysAll {E : EE} {Q : Int → JM → Prop} (x1 : Int) (x2 : Int) (M : JM) (h : JG E mm_M_paysAll Q 5 [(0, vR 20 0), (1, vI x1), (2, vI x2), (3, vI 0), (4, vI 0)] [] M) : JC E mm_M_paysAll [vR 20 0, vI x1, vI x2] M Q := by
  refine j_entry (L0 := [(0, vR 20 0), (1, vI x1), (2, vI x2)]) pn_M (Nat.le_of_ble_eq_true rfl) rfl ?_
  refine j_iconst dd_M_paysAll_0 (inRd rfl) ?_
  refine j_istore_n (j := 3) dd_M_paysAll_1 rfl (by decide) rfl ?_
  refine j_iconst dd_M_paysAll_2 (inRd rfl) ?_
  refine j_istore (j := 4) dd_M_paysAll_3 (by decide) rfl ?_
  exact j_jump h (jsub_c rfl (jsub_c rfl (jsub_c rfl (jsub_c rfl (jsub_c rfl jsub_0)))))
theorem vc_M_paysAll_5 {E : EE} {Q : Int → JM → Prop} (x1 : Int) (x2 : Int) (l3 : Int) (l4 : Int) (M : JM) (h : (0 ≤ w32 (x1 + 32) ∧ w32 (x1 + 32) < 264) ∧ ((M 21 0 ((w32 (x1 + 32)).toNat) ≤ l4 → Q l3 M) ∧ (l4 < M 21 0 ((w32 (x1 + 32)).toNat) → ((and32 (shr32 x2 l4) 1 ≠ 1 → JG E mm_M_paysAll Q 41 [(0, vR 20 0), (1, vI x1), (2, vI x2), (4, vI l4)] [vI 0, vI l3] M) ∧ (and32 (shr32 x2 l4) 1 = 1 → JC E mm_M_paysOn [vR 20 0, vI x1, vI l4] M (fun a2 M1 => JG E mm_M_paysAll Q 41 [(0, vR 20 0), (1, vI x1), (2, vI x2), (4, vI l4)] [vI a2, vI l3] M1)))))) : JG E mm_M_paysAll Q 5 [(0, vR 20 0), (1, vI x1), (2, vI x2), (3, vI l3), (4, vI l4)] [] M := by
  refine j_iload (j := 4) dd_M_paysAll_5 rfl ?_
  refine j_aload_n (j := 0) dd_M_paysAll_7 rfl rfl ?_
  refine gf_20_0 dd_M_paysAll_8 wd_848 ?_
  refine j_iload_n (j := 1) dd_M_paysAll_11 rfl rfl ?_
  refine j_bipush dd_M_paysAll_12 rfl (inRd rfl) ?_
  refine j_iadd dd_M_paysAll_14 ?_
  refine ld_21 dd_M_paysAll_15 h.1 ?_
  have h := h.2
  refine j_icmp_ge (tgt := 49) dd_M_paysAll_16 (by decide) (fun c => ?_) (fun c => ?_)
  · have h := h.1 c
    refine j_iload_n (j := 3) dd_M_paysAll_49 rfl rfl ?_
    exact j_iret dd_M_paysAll_50 rfl h
  · have h := h.2 c
    refine j_iload_n (j := 3) dd_M_paysAll_19 rfl rfl ?_
    refine j_iload_n (j := 2) dd_M_paysAll_20 rfl rfl ?_
    refine j_iload (j := 4) dd_M_paysAll_21 rfl ?_
    refine j_ishr dd_M_paysAll_23 ?_
    refine j_iconst dd_M_paysAll_24 (inRd rfl) ?_
    refine j_iand dd_M_paysAll_25 ?_
    refine j_iconst dd_M_paysAll_26 (inRd rfl) ?_
    refine j_icmp_ne (tgt := 40) dd_M_paysAll_27 (by decide) (fun c => ?_) (fun c => ?_)
    · have h := h.1 c
      refine j_iconst dd_M_paysAll_40 (inRd rfl) ?_
      exact j_jump h (jsub_c rfl (jsub_c rfl (jsub_c rfl (jsub_c rfl jsub_0))))
    · have h := h.2 c
      refine j_aload_n (j := 0) dd_M_paysAll_30 rfl rfl ?_
      refine j_iload_n (j := 1) dd_M_paysAll_31 rfl rfl ?_
      refine j_iload (j := 4) dd_M_paysAll_32 rfl ?_
      refine j_cVI (mm' := mm_M_paysOn) (t := 20) (i := 0) (As := [vI x1, vI l4]) (rest := [vI l3]) h dd_M_paysAll_34 (ws5 wd_1014 wd_1016 wd_45 wd_70 wd_1017) nk_M_paysOn (rok rfl) (by unfold isW; omega) ⟨_, ce_20 _⟩ rfl (Nat.le_of_ble_eq_true rfl) (fun _ => rfl) (fun a2 M1 h => ?_)
      refine j_goto (tgt := 41) dd_M_paysAll_37 (by decide) ?_
      exact j_jump h (jsub_c rfl (jsub_c rfl (jsub_c rfl (jsub_c rfl jsub_0))))
theorem vc_M_paysAll_41 {E : EE} {Q : Int → JM → Prop} (x1 : Int) (x2 : Int) (l4 : Int) (s0 : Int) (s1 : Int) (M : JM) (h : ∀ a1 : Int, a1 = w32 (s0 + s1) → ∀ a2 : Int, a2 = w32 (l4 + 1) → JG E mm_M_paysAll Q 5 [(0, vR 20 0), (1, vI x1), (2, vI x2), (3, vI a1), (4, vI a2)] [] M) : JG E mm_M_paysAll Q 41 [(0, vR 20 0), (1, vI x1), (2, vI x2), (4, vI l4)] [vI s1, vI s0] M := by
  refine j_iadd dd_M_paysAll_41 ?_
  refine j_topI (fun a1 ea1 => ?_)
  have h := h a1 ea1
  refine j_istore_n (j := 3) dd_M_paysAll_42 rfl (by decide) rfl ?_
  refine j_iincN dd_M_paysAll_43 rfl rfl (fun a2 ea2 => ?_)
  have h := h a2 ea2
  refine j_goto (tgt := 5) dd_M_paysAll_46 (by decide) ?_
  exact j_jump h (jsub_c rfl (jsub_c rfl (jsub_c rfl (jsub_c rfl (jsub_c rfl jsub_0)))))
theorem vc_M_weekOn {E : EE} {Q : Int → JM → Prop} (x1 : Int) (x2 : Int) (x3 : Int) (M : JM) (h : JC E mm_M_roundsOn [vR 20 0, vI x1, vI x2, vI x3] M (fun a2 M1 => JG E mm_M_weekOn Q 10 [(0, vR 20 0), (1, vI x1), (4, vI 0)] [] M1)) : JC E mm_M_weekOn [vR 20 0, vI x1, vI x2, vI x3] M Q := by
  refine j_entry (L0 := [(0, vR 20 0), (1, vI x1), (2, vI x2), (3, vI x3)]) pn_M (Nat.le_of_ble_eq_true rfl) rfl ?_
  refine j_aload_n (j := 0) dd_M_weekOn_0 rfl rfl ?_
  refine j_iload_n (j := 1) dd_M_weekOn_1 rfl rfl ?_
  refine j_iload_n (j := 2) dd_M_weekOn_2 rfl rfl ?_
  refine j_iload_n (j := 3) dd_M_weekOn_3 rfl rfl ?_
  refine j_cVV (mm' := mm_M_roundsOn) (t := 20) (i := 0) (As := [vI x1, vI x2, vI x3]) (rest := []) h dd_M_weekOn_4 (ws5 wd_1035 wd_1037 wd_49 wd_70 wd_1038) nk_M_roundsOn (rok rfl) (by unfold isW; omega) ⟨_, ce_20 _⟩ rfl (Nat.le_of_ble_eq_true rfl) (fun _ => rfl) (fun a2 M1 h => ?_)
  refine j_iconst dd_M_weekOn_7 (inRd rfl) ?_
  refine j_istore (j := 4) dd_M_weekOn_8 (by decide) rfl ?_
  exact j_jump h (jsub_c rfl (jsub_c rfl (jsub_c rfl jsub_0)))
theorem vc_M_weekOn_10 {E : EE} {Q : Int → JM → Prop} (x1 : Int) (l4 : Int) (M : JM) (h : ((M 20 0 1 ≤ l4 → (0 ≤ w32 (x1 + 42) ∧ w32 (x1 + 42) < 264) ∧ ∀ a1 : Int, a1 = w32 (M 21 0 ((w32 (x1 + 42)).toNat) + 2) → JG E mm_M_weekOn Q 159 [(0, vR 20 0), (1, vI x1), (4, vI a1), (5, vI 0)] [] M) ∧ (l4 < M 20 0 1 → (0 ≤ w32 (w32 (x1 + 37) + l4) ∧ w32 (w32 (x1 + 37) + l4) < 264) ∧ (0 ≤ l4 ∧ l4 < 4) ∧ JC E mm_M_paysAll [vR 20 0, vI x1, vI (M 26 0 l4.toNat)] M (fun a3 M2 => ∀ a4 : Int, a4 = w32 (M 21 0 ((w32 (w32 (x1 + 37) + l4)).toNat) + a3) → ((a4 ≤ 999 → JG E mm_M_weekOn Q 73 [(0, vR 20 0), (1, vI x1), (4, vI l4)] [vI a4, vI (w32 (w32 (x1 + 37) + l4)), vR 21 0] M2) ∧ (999 < a4 → JG E mm_M_weekOn Q 73 [(0, vR 20 0), (1, vI x1), (4, vI l4)] [vI 999, vI (w32 (w32 (x1 + 37) + l4)), vR 21 0] M2)))))) : JG E mm_M_weekOn Q 10 [(0, vR 20 0), (1, vI x1), (4, vI l4)] [] M := by
  refine j_iload (j := 4) dd_M_weekOn_10 rfl ?_
  refine j_aload_n (j := 0) dd_M_weekOn_12 rfl rfl ?_
  refine gf_20_1 dd_M_weekOn_13 wd_849 ?_
  refine j_icmp_ge (tgt := 143) dd_M_weekOn_16 (by decide) (fun c => ?_) (fun c => ?_)
  · have h := h.1 c
    refine j_aload_n (j := 0) dd_M_weekOn_143 rfl rfl ?_
    refine gf_20_0 dd_M_weekOn_144 wd_848 ?_
    refine j_iload_n (j := 1) dd_M_weekOn_147 rfl rfl ?_
    refine j_bipush dd_M_weekOn_148 rfl (inRd rfl) ?_
    refine j_iadd dd_M_weekOn_150 ?_
    refine ld_21 dd_M_weekOn_151 h.1 ?_
    have h := h.2
    refine j_iconst dd_M_weekOn_152 (inRd rfl) ?_
    refine j_iadd dd_M_weekOn_153 ?_
    refine j_topI (fun a1 ea1 => ?_)
    have h := h a1 ea1
    refine j_istore (j := 4) dd_M_weekOn_154 (by decide) rfl ?_
    refine j_iconst dd_M_weekOn_156 (inRd rfl) ?_
    refine j_istore (j := 5) dd_M_weekOn_157 (by decide) rfl ?_
    exact j_jump h (jsub_c rfl (jsub_c rfl (jsub_c rfl (jsub_c rfl jsub_0))))
  · have h := h.2 c
    refine j_aload_n (j := 0) dd_M_weekOn_19 rfl rfl ?_
    refine gf_20_0 dd_M_weekOn_20 wd_848 ?_
    refine j_iload_n (j := 1) dd_M_weekOn_23 rfl rfl ?_
    refine j_bipush dd_M_weekOn_24 rfl (inRd rfl) ?_
    refine j_iadd dd_M_weekOn_26 ?_
    refine j_iload (j := 4) dd_M_weekOn_27 rfl ?_
    refine j_iadd dd_M_weekOn_29 ?_
    refine ld_21 dd_M_weekOn_30 h.1 ?_
    have h := h.2
    refine j_aload_n (j := 0) dd_M_weekOn_31 rfl rfl ?_
    refine j_iload_n (j := 1) dd_M_weekOn_32 rfl rfl ?_
    refine j_aload_n (j := 0) dd_M_weekOn_33 rfl rfl ?_
    refine gf_20_16 dd_M_weekOn_34 wd_864 ?_
    refine j_iload (j := 4) dd_M_weekOn_37 rfl ?_
    refine ld_26 dd_M_weekOn_39 h.1 ?_
    have h := h.2
    refine j_cVI (mm' := mm_M_paysAll) (t := 20) (i := 0) (As := [vI x1, vI (M 26 0 l4.toNat)]) (rest := [vI (M 21 0 ((w32 (w32 (x1 + 37) + l4)).toNat))]) h dd_M_weekOn_40 (ws5 wd_1095 wd_1097 wd_55 wd_70 wd_1098) nk_M_paysAll (rok rfl) (by unfold isW; omega) ⟨_, ce_20 _⟩ rfl (Nat.le_of_ble_eq_true rfl) (fun _ => rfl) (fun a3 M2 h => ?_)
    refine j_iadd dd_M_weekOn_43 ?_
    refine j_topI (fun a4 ea4 => ?_)
    have h := h a4 ea4
    refine j_istore (j := 5) dd_M_weekOn_44 (by decide) rfl ?_
    refine j_aload_n (j := 0) dd_M_weekOn_46 rfl rfl ?_
    refine gf_20_0 dd_M_weekOn_47 wd_848 ?_
    refine j_iload_n (j := 1) dd_M_weekOn_50 rfl rfl ?_
    refine j_bipush dd_M_weekOn_51 rfl (inRd rfl) ?_
    refine j_iadd dd_M_weekOn_53 ?_
    refine j_iload (j := 4) dd_M_weekOn_54 rfl ?_
    refine j_iadd dd_M_weekOn_56 ?_
    refine j_iload (j := 5) dd_M_weekOn_57 rfl ?_
    refine j_sipush dd_M_weekOn_59 rfl (inRd rfl) ?_
    refine j_icmp_le (tgt := 71) dd_M_weekOn_62 (by decide) (fun c => ?_) (fun c => ?_)
    · have h := h.1 c
      refine j_iload (j := 5) dd_M_weekOn_71 rfl ?_
      exact j_jump h (jsub_c rfl (jsub_c rfl (jsub_c rfl jsub_0)))
    · have h := h.2 c
      refine j_sipush dd_M_weekOn_65 rfl (inRd rfl) ?_
      refine j_goto (tgt := 73) dd_M_weekOn_68 (by decide) ?_
      exact j_jump h (jsub_c rfl (jsub_c rfl (jsub_c rfl jsub_0)))
theorem vc_M_weekOn_73 {E : EE} {Q : Int → JM → Prop} (x1 : Int) (l4 : Int) (s1 : Int) (s2 : Int) (M : JM) (h : (0 ≤ s1 ∧ s1 < 264) ∧ ∀ M1 : JM, M1 = pt M 21 0 s1.toNat s2 → (0 ≤ l4 ∧ l4 < 4) ∧ (0 ≤ w32 (w32 (x1 + 33) + l4) ∧ w32 (w32 (x1 + 33) + l4) < 264) ∧ ((M1 27 0 l4.toNat ≠ M1 21 0 ((w32 (w32 (x1 + 33) + l4)).toNat) → ∀ a2 : Int, a2 = w32 (l4 + 1) → JG E mm_M_weekOn Q 10 [(0, vR 20 0), (1, vI x1), (4, vI a2)] [] M1) ∧ (M1 27 0 l4.toNat = M1 21 0 ((w32 (w32 (x1 + 33) + l4)).toNat) → ∀ M3 : JM, M3 = pt M1 20 0 19 (w32 (M1 20 0 19 + 1)) → (0 ≤ w32 (w32 (x1 + 33) + l4) ∧ w32 (w32 (x1 + 33) + l4) < 264) ∧ (0 ≤ l4 ∧ l4 < 4) ∧ ((M3 27 0 l4.toNat ≤ 1 → JG E mm_M_weekOn Q 135 [(0, vR 20 0), (1, vI x1), (4, vI l4)] [vI 0, vI (M3 21 0 ((w32 (w32 (x1 + 33) + l4)).toNat)), vI (w32 (w32 (x1 + 33) + l4)), vR 21 0] M3) ∧ (1 < M3 27 0 l4.toNat → JG E mm_M_weekOn Q 135 [(0, vR 20 0), (1, vI x1), (4, vI l4)] [vI 1, vI (M3 21 0 ((w32 (w32 (x1 + 33) + l4)).toNat)), vI (w32 (w32 (x1 + 33) + l4)), vR 21 0] M3))))) : JG E mm_M_weekOn Q 73 [(0, vR 20 0), (1, vI x1), (4, vI l4)] [vI s2, vI s1, vR 21 0] M := by
  refine st_21 dd_M_weekOn_73 h.1 (fun M1 eM1 => ?_)
  have h := h.2
  have h := h M1 eM1
  refine j_aload_n (j := 0) dd_M_weekOn_74 rfl rfl ?_
  refine gf_20_17 dd_M_weekOn_75 wd_865 ?_
  refine j_iload (j := 4) dd_M_weekOn_78 rfl ?_
  refine ld_27 dd_M_weekOn_80 h.1 ?_
  have h := h.2
  refine j_aload_n (j := 0) dd_M_weekOn_81 rfl rfl ?_
  refine gf_20_0 dd_M_weekOn_82 wd_848 ?_
  refine j_iload_n (j := 1) dd_M_weekOn_85 rfl rfl ?_
  refine j_bipush dd_M_weekOn_86 rfl (inRd rfl) ?_
  refine j_iadd dd_M_weekOn_88 ?_
  refine j_iload (j := 4) dd_M_weekOn_89 rfl ?_
  refine j_iadd dd_M_weekOn_91 ?_
  refine ld_21 dd_M_weekOn_92 h.1 ?_
  have h := h.2
  refine j_icmp_ne (tgt := 137) dd_M_weekOn_93 (by decide) (fun c => ?_) (fun c => ?_)
  · have h := h.1 c
    refine j_iincN dd_M_weekOn_137 rfl rfl (fun a2 ea2 => ?_)
    have h := h a2 ea2
    refine j_goto (tgt := 10) dd_M_weekOn_140 (by decide) ?_
    exact j_jump h (jsub_c rfl (jsub_c rfl (jsub_c rfl jsub_0)))
  · have h := h.2 c
    refine j_aload_n (j := 0) dd_M_weekOn_96 rfl rfl ?_
    refine j_dup dd_M_weekOn_97 rfl ?_
    refine gf_20_19 dd_M_weekOn_98 wd_867 ?_
    refine j_iconst dd_M_weekOn_101 (inRd rfl) ?_
    refine j_iadd dd_M_weekOn_102 ?_
    refine pf_20_19 dd_M_weekOn_103 wd_867 (fun M3 eM3 => ?_)
    have h := h M3 eM3
    refine j_aload_n (j := 0) dd_M_weekOn_106 rfl rfl ?_
    refine gf_20_0 dd_M_weekOn_107 wd_848 ?_
    refine j_iload_n (j := 1) dd_M_weekOn_110 rfl rfl ?_
    refine j_bipush dd_M_weekOn_111 rfl (inRd rfl) ?_
    refine j_iadd dd_M_weekOn_113 ?_
    refine j_iload (j := 4) dd_M_weekOn_114 rfl ?_
    refine j_iadd dd_M_weekOn_116 ?_
    refine j_dup2 dd_M_weekOn_117 rfl rfl ?_
    refine ld_21 dd_M_weekOn_118 h.1 ?_
    have h := h.2
    refine j_aload_n (j := 0) dd_M_weekOn_119 rfl rfl ?_
    refine gf_20_17 dd_M_weekOn_120 wd_865 ?_
    refine j_iload (j := 4) dd_M_weekOn_123 rfl ?_
    refine ld_27 dd_M_weekOn_125 h.1 ?_
    have h := h.2
    refine j_iconst dd_M_weekOn_126 (inRd rfl) ?_
    refine j_icmp_le (tgt := 134) dd_M_weekOn_127 (by decide) (fun c => ?_) (fun c => ?_)
    · have h := h.1 c
      refine j_iconst dd_M_weekOn_134 (inRd rfl) ?_
      exact j_jump h (jsub_c rfl (jsub_c rfl (jsub_c rfl jsub_0)))
    · have h := h.2 c
      refine j_iconst dd_M_weekOn_130 (inRd rfl) ?_
      refine j_goto (tgt := 135) dd_M_weekOn_131 (by decide) ?_
      exact j_jump h (jsub_c rfl (jsub_c rfl (jsub_c rfl jsub_0)))
theorem vc_M_weekOn_135 {E : EE} {Q : Int → JM → Prop} (x1 : Int) (l4 : Int) (s1 : Int) (s2 : Int) (s3 : Int) (M : JM) (h : (0 ≤ s1 ∧ s1 < 264) ∧ ∀ M1 : JM, M1 = pt M 21 0 s1.toNat (w32 (s2 - s3)) → ∀ a2 : Int, a2 = w32 (l4 + 1) → JG E mm_M_weekOn Q 10 [(0, vR 20 0), (1, vI x1), (4, vI a2)] [] M1) : JG E mm_M_weekOn Q 135 [(0, vR 20 0), (1, vI x1), (4, vI l4)] [vI s3, vI s2, vI s1, vR 21 0] M := by
  refine j_isub dd_M_weekOn_135 ?_
  refine st_21 dd_M_weekOn_136 h.1 (fun M1 eM1 => ?_)
  have h := h.2
  have h := h M1 eM1
  refine j_iincN dd_M_weekOn_137 rfl rfl (fun a2 ea2 => ?_)
  have h := h a2 ea2
  refine j_goto (tgt := 10) dd_M_weekOn_140 (by decide) ?_
  exact j_jump h (jsub_c rfl (jsub_c rfl (jsub_c rfl jsub_0)))
theorem vc_M_weekOn_159 {E : EE} {Q : Int → JM → Prop} (x1 : Int) (l4 : Int) (l5 : Int) (M : JM) (h : (0 ≤ w32 (x1 + 32) ∧ w32 (x1 + 32) < 264) ∧ ((M 21 0 ((w32 (x1 + 32)).toNat) ≤ l5 → JG E mm_M_weekOn Q 214 [(0, vR 20 0), (1, vI x1)] [] M) ∧ (l5 < M 21 0 ((w32 (x1 + 32)).toNat) → ((l4 ≤ 0 → JG E mm_M_weekOn Q 214 [(0, vR 20 0), (1, vI x1)] [] M) ∧ (0 < l4 → (0 ≤ w32 (w32 (x1 + 24) + l5) ∧ w32 (w32 (x1 + 24) + l5) < 264) ∧ ∀ a1 : Int, a1 = w32 (l4 - (M 21 0 ((w32 (w32 (x1 + 24) + l5)).toNat))) → (0 ≤ w32 (w32 (x1 + 24) + l5) ∧ w32 (w32 (x1 + 24) + l5) < 264) ∧ ∀ M2 : JM, M2 = pt M 21 0 ((w32 (w32 (x1 + 24) + l5)).toNat) 0 → ∀ a3 : Int, a3 = w32 (l5 + 1) → JG E mm_M_weekOn Q 159 [(0, vR 20 0), (1, vI x1), (4, vI a1), (5, vI a3)] [] M2))))) : JG E mm_M_weekOn Q 159 [(0, vR 20 0), (1, vI x1), (4, vI l4), (5, vI l5)] [] M := by
  refine j_iload (j := 5) dd_M_weekOn_159 rfl ?_
  refine j_aload_n (j := 0) dd_M_weekOn_161 rfl rfl ?_
  refine gf_20_0 dd_M_weekOn_162 wd_848 ?_
  refine j_iload_n (j := 1) dd_M_weekOn_165 rfl rfl ?_
  refine j_bipush dd_M_weekOn_166 rfl (inRd rfl) ?_
  refine j_iadd dd_M_weekOn_168 ?_
  refine ld_21 dd_M_weekOn_169 h.1 ?_
  have h := h.2
  refine j_icmp_ge (tgt := 214) dd_M_weekOn_170 (by decide) (fun c => ?_) (fun c => ?_)
  · have h := h.1 c
    exact j_jump h (jsub_c rfl (jsub_c rfl jsub_0))
  · have h := h.2 c
    refine j_iload (j := 4) dd_M_weekOn_173 rfl ?_
    refine j_if_le (tgt := 214) dd_M_weekOn_175 (by decide) (fun c => ?_) (fun c => ?_)
    · have h := h.1 c
      exact j_jump h (jsub_c rfl (jsub_c rfl jsub_0))
    · have h := h.2 c
      refine j_iload (j := 4) dd_M_weekOn_178 rfl ?_
      refine j_aload_n (j := 0) dd_M_weekOn_180 rfl rfl ?_
      refine gf_20_0 dd_M_weekOn_181 wd_848 ?_
      refine j_iload_n (j := 1) dd_M_weekOn_184 rfl rfl ?_
      refine j_bipush dd_M_weekOn_185 rfl (inRd rfl) ?_
      refine j_iadd dd_M_weekOn_187 ?_
      refine j_iload (j := 5) dd_M_weekOn_188 rfl ?_
      refine j_iadd dd_M_weekOn_190 ?_
      refine ld_21 dd_M_weekOn_191 h.1 ?_
      have h := h.2
      refine j_isub dd_M_weekOn_192 ?_
      refine j_topI (fun a1 ea1 => ?_)
      have h := h a1 ea1
      refine j_istore (j := 4) dd_M_weekOn_193 (by decide) rfl ?_
      refine j_aload_n (j := 0) dd_M_weekOn_195 rfl rfl ?_
      refine gf_20_0 dd_M_weekOn_196 wd_848 ?_
      refine j_iload_n (j := 1) dd_M_weekOn_199 rfl rfl ?_
      refine j_bipush dd_M_weekOn_200 rfl (inRd rfl) ?_
      refine j_iadd dd_M_weekOn_202 ?_
      refine j_iload (j := 5) dd_M_weekOn_203 rfl ?_
      refine j_iadd dd_M_weekOn_205 ?_
      refine j_iconst dd_M_weekOn_206 (inRd rfl) ?_
      refine st_21 dd_M_weekOn_207 h.1 (fun M2 eM2 => ?_)
      have h := h.2
      have h := h M2 eM2
      refine j_iincN dd_M_weekOn_208 rfl rfl (fun a3 ea3 => ?_)
      have h := h a3 ea3
      refine j_goto (tgt := 159) dd_M_weekOn_211 (by decide) ?_
      exact j_jump h (jsub_c rfl (jsub_c rfl (jsub_c rfl (jsub_c rfl jsub_0))))
theorem vc_M_weekOn_214 {E : EE} {Q : Int → JM → Prop} (x1 : Int) (M : JM) (h : (0 ≤ w32 (x1 + 43) ∧ w32 (x1 + 43) < 264) ∧ (0 ≤ w32 (x1 + 43) ∧ w32 (x1 + 43) < 264) ∧ ∀ M1 : JM, M1 = pt M 21 0 ((w32 (x1 + 43)).toNat) (w32 (M 21 0 ((w32 (x1 + 43)).toNat) + 1)) → Q 0 M1) : JG E mm_M_weekOn Q 214 [(0, vR 20 0), (1, vI x1)] [] M := by
  refine j_aload_n (j := 0) dd_M_weekOn_214 rfl rfl ?_
  refine gf_20_0 dd_M_weekOn_215 wd_848 ?_
  refine j_iload_n (j := 1) dd_M_weekOn_218 rfl rfl ?_
  refine j_bipush dd_M_weekOn_219 rfl (inRd rfl) ?_
  refine j_iadd dd_M_weekOn_221 ?_
  refine j_dup2 dd_M_weekOn_222 rfl rfl ?_
  refine ld_21 dd_M_weekOn_223 h.1 ?_
  have h := h.2
  refine j_iconst dd_M_weekOn_224 (inRd rfl) ?_
  refine j_iadd dd_M_weekOn_225 ?_
  refine st_21 dd_M_weekOn_226 h.1 (fun M1 eM1 => ?_)
  have h := h.2
  have h := h M1 eM1
  exact j_vret dd_M_weekOn_227 rfl h
theorem vc_M_goesOn {E : EE} {Q : Int → JM → Prop} (x1 : Int) (M : JM) (h : (0 ≤ w32 (x1 + 41) ∧ w32 (x1 + 41) < 264) ∧ JC E mm_M_weekOn [vR 20 0, vI x1, vI (w32 (M 21 0 ((w32 (x1 + 41)).toNat) + 2)), vI 0] M (fun a2 M1 => Q 0 M1)) : JC E mm_M_goesOn [vR 20 0, vI x1] M Q := by
  refine j_entry (L0 := [(0, vR 20 0), (1, vI x1)]) pn_M (Nat.le_of_ble_eq_true rfl) rfl ?_
  refine j_aload_n (j := 0) dd_M_goesOn_0 rfl rfl ?_
  refine j_iload_n (j := 1) dd_M_goesOn_1 rfl rfl ?_
  refine j_aload_n (j := 0) dd_M_goesOn_2 rfl rfl ?_
  refine gf_20_0 dd_M_goesOn_3 wd_848 ?_
  refine j_iload_n (j := 1) dd_M_goesOn_6 rfl rfl ?_
  refine j_bipush dd_M_goesOn_7 rfl (inRd rfl) ?_
  refine j_iadd dd_M_goesOn_9 ?_
  refine ld_21 dd_M_goesOn_10 h.1 ?_
  have h := h.2
  refine j_iconst dd_M_goesOn_11 (inRd rfl) ?_
  refine j_iadd dd_M_goesOn_12 ?_
  refine j_iconst dd_M_goesOn_13 (inRd rfl) ?_
  refine j_cVV (mm' := mm_M_weekOn) (t := 20) (i := 0) (As := [vI x1, vI (w32 (M 21 0 ((w32 (x1 + 41)).toNat) + 2)), vI 0]) (rest := []) h dd_M_goesOn_14 (ws5 wd_1091 wd_1093 wd_54 wd_70 wd_1094) nk_M_weekOn (rok rfl) (by unfold isW; omega) ⟨_, ce_20 _⟩ rfl (Nat.le_of_ble_eq_true rfl) (fun _ => rfl) (fun a2 M1 h => ?_)
  exact j_vret dd_M_goesOn_17 rfl h
theorem vc_M_storeOn {E : EE} {Q : Int → JM → Prop} (x1 : Int) (M : JM) (h : JG E mm_M_storeOn Q 4 [(0, vR 20 0), (1, vI x1), (2, vI 0), (3, vI 0)] [] M) : JC E mm_M_storeOn [vR 20 0, vI x1] M Q := by
  refine j_entry (L0 := [(0, vR 20 0), (1, vI x1)]) pn_M (Nat.le_of_ble_eq_true rfl) rfl ?_
  refine j_iconst dd_M_storeOn_0 (inRd rfl) ?_
  refine j_istore_n (j := 2) dd_M_storeOn_1 rfl (by decide) rfl ?_
  refine j_iconst dd_M_storeOn_2 (inRd rfl) ?_
  refine j_istore_n (j := 3) dd_M_storeOn_3 rfl (by decide) rfl ?_
  exact j_jump h (jsub_c rfl (jsub_c rfl (jsub_c rfl (jsub_c rfl jsub_0))))
theorem vc_M_storeOn_4 {E : EE} {Q : Int → JM → Prop} (x1 : Int) (l2 : Int) (l3 : Int) (M : JM) (h : (0 ≤ w32 (x1 + 32) ∧ w32 (x1 + 32) < 264) ∧ ((M 21 0 ((w32 (x1 + 32)).toNat) ≤ l3 → Q l2 M) ∧ (l3 < M 21 0 ((w32 (x1 + 32)).toNat) → (0 ≤ w32 (w32 (x1 + 24) + l3) ∧ w32 (w32 (x1 + 24) + l3) < 264) ∧ ((M 21 0 ((w32 (w32 (x1 + 24) + l3)).toNat) ≠ 0 → JG E mm_M_storeOn Q 39 [(0, vR 20 0), (1, vI x1), (3, vI l3)] [vI 0, vI l2] M) ∧ (M 21 0 ((w32 (w32 (x1 + 24) + l3)).toNat) = 0 → JG E mm_M_storeOn Q 39 [(0, vR 20 0), (1, vI x1), (3, vI l3)] [vI (shl32 1 l3), vI l2] M))))) : JG E mm_M_storeOn Q 4 [(0, vR 20 0), (1, vI x1), (2, vI l2), (3, vI l3)] [] M := by
  refine j_iload_n (j := 3) dd_M_storeOn_4 rfl rfl ?_
  refine j_aload_n (j := 0) dd_M_storeOn_5 rfl rfl ?_
  refine gf_20_0 dd_M_storeOn_6 wd_848 ?_
  refine j_iload_n (j := 1) dd_M_storeOn_9 rfl rfl ?_
  refine j_bipush dd_M_storeOn_10 rfl (inRd rfl) ?_
  refine j_iadd dd_M_storeOn_12 ?_
  refine ld_21 dd_M_storeOn_13 h.1 ?_
  have h := h.2
  refine j_icmp_ge (tgt := 47) dd_M_storeOn_14 (by decide) (fun c => ?_) (fun c => ?_)
  · have h := h.1 c
    refine j_iload_n (j := 2) dd_M_storeOn_47 rfl rfl ?_
    exact j_iret dd_M_storeOn_48 rfl h
  · have h := h.2 c
    refine j_iload_n (j := 2) dd_M_storeOn_17 rfl rfl ?_
    refine j_aload_n (j := 0) dd_M_storeOn_18 rfl rfl ?_
    refine gf_20_0 dd_M_storeOn_19 wd_848 ?_
    refine j_iload_n (j := 1) dd_M_storeOn_22 rfl rfl ?_
    refine j_bipush dd_M_storeOn_23 rfl (inRd rfl) ?_
    refine j_iadd dd_M_storeOn_25 ?_
    refine j_iload_n (j := 3) dd_M_storeOn_26 rfl rfl ?_
    refine j_iadd dd_M_storeOn_27 ?_
    refine ld_21 dd_M_storeOn_28 h.1 ?_
    have h := h.2
    refine j_if_ne (tgt := 38) dd_M_storeOn_29 (by decide) (fun c => ?_) (fun c => ?_)
    · have h := h.1 c
      refine j_iconst dd_M_storeOn_38 (inRd rfl) ?_
      exact j_jump h (jsub_c rfl (jsub_c rfl (jsub_c rfl jsub_0)))
    · have h := h.2 c
      refine j_iconst dd_M_storeOn_32 (inRd rfl) ?_
      refine j_iload_n (j := 3) dd_M_storeOn_33 rfl rfl ?_
      refine j_ishl dd_M_storeOn_34 ?_
      refine j_goto (tgt := 39) dd_M_storeOn_35 (by decide) ?_
      exact j_jump h (jsub_c rfl (jsub_c rfl (jsub_c rfl jsub_0)))
theorem vc_M_storeOn_39 {E : EE} {Q : Int → JM → Prop} (x1 : Int) (l3 : Int) (s0 : Int) (s1 : Int) (M : JM) (h : ∀ a1 : Int, a1 = or32 s0 s1 → ∀ a2 : Int, a2 = w32 (l3 + 1) → JG E mm_M_storeOn Q 4 [(0, vR 20 0), (1, vI x1), (2, vI a1), (3, vI a2)] [] M) : JG E mm_M_storeOn Q 39 [(0, vR 20 0), (1, vI x1), (3, vI l3)] [vI s1, vI s0] M := by
  refine j_ior dd_M_storeOn_39 ?_
  refine j_topI (fun a1 ea1 => ?_)
  have h := h a1 ea1
  refine j_istore_n (j := 2) dd_M_storeOn_40 rfl (by decide) rfl ?_
  refine j_iincN dd_M_storeOn_41 rfl rfl (fun a2 ea2 => ?_)
  have h := h a2 ea2
  refine j_goto (tgt := 4) dd_M_storeOn_44 (by decide) ?_
  exact j_jump h (jsub_c rfl (jsub_c rfl (jsub_c rfl (jsub_c rfl jsub_0))))
theorem vc_M_wagesOn {E : EE} {Q : Int → JM → Prop} (x1 : Int) (M : JM) (h : JG E mm_M_wagesOn Q 4 [(0, vR 20 0), (1, vI x1), (2, vI 0), (3, vI 0)] [] M) : JC E mm_M_wagesOn [vR 20 0, vI x1] M Q := by
  refine j_entry (L0 := [(0, vR 20 0), (1, vI x1)]) pn_M (Nat.le_of_ble_eq_true rfl) rfl ?_
  refine j_iconst dd_M_wagesOn_0 (inRd rfl) ?_
  refine j_istore_n (j := 2) dd_M_wagesOn_1 rfl (by decide) rfl ?_
  refine j_iconst dd_M_wagesOn_2 (inRd rfl) ?_
  refine j_istore_n (j := 3) dd_M_wagesOn_3 rfl (by decide) rfl ?_
  exact j_jump h (jsub_c rfl (jsub_c rfl (jsub_c rfl (jsub_c rfl jsub_0))))
theorem vc_M_wagesOn_4 {E : EE} {Q : Int → JM → Prop} (x1 : Int) (l2 : Int) (l3 : Int) (M : JM) (h : ((M 20 0 1 ≤ l3 → Q l2 M) ∧ (l3 < M 20 0 1 → (0 ≤ w32 (w32 (x1 + 37) + l3) ∧ w32 (w32 (x1 + 37) + l3) < 264) ∧ ∀ a1 : Int, a1 = w32 (l2 + (M 21 0 ((w32 (w32 (x1 + 37) + l3)).toNat))) → ∀ a2 : Int, a2 = w32 (l3 + 1) → JG E mm_M_wagesOn Q 4 [(0, vR 20 0), (1, vI x1), (2, vI a1), (3, vI a2)] [] M))) : JG E mm_M_wagesOn Q 4 [(0, vR 20 0), (1, vI x1), (2, vI l2), (3, vI l3)] [] M := by
  refine j_iload_n (j := 3) dd_M_wagesOn_4 rfl rfl ?_
  refine j_aload_n (j := 0) dd_M_wagesOn_5 rfl rfl ?_
  refine gf_20_1 dd_M_wagesOn_6 wd_849 ?_
  refine j_icmp_ge (tgt := 32) dd_M_wagesOn_9 (by decide) (fun c => ?_) (fun c => ?_)
  · have h := h.1 c
    refine j_iload_n (j := 2) dd_M_wagesOn_32 rfl rfl ?_
    exact j_iret dd_M_wagesOn_33 rfl h
  · have h := h.2 c
    refine j_iload_n (j := 2) dd_M_wagesOn_12 rfl rfl ?_
    refine j_aload_n (j := 0) dd_M_wagesOn_13 rfl rfl ?_
    refine gf_20_0 dd_M_wagesOn_14 wd_848 ?_
    refine j_iload_n (j := 1) dd_M_wagesOn_17 rfl rfl ?_
    refine j_bipush dd_M_wagesOn_18 rfl (inRd rfl) ?_
    refine j_iadd dd_M_wagesOn_20 ?_
    refine j_iload_n (j := 3) dd_M_wagesOn_21 rfl rfl ?_
    refine j_iadd dd_M_wagesOn_22 ?_
    refine ld_21 dd_M_wagesOn_23 h.1 ?_
    have h := h.2
    refine j_iadd dd_M_wagesOn_24 ?_
    refine j_topI (fun a1 ea1 => ?_)
    have h := h a1 ea1
    refine j_istore_n (j := 2) dd_M_wagesOn_25 rfl (by decide) rfl ?_
    refine j_iincN dd_M_wagesOn_26 rfl rfl (fun a2 ea2 => ?_)
    have h := h a2 ea2
    refine j_goto (tgt := 4) dd_M_wagesOn_29 (by decide) ?_
    exact j_jump h (jsub_c rfl (jsub_c rfl (jsub_c rfl (jsub_c rfl jsub_0))))
theorem vc_M_leastOn {E : EE} {Q : Int → JM → Prop} (x1 : Int) (M : JM) (h : ((M 20 0 1 ≠ 0 → JG E mm_M_leastOn Q 17 [(0, vR 20 0), (1, vI x1), (2, vI 999), (3, vI 0)] [] M) ∧ (M 20 0 1 = 0 → JG E mm_M_leastOn Q 17 [(0, vR 20 0), (1, vI x1), (2, vI 0), (3, vI 0)] [] M))) : JC E mm_M_leastOn [vR 20 0, vI x1] M Q := by
  refine j_entry (L0 := [(0, vR 20 0), (1, vI x1)]) pn_M (Nat.le_of_ble_eq_true rfl) rfl ?_
  refine j_aload_n (j := 0) dd_M_leastOn_0 rfl rfl ?_
  refine gf_20_1 dd_M_leastOn_1 wd_849 ?_
  refine j_if_ne (tgt := 11) dd_M_leastOn_4 (by decide) (fun c => ?_) (fun c => ?_)
  · have h := h.1 c
    refine j_sipush dd_M_leastOn_11 rfl (inRd rfl) ?_
    refine j_istore_n (j := 2) dd_M_leastOn_14 rfl (by decide) rfl ?_
    refine j_iconst dd_M_leastOn_15 (inRd rfl) ?_
    refine j_istore_n (j := 3) dd_M_leastOn_16 rfl (by decide) rfl ?_
    exact j_jump h (jsub_c rfl (jsub_c rfl (jsub_c rfl (jsub_c rfl jsub_0))))
  · have h := h.2 c
    refine j_iconst dd_M_leastOn_7 (inRd rfl) ?_
    refine j_goto (tgt := 14) dd_M_leastOn_8 (by decide) ?_
    refine j_istore_n (j := 2) dd_M_leastOn_14 rfl (by decide) rfl ?_
    refine j_iconst dd_M_leastOn_15 (inRd rfl) ?_
    refine j_istore_n (j := 3) dd_M_leastOn_16 rfl (by decide) rfl ?_
    exact j_jump h (jsub_c rfl (jsub_c rfl (jsub_c rfl (jsub_c rfl jsub_0))))
theorem vc_M_leastOn_17 {E : EE} {Q : Int → JM → Prop} (x1 : Int) (l2 : Int) (l3 : Int) (M : JM) (h : ((M 20 0 1 ≤ l3 → Q l2 M) ∧ (l3 < M 20 0 1 → (0 ≤ w32 (w32 (x1 + 37) + l3) ∧ w32 (w32 (x1 + 37) + l3) < 264) ∧ ((l2 ≤ M 21 0 ((w32 (w32 (x1 + 37) + l3)).toNat) → ∀ a1 : Int, a1 = w32 (l3 + 1) → JG E mm_M_leastOn Q 17 [(0, vR 20 0), (1, vI x1), (2, vI l2), (3, vI a1)] [] M) ∧ (M 21 0 ((w32 (w32 (x1 + 37) + l3)).toNat) < l2 → (0 ≤ w32 (w32 (x1 + 37) + l3) ∧ w32 (w32 (x1 + 37) + l3) < 264) ∧ ∀ a2 : Int, a2 = M 21 0 ((w32 (w32 (x1 + 37) + l3)).toNat) → ∀ a3 : Int, a3 = w32 (l3 + 1) → JG E mm_M_leastOn Q 17 [(0, vR 20 0), (1, vI x1), (2, vI a2), (3, vI a3)] [] M))))) : JG E mm_M_leastOn Q 17 [(0, vR 20 0), (1, vI x1), (2, vI l2), (3, vI l3)] [] M := by
  refine j_iload_n (j := 3) dd_M_leastOn_17 rfl rfl ?_
  refine j_aload_n (j := 0) dd_M_leastOn_18 rfl rfl ?_
  refine gf_20_1 dd_M_leastOn_19 wd_849 ?_
  refine j_icmp_ge (tgt := 62) dd_M_leastOn_22 (by decide) (fun c => ?_) (fun c => ?_)
  · have h := h.1 c
    refine j_iload_n (j := 2) dd_M_leastOn_62 rfl rfl ?_
    exact j_iret dd_M_leastOn_63 rfl h
  · have h := h.2 c
    refine j_aload_n (j := 0) dd_M_leastOn_25 rfl rfl ?_
    refine gf_20_0 dd_M_leastOn_26 wd_848 ?_
    refine j_iload_n (j := 1) dd_M_leastOn_29 rfl rfl ?_
    refine j_bipush dd_M_leastOn_30 rfl (inRd rfl) ?_
    refine j_iadd dd_M_leastOn_32 ?_
    refine j_iload_n (j := 3) dd_M_leastOn_33 rfl rfl ?_
    refine j_iadd dd_M_leastOn_34 ?_
    refine ld_21 dd_M_leastOn_35 h.1 ?_
    have h := h.2
    refine j_iload_n (j := 2) dd_M_leastOn_36 rfl rfl ?_
    refine j_icmp_ge (tgt := 54) dd_M_leastOn_37 (by decide) (fun c => ?_) (fun c => ?_)
    · have h := h.1 c
      refine j_iload_n (j := 2) dd_M_leastOn_54 rfl rfl ?_
      refine j_istore_n (j := 2) dd_M_leastOn_55 rfl (by decide) rfl ?_
      refine j_iincN dd_M_leastOn_56 rfl rfl (fun a1 ea1 => ?_)
      have h := h a1 ea1
      refine j_goto (tgt := 17) dd_M_leastOn_59 (by decide) ?_
      exact j_jump h (jsub_c rfl (jsub_c rfl (jsub_c rfl (jsub_c rfl jsub_0))))
    · have h := h.2 c
      refine j_aload_n (j := 0) dd_M_leastOn_40 rfl rfl ?_
      refine gf_20_0 dd_M_leastOn_41 wd_848 ?_
      refine j_iload_n (j := 1) dd_M_leastOn_44 rfl rfl ?_
      refine j_bipush dd_M_leastOn_45 rfl (inRd rfl) ?_
      refine j_iadd dd_M_leastOn_47 ?_
      refine j_iload_n (j := 3) dd_M_leastOn_48 rfl rfl ?_
      refine j_iadd dd_M_leastOn_49 ?_
      refine ld_21 dd_M_leastOn_50 h.1 ?_
      have h := h.2
      refine j_goto (tgt := 55) dd_M_leastOn_51 (by decide) ?_
      refine j_topI (fun a2 ea2 => ?_)
      have h := h a2 ea2
      refine j_istore_n (j := 2) dd_M_leastOn_55 rfl (by decide) rfl ?_
      refine j_iincN dd_M_leastOn_56 rfl rfl (fun a3 ea3 => ?_)
      have h := h a3 ea3
      refine j_goto (tgt := 17) dd_M_leastOn_59 (by decide) ?_
      exact j_jump h (jsub_c rfl (jsub_c rfl (jsub_c rfl (jsub_c rfl jsub_0))))
theorem vc_M_rule {E : EE} {Q : Int → JM → Prop} (x1 : Int) (M : JM) (h : (((x1 < 0 ∨ 6 < x1) → Q (-1) M) ∧ (x1 = 0 → Q (M 21 0 32) M) ∧ (x1 = 1 → Q (M 20 0 1) M) ∧ (x1 = 2 → Q (M 21 0 43) M) ∧ (x1 = 3 → Q (w32 (M 21 0 41 + 2)) M) ∧ (x1 = 4 → Q (w32 (M 21 0 42 + 2)) M) ∧ (x1 = 5 → JC E mm_M_storeOn [vR 20 0, vI 0] M (fun a2 M1 => Q a2 M1)) ∧ (x1 = 6 → JC E mm_M_wagesOn [vR 20 0, vI 0] M (fun a4 M3 => Q a4 M3)))) : JC E mm_M_rule [vR 20 0, vI x1] M Q := by
  refine j_entry (L0 := [(0, vR 20 0), (1, vI x1)]) pn_M (Nat.le_of_ble_eq_true rfl) rfl ?_
  refine j_iload_n (j := 1) dd_M_rule_0 rfl rfl ?_
  have hc : (x1 < 0 ∨ 6 < x1) ∨ x1 = 0 ∨ x1 = 1 ∨ x1 = 2 ∨ x1 = 3 ∨ x1 = 4 ∨ x1 = 5 ∨ x1 = 6 := by omega
  rcases hc with hc | hc | hc | hc | hc | hc | hc | hc
  · have h := h.1 hc
    refine j_tabOut (tgt := 97) dd_M_rule_1 hc (by decide) ?_
    refine j_iconst dd_M_rule_97 (inRd rfl) ?_
    exact j_iret dd_M_rule_98 rfl h
  · have h := h.2.1 hc
    refine j_tabIn (tgt := 44) (off := 43) dd_M_rule_1 (by omega) (by omega) (by rw [hc]; rfl) (by decide) ?_
    refine j_aload_n (j := 0) dd_M_rule_44 rfl rfl ?_
    refine gf_20_0 dd_M_rule_45 wd_848 ?_
    refine j_bipush dd_M_rule_48 rfl (inRd rfl) ?_
    refine ld_21 dd_M_rule_50 ⟨by decide, by decide⟩ ?_
    exact j_iret dd_M_rule_51 rfl h
  · have h := h.2.2.1 hc
    refine j_tabIn (tgt := 52) (off := 51) dd_M_rule_1 (by omega) (by omega) (by rw [hc]; rfl) (by decide) ?_
    refine j_aload_n (j := 0) dd_M_rule_52 rfl rfl ?_
    refine gf_20_1 dd_M_rule_53 wd_849 ?_
    exact j_iret dd_M_rule_56 rfl h
  · have h := h.2.2.2.1 hc
    refine j_tabIn (tgt := 57) (off := 56) dd_M_rule_1 (by omega) (by omega) (by rw [hc]; rfl) (by decide) ?_
    refine j_aload_n (j := 0) dd_M_rule_57 rfl rfl ?_
    refine gf_20_0 dd_M_rule_58 wd_848 ?_
    refine j_bipush dd_M_rule_61 rfl (inRd rfl) ?_
    refine ld_21 dd_M_rule_63 ⟨by decide, by decide⟩ ?_
    exact j_iret dd_M_rule_64 rfl h
  · have h := h.2.2.2.2.1 hc
    refine j_tabIn (tgt := 65) (off := 64) dd_M_rule_1 (by omega) (by omega) (by rw [hc]; rfl) (by decide) ?_
    refine j_aload_n (j := 0) dd_M_rule_65 rfl rfl ?_
    refine gf_20_0 dd_M_rule_66 wd_848 ?_
    refine j_bipush dd_M_rule_69 rfl (inRd rfl) ?_
    refine ld_21 dd_M_rule_71 ⟨by decide, by decide⟩ ?_
    refine j_iconst dd_M_rule_72 (inRd rfl) ?_
    refine j_iadd dd_M_rule_73 ?_
    exact j_iret dd_M_rule_74 rfl h
  · have h := h.2.2.2.2.2.1 hc
    refine j_tabIn (tgt := 75) (off := 74) dd_M_rule_1 (by omega) (by omega) (by rw [hc]; rfl) (by decide) ?_
    refine j_aload_n (j := 0) dd_M_rule_75 rfl rfl ?_
    refine gf_20_0 dd_M_rule_76 wd_848 ?_
    refine j_bipush dd_M_rule_79 rfl (inRd rfl) ?_
    refine ld_21 dd_M_rule_81 ⟨by decide, by decide⟩ ?_
    refine j_iconst dd_M_rule_82 (inRd rfl) ?_
    refine j_iadd dd_M_rule_83 ?_
    exact j_iret dd_M_rule_84 rfl h
  · have h := h.2.2.2.2.2.2.1 hc
    refine j_tabIn (tgt := 85) (off := 84) dd_M_rule_1 (by omega) (by omega) (by rw [hc]; rfl) (by decide) ?_
    refine j_aload_n (j := 0) dd_M_rule_85 rfl rfl ?_
    refine j_iconst dd_M_rule_86 (inRd rfl) ?_
    refine j_cVI (mm' := mm_M_storeOn) (t := 20) (i := 0) (As := [vI 0]) (rest := []) h dd_M_rule_87 (ws5 wd_993 wd_995 wd_41 wd_70 wd_996) nk_M_storeOn (rok rfl) (by unfold isW; omega) ⟨_, ce_20 _⟩ rfl (Nat.le_of_ble_eq_true rfl) (fun _ => rfl) (fun a2 M1 h => ?_)
    exact j_iret dd_M_rule_90 rfl h
  · have h := h.2.2.2.2.2.2.2 hc
    refine j_tabIn (tgt := 91) (off := 90) dd_M_rule_1 (by omega) (by omega) (by rw [hc]; rfl) (by decide) ?_
    refine j_aload_n (j := 0) dd_M_rule_91 rfl rfl ?_
    refine j_iconst dd_M_rule_92 (inRd rfl) ?_
    refine j_cVI (mm' := mm_M_wagesOn) (t := 20) (i := 0) (As := [vI 0]) (rest := []) h dd_M_rule_93 (ws5 wd_997 wd_999 wd_42 wd_70 wd_1000) nk_M_wagesOn (rok rfl) (by unfold isW; omega) ⟨_, ce_20 _⟩ rfl (Nat.le_of_ble_eq_true rfl) (fun _ => rfl) (fun a4 M3 h => ?_)
    exact j_iret dd_M_rule_96 rfl h
theorem vc_M_good {E : EE} {Q : Int → JM → Prop} (x1 : Int) (x2 : Int) (M : JM) (h : JC E mm_M_isGoods [vR 20 0, vI x1] M (fun a2 M1 => ((a2 = 0 → Q (-1) M1) ∧ (a2 ≠ 0 → JC E mm_M_in [vL x2, vL 0, vL 5] M1 (fun a4 M3 => ((a4 ≠ 0 → ((4 ≤ x2 → ((x2 ≠ 4 → JC E mm_M_paysOn [vR 20 0, vI 0, vI x1] M3 (fun a6 M5 => Q a6 M5)) ∧ (x2 = 4 → JC E mm_M_heftOn [vR 20 0, vI 0, vI x1] M3 (fun a8 M7 => Q a8 M7)))) ∧ (x2 < 4 → (0 ≤ w32 (w32 (8 * x2) + x1) ∧ w32 (w32 (8 * x2) + x1) < 264) ∧ Q (M3 21 0 ((w32 (w32 (8 * x2) + x1)).toNat)) M3))) ∧ (a4 = 0 → Q (-1) M3))))))) : JC E mm_M_good [vR 20 0, vI x1, vI x2] M Q := by
  refine j_entry (L0 := [(0, vR 20 0), (1, vI x1), (2, vI x2)]) pn_M (Nat.le_of_ble_eq_true rfl) rfl ?_
  refine j_aload_n (j := 0) dd_M_good_0 rfl rfl ?_
  refine j_iload_n (j := 1) dd_M_good_1 rfl rfl ?_
  refine j_cVI (mm' := mm_M_isGoods) (t := 20) (i := 0) (As := [vI x1]) (rest := []) h dd_M_good_2 (ws5 wd_1005 wd_1007 wd_43 wd_70 wd_1008) nk_M_isGoods (rok rfl) (by unfold isW; omega) ⟨_, ce_20 _⟩ rfl (Nat.le_of_ble_eq_true rfl) (fun _ => rfl) (fun a2 M1 h => ?_)
  refine j_if_eq (tgt := 20) dd_M_good_5 (by decide) (fun c => ?_) (fun c => ?_)
  · have h := h.1 c
    refine j_iconst dd_M_good_20 (inRd rfl) ?_
    exact j_iret dd_M_good_21 rfl h
  · have h := h.2 c
    refine j_iload_n (j := 2) dd_M_good_8 rfl rfl ?_
    refine j_i2l dd_M_good_9 ?_
    refine j_lconst (x := 0) dd_M_good_10 rfl (inLd rfl) ?_
    refine j_ldc2 (x := 5) dd_M_good_11 wd_1009 rfl (inLd rfl) ?_
    refine j_cSI (mm' := mm_M_in) (As := [vL x2, vL 0, vL 5]) (rest := []) h dd_M_good_14 (ws4 wd_941 wd_942 wd_70 wd_943) nk_M_in (rok rfl) (Nat.le_of_ble_eq_true rfl) (fun _ => rfl) (fun a4 M3 h => ?_)
    refine j_if_ne (tgt := 22) dd_M_good_17 (by decide) (fun c => ?_) (fun c => ?_)
    · have h := h.1 c
      refine j_iload_n (j := 2) dd_M_good_22 rfl rfl ?_
      refine j_iconst dd_M_good_23 (inRd rfl) ?_
      refine j_icmp_ge (tgt := 41) dd_M_good_24 (by decide) (fun c => ?_) (fun c => ?_)
      · have h := h.1 c
        refine j_iload_n (j := 2) dd_M_good_41 rfl rfl ?_
        refine j_iconst dd_M_good_42 (inRd rfl) ?_
        refine j_icmp_ne (tgt := 55) dd_M_good_43 (by decide) (fun c => ?_) (fun c => ?_)
        · have h := h.1 c
          refine j_aload_n (j := 0) dd_M_good_55 rfl rfl ?_
          refine j_iconst dd_M_good_56 (inRd rfl) ?_
          refine j_iload_n (j := 1) dd_M_good_57 rfl rfl ?_
          refine j_cVI (mm' := mm_M_paysOn) (t := 20) (i := 0) (As := [vI 0, vI x1]) (rest := []) h dd_M_good_58 (ws5 wd_1014 wd_1016 wd_45 wd_70 wd_1017) nk_M_paysOn (rok rfl) (by unfold isW; omega) ⟨_, ce_20 _⟩ rfl (Nat.le_of_ble_eq_true rfl) (fun _ => rfl) (fun a6 M5 h => ?_)
          exact j_iret dd_M_good_61 rfl h
        · have h := h.2 c
          refine j_aload_n (j := 0) dd_M_good_46 rfl rfl ?_
          refine j_iconst dd_M_good_47 (inRd rfl) ?_
          refine j_iload_n (j := 1) dd_M_good_48 rfl rfl ?_
          refine j_cVI (mm' := mm_M_heftOn) (t := 20) (i := 0) (As := [vI 0, vI x1]) (rest := []) h dd_M_good_49 (ws5 wd_1010 wd_1012 wd_44 wd_70 wd_1013) nk_M_heftOn (rok rfl) (by unfold isW; omega) ⟨_, ce_20 _⟩ rfl (Nat.le_of_ble_eq_true rfl) (fun _ => rfl) (fun a8 M7 h => ?_)
          refine j_goto (tgt := 61) dd_M_good_52 (by decide) ?_
          exact j_iret dd_M_good_61 rfl h
      · have h := h.2 c
        refine j_aload_n (j := 0) dd_M_good_27 rfl rfl ?_
        refine gf_20_0 dd_M_good_28 wd_848 ?_
        refine j_bipush dd_M_good_31 rfl (inRd rfl) ?_
        refine j_iload_n (j := 2) dd_M_good_33 rfl rfl ?_
        refine j_imul dd_M_good_34 ?_
        refine j_iload_n (j := 1) dd_M_good_35 rfl rfl ?_
        refine j_iadd dd_M_good_36 ?_
        refine ld_21 dd_M_good_37 h.1 ?_
        have h := h.2
        refine j_goto (tgt := 61) dd_M_good_38 (by decide) ?_
        exact j_iret dd_M_good_61 rfl h
    · have h := h.2 c
      refine j_iconst dd_M_good_20 (inRd rfl) ?_
      exact j_iret dd_M_good_21 rfl h
theorem vc_M_copies {E : EE} {Q : Int → JM → Prop} (x1 : Int) (x2 : Int) (M : JM) (h : JG E mm_M_copies Q 2 [(0, vR 20 0), (1, vI x1), (2, vI x2), (3, vI 0)] [] M) : JC E mm_M_copies [vR 20 0, vI x1, vI x2] M Q := by
  refine j_entry (L0 := [(0, vR 20 0), (1, vI x1), (2, vI x2)]) pn_M (Nat.le_of_ble_eq_true rfl) rfl ?_
  refine j_iconst dd_M_copies_0 (inRd rfl) ?_
  refine j_istore_n (j := 3) dd_M_copies_1 rfl (by decide) rfl ?_
  exact j_jump h (jsub_c rfl (jsub_c rfl (jsub_c rfl (jsub_c rfl jsub_0))))
theorem vc_M_copies_2 {E : EE} {Q : Int → JM → Prop} (x1 : Int) (x2 : Int) (l3 : Int) (M : JM) (h : ((44 ≤ l3 → Q 0 M) ∧ (l3 < 44 → (0 ≤ w32 (x1 + l3) ∧ w32 (x1 + l3) < 264) ∧ (0 ≤ w32 (x2 + l3) ∧ w32 (x2 + l3) < 264) ∧ ∀ M1 : JM, M1 = pt M 21 0 ((w32 (x2 + l3)).toNat) (M 21 0 ((w32 (x1 + l3)).toNat)) → ∀ a2 : Int, a2 = w32 (l3 + 1) → JG E mm_M_copies Q 2 [(0, vR 20 0), (1, vI x1), (2, vI x2), (3, vI a2)] [] M1))) : JG E mm_M_copies Q 2 [(0, vR 20 0), (1, vI x1), (2, vI x2), (3, vI l3)] [] M := by
  refine j_iload_n (j := 3) dd_M_copies_2 rfl rfl ?_
  refine j_bipush dd_M_copies_3 rfl (inRd rfl) ?_
  refine j_icmp_ge (tgt := 30) dd_M_copies_5 (by decide) (fun c => ?_) (fun c => ?_)
  · have h := h.1 c
    exact j_vret dd_M_copies_30 rfl h
  · have h := h.2 c
    refine j_aload_n (j := 0) dd_M_copies_8 rfl rfl ?_
    refine gf_20_0 dd_M_copies_9 wd_848 ?_
    refine j_iload_n (j := 2) dd_M_copies_12 rfl rfl ?_
    refine j_iload_n (j := 3) dd_M_copies_13 rfl rfl ?_
    refine j_iadd dd_M_copies_14 ?_
    refine j_aload_n (j := 0) dd_M_copies_15 rfl rfl ?_
    refine gf_20_0 dd_M_copies_16 wd_848 ?_
    refine j_iload_n (j := 1) dd_M_copies_19 rfl rfl ?_
    refine j_iload_n (j := 3) dd_M_copies_20 rfl rfl ?_
    refine j_iadd dd_M_copies_21 ?_
    refine ld_21 dd_M_copies_22 h.1 ?_
    have h := h.2
    refine st_21 dd_M_copies_23 h.1 (fun M1 eM1 => ?_)
    have h := h.2
    have h := h M1 eM1
    refine j_iincN dd_M_copies_24 rfl rfl (fun a2 ea2 => ?_)
    have h := h a2 ea2
    refine j_goto (tgt := 2) dd_M_copies_27 (by decide) ?_
    exact j_jump h (jsub_c rfl (jsub_c rfl (jsub_c rfl (jsub_c rfl jsub_0))))
theorem vc_M_tries {E : EE} {Q : Int → JM → Prop} (x1 : Int) (M : JM) (h : JC E mm_M_copies [vR 20 0, vI x1, vI 176] M (fun a2 M1 => JC E mm_M_roundsOn [vR 20 0, vI 176, vI (w32 (M1 21 0 217 + 2)), vI 0] M1 (fun a4 M3 => Q 0 M3))) : JC E mm_M_tries [vR 20 0, vI x1] M Q := by
  refine j_entry (L0 := [(0, vR 20 0), (1, vI x1)]) pn_M (Nat.le_of_ble_eq_true rfl) rfl ?_
  refine j_aload_n (j := 0) dd_M_tries_0 rfl rfl ?_
  refine j_iload_n (j := 1) dd_M_tries_1 rfl rfl ?_
  refine j_sipush dd_M_tries_2 rfl (inRd rfl) ?_
  refine j_cVV (mm' := mm_M_copies) (t := 20) (i := 0) (As := [vI x1, vI 176]) (rest := []) h dd_M_tries_5 (ws5 wd_1031 wd_1033 wd_48 wd_70 wd_1034) nk_M_copies (rok rfl) (by unfold isW; omega) ⟨_, ce_20 _⟩ rfl (Nat.le_of_ble_eq_true rfl) (fun _ => rfl) (fun a2 M1 h => ?_)
  refine j_aload_n (j := 0) dd_M_tries_8 rfl rfl ?_
  refine j_sipush dd_M_tries_9 rfl (inRd rfl) ?_
  refine j_aload_n (j := 0) dd_M_tries_12 rfl rfl ?_
  refine gf_20_0 dd_M_tries_13 wd_848 ?_
  refine j_sipush dd_M_tries_16 rfl (inRd rfl) ?_
  refine ld_21 dd_M_tries_19 ⟨by decide, by decide⟩ ?_
  refine j_iconst dd_M_tries_20 (inRd rfl) ?_
  refine j_iadd dd_M_tries_21 ?_
  refine j_iconst dd_M_tries_22 (inRd rfl) ?_
  refine j_cVV (mm' := mm_M_roundsOn) (t := 20) (i := 0) (As := [vI 176, vI (w32 (M1 21 0 217 + 2)), vI 0]) (rest := []) h dd_M_tries_23 (ws5 wd_1035 wd_1037 wd_49 wd_70 wd_1038) nk_M_roundsOn (rok rfl) (by unfold isW; omega) ⟨_, ce_20 _⟩ rfl (Nat.le_of_ble_eq_true rfl) (fun _ => rfl) (fun a4 M3 h => ?_)
  exact j_vret dd_M_tries_26 rfl h
theorem vc_M_one {E : EE} {Q : Int → JM → Prop} (x1 : Int) (x2 : Int) (M : JM) (h : JC E mm_M_isOne [vR 20 0, vI x1] M (fun a2 M1 => ((a2 = 0 → Q (-1) M1) ∧ (a2 ≠ 0 → JC E mm_M_in [vL x2, vL 0, vL 3] M1 (fun a4 M3 => ((a4 ≠ 0 → JC E mm_M_tries [vR 20 0, vI 0] M3 (fun a6 M5 => ((2 ≤ x2 → ((x2 ≠ 2 → (0 ≤ x1 ∧ x1 < 4) ∧ Q (M5 27 0 x1.toNat) M5) ∧ (x2 = 2 → (0 ≤ x1 ∧ x1 < 4) ∧ Q (M5 26 0 x1.toNat) M5))) ∧ (x2 < 2 → (0 ≤ w32 (w32 (33 + (w32 (4 * x2))) + x1) ∧ w32 (w32 (33 + (w32 (4 * x2))) + x1) < 264) ∧ Q (M5 21 0 ((w32 (w32 (33 + (w32 (4 * x2))) + x1)).toNat)) M5)))) ∧ (a4 = 0 → Q (-1) M3))))))) : JC E mm_M_one [vR 20 0, vI x1, vI x2] M Q := by
  refine j_entry (L0 := [(0, vR 20 0), (1, vI x1), (2, vI x2)]) pn_M (Nat.le_of_ble_eq_true rfl) rfl ?_
  refine j_aload_n (j := 0) dd_M_one_0 rfl rfl ?_
  refine j_iload_n (j := 1) dd_M_one_1 rfl rfl ?_
  refine j_cVI (mm' := mm_M_isOne) (t := 20) (i := 0) (As := [vI x1]) (rest := []) h dd_M_one_2 (ws5 wd_1022 wd_1024 wd_46 wd_70 wd_1025) nk_M_isOne (rok rfl) (by unfold isW; omega) ⟨_, ce_20 _⟩ rfl (Nat.le_of_ble_eq_true rfl) (fun _ => rfl) (fun a2 M1 h => ?_)
  refine j_if_eq (tgt := 20) dd_M_one_5 (by decide) (fun c => ?_) (fun c => ?_)
  · have h := h.1 c
    refine j_iconst dd_M_one_20 (inRd rfl) ?_
    exact j_iret dd_M_one_21 rfl h
  · have h := h.2 c
    refine j_iload_n (j := 2) dd_M_one_8 rfl rfl ?_
    refine j_i2l dd_M_one_9 ?_
    refine j_lconst (x := 0) dd_M_one_10 rfl (inLd rfl) ?_
    refine j_ldc2 (x := 3) dd_M_one_11 wd_1026 rfl (inLd rfl) ?_
    refine j_cSI (mm' := mm_M_in) (As := [vL x2, vL 0, vL 3]) (rest := []) h dd_M_one_14 (ws4 wd_941 wd_942 wd_70 wd_943) nk_M_in (rok rfl) (Nat.le_of_ble_eq_true rfl) (fun _ => rfl) (fun a4 M3 h => ?_)
    refine j_if_ne (tgt := 22) dd_M_one_17 (by decide) (fun c => ?_) (fun c => ?_)
    · have h := h.1 c
      refine j_aload_n (j := 0) dd_M_one_22 rfl rfl ?_
      refine j_iconst dd_M_one_23 (inRd rfl) ?_
      refine j_cVV (mm' := mm_M_tries) (t := 20) (i := 0) (As := [vI 0]) (rest := []) h dd_M_one_24 (ws5 wd_1027 wd_1029 wd_47 wd_70 wd_1030) nk_M_tries (rok rfl) (by unfold isW; omega) ⟨_, ce_20 _⟩ rfl (Nat.le_of_ble_eq_true rfl) (fun _ => rfl) (fun a6 M5 h => ?_)
      refine j_iload_n (j := 2) dd_M_one_27 rfl rfl ?_
      refine j_iconst dd_M_one_28 (inRd rfl) ?_
      refine j_icmp_ge (tgt := 48) dd_M_one_29 (by decide) (fun c => ?_) (fun c => ?_)
      · have h := h.1 c
        refine j_iload_n (j := 2) dd_M_one_48 rfl rfl ?_
        refine j_iconst dd_M_one_49 (inRd rfl) ?_
        refine j_icmp_ne (tgt := 62) dd_M_one_50 (by decide) (fun c => ?_) (fun c => ?_)
        · have h := h.1 c
          refine j_aload_n (j := 0) dd_M_one_62 rfl rfl ?_
          refine gf_20_17 dd_M_one_63 wd_865 ?_
          refine j_iload_n (j := 1) dd_M_one_66 rfl rfl ?_
          refine ld_27 dd_M_one_67 h.1 ?_
          have h := h.2
          exact j_iret dd_M_one_68 rfl h
        · have h := h.2 c
          refine j_aload_n (j := 0) dd_M_one_53 rfl rfl ?_
          refine gf_20_16 dd_M_one_54 wd_864 ?_
          refine j_iload_n (j := 1) dd_M_one_57 rfl rfl ?_
          refine ld_26 dd_M_one_58 h.1 ?_
          have h := h.2
          refine j_goto (tgt := 68) dd_M_one_59 (by decide) ?_
          exact j_iret dd_M_one_68 rfl h
      · have h := h.2 c
        refine j_aload_n (j := 0) dd_M_one_32 rfl rfl ?_
        refine gf_20_0 dd_M_one_33 wd_848 ?_
        refine j_bipush dd_M_one_36 rfl (inRd rfl) ?_
        refine j_iconst dd_M_one_38 (inRd rfl) ?_
        refine j_iload_n (j := 2) dd_M_one_39 rfl rfl ?_
        refine j_imul dd_M_one_40 ?_
        refine j_iadd dd_M_one_41 ?_
        refine j_iload_n (j := 1) dd_M_one_42 rfl rfl ?_
        refine j_iadd dd_M_one_43 ?_
        refine ld_21 dd_M_one_44 h.1 ?_
        have h := h.2
        refine j_goto (tgt := 68) dd_M_one_45 (by decide) ?_
        exact j_iret dd_M_one_68 rfl h
    · have h := h.2 c
      refine j_iconst dd_M_one_20 (inRd rfl) ?_
      exact j_iret dd_M_one_21 rfl h
theorem vc_M_puts {E : EE} {Q : Int → JM → Prop} (x1 : Int) (x2 : Int) (x3 : Int) (x4 : Int) (M : JM) (h : ((x1 ≠ 0 → (0 ≤ x2 ∧ x2 < 264) ∧ ∀ a1 : Int, a1 = w32 (M 21 0 x2.toNat + x4) → (0 ≤ x2 ∧ x2 < 264) ∧ ∀ M2 : JM, M2 = pt M 21 0 x2.toNat (w32 (x3 - x4)) → Q a1 M2) ∧ (x1 = 0 → Q (-1) M))) : JC E mm_M_puts [vR 20 0, vI x1, vI x2, vI x3, vI x4] M Q := by
  refine j_entry (L0 := [(0, vR 20 0), (1, vI x1), (2, vI x2), (3, vI x3), (4, vI x4)]) pn_M (Nat.le_of_ble_eq_true rfl) rfl ?_
  refine j_iload_n (j := 1) dd_M_puts_0 rfl rfl ?_
  refine j_if_ne (tgt := 6) dd_M_puts_1 (by decide) (fun c => ?_) (fun c => ?_)
  · have h := h.1 c
    refine j_aload_n (j := 0) dd_M_puts_6 rfl rfl ?_
    refine gf_20_0 dd_M_puts_7 wd_848 ?_
    refine j_iload_n (j := 2) dd_M_puts_10 rfl rfl ?_
    refine ld_21 dd_M_puts_11 h.1 ?_
    have h := h.2
    refine j_iload (j := 4) dd_M_puts_12 rfl ?_
    refine j_iadd dd_M_puts_14 ?_
    refine j_topI (fun a1 ea1 => ?_)
    have h := h a1 ea1
    refine j_istore (j := 5) dd_M_puts_15 (by decide) rfl ?_
    refine j_aload_n (j := 0) dd_M_puts_17 rfl rfl ?_
    refine gf_20_0 dd_M_puts_18 wd_848 ?_
    refine j_iload_n (j := 2) dd_M_puts_21 rfl rfl ?_
    refine j_iload_n (j := 3) dd_M_puts_22 rfl rfl ?_
    refine j_iload (j := 4) dd_M_puts_23 rfl ?_
    refine j_isub dd_M_puts_25 ?_
    refine st_21 dd_M_puts_26 h.1 (fun M2 eM2 => ?_)
    have h := h.2
    have h := h M2 eM2
    refine j_iload (j := 5) dd_M_puts_27 rfl ?_
    exact j_iret dd_M_puts_29 rfl h
  · have h := h.2 c
    refine j_iconst dd_M_puts_4 (inRd rfl) ?_
    exact j_iret dd_M_puts_5 rfl h
theorem vc_M_isRight {E : EE} {Q : Int → JM → Prop} (x1 : Int) (x2 : Int) (M : JM) (h : ((x1 ≠ 0 → ((x1 ≠ 1 → ((x1 ≠ 2 → Q 0 M) ∧ (x1 = 2 → JC E mm_M_in [vL x2, vL 0, vL 9] M (fun a2 M1 => ((a2 = 0 → Q 0 M1) ∧ (a2 ≠ 0 → Q 1 M1)))))) ∧ (x1 = 1 → JC E mm_M_in [vL x2, vL 1, vL 9] M (fun a4 M3 => ((a4 = 0 ∨ a4 = 1) ∧ Q a4 M3))))) ∧ (x1 = 0 → JC E mm_M_in [vL x2, vL 0, vL 3] M (fun a6 M5 => ((a6 = 0 ∨ a6 = 1) ∧ Q a6 M5))))) : JC E mm_M_isRight [vI x1, vI x2] M Q := by
  refine j_entry (L0 := [(0, vI x1), (1, vI x2)]) pn_M (Nat.le_of_ble_eq_true rfl) rfl ?_
  refine j_iload_n (j := 0) dd_M_isRight_0 rfl rfl ?_
  refine j_if_ne (tgt := 16) dd_M_isRight_1 (by decide) (fun c => ?_) (fun c => ?_)
  · have h := h.1 c
    refine j_iload_n (j := 0) dd_M_isRight_16 rfl rfl ?_
    refine j_iconst dd_M_isRight_17 (inRd rfl) ?_
    refine j_icmp_ne (tgt := 33) dd_M_isRight_18 (by decide) (fun c => ?_) (fun c => ?_)
    · have h := h.1 c
      refine j_iload_n (j := 0) dd_M_isRight_33 rfl rfl ?_
      refine j_iconst dd_M_isRight_34 (inRd rfl) ?_
      refine j_icmp_ne (tgt := 54) dd_M_isRight_35 (by decide) (fun c => ?_) (fun c => ?_)
      · have h := h.1 c
        refine j_iconst dd_M_isRight_54 (inRd rfl) ?_
        exact j_zret dd_M_isRight_55 rfl (Or.inl rfl) h
      · have h := h.2 c
        refine j_iload_n (j := 1) dd_M_isRight_38 rfl rfl ?_
        refine j_i2l dd_M_isRight_39 ?_
        refine j_lconst (x := 0) dd_M_isRight_40 rfl (inLd rfl) ?_
        refine j_ldc2 (x := 9) dd_M_isRight_41 wd_1050 rfl (inLd rfl) ?_
        refine j_cSI (mm' := mm_M_in) (As := [vL x2, vL 0, vL 9]) (rest := []) h dd_M_isRight_44 (ws4 wd_941 wd_942 wd_70 wd_943) nk_M_in (rok rfl) (Nat.le_of_ble_eq_true rfl) (fun _ => rfl) (fun a2 M1 h => ?_)
        refine j_if_eq (tgt := 54) dd_M_isRight_47 (by decide) (fun c => ?_) (fun c => ?_)
        · have h := h.1 c
          refine j_iconst dd_M_isRight_54 (inRd rfl) ?_
          exact j_zret dd_M_isRight_55 rfl (Or.inl rfl) h
        · have h := h.2 c
          refine j_iconst dd_M_isRight_50 (inRd rfl) ?_
          refine j_goto (tgt := 55) dd_M_isRight_51 (by decide) ?_
          exact j_zret dd_M_isRight_55 rfl (Or.inr rfl) h
    · have h := h.2 c
      refine j_iload_n (j := 1) dd_M_isRight_21 rfl rfl ?_
      refine j_i2l dd_M_isRight_22 ?_
      refine j_lconst (x := 1) dd_M_isRight_23 rfl (inLd rfl) ?_
      refine j_ldc2 (x := 9) dd_M_isRight_24 wd_1050 rfl (inLd rfl) ?_
      refine j_cSI (mm' := mm_M_in) (As := [vL x2, vL 1, vL 9]) (rest := []) h dd_M_isRight_27 (ws4 wd_941 wd_942 wd_70 wd_943) nk_M_in (rok rfl) (Nat.le_of_ble_eq_true rfl) (fun _ => rfl) (fun a4 M3 h => ?_)
      refine j_goto (tgt := 55) dd_M_isRight_30 (by decide) ?_
      exact j_zret dd_M_isRight_55 rfl h.1 h.2
  · have h := h.2 c
    refine j_iload_n (j := 1) dd_M_isRight_4 rfl rfl ?_
    refine j_i2l dd_M_isRight_5 ?_
    refine j_lconst (x := 0) dd_M_isRight_6 rfl (inLd rfl) ?_
    refine j_ldc2 (x := 3) dd_M_isRight_7 wd_1026 rfl (inLd rfl) ?_
    refine j_cSI (mm' := mm_M_in) (As := [vL x2, vL 0, vL 3]) (rest := []) h dd_M_isRight_10 (ws4 wd_941 wd_942 wd_70 wd_943) nk_M_in (rok rfl) (Nat.le_of_ble_eq_true rfl) (fun _ => rfl) (fun a6 M5 h => ?_)
    refine j_goto (tgt := 55) dd_M_isRight_13 (by decide) ?_
    exact j_zret dd_M_isRight_55 rfl h.1 h.2
theorem vc_M_alter {E : EE} {Q : Int → JM → Prop} (x1 : Int) (x2 : Int) (x3 : Int) (M : JM) (h : JC E mm_M_isGoods [vR 20 0, vI x1] M (fun a2 M1 => ((a2 = 0 → JG E mm_M_alter Q 21 [(1, vI x1), (2, vI x2), (3, vI x3)] [vR 20 0] M1) ∧ (a2 ≠ 0 → JC E mm_M_isRight [vI x2, vI x3] M1 (fun a4 M3 => ((a4 = 0 → JG E mm_M_alter Q 21 [(1, vI x1), (2, vI x2), (3, vI x3)] [vR 20 0] M3) ∧ (a4 ≠ 0 → JG E mm_M_alter Q 22 [(1, vI x1), (2, vI x2), (3, vI x3)] [vI 1, vR 20 0] M3))))))) : JC E mm_M_alter [vR 20 0, vI x1, vI x2, vI x3] M Q := by
  refine j_entry (L0 := [(0, vR 20 0), (1, vI x1), (2, vI x2), (3, vI x3)]) pn_M (Nat.le_of_ble_eq_true rfl) rfl ?_
  refine j_aload_n (j := 0) dd_M_alter_0 rfl rfl ?_
  refine j_aload_n (j := 0) dd_M_alter_1 rfl rfl ?_
  refine j_iload_n (j := 1) dd_M_alter_2 rfl rfl ?_
  refine j_cVI (mm' := mm_M_isGoods) (t := 20) (i := 0) (As := [vI x1]) (rest := [vR 20 0]) h dd_M_alter_3 (ws5 wd_1005 wd_1007 wd_43 wd_70 wd_1008) nk_M_isGoods (rok rfl) (by unfold isW; omega) ⟨_, ce_20 _⟩ rfl (Nat.le_of_ble_eq_true rfl) (fun _ => rfl) (fun a2 M1 h => ?_)
  refine j_if_eq (tgt := 21) dd_M_alter_6 (by decide) (fun c => ?_) (fun c => ?_)
  · have h := h.1 c
    exact j_jump h (jsub_c rfl (jsub_c rfl (jsub_c rfl jsub_0)))
  · have h := h.2 c
    refine j_iload_n (j := 2) dd_M_alter_9 rfl rfl ?_
    refine j_iload_n (j := 3) dd_M_alter_10 rfl rfl ?_
    refine j_cSI (mm' := mm_M_isRight) (As := [vI x2, vI x3]) (rest := [vR 20 0]) h dd_M_alter_11 (ws4 wd_1047 wd_1048 wd_70 wd_1049) nk_M_isRight (rok rfl) (Nat.le_of_ble_eq_true rfl) (fun _ => rfl) (fun a4 M3 h => ?_)
    refine j_if_eq (tgt := 21) dd_M_alter_14 (by decide) (fun c => ?_) (fun c => ?_)
    · have h := h.1 c
      exact j_jump h (jsub_c rfl (jsub_c rfl (jsub_c rfl jsub_0)))
    · have h := h.2 c
      refine j_iconst dd_M_alter_17 (inRd rfl) ?_
      refine j_goto (tgt := 22) dd_M_alter_18 (by decide) ?_
      exact j_jump h (jsub_c rfl (jsub_c rfl (jsub_c rfl jsub_0)))
theorem vc_M_alter_21 {E : EE} {Q : Int → JM → Prop} (x1 : Int) (x2 : Int) (x3 : Int) (M : JM) (h : JG E mm_M_alter Q 22 [(1, vI x1), (2, vI x2), (3, vI x3)] [vI 0, vR 20 0] M) : JG E mm_M_alter Q 21 [(1, vI x1), (2, vI x2), (3, vI x3)] [vR 20 0] M := by
  refine j_iconst dd_M_alter_21 (inRd rfl) ?_
  exact j_jump h (jsub_c rfl (jsub_c rfl (jsub_c rfl jsub_0)))
theorem vc_M_alter_22 {E : EE} {Q : Int → JM → Prop} (x1 : Int) (x2 : Int) (x3 : Int) (s1 : Int) (M : JM) (h : JC E mm_M_puts [vR 20 0, vI s1, vI (w32 (w32 (8 * x2) + x1)), vI x3, vI 0] M (fun a2 M1 => Q a2 M1)) : JG E mm_M_alter Q 22 [(1, vI x1), (2, vI x2), (3, vI x3)] [vI s1, vR 20 0] M := by
  refine j_bipush dd_M_alter_22 rfl (inRd rfl) ?_
  refine j_iload_n (j := 2) dd_M_alter_24 rfl rfl ?_
  refine j_imul dd_M_alter_25 ?_
  refine j_iload_n (j := 1) dd_M_alter_26 rfl rfl ?_
  refine j_iadd dd_M_alter_27 ?_
  refine j_iload_n (j := 3) dd_M_alter_28 rfl rfl ?_
  refine j_iconst dd_M_alter_29 (inRd rfl) ?_
  refine j_cVI (mm' := mm_M_puts) (t := 20) (i := 0) (As := [vI s1, vI (w32 (w32 (8 * x2) + x1)), vI x3, vI 0]) (rest := []) h dd_M_alter_30 (ws5 wd_1051 wd_1053 wd_51 wd_70 wd_1054) nk_M_puts (rok rfl) (by unfold isW; omega) ⟨_, ce_20 _⟩ rfl (Nat.le_of_ble_eq_true rfl) (fun _ => rfl) (fun a2 M1 h => ?_)
  exact j_iret dd_M_alter_33 rfl h
theorem vc_M_train {E : EE} {Q : Int → JM → Prop} (x1 : Int) (x2 : Int) (x3 : Int) (M : JM) (h : ((x2 ≠ 0 → ((x2 ≠ 1 → JG E mm_M_train Q 37 [(0, vR 20 0), (1, vI x1), (2, vI x2), (3, vI x3)] [] M) ∧ (x2 = 1 → JC E mm_M_in [vL x3, vL 0, vL 999] M (fun a2 M1 => ((a2 = 0 → JG E mm_M_train Q 37 [(0, vR 20 0), (1, vI x1), (2, vI x2), (3, vI x3)] [] M1) ∧ (a2 ≠ 0 → JG E mm_M_train Q 38 [(0, vR 20 0), (1, vI x1), (2, vI x2), (3, vI x3)] [vI 1] M1)))))) ∧ (x2 = 0 → JC E mm_M_in [vL x3, vL 1, vL 20] M (fun a4 M3 => JG E mm_M_train Q 38 [(0, vR 20 0), (1, vI x1), (2, vI x2), (3, vI x3)] [vI a4] M3)))) : JC E mm_M_train [vR 20 0, vI x1, vI x2, vI x3] M Q := by
  refine j_entry (L0 := [(0, vR 20 0), (1, vI x1), (2, vI x2), (3, vI x3)]) pn_M (Nat.le_of_ble_eq_true rfl) rfl ?_
  refine j_iload_n (j := 2) dd_M_train_0 rfl rfl ?_
  refine j_if_ne (tgt := 16) dd_M_train_1 (by decide) (fun c => ?_) (fun c => ?_)
  · have h := h.1 c
    refine j_iload_n (j := 2) dd_M_train_16 rfl rfl ?_
    refine j_iconst dd_M_train_17 (inRd rfl) ?_
    refine j_icmp_ne (tgt := 37) dd_M_train_18 (by decide) (fun c => ?_) (fun c => ?_)
    · have h := h.1 c
      exact j_jump h (jsub_c rfl (jsub_c rfl (jsub_c rfl (jsub_c rfl jsub_0))))
    · have h := h.2 c
      refine j_iload_n (j := 3) dd_M_train_21 rfl rfl ?_
      refine j_i2l dd_M_train_22 ?_
      refine j_lconst (x := 0) dd_M_train_23 rfl (inLd rfl) ?_
      refine j_ldc2 (x := 999) dd_M_train_24 wd_1060 rfl (inLd rfl) ?_
      refine j_cSI (mm' := mm_M_in) (As := [vL x3, vL 0, vL 999]) (rest := []) h dd_M_train_27 (ws4 wd_941 wd_942 wd_70 wd_943) nk_M_in (rok rfl) (Nat.le_of_ble_eq_true rfl) (fun _ => rfl) (fun a2 M1 h => ?_)
      refine j_if_eq (tgt := 37) dd_M_train_30 (by decide) (fun c => ?_) (fun c => ?_)
      · have h := h.1 c
        exact j_jump h (jsub_c rfl (jsub_c rfl (jsub_c rfl (jsub_c rfl jsub_0))))
      · have h := h.2 c
        refine j_iconst dd_M_train_33 (inRd rfl) ?_
        refine j_goto (tgt := 38) dd_M_train_34 (by decide) ?_
        exact j_jump h (jsub_c rfl (jsub_c rfl (jsub_c rfl (jsub_c rfl jsub_0))))
  · have h := h.2 c
    refine j_iload_n (j := 3) dd_M_train_4 rfl rfl ?_
    refine j_i2l dd_M_train_5 ?_
    refine j_lconst (x := 1) dd_M_train_6 rfl (inLd rfl) ?_
    refine j_ldc2 (x := 20) dd_M_train_7 wd_1059 rfl (inLd rfl) ?_
    refine j_cSI (mm' := mm_M_in) (As := [vL x3, vL 1, vL 20]) (rest := []) h dd_M_train_10 (ws4 wd_941 wd_942 wd_70 wd_943) nk_M_in (rok rfl) (Nat.le_of_ble_eq_true rfl) (fun _ => rfl) (fun a4 M3 h => ?_)
    refine j_goto (tgt := 38) dd_M_train_13 (by decide) ?_
    exact j_jump h (jsub_c rfl (jsub_c rfl (jsub_c rfl (jsub_c rfl jsub_0))))
theorem vc_M_train_37 {E : EE} {Q : Int → JM → Prop} (x1 : Int) (x2 : Int) (x3 : Int) (M : JM) (h : JG E mm_M_train Q 38 [(0, vR 20 0), (1, vI x1), (2, vI x2), (3, vI x3)] [vI 0] M) : JG E mm_M_train Q 37 [(0, vR 20 0), (1, vI x1), (2, vI x2), (3, vI x3)] [] M := by
  refine j_iconst dd_M_train_37 (inRd rfl) ?_
  exact j_jump h (jsub_c rfl (jsub_c rfl (jsub_c rfl (jsub_c rfl jsub_0))))
theorem vc_M_train_38 {E : EE} {Q : Int → JM → Prop} (x1 : Int) (x2 : Int) (x3 : Int) (s0 : Int) (M : JM) (h : JC E mm_M_isOne [vR 20 0, vI x1] M (fun a2 M1 => ((a2 = 0 → JG E mm_M_train Q 58 [(1, vI x1), (2, vI x2), (3, vI x3)] [vR 20 0] M1) ∧ (a2 ≠ 0 → ((s0 = 0 → JG E mm_M_train Q 58 [(1, vI x1), (2, vI x2), (3, vI x3)] [vR 20 0] M1) ∧ (s0 ≠ 0 → JG E mm_M_train Q 59 [(1, vI x1), (2, vI x2), (3, vI x3)] [vI 1, vR 20 0] M1)))))) : JG E mm_M_train Q 38 [(0, vR 20 0), (1, vI x1), (2, vI x2), (3, vI x3)] [vI s0] M := by
  refine j_istore (j := 4) dd_M_train_38 (by decide) rfl ?_
  refine j_aload_n (j := 0) dd_M_train_40 rfl rfl ?_
  refine j_aload_n (j := 0) dd_M_train_41 rfl rfl ?_
  refine j_iload_n (j := 1) dd_M_train_42 rfl rfl ?_
  refine j_cVI (mm' := mm_M_isOne) (t := 20) (i := 0) (As := [vI x1]) (rest := [vR 20 0]) h dd_M_train_43 (ws5 wd_1022 wd_1024 wd_46 wd_70 wd_1025) nk_M_isOne (rok rfl) (by unfold isW; omega) ⟨_, ce_20 _⟩ rfl (Nat.le_of_ble_eq_true rfl) (fun _ => rfl) (fun a2 M1 h => ?_)
  refine j_if_eq (tgt := 58) dd_M_train_46 (by decide) (fun c => ?_) (fun c => ?_)
  · have h := h.1 c
    exact j_jump h (jsub_c rfl (jsub_c rfl (jsub_c rfl jsub_0)))
  · have h := h.2 c
    refine j_iload (j := 4) dd_M_train_49 rfl ?_
    refine j_if_eq (tgt := 58) dd_M_train_51 (by decide) (fun c => ?_) (fun c => ?_)
    · have h := h.1 c
      exact j_jump h (jsub_c rfl (jsub_c rfl (jsub_c rfl jsub_0)))
    · have h := h.2 c
      refine j_iconst dd_M_train_54 (inRd rfl) ?_
      refine j_goto (tgt := 59) dd_M_train_55 (by decide) ?_
      exact j_jump h (jsub_c rfl (jsub_c rfl (jsub_c rfl jsub_0)))
theorem vc_M_train_58 {E : EE} {Q : Int → JM → Prop} (x1 : Int) (x2 : Int) (x3 : Int) (M : JM) (h : JG E mm_M_train Q 59 [(1, vI x1), (2, vI x2), (3, vI x3)] [vI 0, vR 20 0] M) : JG E mm_M_train Q 58 [(1, vI x1), (2, vI x2), (3, vI x3)] [vR 20 0] M := by
  refine j_iconst dd_M_train_58 (inRd rfl) ?_
  exact j_jump h (jsub_c rfl (jsub_c rfl (jsub_c rfl jsub_0)))
theorem vc_M_train_59 {E : EE} {Q : Int → JM → Prop} (x1 : Int) (x2 : Int) (x3 : Int) (s1 : Int) (M : JM) (h : JC E mm_M_puts [vR 20 0, vI s1, vI (w32 (w32 (33 + (w32 (4 * x2))) + x1)), vI x3, vI 0] M (fun a2 M1 => Q a2 M1)) : JG E mm_M_train Q 59 [(1, vI x1), (2, vI x2), (3, vI x3)] [vI s1, vR 20 0] M := by
  refine j_bipush dd_M_train_59 rfl (inRd rfl) ?_
  refine j_iconst dd_M_train_61 (inRd rfl) ?_
  refine j_iload_n (j := 2) dd_M_train_62 rfl rfl ?_
  refine j_imul dd_M_train_63 ?_
  refine j_iadd dd_M_train_64 ?_
  refine j_iload_n (j := 1) dd_M_train_65 rfl rfl ?_
  refine j_iadd dd_M_train_66 ?_
  refine j_iload_n (j := 3) dd_M_train_67 rfl rfl ?_
  refine j_iconst dd_M_train_68 (inRd rfl) ?_
  refine j_cVI (mm' := mm_M_puts) (t := 20) (i := 0) (As := [vI s1, vI (w32 (w32 (33 + (w32 (4 * x2))) + x1)), vI x3, vI 0]) (rest := []) h dd_M_train_69 (ws5 wd_1051 wd_1053 wd_51 wd_70 wd_1054) nk_M_puts (rok rfl) (by unfold isW; omega) ⟨_, ce_20 _⟩ rfl (Nat.le_of_ble_eq_true rfl) (fun _ => rfl) (fun a2 M1 h => ?_)
  exact j_iret dd_M_train_72 rfl h
theorem vc_M_set {E : EE} {Q : Int → JM → Prop} (x1 : Int) (x2 : Int) (M : JM) (h : JC E mm_M_in [vL x1, vL 0, vL 1] M (fun a2 M1 => ((a2 = 0 → JG E mm_M_set Q 37 [(1, vI x1), (2, vI x2)] [vR 20 0] M1) ∧ (a2 ≠ 0 → ((x1 ≠ 0 → JG E mm_M_set Q 27 [(1, vI x1), (2, vI x2)] [vL 8, vL 0, vL x2, vR 20 0] M1) ∧ (x1 = 0 → JG E mm_M_set Q 27 [(1, vI x1), (2, vI x2)] [vL 6, vL 0, vL x2, vR 20 0] M1)))))) : JC E mm_M_set [vR 20 0, vI x1, vI x2] M Q := by
  refine j_entry (L0 := [(0, vR 20 0), (1, vI x1), (2, vI x2)]) pn_M (Nat.le_of_ble_eq_true rfl) rfl ?_
  refine j_aload_n (j := 0) dd_M_set_0 rfl rfl ?_
  refine j_iload_n (j := 1) dd_M_set_1 rfl rfl ?_
  refine j_i2l dd_M_set_2 ?_
  refine j_lconst (x := 0) dd_M_set_3 rfl (inLd rfl) ?_
  refine j_lconst (x := 1) dd_M_set_4 rfl (inLd rfl) ?_
  refine j_cSI (mm' := mm_M_in) (As := [vL x1, vL 0, vL 1]) (rest := [vR 20 0]) h dd_M_set_5 (ws4 wd_941 wd_942 wd_70 wd_943) nk_M_in (rok rfl) (Nat.le_of_ble_eq_true rfl) (fun _ => rfl) (fun a2 M1 h => ?_)
  refine j_if_eq (tgt := 37) dd_M_set_8 (by decide) (fun c => ?_) (fun c => ?_)
  · have h := h.1 c
    exact j_jump h (jsub_c rfl (jsub_c rfl jsub_0))
  · have h := h.2 c
    refine j_iload_n (j := 2) dd_M_set_11 rfl rfl ?_
    refine j_i2l dd_M_set_12 ?_
    refine j_lconst (x := 0) dd_M_set_13 rfl (inLd rfl) ?_
    refine j_iload_n (j := 1) dd_M_set_14 rfl rfl ?_
    refine j_if_ne (tgt := 24) dd_M_set_15 (by decide) (fun c => ?_) (fun c => ?_)
    · have h := h.1 c
      refine j_ldc2 (x := 8) dd_M_set_24 wd_1065 rfl (inLd rfl) ?_
      exact j_jump h (jsub_c rfl (jsub_c rfl jsub_0))
    · have h := h.2 c
      refine j_ldc2 (x := 6) dd_M_set_18 wd_976 rfl (inLd rfl) ?_
      refine j_goto (tgt := 27) dd_M_set_21 (by decide) ?_
      exact j_jump h (jsub_c rfl (jsub_c rfl jsub_0))
theorem vc_M_set_27 {E : EE} {Q : Int → JM → Prop} (x1 : Int) (x2 : Int) (s1 : Int) (s2 : Int) (s3 : Int) (M : JM) (h : JC E mm_M_in [vL s1, vL s2, vL s3] M (fun a2 M1 => ((a2 = 0 → JG E mm_M_set Q 37 [(1, vI x1), (2, vI x2)] [vR 20 0] M1) ∧ (a2 ≠ 0 → JG E mm_M_set Q 38 [(1, vI x1), (2, vI x2)] [vI 1, vR 20 0] M1)))) : JG E mm_M_set Q 27 [(1, vI x1), (2, vI x2)] [vL s3, vL s2, vL s1, vR 20 0] M := by
  refine j_cSI (mm' := mm_M_in) (As := [vL s1, vL s2, vL s3]) (rest := [vR 20 0]) h dd_M_set_27 (ws4 wd_941 wd_942 wd_70 wd_943) nk_M_in (rok rfl) (Nat.le_of_ble_eq_true rfl) (fun _ => rfl) (fun a2 M1 h => ?_)
  refine j_if_eq (tgt := 37) dd_M_set_30 (by decide) (fun c => ?_) (fun c => ?_)
  · have h := h.1 c
    exact j_jump h (jsub_c rfl (jsub_c rfl jsub_0))
  · have h := h.2 c
    refine j_iconst dd_M_set_33 (inRd rfl) ?_
    refine j_goto (tgt := 38) dd_M_set_34 (by decide) ?_
    exact j_jump h (jsub_c rfl (jsub_c rfl jsub_0))
theorem vc_M_set_37 {E : EE} {Q : Int → JM → Prop} (x1 : Int) (x2 : Int) (M : JM) (h : JG E mm_M_set Q 38 [(1, vI x1), (2, vI x2)] [vI 0, vR 20 0] M) : JG E mm_M_set Q 37 [(1, vI x1), (2, vI x2)] [vR 20 0] M := by
  refine j_iconst dd_M_set_37 (inRd rfl) ?_
  exact j_jump h (jsub_c rfl (jsub_c rfl jsub_0))
theorem vc_M_set_38 {E : EE} {Q : Int → JM → Prop} (x1 : Int) (x2 : Int) (s1 : Int) (M : JM) (h : JC E mm_M_puts [vR 20 0, vI s1, vI (w32 (41 + x1)), vI x2, vI 2] M (fun a2 M1 => Q a2 M1)) : JG E mm_M_set Q 38 [(1, vI x1), (2, vI x2)] [vI s1, vR 20 0] M := by
  refine j_bipush dd_M_set_38 rfl (inRd rfl) ?_
  refine j_iload_n (j := 1) dd_M_set_40 rfl rfl ?_
  refine j_iadd dd_M_set_41 ?_
  refine j_iload_n (j := 2) dd_M_set_42 rfl rfl ?_
  refine j_iconst dd_M_set_43 (inRd rfl) ?_
  refine j_cVI (mm' := mm_M_puts) (t := 20) (i := 0) (As := [vI s1, vI (w32 (41 + x1)), vI x2, vI 2]) (rest := []) h dd_M_set_44 (ws5 wd_1051 wd_1053 wd_51 wd_70 wd_1054) nk_M_puts (rok rfl) (by unfold isW; omega) ⟨_, ce_20 _⟩ rfl (Nat.le_of_ble_eq_true rfl) (fun _ => rfl) (fun a2 M1 h => ?_)
  exact j_iret dd_M_set_47 rfl h
theorem vc_M_stocks {E : EE} {Q : Int → JM → Prop} (x1 : Int) (x2 : Int) (x3 : Int) (M : JM) (h : JC E mm_M_isRight [vI 0, vI x1] M (fun a2 M1 => ((a2 = 0 → Q (-1) M1) ∧ (a2 ≠ 0 → JC E mm_M_isRight [vI 1, vI x2] M1 (fun a4 M3 => ((a4 = 0 → Q (-1) M3) ∧ (a4 ≠ 0 → JC E mm_M_isRight [vI 2, vI x3] M3 (fun a6 M5 => ((a6 ≠ 0 → ∀ a7 : Int, a7 = M5 21 0 32 → ((a7 ≠ 8 → (0 ≤ a7 ∧ a7 < 264) ∧ ∀ M8 : JM, M8 = pt M5 21 0 a7.toNat x1 → (0 ≤ w32 (8 + a7) ∧ w32 (8 + a7) < 264) ∧ ∀ M9 : JM, M9 = pt M8 21 0 ((w32 (8 + a7)).toNat) x2 → (0 ≤ w32 (16 + a7) ∧ w32 (16 + a7) < 264) ∧ ∀ M10 : JM, M10 = pt M9 21 0 ((w32 (16 + a7)).toNat) x3 → (0 ≤ w32 (24 + a7) ∧ w32 (24 + a7) < 264) ∧ ∀ M11 : JM, M11 = pt M10 21 0 ((w32 (24 + a7)).toNat) 0 → ∀ M12 : JM, M12 = pt M11 21 0 32 (w32 (M11 21 0 32 + 1)) → Q (M12 21 0 32) M12) ∧ (a7 = 8 → Q (-3) M5))) ∧ (a6 = 0 → Q (-1) M5)))))))))) : JC E mm_M_stocks [vR 20 0, vI x1, vI x2, vI x3] M Q := by
  refine j_entry (L0 := [(0, vR 20 0), (1, vI x1), (2, vI x2), (3, vI x3)]) pn_M (Nat.le_of_ble_eq_true rfl) rfl ?_
  refine j_iconst dd_M_stocks_0 (inRd rfl) ?_
  refine j_iload_n (j := 1) dd_M_stocks_1 rfl rfl ?_
  refine j_cSI (mm' := mm_M_isRight) (As := [vI 0, vI x1]) (rest := []) h dd_M_stocks_2 (ws4 wd_1047 wd_1048 wd_70 wd_1049) nk_M_isRight (rok rfl) (Nat.le_of_ble_eq_true rfl) (fun _ => rfl) (fun a2 M1 h => ?_)
  refine j_if_eq (tgt := 24) dd_M_stocks_5 (by decide) (fun c => ?_) (fun c => ?_)
  · have h := h.1 c
    refine j_iconst dd_M_stocks_24 (inRd rfl) ?_
    exact j_iret dd_M_stocks_25 rfl h
  · have h := h.2 c
    refine j_iconst dd_M_stocks_8 (inRd rfl) ?_
    refine j_iload_n (j := 2) dd_M_stocks_9 rfl rfl ?_
    refine j_cSI (mm' := mm_M_isRight) (As := [vI 1, vI x2]) (rest := []) h dd_M_stocks_10 (ws4 wd_1047 wd_1048 wd_70 wd_1049) nk_M_isRight (rok rfl) (Nat.le_of_ble_eq_true rfl) (fun _ => rfl) (fun a4 M3 h => ?_)
    refine j_if_eq (tgt := 24) dd_M_stocks_13 (by decide) (fun c => ?_) (fun c => ?_)
    · have h := h.1 c
      refine j_iconst dd_M_stocks_24 (inRd rfl) ?_
      exact j_iret dd_M_stocks_25 rfl h
    · have h := h.2 c
      refine j_iconst dd_M_stocks_16 (inRd rfl) ?_
      refine j_iload_n (j := 3) dd_M_stocks_17 rfl rfl ?_
      refine j_cSI (mm' := mm_M_isRight) (As := [vI 2, vI x3]) (rest := []) h dd_M_stocks_18 (ws4 wd_1047 wd_1048 wd_70 wd_1049) nk_M_isRight (rok rfl) (Nat.le_of_ble_eq_true rfl) (fun _ => rfl) (fun a6 M5 h => ?_)
      refine j_if_ne (tgt := 26) dd_M_stocks_21 (by decide) (fun c => ?_) (fun c => ?_)
      · have h := h.1 c
        refine j_aload_n (j := 0) dd_M_stocks_26 rfl rfl ?_
        refine gf_20_0 dd_M_stocks_27 wd_848 ?_
        refine j_bipush dd_M_stocks_30 rfl (inRd rfl) ?_
        refine ld_21 dd_M_stocks_32 ⟨by decide, by decide⟩ ?_
        refine j_topI (fun a7 ea7 => ?_)
        have h := h a7 ea7
        refine j_istore (j := 4) dd_M_stocks_33 (by decide) rfl ?_
        refine j_iload (j := 4) dd_M_stocks_35 rfl ?_
        refine j_bipush dd_M_stocks_37 rfl (inRd rfl) ?_
        refine j_icmp_ne (tgt := 45) dd_M_stocks_39 (by decide) (fun c => ?_) (fun c => ?_)
        · have h := h.1 c
          refine j_aload_n (j := 0) dd_M_stocks_45 rfl rfl ?_
          refine gf_20_0 dd_M_stocks_46 wd_848 ?_
          refine j_iload (j := 4) dd_M_stocks_49 rfl ?_
          refine j_iload_n (j := 1) dd_M_stocks_51 rfl rfl ?_
          refine st_21 dd_M_stocks_52 h.1 (fun M8 eM8 => ?_)
          have h := h.2
          have h := h M8 eM8
          refine j_aload_n (j := 0) dd_M_stocks_53 rfl rfl ?_
          refine gf_20_0 dd_M_stocks_54 wd_848 ?_
          refine j_bipush dd_M_stocks_57 rfl (inRd rfl) ?_
          refine j_iload (j := 4) dd_M_stocks_59 rfl ?_
          refine j_iadd dd_M_stocks_61 ?_
          refine j_iload_n (j := 2) dd_M_stocks_62 rfl rfl ?_
          refine st_21 dd_M_stocks_63 h.1 (fun M9 eM9 => ?_)
          have h := h.2
          have h := h M9 eM9
          refine j_aload_n (j := 0) dd_M_stocks_64 rfl rfl ?_
          refine gf_20_0 dd_M_stocks_65 wd_848 ?_
          refine j_bipush dd_M_stocks_68 rfl (inRd rfl) ?_
          refine j_iload (j := 4) dd_M_stocks_70 rfl ?_
          refine j_iadd dd_M_stocks_72 ?_
          refine j_iload_n (j := 3) dd_M_stocks_73 rfl rfl ?_
          refine st_21 dd_M_stocks_74 h.1 (fun M10 eM10 => ?_)
          have h := h.2
          have h := h M10 eM10
          refine j_aload_n (j := 0) dd_M_stocks_75 rfl rfl ?_
          refine gf_20_0 dd_M_stocks_76 wd_848 ?_
          refine j_bipush dd_M_stocks_79 rfl (inRd rfl) ?_
          refine j_iload (j := 4) dd_M_stocks_81 rfl ?_
          refine j_iadd dd_M_stocks_83 ?_
          refine j_iconst dd_M_stocks_84 (inRd rfl) ?_
          refine st_21 dd_M_stocks_85 h.1 (fun M11 eM11 => ?_)
          have h := h.2
          have h := h M11 eM11
          refine j_aload_n (j := 0) dd_M_stocks_86 rfl rfl ?_
          refine gf_20_0 dd_M_stocks_87 wd_848 ?_
          refine j_bipush dd_M_stocks_90 rfl (inRd rfl) ?_
          refine j_dup2 dd_M_stocks_92 rfl rfl ?_
          refine ld_21 dd_M_stocks_93 ⟨by decide, by decide⟩ ?_
          refine j_iconst dd_M_stocks_94 (inRd rfl) ?_
          refine j_iadd dd_M_stocks_95 ?_
          refine st_21 dd_M_stocks_96 ⟨by decide, by decide⟩ (fun M12 eM12 => ?_)
          have h := h M12 eM12
          refine j_aload_n (j := 0) dd_M_stocks_97 rfl rfl ?_
          refine gf_20_0 dd_M_stocks_98 wd_848 ?_
          refine j_bipush dd_M_stocks_101 rfl (inRd rfl) ?_
          refine ld_21 dd_M_stocks_103 ⟨by decide, by decide⟩ ?_
          exact j_iret dd_M_stocks_104 rfl h
        · have h := h.2 c
          refine j_bipush dd_M_stocks_42 rfl (inRd rfl) ?_
          exact j_iret dd_M_stocks_44 rfl h
      · have h := h.2 c
        refine j_iconst dd_M_stocks_24 (inRd rfl) ?_
        exact j_iret dd_M_stocks_25 rfl h
theorem vc_M_stock {E : EE} {Q : Int → JM → Prop} (x1 : Int) (x2 : Int) (x3 : Int) (M : JM) (h : JC E mm_M_stocks [vR 20 0, vI x1, vI x2, vI x3] M (fun a2 M1 => Q a2 M1)) : JC E mm_M_stock [vR 20 0, vI x1, vI x2, vI x3] M Q := by
  refine j_entry (L0 := [(0, vR 20 0), (1, vI x1), (2, vI x2), (3, vI x3)]) pn_M (Nat.le_of_ble_eq_true rfl) rfl ?_
  refine j_aload_n (j := 0) dd_M_stock_0 rfl rfl ?_
  refine j_iload_n (j := 1) dd_M_stock_1 rfl rfl ?_
  refine j_iload_n (j := 2) dd_M_stock_2 rfl rfl ?_
  refine j_iload_n (j := 3) dd_M_stock_3 rfl rfl ?_
  refine j_cVI (mm' := mm_M_stocks) (t := 20) (i := 0) (As := [vI x1, vI x2, vI x3]) (rest := []) h dd_M_stock_4 (ws5 wd_1070 wd_1072 wd_52 wd_70 wd_1073) nk_M_stocks (rok rfl) (by unfold isW; omega) ⟨_, ce_20 _⟩ rfl (Nat.le_of_ble_eq_true rfl) (fun _ => rfl) (fun a2 M1 h => ?_)
  exact j_iret dd_M_stock_7 rfl h
theorem vc_M_hide {E : EE} {Q : Int → JM → Prop} (x1 : Int) (M : JM) (h : JC E mm_M_isGoods [vR 20 0, vI x1] M (fun a2 M1 => ((a2 ≠ 0 → (0 ≤ w32 (24 + x1) ∧ w32 (24 + x1) < 264) ∧ ((M1 21 0 ((w32 (24 + x1)).toNat) ≠ 1 → (0 ≤ w32 (24 + x1) ∧ w32 (24 + x1) < 264) ∧ ∀ M3 : JM, M3 = pt M1 21 0 ((w32 (24 + x1)).toNat) 1 → Q 1 M3) ∧ (M1 21 0 ((w32 (24 + x1)).toNat) = 1 → Q (-2) M1))) ∧ (a2 = 0 → Q (-1) M1)))) : JC E mm_M_hide [vR 20 0, vI x1] M Q := by
  refine j_entry (L0 := [(0, vR 20 0), (1, vI x1)]) pn_M (Nat.le_of_ble_eq_true rfl) rfl ?_
  refine j_aload_n (j := 0) dd_M_hide_0 rfl rfl ?_
  refine j_iload_n (j := 1) dd_M_hide_1 rfl rfl ?_
  refine j_cVI (mm' := mm_M_isGoods) (t := 20) (i := 0) (As := [vI x1]) (rest := []) h dd_M_hide_2 (ws5 wd_1005 wd_1007 wd_43 wd_70 wd_1008) nk_M_isGoods (rok rfl) (by unfold isW; omega) ⟨_, ce_20 _⟩ rfl (Nat.le_of_ble_eq_true rfl) (fun _ => rfl) (fun a2 M1 h => ?_)
  refine j_if_ne (tgt := 10) dd_M_hide_5 (by decide) (fun c => ?_) (fun c => ?_)
  · have h := h.1 c
    refine j_aload_n (j := 0) dd_M_hide_10 rfl rfl ?_
    refine gf_20_0 dd_M_hide_11 wd_848 ?_
    refine j_bipush dd_M_hide_14 rfl (inRd rfl) ?_
    refine j_iload_n (j := 1) dd_M_hide_16 rfl rfl ?_
    refine j_iadd dd_M_hide_17 ?_
    refine ld_21 dd_M_hide_18 h.1 ?_
    have h := h.2
    refine j_iconst dd_M_hide_19 (inRd rfl) ?_
    refine j_icmp_ne (tgt := 26) dd_M_hide_20 (by decide) (fun c => ?_) (fun c => ?_)
    · have h := h.1 c
      refine j_aload_n (j := 0) dd_M_hide_26 rfl rfl ?_
      refine gf_20_0 dd_M_hide_27 wd_848 ?_
      refine j_bipush dd_M_hide_30 rfl (inRd rfl) ?_
      refine j_iload_n (j := 1) dd_M_hide_32 rfl rfl ?_
      refine j_iadd dd_M_hide_33 ?_
      refine j_iconst dd_M_hide_34 (inRd rfl) ?_
      refine st_21 dd_M_hide_35 h.1 (fun M3 eM3 => ?_)
      have h := h.2
      have h := h M3 eM3
      refine j_iconst dd_M_hide_36 (inRd rfl) ?_
      exact j_iret dd_M_hide_37 rfl h
    · have h := h.2 c
      refine j_bipush dd_M_hide_23 rfl (inRd rfl) ?_
      exact j_iret dd_M_hide_25 rfl h
  · have h := h.2 c
    refine j_iconst dd_M_hide_8 (inRd rfl) ?_
    exact j_iret dd_M_hide_9 rfl h
theorem vc_M_fill {E : EE} {Q : Int → JM → Prop}  (M : JM) (h : JG E mm_M_fill Q 4 [(0, vR 20 0), (1, vI 0), (2, vI 0)] [] M) : JC E mm_M_fill [vR 20 0] M Q := by
  refine j_entry (L0 := [(0, vR 20 0)]) pn_M (Nat.le_of_ble_eq_true rfl) rfl ?_
  refine j_iconst dd_M_fill_0 (inRd rfl) ?_
  refine j_istore_n (j := 1) dd_M_fill_1 rfl (by decide) rfl ?_
  refine j_iconst dd_M_fill_2 (inRd rfl) ?_
  refine j_istore_n (j := 2) dd_M_fill_3 rfl (by decide) rfl ?_
  exact j_jump h (jsub_c rfl (jsub_c rfl (jsub_c rfl jsub_0)))
theorem vc_M_fill_4 {E : EE} {Q : Int → JM → Prop} (l1 : Int) (l2 : Int) (M : JM) (h : ((M 21 0 32 ≤ l2 → Q l1 M) ∧ (l2 < M 21 0 32 → (0 ≤ w32 (24 + l2) ∧ w32 (24 + l2) < 264) ∧ ∀ a1 : Int, a1 = w32 (l1 + (M 21 0 ((w32 (24 + l2)).toNat))) → (0 ≤ w32 (24 + l2) ∧ w32 (24 + l2) < 264) ∧ ∀ M2 : JM, M2 = pt M 21 0 ((w32 (24 + l2)).toNat) 0 → ∀ a3 : Int, a3 = w32 (l2 + 1) → JG E mm_M_fill Q 4 [(0, vR 20 0), (1, vI a1), (2, vI a3)] [] M2))) : JG E mm_M_fill Q 4 [(0, vR 20 0), (1, vI l1), (2, vI l2)] [] M := by
  refine j_iload_n (j := 2) dd_M_fill_4 rfl rfl ?_
  refine j_aload_n (j := 0) dd_M_fill_5 rfl rfl ?_
  refine gf_20_0 dd_M_fill_6 wd_848 ?_
  refine j_bipush dd_M_fill_9 rfl (inRd rfl) ?_
  refine ld_21 dd_M_fill_11 ⟨by decide, by decide⟩ ?_
  refine j_icmp_ge (tgt := 43) dd_M_fill_12 (by decide) (fun c => ?_) (fun c => ?_)
  · have h := h.1 c
    refine j_iload_n (j := 1) dd_M_fill_43 rfl rfl ?_
    exact j_iret dd_M_fill_44 rfl h
  · have h := h.2 c
    refine j_iload_n (j := 1) dd_M_fill_15 rfl rfl ?_
    refine j_aload_n (j := 0) dd_M_fill_16 rfl rfl ?_
    refine gf_20_0 dd_M_fill_17 wd_848 ?_
    refine j_bipush dd_M_fill_20 rfl (inRd rfl) ?_
    refine j_iload_n (j := 2) dd_M_fill_22 rfl rfl ?_
    refine j_iadd dd_M_fill_23 ?_
    refine ld_21 dd_M_fill_24 h.1 ?_
    have h := h.2
    refine j_iadd dd_M_fill_25 ?_
    refine j_topI (fun a1 ea1 => ?_)
    have h := h a1 ea1
    refine j_istore_n (j := 1) dd_M_fill_26 rfl (by decide) rfl ?_
    refine j_aload_n (j := 0) dd_M_fill_27 rfl rfl ?_
    refine gf_20_0 dd_M_fill_28 wd_848 ?_
    refine j_bipush dd_M_fill_31 rfl (inRd rfl) ?_
    refine j_iload_n (j := 2) dd_M_fill_33 rfl rfl ?_
    refine j_iadd dd_M_fill_34 ?_
    refine j_iconst dd_M_fill_35 (inRd rfl) ?_
    refine st_21 dd_M_fill_36 h.1 (fun M2 eM2 => ?_)
    have h := h.2
    have h := h M2 eM2
    refine j_iincN dd_M_fill_37 rfl rfl (fun a3 ea3 => ?_)
    have h := h a3 ea3
    refine j_goto (tgt := 4) dd_M_fill_40 (by decide) ?_
    exact j_jump h (jsub_c rfl (jsub_c rfl (jsub_c rfl jsub_0)))
theorem vc_M_weeks {E : EE} {Q : Int → JM → Prop} (x1 : Int) (M : JM) (h : JC E mm_M_in [vL x1, vL 0, vL 30] M (fun a2 M1 => ((a2 ≠ 0 → ((w32 (M1 21 0 43 + x1) ≤ 999 → JC E mm_M_wagesOn [vR 20 0, vI 0] M1 (fun a4 M3 => JG E mm_M_weeks Q 40 [(0, vR 20 0), (1, vI x1), (2, vI a4), (3, vI 0)] [] M3)) ∧ (999 < w32 (M1 21 0 43 + x1) → Q (-3) M1))) ∧ (a2 = 0 → Q (-1) M1)))) : JC E mm_M_weeks [vR 20 0, vI x1] M Q := by
  refine j_entry (L0 := [(0, vR 20 0), (1, vI x1)]) pn_M (Nat.le_of_ble_eq_true rfl) rfl ?_
  refine j_iload_n (j := 1) dd_M_weeks_0 rfl rfl ?_
  refine j_i2l dd_M_weeks_1 ?_
  refine j_lconst (x := 0) dd_M_weeks_2 rfl (inLd rfl) ?_
  refine j_ldc2 (x := 30) dd_M_weeks_3 wd_1086 rfl (inLd rfl) ?_
  refine j_cSI (mm' := mm_M_in) (As := [vL x1, vL 0, vL 30]) (rest := []) h dd_M_weeks_6 (ws4 wd_941 wd_942 wd_70 wd_943) nk_M_in (rok rfl) (Nat.le_of_ble_eq_true rfl) (fun _ => rfl) (fun a2 M1 h => ?_)
  refine j_if_ne (tgt := 14) dd_M_weeks_9 (by decide) (fun c => ?_) (fun c => ?_)
  · have h := h.1 c
    refine j_aload_n (j := 0) dd_M_weeks_14 rfl rfl ?_
    refine gf_20_0 dd_M_weeks_15 wd_848 ?_
    refine j_bipush dd_M_weeks_18 rfl (inRd rfl) ?_
    refine ld_21 dd_M_weeks_20 ⟨by decide, by decide⟩ ?_
    refine j_iload_n (j := 1) dd_M_weeks_21 rfl rfl ?_
    refine j_iadd dd_M_weeks_22 ?_
    refine j_sipush dd_M_weeks_23 rfl (inRd rfl) ?_
    refine j_icmp_le (tgt := 32) dd_M_weeks_26 (by decide) (fun c => ?_) (fun c => ?_)
    · have h := h.1 c
      refine j_aload_n (j := 0) dd_M_weeks_32 rfl rfl ?_
      refine j_iconst dd_M_weeks_33 (inRd rfl) ?_
      refine j_cVI (mm' := mm_M_wagesOn) (t := 20) (i := 0) (As := [vI 0]) (rest := []) h dd_M_weeks_34 (ws5 wd_997 wd_999 wd_42 wd_70 wd_1000) nk_M_wagesOn (rok rfl) (by unfold isW; omega) ⟨_, ce_20 _⟩ rfl (Nat.le_of_ble_eq_true rfl) (fun _ => rfl) (fun a4 M3 h => ?_)
      refine j_istore_n (j := 2) dd_M_weeks_37 rfl (by decide) rfl ?_
      refine j_iconst dd_M_weeks_38 (inRd rfl) ?_
      refine j_istore_n (j := 3) dd_M_weeks_39 rfl (by decide) rfl ?_
      exact j_jump h (jsub_c rfl (jsub_c rfl (jsub_c rfl (jsub_c rfl jsub_0))))
    · have h := h.2 c
      refine j_bipush dd_M_weeks_29 rfl (inRd rfl) ?_
      exact j_iret dd_M_weeks_31 rfl h
  · have h := h.2 c
    refine j_iconst dd_M_weeks_12 (inRd rfl) ?_
    exact j_iret dd_M_weeks_13 rfl h
theorem vc_M_weeks_40 {E : EE} {Q : Int → JM → Prop} (x1 : Int) (l2 : Int) (l3 : Int) (M : JM) (h : ((x1 ≤ l3 → JC E mm_M_wagesOn [vR 20 0, vI 0] M (fun a2 M1 => Q (w32 (a2 - l2)) M1)) ∧ (l3 < x1 → JC E mm_M_goesOn [vR 20 0, vI 0] M (fun a4 M3 => ∀ a5 : Int, a5 = w32 (l3 + 1) → JG E mm_M_weeks Q 40 [(0, vR 20 0), (1, vI x1), (2, vI l2), (3, vI a5)] [] M3)))) : JG E mm_M_weeks Q 40 [(0, vR 20 0), (1, vI x1), (2, vI l2), (3, vI l3)] [] M := by
  refine j_iload_n (j := 3) dd_M_weeks_40 rfl rfl ?_
  refine j_iload_n (j := 1) dd_M_weeks_41 rfl rfl ?_
  refine j_icmp_ge (tgt := 56) dd_M_weeks_42 (by decide) (fun c => ?_) (fun c => ?_)
  · have h := h.1 c
    refine j_aload_n (j := 0) dd_M_weeks_56 rfl rfl ?_
    refine j_iconst dd_M_weeks_57 (inRd rfl) ?_
    refine j_cVI (mm' := mm_M_wagesOn) (t := 20) (i := 0) (As := [vI 0]) (rest := []) h dd_M_weeks_58 (ws5 wd_997 wd_999 wd_42 wd_70 wd_1000) nk_M_wagesOn (rok rfl) (by unfold isW; omega) ⟨_, ce_20 _⟩ rfl (Nat.le_of_ble_eq_true rfl) (fun _ => rfl) (fun a2 M1 h => ?_)
    refine j_iload_n (j := 2) dd_M_weeks_61 rfl rfl ?_
    refine j_isub dd_M_weeks_62 ?_
    exact j_iret dd_M_weeks_63 rfl h
  · have h := h.2 c
    refine j_aload_n (j := 0) dd_M_weeks_45 rfl rfl ?_
    refine j_iconst dd_M_weeks_46 (inRd rfl) ?_
    refine j_cVV (mm' := mm_M_goesOn) (t := 20) (i := 0) (As := [vI 0]) (rest := []) h dd_M_weeks_47 (ws5 wd_1087 wd_1089 wd_53 wd_70 wd_1090) nk_M_goesOn (rok rfl) (by unfold isW; omega) ⟨_, ce_20 _⟩ rfl (Nat.le_of_ble_eq_true rfl) (fun _ => rfl) (fun a4 M3 h => ?_)
    refine j_iincN dd_M_weeks_50 rfl rfl (fun a5 ea5 => ?_)
    have h := h a5 ea5
    refine j_goto (tgt := 40) dd_M_weeks_53 (by decide) ?_
    exact j_jump h (jsub_c rfl (jsub_c rfl (jsub_c rfl (jsub_c rfl jsub_0))))
theorem vc_M_weeksGo {E : EE} {Q : Int → JM → Prop} (x1 : Int) (x2 : Int) (M : JM) (h : JC E mm_M_copies [vR 20 0, vI x1, vI 176] M (fun a2 M1 => ∀ M3 : JM, M3 = pt M1 20 0 19 0 → ∀ M4 : JM, M4 = pt M3 20 0 20 0 → JG E mm_M_weeksGo Q 20 [(0, vR 20 0), (2, vI x2), (3, vI 0)] [] M4)) : JC E mm_M_weeksGo [vR 20 0, vI x1, vI x2] M Q := by
  refine j_entry (L0 := [(0, vR 20 0), (1, vI x1), (2, vI x2)]) pn_M (Nat.le_of_ble_eq_true rfl) rfl ?_
  refine j_aload_n (j := 0) dd_M_weeksGo_0 rfl rfl ?_
  refine j_iload_n (j := 1) dd_M_weeksGo_1 rfl rfl ?_
  refine j_sipush dd_M_weeksGo_2 rfl (inRd rfl) ?_
  refine j_cVV (mm' := mm_M_copies) (t := 20) (i := 0) (As := [vI x1, vI 176]) (rest := []) h dd_M_weeksGo_5 (ws5 wd_1031 wd_1033 wd_48 wd_70 wd_1034) nk_M_copies (rok rfl) (by unfold isW; omega) ⟨_, ce_20 _⟩ rfl (Nat.le_of_ble_eq_true rfl) (fun _ => rfl) (fun a2 M1 h => ?_)
  refine j_aload_n (j := 0) dd_M_weeksGo_8 rfl rfl ?_
  refine j_iconst dd_M_weeksGo_9 (inRd rfl) ?_
  refine pf_20_19 dd_M_weeksGo_10 wd_867 (fun M3 eM3 => ?_)
  have h := h M3 eM3
  refine j_aload_n (j := 0) dd_M_weeksGo_13 rfl rfl ?_
  refine j_iconst dd_M_weeksGo_14 (inRd rfl) ?_
  refine pf_20_20 dd_M_weeksGo_15 wd_868 (fun M4 eM4 => ?_)
  have h := h M4 eM4
  refine j_iconst dd_M_weeksGo_18 (inRd rfl) ?_
  refine j_istore_n (j := 3) dd_M_weeksGo_19 rfl (by decide) rfl ?_
  exact j_jump h (jsub_c rfl (jsub_c rfl (jsub_c rfl jsub_0)))
theorem vc_M_weeksGo_20 {E : EE} {Q : Int → JM → Prop} (x2 : Int) (l3 : Int) (M : JM) (h : ((x2 ≤ l3 → JC E mm_M_wagesOn [vR 20 0, vI 176] M (fun a2 M1 => JC E mm_M_wagesOn [vR 20 0, vI 0] M1 (fun a4 M3 => Q (w32 (a2 - a4)) M3))) ∧ (l3 < x2 → JC E mm_M_goesOn [vR 20 0, vI 176] M (fun a6 M5 => ∀ a7 : Int, a7 = w32 (l3 + 1) → JG E mm_M_weeksGo Q 20 [(0, vR 20 0), (2, vI x2), (3, vI a7)] [] M5)))) : JG E mm_M_weeksGo Q 20 [(0, vR 20 0), (2, vI x2), (3, vI l3)] [] M := by
  refine j_iload_n (j := 3) dd_M_weeksGo_20 rfl rfl ?_
  refine j_iload_n (j := 2) dd_M_weeksGo_21 rfl rfl ?_
  refine j_icmp_ge (tgt := 38) dd_M_weeksGo_22 (by decide) (fun c => ?_) (fun c => ?_)
  · have h := h.1 c
    refine j_aload_n (j := 0) dd_M_weeksGo_38 rfl rfl ?_
    refine j_sipush dd_M_weeksGo_39 rfl (inRd rfl) ?_
    refine j_cVI (mm' := mm_M_wagesOn) (t := 20) (i := 0) (As := [vI 176]) (rest := []) h dd_M_weeksGo_42 (ws5 wd_997 wd_999 wd_42 wd_70 wd_1000) nk_M_wagesOn (rok rfl) (by unfold isW; omega) ⟨_, ce_20 _⟩ rfl (Nat.le_of_ble_eq_true rfl) (fun _ => rfl) (fun a2 M1 h => ?_)
    refine j_aload_n (j := 0) dd_M_weeksGo_45 rfl rfl ?_
    refine j_iconst dd_M_weeksGo_46 (inRd rfl) ?_
    refine j_cVI (mm' := mm_M_wagesOn) (t := 20) (i := 0) (As := [vI 0]) (rest := [vI a2]) h dd_M_weeksGo_47 (ws5 wd_997 wd_999 wd_42 wd_70 wd_1000) nk_M_wagesOn (rok rfl) (by unfold isW; omega) ⟨_, ce_20 _⟩ rfl (Nat.le_of_ble_eq_true rfl) (fun _ => rfl) (fun a4 M3 h => ?_)
    refine j_isub dd_M_weeksGo_50 ?_
    exact j_iret dd_M_weeksGo_51 rfl h
  · have h := h.2 c
    refine j_aload_n (j := 0) dd_M_weeksGo_25 rfl rfl ?_
    refine j_sipush dd_M_weeksGo_26 rfl (inRd rfl) ?_
    refine j_cVV (mm' := mm_M_goesOn) (t := 20) (i := 0) (As := [vI 176]) (rest := []) h dd_M_weeksGo_29 (ws5 wd_1087 wd_1089 wd_53 wd_70 wd_1090) nk_M_goesOn (rok rfl) (by unfold isW; omega) ⟨_, ce_20 _⟩ rfl (Nat.le_of_ble_eq_true rfl) (fun _ => rfl) (fun a6 M5 h => ?_)
    refine j_iincN dd_M_weeksGo_32 rfl rfl (fun a7 ea7 => ?_)
    have h := h a7 ea7
    refine j_goto (tgt := 20) dd_M_weeksGo_35 (by decide) ?_
    exact j_jump h (jsub_c rfl (jsub_c rfl (jsub_c rfl jsub_0)))
theorem vc_M_runs {E : EE} {Q : Int → JM → Prop} (x1 : Int) (x2 : Int) (M : JM) (h : JC E mm_M_in [vL x1, vL 0, vL 60] M (fun a2 M1 => ((a2 = 0 → Q (-1) M1) ∧ (a2 ≠ 0 → JC E mm_M_in [vL x2, vL 0, vL 4] M1 (fun a4 M3 => ((a4 ≠ 0 → JC E mm_M_weeksGo [vR 20 0, vI 0, vI x1] M3 (fun a6 M5 => ((x2 ≠ 0 → ((x2 ≠ 1 → ((x2 ≠ 2 → ((x2 ≠ 3 → JC E mm_M_leastOn [vR 20 0, vI 176] M5 (fun a8 M7 => Q a8 M7)) ∧ (x2 = 3 → Q (M5 20 0 20) M5))) ∧ (x2 = 2 → Q (M5 20 0 19) M5))) ∧ (x2 = 1 → JC E mm_M_storeOn [vR 20 0, vI 176] M5 (fun a10 M9 => Q a10 M9)))) ∧ (x2 = 0 → Q a6 M5)))) ∧ (a4 = 0 → Q (-1) M3))))))) : JC E mm_M_runs [vR 20 0, vI x1, vI x2] M Q := by
  refine j_entry (L0 := [(0, vR 20 0), (1, vI x1), (2, vI x2)]) pn_M (Nat.le_of_ble_eq_true rfl) rfl ?_
  refine j_iload_n (j := 1) dd_M_runs_0 rfl rfl ?_
  refine j_i2l dd_M_runs_1 ?_
  refine j_lconst (x := 0) dd_M_runs_2 rfl (inLd rfl) ?_
  refine j_ldc2 (x := 60) dd_M_runs_3 wd_1103 rfl (inLd rfl) ?_
  refine j_cSI (mm' := mm_M_in) (As := [vL x1, vL 0, vL 60]) (rest := []) h dd_M_runs_6 (ws4 wd_941 wd_942 wd_70 wd_943) nk_M_in (rok rfl) (Nat.le_of_ble_eq_true rfl) (fun _ => rfl) (fun a2 M1 h => ?_)
  refine j_if_eq (tgt := 24) dd_M_runs_9 (by decide) (fun c => ?_) (fun c => ?_)
  · have h := h.1 c
    refine j_iconst dd_M_runs_24 (inRd rfl) ?_
    exact j_iret dd_M_runs_25 rfl h
  · have h := h.2 c
    refine j_iload_n (j := 2) dd_M_runs_12 rfl rfl ?_
    refine j_i2l dd_M_runs_13 ?_
    refine j_lconst (x := 0) dd_M_runs_14 rfl (inLd rfl) ?_
    refine j_ldc2 (x := 4) dd_M_runs_15 wd_1104 rfl (inLd rfl) ?_
    refine j_cSI (mm' := mm_M_in) (As := [vL x2, vL 0, vL 4]) (rest := []) h dd_M_runs_18 (ws4 wd_941 wd_942 wd_70 wd_943) nk_M_in (rok rfl) (Nat.le_of_ble_eq_true rfl) (fun _ => rfl) (fun a4 M3 h => ?_)
    refine j_if_ne (tgt := 26) dd_M_runs_21 (by decide) (fun c => ?_) (fun c => ?_)
    · have h := h.1 c
      refine j_aload_n (j := 0) dd_M_runs_26 rfl rfl ?_
      refine j_iconst dd_M_runs_27 (inRd rfl) ?_
      refine j_iload_n (j := 1) dd_M_runs_28 rfl rfl ?_
      refine j_cVI (mm' := mm_M_weeksGo) (t := 20) (i := 0) (As := [vI 0, vI x1]) (rest := []) h dd_M_runs_29 (ws5 wd_1105 wd_1107 wd_56 wd_70 wd_1108) nk_M_weeksGo (rok rfl) (by unfold isW; omega) ⟨_, ce_20 _⟩ rfl (Nat.le_of_ble_eq_true rfl) (fun _ => rfl) (fun a6 M5 h => ?_)
      refine j_istore_n (j := 3) dd_M_runs_32 rfl (by decide) rfl ?_
      refine j_iload_n (j := 2) dd_M_runs_33 rfl rfl ?_
      refine j_if_ne (tgt := 41) dd_M_runs_34 (by decide) (fun c => ?_) (fun c => ?_)
      · have h := h.1 c
        refine j_iload_n (j := 2) dd_M_runs_41 rfl rfl ?_
        refine j_iconst dd_M_runs_42 (inRd rfl) ?_
        refine j_icmp_ne (tgt := 56) dd_M_runs_43 (by decide) (fun c => ?_) (fun c => ?_)
        · have h := h.1 c
          refine j_iload_n (j := 2) dd_M_runs_56 rfl rfl ?_
          refine j_iconst dd_M_runs_57 (inRd rfl) ?_
          refine j_icmp_ne (tgt := 68) dd_M_runs_58 (by decide) (fun c => ?_) (fun c => ?_)
          · have h := h.1 c
            refine j_iload_n (j := 2) dd_M_runs_68 rfl rfl ?_
            refine j_iconst dd_M_runs_69 (inRd rfl) ?_
            refine j_icmp_ne (tgt := 80) dd_M_runs_70 (by decide) (fun c => ?_) (fun c => ?_)
            · have h := h.1 c
              refine j_aload_n (j := 0) dd_M_runs_80 rfl rfl ?_
              refine j_sipush dd_M_runs_81 rfl (inRd rfl) ?_
              refine j_cVI (mm' := mm_M_leastOn) (t := 20) (i := 0) (As := [vI 176]) (rest := []) h dd_M_runs_84 (ws5 wd_1109 wd_1111 wd_57 wd_70 wd_1112) nk_M_leastOn (rok rfl) (by unfold isW; omega) ⟨_, ce_20 _⟩ rfl (Nat.le_of_ble_eq_true rfl) (fun _ => rfl) (fun a8 M7 h => ?_)
              exact j_iret dd_M_runs_87 rfl h
            · have h := h.2 c
              refine j_aload_n (j := 0) dd_M_runs_73 rfl rfl ?_
              refine gf_20_20 dd_M_runs_74 wd_868 ?_
              refine j_goto (tgt := 87) dd_M_runs_77 (by decide) ?_
              exact j_iret dd_M_runs_87 rfl h
          · have h := h.2 c
            refine j_aload_n (j := 0) dd_M_runs_61 rfl rfl ?_
            refine gf_20_19 dd_M_runs_62 wd_867 ?_
            refine j_goto (tgt := 87) dd_M_runs_65 (by decide) ?_
            exact j_iret dd_M_runs_87 rfl h
        · have h := h.2 c
          refine j_aload_n (j := 0) dd_M_runs_46 rfl rfl ?_
          refine j_sipush dd_M_runs_47 rfl (inRd rfl) ?_
          refine j_cVI (mm' := mm_M_storeOn) (t := 20) (i := 0) (As := [vI 176]) (rest := []) h dd_M_runs_50 (ws5 wd_993 wd_995 wd_41 wd_70 wd_996) nk_M_storeOn (rok rfl) (by unfold isW; omega) ⟨_, ce_20 _⟩ rfl (Nat.le_of_ble_eq_true rfl) (fun _ => rfl) (fun a10 M9 h => ?_)
          refine j_goto (tgt := 87) dd_M_runs_53 (by decide) ?_
          exact j_iret dd_M_runs_87 rfl h
      · have h := h.2 c
        refine j_iload_n (j := 3) dd_M_runs_37 rfl rfl ?_
        refine j_goto (tgt := 87) dd_M_runs_38 (by decide) ?_
        exact j_iret dd_M_runs_87 rfl h
    · have h := h.2 c
      refine j_iconst dd_M_runs_24 (inRd rfl) ?_
      exact j_iret dd_M_runs_25 rfl h
theorem vc_M_ahead {E : EE} {Q : Int → JM → Prop} (x1 : Int) (x2 : Int) (x3 : Int) (M : JM) (h : JC E mm_M_isOne [vR 20 0, vI x1] M (fun a2 M1 => ((a2 = 0 → Q (-1) M1) ∧ (a2 ≠ 0 → JC E mm_M_in [vL x2, vL 0, vL 60] M1 (fun a4 M3 => ((a4 = 0 → Q (-1) M3) ∧ (a4 ≠ 0 → JC E mm_M_in [vL x3, vL 0, vL 1] M3 (fun a6 M5 => ((a6 ≠ 0 → JC E mm_M_weeksGo [vR 20 0, vI 0, vI x2] M5 (fun a8 M7 => ((x3 ≠ 0 → (0 ≤ w32 (209 + x1) ∧ w32 (209 + x1) < 264) ∧ Q (M7 21 0 ((w32 (209 + x1)).toNat)) M7) ∧ (x3 = 0 → (0 ≤ w32 (213 + x1) ∧ w32 (213 + x1) < 264) ∧ Q (M7 21 0 ((w32 (213 + x1)).toNat)) M7)))) ∧ (a6 = 0 → Q (-1) M5)))))))))) : JC E mm_M_ahead [vR 20 0, vI x1, vI x2, vI x3] M Q := by
  refine j_entry (L0 := [(0, vR 20 0), (1, vI x1), (2, vI x2), (3, vI x3)]) pn_M (Nat.le_of_ble_eq_true rfl) rfl ?_
  refine j_aload_n (j := 0) dd_M_ahead_0 rfl rfl ?_
  refine j_iload_n (j := 1) dd_M_ahead_1 rfl rfl ?_
  refine j_cVI (mm' := mm_M_isOne) (t := 20) (i := 0) (As := [vI x1]) (rest := []) h dd_M_ahead_2 (ws5 wd_1022 wd_1024 wd_46 wd_70 wd_1025) nk_M_isOne (rok rfl) (by unfold isW; omega) ⟨_, ce_20 _⟩ rfl (Nat.le_of_ble_eq_true rfl) (fun _ => rfl) (fun a2 M1 h => ?_)
  refine j_if_eq (tgt := 30) dd_M_ahead_5 (by decide) (fun c => ?_) (fun c => ?_)
  · have h := h.1 c
    refine j_iconst dd_M_ahead_30 (inRd rfl) ?_
    exact j_iret dd_M_ahead_31 rfl h
  · have h := h.2 c
    refine j_iload_n (j := 2) dd_M_ahead_8 rfl rfl ?_
    refine j_i2l dd_M_ahead_9 ?_
    refine j_lconst (x := 0) dd_M_ahead_10 rfl (inLd rfl) ?_
    refine j_ldc2 (x := 60) dd_M_ahead_11 wd_1103 rfl (inLd rfl) ?_
    refine j_cSI (mm' := mm_M_in) (As := [vL x2, vL 0, vL 60]) (rest := []) h dd_M_ahead_14 (ws4 wd_941 wd_942 wd_70 wd_943) nk_M_in (rok rfl) (Nat.le_of_ble_eq_true rfl) (fun _ => rfl) (fun a4 M3 h => ?_)
    refine j_if_eq (tgt := 30) dd_M_ahead_17 (by decide) (fun c => ?_) (fun c => ?_)
    · have h := h.1 c
      refine j_iconst dd_M_ahead_30 (inRd rfl) ?_
      exact j_iret dd_M_ahead_31 rfl h
    · have h := h.2 c
      refine j_iload_n (j := 3) dd_M_ahead_20 rfl rfl ?_
      refine j_i2l dd_M_ahead_21 ?_
      refine j_lconst (x := 0) dd_M_ahead_22 rfl (inLd rfl) ?_
      refine j_lconst (x := 1) dd_M_ahead_23 rfl (inLd rfl) ?_
      refine j_cSI (mm' := mm_M_in) (As := [vL x3, vL 0, vL 1]) (rest := []) h dd_M_ahead_24 (ws4 wd_941 wd_942 wd_70 wd_943) nk_M_in (rok rfl) (Nat.le_of_ble_eq_true rfl) (fun _ => rfl) (fun a6 M5 h => ?_)
      refine j_if_ne (tgt := 32) dd_M_ahead_27 (by decide) (fun c => ?_) (fun c => ?_)
      · have h := h.1 c
        refine j_aload_n (j := 0) dd_M_ahead_32 rfl rfl ?_
        refine j_iconst dd_M_ahead_33 (inRd rfl) ?_
        refine j_iload_n (j := 2) dd_M_ahead_34 rfl rfl ?_
        refine j_cVI (mm' := mm_M_weeksGo) (t := 20) (i := 0) (As := [vI 0, vI x2]) (rest := []) h dd_M_ahead_35 (ws5 wd_1105 wd_1107 wd_56 wd_70 wd_1108) nk_M_weeksGo (rok rfl) (by unfold isW; omega) ⟨_, ce_20 _⟩ rfl (Nat.le_of_ble_eq_true rfl) (fun _ => rfl) (fun a8 M7 h => ?_)
        refine j_pop dd_M_ahead_38 rfl ?_
        refine j_iload_n (j := 3) dd_M_ahead_39 rfl rfl ?_
        refine j_if_ne (tgt := 56) dd_M_ahead_40 (by decide) (fun c => ?_) (fun c => ?_)
        · have h := h.1 c
          refine j_aload_n (j := 0) dd_M_ahead_56 rfl rfl ?_
          refine gf_20_0 dd_M_ahead_57 wd_848 ?_
          refine j_sipush dd_M_ahead_60 rfl (inRd rfl) ?_
          refine j_iload_n (j := 1) dd_M_ahead_63 rfl rfl ?_
          refine j_iadd dd_M_ahead_64 ?_
          refine ld_21 dd_M_ahead_65 h.1 ?_
          have h := h.2
          exact j_iret dd_M_ahead_66 rfl h
        · have h := h.2 c
          refine j_aload_n (j := 0) dd_M_ahead_43 rfl rfl ?_
          refine gf_20_0 dd_M_ahead_44 wd_848 ?_
          refine j_sipush dd_M_ahead_47 rfl (inRd rfl) ?_
          refine j_iload_n (j := 1) dd_M_ahead_50 rfl rfl ?_
          refine j_iadd dd_M_ahead_51 ?_
          refine ld_21 dd_M_ahead_52 h.1 ?_
          have h := h.2
          refine j_goto (tgt := 66) dd_M_ahead_53 (by decide) ?_
          exact j_iret dd_M_ahead_66 rfl h
      · have h := h.2 c
        refine j_iconst dd_M_ahead_30 (inRd rfl) ?_
        exact j_iret dd_M_ahead_31 rfl h
theorem vc_M_gone {E : EE} {Q : Int → JM → Prop} (x1 : Int) (M : JM) (h : JC E mm_M_isGoods [vR 20 0, vI x1] M (fun a2 M1 => ((a2 ≠ 0 → JC E mm_M_copies [vR 20 0, vI 0, vI 176] M1 (fun a4 M3 => JG E mm_M_gone Q 20 [(0, vR 20 0), (1, vI x1), (2, vI 0)] [] M3)) ∧ (a2 = 0 → Q (-1) M1)))) : JC E mm_M_gone [vR 20 0, vI x1] M Q := by
  refine j_entry (L0 := [(0, vR 20 0), (1, vI x1)]) pn_M (Nat.le_of_ble_eq_true rfl) rfl ?_
  refine j_aload_n (j := 0) dd_M_gone_0 rfl rfl ?_
  refine j_iload_n (j := 1) dd_M_gone_1 rfl rfl ?_
  refine j_cVI (mm' := mm_M_isGoods) (t := 20) (i := 0) (As := [vI x1]) (rest := []) h dd_M_gone_2 (ws5 wd_1005 wd_1007 wd_43 wd_70 wd_1008) nk_M_isGoods (rok rfl) (by unfold isW; omega) ⟨_, ce_20 _⟩ rfl (Nat.le_of_ble_eq_true rfl) (fun _ => rfl) (fun a2 M1 h => ?_)
  refine j_if_ne (tgt := 10) dd_M_gone_5 (by decide) (fun c => ?_) (fun c => ?_)
  · have h := h.1 c
    refine j_aload_n (j := 0) dd_M_gone_10 rfl rfl ?_
    refine j_iconst dd_M_gone_11 (inRd rfl) ?_
    refine j_sipush dd_M_gone_12 rfl (inRd rfl) ?_
    refine j_cVV (mm' := mm_M_copies) (t := 20) (i := 0) (As := [vI 0, vI 176]) (rest := []) h dd_M_gone_15 (ws5 wd_1031 wd_1033 wd_48 wd_70 wd_1034) nk_M_copies (rok rfl) (by unfold isW; omega) ⟨_, ce_20 _⟩ rfl (Nat.le_of_ble_eq_true rfl) (fun _ => rfl) (fun a4 M3 h => ?_)
    refine j_iconst dd_M_gone_18 (inRd rfl) ?_
    refine j_istore_n (j := 2) dd_M_gone_19 rfl (by decide) rfl ?_
    exact j_jump h (jsub_c rfl (jsub_c rfl (jsub_c rfl jsub_0)))
  · have h := h.2 c
    refine j_iconst dd_M_gone_8 (inRd rfl) ?_
    exact j_iret dd_M_gone_9 rfl h
theorem vc_M_gone_20 {E : EE} {Q : Int → JM → Prop} (x1 : Int) (l2 : Int) (M : JM) (h : ((60 < l2 → Q (-4) M) ∧ (l2 ≤ 60 → JC E mm_M_goesOn [vR 20 0, vI 176] M (fun a2 M1 => ((and32 (shr32 (M1 20 0 18) x1) 1 ≠ 1 → ∀ a3 : Int, a3 = w32 (l2 + 1) → JG E mm_M_gone Q 20 [(0, vR 20 0), (1, vI x1), (2, vI a3)] [] M1) ∧ (and32 (shr32 (M1 20 0 18) x1) 1 = 1 → Q l2 M1)))))) : JG E mm_M_gone Q 20 [(0, vR 20 0), (1, vI x1), (2, vI l2)] [] M := by
  refine j_iload_n (j := 2) dd_M_gone_20 rfl rfl ?_
  refine j_bipush dd_M_gone_21 rfl (inRd rfl) ?_
  refine j_icmp_gt (tgt := 53) dd_M_gone_23 (by decide) (fun c => ?_) (fun c => ?_)
  · have h := h.1 c
    refine j_bipush dd_M_gone_53 rfl (inRd rfl) ?_
    exact j_iret dd_M_gone_55 rfl h
  · have h := h.2 c
    refine j_aload_n (j := 0) dd_M_gone_26 rfl rfl ?_
    refine j_sipush dd_M_gone_27 rfl (inRd rfl) ?_
    refine j_cVV (mm' := mm_M_goesOn) (t := 20) (i := 0) (As := [vI 176]) (rest := []) h dd_M_gone_30 (ws5 wd_1087 wd_1089 wd_53 wd_70 wd_1090) nk_M_goesOn (rok rfl) (by unfold isW; omega) ⟨_, ce_20 _⟩ rfl (Nat.le_of_ble_eq_true rfl) (fun _ => rfl) (fun a2 M1 h => ?_)
    refine j_aload_n (j := 0) dd_M_gone_33 rfl rfl ?_
    refine gf_20_18 dd_M_gone_34 wd_866 ?_
    refine j_iload_n (j := 1) dd_M_gone_37 rfl rfl ?_
    refine j_ishr dd_M_gone_38 ?_
    refine j_iconst dd_M_gone_39 (inRd rfl) ?_
    refine j_iand dd_M_gone_40 ?_
    refine j_iconst dd_M_gone_41 (inRd rfl) ?_
    refine j_icmp_ne (tgt := 47) dd_M_gone_42 (by decide) (fun c => ?_) (fun c => ?_)
    · have h := h.1 c
      refine j_iincN dd_M_gone_47 rfl rfl (fun a3 ea3 => ?_)
      have h := h a3 ea3
      refine j_goto (tgt := 20) dd_M_gone_50 (by decide) ?_
      exact j_jump h (jsub_c rfl (jsub_c rfl (jsub_c rfl jsub_0)))
    · have h := h.2 c
      refine j_iload_n (j := 2) dd_M_gone_45 rfl rfl ?_
      exact j_iret dd_M_gone_46 rfl h
theorem vc_M_rich {E : EE} {Q : Int → JM → Prop} (x1 : Int) (x2 : Int) (M : JM) (h : JC E mm_M_isOne [vR 20 0, vI x1] M (fun a2 M1 => ((a2 = 0 → Q (-1) M1) ∧ (a2 ≠ 0 → JC E mm_M_in [vL x2, vL 0, vL 999] M1 (fun a4 M3 => ((a4 ≠ 0 → JC E mm_M_copies [vR 20 0, vI 0, vI 176] M3 (fun a6 M5 => JG E mm_M_rich Q 32 [(0, vR 20 0), (1, vI x1), (2, vI x2), (3, vI 0)] [] M5)) ∧ (a4 = 0 → Q (-1) M3))))))) : JC E mm_M_rich [vR 20 0, vI x1, vI x2] M Q := by
  refine j_entry (L0 := [(0, vR 20 0), (1, vI x1), (2, vI x2)]) pn_M (Nat.le_of_ble_eq_true rfl) rfl ?_
  refine j_aload_n (j := 0) dd_M_rich_0 rfl rfl ?_
  refine j_iload_n (j := 1) dd_M_rich_1 rfl rfl ?_
  refine j_cVI (mm' := mm_M_isOne) (t := 20) (i := 0) (As := [vI x1]) (rest := []) h dd_M_rich_2 (ws5 wd_1022 wd_1024 wd_46 wd_70 wd_1025) nk_M_isOne (rok rfl) (by unfold isW; omega) ⟨_, ce_20 _⟩ rfl (Nat.le_of_ble_eq_true rfl) (fun _ => rfl) (fun a2 M1 h => ?_)
  refine j_if_eq (tgt := 20) dd_M_rich_5 (by decide) (fun c => ?_) (fun c => ?_)
  · have h := h.1 c
    refine j_iconst dd_M_rich_20 (inRd rfl) ?_
    exact j_iret dd_M_rich_21 rfl h
  · have h := h.2 c
    refine j_iload_n (j := 2) dd_M_rich_8 rfl rfl ?_
    refine j_i2l dd_M_rich_9 ?_
    refine j_lconst (x := 0) dd_M_rich_10 rfl (inLd rfl) ?_
    refine j_ldc2 (x := 999) dd_M_rich_11 wd_1060 rfl (inLd rfl) ?_
    refine j_cSI (mm' := mm_M_in) (As := [vL x2, vL 0, vL 999]) (rest := []) h dd_M_rich_14 (ws4 wd_941 wd_942 wd_70 wd_943) nk_M_in (rok rfl) (Nat.le_of_ble_eq_true rfl) (fun _ => rfl) (fun a4 M3 h => ?_)
    refine j_if_ne (tgt := 22) dd_M_rich_17 (by decide) (fun c => ?_) (fun c => ?_)
    · have h := h.1 c
      refine j_aload_n (j := 0) dd_M_rich_22 rfl rfl ?_
      refine j_iconst dd_M_rich_23 (inRd rfl) ?_
      refine j_sipush dd_M_rich_24 rfl (inRd rfl) ?_
      refine j_cVV (mm' := mm_M_copies) (t := 20) (i := 0) (As := [vI 0, vI 176]) (rest := []) h dd_M_rich_27 (ws5 wd_1031 wd_1033 wd_48 wd_70 wd_1034) nk_M_copies (rok rfl) (by unfold isW; omega) ⟨_, ce_20 _⟩ rfl (Nat.le_of_ble_eq_true rfl) (fun _ => rfl) (fun a6 M5 h => ?_)
      refine j_iconst dd_M_rich_30 (inRd rfl) ?_
      refine j_istore_n (j := 3) dd_M_rich_31 rfl (by decide) rfl ?_
      exact j_jump h (jsub_c rfl (jsub_c rfl (jsub_c rfl (jsub_c rfl jsub_0))))
    · have h := h.2 c
      refine j_iconst dd_M_rich_20 (inRd rfl) ?_
      exact j_iret dd_M_rich_21 rfl h
theorem vc_M_rich_32 {E : EE} {Q : Int → JM → Prop} (x1 : Int) (x2 : Int) (l3 : Int) (M : JM) (h : ((60 < l3 → Q (-4) M) ∧ (l3 ≤ 60 → (0 ≤ w32 (213 + x1) ∧ w32 (213 + x1) < 264) ∧ ((M 21 0 ((w32 (213 + x1)).toNat) < x2 → JC E mm_M_goesOn [vR 20 0, vI 176] M (fun a2 M1 => ∀ a3 : Int, a3 = w32 (l3 + 1) → JG E mm_M_rich Q 32 [(0, vR 20 0), (1, vI x1), (2, vI x2), (3, vI a3)] [] M1)) ∧ (x2 ≤ M 21 0 ((w32 (213 + x1)).toNat) → Q l3 M))))) : JG E mm_M_rich Q 32 [(0, vR 20 0), (1, vI x1), (2, vI x2), (3, vI l3)] [] M := by
  refine j_iload_n (j := 3) dd_M_rich_32 rfl rfl ?_
  refine j_bipush dd_M_rich_33 rfl (inRd rfl) ?_
  refine j_icmp_gt (tgt := 67) dd_M_rich_35 (by decide) (fun c => ?_) (fun c => ?_)
  · have h := h.1 c
    refine j_bipush dd_M_rich_67 rfl (inRd rfl) ?_
    exact j_iret dd_M_rich_69 rfl h
  · have h := h.2 c
    refine j_aload_n (j := 0) dd_M_rich_38 rfl rfl ?_
    refine gf_20_0 dd_M_rich_39 wd_848 ?_
    refine j_sipush dd_M_rich_42 rfl (inRd rfl) ?_
    refine j_iload_n (j := 1) dd_M_rich_45 rfl rfl ?_
    refine j_iadd dd_M_rich_46 ?_
    refine ld_21 dd_M_rich_47 h.1 ?_
    have h := h.2
    refine j_iload_n (j := 2) dd_M_rich_48 rfl rfl ?_
    refine j_icmp_lt (tgt := 54) dd_M_rich_49 (by decide) (fun c => ?_) (fun c => ?_)
    · have h := h.1 c
      refine j_aload_n (j := 0) dd_M_rich_54 rfl rfl ?_
      refine j_sipush dd_M_rich_55 rfl (inRd rfl) ?_
      refine j_cVV (mm' := mm_M_goesOn) (t := 20) (i := 0) (As := [vI 176]) (rest := []) h dd_M_rich_58 (ws5 wd_1087 wd_1089 wd_53 wd_70 wd_1090) nk_M_goesOn (rok rfl) (by unfold isW; omega) ⟨_, ce_20 _⟩ rfl (Nat.le_of_ble_eq_true rfl) (fun _ => rfl) (fun a2 M1 h => ?_)
      refine j_iincN dd_M_rich_61 rfl rfl (fun a3 ea3 => ?_)
      have h := h a3 ea3
      refine j_goto (tgt := 32) dd_M_rich_64 (by decide) ?_
      exact j_jump h (jsub_c rfl (jsub_c rfl (jsub_c rfl (jsub_c rfl jsub_0))))
    · have h := h.2 c
      refine j_iload_n (j := 3) dd_M_rich_52 rfl rfl ?_
      exact j_iret dd_M_rich_53 rfl h
theorem vc_M_arms {E : EE} {Q : Int → JM → Prop} (x1 : Int) (x2 : Int) (M : JM) (h : JC E mm_M_isOne [vR 20 0, vI x1] M (fun a2 M1 => ((a2 = 0 → Q (-1) M1) ∧ (a2 ≠ 0 → JC E mm_M_in [vL x2, vL 0, vL 2] M1 (fun a4 M3 => ((a4 ≠ 0 → JC E mm_M_storeOn [vR 20 0, vI 0] M3 (fun a6 M5 => JG E mm_M_arms Q 40 [(0, vR 20 0), (1, vI x1), (2, vI x2), (3, vI a6), (4, vI 0), (5, vI 0), (6, vI 0), (7, vI 0)] [] M5)) ∧ (a4 = 0 → Q (-1) M3))))))) : JC E mm_M_arms [vR 20 0, vI x1, vI x2] M Q := by
  refine j_entry (L0 := [(0, vR 20 0), (1, vI x1), (2, vI x2)]) pn_M (Nat.le_of_ble_eq_true rfl) rfl ?_
  refine j_aload_n (j := 0) dd_M_arms_0 rfl rfl ?_
  refine j_iload_n (j := 1) dd_M_arms_1 rfl rfl ?_
  refine j_cVI (mm' := mm_M_isOne) (t := 20) (i := 0) (As := [vI x1]) (rest := []) h dd_M_arms_2 (ws5 wd_1022 wd_1024 wd_46 wd_70 wd_1025) nk_M_isOne (rok rfl) (by unfold isW; omega) ⟨_, ce_20 _⟩ rfl (Nat.le_of_ble_eq_true rfl) (fun _ => rfl) (fun a2 M1 h => ?_)
  refine j_if_eq (tgt := 20) dd_M_arms_5 (by decide) (fun c => ?_) (fun c => ?_)
  · have h := h.1 c
    refine j_iconst dd_M_arms_20 (inRd rfl) ?_
    exact j_iret dd_M_arms_21 rfl h
  · have h := h.2 c
    refine j_iload_n (j := 2) dd_M_arms_8 rfl rfl ?_
    refine j_i2l dd_M_arms_9 ?_
    refine j_lconst (x := 0) dd_M_arms_10 rfl (inLd rfl) ?_
    refine j_ldc2 (x := 2) dd_M_arms_11 wd_1129 rfl (inLd rfl) ?_
    refine j_cSI (mm' := mm_M_in) (As := [vL x2, vL 0, vL 2]) (rest := []) h dd_M_arms_14 (ws4 wd_941 wd_942 wd_70 wd_943) nk_M_in (rok rfl) (Nat.le_of_ble_eq_true rfl) (fun _ => rfl) (fun a4 M3 h => ?_)
    refine j_if_ne (tgt := 22) dd_M_arms_17 (by decide) (fun c => ?_) (fun c => ?_)
    · have h := h.1 c
      refine j_aload_n (j := 0) dd_M_arms_22 rfl rfl ?_
      refine j_iconst dd_M_arms_23 (inRd rfl) ?_
      refine j_cVI (mm' := mm_M_storeOn) (t := 20) (i := 0) (As := [vI 0]) (rest := []) h dd_M_arms_24 (ws5 wd_993 wd_995 wd_41 wd_70 wd_996) nk_M_storeOn (rok rfl) (by unfold isW; omega) ⟨_, ce_20 _⟩ rfl (Nat.le_of_ble_eq_true rfl) (fun _ => rfl) (fun a6 M5 h => ?_)
      refine j_istore_n (j := 3) dd_M_arms_27 rfl (by decide) rfl ?_
      refine j_iconst dd_M_arms_28 (inRd rfl) ?_
      refine j_istore (j := 4) dd_M_arms_29 (by decide) rfl ?_
      refine j_iconst dd_M_arms_31 (inRd rfl) ?_
      refine j_istore (j := 5) dd_M_arms_32 (by decide) rfl ?_
      refine j_iconst dd_M_arms_34 (inRd rfl) ?_
      refine j_istore (j := 6) dd_M_arms_35 (by decide) rfl ?_
      refine j_iconst dd_M_arms_37 (inRd rfl) ?_
      refine j_istore (j := 7) dd_M_arms_38 (by decide) rfl ?_
      exact j_jump h (jsub_c rfl (jsub_c rfl (jsub_c rfl (jsub_c rfl (jsub_c rfl (jsub_c rfl (jsub_c rfl (jsub_c rfl jsub_0))))))))
    · have h := h.2 c
      refine j_iconst dd_M_arms_20 (inRd rfl) ?_
      exact j_iret dd_M_arms_21 rfl h
theorem vc_M_arms_40 {E : EE} {Q : Int → JM → Prop} (x1 : Int) (x2 : Int) (l3 : Int) (l4 : Int) (l5 : Int) (l6 : Int) (l7 : Int) (M : JM) (h : ((shl32 1 (M 21 0 32) ≤ l7 → ((x2 ≠ 0 → ((x2 ≠ 1 → Q l6 M) ∧ (x2 = 1 → Q l5 M))) ∧ (x2 = 0 → Q l4 M))) ∧ (l7 < shl32 1 (M 21 0 32) → JG E mm_M_arms Q 60 [(0, vR 20 0), (1, vI x1), (2, vI x2), (3, vI l3), (4, vI l4), (5, vI l5), (6, vI l6), (7, vI l7), (8, vI 0), (9, vI 0)] [] M))) : JG E mm_M_arms Q 40 [(0, vR 20 0), (1, vI x1), (2, vI x2), (3, vI l3), (4, vI l4), (5, vI l5), (6, vI l6), (7, vI l7)] [] M := by
  refine j_iload (j := 7) dd_M_arms_40 rfl ?_
  refine j_iconst dd_M_arms_42 (inRd rfl) ?_
  refine j_aload_n (j := 0) dd_M_arms_43 rfl rfl ?_
  refine gf_20_0 dd_M_arms_44 wd_848 ?_
  refine j_bipush dd_M_arms_47 rfl (inRd rfl) ?_
  refine ld_21 dd_M_arms_49 ⟨by decide, by decide⟩ ?_
  refine j_ishl dd_M_arms_50 ?_
  refine j_icmp_ge (tgt := 163) dd_M_arms_51 (by decide) (fun c => ?_) (fun c => ?_)
  · have h := h.1 c
    refine j_iload_n (j := 2) dd_M_arms_163 rfl rfl ?_
    refine j_if_ne (tgt := 172) dd_M_arms_164 (by decide) (fun c => ?_) (fun c => ?_)
    · have h := h.1 c
      refine j_iload_n (j := 2) dd_M_arms_172 rfl rfl ?_
      refine j_iconst dd_M_arms_173 (inRd rfl) ?_
      refine j_icmp_ne (tgt := 182) dd_M_arms_174 (by decide) (fun c => ?_) (fun c => ?_)
      · have h := h.1 c
        refine j_iload (j := 6) dd_M_arms_182 rfl ?_
        exact j_iret dd_M_arms_184 rfl h
      · have h := h.2 c
        refine j_iload (j := 5) dd_M_arms_177 rfl ?_
        refine j_goto (tgt := 184) dd_M_arms_179 (by decide) ?_
        exact j_iret dd_M_arms_184 rfl h
    · have h := h.2 c
      refine j_iload (j := 4) dd_M_arms_167 rfl ?_
      refine j_goto (tgt := 184) dd_M_arms_169 (by decide) ?_
      exact j_iret dd_M_arms_184 rfl h
  · have h := h.2 c
    refine j_iconst dd_M_arms_54 (inRd rfl) ?_
    refine j_istore (j := 8) dd_M_arms_55 (by decide) rfl ?_
    refine j_iconst dd_M_arms_57 (inRd rfl) ?_
    refine j_istore (j := 9) dd_M_arms_58 (by decide) rfl ?_
    exact j_jump h (jsub_c rfl (jsub_c rfl (jsub_c rfl (jsub_c rfl (jsub_c rfl (jsub_c rfl (jsub_c rfl (jsub_c rfl (jsub_c rfl (jsub_c rfl jsub_0))))))))))
theorem vc_M_arms_60 {E : EE} {Q : Int → JM → Prop} (x1 : Int) (x2 : Int) (l3 : Int) (l4 : Int) (l5 : Int) (l6 : Int) (l7 : Int) (l8 : Int) (l9 : Int) (M : JM) (h : ((M 21 0 32 ≤ l9 → ((and32 l7 l3 ≠ l7 → ∀ a1 : Int, a1 = w32 (l7 + 1) → JG E mm_M_arms Q 40 [(0, vR 20 0), (1, vI x1), (2, vI x2), (3, vI l3), (4, vI l4), (5, vI l5), (6, vI l6), (7, vI a1)] [] M) ∧ (and32 l7 l3 = l7 → (0 ≤ w32 (33 + x1) ∧ w32 (33 + x1) < 264) ∧ ((M 21 0 ((w32 (33 + x1)).toNat) < l8 → ∀ a2 : Int, a2 = w32 (l7 + 1) → JG E mm_M_arms Q 40 [(0, vR 20 0), (1, vI x1), (2, vI x2), (3, vI l3), (4, vI l4), (5, vI l5), (6, vI l6), (7, vI a2)] [] M) ∧ (l8 ≤ M 21 0 ((w32 (33 + x1)).toNat) → JC E mm_M_paysAll [vR 20 0, vI 0, vI l7] M (fun a4 M3 => ((a4 ≤ l5 → ∀ a5 : Int, a5 = w32 (l7 + 1) → JG E mm_M_arms Q 40 [(0, vR 20 0), (1, vI x1), (2, vI x2), (3, vI l3), (4, vI l4), (5, vI l5), (6, vI l6), (7, vI a5)] [] M3) ∧ (l5 < a4 → JC E mm_M_paysAll [vR 20 0, vI 0, vI l7] M3 (fun a7 M6 => ∀ a8 : Int, a8 = w32 (l7 + 1) → JG E mm_M_arms Q 40 [(0, vR 20 0), (1, vI x1), (2, vI x2), (3, vI l3), (4, vI l7), (5, vI a7), (6, vI l8), (7, vI a8)] [] M6))))))))) ∧ (l9 < M 21 0 32 → ((and32 (shr32 l7 l9) 1 ≠ 1 → JG E mm_M_arms Q 96 [(0, vR 20 0), (1, vI x1), (2, vI x2), (3, vI l3), (4, vI l4), (5, vI l5), (6, vI l6), (7, vI l7), (9, vI l9)] [vI 0, vI l8] M) ∧ (and32 (shr32 l7 l9) 1 = 1 → JC E mm_M_heftOn [vR 20 0, vI 0, vI l9] M (fun a10 M9 => JG E mm_M_arms Q 96 [(0, vR 20 0), (1, vI x1), (2, vI x2), (3, vI l3), (4, vI l4), (5, vI l5), (6, vI l6), (7, vI l7), (9, vI l9)] [vI a10, vI l8] M9)))))) : JG E mm_M_arms Q 60 [(0, vR 20 0), (1, vI x1), (2, vI x2), (3, vI l3), (4, vI l4), (5, vI l5), (6, vI l6), (7, vI l7), (8, vI l8), (9, vI l9)] [] M := by
  refine j_iload (j := 9) dd_M_arms_60 rfl ?_
  refine j_aload_n (j := 0) dd_M_arms_62 rfl rfl ?_
  refine gf_20_0 dd_M_arms_63 wd_848 ?_
  refine j_bipush dd_M_arms_66 rfl (inRd rfl) ?_
  refine ld_21 dd_M_arms_68 ⟨by decide, by decide⟩ ?_
  refine j_icmp_ge (tgt := 105) dd_M_arms_69 (by decide) (fun c => ?_) (fun c => ?_)
  · have h := h.1 c
    refine j_iload (j := 7) dd_M_arms_105 rfl ?_
    refine j_iload_n (j := 3) dd_M_arms_107 rfl rfl ?_
    refine j_iand dd_M_arms_108 ?_
    refine j_iload (j := 7) dd_M_arms_109 rfl ?_
    refine j_icmp_ne (tgt := 157) dd_M_arms_111 (by decide) (fun c => ?_) (fun c => ?_)
    · have h := h.1 c
      refine j_iincN dd_M_arms_157 rfl rfl (fun a1 ea1 => ?_)
      have h := h a1 ea1
      refine j_goto (tgt := 40) dd_M_arms_160 (by decide) ?_
      exact j_jump h (jsub_c rfl (jsub_c rfl (jsub_c rfl (jsub_c rfl (jsub_c rfl (jsub_c rfl (jsub_c rfl (jsub_c rfl jsub_0))))))))
    · have h := h.2 c
      refine j_iload (j := 8) dd_M_arms_114 rfl ?_
      refine j_aload_n (j := 0) dd_M_arms_116 rfl rfl ?_
      refine gf_20_0 dd_M_arms_117 wd_848 ?_
      refine j_bipush dd_M_arms_120 rfl (inRd rfl) ?_
      refine j_iload_n (j := 1) dd_M_arms_122 rfl rfl ?_
      refine j_iadd dd_M_arms_123 ?_
      refine ld_21 dd_M_arms_124 h.1 ?_
      have h := h.2
      refine j_icmp_gt (tgt := 157) dd_M_arms_125 (by decide) (fun c => ?_) (fun c => ?_)
      · have h := h.1 c
        refine j_iincN dd_M_arms_157 rfl rfl (fun a2 ea2 => ?_)
        have h := h a2 ea2
        refine j_goto (tgt := 40) dd_M_arms_160 (by decide) ?_
        exact j_jump h (jsub_c rfl (jsub_c rfl (jsub_c rfl (jsub_c rfl (jsub_c rfl (jsub_c rfl (jsub_c rfl (jsub_c rfl jsub_0))))))))
      · have h := h.2 c
        refine j_aload_n (j := 0) dd_M_arms_128 rfl rfl ?_
        refine j_iconst dd_M_arms_129 (inRd rfl) ?_
        refine j_iload (j := 7) dd_M_arms_130 rfl ?_
        refine j_cVI (mm' := mm_M_paysAll) (t := 20) (i := 0) (As := [vI 0, vI l7]) (rest := []) h dd_M_arms_132 (ws5 wd_1095 wd_1097 wd_55 wd_70 wd_1098) nk_M_paysAll (rok rfl) (by unfold isW; omega) ⟨_, ce_20 _⟩ rfl (Nat.le_of_ble_eq_true rfl) (fun _ => rfl) (fun a4 M3 h => ?_)
        refine j_iload (j := 5) dd_M_arms_135 rfl ?_
        refine j_icmp_le (tgt := 157) dd_M_arms_137 (by decide) (fun c => ?_) (fun c => ?_)
        · have h := h.1 c
          refine j_iincN dd_M_arms_157 rfl rfl (fun a5 ea5 => ?_)
          have h := h a5 ea5
          refine j_goto (tgt := 40) dd_M_arms_160 (by decide) ?_
          exact j_jump h (jsub_c rfl (jsub_c rfl (jsub_c rfl (jsub_c rfl (jsub_c rfl (jsub_c rfl (jsub_c rfl (jsub_c rfl jsub_0))))))))
        · have h := h.2 c
          refine j_iload (j := 7) dd_M_arms_140 rfl ?_
          refine j_istore (j := 4) dd_M_arms_142 (by decide) rfl ?_
          refine j_aload_n (j := 0) dd_M_arms_144 rfl rfl ?_
          refine j_iconst dd_M_arms_145 (inRd rfl) ?_
          refine j_iload (j := 7) dd_M_arms_146 rfl ?_
          refine j_cVI (mm' := mm_M_paysAll) (t := 20) (i := 0) (As := [vI 0, vI l7]) (rest := []) h dd_M_arms_148 (ws5 wd_1095 wd_1097 wd_55 wd_70 wd_1098) nk_M_paysAll (rok rfl) (by unfold isW; omega) ⟨_, ce_20 _⟩ rfl (Nat.le_of_ble_eq_true rfl) (fun _ => rfl) (fun a7 M6 h => ?_)
          refine j_istore (j := 5) dd_M_arms_151 (by decide) rfl ?_
          refine j_iload (j := 8) dd_M_arms_153 rfl ?_
          refine j_istore (j := 6) dd_M_arms_155 (by decide) rfl ?_
          refine j_iincN dd_M_arms_157 rfl rfl (fun a8 ea8 => ?_)
          have h := h a8 ea8
          refine j_goto (tgt := 40) dd_M_arms_160 (by decide) ?_
          exact j_jump h (jsub_c rfl (jsub_c rfl (jsub_c rfl (jsub_c rfl (jsub_c rfl (jsub_c rfl (jsub_c rfl (jsub_c rfl jsub_0))))))))
  · have h := h.2 c
    refine j_iload (j := 8) dd_M_arms_72 rfl ?_
    refine j_iload (j := 7) dd_M_arms_74 rfl ?_
    refine j_iload (j := 9) dd_M_arms_76 rfl ?_
    refine j_ishr dd_M_arms_78 ?_
    refine j_iconst dd_M_arms_79 (inRd rfl) ?_
    refine j_iand dd_M_arms_80 ?_
    refine j_iconst dd_M_arms_81 (inRd rfl) ?_
    refine j_icmp_ne (tgt := 95) dd_M_arms_82 (by decide) (fun c => ?_) (fun c => ?_)
    · have h := h.1 c
      refine j_iconst dd_M_arms_95 (inRd rfl) ?_
      exact j_jump h (jsub_c rfl (jsub_c rfl (jsub_c rfl (jsub_c rfl (jsub_c rfl (jsub_c rfl (jsub_c rfl (jsub_c rfl (jsub_c rfl jsub_0)))))))))
    · have h := h.2 c
      refine j_aload_n (j := 0) dd_M_arms_85 rfl rfl ?_
      refine j_iconst dd_M_arms_86 (inRd rfl) ?_
      refine j_iload (j := 9) dd_M_arms_87 rfl ?_
      refine j_cVI (mm' := mm_M_heftOn) (t := 20) (i := 0) (As := [vI 0, vI l9]) (rest := [vI l8]) h dd_M_arms_89 (ws5 wd_1010 wd_1012 wd_44 wd_70 wd_1013) nk_M_heftOn (rok rfl) (by unfold isW; omega) ⟨_, ce_20 _⟩ rfl (Nat.le_of_ble_eq_true rfl) (fun _ => rfl) (fun a10 M9 h => ?_)
      refine j_goto (tgt := 96) dd_M_arms_92 (by decide) ?_
      exact j_jump h (jsub_c rfl (jsub_c rfl (jsub_c rfl (jsub_c rfl (jsub_c rfl (jsub_c rfl (jsub_c rfl (jsub_c rfl (jsub_c rfl jsub_0)))))))))
theorem vc_M_arms_96 {E : EE} {Q : Int → JM → Prop} (x1 : Int) (x2 : Int) (l3 : Int) (l4 : Int) (l5 : Int) (l6 : Int) (l7 : Int) (l9 : Int) (s0 : Int) (s1 : Int) (M : JM) (h : ∀ a1 : Int, a1 = w32 (s0 + s1) → ∀ a2 : Int, a2 = w32 (l9 + 1) → JG E mm_M_arms Q 60 [(0, vR 20 0), (1, vI x1), (2, vI x2), (3, vI l3), (4, vI l4), (5, vI l5), (6, vI l6), (7, vI l7), (8, vI a1), (9, vI a2)] [] M) : JG E mm_M_arms Q 96 [(0, vR 20 0), (1, vI x1), (2, vI x2), (3, vI l3), (4, vI l4), (5, vI l5), (6, vI l6), (7, vI l7), (9, vI l9)] [vI s1, vI s0] M := by
  refine j_iadd dd_M_arms_96 ?_
  refine j_topI (fun a1 ea1 => ?_)
  have h := h a1 ea1
  refine j_istore (j := 8) dd_M_arms_97 (by decide) rfl ?_
  refine j_iincN dd_M_arms_99 rfl rfl (fun a2 ea2 => ?_)
  have h := h a2 ea2
  refine j_goto (tgt := 60) dd_M_arms_102 (by decide) ?_
  exact j_jump h (jsub_c rfl (jsub_c rfl (jsub_c rfl (jsub_c rfl (jsub_c rfl (jsub_c rfl (jsub_c rfl (jsub_c rfl (jsub_c rfl (jsub_c rfl jsub_0))))))))))
theorem vc_M_need {E : EE} {Q : Int → JM → Prop} (x1 : Int) (x2 : Int) (M : JM) (h : JC E mm_M_isOne [vR 20 0, vI x1] M (fun a2 M1 => ((a2 = 0 → Q (-1) M1) ∧ (a2 ≠ 0 → JC E mm_M_isGoods [vR 20 0, vI x2] M1 (fun a4 M3 => ((a4 ≠ 0 → JC E mm_M_copies [vR 20 0, vI 0, vI 220] M3 (fun a6 M5 => JG E mm_M_need Q 28 [(0, vR 20 0), (1, vI x1), (2, vI x2), (3, vI 1)] [] M5)) ∧ (a4 = 0 → Q (-1) M3))))))) : JC E mm_M_need [vR 20 0, vI x1, vI x2] M Q := by
  refine j_entry (L0 := [(0, vR 20 0), (1, vI x1), (2, vI x2)]) pn_M (Nat.le_of_ble_eq_true rfl) rfl ?_
  refine j_aload_n (j := 0) dd_M_need_0 rfl rfl ?_
  refine j_iload_n (j := 1) dd_M_need_1 rfl rfl ?_
  refine j_cVI (mm' := mm_M_isOne) (t := 20) (i := 0) (As := [vI x1]) (rest := []) h dd_M_need_2 (ws5 wd_1022 wd_1024 wd_46 wd_70 wd_1025) nk_M_isOne (rok rfl) (by unfold isW; omega) ⟨_, ce_20 _⟩ rfl (Nat.le_of_ble_eq_true rfl) (fun _ => rfl) (fun a2 M1 h => ?_)
  refine j_if_eq (tgt := 16) dd_M_need_5 (by decide) (fun c => ?_) (fun c => ?_)
  · have h := h.1 c
    refine j_iconst dd_M_need_16 (inRd rfl) ?_
    exact j_iret dd_M_need_17 rfl h
  · have h := h.2 c
    refine j_aload_n (j := 0) dd_M_need_8 rfl rfl ?_
    refine j_iload_n (j := 2) dd_M_need_9 rfl rfl ?_
    refine j_cVI (mm' := mm_M_isGoods) (t := 20) (i := 0) (As := [vI x2]) (rest := []) h dd_M_need_10 (ws5 wd_1005 wd_1007 wd_43 wd_70 wd_1008) nk_M_isGoods (rok rfl) (by unfold isW; omega) ⟨_, ce_20 _⟩ rfl (Nat.le_of_ble_eq_true rfl) (fun _ => rfl) (fun a4 M3 h => ?_)
    refine j_if_ne (tgt := 18) dd_M_need_13 (by decide) (fun c => ?_) (fun c => ?_)
    · have h := h.1 c
      refine j_aload_n (j := 0) dd_M_need_18 rfl rfl ?_
      refine j_iconst dd_M_need_19 (inRd rfl) ?_
      refine j_sipush dd_M_need_20 rfl (inRd rfl) ?_
      refine j_cVV (mm' := mm_M_copies) (t := 20) (i := 0) (As := [vI 0, vI 220]) (rest := []) h dd_M_need_23 (ws5 wd_1031 wd_1033 wd_48 wd_70 wd_1034) nk_M_copies (rok rfl) (by unfold isW; omega) ⟨_, ce_20 _⟩ rfl (Nat.le_of_ble_eq_true rfl) (fun _ => rfl) (fun a6 M5 h => ?_)
      refine j_iconst dd_M_need_26 (inRd rfl) ?_
      refine j_istore_n (j := 3) dd_M_need_27 rfl (by decide) rfl ?_
      exact j_jump h (jsub_c rfl (jsub_c rfl (jsub_c rfl (jsub_c rfl jsub_0))))
    · have h := h.2 c
      refine j_iconst dd_M_need_16 (inRd rfl) ?_
      exact j_iret dd_M_need_17 rfl h
theorem vc_M_need_28 {E : EE} {Q : Int → JM → Prop} (x1 : Int) (x2 : Int) (l3 : Int) (M : JM) (h : ((20 < l3 → Q (-4) M) ∧ (l3 ≤ 20 → (0 ≤ w32 (253 + x1) ∧ w32 (253 + x1) < 264) ∧ ∀ M1 : JM, M1 = pt M 21 0 ((w32 (253 + x1)).toNat) l3 → JC E mm_M_tries [vR 20 0, vI 220] M1 (fun a3 M2 => (0 ≤ x1 ∧ x1 < 4) ∧ ((and32 (shr32 (M2 26 0 x1.toNat) x2) 1 ≠ 1 → ∀ a4 : Int, a4 = w32 (l3 + 1) → JG E mm_M_need Q 28 [(0, vR 20 0), (1, vI x1), (2, vI x2), (3, vI a4)] [] M2) ∧ (and32 (shr32 (M2 26 0 x1.toNat) x2) 1 = 1 → Q l3 M2)))))) : JG E mm_M_need Q 28 [(0, vR 20 0), (1, vI x1), (2, vI x2), (3, vI l3)] [] M := by
  refine j_iload_n (j := 3) dd_M_need_28 rfl rfl ?_
  refine j_bipush dd_M_need_29 rfl (inRd rfl) ?_
  refine j_icmp_gt (tgt := 74) dd_M_need_31 (by decide) (fun c => ?_) (fun c => ?_)
  · have h := h.1 c
    refine j_bipush dd_M_need_74 rfl (inRd rfl) ?_
    exact j_iret dd_M_need_76 rfl h
  · have h := h.2 c
    refine j_aload_n (j := 0) dd_M_need_34 rfl rfl ?_
    refine gf_20_0 dd_M_need_35 wd_848 ?_
    refine j_sipush dd_M_need_38 rfl (inRd rfl) ?_
    refine j_iload_n (j := 1) dd_M_need_41 rfl rfl ?_
    refine j_iadd dd_M_need_42 ?_
    refine j_iload_n (j := 3) dd_M_need_43 rfl rfl ?_
    refine st_21 dd_M_need_44 h.1 (fun M1 eM1 => ?_)
    have h := h.2
    have h := h M1 eM1
    refine j_aload_n (j := 0) dd_M_need_45 rfl rfl ?_
    refine j_sipush dd_M_need_46 rfl (inRd rfl) ?_
    refine j_cVV (mm' := mm_M_tries) (t := 20) (i := 0) (As := [vI 220]) (rest := []) h dd_M_need_49 (ws5 wd_1027 wd_1029 wd_47 wd_70 wd_1030) nk_M_tries (rok rfl) (by unfold isW; omega) ⟨_, ce_20 _⟩ rfl (Nat.le_of_ble_eq_true rfl) (fun _ => rfl) (fun a3 M2 h => ?_)
    refine j_aload_n (j := 0) dd_M_need_52 rfl rfl ?_
    refine gf_20_16 dd_M_need_53 wd_864 ?_
    refine j_iload_n (j := 1) dd_M_need_56 rfl rfl ?_
    refine ld_26 dd_M_need_57 h.1 ?_
    have h := h.2
    refine j_iload_n (j := 2) dd_M_need_58 rfl rfl ?_
    refine j_ishr dd_M_need_59 ?_
    refine j_iconst dd_M_need_60 (inRd rfl) ?_
    refine j_iand dd_M_need_61 ?_
    refine j_iconst dd_M_need_62 (inRd rfl) ?_
    refine j_icmp_ne (tgt := 68) dd_M_need_63 (by decide) (fun c => ?_) (fun c => ?_)
    · have h := h.1 c
      refine j_iincN dd_M_need_68 rfl rfl (fun a4 ea4 => ?_)
      have h := h a4 ea4
      refine j_goto (tgt := 28) dd_M_need_71 (by decide) ?_
      exact j_jump h (jsub_c rfl (jsub_c rfl (jsub_c rfl (jsub_c rfl jsub_0))))
    · have h := h.2 c
      refine j_iload_n (j := 3) dd_M_need_66 rfl rfl ?_
      exact j_iret dd_M_need_67 rfl h
theorem vc_M_fair {E : EE} {Q : Int → JM → Prop} (x1 : Int) (x2 : Int) (M : JM) (h : JC E mm_M_in [vL x1, vL 0, vL 60] M (fun a2 M1 => ((a2 = 0 → Q (-1) M1) ∧ (a2 ≠ 0 → JC E mm_M_in [vL x2, vL 0, vL 1] M1 (fun a4 M3 => ((a4 ≠ 0 → ((M3 20 0 1 ≠ 0 → JC E mm_M_copies [vR 20 0, vI 0, vI 220] M3 (fun a6 M5 => JG E mm_M_fair Q 50 [(0, vR 20 0), (1, vI x1), (2, vI x2), (3, vI (-1)), (4, vI 0), (5, vI 0)] [] M5)) ∧ (M3 20 0 1 = 0 → Q (-2) M3))) ∧ (a4 = 0 → Q (-1) M3))))))) : JC E mm_M_fair [vR 20 0, vI x1, vI x2] M Q := by
  refine j_entry (L0 := [(0, vR 20 0), (1, vI x1), (2, vI x2)]) pn_M (Nat.le_of_ble_eq_true rfl) rfl ?_
  refine j_iload_n (j := 1) dd_M_fair_0 rfl rfl ?_
  refine j_i2l dd_M_fair_1 ?_
  refine j_lconst (x := 0) dd_M_fair_2 rfl (inLd rfl) ?_
  refine j_ldc2 (x := 60) dd_M_fair_3 wd_1103 rfl (inLd rfl) ?_
  refine j_cSI (mm' := mm_M_in) (As := [vL x1, vL 0, vL 60]) (rest := []) h dd_M_fair_6 (ws4 wd_941 wd_942 wd_70 wd_943) nk_M_in (rok rfl) (Nat.le_of_ble_eq_true rfl) (fun _ => rfl) (fun a2 M1 h => ?_)
  refine j_if_eq (tgt := 22) dd_M_fair_9 (by decide) (fun c => ?_) (fun c => ?_)
  · have h := h.1 c
    refine j_iconst dd_M_fair_22 (inRd rfl) ?_
    exact j_iret dd_M_fair_23 rfl h
  · have h := h.2 c
    refine j_iload_n (j := 2) dd_M_fair_12 rfl rfl ?_
    refine j_i2l dd_M_fair_13 ?_
    refine j_lconst (x := 0) dd_M_fair_14 rfl (inLd rfl) ?_
    refine j_lconst (x := 1) dd_M_fair_15 rfl (inLd rfl) ?_
    refine j_cSI (mm' := mm_M_in) (As := [vL x2, vL 0, vL 1]) (rest := []) h dd_M_fair_16 (ws4 wd_941 wd_942 wd_70 wd_943) nk_M_in (rok rfl) (Nat.le_of_ble_eq_true rfl) (fun _ => rfl) (fun a4 M3 h => ?_)
    refine j_if_ne (tgt := 24) dd_M_fair_19 (by decide) (fun c => ?_) (fun c => ?_)
    · have h := h.1 c
      refine j_aload_n (j := 0) dd_M_fair_24 rfl rfl ?_
      refine gf_20_1 dd_M_fair_25 wd_849 ?_
      refine j_if_ne (tgt := 34) dd_M_fair_28 (by decide) (fun c => ?_) (fun c => ?_)
      · have h := h.1 c
        refine j_iconst dd_M_fair_34 (inRd rfl) ?_
        refine j_istore_n (j := 3) dd_M_fair_35 rfl (by decide) rfl ?_
        refine j_iconst dd_M_fair_36 (inRd rfl) ?_
        refine j_istore (j := 4) dd_M_fair_37 (by decide) rfl ?_
        refine j_aload_n (j := 0) dd_M_fair_39 rfl rfl ?_
        refine j_iconst dd_M_fair_40 (inRd rfl) ?_
        refine j_sipush dd_M_fair_41 rfl (inRd rfl) ?_
        refine j_cVV (mm' := mm_M_copies) (t := 20) (i := 0) (As := [vI 0, vI 220]) (rest := []) h dd_M_fair_44 (ws5 wd_1031 wd_1033 wd_48 wd_70 wd_1034) nk_M_copies (rok rfl) (by unfold isW; omega) ⟨_, ce_20 _⟩ rfl (Nat.le_of_ble_eq_true rfl) (fun _ => rfl) (fun a6 M5 h => ?_)
        refine j_iconst dd_M_fair_47 (inRd rfl) ?_
        refine j_istore (j := 5) dd_M_fair_48 (by decide) rfl ?_
        exact j_jump h (jsub_c rfl (jsub_c rfl (jsub_c rfl (jsub_c rfl (jsub_c rfl (jsub_c rfl jsub_0))))))
      · have h := h.2 c
        refine j_bipush dd_M_fair_31 rfl (inRd rfl) ?_
        exact j_iret dd_M_fair_33 rfl h
    · have h := h.2 c
      refine j_iconst dd_M_fair_22 (inRd rfl) ?_
      exact j_iret dd_M_fair_23 rfl h
theorem vc_M_fair_50 {E : EE} {Q : Int → JM → Prop} (x1 : Int) (x2 : Int) (l3 : Int) (l4 : Int) (l5 : Int) (M : JM) (h : ((6 < l5 → ((x2 ≠ 0 → Q l3 M) ∧ (x2 = 0 → Q l4 M))) ∧ (l5 ≤ 6 → ∀ M1 : JM, M1 = pt M 21 0 261 (w32 (l5 - 2)) → JC E mm_M_weeksGo [vR 20 0, vI 220, vI x1] M1 (fun a3 M2 => JC E mm_M_leastOn [vR 20 0, vI 176] M2 (fun a5 M4 => ((a5 ≤ l3 → JG E mm_M_fair Q 100 [(0, vR 20 0), (1, vI x1), (2, vI x2), (3, vI l3), (5, vI l5), (6, vI a5)] [vI l4] M4) ∧ (l3 < a5 → JG E mm_M_fair Q 100 [(0, vR 20 0), (1, vI x1), (2, vI x2), (3, vI l3), (5, vI l5), (6, vI a5)] [vI l5] M4))))))) : JG E mm_M_fair Q 50 [(0, vR 20 0), (1, vI x1), (2, vI x2), (3, vI l3), (4, vI l4), (5, vI l5)] [] M := by
  refine j_iload (j := 5) dd_M_fair_50 rfl ?_
  refine j_bipush dd_M_fair_52 rfl (inRd rfl) ?_
  refine j_icmp_gt (tgt := 121) dd_M_fair_54 (by decide) (fun c => ?_) (fun c => ?_)
  · have h := h.1 c
    refine j_iload_n (j := 2) dd_M_fair_121 rfl rfl ?_
    refine j_if_ne (tgt := 130) dd_M_fair_122 (by decide) (fun c => ?_) (fun c => ?_)
    · have h := h.1 c
      refine j_iload_n (j := 3) dd_M_fair_130 rfl rfl ?_
      exact j_iret dd_M_fair_131 rfl h
    · have h := h.2 c
      refine j_iload (j := 4) dd_M_fair_125 rfl ?_
      refine j_goto (tgt := 131) dd_M_fair_127 (by decide) ?_
      exact j_iret dd_M_fair_131 rfl h
  · have h := h.2 c
    refine j_aload_n (j := 0) dd_M_fair_57 rfl rfl ?_
    refine gf_20_0 dd_M_fair_58 wd_848 ?_
    refine j_sipush dd_M_fair_61 rfl (inRd rfl) ?_
    refine j_iload (j := 5) dd_M_fair_64 rfl ?_
    refine j_iconst dd_M_fair_66 (inRd rfl) ?_
    refine j_isub dd_M_fair_67 ?_
    refine st_21 dd_M_fair_68 ⟨by decide, by decide⟩ (fun M1 eM1 => ?_)
    have h := h M1 eM1
    refine j_aload_n (j := 0) dd_M_fair_69 rfl rfl ?_
    refine j_sipush dd_M_fair_70 rfl (inRd rfl) ?_
    refine j_iload_n (j := 1) dd_M_fair_73 rfl rfl ?_
    refine j_cVI (mm' := mm_M_weeksGo) (t := 20) (i := 0) (As := [vI 220, vI x1]) (rest := []) h dd_M_fair_74 (ws5 wd_1105 wd_1107 wd_56 wd_70 wd_1108) nk_M_weeksGo (rok rfl) (by unfold isW; omega) ⟨_, ce_20 _⟩ rfl (Nat.le_of_ble_eq_true rfl) (fun _ => rfl) (fun a3 M2 h => ?_)
    refine j_pop dd_M_fair_77 rfl ?_
    refine j_aload_n (j := 0) dd_M_fair_78 rfl rfl ?_
    refine j_sipush dd_M_fair_79 rfl (inRd rfl) ?_
    refine j_cVI (mm' := mm_M_leastOn) (t := 20) (i := 0) (As := [vI 176]) (rest := []) h dd_M_fair_82 (ws5 wd_1109 wd_1111 wd_57 wd_70 wd_1112) nk_M_leastOn (rok rfl) (by unfold isW; omega) ⟨_, ce_20 _⟩ rfl (Nat.le_of_ble_eq_true rfl) (fun _ => rfl) (fun a5 M4 h => ?_)
    refine j_istore (j := 6) dd_M_fair_85 (by decide) rfl ?_
    refine j_iload (j := 6) dd_M_fair_87 rfl ?_
    refine j_iload_n (j := 3) dd_M_fair_89 rfl rfl ?_
    refine j_icmp_le (tgt := 98) dd_M_fair_90 (by decide) (fun c => ?_) (fun c => ?_)
    · have h := h.1 c
      refine j_iload (j := 4) dd_M_fair_98 rfl ?_
      exact j_jump h (jsub_c rfl (jsub_c rfl (jsub_c rfl (jsub_c rfl (jsub_c rfl (jsub_c rfl jsub_0))))))
    · have h := h.2 c
      refine j_iload (j := 5) dd_M_fair_93 rfl ?_
      refine j_goto (tgt := 100) dd_M_fair_95 (by decide) ?_
      exact j_jump h (jsub_c rfl (jsub_c rfl (jsub_c rfl (jsub_c rfl (jsub_c rfl (jsub_c rfl jsub_0))))))
theorem vc_M_fair_100 {E : EE} {Q : Int → JM → Prop} (x1 : Int) (x2 : Int) (l3 : Int) (l5 : Int) (l6 : Int) (s0 : Int) (M : JM) (h : ((l6 ≤ l3 → ∀ a1 : Int, a1 = w32 (l5 + 1) → JG E mm_M_fair Q 50 [(0, vR 20 0), (1, vI x1), (2, vI x2), (3, vI l3), (4, vI s0), (5, vI a1)] [] M) ∧ (l3 < l6 → ∀ a2 : Int, a2 = w32 (l5 + 1) → JG E mm_M_fair Q 50 [(0, vR 20 0), (1, vI x1), (2, vI x2), (3, vI l6), (4, vI s0), (5, vI a2)] [] M))) : JG E mm_M_fair Q 100 [(0, vR 20 0), (1, vI x1), (2, vI x2), (3, vI l3), (5, vI l5), (6, vI l6)] [vI s0] M := by
  refine j_istore (j := 4) dd_M_fair_100 (by decide) rfl ?_
  refine j_iload (j := 6) dd_M_fair_102 rfl ?_
  refine j_iload_n (j := 3) dd_M_fair_104 rfl rfl ?_
  refine j_icmp_le (tgt := 113) dd_M_fair_105 (by decide) (fun c => ?_) (fun c => ?_)
  · have h := h.1 c
    refine j_iload_n (j := 3) dd_M_fair_113 rfl rfl ?_
    refine j_istore_n (j := 3) dd_M_fair_114 rfl (by decide) rfl ?_
    refine j_iincN dd_M_fair_115 rfl rfl (fun a1 ea1 => ?_)
    have h := h a1 ea1
    refine j_goto (tgt := 50) dd_M_fair_118 (by decide) ?_
    exact j_jump h (jsub_c rfl (jsub_c rfl (jsub_c rfl (jsub_c rfl (jsub_c rfl (jsub_c rfl jsub_0))))))
  · have h := h.2 c
    refine j_iload (j := 6) dd_M_fair_108 rfl ?_
    refine j_goto (tgt := 114) dd_M_fair_110 (by decide) ?_
    refine j_istore_n (j := 3) dd_M_fair_114 rfl (by decide) rfl ?_
    refine j_iincN dd_M_fair_115 rfl rfl (fun a2 ea2 => ?_)
    have h := h a2 ea2
    refine j_goto (tgt := 50) dd_M_fair_118 (by decide) ?_
    exact j_jump h (jsub_c rfl (jsub_c rfl (jsub_c rfl (jsub_c rfl (jsub_c rfl (jsub_c rfl jsub_0))))))
theorem vc_M_swap {E : EE} {Q : Int → JM → Prop} (x1 : Int) (x2 : Int) (M : JM) (h : JC E mm_M_in [vL x1, vL 0, vL 60] M (fun a2 M1 => ((a2 = 0 → Q (-1) M1) ∧ (a2 ≠ 0 → JC E mm_M_in [vL x2, vL 0, vL 1] M1 (fun a4 M3 => ((a4 ≠ 0 → JC E mm_M_weeksGo [vR 20 0, vI 0, vI x1] M3 (fun a6 M5 => JG E mm_M_swap Q 38 [(0, vR 20 0), (1, vI x1), (2, vI x2), (3, vI a6), (4, vI (-4)), (5, vI 0)] [] M5)) ∧ (a4 = 0 → Q (-1) M3))))))) : JC E mm_M_swap [vR 20 0, vI x1, vI x2] M Q := by
  refine j_entry (L0 := [(0, vR 20 0), (1, vI x1), (2, vI x2)]) pn_M (Nat.le_of_ble_eq_true rfl) rfl ?_
  refine j_iload_n (j := 1) dd_M_swap_0 rfl rfl ?_
  refine j_i2l dd_M_swap_1 ?_
  refine j_lconst (x := 0) dd_M_swap_2 rfl (inLd rfl) ?_
  refine j_ldc2 (x := 60) dd_M_swap_3 wd_1103 rfl (inLd rfl) ?_
  refine j_cSI (mm' := mm_M_in) (As := [vL x1, vL 0, vL 60]) (rest := []) h dd_M_swap_6 (ws4 wd_941 wd_942 wd_70 wd_943) nk_M_in (rok rfl) (Nat.le_of_ble_eq_true rfl) (fun _ => rfl) (fun a2 M1 h => ?_)
  refine j_if_eq (tgt := 22) dd_M_swap_9 (by decide) (fun c => ?_) (fun c => ?_)
  · have h := h.1 c
    refine j_iconst dd_M_swap_22 (inRd rfl) ?_
    exact j_iret dd_M_swap_23 rfl h
  · have h := h.2 c
    refine j_iload_n (j := 2) dd_M_swap_12 rfl rfl ?_
    refine j_i2l dd_M_swap_13 ?_
    refine j_lconst (x := 0) dd_M_swap_14 rfl (inLd rfl) ?_
    refine j_lconst (x := 1) dd_M_swap_15 rfl (inLd rfl) ?_
    refine j_cSI (mm' := mm_M_in) (As := [vL x2, vL 0, vL 1]) (rest := []) h dd_M_swap_16 (ws4 wd_941 wd_942 wd_70 wd_943) nk_M_in (rok rfl) (Nat.le_of_ble_eq_true rfl) (fun _ => rfl) (fun a4 M3 h => ?_)
    refine j_if_ne (tgt := 24) dd_M_swap_19 (by decide) (fun c => ?_) (fun c => ?_)
    · have h := h.1 c
      refine j_aload_n (j := 0) dd_M_swap_24 rfl rfl ?_
      refine j_iconst dd_M_swap_25 (inRd rfl) ?_
      refine j_iload_n (j := 1) dd_M_swap_26 rfl rfl ?_
      refine j_cVI (mm' := mm_M_weeksGo) (t := 20) (i := 0) (As := [vI 0, vI x1]) (rest := []) h dd_M_swap_27 (ws5 wd_1105 wd_1107 wd_56 wd_70 wd_1108) nk_M_weeksGo (rok rfl) (by unfold isW; omega) ⟨_, ce_20 _⟩ rfl (Nat.le_of_ble_eq_true rfl) (fun _ => rfl) (fun a6 M5 h => ?_)
      refine j_istore_n (j := 3) dd_M_swap_30 rfl (by decide) rfl ?_
      refine j_bipush dd_M_swap_31 rfl (inRd rfl) ?_
      refine j_istore (j := 4) dd_M_swap_33 (by decide) rfl ?_
      refine j_iconst dd_M_swap_35 (inRd rfl) ?_
      refine j_istore (j := 5) dd_M_swap_36 (by decide) rfl ?_
      exact j_jump h (jsub_c rfl (jsub_c rfl (jsub_c rfl (jsub_c rfl (jsub_c rfl (jsub_c rfl jsub_0))))))
    · have h := h.2 c
      refine j_iconst dd_M_swap_22 (inRd rfl) ?_
      exact j_iret dd_M_swap_23 rfl h
theorem vc_M_swap_38 {E : EE} {Q : Int → JM → Prop} (x1 : Int) (x2 : Int) (l3 : Int) (l4 : Int) (l5 : Int) (M : JM) (h : ((M 20 0 1 ≤ l5 → ((l4 = (-4) → Q l4 M) ∧ (l4 ≠ (-4) → ((x2 ≠ 0 → Q l3 M) ∧ (x2 = 0 → Q l4 M))))) ∧ (l5 < M 20 0 1 → ∀ a1 : Int, a1 = w32 (l5 + 1) → JG E mm_M_swap Q 53 [(0, vR 20 0), (1, vI x1), (2, vI x2), (3, vI l3), (4, vI l4), (5, vI l5), (6, vI a1)] [] M))) : JG E mm_M_swap Q 38 [(0, vR 20 0), (1, vI x1), (2, vI x2), (3, vI l3), (4, vI l4), (5, vI l5)] [] M := by
  refine j_iload (j := 5) dd_M_swap_38 rfl ?_
  refine j_aload_n (j := 0) dd_M_swap_40 rfl rfl ?_
  refine gf_20_1 dd_M_swap_41 wd_849 ?_
  refine j_icmp_ge (tgt := 196) dd_M_swap_44 (by decide) (fun c => ?_) (fun c => ?_)
  · have h := h.1 c
    refine j_iload (j := 4) dd_M_swap_196 rfl ?_
    refine j_bipush dd_M_swap_198 rfl (inRd rfl) ?_
    refine j_icmp_eq (tgt := 207) dd_M_swap_200 (by decide) (fun c => ?_) (fun c => ?_)
    · have h := h.1 c
      refine j_iload (j := 4) dd_M_swap_207 rfl ?_
      refine j_goto (tgt := 213) dd_M_swap_209 (by decide) ?_
      exact j_iret dd_M_swap_213 rfl h
    · have h := h.2 c
      refine j_iload_n (j := 2) dd_M_swap_203 rfl rfl ?_
      refine j_if_ne (tgt := 212) dd_M_swap_204 (by decide) (fun c => ?_) (fun c => ?_)
      · have h := h.1 c
        refine j_iload_n (j := 3) dd_M_swap_212 rfl rfl ?_
        exact j_iret dd_M_swap_213 rfl h
      · have h := h.2 c
        refine j_iload (j := 4) dd_M_swap_207 rfl ?_
        refine j_goto (tgt := 213) dd_M_swap_209 (by decide) ?_
        exact j_iret dd_M_swap_213 rfl h
  · have h := h.2 c
    refine j_iload (j := 5) dd_M_swap_47 rfl ?_
    refine j_iconst dd_M_swap_49 (inRd rfl) ?_
    refine j_iadd dd_M_swap_50 ?_
    refine j_topI (fun a1 ea1 => ?_)
    have h := h a1 ea1
    refine j_istore (j := 6) dd_M_swap_51 (by decide) rfl ?_
    exact j_jump h (jsub_c rfl (jsub_c rfl (jsub_c rfl (jsub_c rfl (jsub_c rfl (jsub_c rfl (jsub_c rfl jsub_0)))))))
theorem vc_M_swap_53 {E : EE} {Q : Int → JM → Prop} (x1 : Int) (x2 : Int) (l3 : Int) (l4 : Int) (l5 : Int) (l6 : Int) (M : JM) (h : ((M 20 0 1 ≤ l6 → ∀ a1 : Int, a1 = w32 (l5 + 1) → JG E mm_M_swap Q 38 [(0, vR 20 0), (1, vI x1), (2, vI x2), (3, vI l3), (4, vI l4), (5, vI a1)] [] M) ∧ (l6 < M 20 0 1 → JC E mm_M_copies [vR 20 0, vI 0, vI 220] M (fun a3 M2 => JG E mm_M_swap Q 73 [(0, vR 20 0), (1, vI x1), (2, vI x2), (3, vI l3), (4, vI l4), (5, vI l5), (6, vI l6), (7, vI 0)] [] M2)))) : JG E mm_M_swap Q 53 [(0, vR 20 0), (1, vI x1), (2, vI x2), (3, vI l3), (4, vI l4), (5, vI l5), (6, vI l6)] [] M := by
  refine j_iload (j := 6) dd_M_swap_53 rfl ?_
  refine j_aload_n (j := 0) dd_M_swap_55 rfl rfl ?_
  refine gf_20_1 dd_M_swap_56 wd_849 ?_
  refine j_icmp_ge (tgt := 190) dd_M_swap_59 (by decide) (fun c => ?_) (fun c => ?_)
  · have h := h.1 c
    refine j_iincN dd_M_swap_190 rfl rfl (fun a1 ea1 => ?_)
    have h := h a1 ea1
    refine j_goto (tgt := 38) dd_M_swap_193 (by decide) ?_
    exact j_jump h (jsub_c rfl (jsub_c rfl (jsub_c rfl (jsub_c rfl (jsub_c rfl (jsub_c rfl jsub_0))))))
  · have h := h.2 c
    refine j_aload_n (j := 0) dd_M_swap_62 rfl rfl ?_
    refine j_iconst dd_M_swap_63 (inRd rfl) ?_
    refine j_sipush dd_M_swap_64 rfl (inRd rfl) ?_
    refine j_cVV (mm' := mm_M_copies) (t := 20) (i := 0) (As := [vI 0, vI 220]) (rest := []) h dd_M_swap_67 (ws5 wd_1031 wd_1033 wd_48 wd_70 wd_1034) nk_M_copies (rok rfl) (by unfold isW; omega) ⟨_, ce_20 _⟩ rfl (Nat.le_of_ble_eq_true rfl) (fun _ => rfl) (fun a3 M2 h => ?_)
    refine j_iconst dd_M_swap_70 (inRd rfl) ?_
    refine j_istore (j := 7) dd_M_swap_71 (by decide) rfl ?_
    exact j_jump h (jsub_c rfl (jsub_c rfl (jsub_c rfl (jsub_c rfl (jsub_c rfl (jsub_c rfl (jsub_c rfl (jsub_c rfl jsub_0))))))))
theorem vc_M_swap_73 {E : EE} {Q : Int → JM → Prop} (x1 : Int) (x2 : Int) (l3 : Int) (l4 : Int) (l5 : Int) (l6 : Int) (l7 : Int) (M : JM) (h : ((8 ≤ l7 → JC E mm_M_weeksGo [vR 20 0, vI 220, vI x1] M (fun a2 M1 => ((a2 ≤ l3 → JG E mm_M_swap Q 169 [(0, vR 20 0), (1, vI x1), (2, vI x2), (3, vI l3), (5, vI l5), (6, vI l6), (7, vI a2)] [vI l4] M1) ∧ (l3 < a2 → JG E mm_M_swap Q 169 [(0, vR 20 0), (1, vI x1), (2, vI x2), (3, vI l3), (5, vI l5), (6, vI l6), (7, vI a2)] [vI (w32 (w32 (10 * l5) + l6))] M1)))) ∧ (l7 < 8 → (0 ≤ w32 (w32 (33 + l7) + l6) ∧ w32 (w32 (33 + l7) + l6) < 264) ∧ (0 ≤ w32 (w32 (253 + l7) + l5) ∧ w32 (w32 (253 + l7) + l5) < 264) ∧ ∀ M3 : JM, M3 = pt M 21 0 ((w32 (w32 (253 + l7) + l5)).toNat) (M 21 0 ((w32 (w32 (33 + l7) + l6)).toNat)) → (0 ≤ w32 (w32 (33 + l7) + l5) ∧ w32 (w32 (33 + l7) + l5) < 264) ∧ (0 ≤ w32 (w32 (253 + l7) + l6) ∧ w32 (w32 (253 + l7) + l6) < 264) ∧ ∀ M4 : JM, M4 = pt M3 21 0 ((w32 (w32 (253 + l7) + l6)).toNat) (M3 21 0 ((w32 (w32 (33 + l7) + l5)).toNat)) → ∀ a5 : Int, a5 = w32 (l7 + 4) → JG E mm_M_swap Q 73 [(0, vR 20 0), (1, vI x1), (2, vI x2), (3, vI l3), (4, vI l4), (5, vI l5), (6, vI l6), (7, vI a5)] [] M4))) : JG E mm_M_swap Q 73 [(0, vR 20 0), (1, vI x1), (2, vI x2), (3, vI l3), (4, vI l4), (5, vI l5), (6, vI l6), (7, vI l7)] [] M := by
  refine j_iload (j := 7) dd_M_swap_73 rfl ?_
  refine j_bipush dd_M_swap_75 rfl (inRd rfl) ?_
  refine j_icmp_ge (tgt := 140) dd_M_swap_77 (by decide) (fun c => ?_) (fun c => ?_)
  · have h := h.1 c
    refine j_aload_n (j := 0) dd_M_swap_140 rfl rfl ?_
    refine j_sipush dd_M_swap_141 rfl (inRd rfl) ?_
    refine j_iload_n (j := 1) dd_M_swap_144 rfl rfl ?_
    refine j_cVI (mm' := mm_M_weeksGo) (t := 20) (i := 0) (As := [vI 220, vI x1]) (rest := []) h dd_M_swap_145 (ws5 wd_1105 wd_1107 wd_56 wd_70 wd_1108) nk_M_weeksGo (rok rfl) (by unfold isW; omega) ⟨_, ce_20 _⟩ rfl (Nat.le_of_ble_eq_true rfl) (fun _ => rfl) (fun a2 M1 h => ?_)
    refine j_istore (j := 7) dd_M_swap_148 (by decide) rfl ?_
    refine j_iload (j := 7) dd_M_swap_150 rfl ?_
    refine j_iload_n (j := 3) dd_M_swap_152 rfl rfl ?_
    refine j_icmp_le (tgt := 167) dd_M_swap_153 (by decide) (fun c => ?_) (fun c => ?_)
    · have h := h.1 c
      refine j_iload (j := 4) dd_M_swap_167 rfl ?_
      exact j_jump h (jsub_c rfl (jsub_c rfl (jsub_c rfl (jsub_c rfl (jsub_c rfl (jsub_c rfl (jsub_c rfl jsub_0)))))))
    · have h := h.2 c
      refine j_bipush dd_M_swap_156 rfl (inRd rfl) ?_
      refine j_iload (j := 5) dd_M_swap_158 rfl ?_
      refine j_imul dd_M_swap_160 ?_
      refine j_iload (j := 6) dd_M_swap_161 rfl ?_
      refine j_iadd dd_M_swap_163 ?_
      refine j_goto (tgt := 169) dd_M_swap_164 (by decide) ?_
      exact j_jump h (jsub_c rfl (jsub_c rfl (jsub_c rfl (jsub_c rfl (jsub_c rfl (jsub_c rfl (jsub_c rfl jsub_0)))))))
  · have h := h.2 c
    refine j_aload_n (j := 0) dd_M_swap_80 rfl rfl ?_
    refine gf_20_0 dd_M_swap_81 wd_848 ?_
    refine j_sipush dd_M_swap_84 rfl (inRd rfl) ?_
    refine j_iload (j := 7) dd_M_swap_87 rfl ?_
    refine j_iadd dd_M_swap_89 ?_
    refine j_iload (j := 5) dd_M_swap_90 rfl ?_
    refine j_iadd dd_M_swap_92 ?_
    refine j_aload_n (j := 0) dd_M_swap_93 rfl rfl ?_
    refine gf_20_0 dd_M_swap_94 wd_848 ?_
    refine j_bipush dd_M_swap_97 rfl (inRd rfl) ?_
    refine j_iload (j := 7) dd_M_swap_99 rfl ?_
    refine j_iadd dd_M_swap_101 ?_
    refine j_iload (j := 6) dd_M_swap_102 rfl ?_
    refine j_iadd dd_M_swap_104 ?_
    refine ld_21 dd_M_swap_105 h.1 ?_
    have h := h.2
    refine st_21 dd_M_swap_106 h.1 (fun M3 eM3 => ?_)
    have h := h.2
    have h := h M3 eM3
    refine j_aload_n (j := 0) dd_M_swap_107 rfl rfl ?_
    refine gf_20_0 dd_M_swap_108 wd_848 ?_
    refine j_sipush dd_M_swap_111 rfl (inRd rfl) ?_
    refine j_iload (j := 7) dd_M_swap_114 rfl ?_
    refine j_iadd dd_M_swap_116 ?_
    refine j_iload (j := 6) dd_M_swap_117 rfl ?_
    refine j_iadd dd_M_swap_119 ?_
    refine j_aload_n (j := 0) dd_M_swap_120 rfl rfl ?_
    refine gf_20_0 dd_M_swap_121 wd_848 ?_
    refine j_bipush dd_M_swap_124 rfl (inRd rfl) ?_
    refine j_iload (j := 7) dd_M_swap_126 rfl ?_
    refine j_iadd dd_M_swap_128 ?_
    refine j_iload (j := 5) dd_M_swap_129 rfl ?_
    refine j_iadd dd_M_swap_131 ?_
    refine ld_21 dd_M_swap_132 h.1 ?_
    have h := h.2
    refine st_21 dd_M_swap_133 h.1 (fun M4 eM4 => ?_)
    have h := h.2
    have h := h M4 eM4
    refine j_iincN dd_M_swap_134 rfl rfl (fun a5 ea5 => ?_)
    have h := h a5 ea5
    refine j_goto (tgt := 73) dd_M_swap_137 (by decide) ?_
    exact j_jump h (jsub_c rfl (jsub_c rfl (jsub_c rfl (jsub_c rfl (jsub_c rfl (jsub_c rfl (jsub_c rfl (jsub_c rfl jsub_0))))))))
theorem vc_M_swap_169 {E : EE} {Q : Int → JM → Prop} (x1 : Int) (x2 : Int) (l3 : Int) (l5 : Int) (l6 : Int) (l7 : Int) (s0 : Int) (M : JM) (h : ((l7 ≤ l3 → ∀ a1 : Int, a1 = w32 (l6 + 1) → JG E mm_M_swap Q 53 [(0, vR 20 0), (1, vI x1), (2, vI x2), (3, vI l3), (4, vI s0), (5, vI l5), (6, vI a1)] [] M) ∧ (l3 < l7 → ∀ a2 : Int, a2 = w32 (l6 + 1) → JG E mm_M_swap Q 53 [(0, vR 20 0), (1, vI x1), (2, vI x2), (3, vI l7), (4, vI s0), (5, vI l5), (6, vI a2)] [] M))) : JG E mm_M_swap Q 169 [(0, vR 20 0), (1, vI x1), (2, vI x2), (3, vI l3), (5, vI l5), (6, vI l6), (7, vI l7)] [vI s0] M := by
  refine j_istore (j := 4) dd_M_swap_169 (by decide) rfl ?_
  refine j_iload (j := 7) dd_M_swap_171 rfl ?_
  refine j_iload_n (j := 3) dd_M_swap_173 rfl rfl ?_
  refine j_icmp_le (tgt := 182) dd_M_swap_174 (by decide) (fun c => ?_) (fun c => ?_)
  · have h := h.1 c
    refine j_iload_n (j := 3) dd_M_swap_182 rfl rfl ?_
    refine j_istore_n (j := 3) dd_M_swap_183 rfl (by decide) rfl ?_
    refine j_iincN dd_M_swap_184 rfl rfl (fun a1 ea1 => ?_)
    have h := h a1 ea1
    refine j_goto (tgt := 53) dd_M_swap_187 (by decide) ?_
    exact j_jump h (jsub_c rfl (jsub_c rfl (jsub_c rfl (jsub_c rfl (jsub_c rfl (jsub_c rfl (jsub_c rfl jsub_0)))))))
  · have h := h.2 c
    refine j_iload (j := 7) dd_M_swap_177 rfl ?_
    refine j_goto (tgt := 183) dd_M_swap_179 (by decide) ?_
    refine j_istore_n (j := 3) dd_M_swap_183 rfl (by decide) rfl ?_
    refine j_iincN dd_M_swap_184 rfl rfl (fun a2 ea2 => ?_)
    have h := h a2 ea2
    refine j_goto (tgt := 53) dd_M_swap_187 (by decide) ?_
    exact j_jump h (jsub_c rfl (jsub_c rfl (jsub_c rfl (jsub_c rfl (jsub_c rfl (jsub_c rfl (jsub_c rfl jsub_0)))))))
theorem vc_M_lose {E : EE} {Q : Int → JM → Prop} (x1 : Int) (x2 : Int) (M : JM) (h : JC E mm_M_in [vL x1, vL 0, vL 60] M (fun a2 M1 => ((a2 = 0 → Q (-1) M1) ∧ (a2 ≠ 0 → JC E mm_M_in [vL x2, vL 0, vL 1] M1 (fun a4 M3 => ((a4 ≠ 0 → JC E mm_M_weeksGo [vR 20 0, vI 0, vI x1] M3 (fun a6 M5 => JG E mm_M_lose Q 38 [(0, vR 20 0), (1, vI x1), (2, vI x2), (3, vI a6), (4, vI (-4)), (5, vI 0)] [] M5)) ∧ (a4 = 0 → Q (-1) M3))))))) : JC E mm_M_lose [vR 20 0, vI x1, vI x2] M Q := by
  refine j_entry (L0 := [(0, vR 20 0), (1, vI x1), (2, vI x2)]) pn_M (Nat.le_of_ble_eq_true rfl) rfl ?_
  refine j_iload_n (j := 1) dd_M_lose_0 rfl rfl ?_
  refine j_i2l dd_M_lose_1 ?_
  refine j_lconst (x := 0) dd_M_lose_2 rfl (inLd rfl) ?_
  refine j_ldc2 (x := 60) dd_M_lose_3 wd_1103 rfl (inLd rfl) ?_
  refine j_cSI (mm' := mm_M_in) (As := [vL x1, vL 0, vL 60]) (rest := []) h dd_M_lose_6 (ws4 wd_941 wd_942 wd_70 wd_943) nk_M_in (rok rfl) (Nat.le_of_ble_eq_true rfl) (fun _ => rfl) (fun a2 M1 h => ?_)
  refine j_if_eq (tgt := 22) dd_M_lose_9 (by decide) (fun c => ?_) (fun c => ?_)
  · have h := h.1 c
    refine j_iconst dd_M_lose_22 (inRd rfl) ?_
    exact j_iret dd_M_lose_23 rfl h
  · have h := h.2 c
    refine j_iload_n (j := 2) dd_M_lose_12 rfl rfl ?_
    refine j_i2l dd_M_lose_13 ?_
    refine j_lconst (x := 0) dd_M_lose_14 rfl (inLd rfl) ?_
    refine j_lconst (x := 1) dd_M_lose_15 rfl (inLd rfl) ?_
    refine j_cSI (mm' := mm_M_in) (As := [vL x2, vL 0, vL 1]) (rest := []) h dd_M_lose_16 (ws4 wd_941 wd_942 wd_70 wd_943) nk_M_in (rok rfl) (Nat.le_of_ble_eq_true rfl) (fun _ => rfl) (fun a4 M3 h => ?_)
    refine j_if_ne (tgt := 24) dd_M_lose_19 (by decide) (fun c => ?_) (fun c => ?_)
    · have h := h.1 c
      refine j_aload_n (j := 0) dd_M_lose_24 rfl rfl ?_
      refine j_iconst dd_M_lose_25 (inRd rfl) ?_
      refine j_iload_n (j := 1) dd_M_lose_26 rfl rfl ?_
      refine j_cVI (mm' := mm_M_weeksGo) (t := 20) (i := 0) (As := [vI 0, vI x1]) (rest := []) h dd_M_lose_27 (ws5 wd_1105 wd_1107 wd_56 wd_70 wd_1108) nk_M_weeksGo (rok rfl) (by unfold isW; omega) ⟨_, ce_20 _⟩ rfl (Nat.le_of_ble_eq_true rfl) (fun _ => rfl) (fun a6 M5 h => ?_)
      refine j_istore_n (j := 3) dd_M_lose_30 rfl (by decide) rfl ?_
      refine j_bipush dd_M_lose_31 rfl (inRd rfl) ?_
      refine j_istore (j := 4) dd_M_lose_33 (by decide) rfl ?_
      refine j_iconst dd_M_lose_35 (inRd rfl) ?_
      refine j_istore (j := 5) dd_M_lose_36 (by decide) rfl ?_
      exact j_jump h (jsub_c rfl (jsub_c rfl (jsub_c rfl (jsub_c rfl (jsub_c rfl (jsub_c rfl jsub_0))))))
    · have h := h.2 c
      refine j_iconst dd_M_lose_22 (inRd rfl) ?_
      exact j_iret dd_M_lose_23 rfl h
theorem vc_M_lose_38 {E : EE} {Q : Int → JM → Prop} (x1 : Int) (x2 : Int) (l3 : Int) (l4 : Int) (l5 : Int) (M : JM) (h : ((M 21 0 32 ≤ l5 → ((l4 = (-4) → Q l4 M) ∧ (l4 ≠ (-4) → ((x2 ≠ 0 → Q l3 M) ∧ (x2 = 0 → Q l4 M))))) ∧ (l5 < M 21 0 32 → (0 ≤ w32 (24 + l5) ∧ w32 (24 + l5) < 264) ∧ ((M 21 0 ((w32 (24 + l5)).toNat) ≠ 0 → ∀ a1 : Int, a1 = w32 (l5 + 1) → JG E mm_M_lose Q 38 [(0, vR 20 0), (1, vI x1), (2, vI x2), (3, vI l3), (4, vI l4), (5, vI a1)] [] M) ∧ (M 21 0 ((w32 (24 + l5)).toNat) = 0 → JC E mm_M_copies [vR 20 0, vI 0, vI 220] M (fun a3 M2 => (0 ≤ w32 (244 + l5) ∧ w32 (244 + l5) < 264) ∧ ∀ M4 : JM, M4 = pt M2 21 0 ((w32 (244 + l5)).toNat) 1 → JC E mm_M_weeksGo [vR 20 0, vI 220, vI x1] M4 (fun a6 M5 => ((a6 ≤ l3 → JG E mm_M_lose Q 106 [(0, vR 20 0), (1, vI x1), (2, vI x2), (3, vI l3), (5, vI l5), (6, vI a6)] [vI l4] M5) ∧ (l3 < a6 → JG E mm_M_lose Q 106 [(0, vR 20 0), (1, vI x1), (2, vI x2), (3, vI l3), (5, vI l5), (6, vI a6)] [vI l5] M5))))))))) : JG E mm_M_lose Q 38 [(0, vR 20 0), (1, vI x1), (2, vI x2), (3, vI l3), (4, vI l4), (5, vI l5)] [] M := by
  refine j_iload (j := 5) dd_M_lose_38 rfl ?_
  refine j_aload_n (j := 0) dd_M_lose_40 rfl rfl ?_
  refine gf_20_0 dd_M_lose_41 wd_848 ?_
  refine j_bipush dd_M_lose_44 rfl (inRd rfl) ?_
  refine ld_21 dd_M_lose_46 ⟨by decide, by decide⟩ ?_
  refine j_icmp_ge (tgt := 127) dd_M_lose_47 (by decide) (fun c => ?_) (fun c => ?_)
  · have h := h.1 c
    refine j_iload (j := 4) dd_M_lose_127 rfl ?_
    refine j_bipush dd_M_lose_129 rfl (inRd rfl) ?_
    refine j_icmp_eq (tgt := 138) dd_M_lose_131 (by decide) (fun c => ?_) (fun c => ?_)
    · have h := h.1 c
      refine j_iload (j := 4) dd_M_lose_138 rfl ?_
      refine j_goto (tgt := 144) dd_M_lose_140 (by decide) ?_
      exact j_iret dd_M_lose_144 rfl h
    · have h := h.2 c
      refine j_iload_n (j := 2) dd_M_lose_134 rfl rfl ?_
      refine j_if_ne (tgt := 143) dd_M_lose_135 (by decide) (fun c => ?_) (fun c => ?_)
      · have h := h.1 c
        refine j_iload_n (j := 3) dd_M_lose_143 rfl rfl ?_
        exact j_iret dd_M_lose_144 rfl h
      · have h := h.2 c
        refine j_iload (j := 4) dd_M_lose_138 rfl ?_
        refine j_goto (tgt := 144) dd_M_lose_140 (by decide) ?_
        exact j_iret dd_M_lose_144 rfl h
  · have h := h.2 c
    refine j_aload_n (j := 0) dd_M_lose_50 rfl rfl ?_
    refine gf_20_0 dd_M_lose_51 wd_848 ?_
    refine j_bipush dd_M_lose_54 rfl (inRd rfl) ?_
    refine j_iload (j := 5) dd_M_lose_56 rfl ?_
    refine j_iadd dd_M_lose_58 ?_
    refine ld_21 dd_M_lose_59 h.1 ?_
    have h := h.2
    refine j_if_ne (tgt := 121) dd_M_lose_60 (by decide) (fun c => ?_) (fun c => ?_)
    · have h := h.1 c
      refine j_iincN dd_M_lose_121 rfl rfl (fun a1 ea1 => ?_)
      have h := h a1 ea1
      refine j_goto (tgt := 38) dd_M_lose_124 (by decide) ?_
      exact j_jump h (jsub_c rfl (jsub_c rfl (jsub_c rfl (jsub_c rfl (jsub_c rfl (jsub_c rfl jsub_0))))))
    · have h := h.2 c
      refine j_aload_n (j := 0) dd_M_lose_63 rfl rfl ?_
      refine j_iconst dd_M_lose_64 (inRd rfl) ?_
      refine j_sipush dd_M_lose_65 rfl (inRd rfl) ?_
      refine j_cVV (mm' := mm_M_copies) (t := 20) (i := 0) (As := [vI 0, vI 220]) (rest := []) h dd_M_lose_68 (ws5 wd_1031 wd_1033 wd_48 wd_70 wd_1034) nk_M_copies (rok rfl) (by unfold isW; omega) ⟨_, ce_20 _⟩ rfl (Nat.le_of_ble_eq_true rfl) (fun _ => rfl) (fun a3 M2 h => ?_)
      refine j_aload_n (j := 0) dd_M_lose_71 rfl rfl ?_
      refine gf_20_0 dd_M_lose_72 wd_848 ?_
      refine j_sipush dd_M_lose_75 rfl (inRd rfl) ?_
      refine j_iload (j := 5) dd_M_lose_78 rfl ?_
      refine j_iadd dd_M_lose_80 ?_
      refine j_iconst dd_M_lose_81 (inRd rfl) ?_
      refine st_21 dd_M_lose_82 h.1 (fun M4 eM4 => ?_)
      have h := h.2
      have h := h M4 eM4
      refine j_aload_n (j := 0) dd_M_lose_83 rfl rfl ?_
      refine j_sipush dd_M_lose_84 rfl (inRd rfl) ?_
      refine j_iload_n (j := 1) dd_M_lose_87 rfl rfl ?_
      refine j_cVI (mm' := mm_M_weeksGo) (t := 20) (i := 0) (As := [vI 220, vI x1]) (rest := []) h dd_M_lose_88 (ws5 wd_1105 wd_1107 wd_56 wd_70 wd_1108) nk_M_weeksGo (rok rfl) (by unfold isW; omega) ⟨_, ce_20 _⟩ rfl (Nat.le_of_ble_eq_true rfl) (fun _ => rfl) (fun a6 M5 h => ?_)
      refine j_istore (j := 6) dd_M_lose_91 (by decide) rfl ?_
      refine j_iload (j := 6) dd_M_lose_93 rfl ?_
      refine j_iload_n (j := 3) dd_M_lose_95 rfl rfl ?_
      refine j_icmp_le (tgt := 104) dd_M_lose_96 (by decide) (fun c => ?_) (fun c => ?_)
      · have h := h.1 c
        refine j_iload (j := 4) dd_M_lose_104 rfl ?_
        exact j_jump h (jsub_c rfl (jsub_c rfl (jsub_c rfl (jsub_c rfl (jsub_c rfl (jsub_c rfl jsub_0))))))
      · have h := h.2 c
        refine j_iload (j := 5) dd_M_lose_99 rfl ?_
        refine j_goto (tgt := 106) dd_M_lose_101 (by decide) ?_
        exact j_jump h (jsub_c rfl (jsub_c rfl (jsub_c rfl (jsub_c rfl (jsub_c rfl (jsub_c rfl jsub_0))))))
theorem vc_M_lose_106 {E : EE} {Q : Int → JM → Prop} (x1 : Int) (x2 : Int) (l3 : Int) (l5 : Int) (l6 : Int) (s0 : Int) (M : JM) (h : ((l6 ≤ l3 → ∀ a1 : Int, a1 = w32 (l5 + 1) → JG E mm_M_lose Q 38 [(0, vR 20 0), (1, vI x1), (2, vI x2), (3, vI l3), (4, vI s0), (5, vI a1)] [] M) ∧ (l3 < l6 → ∀ a2 : Int, a2 = w32 (l5 + 1) → JG E mm_M_lose Q 38 [(0, vR 20 0), (1, vI x1), (2, vI x2), (3, vI l6), (4, vI s0), (5, vI a2)] [] M))) : JG E mm_M_lose Q 106 [(0, vR 20 0), (1, vI x1), (2, vI x2), (3, vI l3), (5, vI l5), (6, vI l6)] [vI s0] M := by
  refine j_istore (j := 4) dd_M_lose_106 (by decide) rfl ?_
  refine j_iload (j := 6) dd_M_lose_108 rfl ?_
  refine j_iload_n (j := 3) dd_M_lose_110 rfl rfl ?_
  refine j_icmp_le (tgt := 119) dd_M_lose_111 (by decide) (fun c => ?_) (fun c => ?_)
  · have h := h.1 c
    refine j_iload_n (j := 3) dd_M_lose_119 rfl rfl ?_
    refine j_istore_n (j := 3) dd_M_lose_120 rfl (by decide) rfl ?_
    refine j_iincN dd_M_lose_121 rfl rfl (fun a1 ea1 => ?_)
    have h := h a1 ea1
    refine j_goto (tgt := 38) dd_M_lose_124 (by decide) ?_
    exact j_jump h (jsub_c rfl (jsub_c rfl (jsub_c rfl (jsub_c rfl (jsub_c rfl (jsub_c rfl jsub_0))))))
  · have h := h.2 c
    refine j_iload (j := 6) dd_M_lose_114 rfl ?_
    refine j_goto (tgt := 120) dd_M_lose_116 (by decide) ?_
    refine j_istore_n (j := 3) dd_M_lose_120 rfl (by decide) rfl ?_
    refine j_iincN dd_M_lose_121 rfl rfl (fun a2 ea2 => ?_)
    have h := h a2 ea2
    refine j_goto (tgt := 38) dd_M_lose_124 (by decide) ?_
    exact j_jump h (jsub_c rfl (jsub_c rfl (jsub_c rfl (jsub_c rfl (jsub_c rfl (jsub_c rfl jsub_0))))))
theorem vc_M_price {E : EE} {Q : Int → JM → Prop} (x1 : Int) (M : JM) (h : JC E mm_M_isGoods [vR 20 0, vI x1] M (fun a2 M1 => ((a2 ≠ 0 → JC E mm_M_copies [vR 20 0, vI 0, vI 220] M1 (fun a4 M3 => JG E mm_M_price Q 20 [(0, vR 20 0), (1, vI x1), (2, vI 0)] [] M3)) ∧ (a2 = 0 → Q (-1) M1)))) : JC E mm_M_price [vR 20 0, vI x1] M Q := by
  refine j_entry (L0 := [(0, vR 20 0), (1, vI x1)]) pn_M (Nat.le_of_ble_eq_true rfl) rfl ?_
  refine j_aload_n (j := 0) dd_M_price_0 rfl rfl ?_
  refine j_iload_n (j := 1) dd_M_price_1 rfl rfl ?_
  refine j_cVI (mm' := mm_M_isGoods) (t := 20) (i := 0) (As := [vI x1]) (rest := []) h dd_M_price_2 (ws5 wd_1005 wd_1007 wd_43 wd_70 wd_1008) nk_M_isGoods (rok rfl) (by unfold isW; omega) ⟨_, ce_20 _⟩ rfl (Nat.le_of_ble_eq_true rfl) (fun _ => rfl) (fun a2 M1 h => ?_)
  refine j_if_ne (tgt := 10) dd_M_price_5 (by decide) (fun c => ?_) (fun c => ?_)
  · have h := h.1 c
    refine j_aload_n (j := 0) dd_M_price_10 rfl rfl ?_
    refine j_iconst dd_M_price_11 (inRd rfl) ?_
    refine j_sipush dd_M_price_12 rfl (inRd rfl) ?_
    refine j_cVV (mm' := mm_M_copies) (t := 20) (i := 0) (As := [vI 0, vI 220]) (rest := []) h dd_M_price_15 (ws5 wd_1031 wd_1033 wd_48 wd_70 wd_1034) nk_M_copies (rok rfl) (by unfold isW; omega) ⟨_, ce_20 _⟩ rfl (Nat.le_of_ble_eq_true rfl) (fun _ => rfl) (fun a4 M3 h => ?_)
    refine j_iconst dd_M_price_18 (inRd rfl) ?_
    refine j_istore_n (j := 2) dd_M_price_19 rfl (by decide) rfl ?_
    exact j_jump h (jsub_c rfl (jsub_c rfl (jsub_c rfl jsub_0)))
  · have h := h.2 c
    refine j_iconst dd_M_price_8 (inRd rfl) ?_
    exact j_iret dd_M_price_9 rfl h
theorem vc_M_price_20 {E : EE} {Q : Int → JM → Prop} (x1 : Int) (l2 : Int) (M : JM) (h : ((9 < l2 → Q (-4) M) ∧ (l2 ≤ 9 → (0 ≤ w32 (236 + x1) ∧ w32 (236 + x1) < 264) ∧ ∀ M1 : JM, M1 = pt M 21 0 ((w32 (236 + x1)).toNat) l2 → JC E mm_M_tries [vR 20 0, vI 220] M1 (fun a3 M2 => ((and32 (shr32 (M2 20 0 18) x1) 1 ≠ 1 → ∀ a4 : Int, a4 = w32 (l2 + 1) → JG E mm_M_price Q 20 [(0, vR 20 0), (1, vI x1), (2, vI a4)] [] M2) ∧ (and32 (shr32 (M2 20 0 18) x1) 1 = 1 → Q l2 M2)))))) : JG E mm_M_price Q 20 [(0, vR 20 0), (1, vI x1), (2, vI l2)] [] M := by
  refine j_iload_n (j := 2) dd_M_price_20 rfl rfl ?_
  refine j_bipush dd_M_price_21 rfl (inRd rfl) ?_
  refine j_icmp_gt (tgt := 64) dd_M_price_23 (by decide) (fun c => ?_) (fun c => ?_)
  · have h := h.1 c
    refine j_bipush dd_M_price_64 rfl (inRd rfl) ?_
    exact j_iret dd_M_price_66 rfl h
  · have h := h.2 c
    refine j_aload_n (j := 0) dd_M_price_26 rfl rfl ?_
    refine gf_20_0 dd_M_price_27 wd_848 ?_
    refine j_sipush dd_M_price_30 rfl (inRd rfl) ?_
    refine j_iload_n (j := 1) dd_M_price_33 rfl rfl ?_
    refine j_iadd dd_M_price_34 ?_
    refine j_iload_n (j := 2) dd_M_price_35 rfl rfl ?_
    refine st_21 dd_M_price_36 h.1 (fun M1 eM1 => ?_)
    have h := h.2
    have h := h M1 eM1
    refine j_aload_n (j := 0) dd_M_price_37 rfl rfl ?_
    refine j_sipush dd_M_price_38 rfl (inRd rfl) ?_
    refine j_cVV (mm' := mm_M_tries) (t := 20) (i := 0) (As := [vI 220]) (rest := []) h dd_M_price_41 (ws5 wd_1027 wd_1029 wd_47 wd_70 wd_1030) nk_M_tries (rok rfl) (by unfold isW; omega) ⟨_, ce_20 _⟩ rfl (Nat.le_of_ble_eq_true rfl) (fun _ => rfl) (fun a3 M2 h => ?_)
    refine j_aload_n (j := 0) dd_M_price_44 rfl rfl ?_
    refine gf_20_18 dd_M_price_45 wd_866 ?_
    refine j_iload_n (j := 1) dd_M_price_48 rfl rfl ?_
    refine j_ishr dd_M_price_49 ?_
    refine j_iconst dd_M_price_50 (inRd rfl) ?_
    refine j_iand dd_M_price_51 ?_
    refine j_iconst dd_M_price_52 (inRd rfl) ?_
    refine j_icmp_ne (tgt := 58) dd_M_price_53 (by decide) (fun c => ?_) (fun c => ?_)
    · have h := h.1 c
      refine j_iincN dd_M_price_58 rfl rfl (fun a4 ea4 => ?_)
      have h := h a4 ea4
      refine j_goto (tgt := 20) dd_M_price_61 (by decide) ?_
      exact j_jump h (jsub_c rfl (jsub_c rfl (jsub_c rfl jsub_0)))
    · have h := h.2 c
      refine j_iload_n (j := 2) dd_M_price_56 rfl rfl ?_
      exact j_iret dd_M_price_57 rfl h
theorem vc_M_kind {E : EE} {Q : Int → JM → Prop} (x1 : Int) (x2 : Int) (x3 : Int) (M : JM) (h : JC E mm_M_isGoods [vR 20 0, vI x1] M (fun a2 M1 => ((a2 = 0 → Q (-1) M1) ∧ (a2 ≠ 0 → JC E mm_M_in [vL x2, vL 0, vL 60] M1 (fun a4 M3 => ((a4 = 0 → Q (-1) M3) ∧ (a4 ≠ 0 → JC E mm_M_in [vL x3, vL 0, vL 1] M3 (fun a6 M5 => ((a6 ≠ 0 → JC E mm_M_copies [vR 20 0, vI 0, vI 220] M5 (fun a8 M7 => JG E mm_M_kind Q 49 [(0, vR 20 0), (1, vI x1), (2, vI x2), (3, vI x3), (4, vI (-1)), (5, vI 0), (6, vI 0)] [] M7)) ∧ (a6 = 0 → Q (-1) M5)))))))))) : JC E mm_M_kind [vR 20 0, vI x1, vI x2, vI x3] M Q := by
  refine j_entry (L0 := [(0, vR 20 0), (1, vI x1), (2, vI x2), (3, vI x3)]) pn_M (Nat.le_of_ble_eq_true rfl) rfl ?_
  refine j_aload_n (j := 0) dd_M_kind_0 rfl rfl ?_
  refine j_iload_n (j := 1) dd_M_kind_1 rfl rfl ?_
  refine j_cVI (mm' := mm_M_isGoods) (t := 20) (i := 0) (As := [vI x1]) (rest := []) h dd_M_kind_2 (ws5 wd_1005 wd_1007 wd_43 wd_70 wd_1008) nk_M_isGoods (rok rfl) (by unfold isW; omega) ⟨_, ce_20 _⟩ rfl (Nat.le_of_ble_eq_true rfl) (fun _ => rfl) (fun a2 M1 h => ?_)
  refine j_if_eq (tgt := 30) dd_M_kind_5 (by decide) (fun c => ?_) (fun c => ?_)
  · have h := h.1 c
    refine j_iconst dd_M_kind_30 (inRd rfl) ?_
    exact j_iret dd_M_kind_31 rfl h
  · have h := h.2 c
    refine j_iload_n (j := 2) dd_M_kind_8 rfl rfl ?_
    refine j_i2l dd_M_kind_9 ?_
    refine j_lconst (x := 0) dd_M_kind_10 rfl (inLd rfl) ?_
    refine j_ldc2 (x := 60) dd_M_kind_11 wd_1103 rfl (inLd rfl) ?_
    refine j_cSI (mm' := mm_M_in) (As := [vL x2, vL 0, vL 60]) (rest := []) h dd_M_kind_14 (ws4 wd_941 wd_942 wd_70 wd_943) nk_M_in (rok rfl) (Nat.le_of_ble_eq_true rfl) (fun _ => rfl) (fun a4 M3 h => ?_)
    refine j_if_eq (tgt := 30) dd_M_kind_17 (by decide) (fun c => ?_) (fun c => ?_)
    · have h := h.1 c
      refine j_iconst dd_M_kind_30 (inRd rfl) ?_
      exact j_iret dd_M_kind_31 rfl h
    · have h := h.2 c
      refine j_iload_n (j := 3) dd_M_kind_20 rfl rfl ?_
      refine j_i2l dd_M_kind_21 ?_
      refine j_lconst (x := 0) dd_M_kind_22 rfl (inLd rfl) ?_
      refine j_lconst (x := 1) dd_M_kind_23 rfl (inLd rfl) ?_
      refine j_cSI (mm' := mm_M_in) (As := [vL x3, vL 0, vL 1]) (rest := []) h dd_M_kind_24 (ws4 wd_941 wd_942 wd_70 wd_943) nk_M_in (rok rfl) (Nat.le_of_ble_eq_true rfl) (fun _ => rfl) (fun a6 M5 h => ?_)
      refine j_if_ne (tgt := 32) dd_M_kind_27 (by decide) (fun c => ?_) (fun c => ?_)
      · have h := h.1 c
        refine j_iconst dd_M_kind_32 (inRd rfl) ?_
        refine j_istore (j := 4) dd_M_kind_33 (by decide) rfl ?_
        refine j_iconst dd_M_kind_35 (inRd rfl) ?_
        refine j_istore (j := 5) dd_M_kind_36 (by decide) rfl ?_
        refine j_aload_n (j := 0) dd_M_kind_38 rfl rfl ?_
        refine j_iconst dd_M_kind_39 (inRd rfl) ?_
        refine j_sipush dd_M_kind_40 rfl (inRd rfl) ?_
        refine j_cVV (mm' := mm_M_copies) (t := 20) (i := 0) (As := [vI 0, vI 220]) (rest := []) h dd_M_kind_43 (ws5 wd_1031 wd_1033 wd_48 wd_70 wd_1034) nk_M_copies (rok rfl) (by unfold isW; omega) ⟨_, ce_20 _⟩ rfl (Nat.le_of_ble_eq_true rfl) (fun _ => rfl) (fun a8 M7 h => ?_)
        refine j_iconst dd_M_kind_46 (inRd rfl) ?_
        refine j_istore (j := 6) dd_M_kind_47 (by decide) rfl ?_
        exact j_jump h (jsub_c rfl (jsub_c rfl (jsub_c rfl (jsub_c rfl (jsub_c rfl (jsub_c rfl (jsub_c rfl jsub_0)))))))
      · have h := h.2 c
        refine j_iconst dd_M_kind_30 (inRd rfl) ?_
        exact j_iret dd_M_kind_31 rfl h
theorem vc_M_kind_49 {E : EE} {Q : Int → JM → Prop} (x1 : Int) (x2 : Int) (x3 : Int) (l4 : Int) (l5 : Int) (l6 : Int) (M : JM) (h : ((4 ≤ l6 → ((x3 ≠ 0 → Q l4 M) ∧ (x3 = 0 → Q l5 M))) ∧ (l6 < 4 → (0 ≤ w32 (220 + x1) ∧ w32 (220 + x1) < 264) ∧ ∀ M1 : JM, M1 = pt M 21 0 ((w32 (220 + x1)).toNat) l6 → JC E mm_M_weeksGo [vR 20 0, vI 220, vI x2] M1 (fun a3 M2 => ((a3 ≤ l4 → JG E mm_M_kind Q 91 [(0, vR 20 0), (1, vI x1), (2, vI x2), (3, vI x3), (4, vI l4), (6, vI l6), (7, vI a3)] [vI l5] M2) ∧ (l4 < a3 → JG E mm_M_kind Q 91 [(0, vR 20 0), (1, vI x1), (2, vI x2), (3, vI x3), (4, vI l4), (6, vI l6), (7, vI a3)] [vI l6] M2)))))) : JG E mm_M_kind Q 49 [(0, vR 20 0), (1, vI x1), (2, vI x2), (3, vI x3), (4, vI l4), (5, vI l5), (6, vI l6)] [] M := by
  refine j_iload (j := 6) dd_M_kind_49 rfl ?_
  refine j_iconst dd_M_kind_51 (inRd rfl) ?_
  refine j_icmp_ge (tgt := 115) dd_M_kind_52 (by decide) (fun c => ?_) (fun c => ?_)
  · have h := h.1 c
    refine j_iload_n (j := 3) dd_M_kind_115 rfl rfl ?_
    refine j_if_ne (tgt := 124) dd_M_kind_116 (by decide) (fun c => ?_) (fun c => ?_)
    · have h := h.1 c
      refine j_iload (j := 4) dd_M_kind_124 rfl ?_
      exact j_iret dd_M_kind_126 rfl h
    · have h := h.2 c
      refine j_iload (j := 5) dd_M_kind_119 rfl ?_
      refine j_goto (tgt := 126) dd_M_kind_121 (by decide) ?_
      exact j_iret dd_M_kind_126 rfl h
  · have h := h.2 c
    refine j_aload_n (j := 0) dd_M_kind_55 rfl rfl ?_
    refine gf_20_0 dd_M_kind_56 wd_848 ?_
    refine j_sipush dd_M_kind_59 rfl (inRd rfl) ?_
    refine j_iload_n (j := 1) dd_M_kind_62 rfl rfl ?_
    refine j_iadd dd_M_kind_63 ?_
    refine j_iload (j := 6) dd_M_kind_64 rfl ?_
    refine st_21 dd_M_kind_66 h.1 (fun M1 eM1 => ?_)
    have h := h.2
    have h := h M1 eM1
    refine j_aload_n (j := 0) dd_M_kind_67 rfl rfl ?_
    refine j_sipush dd_M_kind_68 rfl (inRd rfl) ?_
    refine j_iload_n (j := 2) dd_M_kind_71 rfl rfl ?_
    refine j_cVI (mm' := mm_M_weeksGo) (t := 20) (i := 0) (As := [vI 220, vI x2]) (rest := []) h dd_M_kind_72 (ws5 wd_1105 wd_1107 wd_56 wd_70 wd_1108) nk_M_weeksGo (rok rfl) (by unfold isW; omega) ⟨_, ce_20 _⟩ rfl (Nat.le_of_ble_eq_true rfl) (fun _ => rfl) (fun a3 M2 h => ?_)
    refine j_istore (j := 7) dd_M_kind_75 (by decide) rfl ?_
    refine j_iload (j := 7) dd_M_kind_77 rfl ?_
    refine j_iload (j := 4) dd_M_kind_79 rfl ?_
    refine j_icmp_le (tgt := 89) dd_M_kind_81 (by decide) (fun c => ?_) (fun c => ?_)
    · have h := h.1 c
      refine j_iload (j := 5) dd_M_kind_89 rfl ?_
      exact j_jump h (jsub_c rfl (jsub_c rfl (jsub_c rfl (jsub_c rfl (jsub_c rfl (jsub_c rfl (jsub_c rfl jsub_0)))))))
    · have h := h.2 c
      refine j_iload (j := 6) dd_M_kind_84 rfl ?_
      refine j_goto (tgt := 91) dd_M_kind_86 (by decide) ?_
      exact j_jump h (jsub_c rfl (jsub_c rfl (jsub_c rfl (jsub_c rfl (jsub_c rfl (jsub_c rfl (jsub_c rfl jsub_0)))))))
theorem vc_M_kind_91 {E : EE} {Q : Int → JM → Prop} (x1 : Int) (x2 : Int) (x3 : Int) (l4 : Int) (l6 : Int) (l7 : Int) (s0 : Int) (M : JM) (h : ((l7 ≤ l4 → ∀ a1 : Int, a1 = w32 (l6 + 1) → JG E mm_M_kind Q 49 [(0, vR 20 0), (1, vI x1), (2, vI x2), (3, vI x3), (4, vI l4), (5, vI s0), (6, vI a1)] [] M) ∧ (l4 < l7 → ∀ a2 : Int, a2 = w32 (l6 + 1) → JG E mm_M_kind Q 49 [(0, vR 20 0), (1, vI x1), (2, vI x2), (3, vI x3), (4, vI l7), (5, vI s0), (6, vI a2)] [] M))) : JG E mm_M_kind Q 91 [(0, vR 20 0), (1, vI x1), (2, vI x2), (3, vI x3), (4, vI l4), (6, vI l6), (7, vI l7)] [vI s0] M := by
  refine j_istore (j := 5) dd_M_kind_91 (by decide) rfl ?_
  refine j_iload (j := 7) dd_M_kind_93 rfl ?_
  refine j_iload (j := 4) dd_M_kind_95 rfl ?_
  refine j_icmp_le (tgt := 105) dd_M_kind_97 (by decide) (fun c => ?_) (fun c => ?_)
  · have h := h.1 c
    refine j_iload (j := 4) dd_M_kind_105 rfl ?_
    refine j_istore (j := 4) dd_M_kind_107 (by decide) rfl ?_
    refine j_iincN dd_M_kind_109 rfl rfl (fun a1 ea1 => ?_)
    have h := h a1 ea1
    refine j_goto (tgt := 49) dd_M_kind_112 (by decide) ?_
    exact j_jump h (jsub_c rfl (jsub_c rfl (jsub_c rfl (jsub_c rfl (jsub_c rfl (jsub_c rfl (jsub_c rfl jsub_0)))))))
  · have h := h.2 c
    refine j_iload (j := 7) dd_M_kind_100 rfl ?_
    refine j_goto (tgt := 107) dd_M_kind_102 (by decide) ?_
    refine j_istore (j := 4) dd_M_kind_107 (by decide) rfl ?_
    refine j_iincN dd_M_kind_109 rfl rfl (fun a2 ea2 => ?_)
    have h := h a2 ea2
    refine j_goto (tgt := 49) dd_M_kind_112 (by decide) ?_
    exact j_jump h (jsub_c rfl (jsub_c rfl (jsub_c rfl (jsub_c rfl (jsub_c rfl (jsub_c rfl (jsub_c rfl jsub_0)))))))
theorem vc_M_lowest {E : EE} {Q : Int → JM → Prop} (x1 : Int) (x2 : Int) (x3 : Int) (M : JM) (h : JG E mm_M_lowest Q 6 [(0, vL x1), (2, vL x2), (4, vI x3), (5, vL x1), (7, vL x2)] [] M) : JC E mm_M_lowest [vL x1, vL x2, vI x3] M Q := by
  refine j_entry (L0 := [(0, vL x1), (2, vL x2), (4, vI x3)]) pn_M (Nat.le_of_ble_eq_true rfl) rfl ?_
  refine j_lload_n (j := 0) dd_M_lowest_0 rfl rfl ?_
  refine j_lstore (j := 5) dd_M_lowest_1 (by decide) rfl rfl ?_
  refine j_lload_n (j := 2) dd_M_lowest_3 rfl rfl ?_
  refine j_lstore (j := 7) dd_M_lowest_4 (by decide) rfl rfl ?_
  exact j_jump h (jsub_c rfl (jsub_c rfl (jsub_c rfl (jsub_c rfl (jsub_c rfl jsub_0)))))
theorem vc_M_lowest_6 {E : EE} {Q : Int → JM → Prop} (x1 : Int) (x2 : Int) (x3 : Int) (l5 : Int) (l7 : Int) (M : JM) (h : ((cmpL l7 0 = 0 → ((x3 ≠ 0 → (l5 ≠ 0) ∧ Q (w64 (Int.tdiv x2 l5)) M) ∧ (x3 = 0 → (l5 ≠ 0) ∧ Q (w64 (Int.tdiv x1 l5)) M))) ∧ (cmpL l7 0 ≠ 0 → (l7 ≠ 0) ∧ ∀ a1 : Int, a1 = w64 (Int.tmod l5 l7) → JG E mm_M_lowest Q 6 [(0, vL x1), (2, vL x2), (4, vI x3), (5, vL l7), (7, vL a1)] [] M))) : JG E mm_M_lowest Q 6 [(0, vL x1), (2, vL x2), (4, vI x3), (5, vL l5), (7, vL l7)] [] M := by
  refine j_lload (j := 7) dd_M_lowest_6 rfl ?_
  refine j_lconst (x := 0) dd_M_lowest_8 rfl (inLd rfl) ?_
  refine j_lcmp dd_M_lowest_9 ?_
  refine j_if_eq (tgt := 31) dd_M_lowest_10 (by decide) (fun c => ?_) (fun c => ?_)
  · have h := h.1 c
    refine j_iload (j := 4) dd_M_lowest_31 rfl ?_
    refine j_if_ne (tgt := 40) dd_M_lowest_33 (by decide) (fun c => ?_) (fun c => ?_)
    · have h := h.1 c
      refine j_lload_n (j := 2) dd_M_lowest_40 rfl rfl ?_
      refine j_lload (j := 5) dd_M_lowest_41 rfl ?_
      refine j_ldiv dd_M_lowest_43 h.1 ?_
      have h := h.2
      exact j_lret dd_M_lowest_44 rfl h
    · have h := h.2 c
      refine j_lload_n (j := 0) dd_M_lowest_36 rfl rfl ?_
      refine j_goto (tgt := 41) dd_M_lowest_37 (by decide) ?_
      refine j_lload (j := 5) dd_M_lowest_41 rfl ?_
      refine j_ldiv dd_M_lowest_43 h.1 ?_
      have h := h.2
      exact j_lret dd_M_lowest_44 rfl h
  · have h := h.2 c
    refine j_lload (j := 5) dd_M_lowest_13 rfl ?_
    refine j_lload (j := 7) dd_M_lowest_15 rfl ?_
    refine j_lrem dd_M_lowest_17 h.1 ?_
    have h := h.2
    refine j_topL (fun a1 ea1 => ?_)
    have h := h a1 ea1
    refine j_lstore (j := 9) dd_M_lowest_18 (by decide) rfl rfl ?_
    refine j_lload (j := 7) dd_M_lowest_20 rfl ?_
    refine j_lstore (j := 5) dd_M_lowest_22 (by decide) rfl rfl ?_
    refine j_lload (j := 9) dd_M_lowest_24 rfl ?_
    refine j_lstore (j := 7) dd_M_lowest_26 (by decide) rfl rfl ?_
    refine j_goto (tgt := 6) dd_M_lowest_28 (by decide) ?_
    exact j_jump h (jsub_c rfl (jsub_c rfl (jsub_c rfl (jsub_c rfl (jsub_c rfl jsub_0)))))
theorem vc_M_byIllness {E : EE} {Q : Int → JM → Prop} (x1 : Int) (x2 : Int) (x3 : Int) (x4 : Int) (M : JM) (h : JG E mm_M_byIllness Q 9 [(0, vR 20 0), (1, vI x1), (2, vI x2), (3, vI x3), (4, vI x4), (5, vL 0), (7, vL 1), (9, vI 0)] [] M) : JC E mm_M_byIllness [vR 20 0, vI x1, vI x2, vI x3, vI x4] M Q := by
  refine j_entry (L0 := [(0, vR 20 0), (1, vI x1), (2, vI x2), (3, vI x3), (4, vI x4)]) pn_M (Nat.le_of_ble_eq_true rfl) rfl ?_
  refine j_lconst (x := 0) dd_M_byIllness_0 rfl (inLd rfl) ?_
  refine j_lstore (j := 5) dd_M_byIllness_1 (by decide) rfl rfl ?_
  refine j_lconst (x := 1) dd_M_byIllness_3 rfl (inLd rfl) ?_
  refine j_lstore (j := 7) dd_M_byIllness_4 (by decide) rfl rfl ?_
  refine j_iconst dd_M_byIllness_6 (inRd rfl) ?_
  refine j_istore (j := 9) dd_M_byIllness_7 (by decide) rfl ?_
  exact j_jump h (jsub_c rfl (jsub_c rfl (jsub_c rfl (jsub_c rfl (jsub_c rfl (jsub_c rfl (jsub_c rfl (jsub_c rfl jsub_0))))))))
theorem vc_M_byIllness_9 {E : EE} {Q : Int → JM → Prop} (x1 : Int) (x2 : Int) (x3 : Int) (x4 : Int) (l5 : Int) (l7 : Int) (l9 : Int) (M : JM) (h : ((w32 (x3 * (M 20 0 1)) ≤ l9 → JG E mm_M_byIllness Q 37 [(0, vR 20 0), (1, vI x1), (2, vI x2), (3, vI x3), (4, vI x4), (5, vL l5), (7, vL l7), (9, vI 0)] [] M) ∧ (l9 < w32 (x3 * (M 20 0 1)) → ∀ a1 : Int, a1 = w64 (l7 * 10) → ∀ a2 : Int, a2 = w32 (l9 + 1) → JG E mm_M_byIllness Q 9 [(0, vR 20 0), (1, vI x1), (2, vI x2), (3, vI x3), (4, vI x4), (5, vL l5), (7, vL a1), (9, vI a2)] [] M))) : JG E mm_M_byIllness Q 9 [(0, vR 20 0), (1, vI x1), (2, vI x2), (3, vI x3), (4, vI x4), (5, vL l5), (7, vL l7), (9, vI l9)] [] M := by
  refine j_iload (j := 9) dd_M_byIllness_9 rfl ?_
  refine j_iload_n (j := 3) dd_M_byIllness_11 rfl rfl ?_
  refine j_aload_n (j := 0) dd_M_byIllness_12 rfl rfl ?_
  refine gf_20_1 dd_M_byIllness_13 wd_849 ?_
  refine j_imul dd_M_byIllness_16 ?_
  refine j_icmp_ge (tgt := 34) dd_M_byIllness_17 (by decide) (fun c => ?_) (fun c => ?_)
  · have h := h.1 c
    refine j_iconst dd_M_byIllness_34 (inRd rfl) ?_
    refine j_istore (j := 9) dd_M_byIllness_35 (by decide) rfl ?_
    exact j_jump h (jsub_c rfl (jsub_c rfl (jsub_c rfl (jsub_c rfl (jsub_c rfl (jsub_c rfl (jsub_c rfl (jsub_c rfl jsub_0))))))))
  · have h := h.2 c
    refine j_lload (j := 7) dd_M_byIllness_20 rfl ?_
    refine j_ldc2 (x := 10) dd_M_byIllness_22 wd_1158 rfl (inLd rfl) ?_
    refine j_lmul dd_M_byIllness_25 ?_
    refine j_topL (fun a1 ea1 => ?_)
    have h := h a1 ea1
    refine j_lstore (j := 7) dd_M_byIllness_26 (by decide) rfl rfl ?_
    refine j_iincN dd_M_byIllness_28 rfl rfl (fun a2 ea2 => ?_)
    have h := h a2 ea2
    refine j_goto (tgt := 9) dd_M_byIllness_31 (by decide) ?_
    exact j_jump h (jsub_c rfl (jsub_c rfl (jsub_c rfl (jsub_c rfl (jsub_c rfl (jsub_c rfl (jsub_c rfl (jsub_c rfl jsub_0))))))))
theorem vc_M_byIllness_37 {E : EE} {Q : Int → JM → Prop} (x1 : Int) (x2 : Int) (x3 : Int) (x4 : Int) (l5 : Int) (l7 : Int) (l9 : Int) (M : JM) (h : ((shl32 1 (w32 (x3 * (M 20 0 1))) ≤ l9 → JC E mm_M_lowest [vL l5, vL l7, vI x4] M (fun a2 M1 => Q a2 M1)) ∧ (l9 < shl32 1 (w32 (x3 * (M 20 0 1))) → JC E mm_M_copies [vR 20 0, vI 0, vI 176] M (fun a4 M3 => JG E mm_M_byIllness Q 64 [(0, vR 20 0), (1, vI x1), (2, vI x2), (3, vI x3), (4, vI x4), (5, vL l5), (7, vL l7), (9, vI l9), (10, vL 1), (12, vI 0)] [] M3)))) : JG E mm_M_byIllness Q 37 [(0, vR 20 0), (1, vI x1), (2, vI x2), (3, vI x3), (4, vI x4), (5, vL l5), (7, vL l7), (9, vI l9)] [] M := by
  refine j_iload (j := 9) dd_M_byIllness_37 rfl ?_
  refine j_iconst dd_M_byIllness_39 (inRd rfl) ?_
  refine j_iload_n (j := 3) dd_M_byIllness_40 rfl rfl ?_
  refine j_aload_n (j := 0) dd_M_byIllness_41 rfl rfl ?_
  refine gf_20_1 dd_M_byIllness_42 wd_849 ?_
  refine j_imul dd_M_byIllness_45 ?_
  refine j_ishl dd_M_byIllness_46 ?_
  refine j_icmp_ge (tgt := 203) dd_M_byIllness_47 (by decide) (fun c => ?_) (fun c => ?_)
  · have h := h.1 c
    refine j_lload (j := 5) dd_M_byIllness_203 rfl ?_
    refine j_lload (j := 7) dd_M_byIllness_205 rfl ?_
    refine j_iload (j := 4) dd_M_byIllness_207 rfl ?_
    refine j_cSL (mm' := mm_M_lowest) (As := [vL l5, vL l7, vI x4]) (rest := []) h dd_M_byIllness_209 (ws4 wd_1163 wd_1164 wd_70 wd_1165) nk_M_lowest (rok rfl) (Nat.le_of_ble_eq_true rfl) (fun _ => rfl) (fun a2 M1 h => ?_)
    exact j_lret dd_M_byIllness_212 rfl h
  · have h := h.2 c
    refine j_lconst (x := 1) dd_M_byIllness_50 rfl (inLd rfl) ?_
    refine j_lstore (j := 10) dd_M_byIllness_51 (by decide) rfl rfl ?_
    refine j_aload_n (j := 0) dd_M_byIllness_53 rfl rfl ?_
    refine j_iconst dd_M_byIllness_54 (inRd rfl) ?_
    refine j_sipush dd_M_byIllness_55 rfl (inRd rfl) ?_
    refine j_cVV (mm' := mm_M_copies) (t := 20) (i := 0) (As := [vI 0, vI 176]) (rest := []) h dd_M_byIllness_58 (ws5 wd_1031 wd_1033 wd_48 wd_70 wd_1034) nk_M_copies (rok rfl) (by unfold isW; omega) ⟨_, ce_20 _⟩ rfl (Nat.le_of_ble_eq_true rfl) (fun _ => rfl) (fun a4 M3 h => ?_)
    refine j_iconst dd_M_byIllness_61 (inRd rfl) ?_
    refine j_istore (j := 12) dd_M_byIllness_62 (by decide) rfl ?_
    exact j_jump h (jsub_c rfl (jsub_c rfl (jsub_c rfl (jsub_c rfl (jsub_c rfl (jsub_c rfl (jsub_c rfl (jsub_c rfl (jsub_c rfl (jsub_c rfl jsub_0))))))))))
theorem vc_M_byIllness_64 {E : EE} {Q : Int → JM → Prop} (x1 : Int) (x2 : Int) (x3 : Int) (x4 : Int) (l5 : Int) (l7 : Int) (l9 : Int) (l10 : Int) (l12 : Int) (M : JM) (h : ((w32 (x3 * (M 20 0 1)) ≤ l12 → JG E mm_M_byIllness Q 110 [(0, vR 20 0), (1, vI x1), (2, vI x2), (3, vI x3), (4, vI x4), (5, vL l5), (7, vL l7), (9, vI l9), (10, vL l10), (12, vI 0)] [] M) ∧ (l12 < w32 (x3 * (M 20 0 1)) → ((and32 (shr32 l9 l12) 1 ≠ 1 → JG E mm_M_byIllness Q 98 [(0, vR 20 0), (1, vI x1), (2, vI x2), (3, vI x3), (4, vI x4), (5, vL l5), (7, vL l7), (9, vI l9), (12, vI l12)] [vL (w32 (10 - x1)), vL l10] M) ∧ (and32 (shr32 l9 l12) 1 = 1 → JG E mm_M_byIllness Q 98 [(0, vR 20 0), (1, vI x1), (2, vI x2), (3, vI x3), (4, vI x4), (5, vL l5), (7, vL l7), (9, vI l9), (12, vI l12)] [vL x1, vL l10] M))))) : JG E mm_M_byIllness Q 64 [(0, vR 20 0), (1, vI x1), (2, vI x2), (3, vI x3), (4, vI x4), (5, vL l5), (7, vL l7), (9, vI l9), (10, vL l10), (12, vI l12)] [] M := by
  refine j_iload (j := 12) dd_M_byIllness_64 rfl ?_
  refine j_iload_n (j := 3) dd_M_byIllness_66 rfl rfl ?_
  refine j_aload_n (j := 0) dd_M_byIllness_67 rfl rfl ?_
  refine gf_20_1 dd_M_byIllness_68 wd_849 ?_
  refine j_imul dd_M_byIllness_71 ?_
  refine j_icmp_ge (tgt := 107) dd_M_byIllness_72 (by decide) (fun c => ?_) (fun c => ?_)
  · have h := h.1 c
    refine j_iconst dd_M_byIllness_107 (inRd rfl) ?_
    refine j_istore (j := 12) dd_M_byIllness_108 (by decide) rfl ?_
    exact j_jump h (jsub_c rfl (jsub_c rfl (jsub_c rfl (jsub_c rfl (jsub_c rfl (jsub_c rfl (jsub_c rfl (jsub_c rfl (jsub_c rfl (jsub_c rfl jsub_0))))))))))
  · have h := h.2 c
    refine j_lload (j := 10) dd_M_byIllness_75 rfl ?_
    refine j_iload (j := 9) dd_M_byIllness_77 rfl ?_
    refine j_iload (j := 12) dd_M_byIllness_79 rfl ?_
    refine j_ishr dd_M_byIllness_81 ?_
    refine j_iconst dd_M_byIllness_82 (inRd rfl) ?_
    refine j_iand dd_M_byIllness_83 ?_
    refine j_iconst dd_M_byIllness_84 (inRd rfl) ?_
    refine j_icmp_ne (tgt := 93) dd_M_byIllness_85 (by decide) (fun c => ?_) (fun c => ?_)
    · have h := h.1 c
      refine j_bipush dd_M_byIllness_93 rfl (inRd rfl) ?_
      refine j_iload_n (j := 1) dd_M_byIllness_95 rfl rfl ?_
      refine j_isub dd_M_byIllness_96 ?_
      refine j_i2l dd_M_byIllness_97 ?_
      exact j_jump h (jsub_c rfl (jsub_c rfl (jsub_c rfl (jsub_c rfl (jsub_c rfl (jsub_c rfl (jsub_c rfl (jsub_c rfl (jsub_c rfl jsub_0)))))))))
    · have h := h.2 c
      refine j_iload_n (j := 1) dd_M_byIllness_88 rfl rfl ?_
      refine j_i2l dd_M_byIllness_89 ?_
      refine j_goto (tgt := 98) dd_M_byIllness_90 (by decide) ?_
      exact j_jump h (jsub_c rfl (jsub_c rfl (jsub_c rfl (jsub_c rfl (jsub_c rfl (jsub_c rfl (jsub_c rfl (jsub_c rfl (jsub_c rfl jsub_0)))))))))
theorem vc_M_byIllness_98 {E : EE} {Q : Int → JM → Prop} (x1 : Int) (x2 : Int) (x3 : Int) (x4 : Int) (l5 : Int) (l7 : Int) (l9 : Int) (l12 : Int) (s0 : Int) (s1 : Int) (M : JM) (h : ∀ a1 : Int, a1 = w64 (s0 * s1) → ∀ a2 : Int, a2 = w32 (l12 + 1) → JG E mm_M_byIllness Q 64 [(0, vR 20 0), (1, vI x1), (2, vI x2), (3, vI x3), (4, vI x4), (5, vL l5), (7, vL l7), (9, vI l9), (10, vL a1), (12, vI a2)] [] M) : JG E mm_M_byIllness Q 98 [(0, vR 20 0), (1, vI x1), (2, vI x2), (3, vI x3), (4, vI x4), (5, vL l5), (7, vL l7), (9, vI l9), (12, vI l12)] [vL s1, vL s0] M := by
  refine j_lmul dd_M_byIllness_98 ?_
  refine j_topL (fun a1 ea1 => ?_)
  have h := h a1 ea1
  refine j_lstore (j := 10) dd_M_byIllness_99 (by decide) rfl rfl ?_
  refine j_iincN dd_M_byIllness_101 rfl rfl (fun a2 ea2 => ?_)
  have h := h a2 ea2
  refine j_goto (tgt := 64) dd_M_byIllness_104 (by decide) ?_
  exact j_jump h (jsub_c rfl (jsub_c rfl (jsub_c rfl (jsub_c rfl (jsub_c rfl (jsub_c rfl (jsub_c rfl (jsub_c rfl (jsub_c rfl (jsub_c rfl jsub_0))))))))))
theorem vc_M_byIllness_110 {E : EE} {Q : Int → JM → Prop} (x1 : Int) (x2 : Int) (x3 : Int) (x4 : Int) (l5 : Int) (l7 : Int) (l9 : Int) (l10 : Int) (l12 : Int) (M : JM) (h : ((x3 ≤ l12 → ((x2 ≠ (-4) → JG E mm_M_byIllness Q 192 [(0, vR 20 0), (1, vI x1), (2, vI x2), (3, vI x3), (4, vI x4), (7, vL l7), (9, vI l9)] [vI (and32 (shr32 (M 20 0 18) x2) 1), vL l10, vL l5] M) ∧ (x2 = (-4) → JC E mm_M_wagesOn [vR 20 0, vI 176] M (fun a2 M1 => JC E mm_M_wagesOn [vR 20 0, vI 0] M1 (fun a4 M3 => JG E mm_M_byIllness Q 192 [(0, vR 20 0), (1, vI x1), (2, vI x2), (3, vI x3), (4, vI x4), (7, vL l7), (9, vI l9)] [vI (w32 (a2 - a4)), vL l10, vL l5] M3))))) ∧ (l12 < x3 → JC E mm_M_weekOn [vR 20 0, vI 176, vI (w32 (M 21 0 217 + 2)), vI (and32 (shr32 l9 (w32 (l12 * (M 20 0 1)))) (w32 (shl32 1 (M 20 0 1) - 1)))] M (fun a6 M5 => ∀ a7 : Int, a7 = w32 (l12 + 1) → JG E mm_M_byIllness Q 110 [(0, vR 20 0), (1, vI x1), (2, vI x2), (3, vI x3), (4, vI x4), (5, vL l5), (7, vL l7), (9, vI l9), (10, vL l10), (12, vI a7)] [] M5)))) : JG E mm_M_byIllness Q 110 [(0, vR 20 0), (1, vI x1), (2, vI x2), (3, vI x3), (4, vI x4), (5, vL l5), (7, vL l7), (9, vI l9), (10, vL l10), (12, vI l12)] [] M := by
  refine j_iload (j := 12) dd_M_byIllness_110 rfl ?_
  refine j_iload_n (j := 3) dd_M_byIllness_112 rfl rfl ?_
  refine j_icmp_ge (tgt := 158) dd_M_byIllness_113 (by decide) (fun c => ?_) (fun c => ?_)
  · have h := h.1 c
    refine j_lload (j := 5) dd_M_byIllness_158 rfl ?_
    refine j_lload (j := 10) dd_M_byIllness_160 rfl ?_
    refine j_iload_n (j := 2) dd_M_byIllness_162 rfl rfl ?_
    refine j_bipush dd_M_byIllness_163 rfl (inRd rfl) ?_
    refine j_icmp_ne (tgt := 184) dd_M_byIllness_165 (by decide) (fun c => ?_) (fun c => ?_)
    · have h := h.1 c
      refine j_aload_n (j := 0) dd_M_byIllness_184 rfl rfl ?_
      refine gf_20_18 dd_M_byIllness_185 wd_866 ?_
      refine j_iload_n (j := 2) dd_M_byIllness_188 rfl rfl ?_
      refine j_ishr dd_M_byIllness_189 ?_
      refine j_iconst dd_M_byIllness_190 (inRd rfl) ?_
      refine j_iand dd_M_byIllness_191 ?_
      exact j_jump h (jsub_c rfl (jsub_c rfl (jsub_c rfl (jsub_c rfl (jsub_c rfl (jsub_c rfl (jsub_c rfl jsub_0)))))))
    · have h := h.2 c
      refine j_aload_n (j := 0) dd_M_byIllness_168 rfl rfl ?_
      refine j_sipush dd_M_byIllness_169 rfl (inRd rfl) ?_
      refine j_cVI (mm' := mm_M_wagesOn) (t := 20) (i := 0) (As := [vI 176]) (rest := [vL l10, vL l5]) h dd_M_byIllness_172 (ws5 wd_997 wd_999 wd_42 wd_70 wd_1000) nk_M_wagesOn (rok rfl) (by unfold isW; omega) ⟨_, ce_20 _⟩ rfl (Nat.le_of_ble_eq_true rfl) (fun _ => rfl) (fun a2 M1 h => ?_)
      refine j_aload_n (j := 0) dd_M_byIllness_175 rfl rfl ?_
      refine j_iconst dd_M_byIllness_176 (inRd rfl) ?_
      refine j_cVI (mm' := mm_M_wagesOn) (t := 20) (i := 0) (As := [vI 0]) (rest := [vI a2, vL l10, vL l5]) h dd_M_byIllness_177 (ws5 wd_997 wd_999 wd_42 wd_70 wd_1000) nk_M_wagesOn (rok rfl) (by unfold isW; omega) ⟨_, ce_20 _⟩ rfl (Nat.le_of_ble_eq_true rfl) (fun _ => rfl) (fun a4 M3 h => ?_)
      refine j_isub dd_M_byIllness_180 ?_
      refine j_goto (tgt := 192) dd_M_byIllness_181 (by decide) ?_
      exact j_jump h (jsub_c rfl (jsub_c rfl (jsub_c rfl (jsub_c rfl (jsub_c rfl (jsub_c rfl (jsub_c rfl jsub_0)))))))
  · have h := h.2 c
    refine j_aload_n (j := 0) dd_M_byIllness_116 rfl rfl ?_
    refine j_sipush dd_M_byIllness_117 rfl (inRd rfl) ?_
    refine j_aload_n (j := 0) dd_M_byIllness_120 rfl rfl ?_
    refine gf_20_0 dd_M_byIllness_121 wd_848 ?_
    refine j_sipush dd_M_byIllness_124 rfl (inRd rfl) ?_
    refine ld_21 dd_M_byIllness_127 ⟨by decide, by decide⟩ ?_
    refine j_iconst dd_M_byIllness_128 (inRd rfl) ?_
    refine j_iadd dd_M_byIllness_129 ?_
    refine j_iload (j := 9) dd_M_byIllness_130 rfl ?_
    refine j_iload (j := 12) dd_M_byIllness_132 rfl ?_
    refine j_aload_n (j := 0) dd_M_byIllness_134 rfl rfl ?_
    refine gf_20_1 dd_M_byIllness_135 wd_849 ?_
    refine j_imul dd_M_byIllness_138 ?_
    refine j_ishr dd_M_byIllness_139 ?_
    refine j_iconst dd_M_byIllness_140 (inRd rfl) ?_
    refine j_aload_n (j := 0) dd_M_byIllness_141 rfl rfl ?_
    refine gf_20_1 dd_M_byIllness_142 wd_849 ?_
    refine j_ishl dd_M_byIllness_145 ?_
    refine j_iconst dd_M_byIllness_146 (inRd rfl) ?_
    refine j_isub dd_M_byIllness_147 ?_
    refine j_iand dd_M_byIllness_148 ?_
    refine j_cVV (mm' := mm_M_weekOn) (t := 20) (i := 0) (As := [vI 176, vI (w32 (M 21 0 217 + 2)), vI (and32 (shr32 l9 (w32 (l12 * (M 20 0 1)))) (w32 (shl32 1 (M 20 0 1) - 1)))]) (rest := []) h dd_M_byIllness_149 (ws5 wd_1091 wd_1093 wd_54 wd_70 wd_1094) nk_M_weekOn (rok rfl) (by unfold isW; omega) ⟨_, ce_20 _⟩ rfl (Nat.le_of_ble_eq_true rfl) (fun _ => rfl) (fun a6 M5 h => ?_)
    refine j_iincN dd_M_byIllness_152 rfl rfl (fun a7 ea7 => ?_)
    have h := h a7 ea7
    refine j_goto (tgt := 110) dd_M_byIllness_155 (by decide) ?_
    exact j_jump h (jsub_c rfl (jsub_c rfl (jsub_c rfl (jsub_c rfl (jsub_c rfl (jsub_c rfl (jsub_c rfl (jsub_c rfl (jsub_c rfl (jsub_c rfl jsub_0))))))))))
theorem vc_M_byIllness_192 {E : EE} {Q : Int → JM → Prop} (x1 : Int) (x2 : Int) (x3 : Int) (x4 : Int) (l7 : Int) (l9 : Int) (s0 : Int) (s1 : Int) (s2 : Int) (M : JM) (h : ∀ a1 : Int, a1 = w64 (s0 + (w64 (s1 * s2))) → ∀ a2 : Int, a2 = w32 (l9 + 1) → JG E mm_M_byIllness Q 37 [(0, vR 20 0), (1, vI x1), (2, vI x2), (3, vI x3), (4, vI x4), (5, vL a1), (7, vL l7), (9, vI a2)] [] M) : JG E mm_M_byIllness Q 192 [(0, vR 20 0), (1, vI x1), (2, vI x2), (3, vI x3), (4, vI x4), (7, vL l7), (9, vI l9)] [vI s2, vL s1, vL s0] M := by
  refine j_i2l dd_M_byIllness_192 ?_
  refine j_lmul dd_M_byIllness_193 ?_
  refine j_ladd dd_M_byIllness_194 ?_
  refine j_topL (fun a1 ea1 => ?_)
  have h := h a1 ea1
  refine j_lstore (j := 5) dd_M_byIllness_195 (by decide) rfl rfl ?_
  refine j_iincN dd_M_byIllness_197 rfl rfl (fun a2 ea2 => ?_)
  have h := h a2 ea2
  refine j_goto (tgt := 37) dd_M_byIllness_200 (by decide) ?_
  exact j_jump h (jsub_c rfl (jsub_c rfl (jsub_c rfl (jsub_c rfl (jsub_c rfl (jsub_c rfl (jsub_c rfl (jsub_c rfl jsub_0))))))))
theorem vc_M_luck {E : EE} {Q : Int → JM → Prop} (x1 : Int) (x2 : Int) (x3 : Int) (M : JM) (h : JC E mm_M_in [vL x1, vL 0, vL 10] M (fun a2 M1 => ((a2 = 0 → Q (-1) M1) ∧ (a2 ≠ 0 → JC E mm_M_isGoods [vR 20 0, vI x2] M1 (fun a4 M3 => ((a4 = 0 → Q (-1) M3) ∧ (a4 ≠ 0 → JC E mm_M_in [vL x3, vL 0, vL 1] M3 (fun a6 M5 => ((a6 = 0 → Q (-1) M5) ∧ (a6 ≠ 0 → JC E mm_M_byIllness [vR 20 0, vI x1, vI x2, vI 1, vI x3] M5 (fun a8 M7 => Q a8 M7))))))))))) : JC E mm_M_luck [vR 20 0, vI x1, vI x2, vI x3] M Q := by
  refine j_entry (L0 := [(0, vR 20 0), (1, vI x1), (2, vI x2), (3, vI x3)]) pn_M (Nat.le_of_ble_eq_true rfl) rfl ?_
  refine j_iload_n (j := 1) dd_M_luck_0 rfl rfl ?_
  refine j_i2l dd_M_luck_1 ?_
  refine j_lconst (x := 0) dd_M_luck_2 rfl (inLd rfl) ?_
  refine j_ldc2 (x := 10) dd_M_luck_3 wd_1158 rfl (inLd rfl) ?_
  refine j_cSI (mm' := mm_M_in) (As := [vL x1, vL 0, vL 10]) (rest := []) h dd_M_luck_6 (ws4 wd_941 wd_942 wd_70 wd_943) nk_M_in (rok rfl) (Nat.le_of_ble_eq_true rfl) (fun _ => rfl) (fun a2 M1 h => ?_)
  refine j_if_eq (tgt := 41) dd_M_luck_9 (by decide) (fun c => ?_) (fun c => ?_)
  · have h := h.1 c
    refine j_ldc2 (x := (-1)) dd_M_luck_41 wd_1166 rfl (inLd rfl) ?_
    exact j_lret dd_M_luck_44 rfl h
  · have h := h.2 c
    refine j_aload_n (j := 0) dd_M_luck_12 rfl rfl ?_
    refine j_iload_n (j := 2) dd_M_luck_13 rfl rfl ?_
    refine j_cVI (mm' := mm_M_isGoods) (t := 20) (i := 0) (As := [vI x2]) (rest := []) h dd_M_luck_14 (ws5 wd_1005 wd_1007 wd_43 wd_70 wd_1008) nk_M_isGoods (rok rfl) (by unfold isW; omega) ⟨_, ce_20 _⟩ rfl (Nat.le_of_ble_eq_true rfl) (fun _ => rfl) (fun a4 M3 h => ?_)
    refine j_if_eq (tgt := 41) dd_M_luck_17 (by decide) (fun c => ?_) (fun c => ?_)
    · have h := h.1 c
      refine j_ldc2 (x := (-1)) dd_M_luck_41 wd_1166 rfl (inLd rfl) ?_
      exact j_lret dd_M_luck_44 rfl h
    · have h := h.2 c
      refine j_iload_n (j := 3) dd_M_luck_20 rfl rfl ?_
      refine j_i2l dd_M_luck_21 ?_
      refine j_lconst (x := 0) dd_M_luck_22 rfl (inLd rfl) ?_
      refine j_lconst (x := 1) dd_M_luck_23 rfl (inLd rfl) ?_
      refine j_cSI (mm' := mm_M_in) (As := [vL x3, vL 0, vL 1]) (rest := []) h dd_M_luck_24 (ws4 wd_941 wd_942 wd_70 wd_943) nk_M_in (rok rfl) (Nat.le_of_ble_eq_true rfl) (fun _ => rfl) (fun a6 M5 h => ?_)
      refine j_if_eq (tgt := 41) dd_M_luck_27 (by decide) (fun c => ?_) (fun c => ?_)
      · have h := h.1 c
        refine j_ldc2 (x := (-1)) dd_M_luck_41 wd_1166 rfl (inLd rfl) ?_
        exact j_lret dd_M_luck_44 rfl h
      · have h := h.2 c
        refine j_aload_n (j := 0) dd_M_luck_30 rfl rfl ?_
        refine j_iload_n (j := 1) dd_M_luck_31 rfl rfl ?_
        refine j_iload_n (j := 2) dd_M_luck_32 rfl rfl ?_
        refine j_iconst dd_M_luck_33 (inRd rfl) ?_
        refine j_iload_n (j := 3) dd_M_luck_34 rfl rfl ?_
        refine j_cVL (mm' := mm_M_byIllness) (t := 20) (i := 0) (As := [vI x1, vI x2, vI 1, vI x3]) (rest := []) h dd_M_luck_35 (ws5 wd_1159 wd_1161 wd_58 wd_70 wd_1162) nk_M_byIllness (rok rfl) (by unfold isW; omega) ⟨_, ce_20 _⟩ rfl (Nat.le_of_ble_eq_true rfl) (fun _ => rfl) (fun a8 M7 h => ?_)
        refine j_goto (tgt := 44) dd_M_luck_38 (by decide) ?_
        exact j_lret dd_M_luck_44 rfl h
theorem vc_M_mean {E : EE} {Q : Int → JM → Prop} (x1 : Int) (x2 : Int) (x3 : Int) (M : JM) (h : JC E mm_M_in [vL x1, vL 0, vL 10] M (fun a2 M1 => ((a2 = 0 → Q (-1) M1) ∧ (a2 ≠ 0 → JC E mm_M_in [vL x2, vL 0, vL 2] M1 (fun a4 M3 => ((a4 = 0 → Q (-1) M3) ∧ (a4 ≠ 0 → JC E mm_M_in [vL x3, vL 0, vL 1] M3 (fun a6 M5 => ((a6 = 0 → Q (-1) M5) ∧ (a6 ≠ 0 → JC E mm_M_byIllness [vR 20 0, vI x1, vI (-4), vI x2, vI x3] M5 (fun a8 M7 => Q a8 M7))))))))))) : JC E mm_M_mean [vR 20 0, vI x1, vI x2, vI x3] M Q := by
  refine j_entry (L0 := [(0, vR 20 0), (1, vI x1), (2, vI x2), (3, vI x3)]) pn_M (Nat.le_of_ble_eq_true rfl) rfl ?_
  refine j_iload_n (j := 1) dd_M_mean_0 rfl rfl ?_
  refine j_i2l dd_M_mean_1 ?_
  refine j_lconst (x := 0) dd_M_mean_2 rfl (inLd rfl) ?_
  refine j_ldc2 (x := 10) dd_M_mean_3 wd_1158 rfl (inLd rfl) ?_
  refine j_cSI (mm' := mm_M_in) (As := [vL x1, vL 0, vL 10]) (rest := []) h dd_M_mean_6 (ws4 wd_941 wd_942 wd_70 wd_943) nk_M_in (rok rfl) (Nat.le_of_ble_eq_true rfl) (fun _ => rfl) (fun a2 M1 h => ?_)
  refine j_if_eq (tgt := 46) dd_M_mean_9 (by decide) (fun c => ?_) (fun c => ?_)
  · have h := h.1 c
    refine j_ldc2 (x := (-1)) dd_M_mean_46 wd_1166 rfl (inLd rfl) ?_
    exact j_lret dd_M_mean_49 rfl h
  · have h := h.2 c
    refine j_iload_n (j := 2) dd_M_mean_12 rfl rfl ?_
    refine j_i2l dd_M_mean_13 ?_
    refine j_lconst (x := 0) dd_M_mean_14 rfl (inLd rfl) ?_
    refine j_ldc2 (x := 2) dd_M_mean_15 wd_1129 rfl (inLd rfl) ?_
    refine j_cSI (mm' := mm_M_in) (As := [vL x2, vL 0, vL 2]) (rest := []) h dd_M_mean_18 (ws4 wd_941 wd_942 wd_70 wd_943) nk_M_in (rok rfl) (Nat.le_of_ble_eq_true rfl) (fun _ => rfl) (fun a4 M3 h => ?_)
    refine j_if_eq (tgt := 46) dd_M_mean_21 (by decide) (fun c => ?_) (fun c => ?_)
    · have h := h.1 c
      refine j_ldc2 (x := (-1)) dd_M_mean_46 wd_1166 rfl (inLd rfl) ?_
      exact j_lret dd_M_mean_49 rfl h
    · have h := h.2 c
      refine j_iload_n (j := 3) dd_M_mean_24 rfl rfl ?_
      refine j_i2l dd_M_mean_25 ?_
      refine j_lconst (x := 0) dd_M_mean_26 rfl (inLd rfl) ?_
      refine j_lconst (x := 1) dd_M_mean_27 rfl (inLd rfl) ?_
      refine j_cSI (mm' := mm_M_in) (As := [vL x3, vL 0, vL 1]) (rest := []) h dd_M_mean_28 (ws4 wd_941 wd_942 wd_70 wd_943) nk_M_in (rok rfl) (Nat.le_of_ble_eq_true rfl) (fun _ => rfl) (fun a6 M5 h => ?_)
      refine j_if_eq (tgt := 46) dd_M_mean_31 (by decide) (fun c => ?_) (fun c => ?_)
      · have h := h.1 c
        refine j_ldc2 (x := (-1)) dd_M_mean_46 wd_1166 rfl (inLd rfl) ?_
        exact j_lret dd_M_mean_49 rfl h
      · have h := h.2 c
        refine j_aload_n (j := 0) dd_M_mean_34 rfl rfl ?_
        refine j_iload_n (j := 1) dd_M_mean_35 rfl rfl ?_
        refine j_bipush dd_M_mean_36 rfl (inRd rfl) ?_
        refine j_iload_n (j := 2) dd_M_mean_38 rfl rfl ?_
        refine j_iload_n (j := 3) dd_M_mean_39 rfl rfl ?_
        refine j_cVL (mm' := mm_M_byIllness) (t := 20) (i := 0) (As := [vI x1, vI (-4), vI x2, vI x3]) (rest := []) h dd_M_mean_40 (ws5 wd_1159 wd_1161 wd_58 wd_70 wd_1162) nk_M_byIllness (rok rfl) (by unfold isW; omega) ⟨_, ce_20 _⟩ rfl (Nat.le_of_ble_eq_true rfl) (fun _ => rfl) (fun a8 M7 h => ?_)
        refine j_goto (tgt := 49) dd_M_mean_43 (by decide) ?_
        exact j_lret dd_M_mean_49 rfl h
theorem vc_M_see {E : EE} {Q : Int → JM → Prop} (x1 : Int) (x2 : Int) (x3 : Int) (M : JM) (h : JC E mm_M_in [vL x1, vL 0, vL 20] M (fun a2 M1 => ((a2 = 0 → Q (-1) M1) ∧ (a2 ≠ 0 → JC E mm_M_isOne [vR 20 0, vI x2] M1 (fun a4 M3 => ((a4 = 0 → Q (-1) M3) ∧ (a4 ≠ 0 → JC E mm_M_in [vL x3, vL 0, vL 999] M3 (fun a6 M5 => ((a6 ≠ 0 → ((M5 20 0 22 ≠ 6 → (0 ≤ w32 (3 * (M5 20 0 22)) ∧ w32 (3 * (M5 20 0 22)) < 18) ∧ ∀ M7 : JM, M7 = pt M5 28 0 ((w32 (3 * (M5 20 0 22))).toNat) x1 → (0 ≤ w32 (w32 (3 * (M7 20 0 22)) + 1) ∧ w32 (w32 (3 * (M7 20 0 22)) + 1) < 18) ∧ ∀ M8 : JM, M8 = pt M7 28 0 ((w32 (w32 (3 * (M7 20 0 22)) + 1)).toNat) x2 → (0 ≤ w32 (w32 (3 * (M8 20 0 22)) + 2) ∧ w32 (w32 (3 * (M8 20 0 22)) + 2) < 18) ∧ ∀ M9 : JM, M9 = pt M8 28 0 ((w32 (w32 (3 * (M8 20 0 22)) + 2)).toNat) x3 → ∀ M10 : JM, M10 = pt M9 20 0 22 (w32 (M9 20 0 22 + 1)) → Q (M10 20 0 22) M10) ∧ (M5 20 0 22 = 6 → Q (-3) M5))) ∧ (a6 = 0 → Q (-1) M5)))))))))) : JC E mm_M_see [vR 20 0, vI x1, vI x2, vI x3] M Q := by
  refine j_entry (L0 := [(0, vR 20 0), (1, vI x1), (2, vI x2), (3, vI x3)]) pn_M (Nat.le_of_ble_eq_true rfl) rfl ?_
  refine j_iload_n (j := 1) dd_M_see_0 rfl rfl ?_
  refine j_i2l dd_M_see_1 ?_
  refine j_lconst (x := 0) dd_M_see_2 rfl (inLd rfl) ?_
  refine j_ldc2 (x := 20) dd_M_see_3 wd_1059 rfl (inLd rfl) ?_
  refine j_cSI (mm' := mm_M_in) (As := [vL x1, vL 0, vL 20]) (rest := []) h dd_M_see_6 (ws4 wd_941 wd_942 wd_70 wd_943) nk_M_in (rok rfl) (Nat.le_of_ble_eq_true rfl) (fun _ => rfl) (fun a2 M1 h => ?_)
  refine j_if_eq (tgt := 32) dd_M_see_9 (by decide) (fun c => ?_) (fun c => ?_)
  · have h := h.1 c
    refine j_iconst dd_M_see_32 (inRd rfl) ?_
    exact j_iret dd_M_see_33 rfl h
  · have h := h.2 c
    refine j_aload_n (j := 0) dd_M_see_12 rfl rfl ?_
    refine j_iload_n (j := 2) dd_M_see_13 rfl rfl ?_
    refine j_cVI (mm' := mm_M_isOne) (t := 20) (i := 0) (As := [vI x2]) (rest := []) h dd_M_see_14 (ws5 wd_1022 wd_1024 wd_46 wd_70 wd_1025) nk_M_isOne (rok rfl) (by unfold isW; omega) ⟨_, ce_20 _⟩ rfl (Nat.le_of_ble_eq_true rfl) (fun _ => rfl) (fun a4 M3 h => ?_)
    refine j_if_eq (tgt := 32) dd_M_see_17 (by decide) (fun c => ?_) (fun c => ?_)
    · have h := h.1 c
      refine j_iconst dd_M_see_32 (inRd rfl) ?_
      exact j_iret dd_M_see_33 rfl h
    · have h := h.2 c
      refine j_iload_n (j := 3) dd_M_see_20 rfl rfl ?_
      refine j_i2l dd_M_see_21 ?_
      refine j_lconst (x := 0) dd_M_see_22 rfl (inLd rfl) ?_
      refine j_ldc2 (x := 999) dd_M_see_23 wd_1060 rfl (inLd rfl) ?_
      refine j_cSI (mm' := mm_M_in) (As := [vL x3, vL 0, vL 999]) (rest := []) h dd_M_see_26 (ws4 wd_941 wd_942 wd_70 wd_943) nk_M_in (rok rfl) (Nat.le_of_ble_eq_true rfl) (fun _ => rfl) (fun a6 M5 h => ?_)
      refine j_if_ne (tgt := 34) dd_M_see_29 (by decide) (fun c => ?_) (fun c => ?_)
      · have h := h.1 c
        refine j_aload_n (j := 0) dd_M_see_34 rfl rfl ?_
        refine gf_20_22 dd_M_see_35 wd_870 ?_
        refine j_bipush dd_M_see_38 rfl (inRd rfl) ?_
        refine j_icmp_ne (tgt := 46) dd_M_see_40 (by decide) (fun c => ?_) (fun c => ?_)
        · have h := h.1 c
          refine j_aload_n (j := 0) dd_M_see_46 rfl rfl ?_
          refine gf_20_21 dd_M_see_47 wd_869 ?_
          refine j_iconst dd_M_see_50 (inRd rfl) ?_
          refine j_aload_n (j := 0) dd_M_see_51 rfl rfl ?_
          refine gf_20_22 dd_M_see_52 wd_870 ?_
          refine j_imul dd_M_see_55 ?_
          refine j_iload_n (j := 1) dd_M_see_56 rfl rfl ?_
          refine st_28 dd_M_see_57 h.1 (fun M7 eM7 => ?_)
          have h := h.2
          have h := h M7 eM7
          refine j_aload_n (j := 0) dd_M_see_58 rfl rfl ?_
          refine gf_20_21 dd_M_see_59 wd_869 ?_
          refine j_iconst dd_M_see_62 (inRd rfl) ?_
          refine j_aload_n (j := 0) dd_M_see_63 rfl rfl ?_
          refine gf_20_22 dd_M_see_64 wd_870 ?_
          refine j_imul dd_M_see_67 ?_
          refine j_iconst dd_M_see_68 (inRd rfl) ?_
          refine j_iadd dd_M_see_69 ?_
          refine j_iload_n (j := 2) dd_M_see_70 rfl rfl ?_
          refine st_28 dd_M_see_71 h.1 (fun M8 eM8 => ?_)
          have h := h.2
          have h := h M8 eM8
          refine j_aload_n (j := 0) dd_M_see_72 rfl rfl ?_
          refine gf_20_21 dd_M_see_73 wd_869 ?_
          refine j_iconst dd_M_see_76 (inRd rfl) ?_
          refine j_aload_n (j := 0) dd_M_see_77 rfl rfl ?_
          refine gf_20_22 dd_M_see_78 wd_870 ?_
          refine j_imul dd_M_see_81 ?_
          refine j_iconst dd_M_see_82 (inRd rfl) ?_
          refine j_iadd dd_M_see_83 ?_
          refine j_iload_n (j := 3) dd_M_see_84 rfl rfl ?_
          refine st_28 dd_M_see_85 h.1 (fun M9 eM9 => ?_)
          have h := h.2
          have h := h M9 eM9
          refine j_aload_n (j := 0) dd_M_see_86 rfl rfl ?_
          refine j_dup dd_M_see_87 rfl ?_
          refine gf_20_22 dd_M_see_88 wd_870 ?_
          refine j_iconst dd_M_see_91 (inRd rfl) ?_
          refine j_iadd dd_M_see_92 ?_
          refine pf_20_22 dd_M_see_93 wd_870 (fun M10 eM10 => ?_)
          have h := h M10 eM10
          refine j_aload_n (j := 0) dd_M_see_96 rfl rfl ?_
          refine gf_20_22 dd_M_see_97 wd_870 ?_
          exact j_iret dd_M_see_100 rfl h
        · have h := h.2 c
          refine j_bipush dd_M_see_43 rfl (inRd rfl) ?_
          exact j_iret dd_M_see_45 rfl h
      · have h := h.2 c
        refine j_iconst dd_M_see_32 (inRd rfl) ?_
        exact j_iret dd_M_see_33 rfl h
theorem vc_M_forget {E : EE} {Q : Int → JM → Prop} (x1 : Int) (M : JM) (h : JC E mm_M_in [vL x1, vL 0, vL (M 20 0 22)] M (fun a2 M1 => ((a2 ≠ 0 → ∀ a3 : Int, a3 = M1 20 0 22 → ∀ M4 : JM, M4 = pt M1 20 0 22 x1 → Q a3 M4) ∧ (a2 = 0 → Q (-1) M1)))) : JC E mm_M_forget [vR 20 0, vI x1] M Q := by
  refine j_entry (L0 := [(0, vR 20 0), (1, vI x1)]) pn_M (Nat.le_of_ble_eq_true rfl) rfl ?_
  refine j_iload_n (j := 1) dd_M_forget_0 rfl rfl ?_
  refine j_i2l dd_M_forget_1 ?_
  refine j_lconst (x := 0) dd_M_forget_2 rfl (inLd rfl) ?_
  refine j_aload_n (j := 0) dd_M_forget_3 rfl rfl ?_
  refine gf_20_22 dd_M_forget_4 wd_870 ?_
  refine j_i2l dd_M_forget_7 ?_
  refine j_cSI (mm' := mm_M_in) (As := [vL x1, vL 0, vL (M 20 0 22)]) (rest := []) h dd_M_forget_8 (ws4 wd_941 wd_942 wd_70 wd_943) nk_M_in (rok rfl) (Nat.le_of_ble_eq_true rfl) (fun _ => rfl) (fun a2 M1 h => ?_)
  refine j_if_ne (tgt := 16) dd_M_forget_11 (by decide) (fun c => ?_) (fun c => ?_)
  · have h := h.1 c
    refine j_aload_n (j := 0) dd_M_forget_16 rfl rfl ?_
    refine gf_20_22 dd_M_forget_17 wd_870 ?_
    refine j_topI (fun a3 ea3 => ?_)
    have h := h a3 ea3
    refine j_istore_n (j := 2) dd_M_forget_20 rfl (by decide) rfl ?_
    refine j_aload_n (j := 0) dd_M_forget_21 rfl rfl ?_
    refine j_iload_n (j := 1) dd_M_forget_22 rfl rfl ?_
    refine pf_20_22 dd_M_forget_23 wd_870 (fun M4 eM4 => ?_)
    have h := h M4 eM4
    refine j_iload_n (j := 2) dd_M_forget_26 rfl rfl ?_
    exact j_iret dd_M_forget_27 rfl h
  · have h := h.2 c
    refine j_iconst dd_M_forget_14 (inRd rfl) ?_
    exact j_iret dd_M_forget_15 rfl h
theorem vc_M_isAsSeen {E : EE} {Q : Int → JM → Prop} (x1 : Int) (M : JM) (h : JC E mm_M_copies [vR 20 0, vI 0, vI 176] M (fun a2 M1 => JG E mm_M_isAsSeen Q 12 [(0, vR 20 0), (1, vI x1), (2, vI 1), (3, vI 0)] [] M1)) : JC E mm_M_isAsSeen [vR 20 0, vI x1] M Q := by
  refine j_entry (L0 := [(0, vR 20 0), (1, vI x1)]) pn_M (Nat.le_of_ble_eq_true rfl) rfl ?_
  refine j_aload_n (j := 0) dd_M_isAsSeen_0 rfl rfl ?_
  refine j_iconst dd_M_isAsSeen_1 (inRd rfl) ?_
  refine j_sipush dd_M_isAsSeen_2 rfl (inRd rfl) ?_
  refine j_cVV (mm' := mm_M_copies) (t := 20) (i := 0) (As := [vI 0, vI 176]) (rest := []) h dd_M_isAsSeen_5 (ws5 wd_1031 wd_1033 wd_48 wd_70 wd_1034) nk_M_copies (rok rfl) (by unfold isW; omega) ⟨_, ce_20 _⟩ rfl (Nat.le_of_ble_eq_true rfl) (fun _ => rfl) (fun a2 M1 h => ?_)
  refine j_iconst dd_M_isAsSeen_8 (inRd rfl) ?_
  refine j_istore_n (j := 2) dd_M_isAsSeen_9 rfl (by decide) rfl ?_
  refine j_iconst dd_M_isAsSeen_10 (inRd rfl) ?_
  refine j_istore_n (j := 3) dd_M_isAsSeen_11 rfl (by decide) rfl ?_
  exact j_jump h (jsub_c rfl (jsub_c rfl (jsub_c rfl (jsub_c rfl jsub_0))))
theorem vc_M_isAsSeen_12 {E : EE} {Q : Int → JM → Prop} (x1 : Int) (l2 : Int) (l3 : Int) (M : JM) (h : ((20 < l3 → ((l2 = 0 ∨ l2 = 1) ∧ Q l2 M)) ∧ (l3 ≤ 20 → JG E mm_M_isAsSeen Q 21 [(0, vR 20 0), (1, vI x1), (2, vI l2), (3, vI l3), (4, vI 0)] [] M))) : JG E mm_M_isAsSeen Q 12 [(0, vR 20 0), (1, vI x1), (2, vI l2), (3, vI l3)] [] M := by
  refine j_iload_n (j := 3) dd_M_isAsSeen_12 rfl rfl ?_
  refine j_bipush dd_M_isAsSeen_13 rfl (inRd rfl) ?_
  refine j_icmp_gt (tgt := 151) dd_M_isAsSeen_15 (by decide) (fun c => ?_) (fun c => ?_)
  · have h := h.1 c
    refine j_iload_n (j := 2) dd_M_isAsSeen_151 rfl rfl ?_
    exact j_zret dd_M_isAsSeen_152 rfl h.1 h.2
  · have h := h.2 c
    refine j_iconst dd_M_isAsSeen_18 (inRd rfl) ?_
    refine j_istore (j := 4) dd_M_isAsSeen_19 (by decide) rfl ?_
    exact j_jump h (jsub_c rfl (jsub_c rfl (jsub_c rfl (jsub_c rfl (jsub_c rfl jsub_0)))))
theorem vc_M_isAsSeen_21 {E : EE} {Q : Int → JM → Prop} (x1 : Int) (l2 : Int) (l3 : Int) (l4 : Int) (M : JM) (h : ((M 20 0 1 ≤ l4 → JG E mm_M_isAsSeen Q 66 [(0, vR 20 0), (1, vI x1), (2, vI l2), (3, vI l3), (4, vI 0)] [] M) ∧ (l4 < M 20 0 1 → (0 ≤ w32 (213 + l4) ∧ w32 (213 + l4) < 264) ∧ (0 ≤ w32 (w32 (w32 (84 * x1) + (w32 (4 * l3))) + l4) ∧ w32 (w32 (w32 (84 * x1) + (w32 (4 * l3))) + l4) < 1764) ∧ ∀ M1 : JM, M1 = pt M 29 0 ((w32 (w32 (w32 (84 * x1) + (w32 (4 * l3))) + l4)).toNat) (M 21 0 ((w32 (213 + l4)).toNat)) → ∀ a2 : Int, a2 = w32 (l4 + 1) → JG E mm_M_isAsSeen Q 21 [(0, vR 20 0), (1, vI x1), (2, vI l2), (3, vI l3), (4, vI a2)] [] M1))) : JG E mm_M_isAsSeen Q 21 [(0, vR 20 0), (1, vI x1), (2, vI l2), (3, vI l3), (4, vI l4)] [] M := by
  refine j_iload (j := 4) dd_M_isAsSeen_21 rfl ?_
  refine j_aload_n (j := 0) dd_M_isAsSeen_23 rfl rfl ?_
  refine gf_20_1 dd_M_isAsSeen_24 wd_849 ?_
  refine j_icmp_ge (tgt := 63) dd_M_isAsSeen_27 (by decide) (fun c => ?_) (fun c => ?_)
  · have h := h.1 c
    refine j_iconst dd_M_isAsSeen_63 (inRd rfl) ?_
    refine j_istore (j := 4) dd_M_isAsSeen_64 (by decide) rfl ?_
    exact j_jump h (jsub_c rfl (jsub_c rfl (jsub_c rfl (jsub_c rfl (jsub_c rfl jsub_0)))))
  · have h := h.2 c
    refine j_aload_n (j := 0) dd_M_isAsSeen_30 rfl rfl ?_
    refine gf_20_23 dd_M_isAsSeen_31 wd_871 ?_
    refine j_bipush dd_M_isAsSeen_34 rfl (inRd rfl) ?_
    refine j_iload_n (j := 1) dd_M_isAsSeen_36 rfl rfl ?_
    refine j_imul dd_M_isAsSeen_37 ?_
    refine j_iconst dd_M_isAsSeen_38 (inRd rfl) ?_
    refine j_iload_n (j := 3) dd_M_isAsSeen_39 rfl rfl ?_
    refine j_imul dd_M_isAsSeen_40 ?_
    refine j_iadd dd_M_isAsSeen_41 ?_
    refine j_iload (j := 4) dd_M_isAsSeen_42 rfl ?_
    refine j_iadd dd_M_isAsSeen_44 ?_
    refine j_aload_n (j := 0) dd_M_isAsSeen_45 rfl rfl ?_
    refine gf_20_0 dd_M_isAsSeen_46 wd_848 ?_
    refine j_sipush dd_M_isAsSeen_49 rfl (inRd rfl) ?_
    refine j_iload (j := 4) dd_M_isAsSeen_52 rfl ?_
    refine j_iadd dd_M_isAsSeen_54 ?_
    refine ld_21 dd_M_isAsSeen_55 h.1 ?_
    have h := h.2
    refine st_29 dd_M_isAsSeen_56 h.1 (fun M1 eM1 => ?_)
    have h := h.2
    have h := h M1 eM1
    refine j_iincN dd_M_isAsSeen_57 rfl rfl (fun a2 ea2 => ?_)
    have h := h a2 ea2
    refine j_goto (tgt := 21) dd_M_isAsSeen_60 (by decide) ?_
    exact j_jump h (jsub_c rfl (jsub_c rfl (jsub_c rfl (jsub_c rfl (jsub_c rfl jsub_0)))))
theorem vc_M_isAsSeen_66 {E : EE} {Q : Int → JM → Prop} (x1 : Int) (l2 : Int) (l3 : Int) (l4 : Int) (M : JM) (h : ((M 20 0 22 ≤ l4 → JC E mm_M_goesOn [vR 20 0, vI 176] M (fun a2 M1 => ∀ a3 : Int, a3 = w32 (l3 + 1) → JG E mm_M_isAsSeen Q 12 [(0, vR 20 0), (1, vI x1), (2, vI l2), (3, vI a3)] [] M1)) ∧ (l4 < M 20 0 22 → ((l2 = 0 → JG E mm_M_isAsSeen Q 130 [(0, vR 20 0), (1, vI x1), (3, vI l3), (4, vI l4)] [] M) ∧ (l2 ≠ 0 → (0 ≤ w32 (3 * l4) ∧ w32 (3 * l4) < 18) ∧ ((M 28 0 ((w32 (3 * l4)).toNat) ≠ l3 → JG E mm_M_isAsSeen Q 126 [(0, vR 20 0), (1, vI x1), (3, vI l3), (4, vI l4)] [] M) ∧ (M 28 0 ((w32 (3 * l4)).toNat) = l3 → (0 ≤ w32 (w32 (3 * l4) + 1) ∧ w32 (w32 (3 * l4) + 1) < 18) ∧ (0 ≤ w32 (213 + (M 28 0 ((w32 (w32 (3 * l4) + 1)).toNat))) ∧ w32 (213 + (M 28 0 ((w32 (w32 (3 * l4) + 1)).toNat))) < 264) ∧ (0 ≤ w32 (w32 (3 * l4) + 2) ∧ w32 (w32 (3 * l4) + 2) < 18) ∧ ((M 21 0 ((w32 (213 + (M 28 0 ((w32 (w32 (3 * l4) + 1)).toNat)))).toNat) ≠ M 28 0 ((w32 (w32 (3 * l4) + 2)).toNat) → JG E mm_M_isAsSeen Q 130 [(0, vR 20 0), (1, vI x1), (3, vI l3), (4, vI l4)] [] M) ∧ (M 21 0 ((w32 (213 + (M 28 0 ((w32 (w32 (3 * l4) + 1)).toNat)))).toNat) = M 28 0 ((w32 (w32 (3 * l4) + 2)).toNat) → JG E mm_M_isAsSeen Q 126 [(0, vR 20 0), (1, vI x1), (3, vI l3), (4, vI l4)] [] M))))))))) : JG E mm_M_isAsSeen Q 66 [(0, vR 20 0), (1, vI x1), (2, vI l2), (3, vI l3), (4, vI l4)] [] M := by
  refine j_iload (j := 4) dd_M_isAsSeen_66 rfl ?_
  refine j_aload_n (j := 0) dd_M_isAsSeen_68 rfl rfl ?_
  refine gf_20_22 dd_M_isAsSeen_69 wd_870 ?_
  refine j_icmp_ge (tgt := 138) dd_M_isAsSeen_72 (by decide) (fun c => ?_) (fun c => ?_)
  · have h := h.1 c
    refine j_aload_n (j := 0) dd_M_isAsSeen_138 rfl rfl ?_
    refine j_sipush dd_M_isAsSeen_139 rfl (inRd rfl) ?_
    refine j_cVV (mm' := mm_M_goesOn) (t := 20) (i := 0) (As := [vI 176]) (rest := []) h dd_M_isAsSeen_142 (ws5 wd_1087 wd_1089 wd_53 wd_70 wd_1090) nk_M_goesOn (rok rfl) (by unfold isW; omega) ⟨_, ce_20 _⟩ rfl (Nat.le_of_ble_eq_true rfl) (fun _ => rfl) (fun a2 M1 h => ?_)
    refine j_iincN dd_M_isAsSeen_145 rfl rfl (fun a3 ea3 => ?_)
    have h := h a3 ea3
    refine j_goto (tgt := 12) dd_M_isAsSeen_148 (by decide) ?_
    exact j_jump h (jsub_c rfl (jsub_c rfl (jsub_c rfl (jsub_c rfl jsub_0))))
  · have h := h.2 c
    refine j_iload_n (j := 2) dd_M_isAsSeen_75 rfl rfl ?_
    refine j_if_eq (tgt := 130) dd_M_isAsSeen_76 (by decide) (fun c => ?_) (fun c => ?_)
    · have h := h.1 c
      exact j_jump h (jsub_c rfl (jsub_c rfl (jsub_c rfl (jsub_c rfl jsub_0))))
    · have h := h.2 c
      refine j_aload_n (j := 0) dd_M_isAsSeen_79 rfl rfl ?_
      refine gf_20_21 dd_M_isAsSeen_80 wd_869 ?_
      refine j_iconst dd_M_isAsSeen_83 (inRd rfl) ?_
      refine j_iload (j := 4) dd_M_isAsSeen_84 rfl ?_
      refine j_imul dd_M_isAsSeen_86 ?_
      refine ld_28 dd_M_isAsSeen_87 h.1 ?_
      have h := h.2
      refine j_iload_n (j := 3) dd_M_isAsSeen_88 rfl rfl ?_
      refine j_icmp_ne (tgt := 126) dd_M_isAsSeen_89 (by decide) (fun c => ?_) (fun c => ?_)
      · have h := h.1 c
        exact j_jump h (jsub_c rfl (jsub_c rfl (jsub_c rfl (jsub_c rfl jsub_0))))
      · have h := h.2 c
        refine j_aload_n (j := 0) dd_M_isAsSeen_92 rfl rfl ?_
        refine gf_20_0 dd_M_isAsSeen_93 wd_848 ?_
        refine j_sipush dd_M_isAsSeen_96 rfl (inRd rfl) ?_
        refine j_aload_n (j := 0) dd_M_isAsSeen_99 rfl rfl ?_
        refine gf_20_21 dd_M_isAsSeen_100 wd_869 ?_
        refine j_iconst dd_M_isAsSeen_103 (inRd rfl) ?_
        refine j_iload (j := 4) dd_M_isAsSeen_104 rfl ?_
        refine j_imul dd_M_isAsSeen_106 ?_
        refine j_iconst dd_M_isAsSeen_107 (inRd rfl) ?_
        refine j_iadd dd_M_isAsSeen_108 ?_
        refine ld_28 dd_M_isAsSeen_109 h.1 ?_
        have h := h.2
        refine j_iadd dd_M_isAsSeen_110 ?_
        refine ld_21 dd_M_isAsSeen_111 h.1 ?_
        have h := h.2
        refine j_aload_n (j := 0) dd_M_isAsSeen_112 rfl rfl ?_
        refine gf_20_21 dd_M_isAsSeen_113 wd_869 ?_
        refine j_iconst dd_M_isAsSeen_116 (inRd rfl) ?_
        refine j_iload (j := 4) dd_M_isAsSeen_117 rfl ?_
        refine j_imul dd_M_isAsSeen_119 ?_
        refine j_iconst dd_M_isAsSeen_120 (inRd rfl) ?_
        refine j_iadd dd_M_isAsSeen_121 ?_
        refine ld_28 dd_M_isAsSeen_122 h.1 ?_
        have h := h.2
        refine j_icmp_ne (tgt := 130) dd_M_isAsSeen_123 (by decide) (fun c => ?_) (fun c => ?_)
        · have h := h.1 c
          exact j_jump h (jsub_c rfl (jsub_c rfl (jsub_c rfl (jsub_c rfl jsub_0))))
        · have h := h.2 c
          exact j_jump h (jsub_c rfl (jsub_c rfl (jsub_c rfl (jsub_c rfl jsub_0))))
theorem vc_M_isAsSeen_126 {E : EE} {Q : Int → JM → Prop} (x1 : Int) (l3 : Int) (l4 : Int) (M : JM) (h : ∀ a1 : Int, a1 = w32 (l4 + 1) → JG E mm_M_isAsSeen Q 66 [(0, vR 20 0), (1, vI x1), (2, vI 1), (3, vI l3), (4, vI a1)] [] M) : JG E mm_M_isAsSeen Q 126 [(0, vR 20 0), (1, vI x1), (3, vI l3), (4, vI l4)] [] M := by
  refine j_iconst dd_M_isAsSeen_126 (inRd rfl) ?_
  refine j_goto (tgt := 131) dd_M_isAsSeen_127 (by decide) ?_
  refine j_istore_n (j := 2) dd_M_isAsSeen_131 rfl (by decide) rfl ?_
  refine j_iincN dd_M_isAsSeen_132 rfl rfl (fun a1 ea1 => ?_)
  have h := h a1 ea1
  refine j_goto (tgt := 66) dd_M_isAsSeen_135 (by decide) ?_
  exact j_jump h (jsub_c rfl (jsub_c rfl (jsub_c rfl (jsub_c rfl (jsub_c rfl jsub_0)))))
theorem vc_M_isAsSeen_130 {E : EE} {Q : Int → JM → Prop} (x1 : Int) (l3 : Int) (l4 : Int) (M : JM) (h : ∀ a1 : Int, a1 = w32 (l4 + 1) → JG E mm_M_isAsSeen Q 66 [(0, vR 20 0), (1, vI x1), (2, vI 0), (3, vI l3), (4, vI a1)] [] M) : JG E mm_M_isAsSeen Q 130 [(0, vR 20 0), (1, vI x1), (3, vI l3), (4, vI l4)] [] M := by
  refine j_iconst dd_M_isAsSeen_130 (inRd rfl) ?_
  refine j_istore_n (j := 2) dd_M_isAsSeen_131 rfl (by decide) rfl ?_
  refine j_iincN dd_M_isAsSeen_132 rfl rfl (fun a1 ea1 => ?_)
  have h := h a1 ea1
  refine j_goto (tgt := 66) dd_M_isAsSeen_135 (by decide) ?_
  exact j_jump h (jsub_c rfl (jsub_c rfl (jsub_c rfl (jsub_c rfl (jsub_c rfl jsub_0)))))
theorem vc_M_numbersAt {E : EE} {Q : Int → JM → Prop} (x1 : Int) (x2 : Int) (x3 : Int) (M : JM) (h : (0 ≤ x1 ∧ x1 < 264) ∧ ∀ a1 : Int, a1 = M 21 0 x1.toNat → JG E mm_M_numbersAt Q 14 [(0, vR 20 0), (1, vI x1), (3, vI x3), (4, vI a1), (5, vI 0), (6, vI x2)] [] M) : JC E mm_M_numbersAt [vR 20 0, vI x1, vI x2, vI x3] M Q := by
  refine j_entry (L0 := [(0, vR 20 0), (1, vI x1), (2, vI x2), (3, vI x3)]) pn_M (Nat.le_of_ble_eq_true rfl) rfl ?_
  refine j_aload_n (j := 0) dd_M_numbersAt_0 rfl rfl ?_
  refine gf_20_0 dd_M_numbersAt_1 wd_848 ?_
  refine j_iload_n (j := 1) dd_M_numbersAt_4 rfl rfl ?_
  refine ld_21 dd_M_numbersAt_5 h.1 ?_
  have h := h.2
  refine j_topI (fun a1 ea1 => ?_)
  have h := h a1 ea1
  refine j_istore (j := 4) dd_M_numbersAt_6 (by decide) rfl ?_
  refine j_iconst dd_M_numbersAt_8 (inRd rfl) ?_
  refine j_istore (j := 5) dd_M_numbersAt_9 (by decide) rfl ?_
  refine j_iload_n (j := 2) dd_M_numbersAt_11 rfl rfl ?_
  refine j_istore (j := 6) dd_M_numbersAt_12 (by decide) rfl ?_
  exact j_jump h (jsub_c rfl (jsub_c rfl (jsub_c rfl (jsub_c rfl (jsub_c rfl (jsub_c rfl jsub_0))))))
theorem vc_M_numbersAt_14 {E : EE} {Q : Int → JM → Prop} (x1 : Int) (x3 : Int) (l4 : Int) (l5 : Int) (l6 : Int) (M : JM) (h : ((x3 < l6 → (0 ≤ x1 ∧ x1 < 264) ∧ ∀ M1 : JM, M1 = pt M 21 0 x1.toNat l4 → Q l5 M1) ∧ (l6 ≤ x3 → (0 ≤ x1 ∧ x1 < 264) ∧ ∀ M2 : JM, M2 = pt M 21 0 x1.toNat l6 → JC E mm_M_isAsSeen [vR 20 0, vI l6] M2 (fun a4 M3 => ((a4 = 0 → JG E mm_M_numbersAt Q 47 [(0, vR 20 0), (1, vI x1), (3, vI x3), (4, vI l4), (6, vI l6)] [vI 0, vI l5] M3) ∧ (a4 ≠ 0 → JG E mm_M_numbersAt Q 47 [(0, vR 20 0), (1, vI x1), (3, vI x3), (4, vI l4), (6, vI l6)] [vI (shl32 1 l6), vI l5] M3)))))) : JG E mm_M_numbersAt Q 14 [(0, vR 20 0), (1, vI x1), (3, vI x3), (4, vI l4), (5, vI l5), (6, vI l6)] [] M := by
  refine j_iload (j := 6) dd_M_numbersAt_14 rfl ?_
  refine j_iload_n (j := 3) dd_M_numbersAt_16 rfl rfl ?_
  refine j_icmp_gt (tgt := 56) dd_M_numbersAt_17 (by decide) (fun c => ?_) (fun c => ?_)
  · have h := h.1 c
    refine j_aload_n (j := 0) dd_M_numbersAt_56 rfl rfl ?_
    refine gf_20_0 dd_M_numbersAt_57 wd_848 ?_
    refine j_iload_n (j := 1) dd_M_numbersAt_60 rfl rfl ?_
    refine j_iload (j := 4) dd_M_numbersAt_61 rfl ?_
    refine st_21 dd_M_numbersAt_63 h.1 (fun M1 eM1 => ?_)
    have h := h.2
    have h := h M1 eM1
    refine j_iload (j := 5) dd_M_numbersAt_64 rfl ?_
    exact j_iret dd_M_numbersAt_66 rfl h
  · have h := h.2 c
    refine j_aload_n (j := 0) dd_M_numbersAt_20 rfl rfl ?_
    refine gf_20_0 dd_M_numbersAt_21 wd_848 ?_
    refine j_iload_n (j := 1) dd_M_numbersAt_24 rfl rfl ?_
    refine j_iload (j := 6) dd_M_numbersAt_25 rfl ?_
    refine st_21 dd_M_numbersAt_27 h.1 (fun M2 eM2 => ?_)
    have h := h.2
    have h := h M2 eM2
    refine j_iload (j := 5) dd_M_numbersAt_28 rfl ?_
    refine j_aload_n (j := 0) dd_M_numbersAt_30 rfl rfl ?_
    refine j_iload (j := 6) dd_M_numbersAt_31 rfl ?_
    refine j_cVI (mm' := mm_M_isAsSeen) (t := 20) (i := 0) (As := [vI l6]) (rest := [vI l5]) h dd_M_numbersAt_33 (ws5 wd_1187 wd_1189 wd_60 wd_70 wd_1190) nk_M_isAsSeen (rok rfl) (by unfold isW; omega) ⟨_, ce_20 _⟩ rfl (Nat.le_of_ble_eq_true rfl) (fun _ => rfl) (fun a4 M3 h => ?_)
    refine j_if_eq (tgt := 46) dd_M_numbersAt_36 (by decide) (fun c => ?_) (fun c => ?_)
    · have h := h.1 c
      refine j_iconst dd_M_numbersAt_46 (inRd rfl) ?_
      exact j_jump h (jsub_c rfl (jsub_c rfl (jsub_c rfl (jsub_c rfl (jsub_c rfl jsub_0)))))
    · have h := h.2 c
      refine j_iconst dd_M_numbersAt_39 (inRd rfl) ?_
      refine j_iload (j := 6) dd_M_numbersAt_40 rfl ?_
      refine j_ishl dd_M_numbersAt_42 ?_
      refine j_goto (tgt := 47) dd_M_numbersAt_43 (by decide) ?_
      exact j_jump h (jsub_c rfl (jsub_c rfl (jsub_c rfl (jsub_c rfl (jsub_c rfl jsub_0)))))
theorem vc_M_numbersAt_47 {E : EE} {Q : Int → JM → Prop} (x1 : Int) (x3 : Int) (l4 : Int) (l6 : Int) (s0 : Int) (s1 : Int) (M : JM) (h : ∀ a1 : Int, a1 = or32 s0 s1 → ∀ a2 : Int, a2 = w32 (l6 + 1) → JG E mm_M_numbersAt Q 14 [(0, vR 20 0), (1, vI x1), (3, vI x3), (4, vI l4), (5, vI a1), (6, vI a2)] [] M) : JG E mm_M_numbersAt Q 47 [(0, vR 20 0), (1, vI x1), (3, vI x3), (4, vI l4), (6, vI l6)] [vI s1, vI s0] M := by
  refine j_ior dd_M_numbersAt_47 ?_
  refine j_topI (fun a1 ea1 => ?_)
  have h := h a1 ea1
  refine j_istore (j := 5) dd_M_numbersAt_48 (by decide) rfl ?_
  refine j_iincN dd_M_numbersAt_50 rfl rfl (fun a2 ea2 => ?_)
  have h := h a2 ea2
  refine j_goto (tgt := 14) dd_M_numbersAt_53 (by decide) ?_
  exact j_jump h (jsub_c rfl (jsub_c rfl (jsub_c rfl (jsub_c rfl (jsub_c rfl (jsub_c rfl jsub_0))))))
theorem vc_M_kinds {E : EE} {Q : Int → JM → Prop} (x1 : Int) (M : JM) (h : JC E mm_M_isGoods [vR 20 0, vI x1] M (fun a2 M1 => ((a2 = 0 → Q (-1) M1) ∧ (a2 ≠ 0 → JC E mm_M_numbersAt [vR 20 0, vI x1, vI 0, vI 3] M1 (fun a4 M3 => Q a4 M3))))) : JC E mm_M_kinds [vR 20 0, vI x1] M Q := by
  refine j_entry (L0 := [(0, vR 20 0), (1, vI x1)]) pn_M (Nat.le_of_ble_eq_true rfl) rfl ?_
  refine j_aload_n (j := 0) dd_M_kinds_0 rfl rfl ?_
  refine j_iload_n (j := 1) dd_M_kinds_1 rfl rfl ?_
  refine j_cVI (mm' := mm_M_isGoods) (t := 20) (i := 0) (As := [vI x1]) (rest := []) h dd_M_kinds_2 (ws5 wd_1005 wd_1007 wd_43 wd_70 wd_1008) nk_M_isGoods (rok rfl) (by unfold isW; omega) ⟨_, ce_20 _⟩ rfl (Nat.le_of_ble_eq_true rfl) (fun _ => rfl) (fun a2 M1 h => ?_)
  refine j_if_eq (tgt := 18) dd_M_kinds_5 (by decide) (fun c => ?_) (fun c => ?_)
  · have h := h.1 c
    refine j_iconst dd_M_kinds_18 (inRd rfl) ?_
    exact j_iret dd_M_kinds_19 rfl h
  · have h := h.2 c
    refine j_aload_n (j := 0) dd_M_kinds_8 rfl rfl ?_
    refine j_iload_n (j := 1) dd_M_kinds_9 rfl rfl ?_
    refine j_iconst dd_M_kinds_10 (inRd rfl) ?_
    refine j_iconst dd_M_kinds_11 (inRd rfl) ?_
    refine j_cVI (mm' := mm_M_numbersAt) (t := 20) (i := 0) (As := [vI x1, vI 0, vI 3]) (rest := []) h dd_M_kinds_12 (ws5 wd_1183 wd_1185 wd_59 wd_70 wd_1186) nk_M_numbersAt (rok rfl) (by unfold isW; omega) ⟨_, ce_20 _⟩ rfl (Nat.le_of_ble_eq_true rfl) (fun _ => rfl) (fun a4 M3 h => ?_)
    refine j_goto (tgt := 19) dd_M_kinds_15 (by decide) ?_
    exact j_iret dd_M_kinds_19 rfl h
theorem vc_M_weights {E : EE} {Q : Int → JM → Prop} (x1 : Int) (M : JM) (h : JC E mm_M_isGoods [vR 20 0, vI x1] M (fun a2 M1 => ((a2 = 0 → Q (-1) M1) ∧ (a2 ≠ 0 → JC E mm_M_numbersAt [vR 20 0, vI (w32 (8 + x1)), vI 1, vI 9] M1 (fun a4 M3 => Q a4 M3))))) : JC E mm_M_weights [vR 20 0, vI x1] M Q := by
  refine j_entry (L0 := [(0, vR 20 0), (1, vI x1)]) pn_M (Nat.le_of_ble_eq_true rfl) rfl ?_
  refine j_aload_n (j := 0) dd_M_weights_0 rfl rfl ?_
  refine j_iload_n (j := 1) dd_M_weights_1 rfl rfl ?_
  refine j_cVI (mm' := mm_M_isGoods) (t := 20) (i := 0) (As := [vI x1]) (rest := []) h dd_M_weights_2 (ws5 wd_1005 wd_1007 wd_43 wd_70 wd_1008) nk_M_isGoods (rok rfl) (by unfold isW; omega) ⟨_, ce_20 _⟩ rfl (Nat.le_of_ble_eq_true rfl) (fun _ => rfl) (fun a2 M1 h => ?_)
  refine j_if_eq (tgt := 22) dd_M_weights_5 (by decide) (fun c => ?_) (fun c => ?_)
  · have h := h.1 c
    refine j_iconst dd_M_weights_22 (inRd rfl) ?_
    exact j_iret dd_M_weights_23 rfl h
  · have h := h.2 c
    refine j_aload_n (j := 0) dd_M_weights_8 rfl rfl ?_
    refine j_bipush dd_M_weights_9 rfl (inRd rfl) ?_
    refine j_iload_n (j := 1) dd_M_weights_11 rfl rfl ?_
    refine j_iadd dd_M_weights_12 ?_
    refine j_iconst dd_M_weights_13 (inRd rfl) ?_
    refine j_bipush dd_M_weights_14 rfl (inRd rfl) ?_
    refine j_cVI (mm' := mm_M_numbersAt) (t := 20) (i := 0) (As := [vI (w32 (8 + x1)), vI 1, vI 9]) (rest := []) h dd_M_weights_16 (ws5 wd_1183 wd_1185 wd_59 wd_70 wd_1186) nk_M_numbersAt (rok rfl) (by unfold isW; omega) ⟨_, ce_20 _⟩ rfl (Nat.le_of_ble_eq_true rfl) (fun _ => rfl) (fun a4 M3 h => ?_)
    refine j_goto (tgt := 23) dd_M_weights_19 (by decide) ?_
    exact j_iret dd_M_weights_23 rfl h
theorem vc_M_strengths {E : EE} {Q : Int → JM → Prop} (x1 : Int) (M : JM) (h : JC E mm_M_isOne [vR 20 0, vI x1] M (fun a2 M1 => ((a2 = 0 → Q (-1) M1) ∧ (a2 ≠ 0 → JC E mm_M_numbersAt [vR 20 0, vI (w32 (33 + x1)), vI 1, vI 20] M1 (fun a4 M3 => Q a4 M3))))) : JC E mm_M_strengths [vR 20 0, vI x1] M Q := by
  refine j_entry (L0 := [(0, vR 20 0), (1, vI x1)]) pn_M (Nat.le_of_ble_eq_true rfl) rfl ?_
  refine j_aload_n (j := 0) dd_M_strengths_0 rfl rfl ?_
  refine j_iload_n (j := 1) dd_M_strengths_1 rfl rfl ?_
  refine j_cVI (mm' := mm_M_isOne) (t := 20) (i := 0) (As := [vI x1]) (rest := []) h dd_M_strengths_2 (ws5 wd_1022 wd_1024 wd_46 wd_70 wd_1025) nk_M_isOne (rok rfl) (by unfold isW; omega) ⟨_, ce_20 _⟩ rfl (Nat.le_of_ble_eq_true rfl) (fun _ => rfl) (fun a2 M1 h => ?_)
  refine j_if_eq (tgt := 22) dd_M_strengths_5 (by decide) (fun c => ?_) (fun c => ?_)
  · have h := h.1 c
    refine j_iconst dd_M_strengths_22 (inRd rfl) ?_
    exact j_iret dd_M_strengths_23 rfl h
  · have h := h.2 c
    refine j_aload_n (j := 0) dd_M_strengths_8 rfl rfl ?_
    refine j_bipush dd_M_strengths_9 rfl (inRd rfl) ?_
    refine j_iload_n (j := 1) dd_M_strengths_11 rfl rfl ?_
    refine j_iadd dd_M_strengths_12 ?_
    refine j_iconst dd_M_strengths_13 (inRd rfl) ?_
    refine j_bipush dd_M_strengths_14 rfl (inRd rfl) ?_
    refine j_cVI (mm' := mm_M_numbersAt) (t := 20) (i := 0) (As := [vI (w32 (33 + x1)), vI 1, vI 20]) (rest := []) h dd_M_strengths_16 (ws5 wd_1183 wd_1185 wd_59 wd_70 wd_1186) nk_M_numbersAt (rok rfl) (by unfold isW; omega) ⟨_, ce_20 _⟩ rfl (Nat.le_of_ble_eq_true rfl) (fun _ => rfl) (fun a4 M3 h => ?_)
    refine j_goto (tgt := 23) dd_M_strengths_19 (by decide) ?_
    exact j_iret dd_M_strengths_23 rfl h
theorem vc_M_worstAt {E : EE} {Q : Int → JM → Prop} (x1 : Int) (x2 : Int) (M : JM) (h : JG E mm_M_worstAt Q 5 [(0, vR 20 0), (1, vI x1), (2, vI x2), (3, vI 0), (4, vI 1)] [] M) : JC E mm_M_worstAt [vR 20 0, vI x1, vI x2] M Q := by
  refine j_entry (L0 := [(0, vR 20 0), (1, vI x1), (2, vI x2)]) pn_M (Nat.le_of_ble_eq_true rfl) rfl ?_
  refine j_iconst dd_M_worstAt_0 (inRd rfl) ?_
  refine j_istore_n (j := 3) dd_M_worstAt_1 rfl (by decide) rfl ?_
  refine j_iconst dd_M_worstAt_2 (inRd rfl) ?_
  refine j_istore (j := 4) dd_M_worstAt_3 (by decide) rfl ?_
  exact j_jump h (jsub_c rfl (jsub_c rfl (jsub_c rfl (jsub_c rfl (jsub_c rfl jsub_0)))))
theorem vc_M_worstAt_5 {E : EE} {Q : Int → JM → Prop} (x1 : Int) (x2 : Int) (l3 : Int) (l4 : Int) (M : JM) (h : ((20 < l4 → Q l3 M) ∧ (l4 ≤ 20 → JG E mm_M_worstAt Q 18 [(0, vR 20 0), (1, vI x1), (2, vI x2), (3, vI l3), (4, vI l4), (5, vI 0), (6, vI 1)] [] M))) : JG E mm_M_worstAt Q 5 [(0, vR 20 0), (1, vI x1), (2, vI x2), (3, vI l3), (4, vI l4)] [] M := by
  refine j_iload (j := 4) dd_M_worstAt_5 rfl ?_
  refine j_bipush dd_M_worstAt_7 rfl (inRd rfl) ?_
  refine j_icmp_gt (tgt := 107) dd_M_worstAt_9 (by decide) (fun c => ?_) (fun c => ?_)
  · have h := h.1 c
    refine j_iload_n (j := 3) dd_M_worstAt_107 rfl rfl ?_
    exact j_iret dd_M_worstAt_108 rfl h
  · have h := h.2 c
    refine j_iconst dd_M_worstAt_12 (inRd rfl) ?_
    refine j_istore (j := 5) dd_M_worstAt_13 (by decide) rfl ?_
    refine j_iconst dd_M_worstAt_15 (inRd rfl) ?_
    refine j_istore (j := 6) dd_M_worstAt_16 (by decide) rfl ?_
    exact j_jump h (jsub_c rfl (jsub_c rfl (jsub_c rfl (jsub_c rfl (jsub_c rfl (jsub_c rfl (jsub_c rfl jsub_0)))))))
theorem vc_M_worstAt_18 {E : EE} {Q : Int → JM → Prop} (x1 : Int) (x2 : Int) (l3 : Int) (l4 : Int) (l5 : Int) (l6 : Int) (M : JM) (h : ((20 < l6 → JG E mm_M_worstAt Q 88 [(0, vR 20 0), (1, vI x1), (2, vI x2), (3, vI l3), (4, vI l4), (5, vI l5)] [] M) ∧ (l6 ≤ 20 → ((and32 (shr32 x1 l4) 1 ≠ 1 → JG E mm_M_worstAt Q 88 [(0, vR 20 0), (1, vI x1), (2, vI x2), (3, vI l3), (4, vI l4), (5, vI l5)] [] M) ∧ (and32 (shr32 x1 l4) 1 = 1 → ((and32 (shr32 x1 l6) 1 ≠ 1 → JG E mm_M_worstAt Q 78 [(0, vR 20 0), (1, vI x1), (2, vI x2), (3, vI l3), (4, vI l4), (6, vI l6)] [vI l5] M) ∧ (and32 (shr32 x1 l6) 1 = 1 → (0 ≤ w32 (w32 (84 * l4) + x2) ∧ w32 (w32 (84 * l4) + x2) < 1764) ∧ (0 ≤ w32 (w32 (84 * l6) + x2) ∧ w32 (w32 (84 * l6) + x2) < 1764) ∧ ((M 29 0 ((w32 (w32 (84 * l4) + x2)).toNat) ≠ M 29 0 ((w32 (w32 (84 * l6) + x2)).toNat) → JG E mm_M_worstAt Q 78 [(0, vR 20 0), (1, vI x1), (2, vI x2), (3, vI l3), (4, vI l4), (6, vI l6)] [vI l5] M) ∧ (M 29 0 ((w32 (w32 (84 * l4) + x2)).toNat) = M 29 0 ((w32 (w32 (84 * l6) + x2)).toNat) → JG E mm_M_worstAt Q 79 [(0, vR 20 0), (1, vI x1), (2, vI x2), (3, vI l3), (4, vI l4), (6, vI l6)] [vI 1, vI l5] M))))))))) : JG E mm_M_worstAt Q 18 [(0, vR 20 0), (1, vI x1), (2, vI x2), (3, vI l3), (4, vI l4), (5, vI l5), (6, vI l6)] [] M := by
  refine j_iload (j := 6) dd_M_worstAt_18 rfl ?_
  refine j_bipush dd_M_worstAt_20 rfl (inRd rfl) ?_
  refine j_icmp_gt (tgt := 88) dd_M_worstAt_22 (by decide) (fun c => ?_) (fun c => ?_)
  · have h := h.1 c
    exact j_jump h (jsub_c rfl (jsub_c rfl (jsub_c rfl (jsub_c rfl (jsub_c rfl (jsub_c rfl jsub_0))))))
  · have h := h.2 c
    refine j_iload_n (j := 1) dd_M_worstAt_25 rfl rfl ?_
    refine j_iload (j := 4) dd_M_worstAt_26 rfl ?_
    refine j_ishr dd_M_worstAt_28 ?_
    refine j_iconst dd_M_worstAt_29 (inRd rfl) ?_
    refine j_iand dd_M_worstAt_30 ?_
    refine j_iconst dd_M_worstAt_31 (inRd rfl) ?_
    refine j_icmp_ne (tgt := 88) dd_M_worstAt_32 (by decide) (fun c => ?_) (fun c => ?_)
    · have h := h.1 c
      exact j_jump h (jsub_c rfl (jsub_c rfl (jsub_c rfl (jsub_c rfl (jsub_c rfl (jsub_c rfl jsub_0))))))
    · have h := h.2 c
      refine j_iload (j := 5) dd_M_worstAt_35 rfl ?_
      refine j_iload_n (j := 1) dd_M_worstAt_37 rfl rfl ?_
      refine j_iload (j := 6) dd_M_worstAt_38 rfl ?_
      refine j_ishr dd_M_worstAt_40 ?_
      refine j_iconst dd_M_worstAt_41 (inRd rfl) ?_
      refine j_iand dd_M_worstAt_42 ?_
      refine j_iconst dd_M_worstAt_43 (inRd rfl) ?_
      refine j_icmp_ne (tgt := 78) dd_M_worstAt_44 (by decide) (fun c => ?_) (fun c => ?_)
      · have h := h.1 c
        exact j_jump h (jsub_c rfl (jsub_c rfl (jsub_c rfl (jsub_c rfl (jsub_c rfl (jsub_c rfl jsub_0))))))
      · have h := h.2 c
        refine j_aload_n (j := 0) dd_M_worstAt_47 rfl rfl ?_
        refine gf_20_23 dd_M_worstAt_48 wd_871 ?_
        refine j_bipush dd_M_worstAt_51 rfl (inRd rfl) ?_
        refine j_iload (j := 4) dd_M_worstAt_53 rfl ?_
        refine j_imul dd_M_worstAt_55 ?_
        refine j_iload_n (j := 2) dd_M_worstAt_56 rfl rfl ?_
        refine j_iadd dd_M_worstAt_57 ?_
        refine ld_29 dd_M_worstAt_58 h.1 ?_
        have h := h.2
        refine j_aload_n (j := 0) dd_M_worstAt_59 rfl rfl ?_
        refine gf_20_23 dd_M_worstAt_60 wd_871 ?_
        refine j_bipush dd_M_worstAt_63 rfl (inRd rfl) ?_
        refine j_iload (j := 6) dd_M_worstAt_65 rfl ?_
        refine j_imul dd_M_worstAt_67 ?_
        refine j_iload_n (j := 2) dd_M_worstAt_68 rfl rfl ?_
        refine j_iadd dd_M_worstAt_69 ?_
        refine ld_29 dd_M_worstAt_70 h.1 ?_
        have h := h.2
        refine j_icmp_ne (tgt := 78) dd_M_worstAt_71 (by decide) (fun c => ?_) (fun c => ?_)
        · have h := h.1 c
          exact j_jump h (jsub_c rfl (jsub_c rfl (jsub_c rfl (jsub_c rfl (jsub_c rfl (jsub_c rfl jsub_0))))))
        · have h := h.2 c
          refine j_iconst dd_M_worstAt_74 (inRd rfl) ?_
          refine j_goto (tgt := 79) dd_M_worstAt_75 (by decide) ?_
          exact j_jump h (jsub_c rfl (jsub_c rfl (jsub_c rfl (jsub_c rfl (jsub_c rfl (jsub_c rfl jsub_0))))))
theorem vc_M_worstAt_78 {E : EE} {Q : Int → JM → Prop} (x1 : Int) (x2 : Int) (l3 : Int) (l4 : Int) (l6 : Int) (s0 : Int) (M : JM) (h : JG E mm_M_worstAt Q 79 [(0, vR 20 0), (1, vI x1), (2, vI x2), (3, vI l3), (4, vI l4), (6, vI l6)] [vI 0, vI s0] M) : JG E mm_M_worstAt Q 78 [(0, vR 20 0), (1, vI x1), (2, vI x2), (3, vI l3), (4, vI l4), (6, vI l6)] [vI s0] M := by
  refine j_iconst dd_M_worstAt_78 (inRd rfl) ?_
  exact j_jump h (jsub_c rfl (jsub_c rfl (jsub_c rfl (jsub_c rfl (jsub_c rfl (jsub_c rfl jsub_0))))))
theorem vc_M_worstAt_79 {E : EE} {Q : Int → JM → Prop} (x1 : Int) (x2 : Int) (l3 : Int) (l4 : Int) (l6 : Int) (s0 : Int) (s1 : Int) (M : JM) (h : ∀ a1 : Int, a1 = w32 (s0 + s1) → ∀ a2 : Int, a2 = w32 (l6 + 1) → JG E mm_M_worstAt Q 18 [(0, vR 20 0), (1, vI x1), (2, vI x2), (3, vI l3), (4, vI l4), (5, vI a1), (6, vI a2)] [] M) : JG E mm_M_worstAt Q 79 [(0, vR 20 0), (1, vI x1), (2, vI x2), (3, vI l3), (4, vI l4), (6, vI l6)] [vI s1, vI s0] M := by
  refine j_iadd dd_M_worstAt_79 ?_
  refine j_topI (fun a1 ea1 => ?_)
  have h := h a1 ea1
  refine j_istore (j := 5) dd_M_worstAt_80 (by decide) rfl ?_
  refine j_iincN dd_M_worstAt_82 rfl rfl (fun a2 ea2 => ?_)
  have h := h a2 ea2
  refine j_goto (tgt := 18) dd_M_worstAt_85 (by decide) ?_
  exact j_jump h (jsub_c rfl (jsub_c rfl (jsub_c rfl (jsub_c rfl (jsub_c rfl (jsub_c rfl (jsub_c rfl jsub_0)))))))
theorem vc_M_worstAt_88 {E : EE} {Q : Int → JM → Prop} (x1 : Int) (x2 : Int) (l3 : Int) (l4 : Int) (l5 : Int) (M : JM) (h : ((l5 ≤ l3 → ∀ a1 : Int, a1 = w32 (l4 + 1) → JG E mm_M_worstAt Q 5 [(0, vR 20 0), (1, vI x1), (2, vI x2), (3, vI l3), (4, vI a1)] [] M) ∧ (l3 < l5 → ∀ a2 : Int, a2 = w32 (l4 + 1) → JG E mm_M_worstAt Q 5 [(0, vR 20 0), (1, vI x1), (2, vI x2), (3, vI l5), (4, vI a2)] [] M))) : JG E mm_M_worstAt Q 88 [(0, vR 20 0), (1, vI x1), (2, vI x2), (3, vI l3), (4, vI l4), (5, vI l5)] [] M := by
  refine j_iload (j := 5) dd_M_worstAt_88 rfl ?_
  refine j_iload_n (j := 3) dd_M_worstAt_90 rfl rfl ?_
  refine j_icmp_le (tgt := 99) dd_M_worstAt_91 (by decide) (fun c => ?_) (fun c => ?_)
  · have h := h.1 c
    refine j_iload_n (j := 3) dd_M_worstAt_99 rfl rfl ?_
    refine j_istore_n (j := 3) dd_M_worstAt_100 rfl (by decide) rfl ?_
    refine j_iincN dd_M_worstAt_101 rfl rfl (fun a1 ea1 => ?_)
    have h := h a1 ea1
    refine j_goto (tgt := 5) dd_M_worstAt_104 (by decide) ?_
    exact j_jump h (jsub_c rfl (jsub_c rfl (jsub_c rfl (jsub_c rfl (jsub_c rfl jsub_0)))))
  · have h := h.2 c
    refine j_iload (j := 5) dd_M_worstAt_94 rfl ?_
    refine j_goto (tgt := 100) dd_M_worstAt_96 (by decide) ?_
    refine j_istore_n (j := 3) dd_M_worstAt_100 rfl (by decide) rfl ?_
    refine j_iincN dd_M_worstAt_101 rfl rfl (fun a2 ea2 => ?_)
    have h := h a2 ea2
    refine j_goto (tgt := 5) dd_M_worstAt_104 (by decide) ?_
    exact j_jump h (jsub_c rfl (jsub_c rfl (jsub_c rfl (jsub_c rfl (jsub_c rfl jsub_0)))))
theorem vc_M_ask {E : EE} {Q : Int → JM → Prop} (x1 : Int) (x2 : Int) (M : JM) (h : JC E mm_M_isOne [vR 20 0, vI x1] M (fun a2 M1 => ((a2 = 0 → Q (-1) M1) ∧ (a2 ≠ 0 → JC E mm_M_in [vL x2, vL 0, vL 1] M1 (fun a4 M3 => ((a4 ≠ 0 → JC E mm_M_numbersAt [vR 20 0, vI (w32 (33 + x1)), vI 1, vI 20] M3 (fun a6 M5 => JG E mm_M_ask Q 38 [(0, vR 20 0), (2, vI x2), (3, vI a6), (4, vI 0), (5, vI 1)] [] M5)) ∧ (a4 = 0 → Q (-1) M3))))))) : JC E mm_M_ask [vR 20 0, vI x1, vI x2] M Q := by
  refine j_entry (L0 := [(0, vR 20 0), (1, vI x1), (2, vI x2)]) pn_M (Nat.le_of_ble_eq_true rfl) rfl ?_
  refine j_aload_n (j := 0) dd_M_ask_0 rfl rfl ?_
  refine j_iload_n (j := 1) dd_M_ask_1 rfl rfl ?_
  refine j_cVI (mm' := mm_M_isOne) (t := 20) (i := 0) (As := [vI x1]) (rest := []) h dd_M_ask_2 (ws5 wd_1022 wd_1024 wd_46 wd_70 wd_1025) nk_M_isOne (rok rfl) (by unfold isW; omega) ⟨_, ce_20 _⟩ rfl (Nat.le_of_ble_eq_true rfl) (fun _ => rfl) (fun a2 M1 h => ?_)
  refine j_if_eq (tgt := 18) dd_M_ask_5 (by decide) (fun c => ?_) (fun c => ?_)
  · have h := h.1 c
    refine j_iconst dd_M_ask_18 (inRd rfl) ?_
    exact j_iret dd_M_ask_19 rfl h
  · have h := h.2 c
    refine j_iload_n (j := 2) dd_M_ask_8 rfl rfl ?_
    refine j_i2l dd_M_ask_9 ?_
    refine j_lconst (x := 0) dd_M_ask_10 rfl (inLd rfl) ?_
    refine j_lconst (x := 1) dd_M_ask_11 rfl (inLd rfl) ?_
    refine j_cSI (mm' := mm_M_in) (As := [vL x2, vL 0, vL 1]) (rest := []) h dd_M_ask_12 (ws4 wd_941 wd_942 wd_70 wd_943) nk_M_in (rok rfl) (Nat.le_of_ble_eq_true rfl) (fun _ => rfl) (fun a4 M3 h => ?_)
    refine j_if_ne (tgt := 20) dd_M_ask_15 (by decide) (fun c => ?_) (fun c => ?_)
    · have h := h.1 c
      refine j_aload_n (j := 0) dd_M_ask_20 rfl rfl ?_
      refine j_bipush dd_M_ask_21 rfl (inRd rfl) ?_
      refine j_iload_n (j := 1) dd_M_ask_23 rfl rfl ?_
      refine j_iadd dd_M_ask_24 ?_
      refine j_iconst dd_M_ask_25 (inRd rfl) ?_
      refine j_bipush dd_M_ask_26 rfl (inRd rfl) ?_
      refine j_cVI (mm' := mm_M_numbersAt) (t := 20) (i := 0) (As := [vI (w32 (33 + x1)), vI 1, vI 20]) (rest := []) h dd_M_ask_28 (ws5 wd_1183 wd_1185 wd_59 wd_70 wd_1186) nk_M_numbersAt (rok rfl) (by unfold isW; omega) ⟨_, ce_20 _⟩ rfl (Nat.le_of_ble_eq_true rfl) (fun _ => rfl) (fun a6 M5 h => ?_)
      refine j_istore_n (j := 3) dd_M_ask_31 rfl (by decide) rfl ?_
      refine j_iconst dd_M_ask_32 (inRd rfl) ?_
      refine j_istore (j := 4) dd_M_ask_33 (by decide) rfl ?_
      refine j_iconst dd_M_ask_35 (inRd rfl) ?_
      refine j_istore (j := 5) dd_M_ask_36 (by decide) rfl ?_
      exact j_jump h (jsub_c rfl (jsub_c rfl (jsub_c rfl (jsub_c rfl (jsub_c rfl jsub_0)))))
    · have h := h.2 c
      refine j_iconst dd_M_ask_18 (inRd rfl) ?_
      exact j_iret dd_M_ask_19 rfl h
theorem vc_M_ask_38 {E : EE} {Q : Int → JM → Prop} (x2 : Int) (l3 : Int) (l4 : Int) (l5 : Int) (M : JM) (h : ((20 < l5 → JG E mm_M_ask Q 69 [(0, vR 20 0), (2, vI x2), (3, vI l3), (4, vI l4), (5, vI (-4)), (6, vI 0)] [] M) ∧ (l5 ≤ 20 → ∀ a1 : Int, a1 = w32 (l4 + (and32 (shr32 l3 l5) 1)) → ∀ a2 : Int, a2 = w32 (l5 + 1) → JG E mm_M_ask Q 38 [(0, vR 20 0), (2, vI x2), (3, vI l3), (4, vI a1), (5, vI a2)] [] M))) : JG E mm_M_ask Q 38 [(0, vR 20 0), (2, vI x2), (3, vI l3), (4, vI l4), (5, vI l5)] [] M := by
  refine j_iload (j := 5) dd_M_ask_38 rfl ?_
  refine j_bipush dd_M_ask_40 rfl (inRd rfl) ?_
  refine j_icmp_gt (tgt := 62) dd_M_ask_42 (by decide) (fun c => ?_) (fun c => ?_)
  · have h := h.1 c
    refine j_bipush dd_M_ask_62 rfl (inRd rfl) ?_
    refine j_istore (j := 5) dd_M_ask_64 (by decide) rfl ?_
    refine j_iconst dd_M_ask_66 (inRd rfl) ?_
    refine j_istore (j := 6) dd_M_ask_67 (by decide) rfl ?_
    exact j_jump h (jsub_c rfl (jsub_c rfl (jsub_c rfl (jsub_c rfl (jsub_c rfl (jsub_c rfl jsub_0))))))
  · have h := h.2 c
    refine j_iload (j := 4) dd_M_ask_45 rfl ?_
    refine j_iload_n (j := 3) dd_M_ask_47 rfl rfl ?_
    refine j_iload (j := 5) dd_M_ask_48 rfl ?_
    refine j_ishr dd_M_ask_50 ?_
    refine j_iconst dd_M_ask_51 (inRd rfl) ?_
    refine j_iand dd_M_ask_52 ?_
    refine j_iadd dd_M_ask_53 ?_
    refine j_topI (fun a1 ea1 => ?_)
    have h := h a1 ea1
    refine j_istore (j := 4) dd_M_ask_54 (by decide) rfl ?_
    refine j_iincN dd_M_ask_56 rfl rfl (fun a2 ea2 => ?_)
    have h := h a2 ea2
    refine j_goto (tgt := 38) dd_M_ask_59 (by decide) ?_
    exact j_jump h (jsub_c rfl (jsub_c rfl (jsub_c rfl (jsub_c rfl (jsub_c rfl jsub_0)))))
theorem vc_M_ask_69 {E : EE} {Q : Int → JM → Prop} (x2 : Int) (l3 : Int) (l4 : Int) (l5 : Int) (l6 : Int) (M : JM) (h : ((20 < l6 → ((l5 = (-4) → Q l5 M) ∧ (l5 ≠ (-4) → ((x2 ≠ 0 → Q l4 M) ∧ (x2 = 0 → Q l5 M))))) ∧ (l6 ≤ 20 → JG E mm_M_ask Q 79 [(0, vR 20 0), (2, vI x2), (3, vI l3), (4, vI l4), (5, vI l5), (6, vI l6), (7, vI 0)] [] M))) : JG E mm_M_ask Q 69 [(0, vR 20 0), (2, vI x2), (3, vI l3), (4, vI l4), (5, vI l5), (6, vI l6)] [] M := by
  refine j_iload (j := 6) dd_M_ask_69 rfl ?_
  refine j_bipush dd_M_ask_71 rfl (inRd rfl) ?_
  refine j_icmp_gt (tgt := 152) dd_M_ask_73 (by decide) (fun c => ?_) (fun c => ?_)
  · have h := h.1 c
    refine j_iload (j := 5) dd_M_ask_152 rfl ?_
    refine j_bipush dd_M_ask_154 rfl (inRd rfl) ?_
    refine j_icmp_eq (tgt := 163) dd_M_ask_156 (by decide) (fun c => ?_) (fun c => ?_)
    · have h := h.1 c
      refine j_iload (j := 5) dd_M_ask_163 rfl ?_
      refine j_goto (tgt := 170) dd_M_ask_165 (by decide) ?_
      exact j_iret dd_M_ask_170 rfl h
    · have h := h.2 c
      refine j_iload_n (j := 2) dd_M_ask_159 rfl rfl ?_
      refine j_if_ne (tgt := 168) dd_M_ask_160 (by decide) (fun c => ?_) (fun c => ?_)
      · have h := h.1 c
        refine j_iload (j := 4) dd_M_ask_168 rfl ?_
        exact j_iret dd_M_ask_170 rfl h
      · have h := h.2 c
        refine j_iload (j := 5) dd_M_ask_163 rfl ?_
        refine j_goto (tgt := 170) dd_M_ask_165 (by decide) ?_
        exact j_iret dd_M_ask_170 rfl h
  · have h := h.2 c
    refine j_iconst dd_M_ask_76 (inRd rfl) ?_
    refine j_istore (j := 7) dd_M_ask_77 (by decide) rfl ?_
    exact j_jump h (jsub_c rfl (jsub_c rfl (jsub_c rfl (jsub_c rfl (jsub_c rfl (jsub_c rfl (jsub_c rfl jsub_0)))))))
theorem vc_M_ask_79 {E : EE} {Q : Int → JM → Prop} (x2 : Int) (l3 : Int) (l4 : Int) (l5 : Int) (l6 : Int) (l7 : Int) (M : JM) (h : ((M 20 0 1 ≤ l7 → ∀ a1 : Int, a1 = w32 (l6 + 1) → JG E mm_M_ask Q 69 [(0, vR 20 0), (2, vI x2), (3, vI l3), (4, vI l4), (5, vI l5), (6, vI a1)] [] M) ∧ (l7 < M 20 0 1 → JC E mm_M_worstAt [vR 20 0, vI l3, vI (w32 (w32 (4 * l6) + l7))] M (fun a3 M2 => ((l4 ≤ a3 → JG E mm_M_ask Q 122 [(0, vR 20 0), (2, vI x2), (3, vI l3), (4, vI l4), (6, vI l6), (7, vI l7), (8, vI a3)] [vI l5] M2) ∧ (a3 < l4 → JG E mm_M_ask Q 122 [(0, vR 20 0), (2, vI x2), (3, vI l3), (4, vI l4), (6, vI l6), (7, vI l7), (8, vI a3)] [vI (w32 (w32 (10 * l6) + l7))] M2)))))) : JG E mm_M_ask Q 79 [(0, vR 20 0), (2, vI x2), (3, vI l3), (4, vI l4), (5, vI l5), (6, vI l6), (7, vI l7)] [] M := by
  refine j_iload (j := 7) dd_M_ask_79 rfl ?_
  refine j_aload_n (j := 0) dd_M_ask_81 rfl rfl ?_
  refine gf_20_1 dd_M_ask_82 wd_849 ?_
  refine j_icmp_ge (tgt := 146) dd_M_ask_85 (by decide) (fun c => ?_) (fun c => ?_)
  · have h := h.1 c
    refine j_iincN dd_M_ask_146 rfl rfl (fun a1 ea1 => ?_)
    have h := h a1 ea1
    refine j_goto (tgt := 69) dd_M_ask_149 (by decide) ?_
    exact j_jump h (jsub_c rfl (jsub_c rfl (jsub_c rfl (jsub_c rfl (jsub_c rfl (jsub_c rfl jsub_0))))))
  · have h := h.2 c
    refine j_aload_n (j := 0) dd_M_ask_88 rfl rfl ?_
    refine j_iload_n (j := 3) dd_M_ask_89 rfl rfl ?_
    refine j_iconst dd_M_ask_90 (inRd rfl) ?_
    refine j_iload (j := 6) dd_M_ask_91 rfl ?_
    refine j_imul dd_M_ask_93 ?_
    refine j_iload (j := 7) dd_M_ask_94 rfl ?_
    refine j_iadd dd_M_ask_96 ?_
    refine j_cVI (mm' := mm_M_worstAt) (t := 20) (i := 0) (As := [vI l3, vI (w32 (w32 (4 * l6) + l7))]) (rest := []) h dd_M_ask_97 (ws5 wd_1203 wd_1205 wd_61 wd_70 wd_1206) nk_M_worstAt (rok rfl) (by unfold isW; omega) ⟨_, ce_20 _⟩ rfl (Nat.le_of_ble_eq_true rfl) (fun _ => rfl) (fun a3 M2 h => ?_)
    refine j_istore (j := 8) dd_M_ask_100 (by decide) rfl ?_
    refine j_iload (j := 8) dd_M_ask_102 rfl ?_
    refine j_iload (j := 4) dd_M_ask_104 rfl ?_
    refine j_icmp_ge (tgt := 120) dd_M_ask_106 (by decide) (fun c => ?_) (fun c => ?_)
    · have h := h.1 c
      refine j_iload (j := 5) dd_M_ask_120 rfl ?_
      exact j_jump h (jsub_c rfl (jsub_c rfl (jsub_c rfl (jsub_c rfl (jsub_c rfl (jsub_c rfl (jsub_c rfl jsub_0)))))))
    · have h := h.2 c
      refine j_bipush dd_M_ask_109 rfl (inRd rfl) ?_
      refine j_iload (j := 6) dd_M_ask_111 rfl ?_
      refine j_imul dd_M_ask_113 ?_
      refine j_iload (j := 7) dd_M_ask_114 rfl ?_
      refine j_iadd dd_M_ask_116 ?_
      refine j_goto (tgt := 122) dd_M_ask_117 (by decide) ?_
      exact j_jump h (jsub_c rfl (jsub_c rfl (jsub_c rfl (jsub_c rfl (jsub_c rfl (jsub_c rfl (jsub_c rfl jsub_0)))))))
theorem vc_M_ask_122 {E : EE} {Q : Int → JM → Prop} (x2 : Int) (l3 : Int) (l4 : Int) (l6 : Int) (l7 : Int) (l8 : Int) (s0 : Int) (M : JM) (h : ((l4 ≤ l8 → ∀ a1 : Int, a1 = w32 (l7 + 1) → JG E mm_M_ask Q 79 [(0, vR 20 0), (2, vI x2), (3, vI l3), (4, vI l4), (5, vI s0), (6, vI l6), (7, vI a1)] [] M) ∧ (l8 < l4 → ∀ a2 : Int, a2 = w32 (l7 + 1) → JG E mm_M_ask Q 79 [(0, vR 20 0), (2, vI x2), (3, vI l3), (4, vI l8), (5, vI s0), (6, vI l6), (7, vI a2)] [] M))) : JG E mm_M_ask Q 122 [(0, vR 20 0), (2, vI x2), (3, vI l3), (4, vI l4), (6, vI l6), (7, vI l7), (8, vI l8)] [vI s0] M := by
  refine j_istore (j := 5) dd_M_ask_122 (by decide) rfl ?_
  refine j_iload (j := 8) dd_M_ask_124 rfl ?_
  refine j_iload (j := 4) dd_M_ask_126 rfl ?_
  refine j_icmp_ge (tgt := 136) dd_M_ask_128 (by decide) (fun c => ?_) (fun c => ?_)
  · have h := h.1 c
    refine j_iload (j := 4) dd_M_ask_136 rfl ?_
    refine j_istore (j := 4) dd_M_ask_138 (by decide) rfl ?_
    refine j_iincN dd_M_ask_140 rfl rfl (fun a1 ea1 => ?_)
    have h := h a1 ea1
    refine j_goto (tgt := 79) dd_M_ask_143 (by decide) ?_
    exact j_jump h (jsub_c rfl (jsub_c rfl (jsub_c rfl (jsub_c rfl (jsub_c rfl (jsub_c rfl (jsub_c rfl jsub_0)))))))
  · have h := h.2 c
    refine j_iload (j := 8) dd_M_ask_131 rfl ?_
    refine j_goto (tgt := 138) dd_M_ask_133 (by decide) ?_
    refine j_istore (j := 4) dd_M_ask_138 (by decide) rfl ?_
    refine j_iincN dd_M_ask_140 rfl rfl (fun a2 ea2 => ?_)
    have h := h a2 ea2
    refine j_goto (tgt := 79) dd_M_ask_143 (by decide) ?_
    exact j_jump h (jsub_c rfl (jsub_c rfl (jsub_c rfl (jsub_c rfl (jsub_c rfl (jsub_c rfl (jsub_c rfl jsub_0)))))))
theorem vc_M_drift {E : EE} {Q : Int → JM → Prop} (x1 : Int) (x2 : Int) (x3 : Int) (M : JM) (h : JC E mm_M_in [vL x2, vL 1, vL 60] M (fun a2 M1 => ((a2 = 0 → Q (-1) M1) ∧ (a2 ≠ 0 → JC E mm_M_in [vL x3, vL 0, vL 1] M1 (fun a4 M3 => ((a4 ≠ 0 → ((M3 21 0 32 ≠ 0 → JC E mm_M_copies [vR 20 0, vI 0, vI 176] M3 (fun a6 M5 => ∀ M7 : JM, M7 = pt M5 20 0 19 0 → JG E mm_M_drift Q 56 [(0, vR 20 0), (2, vI x2), (3, vI x3), (4, vI x1), (5, vI 0)] [] M7)) ∧ (M3 21 0 32 = 0 → Q (-2) M3))) ∧ (a4 = 0 → Q (-1) M3))))))) : JC E mm_M_drift [vR 20 0, vI x1, vI x2, vI x3] M Q := by
  refine j_entry (L0 := [(0, vR 20 0), (1, vI x1), (2, vI x2), (3, vI x3)]) pn_M (Nat.le_of_ble_eq_true rfl) rfl ?_
  refine j_iload_n (j := 2) dd_M_drift_0 rfl rfl ?_
  refine j_i2l dd_M_drift_1 ?_
  refine j_lconst (x := 1) dd_M_drift_2 rfl (inLd rfl) ?_
  refine j_ldc2 (x := 60) dd_M_drift_3 wd_1103 rfl (inLd rfl) ?_
  refine j_cSI (mm' := mm_M_in) (As := [vL x2, vL 1, vL 60]) (rest := []) h dd_M_drift_6 (ws4 wd_941 wd_942 wd_70 wd_943) nk_M_in (rok rfl) (Nat.le_of_ble_eq_true rfl) (fun _ => rfl) (fun a2 M1 h => ?_)
  refine j_if_eq (tgt := 22) dd_M_drift_9 (by decide) (fun c => ?_) (fun c => ?_)
  · have h := h.1 c
    refine j_iconst dd_M_drift_22 (inRd rfl) ?_
    exact j_iret dd_M_drift_23 rfl h
  · have h := h.2 c
    refine j_iload_n (j := 3) dd_M_drift_12 rfl rfl ?_
    refine j_i2l dd_M_drift_13 ?_
    refine j_lconst (x := 0) dd_M_drift_14 rfl (inLd rfl) ?_
    refine j_lconst (x := 1) dd_M_drift_15 rfl (inLd rfl) ?_
    refine j_cSI (mm' := mm_M_in) (As := [vL x3, vL 0, vL 1]) (rest := []) h dd_M_drift_16 (ws4 wd_941 wd_942 wd_70 wd_943) nk_M_in (rok rfl) (Nat.le_of_ble_eq_true rfl) (fun _ => rfl) (fun a4 M3 h => ?_)
    refine j_if_ne (tgt := 24) dd_M_drift_19 (by decide) (fun c => ?_) (fun c => ?_)
    · have h := h.1 c
      refine j_aload_n (j := 0) dd_M_drift_24 rfl rfl ?_
      refine gf_20_0 dd_M_drift_25 wd_848 ?_
      refine j_bipush dd_M_drift_28 rfl (inRd rfl) ?_
      refine ld_21 dd_M_drift_30 ⟨by decide, by decide⟩ ?_
      refine j_if_ne (tgt := 37) dd_M_drift_31 (by decide) (fun c => ?_) (fun c => ?_)
      · have h := h.1 c
        refine j_aload_n (j := 0) dd_M_drift_37 rfl rfl ?_
        refine j_iconst dd_M_drift_38 (inRd rfl) ?_
        refine j_sipush dd_M_drift_39 rfl (inRd rfl) ?_
        refine j_cVV (mm' := mm_M_copies) (t := 20) (i := 0) (As := [vI 0, vI 176]) (rest := []) h dd_M_drift_42 (ws5 wd_1031 wd_1033 wd_48 wd_70 wd_1034) nk_M_copies (rok rfl) (by unfold isW; omega) ⟨_, ce_20 _⟩ rfl (Nat.le_of_ble_eq_true rfl) (fun _ => rfl) (fun a6 M5 h => ?_)
        refine j_aload_n (j := 0) dd_M_drift_45 rfl rfl ?_
        refine j_iconst dd_M_drift_46 (inRd rfl) ?_
        refine pf_20_19 dd_M_drift_47 wd_867 (fun M7 eM7 => ?_)
        have h := h M7 eM7
        refine j_iload_n (j := 1) dd_M_drift_50 rfl rfl ?_
        refine j_istore (j := 4) dd_M_drift_51 (by decide) rfl ?_
        refine j_iconst dd_M_drift_53 (inRd rfl) ?_
        refine j_istore (j := 5) dd_M_drift_54 (by decide) rfl ?_
        exact j_jump h (jsub_c rfl (jsub_c rfl (jsub_c rfl (jsub_c rfl (jsub_c rfl jsub_0)))))
      · have h := h.2 c
        refine j_bipush dd_M_drift_34 rfl (inRd rfl) ?_
        exact j_iret dd_M_drift_36 rfl h
    · have h := h.2 c
      refine j_iconst dd_M_drift_22 (inRd rfl) ?_
      exact j_iret dd_M_drift_23 rfl h
theorem vc_M_drift_56 {E : EE} {Q : Int → JM → Prop} (x2 : Int) (x3 : Int) (l4 : Int) (l5 : Int) (M : JM) (h : ((x2 ≤ l5 → ((x3 ≠ 0 → Q (M 20 0 19) M) ∧ (x3 = 0 → JC E mm_M_wagesOn [vR 20 0, vI 176] M (fun a2 M1 => JC E mm_M_wagesOn [vR 20 0, vI 0] M1 (fun a4 M3 => Q (w32 (a2 - a4)) M3))))) ∧ (l5 < x2 → ∀ a5 : Int, a5 = w32 (w32 (l4 * 1103515245) + 12345) → ∀ a6 : Int, a6 = and32 (shr32 a5 16) 32767 → (M 21 0 32 ≠ 0) ∧ (0 ≤ w32 (184 + (w32 (Int.tmod (w32 (Int.tdiv a6 8)) (M 21 0 32)))) ∧ w32 (184 + (w32 (Int.tmod (w32 (Int.tdiv a6 8)) (M 21 0 32)))) < 264) ∧ ∀ M7 : JM, M7 = pt M 21 0 ((w32 (184 + (w32 (Int.tmod (w32 (Int.tdiv a6 8)) (M 21 0 32))))).toNat) (w32 (1 + (w32 (Int.tmod (w32 (Int.tdiv a6 64)) 9)))) → JC E mm_M_weekOn [vR 20 0, vI 176, vI (w32 (Int.tmod a6 7)), vI 0] M7 (fun a9 M8 => ∀ a10 : Int, a10 = w32 (l5 + 1) → JG E mm_M_drift Q 56 [(0, vR 20 0), (2, vI x2), (3, vI x3), (4, vI a5), (5, vI a10)] [] M8)))) : JG E mm_M_drift Q 56 [(0, vR 20 0), (2, vI x2), (3, vI x3), (4, vI l4), (5, vI l5)] [] M := by
  refine j_iload (j := 5) dd_M_drift_56 rfl ?_
  refine j_iload_n (j := 2) dd_M_drift_58 rfl rfl ?_
  refine j_icmp_ge (tgt := 135) dd_M_drift_59 (by decide) (fun c => ?_) (fun c => ?_)
  · have h := h.1 c
    refine j_iload_n (j := 3) dd_M_drift_135 rfl rfl ?_
    refine j_if_ne (tgt := 155) dd_M_drift_136 (by decide) (fun c => ?_) (fun c => ?_)
    · have h := h.1 c
      refine j_aload_n (j := 0) dd_M_drift_155 rfl rfl ?_
      refine gf_20_19 dd_M_drift_156 wd_867 ?_
      exact j_iret dd_M_drift_159 rfl h
    · have h := h.2 c
      refine j_aload_n (j := 0) dd_M_drift_139 rfl rfl ?_
      refine j_sipush dd_M_drift_140 rfl (inRd rfl) ?_
      refine j_cVI (mm' := mm_M_wagesOn) (t := 20) (i := 0) (As := [vI 176]) (rest := []) h dd_M_drift_143 (ws5 wd_997 wd_999 wd_42 wd_70 wd_1000) nk_M_wagesOn (rok rfl) (by unfold isW; omega) ⟨_, ce_20 _⟩ rfl (Nat.le_of_ble_eq_true rfl) (fun _ => rfl) (fun a2 M1 h => ?_)
      refine j_aload_n (j := 0) dd_M_drift_146 rfl rfl ?_
      refine j_iconst dd_M_drift_147 (inRd rfl) ?_
      refine j_cVI (mm' := mm_M_wagesOn) (t := 20) (i := 0) (As := [vI 0]) (rest := [vI a2]) h dd_M_drift_148 (ws5 wd_997 wd_999 wd_42 wd_70 wd_1000) nk_M_wagesOn (rok rfl) (by unfold isW; omega) ⟨_, ce_20 _⟩ rfl (Nat.le_of_ble_eq_true rfl) (fun _ => rfl) (fun a4 M3 h => ?_)
      refine j_isub dd_M_drift_151 ?_
      refine j_goto (tgt := 159) dd_M_drift_152 (by decide) ?_
      exact j_iret dd_M_drift_159 rfl h
  · have h := h.2 c
    refine j_iload (j := 4) dd_M_drift_62 rfl ?_
    refine j_ldc (x := 1103515245) dd_M_drift_64 wd_1211 rfl (inRd rfl) ?_
    refine j_imul dd_M_drift_66 ?_
    refine j_sipush dd_M_drift_67 rfl (inRd rfl) ?_
    refine j_iadd dd_M_drift_70 ?_
    refine j_topI (fun a5 ea5 => ?_)
    have h := h a5 ea5
    refine j_istore (j := 4) dd_M_drift_71 (by decide) rfl ?_
    refine j_iload (j := 4) dd_M_drift_73 rfl ?_
    refine j_bipush dd_M_drift_75 rfl (inRd rfl) ?_
    refine j_ishr dd_M_drift_77 ?_
    refine j_sipush dd_M_drift_78 rfl (inRd rfl) ?_
    refine j_iand dd_M_drift_81 ?_
    refine j_topI (fun a6 ea6 => ?_)
    have h := h a6 ea6
    refine j_istore (j := 6) dd_M_drift_82 (by decide) rfl ?_
    refine j_aload_n (j := 0) dd_M_drift_84 rfl rfl ?_
    refine gf_20_0 dd_M_drift_85 wd_848 ?_
    refine j_sipush dd_M_drift_88 rfl (inRd rfl) ?_
    refine j_iload (j := 6) dd_M_drift_91 rfl ?_
    refine j_bipush dd_M_drift_93 rfl (inRd rfl) ?_
    refine j_idiv dd_M_drift_95 (by decide) ?_
    refine j_aload_n (j := 0) dd_M_drift_96 rfl rfl ?_
    refine gf_20_0 dd_M_drift_97 wd_848 ?_
    refine j_bipush dd_M_drift_100 rfl (inRd rfl) ?_
    refine ld_21 dd_M_drift_102 ⟨by decide, by decide⟩ ?_
    refine j_irem dd_M_drift_103 h.1 ?_
    have h := h.2
    refine j_iadd dd_M_drift_104 ?_
    refine j_iconst dd_M_drift_105 (inRd rfl) ?_
    refine j_iload (j := 6) dd_M_drift_106 rfl ?_
    refine j_bipush dd_M_drift_108 rfl (inRd rfl) ?_
    refine j_idiv dd_M_drift_110 (by decide) ?_
    refine j_bipush dd_M_drift_111 rfl (inRd rfl) ?_
    refine j_irem dd_M_drift_113 (by decide) ?_
    refine j_iadd dd_M_drift_114 ?_
    refine st_21 dd_M_drift_115 h.1 (fun M7 eM7 => ?_)
    have h := h.2
    have h := h M7 eM7
    refine j_aload_n (j := 0) dd_M_drift_116 rfl rfl ?_
    refine j_sipush dd_M_drift_117 rfl (inRd rfl) ?_
    refine j_iload (j := 6) dd_M_drift_120 rfl ?_
    refine j_bipush dd_M_drift_122 rfl (inRd rfl) ?_
    refine j_irem dd_M_drift_124 (by decide) ?_
    refine j_iconst dd_M_drift_125 (inRd rfl) ?_
    refine j_cVV (mm' := mm_M_weekOn) (t := 20) (i := 0) (As := [vI 176, vI (w32 (Int.tmod a6 7)), vI 0]) (rest := []) h dd_M_drift_126 (ws5 wd_1091 wd_1093 wd_54 wd_70 wd_1094) nk_M_weekOn (rok rfl) (by unfold isW; omega) ⟨_, ce_20 _⟩ rfl (Nat.le_of_ble_eq_true rfl) (fun _ => rfl) (fun a9 M8 h => ?_)
    refine j_iincN dd_M_drift_129 rfl rfl (fun a10 ea10 => ?_)
    have h := h a10 ea10
    refine j_goto (tgt := 56) dd_M_drift_132 (by decide) ?_
    exact j_jump h (jsub_c rfl (jsub_c rfl (jsub_c rfl (jsub_c rfl (jsub_c rfl jsub_0)))))
theorem vc_M_keep {E : EE} {Q : Int → JM → Prop} (x1 : Int) (M : JM) (h : JC E mm_M_in [vL x1, vL 0, vL 1] M (fun a2 M1 => ((a2 ≠ 0 → JC E mm_M_copies [vR 20 0, vI 0, vI (w32 (44 * (w32 (x1 + 1))))] M1 (fun a4 M3 => (0 ≤ x1 ∧ x1 < 2) ∧ ((M3 30 0 x1.toNat = 0 → JG E mm_M_keep Q 37 [(0, vR 20 0), (1, vI x1)] [vI 0] M3) ∧ (M3 30 0 x1.toNat ≠ 0 → JG E mm_M_keep Q 37 [(0, vR 20 0), (1, vI x1)] [vI 1] M3)))) ∧ (a2 = 0 → Q (-1) M1)))) : JC E mm_M_keep [vR 20 0, vI x1] M Q := by
  refine j_entry (L0 := [(0, vR 20 0), (1, vI x1)]) pn_M (Nat.le_of_ble_eq_true rfl) rfl ?_
  refine j_iload_n (j := 1) dd_M_keep_0 rfl rfl ?_
  refine j_i2l dd_M_keep_1 ?_
  refine j_lconst (x := 0) dd_M_keep_2 rfl (inLd rfl) ?_
  refine j_lconst (x := 1) dd_M_keep_3 rfl (inLd rfl) ?_
  refine j_cSI (mm' := mm_M_in) (As := [vL x1, vL 0, vL 1]) (rest := []) h dd_M_keep_4 (ws4 wd_941 wd_942 wd_70 wd_943) nk_M_in (rok rfl) (Nat.le_of_ble_eq_true rfl) (fun _ => rfl) (fun a2 M1 h => ?_)
  refine j_if_ne (tgt := 12) dd_M_keep_7 (by decide) (fun c => ?_) (fun c => ?_)
  · have h := h.1 c
    refine j_aload_n (j := 0) dd_M_keep_12 rfl rfl ?_
    refine j_iconst dd_M_keep_13 (inRd rfl) ?_
    refine j_bipush dd_M_keep_14 rfl (inRd rfl) ?_
    refine j_iload_n (j := 1) dd_M_keep_16 rfl rfl ?_
    refine j_iconst dd_M_keep_17 (inRd rfl) ?_
    refine j_iadd dd_M_keep_18 ?_
    refine j_imul dd_M_keep_19 ?_
    refine j_cVV (mm' := mm_M_copies) (t := 20) (i := 0) (As := [vI 0, vI (w32 (44 * (w32 (x1 + 1))))]) (rest := []) h dd_M_keep_20 (ws5 wd_1031 wd_1033 wd_48 wd_70 wd_1034) nk_M_copies (rok rfl) (by unfold isW; omega) ⟨_, ce_20 _⟩ rfl (Nat.le_of_ble_eq_true rfl) (fun _ => rfl) (fun a4 M3 h => ?_)
    refine j_aload_n (j := 0) dd_M_keep_23 rfl rfl ?_
    refine gf_20_24 dd_M_keep_24 wd_872 ?_
    refine j_iload_n (j := 1) dd_M_keep_27 rfl rfl ?_
    refine ld_30 dd_M_keep_28 h.1 ?_
    have h := h.2
    refine j_if_eq (tgt := 36) dd_M_keep_29 (by decide) (fun c => ?_) (fun c => ?_)
    · have h := h.1 c
      refine j_iconst dd_M_keep_36 (inRd rfl) ?_
      exact j_jump h (jsub_c rfl (jsub_c rfl jsub_0))
    · have h := h.2 c
      refine j_iconst dd_M_keep_32 (inRd rfl) ?_
      refine j_goto (tgt := 37) dd_M_keep_33 (by decide) ?_
      exact j_jump h (jsub_c rfl (jsub_c rfl jsub_0))
  · have h := h.2 c
    refine j_iconst dd_M_keep_10 (inRd rfl) ?_
    exact j_iret dd_M_keep_11 rfl h
theorem vc_M_keep_37 {E : EE} {Q : Int → JM → Prop} (x1 : Int) (s0 : Int) (M : JM) (h : (0 ≤ x1 ∧ x1 < 2) ∧ ∀ M1 : JM, M1 = pt M 30 0 x1.toNat 1 → Q s0 M1) : JG E mm_M_keep Q 37 [(0, vR 20 0), (1, vI x1)] [vI s0] M := by
  refine j_istore_n (j := 2) dd_M_keep_37 rfl (by decide) rfl ?_
  refine j_aload_n (j := 0) dd_M_keep_38 rfl rfl ?_
  refine gf_20_24 dd_M_keep_39 wd_872 ?_
  refine j_iload_n (j := 1) dd_M_keep_42 rfl rfl ?_
  refine j_iconst dd_M_keep_43 (inRd rfl) ?_
  refine st_30 dd_M_keep_44 h.1 (Or.inr rfl) (fun M1 eM1 => ?_)
  have h := h.2
  have h := h M1 eM1
  refine j_iload_n (j := 2) dd_M_keep_45 rfl rfl ?_
  exact j_iret dd_M_keep_46 rfl h
theorem vc_M_back {E : EE} {Q : Int → JM → Prop} (x1 : Int) (M : JM) (h : JC E mm_M_in [vL x1, vL 0, vL 1] M (fun a2 M1 => ((a2 ≠ 0 → (0 ≤ x1 ∧ x1 < 2) ∧ ((M1 30 0 x1.toNat ≠ 0 → JC E mm_M_copies [vR 20 0, vI (w32 (44 * (w32 (x1 + 1)))), vI 0] M1 (fun a4 M3 => Q (M3 21 0 43) M3)) ∧ (M1 30 0 x1.toNat = 0 → Q (-2) M1))) ∧ (a2 = 0 → Q (-1) M1)))) : JC E mm_M_back [vR 20 0, vI x1] M Q := by
  refine j_entry (L0 := [(0, vR 20 0), (1, vI x1)]) pn_M (Nat.le_of_ble_eq_true rfl) rfl ?_
  refine j_iload_n (j := 1) dd_M_back_0 rfl rfl ?_
  refine j_i2l dd_M_back_1 ?_
  refine j_lconst (x := 0) dd_M_back_2 rfl (inLd rfl) ?_
  refine j_lconst (x := 1) dd_M_back_3 rfl (inLd rfl) ?_
  refine j_cSI (mm' := mm_M_in) (As := [vL x1, vL 0, vL 1]) (rest := []) h dd_M_back_4 (ws4 wd_941 wd_942 wd_70 wd_943) nk_M_in (rok rfl) (Nat.le_of_ble_eq_true rfl) (fun _ => rfl) (fun a2 M1 h => ?_)
  refine j_if_ne (tgt := 12) dd_M_back_7 (by decide) (fun c => ?_) (fun c => ?_)
  · have h := h.1 c
    refine j_aload_n (j := 0) dd_M_back_12 rfl rfl ?_
    refine gf_20_24 dd_M_back_13 wd_872 ?_
    refine j_iload_n (j := 1) dd_M_back_16 rfl rfl ?_
    refine ld_30 dd_M_back_17 h.1 ?_
    have h := h.2
    refine j_if_ne (tgt := 24) dd_M_back_18 (by decide) (fun c => ?_) (fun c => ?_)
    · have h := h.1 c
      refine j_aload_n (j := 0) dd_M_back_24 rfl rfl ?_
      refine j_bipush dd_M_back_25 rfl (inRd rfl) ?_
      refine j_iload_n (j := 1) dd_M_back_27 rfl rfl ?_
      refine j_iconst dd_M_back_28 (inRd rfl) ?_
      refine j_iadd dd_M_back_29 ?_
      refine j_imul dd_M_back_30 ?_
      refine j_iconst dd_M_back_31 (inRd rfl) ?_
      refine j_cVV (mm' := mm_M_copies) (t := 20) (i := 0) (As := [vI (w32 (44 * (w32 (x1 + 1)))), vI 0]) (rest := []) h dd_M_back_32 (ws5 wd_1031 wd_1033 wd_48 wd_70 wd_1034) nk_M_copies (rok rfl) (by unfold isW; omega) ⟨_, ce_20 _⟩ rfl (Nat.le_of_ble_eq_true rfl) (fun _ => rfl) (fun a4 M3 h => ?_)
      refine j_aload_n (j := 0) dd_M_back_35 rfl rfl ?_
      refine gf_20_0 dd_M_back_36 wd_848 ?_
      refine j_bipush dd_M_back_39 rfl (inRd rfl) ?_
      refine ld_21 dd_M_back_41 ⟨by decide, by decide⟩ ?_
      exact j_iret dd_M_back_42 rfl h
    · have h := h.2 c
      refine j_bipush dd_M_back_21 rfl (inRd rfl) ?_
      exact j_iret dd_M_back_23 rfl h
  · have h := h.2 c
    refine j_iconst dd_M_back_10 (inRd rfl) ?_
    exact j_iret dd_M_back_11 rfl h
theorem vc_M_sheet {E : EE} {Q : Int → JM → Prop} (x1 : Int) (x2 : Int) (x3 : Int) (M : JM) (h : JC E mm_M_in [vL x1, vL 0, vL 3] M (fun a2 M1 => ((a2 = 0 → Q (-1) M1) ∧ (a2 ≠ 0 → JC E mm_M_in [vL x2, vL 0, vL 2] M1 (fun a4 M3 => ((a4 = 0 → Q (-1) M3) ∧ (a4 ≠ 0 → ((x3 ≤ 40 → ((0 ≤ x3 → (0 ≤ x1 ∧ x1 < 4) ∧ ∀ M5 : JM, M5 = pt M3 31 0 x1.toNat x2 → (0 ≤ x1 ∧ x1 < 4) ∧ ∀ M6 : JM, M6 = pt M5 32 0 x1.toNat x3 → JG E mm_M_sheet Q 56 [(0, vR 20 0), (1, vI x1), (4, vI 0)] [] M6) ∧ (x3 < 0 → Q (-14) M3))) ∧ (40 < x3 → Q (-1) M3))))))))) : JC E mm_M_sheet [vR 20 0, vI x1, vI x2, vI x3] M Q := by
  refine j_entry (L0 := [(0, vR 20 0), (1, vI x1), (2, vI x2), (3, vI x3)]) pn_M (Nat.le_of_ble_eq_true rfl) rfl ?_
  refine j_iload_n (j := 1) dd_M_sheet_0 rfl rfl ?_
  refine j_i2l dd_M_sheet_1 ?_
  refine j_lconst (x := 0) dd_M_sheet_2 rfl (inLd rfl) ?_
  refine j_ldc2 (x := 3) dd_M_sheet_3 wd_1026 rfl (inLd rfl) ?_
  refine j_cSI (mm' := mm_M_in) (As := [vL x1, vL 0, vL 3]) (rest := []) h dd_M_sheet_6 (ws4 wd_941 wd_942 wd_70 wd_943) nk_M_in (rok rfl) (Nat.le_of_ble_eq_true rfl) (fun _ => rfl) (fun a2 M1 h => ?_)
  refine j_if_eq (tgt := 30) dd_M_sheet_9 (by decide) (fun c => ?_) (fun c => ?_)
  · have h := h.1 c
    refine j_iconst dd_M_sheet_30 (inRd rfl) ?_
    exact j_iret dd_M_sheet_31 rfl h
  · have h := h.2 c
    refine j_iload_n (j := 2) dd_M_sheet_12 rfl rfl ?_
    refine j_i2l dd_M_sheet_13 ?_
    refine j_lconst (x := 0) dd_M_sheet_14 rfl (inLd rfl) ?_
    refine j_ldc2 (x := 2) dd_M_sheet_15 wd_1129 rfl (inLd rfl) ?_
    refine j_cSI (mm' := mm_M_in) (As := [vL x2, vL 0, vL 2]) (rest := []) h dd_M_sheet_18 (ws4 wd_941 wd_942 wd_70 wd_943) nk_M_in (rok rfl) (Nat.le_of_ble_eq_true rfl) (fun _ => rfl) (fun a4 M3 h => ?_)
    refine j_if_eq (tgt := 30) dd_M_sheet_21 (by decide) (fun c => ?_) (fun c => ?_)
    · have h := h.1 c
      refine j_iconst dd_M_sheet_30 (inRd rfl) ?_
      exact j_iret dd_M_sheet_31 rfl h
    · have h := h.2 c
      refine j_iload_n (j := 3) dd_M_sheet_24 rfl rfl ?_
      refine j_bipush dd_M_sheet_25 rfl (inRd rfl) ?_
      refine j_icmp_le (tgt := 32) dd_M_sheet_27 (by decide) (fun c => ?_) (fun c => ?_)
      · have h := h.1 c
        refine j_iload_n (j := 3) dd_M_sheet_32 rfl rfl ?_
        refine j_if_ge (tgt := 39) dd_M_sheet_33 (by decide) (fun c => ?_) (fun c => ?_)
        · have h := h.1 c
          refine j_aload_n (j := 0) dd_M_sheet_39 rfl rfl ?_
          refine gf_20_25 dd_M_sheet_40 wd_873 ?_
          refine j_iload_n (j := 1) dd_M_sheet_43 rfl rfl ?_
          refine j_iload_n (j := 2) dd_M_sheet_44 rfl rfl ?_
          refine st_31 dd_M_sheet_45 h.1 (fun M5 eM5 => ?_)
          have h := h.2
          have h := h M5 eM5
          refine j_aload_n (j := 0) dd_M_sheet_46 rfl rfl ?_
          refine gf_20_26 dd_M_sheet_47 wd_874 ?_
          refine j_iload_n (j := 1) dd_M_sheet_50 rfl rfl ?_
          refine j_iload_n (j := 3) dd_M_sheet_51 rfl rfl ?_
          refine st_32 dd_M_sheet_52 h.1 (fun M6 eM6 => ?_)
          have h := h.2
          have h := h M6 eM6
          refine j_iconst dd_M_sheet_53 (inRd rfl) ?_
          refine j_istore (j := 4) dd_M_sheet_54 (by decide) rfl ?_
          exact j_jump h (jsub_c rfl (jsub_c rfl (jsub_c rfl jsub_0)))
        · have h := h.2 c
          refine j_bipush dd_M_sheet_36 rfl (inRd rfl) ?_
          exact j_iret dd_M_sheet_38 rfl h
      · have h := h.2 c
        refine j_iconst dd_M_sheet_30 (inRd rfl) ?_
        exact j_iret dd_M_sheet_31 rfl h
theorem vc_M_sheet_56 {E : EE} {Q : Int → JM → Prop} (x1 : Int) (l4 : Int) (M : JM) (h : ((40 ≤ l4 → Q 1 M) ∧ (l4 < 40 → (0 ≤ w32 (w32 (40 * x1) + l4) ∧ w32 (w32 (40 * x1) + l4) < 160) ∧ ∀ M1 : JM, M1 = pt M 33 0 ((w32 (w32 (40 * x1) + l4)).toNat) 0 → ∀ a2 : Int, a2 = w32 (l4 + 1) → JG E mm_M_sheet Q 56 [(0, vR 20 0), (1, vI x1), (4, vI a2)] [] M1))) : JG E mm_M_sheet Q 56 [(0, vR 20 0), (1, vI x1), (4, vI l4)] [] M := by
  refine j_iload (j := 4) dd_M_sheet_56 rfl ?_
  refine j_bipush dd_M_sheet_58 rfl (inRd rfl) ?_
  refine j_icmp_ge (tgt := 82) dd_M_sheet_60 (by decide) (fun c => ?_) (fun c => ?_)
  · have h := h.1 c
    refine j_iconst dd_M_sheet_82 (inRd rfl) ?_
    exact j_iret dd_M_sheet_83 rfl h
  · have h := h.2 c
    refine j_aload_n (j := 0) dd_M_sheet_63 rfl rfl ?_
    refine gf_20_27 dd_M_sheet_64 wd_875 ?_
    refine j_bipush dd_M_sheet_67 rfl (inRd rfl) ?_
    refine j_iload_n (j := 1) dd_M_sheet_69 rfl rfl ?_
    refine j_imul dd_M_sheet_70 ?_
    refine j_iload (j := 4) dd_M_sheet_71 rfl ?_
    refine j_iadd dd_M_sheet_73 ?_
    refine j_iconst dd_M_sheet_74 (inRd rfl) ?_
    refine st_33 dd_M_sheet_75 h.1 (fun M1 eM1 => ?_)
    have h := h.2
    have h := h M1 eM1
    refine j_iincN dd_M_sheet_76 rfl rfl (fun a2 ea2 => ?_)
    have h := h a2 ea2
    refine j_goto (tgt := 56) dd_M_sheet_79 (by decide) ?_
    exact j_jump h (jsub_c rfl (jsub_c rfl (jsub_c rfl jsub_0)))
theorem vc_M_lay {E : EE} {Q : Int → JM → Prop} (x1 : Int) (x2 : Int) (x3 : Int) (M : JM) (h : JC E mm_M_in [vL x1, vL 0, vL 3] M (fun a2 M1 => ((a2 ≠ 0 → (0 ≤ x1 ∧ x1 < 4) ∧ ((M1 31 0 x1.toNat ≠ (-4) → (0 ≤ x1 ∧ x1 < 4) ∧ JC E mm_M_in [vL x2, vL 0, vL (w32 (M1 32 0 x1.toNat - 1))] M1 (fun a4 M3 => ((a4 ≠ 0 → (0 ≤ x1 ∧ x1 < 4) ∧ ((M3 31 0 x1.toNat ≠ 0 → (0 ≤ x1 ∧ x1 < 4) ∧ ((M3 31 0 x1.toNat ≠ 1 → (0 ≤ w32 (w32 (40 * x1) + x2) ∧ w32 (w32 (40 * x1) + x2) < 160) ∧ ∀ M5 : JM, M5 = pt M3 33 0 ((w32 (w32 (40 * x1) + x2)).toNat) x3 → Q 1 M5) ∧ (M3 31 0 x1.toNat = 1 → (0 ≤ w32 (w32 (40 * x1) + x2) ∧ w32 (w32 (40 * x1) + x2) < 160) ∧ ∀ M6 : JM, M6 = pt M3 33 0 ((w32 (w32 (40 * x1) + x2)).toNat) (shr32 (shl32 x3 16) 16) → Q 1 M6))) ∧ (M3 31 0 x1.toNat = 0 → (0 ≤ w32 (w32 (40 * x1) + x2) ∧ w32 (w32 (40 * x1) + x2) < 160) ∧ ∀ M7 : JM, M7 = pt M3 33 0 ((w32 (w32 (40 * x1) + x2)).toNat) (shr32 (shl32 x3 24) 24) → Q 1 M7))) ∧ (a4 = 0 → Q (-12) M3)))) ∧ (M1 31 0 x1.toNat = (-4) → Q (-11) M1))) ∧ (a2 = 0 → Q (-1) M1)))) : JC E mm_M_lay [vR 20 0, vI x1, vI x2, vI x3] M Q := by
  refine j_entry (L0 := [(0, vR 20 0), (1, vI x1), (2, vI x2), (3, vI x3)]) pn_M (Nat.le_of_ble_eq_true rfl) rfl ?_
  refine j_iload_n (j := 1) dd_M_lay_0 rfl rfl ?_
  refine j_i2l dd_M_lay_1 ?_
  refine j_lconst (x := 0) dd_M_lay_2 rfl (inLd rfl) ?_
  refine j_ldc2 (x := 3) dd_M_lay_3 wd_1026 rfl (inLd rfl) ?_
  refine j_cSI (mm' := mm_M_in) (As := [vL x1, vL 0, vL 3]) (rest := []) h dd_M_lay_6 (ws4 wd_941 wd_942 wd_70 wd_943) nk_M_in (rok rfl) (Nat.le_of_ble_eq_true rfl) (fun _ => rfl) (fun a2 M1 h => ?_)
  refine j_if_ne (tgt := 14) dd_M_lay_9 (by decide) (fun c => ?_) (fun c => ?_)
  · have h := h.1 c
    refine j_aload_n (j := 0) dd_M_lay_14 rfl rfl ?_
    refine gf_20_25 dd_M_lay_15 wd_873 ?_
    refine j_iload_n (j := 1) dd_M_lay_18 rfl rfl ?_
    refine ld_31 dd_M_lay_19 h.1 ?_
    have h := h.2
    refine j_bipush dd_M_lay_20 rfl (inRd rfl) ?_
    refine j_icmp_ne (tgt := 28) dd_M_lay_22 (by decide) (fun c => ?_) (fun c => ?_)
    · have h := h.1 c
      refine j_iload_n (j := 2) dd_M_lay_28 rfl rfl ?_
      refine j_i2l dd_M_lay_29 ?_
      refine j_lconst (x := 0) dd_M_lay_30 rfl (inLd rfl) ?_
      refine j_aload_n (j := 0) dd_M_lay_31 rfl rfl ?_
      refine gf_20_26 dd_M_lay_32 wd_874 ?_
      refine j_iload_n (j := 1) dd_M_lay_35 rfl rfl ?_
      refine ld_32 dd_M_lay_36 h.1 ?_
      have h := h.2
      refine j_iconst dd_M_lay_37 (inRd rfl) ?_
      refine j_isub dd_M_lay_38 ?_
      refine j_i2l dd_M_lay_39 ?_
      refine j_cSI (mm' := mm_M_in) (As := [vL x2, vL 0, vL (w32 (M1 32 0 x1.toNat - 1))]) (rest := []) h dd_M_lay_40 (ws4 wd_941 wd_942 wd_70 wd_943) nk_M_in (rok rfl) (Nat.le_of_ble_eq_true rfl) (fun _ => rfl) (fun a4 M3 h => ?_)
      refine j_if_ne (tgt := 49) dd_M_lay_43 (by decide) (fun c => ?_) (fun c => ?_)
      · have h := h.1 c
        refine j_aload_n (j := 0) dd_M_lay_49 rfl rfl ?_
        refine gf_20_27 dd_M_lay_50 wd_875 ?_
        refine j_bipush dd_M_lay_53 rfl (inRd rfl) ?_
        refine j_iload_n (j := 1) dd_M_lay_55 rfl rfl ?_
        refine j_imul dd_M_lay_56 ?_
        refine j_iload_n (j := 2) dd_M_lay_57 rfl rfl ?_
        refine j_iadd dd_M_lay_58 ?_
        refine j_aload_n (j := 0) dd_M_lay_59 rfl rfl ?_
        refine gf_20_25 dd_M_lay_60 wd_873 ?_
        refine j_iload_n (j := 1) dd_M_lay_63 rfl rfl ?_
        refine ld_31 dd_M_lay_64 h.1 ?_
        have h := h.2
        refine j_if_ne (tgt := 78) dd_M_lay_65 (by decide) (fun c => ?_) (fun c => ?_)
        · have h := h.1 c
          refine j_aload_n (j := 0) dd_M_lay_78 rfl rfl ?_
          refine gf_20_25 dd_M_lay_79 wd_873 ?_
          refine j_iload_n (j := 1) dd_M_lay_82 rfl rfl ?_
          refine ld_31 dd_M_lay_83 h.1 ?_
          have h := h.2
          refine j_iconst dd_M_lay_84 (inRd rfl) ?_
          refine j_icmp_ne (tgt := 98) dd_M_lay_85 (by decide) (fun c => ?_) (fun c => ?_)
          · have h := h.1 c
            refine j_iload_n (j := 3) dd_M_lay_98 rfl rfl ?_
            refine st_33 dd_M_lay_99 h.1 (fun M5 eM5 => ?_)
            have h := h.2
            have h := h M5 eM5
            refine j_iconst dd_M_lay_100 (inRd rfl) ?_
            exact j_iret dd_M_lay_101 rfl h
          · have h := h.2 c
            refine j_iload_n (j := 3) dd_M_lay_88 rfl rfl ?_
            refine j_bipush dd_M_lay_89 rfl (inRd rfl) ?_
            refine j_ishl dd_M_lay_91 ?_
            refine j_bipush dd_M_lay_92 rfl (inRd rfl) ?_
            refine j_ishr dd_M_lay_94 ?_
            refine j_goto (tgt := 99) dd_M_lay_95 (by decide) ?_
            refine st_33 dd_M_lay_99 h.1 (fun M6 eM6 => ?_)
            have h := h.2
            have h := h M6 eM6
            refine j_iconst dd_M_lay_100 (inRd rfl) ?_
            exact j_iret dd_M_lay_101 rfl h
        · have h := h.2 c
          refine j_iload_n (j := 3) dd_M_lay_68 rfl rfl ?_
          refine j_bipush dd_M_lay_69 rfl (inRd rfl) ?_
          refine j_ishl dd_M_lay_71 ?_
          refine j_bipush dd_M_lay_72 rfl (inRd rfl) ?_
          refine j_ishr dd_M_lay_74 ?_
          refine j_goto (tgt := 99) dd_M_lay_75 (by decide) ?_
          refine st_33 dd_M_lay_99 h.1 (fun M7 eM7 => ?_)
          have h := h.2
          have h := h M7 eM7
          refine j_iconst dd_M_lay_100 (inRd rfl) ?_
          exact j_iret dd_M_lay_101 rfl h
      · have h := h.2 c
        refine j_bipush dd_M_lay_46 rfl (inRd rfl) ?_
        exact j_iret dd_M_lay_48 rfl h
    · have h := h.2 c
      refine j_bipush dd_M_lay_25 rfl (inRd rfl) ?_
      exact j_iret dd_M_lay_27 rfl h
  · have h := h.2 c
    refine j_iconst dd_M_lay_12 (inRd rfl) ?_
    exact j_iret dd_M_lay_13 rfl h
theorem vc_M_read {E : EE} {Q : Int → JM → Prop} (x1 : Int) (x2 : Int) (x3 : Int) (x4 : Int) (M : JM) (h : JC E mm_M_in [vL x1, vL 0, vL 3] M (fun a2 M1 => ((a2 = 0 → Q (-1) M1) ∧ (a2 ≠ 0 → JC E mm_M_in [vL x2, vL 0, vL 2] M1 (fun a4 M3 => ((a4 = 0 → Q (-1) M3) ∧ (a4 ≠ 0 → JC E mm_M_in [vL x4, vL 0, vL 13] M3 (fun a6 M5 => ((a6 ≠ 0 → JC E mm_M_copies [vR 20 0, vI 0, vI 132] M5 (fun a8 M7 => JG E mm_M_read Q 56 [(0, vR 20 0), (1, vI x1), (2, vI x2), (3, vI x3), (4, vI x4), (5, vI 0), (6, vI 0), (7, vI 0)] [] M7)) ∧ (a6 = 0 → Q (-1) M5)))))))))) : JC E mm_M_read [vR 20 0, vI x1, vI x2, vI x3, vI x4] M Q := by
  refine j_entry (L0 := [(0, vR 20 0), (1, vI x1), (2, vI x2), (3, vI x3), (4, vI x4)]) pn_M (Nat.le_of_ble_eq_true rfl) rfl ?_
  refine j_iload_n (j := 1) dd_M_read_0 rfl rfl ?_
  refine j_i2l dd_M_read_1 ?_
  refine j_lconst (x := 0) dd_M_read_2 rfl (inLd rfl) ?_
  refine j_ldc2 (x := 3) dd_M_read_3 wd_1026 rfl (inLd rfl) ?_
  refine j_cSI (mm' := mm_M_in) (As := [vL x1, vL 0, vL 3]) (rest := []) h dd_M_read_6 (ws4 wd_941 wd_942 wd_70 wd_943) nk_M_in (rok rfl) (Nat.le_of_ble_eq_true rfl) (fun _ => rfl) (fun a2 M1 h => ?_)
  refine j_if_eq (tgt := 37) dd_M_read_9 (by decide) (fun c => ?_) (fun c => ?_)
  · have h := h.1 c
    refine j_iconst dd_M_read_37 (inRd rfl) ?_
    exact j_iret dd_M_read_38 rfl h
  · have h := h.2 c
    refine j_iload_n (j := 2) dd_M_read_12 rfl rfl ?_
    refine j_i2l dd_M_read_13 ?_
    refine j_lconst (x := 0) dd_M_read_14 rfl (inLd rfl) ?_
    refine j_ldc2 (x := 2) dd_M_read_15 wd_1129 rfl (inLd rfl) ?_
    refine j_cSI (mm' := mm_M_in) (As := [vL x2, vL 0, vL 2]) (rest := []) h dd_M_read_18 (ws4 wd_941 wd_942 wd_70 wd_943) nk_M_in (rok rfl) (Nat.le_of_ble_eq_true rfl) (fun _ => rfl) (fun a4 M3 h => ?_)
    refine j_if_eq (tgt := 37) dd_M_read_21 (by decide) (fun c => ?_) (fun c => ?_)
    · have h := h.1 c
      refine j_iconst dd_M_read_37 (inRd rfl) ?_
      exact j_iret dd_M_read_38 rfl h
    · have h := h.2 c
      refine j_iload (j := 4) dd_M_read_24 rfl ?_
      refine j_i2l dd_M_read_26 ?_
      refine j_lconst (x := 0) dd_M_read_27 rfl (inLd rfl) ?_
      refine j_ldc2 (x := 13) dd_M_read_28 wd_1232 rfl (inLd rfl) ?_
      refine j_cSI (mm' := mm_M_in) (As := [vL x4, vL 0, vL 13]) (rest := []) h dd_M_read_31 (ws4 wd_941 wd_942 wd_70 wd_943) nk_M_in (rok rfl) (Nat.le_of_ble_eq_true rfl) (fun _ => rfl) (fun a6 M5 h => ?_)
      refine j_if_ne (tgt := 39) dd_M_read_34 (by decide) (fun c => ?_) (fun c => ?_)
      · have h := h.1 c
        refine j_aload_n (j := 0) dd_M_read_39 rfl rfl ?_
        refine j_iconst dd_M_read_40 (inRd rfl) ?_
        refine j_sipush dd_M_read_41 rfl (inRd rfl) ?_
        refine j_cVV (mm' := mm_M_copies) (t := 20) (i := 0) (As := [vI 0, vI 132]) (rest := []) h dd_M_read_44 (ws5 wd_1031 wd_1033 wd_48 wd_70 wd_1034) nk_M_copies (rok rfl) (by unfold isW; omega) ⟨_, ce_20 _⟩ rfl (Nat.le_of_ble_eq_true rfl) (fun _ => rfl) (fun a8 M7 h => ?_)
        refine j_iconst dd_M_read_47 (inRd rfl) ?_
        refine j_istore (j := 5) dd_M_read_48 (by decide) rfl ?_
        refine j_iconst dd_M_read_50 (inRd rfl) ?_
        refine j_istore (j := 6) dd_M_read_51 (by decide) rfl ?_
        refine j_iconst dd_M_read_53 (inRd rfl) ?_
        refine j_istore (j := 7) dd_M_read_54 (by decide) rfl ?_
        exact j_jump h (jsub_c rfl (jsub_c rfl (jsub_c rfl (jsub_c rfl (jsub_c rfl (jsub_c rfl (jsub_c rfl (jsub_c rfl jsub_0))))))))
      · have h := h.2 c
        refine j_iconst dd_M_read_37 (inRd rfl) ?_
        exact j_iret dd_M_read_38 rfl h
theorem vc_M_read_56 {E : EE} {Q : Int → JM → Prop} (x1 : Int) (x2 : Int) (x3 : Int) (x4 : Int) (l5 : Int) (l6 : Int) (l7 : Int) (M : JM) (h : ((w32 (3 * x4) ≤ l7 → ∀ M1 : JM, M1 = pt M 20 0 28 l5 → Q l6 M1) ∧ (l7 < w32 (3 * x4) → ((l5 ≠ 0 → ∀ M2 : JM, M2 = pt M 20 0 28 l5 → Q l6 M2) ∧ (l5 = 0 → (0 ≤ x1 ∧ x1 < 4) ∧ ((M 31 0 x1.toNat ≠ (-4) → (0 ≤ x1 ∧ x1 < 4) ∧ ((M 31 0 x1.toNat = x2 → (0 ≤ x1 ∧ x1 < 4) ∧ JC E mm_M_in [vL (w64 (x3 + l7)), vL 0, vL (w32 (M 32 0 x1.toNat - 1))] M (fun a4 M3 => ((a4 ≠ 0 → JG E mm_M_read Q 126 [(0, vR 20 0), (1, vI x1), (2, vI x2), (3, vI x3), (4, vI x4), (6, vI l6), (7, vI l7)] [vI 0] M3) ∧ (a4 = 0 → JG E mm_M_read Q 126 [(0, vR 20 0), (1, vI x1), (2, vI x2), (3, vI x3), (4, vI x4), (6, vI l6), (7, vI l7)] [vI 2] M3)))) ∧ (M 31 0 x1.toNat ≠ x2 → JG E mm_M_read Q 126 [(0, vR 20 0), (1, vI x1), (2, vI x2), (3, vI x3), (4, vI x4), (6, vI l6), (7, vI l7)] [vI 3] M))) ∧ (M 31 0 x1.toNat = (-4) → JG E mm_M_read Q 126 [(0, vR 20 0), (1, vI x1), (2, vI x2), (3, vI x3), (4, vI x4), (6, vI l6), (7, vI l7)] [vI 1] M))))))) : JG E mm_M_read Q 56 [(0, vR 20 0), (1, vI x1), (2, vI x2), (3, vI x3), (4, vI x4), (5, vI l5), (6, vI l6), (7, vI l7)] [] M := by
  refine j_iload (j := 7) dd_M_read_56 rfl ?_
  refine j_iconst dd_M_read_58 (inRd rfl) ?_
  refine j_iload (j := 4) dd_M_read_59 rfl ?_
  refine j_imul dd_M_read_61 ?_
  refine j_icmp_ge (tgt := 207) dd_M_read_62 (by decide) (fun c => ?_) (fun c => ?_)
  · have h := h.1 c
    refine j_aload_n (j := 0) dd_M_read_207 rfl rfl ?_
    refine j_iload (j := 5) dd_M_read_208 rfl ?_
    refine pf_20_28 dd_M_read_210 wd_876 (fun M1 eM1 => ?_)
    have h := h M1 eM1
    refine j_iload (j := 6) dd_M_read_213 rfl ?_
    exact j_iret dd_M_read_215 rfl h
  · have h := h.2 c
    refine j_iload (j := 5) dd_M_read_65 rfl ?_
    refine j_if_ne (tgt := 207) dd_M_read_67 (by decide) (fun c => ?_) (fun c => ?_)
    · have h := h.1 c
      refine j_aload_n (j := 0) dd_M_read_207 rfl rfl ?_
      refine j_iload (j := 5) dd_M_read_208 rfl ?_
      refine pf_20_28 dd_M_read_210 wd_876 (fun M2 eM2 => ?_)
      have h := h M2 eM2
      refine j_iload (j := 6) dd_M_read_213 rfl ?_
      exact j_iret dd_M_read_215 rfl h
    · have h := h.2 c
      refine j_aload_n (j := 0) dd_M_read_70 rfl rfl ?_
      refine gf_20_25 dd_M_read_71 wd_873 ?_
      refine j_iload_n (j := 1) dd_M_read_74 rfl rfl ?_
      refine ld_31 dd_M_read_75 h.1 ?_
      have h := h.2
      refine j_bipush dd_M_read_76 rfl (inRd rfl) ?_
      refine j_icmp_ne (tgt := 85) dd_M_read_78 (by decide) (fun c => ?_) (fun c => ?_)
      · have h := h.1 c
        refine j_aload_n (j := 0) dd_M_read_85 rfl rfl ?_
        refine gf_20_25 dd_M_read_86 wd_873 ?_
        refine j_iload_n (j := 1) dd_M_read_89 rfl rfl ?_
        refine ld_31 dd_M_read_90 h.1 ?_
        have h := h.2
        refine j_iload_n (j := 2) dd_M_read_91 rfl rfl ?_
        refine j_icmp_eq (tgt := 99) dd_M_read_92 (by decide) (fun c => ?_) (fun c => ?_)
        · have h := h.1 c
          refine j_iload_n (j := 3) dd_M_read_99 rfl rfl ?_
          refine j_i2l dd_M_read_100 ?_
          refine j_iload (j := 7) dd_M_read_101 rfl ?_
          refine j_i2l dd_M_read_103 ?_
          refine j_ladd dd_M_read_104 ?_
          refine j_lconst (x := 0) dd_M_read_105 rfl (inLd rfl) ?_
          refine j_aload_n (j := 0) dd_M_read_106 rfl rfl ?_
          refine gf_20_26 dd_M_read_107 wd_874 ?_
          refine j_iload_n (j := 1) dd_M_read_110 rfl rfl ?_
          refine ld_32 dd_M_read_111 h.1 ?_
          have h := h.2
          refine j_iconst dd_M_read_112 (inRd rfl) ?_
          refine j_isub dd_M_read_113 ?_
          refine j_i2l dd_M_read_114 ?_
          refine j_cSI (mm' := mm_M_in) (As := [vL (w64 (x3 + l7)), vL 0, vL (w32 (M 32 0 x1.toNat - 1))]) (rest := []) h dd_M_read_115 (ws4 wd_941 wd_942 wd_70 wd_943) nk_M_in (rok rfl) (Nat.le_of_ble_eq_true rfl) (fun _ => rfl) (fun a4 M3 h => ?_)
          refine j_if_ne (tgt := 125) dd_M_read_118 (by decide) (fun c => ?_) (fun c => ?_)
          · have h := h.1 c
            refine j_iconst dd_M_read_125 (inRd rfl) ?_
            exact j_jump h (jsub_c rfl (jsub_c rfl (jsub_c rfl (jsub_c rfl (jsub_c rfl (jsub_c rfl (jsub_c rfl jsub_0)))))))
          · have h := h.2 c
            refine j_iconst dd_M_read_121 (inRd rfl) ?_
            refine j_goto (tgt := 126) dd_M_read_122 (by decide) ?_
            exact j_jump h (jsub_c rfl (jsub_c rfl (jsub_c rfl (jsub_c rfl (jsub_c rfl (jsub_c rfl (jsub_c rfl jsub_0)))))))
        · have h := h.2 c
          refine j_iconst dd_M_read_95 (inRd rfl) ?_
          refine j_goto (tgt := 126) dd_M_read_96 (by decide) ?_
          exact j_jump h (jsub_c rfl (jsub_c rfl (jsub_c rfl (jsub_c rfl (jsub_c rfl (jsub_c rfl (jsub_c rfl jsub_0)))))))
      · have h := h.2 c
        refine j_iconst dd_M_read_81 (inRd rfl) ?_
        refine j_goto (tgt := 126) dd_M_read_82 (by decide) ?_
        exact j_jump h (jsub_c rfl (jsub_c rfl (jsub_c rfl (jsub_c rfl (jsub_c rfl (jsub_c rfl (jsub_c rfl jsub_0)))))))
theorem vc_M_read_126 {E : EE} {Q : Int → JM → Prop} (x1 : Int) (x2 : Int) (x3 : Int) (x4 : Int) (l6 : Int) (l7 : Int) (s0 : Int) (M : JM) (h : ((s0 ≠ 0 → ∀ a1 : Int, a1 = w32 (l7 + 1) → JG E mm_M_read Q 56 [(0, vR 20 0), (1, vI x1), (2, vI x2), (3, vI x3), (4, vI x4), (5, vI s0), (6, vI l6), (7, vI a1)] [] M) ∧ (s0 = 0 → ((w32 (Int.tmod l7 3) ≠ 2 → ∀ a2 : Int, a2 = w32 (l7 + 1) → JG E mm_M_read Q 56 [(0, vR 20 0), (1, vI x1), (2, vI x2), (3, vI x3), (4, vI x4), (5, vI s0), (6, vI l6), (7, vI a2)] [] M) ∧ (w32 (Int.tmod l7 3) = 2 → ∀ a3 : Int, a3 = w32 (w32 (w32 (40 * x1) + x3) + l7) → (0 ≤ w32 (a3 - 2) ∧ w32 (a3 - 2) < 160) ∧ (0 ≤ w32 (a3 - 1) ∧ w32 (a3 - 1) < 160) ∧ (0 ≤ a3 ∧ a3 < 160) ∧ JC E mm_M_stocks [vR 20 0, vI (M 33 0 ((w32 (a3 - 2)).toNat)), vI (M 33 0 ((w32 (a3 - 1)).toNat)), vI (M 33 0 a3.toNat)] M (fun a5 M4 => ((0 ≤ a5 → ∀ a6 : Int, a6 = w32 (l6 + 1) → ∀ a7 : Int, a7 = w32 (l7 + 1) → JG E mm_M_read Q 56 [(0, vR 20 0), (1, vI x1), (2, vI x2), (3, vI x3), (4, vI x4), (5, vI s0), (6, vI a6), (7, vI a7)] [] M4) ∧ (a5 < 0 → JC E mm_M_copies [vR 20 0, vI 132, vI 0] M4 (fun a9 M8 => Q (w32 ((-20) - l6)) M8))))))))) : JG E mm_M_read Q 126 [(0, vR 20 0), (1, vI x1), (2, vI x2), (3, vI x3), (4, vI x4), (6, vI l6), (7, vI l7)] [vI s0] M := by
  refine j_istore (j := 5) dd_M_read_126 (by decide) rfl ?_
  refine j_iload (j := 5) dd_M_read_128 rfl ?_
  refine j_if_ne (tgt := 201) dd_M_read_130 (by decide) (fun c => ?_) (fun c => ?_)
  · have h := h.1 c
    refine j_iincN dd_M_read_201 rfl rfl (fun a1 ea1 => ?_)
    have h := h a1 ea1
    refine j_goto (tgt := 56) dd_M_read_204 (by decide) ?_
    exact j_jump h (jsub_c rfl (jsub_c rfl (jsub_c rfl (jsub_c rfl (jsub_c rfl (jsub_c rfl (jsub_c rfl (jsub_c rfl jsub_0))))))))
  · have h := h.2 c
    refine j_iload (j := 7) dd_M_read_133 rfl ?_
    refine j_iconst dd_M_read_135 (inRd rfl) ?_
    refine j_irem dd_M_read_136 (by decide) ?_
    refine j_iconst dd_M_read_137 (inRd rfl) ?_
    refine j_icmp_ne (tgt := 201) dd_M_read_138 (by decide) (fun c => ?_) (fun c => ?_)
    · have h := h.1 c
      refine j_iincN dd_M_read_201 rfl rfl (fun a2 ea2 => ?_)
      have h := h a2 ea2
      refine j_goto (tgt := 56) dd_M_read_204 (by decide) ?_
      exact j_jump h (jsub_c rfl (jsub_c rfl (jsub_c rfl (jsub_c rfl (jsub_c rfl (jsub_c rfl (jsub_c rfl (jsub_c rfl jsub_0))))))))
    · have h := h.2 c
      refine j_bipush dd_M_read_141 rfl (inRd rfl) ?_
      refine j_iload_n (j := 1) dd_M_read_143 rfl rfl ?_
      refine j_imul dd_M_read_144 ?_
      refine j_iload_n (j := 3) dd_M_read_145 rfl rfl ?_
      refine j_iadd dd_M_read_146 ?_
      refine j_iload (j := 7) dd_M_read_147 rfl ?_
      refine j_iadd dd_M_read_149 ?_
      refine j_topI (fun a3 ea3 => ?_)
      have h := h a3 ea3
      refine j_istore (j := 8) dd_M_read_150 (by decide) rfl ?_
      refine j_aload_n (j := 0) dd_M_read_152 rfl rfl ?_
      refine j_aload_n (j := 0) dd_M_read_153 rfl rfl ?_
      refine gf_20_27 dd_M_read_154 wd_875 ?_
      refine j_iload (j := 8) dd_M_read_157 rfl ?_
      refine j_iconst dd_M_read_159 (inRd rfl) ?_
      refine j_isub dd_M_read_160 ?_
      refine ld_33 dd_M_read_161 h.1 ?_
      have h := h.2
      refine j_aload_n (j := 0) dd_M_read_162 rfl rfl ?_
      refine gf_20_27 dd_M_read_163 wd_875 ?_
      refine j_iload (j := 8) dd_M_read_166 rfl ?_
      refine j_iconst dd_M_read_168 (inRd rfl) ?_
      refine j_isub dd_M_read_169 ?_
      refine ld_33 dd_M_read_170 h.1 ?_
      have h := h.2
      refine j_aload_n (j := 0) dd_M_read_171 rfl rfl ?_
      refine gf_20_27 dd_M_read_172 wd_875 ?_
      refine j_iload (j := 8) dd_M_read_175 rfl ?_
      refine ld_33 dd_M_read_177 h.1 ?_
      have h := h.2
      refine j_cVI (mm' := mm_M_stocks) (t := 20) (i := 0) (As := [vI (M 33 0 ((w32 (a3 - 2)).toNat)), vI (M 33 0 ((w32 (a3 - 1)).toNat)), vI (M 33 0 a3.toNat)]) (rest := []) h dd_M_read_178 (ws5 wd_1070 wd_1072 wd_52 wd_70 wd_1073) nk_M_stocks (rok rfl) (by unfold isW; omega) ⟨_, ce_20 _⟩ rfl (Nat.le_of_ble_eq_true rfl) (fun _ => rfl) (fun a5 M4 h => ?_)
      refine j_if_ge (tgt := 198) dd_M_read_181 (by decide) (fun c => ?_) (fun c => ?_)
      · have h := h.1 c
        refine j_iincN dd_M_read_198 rfl rfl (fun a6 ea6 => ?_)
        have h := h a6 ea6
        refine j_iincN dd_M_read_201 rfl rfl (fun a7 ea7 => ?_)
        have h := h a7 ea7
        refine j_goto (tgt := 56) dd_M_read_204 (by decide) ?_
        exact j_jump h (jsub_c rfl (jsub_c rfl (jsub_c rfl (jsub_c rfl (jsub_c rfl (jsub_c rfl (jsub_c rfl (jsub_c rfl jsub_0))))))))
      · have h := h.2 c
        refine j_aload_n (j := 0) dd_M_read_184 rfl rfl ?_
        refine j_sipush dd_M_read_185 rfl (inRd rfl) ?_
        refine j_iconst dd_M_read_188 (inRd rfl) ?_
        refine j_cVV (mm' := mm_M_copies) (t := 20) (i := 0) (As := [vI 132, vI 0]) (rest := []) h dd_M_read_189 (ws5 wd_1031 wd_1033 wd_48 wd_70 wd_1034) nk_M_copies (rok rfl) (by unfold isW; omega) ⟨_, ce_20 _⟩ rfl (Nat.le_of_ble_eq_true rfl) (fun _ => rfl) (fun a9 M8 h => ?_)
        refine j_bipush dd_M_read_192 rfl (inRd rfl) ?_
        refine j_iload (j := 6) dd_M_read_194 rfl ?_
        refine j_isub dd_M_read_196 ?_
        exact j_iret dd_M_read_197 rfl h
theorem vc_M_torn {E : EE} {Q : Int → JM → Prop}  (M : JM) (h : Q (M 20 0 28) M) : JC E mm_M_torn [vR 20 0] M Q := by
  refine j_entry (L0 := [(0, vR 20 0)]) pn_M (Nat.le_of_ble_eq_true rfl) rfl ?_
  refine j_aload_n (j := 0) dd_M_torn_0 rfl rfl ?_
  refine gf_20_28 dd_M_torn_1 wd_876 ?_
  exact j_iret dd_M_torn_4 rfl h
theorem vc_M_count {E : EE} {Q : Int → JM → Prop} (x1 : Int) (M : JM) (h : JG E mm_M_count Q 7 [(0, vR 20 0), (1, vI x1), (2, vI 0), (3, vI 0), (4, vI 0)] [] M) : JC E mm_M_count [vR 20 0, vI x1] M Q := by
  refine j_entry (L0 := [(0, vR 20 0), (1, vI x1)]) pn_M (Nat.le_of_ble_eq_true rfl) rfl ?_
  refine j_iconst dd_M_count_0 (inRd rfl) ?_
  refine j_istore_n (j := 2) dd_M_count_1 rfl (by decide) rfl ?_
  refine j_iconst dd_M_count_2 (inRd rfl) ?_
  refine j_istore_n (j := 3) dd_M_count_3 rfl (by decide) rfl ?_
  refine j_iconst dd_M_count_4 (inRd rfl) ?_
  refine j_istore (j := 4) dd_M_count_5 (by decide) rfl ?_
  exact j_jump h (jsub_c rfl (jsub_c rfl (jsub_c rfl (jsub_c rfl (jsub_c rfl jsub_0)))))
theorem vc_M_count_7 {E : EE} {Q : Int → JM → Prop} (x1 : Int) (l2 : Int) (l3 : Int) (l4 : Int) (M : JM) (h : ((M 21 0 32 ≤ l4 → JG E mm_M_count Q 41 [(0, vR 20 0), (1, vI x1), (2, vI l2), (3, vI l3), (4, vI 0)] [] M) ∧ (l4 < M 21 0 32 → (0 ≤ w32 (16 + l4) ∧ w32 (16 + l4) < 264) ∧ ∀ a1 : Int, a1 = w32 (l2 + (M 21 0 ((w32 (16 + l4)).toNat))) → ∀ a2 : Int, a2 = w32 (l4 + 1) → JG E mm_M_count Q 7 [(0, vR 20 0), (1, vI x1), (2, vI a1), (3, vI l3), (4, vI a2)] [] M))) : JG E mm_M_count Q 7 [(0, vR 20 0), (1, vI x1), (2, vI l2), (3, vI l3), (4, vI l4)] [] M := by
  refine j_iload (j := 4) dd_M_count_7 rfl ?_
  refine j_aload_n (j := 0) dd_M_count_9 rfl rfl ?_
  refine gf_20_0 dd_M_count_10 wd_848 ?_
  refine j_bipush dd_M_count_13 rfl (inRd rfl) ?_
  refine ld_21 dd_M_count_15 ⟨by decide, by decide⟩ ?_
  refine j_icmp_ge (tgt := 38) dd_M_count_16 (by decide) (fun c => ?_) (fun c => ?_)
  · have h := h.1 c
    refine j_iconst dd_M_count_38 (inRd rfl) ?_
    refine j_istore (j := 4) dd_M_count_39 (by decide) rfl ?_
    exact j_jump h (jsub_c rfl (jsub_c rfl (jsub_c rfl (jsub_c rfl (jsub_c rfl jsub_0)))))
  · have h := h.2 c
    refine j_iload_n (j := 2) dd_M_count_19 rfl rfl ?_
    refine j_aload_n (j := 0) dd_M_count_20 rfl rfl ?_
    refine gf_20_0 dd_M_count_21 wd_848 ?_
    refine j_bipush dd_M_count_24 rfl (inRd rfl) ?_
    refine j_iload (j := 4) dd_M_count_26 rfl ?_
    refine j_iadd dd_M_count_28 ?_
    refine ld_21 dd_M_count_29 h.1 ?_
    have h := h.2
    refine j_iadd dd_M_count_30 ?_
    refine j_topI (fun a1 ea1 => ?_)
    have h := h a1 ea1
    refine j_istore_n (j := 2) dd_M_count_31 rfl (by decide) rfl ?_
    refine j_iincN dd_M_count_32 rfl rfl (fun a2 ea2 => ?_)
    have h := h a2 ea2
    refine j_goto (tgt := 7) dd_M_count_35 (by decide) ?_
    exact j_jump h (jsub_c rfl (jsub_c rfl (jsub_c rfl (jsub_c rfl (jsub_c rfl jsub_0)))))
theorem vc_M_count_41 {E : EE} {Q : Int → JM → Prop} (x1 : Int) (l2 : Int) (l3 : Int) (l4 : Int) (M : JM) (h : ((M 20 0 1 ≤ l4 → (((x1 < 0 ∨ 5 < x1) → Q (-1) M) ∧ (x1 = 0 → Q (M 20 0 22) M) ∧ (x1 = 1 → ((M 30 0 0 = 0 → JG E mm_M_count Q 127 [(0, vR 20 0)] [vI 0] M) ∧ (M 30 0 0 ≠ 0 → JG E mm_M_count Q 127 [(0, vR 20 0)] [vI 1] M))) ∧ (x1 = 2 → Q (M 20 0 6) M) ∧ (x1 = 3 → ((M 31 0 0 ≠ (-4) → Q (M 32 0 0) M) ∧ (M 31 0 0 = (-4) → Q (-4) M))) ∧ (x1 = 4 → Q l2 M) ∧ (x1 = 5 → Q l3 M))) ∧ (l4 < M 20 0 1 → (0 ≤ w32 (33 + l4) ∧ w32 (33 + l4) < 264) ∧ ∀ a1 : Int, a1 = w32 (l3 + (M 21 0 ((w32 (33 + l4)).toNat))) → ∀ a2 : Int, a2 = w32 (l4 + 1) → JG E mm_M_count Q 41 [(0, vR 20 0), (1, vI x1), (2, vI l2), (3, vI a1), (4, vI a2)] [] M))) : JG E mm_M_count Q 41 [(0, vR 20 0), (1, vI x1), (2, vI l2), (3, vI l3), (4, vI l4)] [] M := by
  refine j_iload (j := 4) dd_M_count_41 rfl ?_
  refine j_aload_n (j := 0) dd_M_count_43 rfl rfl ?_
  refine gf_20_1 dd_M_count_44 wd_849 ?_
  refine j_icmp_ge (tgt := 69) dd_M_count_47 (by decide) (fun c => ?_) (fun c => ?_)
  · have h := h.1 c
    refine j_iload_n (j := 1) dd_M_count_69 rfl rfl ?_
    have hc : (x1 < 0 ∨ 5 < x1) ∨ x1 = 0 ∨ x1 = 1 ∨ x1 = 2 ∨ x1 = 3 ∨ x1 = 4 ∨ x1 = 5 := by omega
    rcases hc with hc | hc | hc | hc | hc | hc | hc
    · have h := h.1 hc
      refine j_tabOut (tgt := 175) dd_M_count_70 hc (by decide) ?_
      refine j_iconst dd_M_count_175 (inRd rfl) ?_
      exact j_iret dd_M_count_176 rfl h
    · have h := h.2.1 hc
      refine j_tabIn (tgt := 108) (off := 38) dd_M_count_70 (by omega) (by omega) (by rw [hc]; rfl) (by decide) ?_
      refine j_aload_n (j := 0) dd_M_count_108 rfl rfl ?_
      refine gf_20_22 dd_M_count_109 wd_870 ?_
      exact j_iret dd_M_count_112 rfl h
    · have h := h.2.2.1 hc
      refine j_tabIn (tgt := 113) (off := 43) dd_M_count_70 (by omega) (by omega) (by rw [hc]; rfl) (by decide) ?_
      refine j_aload_n (j := 0) dd_M_count_113 rfl rfl ?_
      refine gf_20_24 dd_M_count_114 wd_872 ?_
      refine j_iconst dd_M_count_117 (inRd rfl) ?_
      refine ld_30 dd_M_count_118 ⟨by decide, by decide⟩ ?_
      refine j_if_eq (tgt := 126) dd_M_count_119 (by decide) (fun c => ?_) (fun c => ?_)
      · have h := h.1 c
        refine j_iconst dd_M_count_126 (inRd rfl) ?_
        exact j_jump h (jsub_c rfl jsub_0)
      · have h := h.2 c
        refine j_iconst dd_M_count_122 (inRd rfl) ?_
        refine j_goto (tgt := 127) dd_M_count_123 (by decide) ?_
        exact j_jump h (jsub_c rfl jsub_0)
    · have h := h.2.2.2.1 hc
      refine j_tabIn (tgt := 143) (off := 73) dd_M_count_70 (by omega) (by omega) (by rw [hc]; rfl) (by decide) ?_
      refine j_aload_n (j := 0) dd_M_count_143 rfl rfl ?_
      refine gf_20_6 dd_M_count_144 wd_854 ?_
      exact j_iret dd_M_count_147 rfl h
    · have h := h.2.2.2.2.1 hc
      refine j_tabIn (tgt := 148) (off := 78) dd_M_count_70 (by omega) (by omega) (by rw [hc]; rfl) (by decide) ?_
      refine j_aload_n (j := 0) dd_M_count_148 rfl rfl ?_
      refine gf_20_25 dd_M_count_149 wd_873 ?_
      refine j_iconst dd_M_count_152 (inRd rfl) ?_
      refine ld_31 dd_M_count_153 ⟨by decide, by decide⟩ ?_
      refine j_bipush dd_M_count_154 rfl (inRd rfl) ?_
      refine j_icmp_ne (tgt := 164) dd_M_count_156 (by decide) (fun c => ?_) (fun c => ?_)
      · have h := h.1 c
        refine j_aload_n (j := 0) dd_M_count_164 rfl rfl ?_
        refine gf_20_26 dd_M_count_165 wd_874 ?_
        refine j_iconst dd_M_count_168 (inRd rfl) ?_
        refine ld_32 dd_M_count_169 ⟨by decide, by decide⟩ ?_
        exact j_iret dd_M_count_170 rfl h
      · have h := h.2 c
        refine j_bipush dd_M_count_159 rfl (inRd rfl) ?_
        refine j_goto (tgt := 170) dd_M_count_161 (by decide) ?_
        exact j_iret dd_M_count_170 rfl h
    · have h := h.2.2.2.2.2.1 hc
      refine j_tabIn (tgt := 171) (off := 101) dd_M_count_70 (by omega) (by omega) (by rw [hc]; rfl) (by decide) ?_
      refine j_iload_n (j := 2) dd_M_count_171 rfl rfl ?_
      exact j_iret dd_M_count_172 rfl h
    · have h := h.2.2.2.2.2.2 hc
      refine j_tabIn (tgt := 173) (off := 103) dd_M_count_70 (by omega) (by omega) (by rw [hc]; rfl) (by decide) ?_
      refine j_iload_n (j := 3) dd_M_count_173 rfl rfl ?_
      exact j_iret dd_M_count_174 rfl h
  · have h := h.2 c
    refine j_iload_n (j := 3) dd_M_count_50 rfl rfl ?_
    refine j_aload_n (j := 0) dd_M_count_51 rfl rfl ?_
    refine gf_20_0 dd_M_count_52 wd_848 ?_
    refine j_bipush dd_M_count_55 rfl (inRd rfl) ?_
    refine j_iload (j := 4) dd_M_count_57 rfl ?_
    refine j_iadd dd_M_count_59 ?_
    refine ld_21 dd_M_count_60 h.1 ?_
    have h := h.2
    refine j_iadd dd_M_count_61 ?_
    refine j_topI (fun a1 ea1 => ?_)
    have h := h a1 ea1
    refine j_istore_n (j := 3) dd_M_count_62 rfl (by decide) rfl ?_
    refine j_iincN dd_M_count_63 rfl rfl (fun a2 ea2 => ?_)
    have h := h a2 ea2
    refine j_goto (tgt := 41) dd_M_count_66 (by decide) ?_
    exact j_jump h (jsub_c rfl (jsub_c rfl (jsub_c rfl (jsub_c rfl (jsub_c rfl jsub_0)))))
theorem vc_M_count_127 {E : EE} {Q : Int → JM → Prop} (s0 : Int) (M : JM) (h : ((M 30 0 1 = 0 → Q (w32 (s0 + 0)) M) ∧ (M 30 0 1 ≠ 0 → Q (w32 (s0 + 1)) M))) : JG E mm_M_count Q 127 [(0, vR 20 0)] [vI s0] M := by
  refine j_aload_n (j := 0) dd_M_count_127 rfl rfl ?_
  refine gf_20_24 dd_M_count_128 wd_872 ?_
  refine j_iconst dd_M_count_131 (inRd rfl) ?_
  refine ld_30 dd_M_count_132 ⟨by decide, by decide⟩ ?_
  refine j_if_eq (tgt := 140) dd_M_count_133 (by decide) (fun c => ?_) (fun c => ?_)
  · have h := h.1 c
    refine j_iconst dd_M_count_140 (inRd rfl) ?_
    refine j_iadd dd_M_count_141 ?_
    exact j_iret dd_M_count_142 rfl h
  · have h := h.2 c
    refine j_iconst dd_M_count_136 (inRd rfl) ?_
    refine j_goto (tgt := 141) dd_M_count_137 (by decide) ?_
    refine j_iadd dd_M_count_141 ?_
    exact j_iret dd_M_count_142 rfl h

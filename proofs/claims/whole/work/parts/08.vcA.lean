/-! the steps of the methods, folded -/
theorem vc_G_become {E : EE} {Q : Int → JM → Prop} (g : Nat) (x1 : Int) (x2 : Int) (x3 : Int) (M : JM) (h : ∀ M1 : JM, M1 = pt M 1 g 0 x1 → ∀ M2 : JM, M2 = pt M1 1 g 1 x2 → ∀ M3 : JM, M3 = pt M2 1 g 2 x3 → JC E mm_G_heftByKind [vR 1 g] M3 (fun a5 M4 => ∀ M6 : JM, M6 = pt M4 1 g 3 a5 → JC E mm_G_paysByKind [vR 1 g] M6 (fun a8 M7 => ∀ M9 : JM, M9 = pt M7 1 g 4 a8 → Q 0 M9))) : JC E mm_G_become [vR 1 g, vI x1, vI x2, vI x3] M Q := by
  refine j_entry (L0 := [(0, vR 1 g), (1, vI x1), (2, vI x2), (3, vI x3)]) pn_G (Nat.le_of_ble_eq_true rfl) rfl ?_
  refine j_aload_n (j := 0) dd_G_become_0 rfl rfl ?_
  refine j_iload_n (j := 1) dd_G_become_1 rfl rfl ?_
  refine pf_1_0 dd_G_become_2 wd_100 (fun M1 eM1 => ?_)
  have h := h M1 eM1
  refine j_aload_n (j := 0) dd_G_become_5 rfl rfl ?_
  refine j_iload_n (j := 2) dd_G_become_6 rfl rfl ?_
  refine pf_1_1 dd_G_become_7 wd_102 (fun M2 eM2 => ?_)
  have h := h M2 eM2
  refine j_aload_n (j := 0) dd_G_become_10 rfl rfl ?_
  refine j_iload_n (j := 3) dd_G_become_11 rfl rfl ?_
  refine pf_1_2 dd_G_become_12 wd_104 (fun M3 eM3 => ?_)
  have h := h M3 eM3
  refine j_aload_n (j := 0) dd_G_become_15 rfl rfl ?_
  refine j_aload_n (j := 0) dd_G_become_16 rfl rfl ?_
  refine j_cVI (mm' := mm_G_heftByKind) (t := 1) (i := g) (As := []) (rest := [vR 1 g]) h dd_G_become_17 (ws5 wd_460 wd_462 wd_10 wd_65 wd_463) nk_G_heftByKind (rok rfl) (by unfold isW; omega) ⟨_, ce_1 _⟩ rfl (Nat.le_of_ble_eq_true rfl) (fun _ => rfl) (fun a5 M4 h => ?_)
  refine pf_1_3 dd_G_become_20 wd_107 (fun M6 eM6 => ?_)
  have h := h M6 eM6
  refine j_aload_n (j := 0) dd_G_become_23 rfl rfl ?_
  refine j_aload_n (j := 0) dd_G_become_24 rfl rfl ?_
  refine j_cVI (mm' := mm_G_paysByKind) (t := 1) (i := g) (As := []) (rest := [vR 1 g]) h dd_G_become_25 (ws5 wd_464 wd_466 wd_11 wd_65 wd_467) nk_G_paysByKind (rok rfl) (by unfold isW; omega) ⟨_, ce_1 _⟩ rfl (Nat.le_of_ble_eq_true rfl) (fun _ => rfl) (fun a8 M7 h => ?_)
  refine pf_1_4 dd_G_become_28 wd_110 (fun M9 eM9 => ?_)
  have h := h M9 eM9
  exact j_vret dd_G_become_31 rfl h
theorem vc_G_copyFrom {E : EE} {Q : Int → JM → Prop} (g : Nat) (r1 : Nat) (M : JM) (h : ∀ M1 : JM, M1 = pt M 1 g 0 (M 1 r1 0) → ∀ M2 : JM, M2 = pt M1 1 g 1 (M1 1 r1 1) → ∀ M3 : JM, M3 = pt M2 1 g 2 (M2 1 r1 2) → ∀ M4 : JM, M4 = pt M3 1 g 3 (M3 1 r1 3) → ∀ M5 : JM, M5 = pt M4 1 g 4 (M4 1 r1 4) → (M5 1 r1 5 = 0 ∨ M5 1 r1 5 = 1) ∧ ∀ M6 : JM, M6 = pt M5 1 g 5 (M5 1 r1 5) → Q 0 M6) : JC E mm_G_copyFrom [vR 1 g, vR 1 r1] M Q := by
  refine j_entry (L0 := [(0, vR 1 g), (1, vR 1 r1)]) pn_G (Nat.le_of_ble_eq_true rfl) rfl ?_
  refine j_aload_n (j := 0) dd_G_copyFrom_0 rfl rfl ?_
  refine j_aload_n (j := 1) dd_G_copyFrom_1 rfl rfl ?_
  refine gf_1_0 dd_G_copyFrom_2 wd_100 ?_
  refine pf_1_0 dd_G_copyFrom_5 wd_100 (fun M1 eM1 => ?_)
  have h := h M1 eM1
  refine j_aload_n (j := 0) dd_G_copyFrom_8 rfl rfl ?_
  refine j_aload_n (j := 1) dd_G_copyFrom_9 rfl rfl ?_
  refine gf_1_1 dd_G_copyFrom_10 wd_102 ?_
  refine pf_1_1 dd_G_copyFrom_13 wd_102 (fun M2 eM2 => ?_)
  have h := h M2 eM2
  refine j_aload_n (j := 0) dd_G_copyFrom_16 rfl rfl ?_
  refine j_aload_n (j := 1) dd_G_copyFrom_17 rfl rfl ?_
  refine gf_1_2 dd_G_copyFrom_18 wd_104 ?_
  refine pf_1_2 dd_G_copyFrom_21 wd_104 (fun M3 eM3 => ?_)
  have h := h M3 eM3
  refine j_aload_n (j := 0) dd_G_copyFrom_24 rfl rfl ?_
  refine j_aload_n (j := 1) dd_G_copyFrom_25 rfl rfl ?_
  refine gf_1_3 dd_G_copyFrom_26 wd_107 ?_
  refine pf_1_3 dd_G_copyFrom_29 wd_107 (fun M4 eM4 => ?_)
  have h := h M4 eM4
  refine j_aload_n (j := 0) dd_G_copyFrom_32 rfl rfl ?_
  refine j_aload_n (j := 1) dd_G_copyFrom_33 rfl rfl ?_
  refine gf_1_4 dd_G_copyFrom_34 wd_110 ?_
  refine pf_1_4 dd_G_copyFrom_37 wd_110 (fun M5 eM5 => ?_)
  have h := h M5 eM5
  refine j_aload_n (j := 0) dd_G_copyFrom_40 rfl rfl ?_
  refine j_aload_n (j := 1) dd_G_copyFrom_41 rfl rfl ?_
  refine gf_1_5 dd_G_copyFrom_42 wd_113 ?_
  refine pf_1_5 dd_G_copyFrom_45 wd_113 h.1 (fun M6 eM6 => ?_)
  have h := h.2
  have h := h M6 eM6
  exact j_vret dd_G_copyFrom_48 rfl h
theorem vc_G_heftByKind {E : EE} {Q : Int → JM → Prop} (g : Nat) (M : JM) (h : (((M 1 g 0 < 1 ∨ 3 < M 1 g 0) → Q (M 1 g 1) M) ∧ (M 1 g 0 = 1 → Q (w32 (2 * (M 1 g 1))) M) ∧ (M 1 g 0 = 2 → Q (w32 (Int.tdiv (w32 (M 1 g 1 + 1)) 2)) M) ∧ (M 1 g 0 = 3 → Q (w32 (w32 (2 * (M 1 g 1)) - 1)) M))) : JC E mm_G_heftByKind [vR 1 g] M Q := by
  refine j_entry (L0 := [(0, vR 1 g)]) pn_G (Nat.le_of_ble_eq_true rfl) rfl ?_
  refine j_aload_n (j := 0) dd_G_heftByKind_0 rfl rfl ?_
  refine gf_1_0 dd_G_heftByKind_1 wd_100 ?_
  have hc : (M 1 g 0 < 1 ∨ 3 < M 1 g 0) ∨ M 1 g 0 = 1 ∨ M 1 g 0 = 2 ∨ M 1 g 0 = 3 := by omega
  rcases hc with hc | hc | hc | hc
  · have h := h.1 hc
    refine j_tabOut (tgt := 57) dd_G_heftByKind_4 hc (by decide) ?_
    refine j_aload_n (j := 0) dd_G_heftByKind_57 rfl rfl ?_
    refine gf_1_1 dd_G_heftByKind_58 wd_102 ?_
    exact j_iret dd_G_heftByKind_61 rfl h
  · have h := h.2.1 hc
    refine j_tabIn (tgt := 32) (off := 28) dd_G_heftByKind_4 (by omega) (by omega) (by rw [hc]; rfl) (by decide) ?_
    refine j_iconst dd_G_heftByKind_32 (inRd rfl) ?_
    refine j_aload_n (j := 0) dd_G_heftByKind_33 rfl rfl ?_
    refine gf_1_1 dd_G_heftByKind_34 wd_102 ?_
    refine j_imul dd_G_heftByKind_37 ?_
    exact j_iret dd_G_heftByKind_38 rfl h
  · have h := h.2.2.1 hc
    refine j_tabIn (tgt := 39) (off := 35) dd_G_heftByKind_4 (by omega) (by omega) (by rw [hc]; rfl) (by decide) ?_
    refine j_aload_n (j := 0) dd_G_heftByKind_39 rfl rfl ?_
    refine gf_1_1 dd_G_heftByKind_40 wd_102 ?_
    refine j_iconst dd_G_heftByKind_43 (inRd rfl) ?_
    refine j_iadd dd_G_heftByKind_44 ?_
    refine j_iconst dd_G_heftByKind_45 (inRd rfl) ?_
    refine j_idiv dd_G_heftByKind_46 (by decide) ?_
    exact j_iret dd_G_heftByKind_47 rfl h
  · have h := h.2.2.2 hc
    refine j_tabIn (tgt := 48) (off := 44) dd_G_heftByKind_4 (by omega) (by omega) (by rw [hc]; rfl) (by decide) ?_
    refine j_iconst dd_G_heftByKind_48 (inRd rfl) ?_
    refine j_aload_n (j := 0) dd_G_heftByKind_49 rfl rfl ?_
    refine gf_1_1 dd_G_heftByKind_50 wd_102 ?_
    refine j_imul dd_G_heftByKind_53 ?_
    refine j_iconst dd_G_heftByKind_54 (inRd rfl) ?_
    refine j_isub dd_G_heftByKind_55 ?_
    exact j_iret dd_G_heftByKind_56 rfl h
theorem vc_G_paysByKind {E : EE} {Q : Int → JM → Prop} (g : Nat) (M : JM) (h : (((M 1 g 0 ≠ 2 ∧ M 1 g 0 ≠ 3) → Q (M 1 g 2) M) ∧ (M 1 g 0 = 2 → Q (max 0 (w32 (M 1 g 2 - 2))) M) ∧ (M 1 g 0 = 3 → Q (w32 (2 * (M 1 g 2))) M))) : JC E mm_G_paysByKind [vR 1 g] M Q := by
  refine j_entry (L0 := [(0, vR 1 g)]) pn_G (Nat.le_of_ble_eq_true rfl) rfl ?_
  refine j_aload_n (j := 0) dd_G_paysByKind_0 rfl rfl ?_
  refine gf_1_0 dd_G_paysByKind_1 wd_100 ?_
  have hc : (M 1 g 0 ≠ 2 ∧ M 1 g 0 ≠ 3) ∨ M 1 g 0 = 2 ∨ M 1 g 0 = 3 := by omega
  rcases hc with hc | hc | hc
  · have h := h.1 hc
    refine j_look (tgt := 50) (off := 46) dd_G_paysByKind_4 (by decide) (by simp [Op.lookupswitch.offset, hc.1, hc.2, Ne.symm hc.1, Ne.symm hc.2]) (by decide) ?_
    refine j_aload_n (j := 0) dd_G_paysByKind_50 rfl rfl ?_
    refine gf_1_2 dd_G_paysByKind_51 wd_104 ?_
    exact j_iret dd_G_paysByKind_54 rfl h
  · have h := h.2.1 hc
    refine j_look (tgt := 32) (off := 28) dd_G_paysByKind_4 (by decide) (by rw [hc]; rfl) (by decide) ?_
    refine j_iconst dd_G_paysByKind_32 (inRd rfl) ?_
    refine j_aload_n (j := 0) dd_G_paysByKind_33 rfl rfl ?_
    refine gf_1_2 dd_G_paysByKind_34 wd_104 ?_
    refine j_iconst dd_G_paysByKind_37 (inRd rfl) ?_
    refine j_isub dd_G_paysByKind_38 ?_
    refine j_mmax dd_G_paysByKind_39 wd_468 wd_469 wd_75 wd_470 ⟨by decide, by decide⟩ (Nat.le_of_ble_eq_true rfl) ?_
    exact j_iret dd_G_paysByKind_42 rfl h
  · have h := h.2.2 hc
    refine j_look (tgt := 43) (off := 39) dd_G_paysByKind_4 (by decide) (by rw [hc]; rfl) (by decide) ?_
    refine j_iconst dd_G_paysByKind_43 (inRd rfl) ?_
    refine j_aload_n (j := 0) dd_G_paysByKind_44 rfl rfl ?_
    refine gf_1_2 dd_G_paysByKind_45 wd_104 ?_
    refine j_imul dd_G_paysByKind_48 ?_
    exact j_iret dd_G_paysByKind_49 rfl h
theorem vc_O_copyFrom {E : EE} {Q : Int → JM → Prop} (o : Nat) (r1 : Nat) (M : JM) (h : ∀ M1 : JM, M1 = pt M 2 o 0 (M 2 r1 0) → ∀ M2 : JM, M2 = pt M1 2 o 1 (M1 2 r1 1) → Q 0 M2) : JC E mm_O_copyFrom [vR 2 o, vR 2 r1] M Q := by
  refine j_entry (L0 := [(0, vR 2 o), (1, vR 2 r1)]) pn_O (Nat.le_of_ble_eq_true rfl) rfl ?_
  refine j_aload_n (j := 0) dd_O_copyFrom_0 rfl rfl ?_
  refine j_aload_n (j := 1) dd_O_copyFrom_1 rfl rfl ?_
  refine gf_2_0 dd_O_copyFrom_2 wd_134 ?_
  refine pf_2_0 dd_O_copyFrom_5 wd_134 (fun M1 eM1 => ?_)
  have h := h M1 eM1
  refine j_aload_n (j := 0) dd_O_copyFrom_8 rfl rfl ?_
  refine j_aload_n (j := 1) dd_O_copyFrom_9 rfl rfl ?_
  refine gf_2_1 dd_O_copyFrom_10 wd_137 ?_
  refine pf_2_1 dd_O_copyFrom_13 wd_137 (fun M2 eM2 => ?_)
  have h := h M2 eM2
  exact j_vret dd_O_copyFrom_16 rfl h
theorem vc_O_emptyArms {E : EE} {Q : Int → JM → Prop} (o : Nat) (M : JM) (h : ∀ M1 : JM, M1 = pt M 2 o 2 0 → ∀ M2 : JM, M2 = pt M1 2 o 3 0 → ∀ M3 : JM, M3 = pt M2 2 o 4 0 → Q 0 M3) : JC E mm_O_emptyArms [vR 2 o] M Q := by
  refine j_entry (L0 := [(0, vR 2 o)]) pn_O (Nat.le_of_ble_eq_true rfl) rfl ?_
  refine j_aload_n (j := 0) dd_O_emptyArms_0 rfl rfl ?_
  refine j_iconst dd_O_emptyArms_1 (inRd rfl) ?_
  refine pf_2_2 dd_O_emptyArms_2 wd_140 (fun M1 eM1 => ?_)
  have h := h M1 eM1
  refine j_aload_n (j := 0) dd_O_emptyArms_5 rfl rfl ?_
  refine j_iconst dd_O_emptyArms_6 (inRd rfl) ?_
  refine pf_2_3 dd_O_emptyArms_7 wd_143 (fun M2 eM2 => ?_)
  have h := h M2 eM2
  refine j_aload_n (j := 0) dd_O_emptyArms_10 rfl rfl ?_
  refine j_iconst dd_O_emptyArms_11 (inRd rfl) ?_
  refine pf_2_4 dd_O_emptyArms_12 wd_146 (fun M3 eM3 => ?_)
  have h := h M3 eM3
  exact j_vret dd_O_emptyArms_15 rfl h
theorem vc_O_isBent {E : EE} {Q : Int → JM → Prop} (o : Nat) (M : JM) (h : ((M 2 o 3 ≠ M 2 o 0 → Q 0 M) ∧ (M 2 o 3 = M 2 o 0 → Q 1 M))) : JC E mm_O_isBent [vR 2 o] M Q := by
  refine j_entry (L0 := [(0, vR 2 o)]) pn_O (Nat.le_of_ble_eq_true rfl) rfl ?_
  refine j_aload_n (j := 0) dd_O_isBent_0 rfl rfl ?_
  refine gf_2_3 dd_O_isBent_1 wd_143 ?_
  refine j_aload_n (j := 0) dd_O_isBent_4 rfl rfl ?_
  refine gf_2_0 dd_O_isBent_5 wd_134 ?_
  refine j_icmp_ne (tgt := 15) dd_O_isBent_8 (by decide) (fun c => ?_) (fun c => ?_)
  · have h := h.1 c
    refine j_iconst dd_O_isBent_15 (inRd rfl) ?_
    exact j_zret dd_O_isBent_16 rfl (Or.inl rfl) h
  · have h := h.2 c
    refine j_iconst dd_O_isBent_11 (inRd rfl) ?_
    refine j_goto (tgt := 16) dd_O_isBent_12 (by decide) ?_
    exact j_zret dd_O_isBent_16 rfl (Or.inr rfl) h
theorem vc_S_becomeRow {E : EE} {Q : Int → JM → Prop} (k : Nat) (x1 : Int) (x2 : Int) (M : JM) (h : ∀ M1 : JM, M1 = pt M 6 k 1 x1 → ∀ M2 : JM, M2 = pt M1 6 k 2 x2 → JG E mm_S_becomeRow Q 12 [(0, vR 6 k), (3, vI 0)] [] M2) : JC E mm_S_becomeRow [vR 6 k, vI x1, vI x2] M Q := by
  refine j_entry (L0 := [(0, vR 6 k), (1, vI x1), (2, vI x2)]) pn_S (Nat.le_of_ble_eq_true rfl) rfl ?_
  refine j_aload_n (j := 0) dd_S_becomeRow_0 rfl rfl ?_
  refine j_iload_n (j := 1) dd_S_becomeRow_1 rfl rfl ?_
  refine pf_6_1 dd_S_becomeRow_2 wd_258 (fun M1 eM1 => ?_)
  have h := h M1 eM1
  refine j_aload_n (j := 0) dd_S_becomeRow_5 rfl rfl ?_
  refine j_iload_n (j := 2) dd_S_becomeRow_6 rfl rfl ?_
  refine pf_6_2 dd_S_becomeRow_7 wd_260 (fun M2 eM2 => ?_)
  have h := h M2 eM2
  refine j_iconst dd_S_becomeRow_10 (inRd rfl) ?_
  refine j_istore_n (j := 3) dd_S_becomeRow_11 rfl (by decide) rfl ?_
  exact j_jump h (jsub_c rfl (jsub_c rfl jsub_0))
theorem vc_S_becomeRow_12 {E : EE} {Q : Int → JM → Prop} (k : Nat) (l3 : Int) (M : JM) (h : ((40 ≤ l3 → Q 0 M) ∧ (l3 < 40 → (0 ≤ l3 ∧ l3 < 40) ∧ ∀ M1 : JM, M1 = pt M 7 k l3.toNat 0 → ∀ a2 : Int, a2 = w32 (l3 + 1) → JG E mm_S_becomeRow Q 12 [(0, vR 6 k), (3, vI a2)] [] M1))) : JG E mm_S_becomeRow Q 12 [(0, vR 6 k), (3, vI l3)] [] M := by
  refine j_iload_n (j := 3) dd_S_becomeRow_12 rfl rfl ?_
  refine j_bipush dd_S_becomeRow_13 rfl (inRd rfl) ?_
  refine j_icmp_ge (tgt := 31) dd_S_becomeRow_15 (by decide) (fun c => ?_) (fun c => ?_)
  · have h := h.1 c
    exact j_vret dd_S_becomeRow_31 rfl h
  · have h := h.2 c
    refine j_aload_n (j := 0) dd_S_becomeRow_18 rfl rfl ?_
    refine gf_6_0 dd_S_becomeRow_19 wd_256 ?_
    refine j_iload_n (j := 3) dd_S_becomeRow_22 rfl rfl ?_
    refine j_iconst dd_S_becomeRow_23 (inRd rfl) ?_
    refine st_7 dd_S_becomeRow_24 h.1 (fun M1 eM1 => ?_)
    have h := h.2
    have h := h M1 eM1
    refine j_iincN dd_S_becomeRow_25 rfl rfl (fun a2 ea2 => ?_)
    have h := h a2 ea2
    refine j_goto (tgt := 12) dd_S_becomeRow_28 (by decide) ?_
    exact j_jump h (jsub_c rfl (jsub_c rfl jsub_0))
theorem vc_S_faultOfCells {E : EE} {Q : Int → JM → Prop} (k : Nat) (x1 : Int) (x2 : Int) (x3 : Int) (M : JM) (h : ((M 6 k 1 ≠ (-1) → ((M 6 k 1 = x1 → JC E mm_H_within [vI x2, vI 0, vI (w32 (M 6 k 2 - x3))] M (fun a2 M1 => ((a2 = 0 → Q 2 M1) ∧ (a2 ≠ 0 → Q 0 M1)))) ∧ (M 6 k 1 ≠ x1 → Q 3 M))) ∧ (M 6 k 1 = (-1) → Q 1 M))) : JC E mm_S_faultOfCells [vR 6 k, vI x1, vI x2, vI x3] M Q := by
  refine j_entry (L0 := [(0, vR 6 k), (1, vI x1), (2, vI x2), (3, vI x3)]) pn_S (Nat.le_of_ble_eq_true rfl) rfl ?_
  refine j_aload_n (j := 0) dd_S_faultOfCells_0 rfl rfl ?_
  refine gf_6_1 dd_S_faultOfCells_1 wd_258 ?_
  refine j_iconst dd_S_faultOfCells_4 (inRd rfl) ?_
  refine j_icmp_ne (tgt := 10) dd_S_faultOfCells_5 (by decide) (fun c => ?_) (fun c => ?_)
  · have h := h.1 c
    refine j_aload_n (j := 0) dd_S_faultOfCells_10 rfl rfl ?_
    refine gf_6_1 dd_S_faultOfCells_11 wd_258 ?_
    refine j_iload_n (j := 1) dd_S_faultOfCells_14 rfl rfl ?_
    refine j_icmp_eq (tgt := 20) dd_S_faultOfCells_15 (by decide) (fun c => ?_) (fun c => ?_)
    · have h := h.1 c
      refine j_iload_n (j := 2) dd_S_faultOfCells_20 rfl rfl ?_
      refine j_iconst dd_S_faultOfCells_21 (inRd rfl) ?_
      refine j_aload_n (j := 0) dd_S_faultOfCells_22 rfl rfl ?_
      refine gf_6_2 dd_S_faultOfCells_23 wd_260 ?_
      refine j_iload_n (j := 3) dd_S_faultOfCells_26 rfl rfl ?_
      refine j_isub dd_S_faultOfCells_27 ?_
      refine j_cNI (mm' := mm_H_within) (As := [vI x2, vI 0, vI (w32 (M 6 k 2 - x3))]) (rest := []) h dd_S_faultOfCells_28 (by simp [nestL]) (ws3 wd_329 wd_63 wd_330) nk_H_within (rok rfl) (Nat.le_of_ble_eq_true rfl) (fun _ => rfl) (fun a2 M1 h => ?_)
      refine j_if_eq (tgt := 38) dd_S_faultOfCells_31 (by decide) (fun c => ?_) (fun c => ?_)
      · have h := h.1 c
        refine j_iconst dd_S_faultOfCells_38 (inRd rfl) ?_
        exact j_iret dd_S_faultOfCells_39 rfl h
      · have h := h.2 c
        refine j_iconst dd_S_faultOfCells_34 (inRd rfl) ?_
        refine j_goto (tgt := 39) dd_S_faultOfCells_35 (by decide) ?_
        exact j_iret dd_S_faultOfCells_39 rfl h
    · have h := h.2 c
      refine j_iconst dd_S_faultOfCells_18 (inRd rfl) ?_
      exact j_iret dd_S_faultOfCells_19 rfl h
  · have h := h.2 c
    refine j_iconst dd_S_faultOfCells_8 (inRd rfl) ?_
    exact j_iret dd_S_faultOfCells_9 rfl h
theorem vc_S_putCell {E : EE} {Q : Int → JM → Prop} (k : Nat) (x1 : Int) (x2 : Int) (M : JM) (h : ((M 6 k 1 ≠ 0 → ((M 6 k 1 ≠ 1 → (0 ≤ x1 ∧ x1 < 40) ∧ ∀ M1 : JM, M1 = pt M 7 k x1.toNat x2 → Q 0 M1) ∧ (M 6 k 1 = 1 → (0 ≤ x1 ∧ x1 < 40) ∧ ∀ M2 : JM, M2 = pt M 7 k x1.toNat (sh16 x2) → Q 0 M2))) ∧ (M 6 k 1 = 0 → (0 ≤ x1 ∧ x1 < 40) ∧ ∀ M3 : JM, M3 = pt M 7 k x1.toNat (by32 x2) → Q 0 M3))) : JC E mm_S_putCell [vR 6 k, vI x1, vI x2] M Q := by
  refine j_entry (L0 := [(0, vR 6 k), (1, vI x1), (2, vI x2)]) pn_S (Nat.le_of_ble_eq_true rfl) rfl ?_
  refine j_aload_n (j := 0) dd_S_putCell_0 rfl rfl ?_
  refine gf_6_1 dd_S_putCell_1 wd_258 ?_
  refine j_if_ne (tgt := 18) dd_S_putCell_4 (by decide) (fun c => ?_) (fun c => ?_)
  · have h := h.1 c
    refine j_aload_n (j := 0) dd_S_putCell_18 rfl rfl ?_
    refine gf_6_1 dd_S_putCell_19 wd_258 ?_
    refine j_iconst dd_S_putCell_22 (inRd rfl) ?_
    refine j_icmp_ne (tgt := 37) dd_S_putCell_23 (by decide) (fun c => ?_) (fun c => ?_)
    · have h := h.1 c
      refine j_aload_n (j := 0) dd_S_putCell_37 rfl rfl ?_
      refine gf_6_0 dd_S_putCell_38 wd_256 ?_
      refine j_iload_n (j := 1) dd_S_putCell_41 rfl rfl ?_
      refine j_iload_n (j := 2) dd_S_putCell_42 rfl rfl ?_
      refine st_7 dd_S_putCell_43 h.1 (fun M1 eM1 => ?_)
      have h := h.2
      have h := h M1 eM1
      exact j_vret dd_S_putCell_44 rfl h
    · have h := h.2 c
      refine j_aload_n (j := 0) dd_S_putCell_26 rfl rfl ?_
      refine gf_6_0 dd_S_putCell_27 wd_256 ?_
      refine j_iload_n (j := 1) dd_S_putCell_30 rfl rfl ?_
      refine j_iload_n (j := 2) dd_S_putCell_31 rfl rfl ?_
      refine j_i2s dd_S_putCell_32 ?_
      refine st_7 dd_S_putCell_33 h.1 (fun M2 eM2 => ?_)
      have h := h.2
      have h := h M2 eM2
      refine j_goto (tgt := 44) dd_S_putCell_34 (by decide) ?_
      exact j_vret dd_S_putCell_44 rfl h
  · have h := h.2 c
    refine j_aload_n (j := 0) dd_S_putCell_7 rfl rfl ?_
    refine gf_6_0 dd_S_putCell_8 wd_256 ?_
    refine j_iload_n (j := 1) dd_S_putCell_11 rfl rfl ?_
    refine j_iload_n (j := 2) dd_S_putCell_12 rfl rfl ?_
    refine j_i2b dd_S_putCell_13 ?_
    refine st_7 dd_S_putCell_14 h.1 (fun M3 eM3 => ?_)
    have h := h.2
    have h := h M3 eM3
    refine j_goto (tgt := 44) dd_S_putCell_15 (by decide) ?_
    exact j_vret dd_S_putCell_44 rfl h
theorem vc_P_tellAll {E : EE} {Q : Int → JM → Prop} (r1 : Nat) (M : JM) (h : JC E mm_T_startAfresh [vR 3 r1] M (fun a2 M1 => ∀ M3 : JM, M3 = pt M1 9 0 2 0 → ∀ M4 : JM, M4 = pt M3 9 0 7 0 → ∀ M5 : JM, M5 = pt M4 9 0 8 0 → ∀ M6 : JM, M6 = pt M5 9 0 5 0 → ∀ M7 : JM, M7 = pt M6 9 0 6 0 → JC E mm_P_nextToken [vR 9 0] M7 (fun a9 M8 => JG E mm_P_tellAll Q 35 [(0, vR 9 0), (1, vR 3 r1), (2, vI 0)] [] M8))) : JC E mm_P_tellAll [vR 9 0, vR 3 r1] M Q := by
  refine j_entry (L0 := [(0, vR 9 0), (1, vR 3 r1)]) pn_P (Nat.le_of_ble_eq_true rfl) rfl ?_
  refine j_aload_n (j := 1) dd_P_tellAll_0 rfl rfl ?_
  refine j_cVV (mm' := mm_T_startAfresh) (t := 3) (i := r1) (As := []) (rest := []) h dd_P_tellAll_1 (ws5 wd_343 wd_344 wd_345 wd_64 wd_346) nk_T_startAfresh (rok rfl) (by unfold isW; omega) ⟨_, ce_3 _⟩ rfl (Nat.le_of_ble_eq_true rfl) (fun _ => rfl) (fun a2 M1 h => ?_)
  refine j_aload_n (j := 0) dd_P_tellAll_4 rfl rfl ?_
  refine j_iconst dd_P_tellAll_5 (inRd rfl) ?_
  refine pf_9_2 dd_P_tellAll_6 wd_215 (fun M3 eM3 => ?_)
  have h := h M3 eM3
  refine j_aload_n (j := 0) dd_P_tellAll_9 rfl rfl ?_
  refine j_iconst dd_P_tellAll_10 (inRd rfl) ?_
  refine pf_9_7 dd_P_tellAll_11 wd_220 (fun M4 eM4 => ?_)
  have h := h M4 eM4
  refine j_aload_n (j := 0) dd_P_tellAll_14 rfl rfl ?_
  refine j_iconst dd_P_tellAll_15 (inRd rfl) ?_
  refine pf_9_8 dd_P_tellAll_16 wd_222 (fun M5 eM5 => ?_)
  have h := h M5 eM5
  refine j_aload_n (j := 0) dd_P_tellAll_19 rfl rfl ?_
  refine j_iconst dd_P_tellAll_20 (inRd rfl) ?_
  refine pf_9_5 dd_P_tellAll_21 wd_218 (Or.inl rfl) (fun M6 eM6 => ?_)
  have h := h M6 eM6
  refine j_aload_n (j := 0) dd_P_tellAll_24 rfl rfl ?_
  refine j_iconst dd_P_tellAll_25 (inRd rfl) ?_
  refine pf_9_6 dd_P_tellAll_26 wd_219 (Or.inl rfl) (fun M7 eM7 => ?_)
  have h := h M7 eM7
  refine j_iconst dd_P_tellAll_29 (inRd rfl) ?_
  refine j_istore_n (j := 2) dd_P_tellAll_30 rfl (by decide) rfl ?_
  refine j_aload_n (j := 0) dd_P_tellAll_31 rfl rfl ?_
  refine j_cVV (mm' := mm_P_nextToken) (t := 9) (i := 0) (As := []) (rest := []) h dd_P_tellAll_32 (ws5 wd_347 wd_349 wd_0 wd_67 wd_350) nk_P_nextToken (rok rfl) (by unfold isW; omega) ⟨_, ce_9 _⟩ rfl (Nat.le_of_ble_eq_true rfl) (fun _ => rfl) (fun a9 M8 h => ?_)
  exact j_jump h (jsub_c rfl (jsub_c rfl (jsub_c rfl jsub_0)))
theorem vc_P_tellAll_35 {E : EE} {Q : Int → JM → Prop} (r1 : Nat) (l2 : Int) (M : JM) (h : ((M 9 0 7 ≠ 0 → Q l2 M) ∧ (M 9 0 7 = 0 → ((M 9 0 3 = 0 → Q l2 M) ∧ (M 9 0 3 ≠ 0 → ((160 ≤ l2 → Q l2 M) ∧ (l2 < 160 → JC E mm_P_tellLine [vR 9 0, vR 3 r1] M (fun a2 M1 => ∀ a3 : Int, a3 = w32 (l2 + 1) → JC E mm_P_nextToken [vR 9 0] M1 (fun a5 M4 => JG E mm_P_tellAll Q 35 [(0, vR 9 0), (1, vR 3 r1), (2, vI a3)] [] M4))))))))) : JG E mm_P_tellAll Q 35 [(0, vR 9 0), (1, vR 3 r1), (2, vI l2)] [] M := by
  refine j_aload_n (j := 0) dd_P_tellAll_35 rfl rfl ?_
  refine gf_9_7 dd_P_tellAll_36 wd_220 ?_
  refine j_if_ne (tgt := 71) dd_P_tellAll_39 (by decide) (fun c => ?_) (fun c => ?_)
  · have h := h.1 c
    refine j_iload_n (j := 2) dd_P_tellAll_71 rfl rfl ?_
    exact j_iret dd_P_tellAll_72 rfl h
  · have h := h.2 c
    refine j_aload_n (j := 0) dd_P_tellAll_42 rfl rfl ?_
    refine gf_9_3 dd_P_tellAll_43 wd_216 ?_
    refine j_if_eq (tgt := 71) dd_P_tellAll_46 (by decide) (fun c => ?_) (fun c => ?_)
    · have h := h.1 c
      refine j_iload_n (j := 2) dd_P_tellAll_71 rfl rfl ?_
      exact j_iret dd_P_tellAll_72 rfl h
    · have h := h.2 c
      refine j_iload_n (j := 2) dd_P_tellAll_49 rfl rfl ?_
      refine j_sipush dd_P_tellAll_50 rfl (inRd rfl) ?_
      refine j_icmp_ge (tgt := 71) dd_P_tellAll_53 (by decide) (fun c => ?_) (fun c => ?_)
      · have h := h.1 c
        refine j_iload_n (j := 2) dd_P_tellAll_71 rfl rfl ?_
        exact j_iret dd_P_tellAll_72 rfl h
      · have h := h.2 c
        refine j_aload_n (j := 0) dd_P_tellAll_56 rfl rfl ?_
        refine j_aload_n (j := 1) dd_P_tellAll_57 rfl rfl ?_
        refine j_cVV (mm' := mm_P_tellLine) (t := 9) (i := 0) (As := [vR 3 r1]) (rest := []) h dd_P_tellAll_58 (ws5 wd_369 wd_371 wd_4 wd_67 wd_372) nk_P_tellLine (rok rfl) (by unfold isW; omega) ⟨_, ce_9 _⟩ rfl (Nat.le_of_ble_eq_true rfl) (fun _ => rfl) (fun a2 M1 h => ?_)
        refine j_iincN dd_P_tellAll_61 rfl rfl (fun a3 ea3 => ?_)
        have h := h a3 ea3
        refine j_aload_n (j := 0) dd_P_tellAll_64 rfl rfl ?_
        refine j_cVV (mm' := mm_P_nextToken) (t := 9) (i := 0) (As := []) (rest := []) h dd_P_tellAll_65 (ws5 wd_347 wd_349 wd_0 wd_67 wd_350) nk_P_nextToken (rok rfl) (by unfold isW; omega) ⟨_, ce_9 _⟩ rfl (Nat.le_of_ble_eq_true rfl) (fun _ => rfl) (fun a5 M4 h => ?_)
        refine j_goto (tgt := 35) dd_P_tellAll_68 (by decide) ?_
        exact j_jump h (jsub_c rfl (jsub_c rfl (jsub_c rfl jsub_0)))
theorem vc_P_tellLine {E : EE} {Q : Int → JM → Prop} (r1 : Nat) (M : JM) (h : ((M 9 0 3 ≠ 1 → JG E mm_P_tellLine Q 17 [(0, vR 9 0), (1, vR 3 r1)] [vI 7] M) ∧ (M 9 0 3 = 1 → JC E mm_P_wordOfToken [vR 9 0] M (fun a2 M1 => JG E mm_P_tellLine Q 17 [(0, vR 9 0), (1, vR 3 r1)] [vI a2] M1)))) : JC E mm_P_tellLine [vR 9 0, vR 3 r1] M Q := by
  refine j_entry (L0 := [(0, vR 9 0), (1, vR 3 r1)]) pn_P (Nat.le_of_ble_eq_true rfl) rfl ?_
  refine j_aload_n (j := 0) dd_P_tellLine_0 rfl rfl ?_
  refine gf_9_3 dd_P_tellLine_1 wd_216 ?_
  refine j_iconst dd_P_tellLine_4 (inRd rfl) ?_
  refine j_icmp_ne (tgt := 15) dd_P_tellLine_5 (by decide) (fun c => ?_) (fun c => ?_)
  · have h := h.1 c
    refine j_bipush dd_P_tellLine_15 rfl (inRd rfl) ?_
    exact j_jump h (jsub_c rfl (jsub_c rfl jsub_0))
  · have h := h.2 c
    refine j_aload_n (j := 0) dd_P_tellLine_8 rfl rfl ?_
    refine j_cVI (mm' := mm_P_wordOfToken) (t := 9) (i := 0) (As := []) (rest := []) h dd_P_tellLine_9 (ws5 wd_373 wd_375 wd_5 wd_67 wd_376) nk_P_wordOfToken (rok rfl) (by unfold isW; omega) ⟨_, ce_9 _⟩ rfl (Nat.le_of_ble_eq_true rfl) (fun _ => rfl) (fun a2 M1 h => ?_)
    refine j_goto (tgt := 17) dd_P_tellLine_12 (by decide) ?_
    exact j_jump h (jsub_c rfl (jsub_c rfl jsub_0))
theorem vc_P_tellLine_17 {E : EE} {Q : Int → JM → Prop} (r1 : Nat) (s0 : Int) (M : JM) (h : JC E mm_P_refuseWord [vR 9 0, vI s0, vR 3 r1] M (fun a2 M1 => ((M1 9 0 7 = 0 → ((3 < s0 → ((s0 ≠ 4 → ((s0 ≠ 5 → ((s0 ≠ 6 → JG E mm_P_tellLine Q 130 [(0, vR 9 0)] [] M1) ∧ (s0 = 6 → ∀ M3 : JM, M3 = pt M1 9 0 6 1 → JC E mm_P_nextNumber [vR 9 0, vI 0, vI 8] M3 (fun a5 M4 => ∀ M6 : JM, M6 = pt M4 3 r1 5 a5 → JG E mm_P_tellLine Q 130 [(0, vR 9 0)] [] M6)))) ∧ (s0 = 5 → ∀ M7 : JM, M7 = pt M1 9 0 5 1 → JC E mm_P_nextNumber [vR 9 0, vI 0, vI 6] M7 (fun a9 M8 => ∀ M10 : JM, M10 = pt M8 3 r1 4 a9 → JG E mm_P_tellLine Q 130 [(0, vR 9 0)] [] M10)))) ∧ (s0 = 4 → JC E mm_P_nextNumber [vR 9 0, vI 1, vI 20] M1 (fun a12 M11 => JC E mm_T_addOne [vR 3 r1, vI a12] M11 (fun a14 M13 => JG E mm_P_tellLine Q 130 [(0, vR 9 0)] [] M13))))) ∧ (s0 ≤ 3 → JC E mm_P_nextNumber [vR 9 0, vI 1, vI 9] M1 (fun a16 M15 => JC E mm_P_nextNumber [vR 9 0, vI 0, vI 9] M15 (fun a18 M17 => JC E mm_T_addGood [vR 3 r1, vI s0, vI a16, vI a18] M17 (fun a20 M19 => JG E mm_P_tellLine Q 130 [(0, vR 9 0)] [] M19)))))) ∧ (M1 9 0 7 ≠ 0 → Q 0 M1)))) : JG E mm_P_tellLine Q 17 [(0, vR 9 0), (1, vR 3 r1)] [vI s0] M := by
  refine j_istore_n (j := 2) dd_P_tellLine_17 rfl (by decide) rfl ?_
  refine j_aload_n (j := 0) dd_P_tellLine_18 rfl rfl ?_
  refine j_iload_n (j := 2) dd_P_tellLine_19 rfl rfl ?_
  refine j_aload_n (j := 1) dd_P_tellLine_20 rfl rfl ?_
  refine j_cVV (mm' := mm_P_refuseWord) (t := 9) (i := 0) (As := [vI s0, vR 3 r1]) (rest := []) h dd_P_tellLine_21 (ws5 wd_439 wd_441 wd_7 wd_67 wd_442) nk_P_refuseWord (rok rfl) (by unfold isW; omega) ⟨_, ce_9 _⟩ rfl (Nat.le_of_ble_eq_true rfl) (fun _ => rfl) (fun a2 M1 h => ?_)
  refine j_aload_n (j := 0) dd_P_tellLine_24 rfl rfl ?_
  refine gf_9_7 dd_P_tellLine_25 wd_220 ?_
  refine j_if_eq (tgt := 32) dd_P_tellLine_28 (by decide) (fun c => ?_) (fun c => ?_)
  · have h := h.1 c
    refine j_iload_n (j := 2) dd_P_tellLine_32 rfl rfl ?_
    refine j_iconst dd_P_tellLine_33 (inRd rfl) ?_
    refine j_icmp_gt (tgt := 65) dd_P_tellLine_34 (by decide) (fun c => ?_) (fun c => ?_)
    · have h := h.1 c
      refine j_iload_n (j := 2) dd_P_tellLine_65 rfl rfl ?_
      refine j_iconst dd_P_tellLine_66 (inRd rfl) ?_
      refine j_icmp_ne (tgt := 84) dd_P_tellLine_67 (by decide) (fun c => ?_) (fun c => ?_)
      · have h := h.1 c
        refine j_iload_n (j := 2) dd_P_tellLine_84 rfl rfl ?_
        refine j_iconst dd_P_tellLine_85 (inRd rfl) ?_
        refine j_icmp_ne (tgt := 108) dd_P_tellLine_86 (by decide) (fun c => ?_) (fun c => ?_)
        · have h := h.1 c
          refine j_iload_n (j := 2) dd_P_tellLine_108 rfl rfl ?_
          refine j_bipush dd_P_tellLine_109 rfl (inRd rfl) ?_
          refine j_icmp_ne (tgt := 130) dd_P_tellLine_111 (by decide) (fun c => ?_) (fun c => ?_)
          · have h := h.1 c
            exact j_jump h (jsub_c rfl jsub_0)
          · have h := h.2 c
            refine j_aload_n (j := 0) dd_P_tellLine_114 rfl rfl ?_
            refine j_iconst dd_P_tellLine_115 (inRd rfl) ?_
            refine pf_9_6 dd_P_tellLine_116 wd_219 (Or.inr rfl) (fun M3 eM3 => ?_)
            have h := h M3 eM3
            refine j_aload_n (j := 1) dd_P_tellLine_119 rfl rfl ?_
            refine j_aload_n (j := 0) dd_P_tellLine_120 rfl rfl ?_
            refine j_iconst dd_P_tellLine_121 (inRd rfl) ?_
            refine j_bipush dd_P_tellLine_122 rfl (inRd rfl) ?_
            refine j_cVI (mm' := mm_P_nextNumber) (t := 9) (i := 0) (As := [vI 0, vI 8]) (rest := [vR 3 r1]) h dd_P_tellLine_124 (ws5 wd_443 wd_445 wd_8 wd_67 wd_446) nk_P_nextNumber (rok rfl) (by unfold isW; omega) ⟨_, ce_9 _⟩ rfl (Nat.le_of_ble_eq_true rfl) (fun _ => rfl) (fun a5 M4 h => ?_)
            refine pf_3_5 dd_P_tellLine_127 wd_173 (fun M6 eM6 => ?_)
            have h := h M6 eM6
            exact j_jump h (jsub_c rfl jsub_0)
        · have h := h.2 c
          refine j_aload_n (j := 0) dd_P_tellLine_89 rfl rfl ?_
          refine j_iconst dd_P_tellLine_90 (inRd rfl) ?_
          refine pf_9_5 dd_P_tellLine_91 wd_218 (Or.inr rfl) (fun M7 eM7 => ?_)
          have h := h M7 eM7
          refine j_aload_n (j := 1) dd_P_tellLine_94 rfl rfl ?_
          refine j_aload_n (j := 0) dd_P_tellLine_95 rfl rfl ?_
          refine j_iconst dd_P_tellLine_96 (inRd rfl) ?_
          refine j_bipush dd_P_tellLine_97 rfl (inRd rfl) ?_
          refine j_cVI (mm' := mm_P_nextNumber) (t := 9) (i := 0) (As := [vI 0, vI 6]) (rest := [vR 3 r1]) h dd_P_tellLine_99 (ws5 wd_443 wd_445 wd_8 wd_67 wd_446) nk_P_nextNumber (rok rfl) (by unfold isW; omega) ⟨_, ce_9 _⟩ rfl (Nat.le_of_ble_eq_true rfl) (fun _ => rfl) (fun a9 M8 h => ?_)
          refine pf_3_4 dd_P_tellLine_102 wd_170 (fun M10 eM10 => ?_)
          have h := h M10 eM10
          refine j_goto (tgt := 130) dd_P_tellLine_105 (by decide) ?_
          exact j_jump h (jsub_c rfl jsub_0)
      · have h := h.2 c
        refine j_aload_n (j := 1) dd_P_tellLine_70 rfl rfl ?_
        refine j_aload_n (j := 0) dd_P_tellLine_71 rfl rfl ?_
        refine j_iconst dd_P_tellLine_72 (inRd rfl) ?_
        refine j_bipush dd_P_tellLine_73 rfl (inRd rfl) ?_
        refine j_cVI (mm' := mm_P_nextNumber) (t := 9) (i := 0) (As := [vI 1, vI 20]) (rest := [vR 3 r1]) h dd_P_tellLine_75 (ws5 wd_443 wd_445 wd_8 wd_67 wd_446) nk_P_nextNumber (rok rfl) (by unfold isW; omega) ⟨_, ce_9 _⟩ rfl (Nat.le_of_ble_eq_true rfl) (fun _ => rfl) (fun a12 M11 h => ?_)
        refine j_cVV (mm' := mm_T_addOne) (t := 3) (i := r1) (As := [vI a12]) (rest := []) h dd_P_tellLine_78 (ws5 wd_471 wd_472 wd_473 wd_64 wd_474) nk_T_addOne (rok rfl) (by unfold isW; omega) ⟨_, ce_3 _⟩ rfl (Nat.le_of_ble_eq_true rfl) (fun _ => rfl) (fun a14 M13 h => ?_)
        refine j_goto (tgt := 130) dd_P_tellLine_81 (by decide) ?_
        exact j_jump h (jsub_c rfl jsub_0)
    · have h := h.2 c
      refine j_aload_n (j := 0) dd_P_tellLine_37 rfl rfl ?_
      refine j_iconst dd_P_tellLine_38 (inRd rfl) ?_
      refine j_bipush dd_P_tellLine_39 rfl (inRd rfl) ?_
      refine j_cVI (mm' := mm_P_nextNumber) (t := 9) (i := 0) (As := [vI 1, vI 9]) (rest := []) h dd_P_tellLine_41 (ws5 wd_443 wd_445 wd_8 wd_67 wd_446) nk_P_nextNumber (rok rfl) (by unfold isW; omega) ⟨_, ce_9 _⟩ rfl (Nat.le_of_ble_eq_true rfl) (fun _ => rfl) (fun a16 M15 h => ?_)
      refine j_istore_n (j := 3) dd_P_tellLine_44 rfl (by decide) rfl ?_
      refine j_aload_n (j := 0) dd_P_tellLine_45 rfl rfl ?_
      refine j_iconst dd_P_tellLine_46 (inRd rfl) ?_
      refine j_bipush dd_P_tellLine_47 rfl (inRd rfl) ?_
      refine j_cVI (mm' := mm_P_nextNumber) (t := 9) (i := 0) (As := [vI 0, vI 9]) (rest := []) h dd_P_tellLine_49 (ws5 wd_443 wd_445 wd_8 wd_67 wd_446) nk_P_nextNumber (rok rfl) (by unfold isW; omega) ⟨_, ce_9 _⟩ rfl (Nat.le_of_ble_eq_true rfl) (fun _ => rfl) (fun a18 M17 h => ?_)
      refine j_istore (j := 4) dd_P_tellLine_52 (by decide) rfl ?_
      refine j_aload_n (j := 1) dd_P_tellLine_54 rfl rfl ?_
      refine j_iload_n (j := 2) dd_P_tellLine_55 rfl rfl ?_
      refine j_iload_n (j := 3) dd_P_tellLine_56 rfl rfl ?_
      refine j_iload (j := 4) dd_P_tellLine_57 rfl ?_
      refine j_cVV (mm' := mm_T_addGood) (t := 3) (i := r1) (As := [vI s0, vI a16, vI a18]) (rest := []) h dd_P_tellLine_59 (ws5 wd_452 wd_453 wd_454 wd_64 wd_455) nk_T_addGood (rok rfl) (by unfold isW; omega) ⟨_, ce_3 _⟩ rfl (Nat.le_of_ble_eq_true rfl) (fun _ => rfl) (fun a20 M19 h => ?_)
      refine j_goto (tgt := 130) dd_P_tellLine_62 (by decide) ?_
      exact j_jump h (jsub_c rfl jsub_0)
  · have h := h.2 c
    exact j_vret dd_P_tellLine_31 rfl h
theorem vc_P_tellLine_130 {E : EE} {Q : Int → JM → Prop}  (M : JM) (h : JC E mm_P_nextSign [vR 9 0] M (fun a2 M1 => Q 0 M1)) : JG E mm_P_tellLine Q 130 [(0, vR 9 0)] [] M := by
  refine j_aload_n (j := 0) dd_P_tellLine_130 rfl rfl ?_
  refine j_cVV (mm' := mm_P_nextSign) (t := 9) (i := 0) (As := []) (rest := []) h dd_P_tellLine_131 (ws5 wd_475 wd_477 wd_12 wd_67 wd_478) nk_P_nextSign (rok rfl) (by unfold isW; omega) ⟨_, ce_9 _⟩ rfl (Nat.le_of_ble_eq_true rfl) (fun _ => rfl) (fun a2 M1 h => ?_)
  exact j_vret dd_P_tellLine_134 rfl h
theorem vc_P_refuseWord {E : EE} {Q : Int → JM → Prop} (x1 : Int) (r2 : Nat) (M : JM) (h : ((x1 ≠ 7 → ((x1 ≠ 5 → JG E mm_P_refuseWord Q 26 [(0, vR 9 0), (1, vI x1), (2, vR 3 r2)] [] M) ∧ (x1 = 5 → ((M 9 0 5 ≠ 0 → JG E mm_P_refuseWord Q 39 [(0, vR 9 0)] [] M) ∧ (M 9 0 5 = 0 → JG E mm_P_refuseWord Q 26 [(0, vR 9 0), (1, vI x1), (2, vR 3 r2)] [] M))))) ∧ (x1 = 7 → JC E mm_P_fail [vR 9 0, vI 2] M (fun a2 M1 => Q 0 M1)))) : JC E mm_P_refuseWord [vR 9 0, vI x1, vR 3 r2] M Q := by
  refine j_entry (L0 := [(0, vR 9 0), (1, vI x1), (2, vR 3 r2)]) pn_P (Nat.le_of_ble_eq_true rfl) rfl ?_
  refine j_iload_n (j := 1) dd_P_refuseWord_0 rfl rfl ?_
  refine j_bipush dd_P_refuseWord_1 rfl (inRd rfl) ?_
  refine j_icmp_ne (tgt := 14) dd_P_refuseWord_3 (by decide) (fun c => ?_) (fun c => ?_)
  · have h := h.1 c
    refine j_iload_n (j := 1) dd_P_refuseWord_14 rfl rfl ?_
    refine j_iconst dd_P_refuseWord_15 (inRd rfl) ?_
    refine j_icmp_ne (tgt := 26) dd_P_refuseWord_16 (by decide) (fun c => ?_) (fun c => ?_)
    · have h := h.1 c
      exact j_jump h (jsub_c rfl (jsub_c rfl (jsub_c rfl jsub_0)))
    · have h := h.2 c
      refine j_aload_n (j := 0) dd_P_refuseWord_19 rfl rfl ?_
      refine gf_9_5 dd_P_refuseWord_20 wd_218 ?_
      refine j_if_ne (tgt := 39) dd_P_refuseWord_23 (by decide) (fun c => ?_) (fun c => ?_)
      · have h := h.1 c
        exact j_jump h (jsub_c rfl jsub_0)
      · have h := h.2 c
        exact j_jump h (jsub_c rfl (jsub_c rfl (jsub_c rfl jsub_0)))
  · have h := h.2 c
    refine j_aload_n (j := 0) dd_P_refuseWord_6 rfl rfl ?_
    refine j_iconst dd_P_refuseWord_7 (inRd rfl) ?_
    refine j_cVV (mm' := mm_P_fail) (t := 9) (i := 0) (As := [vI 2]) (rest := []) h dd_P_refuseWord_8 (ws5 wd_365 wd_367 wd_3 wd_67 wd_368) nk_P_fail (rok rfl) (by unfold isW; omega) ⟨_, ce_9 _⟩ rfl (Nat.le_of_ble_eq_true rfl) (fun _ => rfl) (fun a2 M1 h => ?_)
    refine j_goto (tgt := 87) dd_P_refuseWord_11 (by decide) ?_
    exact j_vret dd_P_refuseWord_87 rfl h
theorem vc_P_refuseWord_26 {E : EE} {Q : Int → JM → Prop} (x1 : Int) (r2 : Nat) (M : JM) (h : ((x1 ≠ 6 → JG E mm_P_refuseWord Q 47 [(0, vR 9 0), (1, vI x1), (2, vR 3 r2)] [] M) ∧ (x1 = 6 → ((M 9 0 6 = 0 → JG E mm_P_refuseWord Q 47 [(0, vR 9 0), (1, vI x1), (2, vR 3 r2)] [] M) ∧ (M 9 0 6 ≠ 0 → JG E mm_P_refuseWord Q 39 [(0, vR 9 0)] [] M))))) : JG E mm_P_refuseWord Q 26 [(0, vR 9 0), (1, vI x1), (2, vR 3 r2)] [] M := by
  refine j_iload_n (j := 1) dd_P_refuseWord_26 rfl rfl ?_
  refine j_bipush dd_P_refuseWord_27 rfl (inRd rfl) ?_
  refine j_icmp_ne (tgt := 47) dd_P_refuseWord_29 (by decide) (fun c => ?_) (fun c => ?_)
  · have h := h.1 c
    exact j_jump h (jsub_c rfl (jsub_c rfl (jsub_c rfl jsub_0)))
  · have h := h.2 c
    refine j_aload_n (j := 0) dd_P_refuseWord_32 rfl rfl ?_
    refine gf_9_6 dd_P_refuseWord_33 wd_219 ?_
    refine j_if_eq (tgt := 47) dd_P_refuseWord_36 (by decide) (fun c => ?_) (fun c => ?_)
    · have h := h.1 c
      exact j_jump h (jsub_c rfl (jsub_c rfl (jsub_c rfl jsub_0)))
    · have h := h.2 c
      exact j_jump h (jsub_c rfl jsub_0)
theorem vc_P_refuseWord_39 {E : EE} {Q : Int → JM → Prop}  (M : JM) (h : JC E mm_P_fail [vR 9 0, vI 4] M (fun a2 M1 => Q 0 M1)) : JG E mm_P_refuseWord Q 39 [(0, vR 9 0)] [] M := by
  refine j_aload_n (j := 0) dd_P_refuseWord_39 rfl rfl ?_
  refine j_iconst dd_P_refuseWord_40 (inRd rfl) ?_
  refine j_cVV (mm' := mm_P_fail) (t := 9) (i := 0) (As := [vI 4]) (rest := []) h dd_P_refuseWord_41 (ws5 wd_365 wd_367 wd_3 wd_67 wd_368) nk_P_fail (rok rfl) (by unfold isW; omega) ⟨_, ce_9 _⟩ rfl (Nat.le_of_ble_eq_true rfl) (fun _ => rfl) (fun a2 M1 h => ?_)
  refine j_goto (tgt := 87) dd_P_refuseWord_44 (by decide) ?_
  exact j_vret dd_P_refuseWord_87 rfl h
theorem vc_P_refuseWord_47 {E : EE} {Q : Int → JM → Prop} (x1 : Int) (r2 : Nat) (M : JM) (h : ((3 < x1 → JG E mm_P_refuseWord Q 69 [(0, vR 9 0), (1, vI x1), (2, vR 3 r2)] [] M) ∧ (x1 ≤ 3 → ((M 3 r2 2 < 8 → JG E mm_P_refuseWord Q 69 [(0, vR 9 0), (1, vI x1), (2, vR 3 r2)] [] M) ∧ (8 ≤ M 3 r2 2 → JC E mm_P_fail [vR 9 0, vI 5] M (fun a2 M1 => Q 0 M1)))))) : JG E mm_P_refuseWord Q 47 [(0, vR 9 0), (1, vI x1), (2, vR 3 r2)] [] M := by
  refine j_iload_n (j := 1) dd_P_refuseWord_47 rfl rfl ?_
  refine j_iconst dd_P_refuseWord_48 (inRd rfl) ?_
  refine j_icmp_gt (tgt := 69) dd_P_refuseWord_49 (by decide) (fun c => ?_) (fun c => ?_)
  · have h := h.1 c
    exact j_jump h (jsub_c rfl (jsub_c rfl (jsub_c rfl jsub_0)))
  · have h := h.2 c
    refine j_aload_n (j := 2) dd_P_refuseWord_52 rfl rfl ?_
    refine gf_3_2 dd_P_refuseWord_53 wd_164 ?_
    refine j_bipush dd_P_refuseWord_56 rfl (inRd rfl) ?_
    refine j_icmp_lt (tgt := 69) dd_P_refuseWord_58 (by decide) (fun c => ?_) (fun c => ?_)
    · have h := h.1 c
      exact j_jump h (jsub_c rfl (jsub_c rfl (jsub_c rfl jsub_0)))
    · have h := h.2 c
      refine j_aload_n (j := 0) dd_P_refuseWord_61 rfl rfl ?_
      refine j_iconst dd_P_refuseWord_62 (inRd rfl) ?_
      refine j_cVV (mm' := mm_P_fail) (t := 9) (i := 0) (As := [vI 5]) (rest := []) h dd_P_refuseWord_63 (ws5 wd_365 wd_367 wd_3 wd_67 wd_368) nk_P_fail (rok rfl) (by unfold isW; omega) ⟨_, ce_9 _⟩ rfl (Nat.le_of_ble_eq_true rfl) (fun _ => rfl) (fun a2 M1 h => ?_)
      refine j_goto (tgt := 87) dd_P_refuseWord_66 (by decide) ?_
      exact j_vret dd_P_refuseWord_87 rfl h
theorem vc_P_refuseWord_69 {E : EE} {Q : Int → JM → Prop} (x1 : Int) (r2 : Nat) (M : JM) (h : ((x1 ≠ 4 → Q 0 M) ∧ (x1 = 4 → ((M 3 r2 3 < 4 → Q 0 M) ∧ (4 ≤ M 3 r2 3 → JC E mm_P_fail [vR 9 0, vI 5] M (fun a2 M1 => Q 0 M1)))))) : JG E mm_P_refuseWord Q 69 [(0, vR 9 0), (1, vI x1), (2, vR 3 r2)] [] M := by
  refine j_iload_n (j := 1) dd_P_refuseWord_69 rfl rfl ?_
  refine j_iconst dd_P_refuseWord_70 (inRd rfl) ?_
  refine j_icmp_ne (tgt := 87) dd_P_refuseWord_71 (by decide) (fun c => ?_) (fun c => ?_)
  · have h := h.1 c
    exact j_vret dd_P_refuseWord_87 rfl h
  · have h := h.2 c
    refine j_aload_n (j := 2) dd_P_refuseWord_74 rfl rfl ?_
    refine gf_3_3 dd_P_refuseWord_75 wd_167 ?_
    refine j_iconst dd_P_refuseWord_78 (inRd rfl) ?_
    refine j_icmp_lt (tgt := 87) dd_P_refuseWord_79 (by decide) (fun c => ?_) (fun c => ?_)
    · have h := h.1 c
      exact j_vret dd_P_refuseWord_87 rfl h
    · have h := h.2 c
      refine j_aload_n (j := 0) dd_P_refuseWord_82 rfl rfl ?_
      refine j_iconst dd_P_refuseWord_83 (inRd rfl) ?_
      refine j_cVV (mm' := mm_P_fail) (t := 9) (i := 0) (As := [vI 5]) (rest := []) h dd_P_refuseWord_84 (ws5 wd_365 wd_367 wd_3 wd_67 wd_368) nk_P_fail (rok rfl) (by unfold isW; omega) ⟨_, ce_9 _⟩ rfl (Nat.le_of_ble_eq_true rfl) (fun _ => rfl) (fun a2 M1 h => ?_)
      exact j_vret dd_P_refuseWord_87 rfl h
theorem vc_P_fail {E : EE} {Q : Int → JM → Prop} (x1 : Int) (M : JM) (h : ((M 9 0 7 ≠ 0 → Q 0 M) ∧ (M 9 0 7 = 0 → ∀ M1 : JM, M1 = pt M 9 0 7 x1 → ∀ M2 : JM, M2 = pt M1 9 0 8 (M1 9 0 4) → Q 0 M2))) : JC E mm_P_fail [vR 9 0, vI x1] M Q := by
  refine j_entry (L0 := [(0, vR 9 0), (1, vI x1)]) pn_P (Nat.le_of_ble_eq_true rfl) rfl ?_
  refine j_aload_n (j := 0) dd_P_fail_0 rfl rfl ?_
  refine gf_9_7 dd_P_fail_1 wd_220 ?_
  refine j_if_ne (tgt := 20) dd_P_fail_4 (by decide) (fun c => ?_) (fun c => ?_)
  · have h := h.1 c
    exact j_vret dd_P_fail_20 rfl h
  · have h := h.2 c
    refine j_aload_n (j := 0) dd_P_fail_7 rfl rfl ?_
    refine j_iload_n (j := 1) dd_P_fail_8 rfl rfl ?_
    refine pf_9_7 dd_P_fail_9 wd_220 (fun M1 eM1 => ?_)
    have h := h M1 eM1
    refine j_aload_n (j := 0) dd_P_fail_12 rfl rfl ?_
    refine j_aload_n (j := 0) dd_P_fail_13 rfl rfl ?_
    refine gf_9_4 dd_P_fail_14 wd_217 ?_
    refine pf_9_8 dd_P_fail_17 wd_222 (fun M2 eM2 => ?_)
    have h := h M2 eM2
    exact j_vret dd_P_fail_20 rfl h
theorem vc_P_nextNumber {E : EE} {Q : Int → JM → Prop} (x1 : Int) (x2 : Int) (M : JM) (h : JC E mm_P_nextToken [vR 9 0] M (fun a2 M1 => ((M1 9 0 3 = 2 → JC E mm_P_numberOfToken [vR 9 0] M1 (fun a4 M3 => JC E mm_H_within [vI a4, vI x1, vI x2] M3 (fun a6 M5 => ((a6 ≠ 0 → Q a4 M5) ∧ (a6 = 0 → JC E mm_P_fail [vR 9 0, vI 3] M5 (fun a8 M7 => Q x1 M7)))))) ∧ (M1 9 0 3 ≠ 2 → JC E mm_P_fail [vR 9 0, vI 2] M1 (fun a10 M9 => Q x1 M9))))) : JC E mm_P_nextNumber [vR 9 0, vI x1, vI x2] M Q := by
  refine j_entry (L0 := [(0, vR 9 0), (1, vI x1), (2, vI x2)]) pn_P (Nat.le_of_ble_eq_true rfl) rfl ?_
  refine j_aload_n (j := 0) dd_P_nextNumber_0 rfl rfl ?_
  refine j_cVV (mm' := mm_P_nextToken) (t := 9) (i := 0) (As := []) (rest := []) h dd_P_nextNumber_1 (ws5 wd_347 wd_349 wd_0 wd_67 wd_350) nk_P_nextToken (rok rfl) (by unfold isW; omega) ⟨_, ce_9 _⟩ rfl (Nat.le_of_ble_eq_true rfl) (fun _ => rfl) (fun a2 M1 h => ?_)
  refine j_aload_n (j := 0) dd_P_nextNumber_4 rfl rfl ?_
  refine gf_9_3 dd_P_nextNumber_5 wd_216 ?_
  refine j_iconst dd_P_nextNumber_8 (inRd rfl) ?_
  refine j_icmp_eq (tgt := 19) dd_P_nextNumber_9 (by decide) (fun c => ?_) (fun c => ?_)
  · have h := h.1 c
    refine j_aload_n (j := 0) dd_P_nextNumber_19 rfl rfl ?_
    refine j_cVI (mm' := mm_P_numberOfToken) (t := 9) (i := 0) (As := []) (rest := []) h dd_P_nextNumber_20 (ws5 wd_447 wd_449 wd_9 wd_67 wd_450) nk_P_numberOfToken (rok rfl) (by unfold isW; omega) ⟨_, ce_9 _⟩ rfl (Nat.le_of_ble_eq_true rfl) (fun _ => rfl) (fun a4 M3 h => ?_)
    refine j_istore_n (j := 3) dd_P_nextNumber_23 rfl (by decide) rfl ?_
    refine j_iload_n (j := 3) dd_P_nextNumber_24 rfl rfl ?_
    refine j_iload_n (j := 1) dd_P_nextNumber_25 rfl rfl ?_
    refine j_iload_n (j := 2) dd_P_nextNumber_26 rfl rfl ?_
    refine j_cNI (mm' := mm_H_within) (As := [vI a4, vI x1, vI x2]) (rest := []) h dd_P_nextNumber_27 (by simp [nestL]) (ws3 wd_329 wd_63 wd_330) nk_H_within (rok rfl) (Nat.le_of_ble_eq_true rfl) (fun _ => rfl) (fun a6 M5 h => ?_)
    refine j_if_ne (tgt := 40) dd_P_nextNumber_30 (by decide) (fun c => ?_) (fun c => ?_)
    · have h := h.1 c
      refine j_iload_n (j := 3) dd_P_nextNumber_40 rfl rfl ?_
      exact j_iret dd_P_nextNumber_41 rfl h
    · have h := h.2 c
      refine j_aload_n (j := 0) dd_P_nextNumber_33 rfl rfl ?_
      refine j_iconst dd_P_nextNumber_34 (inRd rfl) ?_
      refine j_cVV (mm' := mm_P_fail) (t := 9) (i := 0) (As := [vI 3]) (rest := []) h dd_P_nextNumber_35 (ws5 wd_365 wd_367 wd_3 wd_67 wd_368) nk_P_fail (rok rfl) (by unfold isW; omega) ⟨_, ce_9 _⟩ rfl (Nat.le_of_ble_eq_true rfl) (fun _ => rfl) (fun a8 M7 h => ?_)
      refine j_iload_n (j := 1) dd_P_nextNumber_38 rfl rfl ?_
      exact j_iret dd_P_nextNumber_39 rfl h
  · have h := h.2 c
    refine j_aload_n (j := 0) dd_P_nextNumber_12 rfl rfl ?_
    refine j_iconst dd_P_nextNumber_13 (inRd rfl) ?_
    refine j_cVV (mm' := mm_P_fail) (t := 9) (i := 0) (As := [vI 2]) (rest := []) h dd_P_nextNumber_14 (ws5 wd_365 wd_367 wd_3 wd_67 wd_368) nk_P_fail (rok rfl) (by unfold isW; omega) ⟨_, ce_9 _⟩ rfl (Nat.le_of_ble_eq_true rfl) (fun _ => rfl) (fun a10 M9 h => ?_)
    refine j_iload_n (j := 1) dd_P_nextNumber_17 rfl rfl ?_
    exact j_iret dd_P_nextNumber_18 rfl h
theorem vc_P_nextSign {E : EE} {Q : Int → JM → Prop}  (M : JM) (h : JC E mm_P_nextToken [vR 9 0] M (fun a2 M1 => ((M1 9 0 3 = 3 → Q 0 M1) ∧ (M1 9 0 3 ≠ 3 → JC E mm_P_fail [vR 9 0, vI 2] M1 (fun a4 M3 => Q 0 M3))))) : JC E mm_P_nextSign [vR 9 0] M Q := by
  refine j_entry (L0 := [(0, vR 9 0)]) pn_P (Nat.le_of_ble_eq_true rfl) rfl ?_
  refine j_aload_n (j := 0) dd_P_nextSign_0 rfl rfl ?_
  refine j_cVV (mm' := mm_P_nextToken) (t := 9) (i := 0) (As := []) (rest := []) h dd_P_nextSign_1 (ws5 wd_347 wd_349 wd_0 wd_67 wd_350) nk_P_nextToken (rok rfl) (by unfold isW; omega) ⟨_, ce_9 _⟩ rfl (Nat.le_of_ble_eq_true rfl) (fun _ => rfl) (fun a2 M1 h => ?_)
  refine j_aload_n (j := 0) dd_P_nextSign_4 rfl rfl ?_
  refine gf_9_3 dd_P_nextSign_5 wd_216 ?_
  refine j_iconst dd_P_nextSign_8 (inRd rfl) ?_
  refine j_icmp_eq (tgt := 17) dd_P_nextSign_9 (by decide) (fun c => ?_) (fun c => ?_)
  · have h := h.1 c
    exact j_vret dd_P_nextSign_17 rfl h
  · have h := h.2 c
    refine j_aload_n (j := 0) dd_P_nextSign_12 rfl rfl ?_
    refine j_iconst dd_P_nextSign_13 (inRd rfl) ?_
    refine j_cVV (mm' := mm_P_fail) (t := 9) (i := 0) (As := [vI 2]) (rest := []) h dd_P_nextSign_14 (ws5 wd_365 wd_367 wd_3 wd_67 wd_368) nk_P_fail (rok rfl) (by unfold isW; omega) ⟨_, ce_9 _⟩ rfl (Nat.le_of_ble_eq_true rfl) (fun _ => rfl) (fun a4 M3 h => ?_)
    exact j_vret dd_P_nextSign_17 rfl h
theorem vc_P_nextToken {E : EE} {Q : Int → JM → Prop}  (M : JM) (h : ((M 9 0 7 = 0 → JG E mm_P_nextToken Q 8 [(0, vR 9 0)] [] M) ∧ (M 9 0 7 ≠ 0 → Q 0 M))) : JC E mm_P_nextToken [vR 9 0] M Q := by
  refine j_entry (L0 := [(0, vR 9 0)]) pn_P (Nat.le_of_ble_eq_true rfl) rfl ?_
  refine j_aload_n (j := 0) dd_P_nextToken_0 rfl rfl ?_
  refine gf_9_7 dd_P_nextToken_1 wd_220 ?_
  refine j_if_eq (tgt := 8) dd_P_nextToken_4 (by decide) (fun c => ?_) (fun c => ?_)
  · have h := h.1 c
    exact j_jump h (jsub_c rfl jsub_0)
  · have h := h.2 c
    exact j_vret dd_P_nextToken_7 rfl h
theorem vc_P_nextToken_8 {E : EE} {Q : Int → JM → Prop}  (M : JM) (h : ((M 9 0 1 ≤ M 9 0 2 → JG E mm_P_nextToken Q 46 [(0, vR 9 0)] [] M) ∧ (M 9 0 2 < M 9 0 1 → (0 ≤ M 9 0 2 ∧ M 9 0 2 < 160) ∧ ((M 10 0 ((M 9 0 2).toNat) ≠ 32 → JG E mm_P_nextToken Q 46 [(0, vR 9 0)] [] M) ∧ (M 10 0 ((M 9 0 2).toNat) = 32 → ∀ M1 : JM, M1 = pt M 9 0 2 (w32 (M 9 0 2 + 1)) → JG E mm_P_nextToken Q 8 [(0, vR 9 0)] [] M1))))) : JG E mm_P_nextToken Q 8 [(0, vR 9 0)] [] M := by
  refine j_aload_n (j := 0) dd_P_nextToken_8 rfl rfl ?_
  refine gf_9_2 dd_P_nextToken_9 wd_215 ?_
  refine j_aload_n (j := 0) dd_P_nextToken_12 rfl rfl ?_
  refine gf_9_1 dd_P_nextToken_13 wd_213 ?_
  refine j_icmp_ge (tgt := 46) dd_P_nextToken_16 (by decide) (fun c => ?_) (fun c => ?_)
  · have h := h.1 c
    exact j_jump h (jsub_c rfl jsub_0)
  · have h := h.2 c
    refine j_aload_n (j := 0) dd_P_nextToken_19 rfl rfl ?_
    refine gf_9_0 dd_P_nextToken_20 wd_211 ?_
    refine j_aload_n (j := 0) dd_P_nextToken_23 rfl rfl ?_
    refine gf_9_2 dd_P_nextToken_24 wd_215 ?_
    refine ld_10 dd_P_nextToken_27 h.1 ?_
    have h := h.2
    refine j_bipush dd_P_nextToken_28 rfl (inRd rfl) ?_
    refine j_icmp_ne (tgt := 46) dd_P_nextToken_30 (by decide) (fun c => ?_) (fun c => ?_)
    · have h := h.1 c
      exact j_jump h (jsub_c rfl jsub_0)
    · have h := h.2 c
      refine j_aload_n (j := 0) dd_P_nextToken_33 rfl rfl ?_
      refine j_dup dd_P_nextToken_34 rfl ?_
      refine gf_9_2 dd_P_nextToken_35 wd_215 ?_
      refine j_iconst dd_P_nextToken_38 (inRd rfl) ?_
      refine j_iadd dd_P_nextToken_39 ?_
      refine pf_9_2 dd_P_nextToken_40 wd_215 (fun M1 eM1 => ?_)
      have h := h M1 eM1
      refine j_goto (tgt := 8) dd_P_nextToken_43 (by decide) ?_
      exact j_jump h (jsub_c rfl jsub_0)
theorem vc_P_nextToken_46 {E : EE} {Q : Int → JM → Prop}  (M : JM) (h : ∀ M1 : JM, M1 = pt M 9 0 4 (M 9 0 2) → ((M1 9 0 2 < M1 9 0 1 → (0 ≤ M1 9 0 2 ∧ M1 9 0 2 < 160) ∧ JC E mm_P_isLetter [vI (M1 10 0 ((M1 9 0 2).toNat))] M1 (fun a3 M2 => ((a3 = 0 → (0 ≤ M2 9 0 2 ∧ M2 9 0 2 < 160) ∧ JC E mm_P_isFigure [vI (M2 10 0 ((M2 9 0 2).toNat))] M2 (fun a5 M4 => ((a5 = 0 → (0 ≤ M4 9 0 2 ∧ M4 9 0 2 < 160) ∧ ((M4 10 0 ((M4 9 0 2).toNat) ≠ 59 → JG E mm_P_nextToken Q 164 [(0, vR 9 0)] [vI 4, vR 9 0] M4) ∧ (M4 10 0 ((M4 9 0 2).toNat) = 59 → JG E mm_P_nextToken Q 164 [(0, vR 9 0)] [vI 3, vR 9 0] M4))) ∧ (a5 ≠ 0 → JC E mm_P_skipFigures [vR 9 0] M4 (fun a7 M6 => ((w32 (M6 9 0 2 - (M6 9 0 4)) ≤ 2 → JG E mm_P_nextToken Q 138 [(0, vR 9 0)] [vI 2, vR 9 0] M6) ∧ (2 < w32 (M6 9 0 2 - (M6 9 0 4)) → JG E mm_P_nextToken Q 138 [(0, vR 9 0)] [vI 4, vR 9 0] M6))))))) ∧ (a3 ≠ 0 → ∀ M8 : JM, M8 = pt M2 9 0 3 1 → JC E mm_P_skipLetters [vR 9 0] M8 (fun a10 M9 => JG E mm_P_nextToken Q 177 [(0, vR 9 0)] [] M9))))) ∧ (M1 9 0 1 ≤ M1 9 0 2 → ∀ M11 : JM, M11 = pt M1 9 0 3 0 → JG E mm_P_nextToken Q 177 [(0, vR 9 0)] [] M11))) : JG E mm_P_nextToken Q 46 [(0, vR 9 0)] [] M := by
  refine j_aload_n (j := 0) dd_P_nextToken_46 rfl rfl ?_
  refine j_aload_n (j := 0) dd_P_nextToken_47 rfl rfl ?_
  refine gf_9_2 dd_P_nextToken_48 wd_215 ?_
  refine pf_9_4 dd_P_nextToken_51 wd_217 (fun M1 eM1 => ?_)
  have h := h M1 eM1
  refine j_aload_n (j := 0) dd_P_nextToken_54 rfl rfl ?_
  refine gf_9_2 dd_P_nextToken_55 wd_215 ?_
  refine j_aload_n (j := 0) dd_P_nextToken_58 rfl rfl ?_
  refine gf_9_1 dd_P_nextToken_59 wd_213 ?_
  refine j_icmp_lt (tgt := 73) dd_P_nextToken_62 (by decide) (fun c => ?_) (fun c => ?_)
  · have h := h.1 c
    refine j_aload_n (j := 0) dd_P_nextToken_73 rfl rfl ?_
    refine gf_9_0 dd_P_nextToken_74 wd_211 ?_
    refine j_aload_n (j := 0) dd_P_nextToken_77 rfl rfl ?_
    refine gf_9_2 dd_P_nextToken_78 wd_215 ?_
    refine ld_10 dd_P_nextToken_81 h.1 ?_
    have h := h.2
    refine j_cSI (mm' := mm_P_isLetter) (As := [vI (M1 10 0 ((M1 9 0 2).toNat))]) (rest := []) h dd_P_nextToken_82 (ws4 wd_351 wd_352 wd_67 wd_353) nk_P_isLetter (rok rfl) (Nat.le_of_ble_eq_true rfl) (fun _ => rfl) (fun a3 M2 h => ?_)
    refine j_if_eq (tgt := 100) dd_P_nextToken_85 (by decide) (fun c => ?_) (fun c => ?_)
    · have h := h.1 c
      refine j_aload_n (j := 0) dd_P_nextToken_100 rfl rfl ?_
      refine gf_9_0 dd_P_nextToken_101 wd_211 ?_
      refine j_aload_n (j := 0) dd_P_nextToken_104 rfl rfl ?_
      refine gf_9_2 dd_P_nextToken_105 wd_215 ?_
      refine ld_10 dd_P_nextToken_108 h.1 ?_
      have h := h.2
      refine j_cSI (mm' := mm_P_isFigure) (As := [vI (M2 10 0 ((M2 9 0 2).toNat))]) (rest := []) h dd_P_nextToken_109 (ws4 wd_358 wd_359 wd_67 wd_360) nk_P_isFigure (rok rfl) (Nat.le_of_ble_eq_true rfl) (fun _ => rfl) (fun a5 M4 h => ?_)
      refine j_if_eq (tgt := 144) dd_P_nextToken_112 (by decide) (fun c => ?_) (fun c => ?_)
      · have h := h.1 c
        refine j_aload_n (j := 0) dd_P_nextToken_144 rfl rfl ?_
        refine j_aload_n (j := 0) dd_P_nextToken_145 rfl rfl ?_
        refine gf_9_0 dd_P_nextToken_146 wd_211 ?_
        refine j_aload_n (j := 0) dd_P_nextToken_149 rfl rfl ?_
        refine gf_9_2 dd_P_nextToken_150 wd_215 ?_
        refine ld_10 dd_P_nextToken_153 h.1 ?_
        have h := h.2
        refine j_bipush dd_P_nextToken_154 rfl (inRd rfl) ?_
        refine j_icmp_ne (tgt := 163) dd_P_nextToken_156 (by decide) (fun c => ?_) (fun c => ?_)
        · have h := h.1 c
          refine j_iconst dd_P_nextToken_163 (inRd rfl) ?_
          exact j_jump h (jsub_c rfl jsub_0)
        · have h := h.2 c
          refine j_iconst dd_P_nextToken_159 (inRd rfl) ?_
          refine j_goto (tgt := 164) dd_P_nextToken_160 (by decide) ?_
          exact j_jump h (jsub_c rfl jsub_0)
      · have h := h.2 c
        refine j_aload_n (j := 0) dd_P_nextToken_115 rfl rfl ?_
        refine j_cVV (mm' := mm_P_skipFigures) (t := 9) (i := 0) (As := []) (rest := []) h dd_P_nextToken_116 (ws5 wd_361 wd_363 wd_2 wd_67 wd_364) nk_P_skipFigures (rok rfl) (by unfold isW; omega) ⟨_, ce_9 _⟩ rfl (Nat.le_of_ble_eq_true rfl) (fun _ => rfl) (fun a7 M6 h => ?_)
        refine j_aload_n (j := 0) dd_P_nextToken_119 rfl rfl ?_
        refine j_aload_n (j := 0) dd_P_nextToken_120 rfl rfl ?_
        refine gf_9_2 dd_P_nextToken_121 wd_215 ?_
        refine j_aload_n (j := 0) dd_P_nextToken_124 rfl rfl ?_
        refine gf_9_4 dd_P_nextToken_125 wd_217 ?_
        refine j_isub dd_P_nextToken_128 ?_
        refine j_iconst dd_P_nextToken_129 (inRd rfl) ?_
        refine j_icmp_le (tgt := 137) dd_P_nextToken_130 (by decide) (fun c => ?_) (fun c => ?_)
        · have h := h.1 c
          refine j_iconst dd_P_nextToken_137 (inRd rfl) ?_
          exact j_jump h (jsub_c rfl jsub_0)
        · have h := h.2 c
          refine j_iconst dd_P_nextToken_133 (inRd rfl) ?_
          refine j_goto (tgt := 138) dd_P_nextToken_134 (by decide) ?_
          exact j_jump h (jsub_c rfl jsub_0)
    · have h := h.2 c
      refine j_aload_n (j := 0) dd_P_nextToken_88 rfl rfl ?_
      refine j_iconst dd_P_nextToken_89 (inRd rfl) ?_
      refine pf_9_3 dd_P_nextToken_90 wd_216 (fun M8 eM8 => ?_)
      have h := h M8 eM8
      refine j_aload_n (j := 0) dd_P_nextToken_93 rfl rfl ?_
      refine j_cVV (mm' := mm_P_skipLetters) (t := 9) (i := 0) (As := []) (rest := []) h dd_P_nextToken_94 (ws5 wd_354 wd_356 wd_1 wd_67 wd_357) nk_P_skipLetters (rok rfl) (by unfold isW; omega) ⟨_, ce_9 _⟩ rfl (Nat.le_of_ble_eq_true rfl) (fun _ => rfl) (fun a10 M9 h => ?_)
      refine j_goto (tgt := 177) dd_P_nextToken_97 (by decide) ?_
      exact j_jump h (jsub_c rfl jsub_0)
  · have h := h.2 c
    refine j_aload_n (j := 0) dd_P_nextToken_65 rfl rfl ?_
    refine j_iconst dd_P_nextToken_66 (inRd rfl) ?_
    refine pf_9_3 dd_P_nextToken_67 wd_216 (fun M11 eM11 => ?_)
    have h := h M11 eM11
    refine j_goto (tgt := 177) dd_P_nextToken_70 (by decide) ?_
    exact j_jump h (jsub_c rfl jsub_0)
theorem vc_P_nextToken_138 {E : EE} {Q : Int → JM → Prop} (s1 : Int) (M : JM) (h : ∀ M1 : JM, M1 = pt M 9 0 3 s1 → JG E mm_P_nextToken Q 177 [(0, vR 9 0)] [] M1) : JG E mm_P_nextToken Q 138 [(0, vR 9 0)] [vI s1, vR 9 0] M := by
  refine pf_9_3 dd_P_nextToken_138 wd_216 (fun M1 eM1 => ?_)
  have h := h M1 eM1
  refine j_goto (tgt := 177) dd_P_nextToken_141 (by decide) ?_
  exact j_jump h (jsub_c rfl jsub_0)
theorem vc_P_nextToken_164 {E : EE} {Q : Int → JM → Prop} (s1 : Int) (M : JM) (h : ∀ M1 : JM, M1 = pt M 9 0 3 s1 → ∀ M2 : JM, M2 = pt M1 9 0 2 (w32 (M1 9 0 2 + 1)) → JG E mm_P_nextToken Q 177 [(0, vR 9 0)] [] M2) : JG E mm_P_nextToken Q 164 [(0, vR 9 0)] [vI s1, vR 9 0] M := by
  refine pf_9_3 dd_P_nextToken_164 wd_216 (fun M1 eM1 => ?_)
  have h := h M1 eM1
  refine j_aload_n (j := 0) dd_P_nextToken_167 rfl rfl ?_
  refine j_dup dd_P_nextToken_168 rfl ?_
  refine gf_9_2 dd_P_nextToken_169 wd_215 ?_
  refine j_iconst dd_P_nextToken_172 (inRd rfl) ?_
  refine j_iadd dd_P_nextToken_173 ?_
  refine pf_9_2 dd_P_nextToken_174 wd_215 (fun M2 eM2 => ?_)
  have h := h M2 eM2
  exact j_jump h (jsub_c rfl jsub_0)
theorem vc_P_nextToken_177 {E : EE} {Q : Int → JM → Prop}  (M : JM) (h : ((M 9 0 3 ≠ 4 → Q 0 M) ∧ (M 9 0 3 = 4 → JC E mm_P_fail [vR 9 0, vI 1] M (fun a2 M1 => Q 0 M1)))) : JG E mm_P_nextToken Q 177 [(0, vR 9 0)] [] M := by
  refine j_aload_n (j := 0) dd_P_nextToken_177 rfl rfl ?_
  refine gf_9_3 dd_P_nextToken_178 wd_216 ?_
  refine j_iconst dd_P_nextToken_181 (inRd rfl) ?_
  refine j_icmp_ne (tgt := 190) dd_P_nextToken_182 (by decide) (fun c => ?_) (fun c => ?_)
  · have h := h.1 c
    exact j_vret dd_P_nextToken_190 rfl h
  · have h := h.2 c
    refine j_aload_n (j := 0) dd_P_nextToken_185 rfl rfl ?_
    refine j_iconst dd_P_nextToken_186 (inRd rfl) ?_
    refine j_cVV (mm' := mm_P_fail) (t := 9) (i := 0) (As := [vI 1]) (rest := []) h dd_P_nextToken_187 (ws5 wd_365 wd_367 wd_3 wd_67 wd_368) nk_P_fail (rok rfl) (by unfold isW; omega) ⟨_, ce_9 _⟩ rfl (Nat.le_of_ble_eq_true rfl) (fun _ => rfl) (fun a2 M1 h => ?_)
    exact j_vret dd_P_nextToken_190 rfl h
theorem vc_P_skipLetters {E : EE} {Q : Int → JM → Prop}  (M : JM) (h : JG E mm_P_skipLetters Q 0 [(0, vR 9 0)] [] M) : JC E mm_P_skipLetters [vR 9 0] M Q := by
  refine j_entry (L0 := [(0, vR 9 0)]) pn_P (Nat.le_of_ble_eq_true rfl) rfl ?_
  exact j_jump h (jsub_c rfl jsub_0)
theorem vc_P_skipLetters_0 {E : EE} {Q : Int → JM → Prop}  (M : JM) (h : ((M 9 0 1 ≤ M 9 0 2 → Q 0 M) ∧ (M 9 0 2 < M 9 0 1 → (0 ≤ M 9 0 2 ∧ M 9 0 2 < 160) ∧ JC E mm_P_isLetter [vI (M 10 0 ((M 9 0 2).toNat))] M (fun a2 M1 => ((a2 = 0 → Q 0 M1) ∧ (a2 ≠ 0 → ∀ M3 : JM, M3 = pt M1 9 0 2 (w32 (M1 9 0 2 + 1)) → JG E mm_P_skipLetters Q 0 [(0, vR 9 0)] [] M3)))))) : JG E mm_P_skipLetters Q 0 [(0, vR 9 0)] [] M := by
  refine j_aload_n (j := 0) dd_P_skipLetters_0 rfl rfl ?_
  refine gf_9_2 dd_P_skipLetters_1 wd_215 ?_
  refine j_aload_n (j := 0) dd_P_skipLetters_4 rfl rfl ?_
  refine gf_9_1 dd_P_skipLetters_5 wd_213 ?_
  refine j_icmp_ge (tgt := 39) dd_P_skipLetters_8 (by decide) (fun c => ?_) (fun c => ?_)
  · have h := h.1 c
    exact j_vret dd_P_skipLetters_39 rfl h
  · have h := h.2 c
    refine j_aload_n (j := 0) dd_P_skipLetters_11 rfl rfl ?_
    refine gf_9_0 dd_P_skipLetters_12 wd_211 ?_
    refine j_aload_n (j := 0) dd_P_skipLetters_15 rfl rfl ?_
    refine gf_9_2 dd_P_skipLetters_16 wd_215 ?_
    refine ld_10 dd_P_skipLetters_19 h.1 ?_
    have h := h.2
    refine j_cSI (mm' := mm_P_isLetter) (As := [vI (M 10 0 ((M 9 0 2).toNat))]) (rest := []) h dd_P_skipLetters_20 (ws4 wd_351 wd_352 wd_67 wd_353) nk_P_isLetter (rok rfl) (Nat.le_of_ble_eq_true rfl) (fun _ => rfl) (fun a2 M1 h => ?_)
    refine j_if_eq (tgt := 39) dd_P_skipLetters_23 (by decide) (fun c => ?_) (fun c => ?_)
    · have h := h.1 c
      exact j_vret dd_P_skipLetters_39 rfl h
    · have h := h.2 c
      refine j_aload_n (j := 0) dd_P_skipLetters_26 rfl rfl ?_
      refine j_dup dd_P_skipLetters_27 rfl ?_
      refine gf_9_2 dd_P_skipLetters_28 wd_215 ?_
      refine j_iconst dd_P_skipLetters_31 (inRd rfl) ?_
      refine j_iadd dd_P_skipLetters_32 ?_
      refine pf_9_2 dd_P_skipLetters_33 wd_215 (fun M3 eM3 => ?_)
      have h := h M3 eM3
      refine j_goto (tgt := 0) dd_P_skipLetters_36 (by decide) ?_
      exact j_jump h (jsub_c rfl jsub_0)
theorem vc_P_skipFigures {E : EE} {Q : Int → JM → Prop}  (M : JM) (h : JG E mm_P_skipFigures Q 0 [(0, vR 9 0)] [] M) : JC E mm_P_skipFigures [vR 9 0] M Q := by
  refine j_entry (L0 := [(0, vR 9 0)]) pn_P (Nat.le_of_ble_eq_true rfl) rfl ?_
  exact j_jump h (jsub_c rfl jsub_0)
theorem vc_P_skipFigures_0 {E : EE} {Q : Int → JM → Prop}  (M : JM) (h : ((M 9 0 1 ≤ M 9 0 2 → Q 0 M) ∧ (M 9 0 2 < M 9 0 1 → (0 ≤ M 9 0 2 ∧ M 9 0 2 < 160) ∧ JC E mm_P_isFigure [vI (M 10 0 ((M 9 0 2).toNat))] M (fun a2 M1 => ((a2 = 0 → Q 0 M1) ∧ (a2 ≠ 0 → ∀ M3 : JM, M3 = pt M1 9 0 2 (w32 (M1 9 0 2 + 1)) → JG E mm_P_skipFigures Q 0 [(0, vR 9 0)] [] M3)))))) : JG E mm_P_skipFigures Q 0 [(0, vR 9 0)] [] M := by
  refine j_aload_n (j := 0) dd_P_skipFigures_0 rfl rfl ?_
  refine gf_9_2 dd_P_skipFigures_1 wd_215 ?_
  refine j_aload_n (j := 0) dd_P_skipFigures_4 rfl rfl ?_
  refine gf_9_1 dd_P_skipFigures_5 wd_213 ?_
  refine j_icmp_ge (tgt := 39) dd_P_skipFigures_8 (by decide) (fun c => ?_) (fun c => ?_)
  · have h := h.1 c
    exact j_vret dd_P_skipFigures_39 rfl h
  · have h := h.2 c
    refine j_aload_n (j := 0) dd_P_skipFigures_11 rfl rfl ?_
    refine gf_9_0 dd_P_skipFigures_12 wd_211 ?_
    refine j_aload_n (j := 0) dd_P_skipFigures_15 rfl rfl ?_
    refine gf_9_2 dd_P_skipFigures_16 wd_215 ?_
    refine ld_10 dd_P_skipFigures_19 h.1 ?_
    have h := h.2
    refine j_cSI (mm' := mm_P_isFigure) (As := [vI (M 10 0 ((M 9 0 2).toNat))]) (rest := []) h dd_P_skipFigures_20 (ws4 wd_358 wd_359 wd_67 wd_360) nk_P_isFigure (rok rfl) (Nat.le_of_ble_eq_true rfl) (fun _ => rfl) (fun a2 M1 h => ?_)
    refine j_if_eq (tgt := 39) dd_P_skipFigures_23 (by decide) (fun c => ?_) (fun c => ?_)
    · have h := h.1 c
      exact j_vret dd_P_skipFigures_39 rfl h
    · have h := h.2 c
      refine j_aload_n (j := 0) dd_P_skipFigures_26 rfl rfl ?_
      refine j_dup dd_P_skipFigures_27 rfl ?_
      refine gf_9_2 dd_P_skipFigures_28 wd_215 ?_
      refine j_iconst dd_P_skipFigures_31 (inRd rfl) ?_
      refine j_iadd dd_P_skipFigures_32 ?_
      refine pf_9_2 dd_P_skipFigures_33 wd_215 (fun M3 eM3 => ?_)
      have h := h M3 eM3
      refine j_goto (tgt := 0) dd_P_skipFigures_36 (by decide) ?_
      exact j_jump h (jsub_c rfl jsub_0)
theorem vc_P_isLetter {E : EE} {Q : Int → JM → Prop} (x1 : Int) (M : JM) (h : ((x1 < 97 → Q 0 M) ∧ (97 ≤ x1 → ((122 < x1 → Q 0 M) ∧ (x1 ≤ 122 → Q 1 M))))) : JC E mm_P_isLetter [vI x1] M Q := by
  refine j_entry (L0 := [(0, vI x1)]) pn_P (Nat.le_of_ble_eq_true rfl) rfl ?_
  refine j_iload_n (j := 0) dd_P_isLetter_0 rfl rfl ?_
  refine j_bipush dd_P_isLetter_1 rfl (inRd rfl) ?_
  refine j_icmp_lt (tgt := 16) dd_P_isLetter_3 (by decide) (fun c => ?_) (fun c => ?_)
  · have h := h.1 c
    refine j_iconst dd_P_isLetter_16 (inRd rfl) ?_
    exact j_zret dd_P_isLetter_17 rfl (Or.inl rfl) h
  · have h := h.2 c
    refine j_iload_n (j := 0) dd_P_isLetter_6 rfl rfl ?_
    refine j_bipush dd_P_isLetter_7 rfl (inRd rfl) ?_
    refine j_icmp_gt (tgt := 16) dd_P_isLetter_9 (by decide) (fun c => ?_) (fun c => ?_)
    · have h := h.1 c
      refine j_iconst dd_P_isLetter_16 (inRd rfl) ?_
      exact j_zret dd_P_isLetter_17 rfl (Or.inl rfl) h
    · have h := h.2 c
      refine j_iconst dd_P_isLetter_12 (inRd rfl) ?_
      refine j_goto (tgt := 17) dd_P_isLetter_13 (by decide) ?_
      exact j_zret dd_P_isLetter_17 rfl (Or.inr rfl) h
theorem vc_P_isFigure {E : EE} {Q : Int → JM → Prop} (x1 : Int) (M : JM) (h : ((x1 < 48 → Q 0 M) ∧ (48 ≤ x1 → ((57 < x1 → Q 0 M) ∧ (x1 ≤ 57 → Q 1 M))))) : JC E mm_P_isFigure [vI x1] M Q := by
  refine j_entry (L0 := [(0, vI x1)]) pn_P (Nat.le_of_ble_eq_true rfl) rfl ?_
  refine j_iload_n (j := 0) dd_P_isFigure_0 rfl rfl ?_
  refine j_bipush dd_P_isFigure_1 rfl (inRd rfl) ?_
  refine j_icmp_lt (tgt := 16) dd_P_isFigure_3 (by decide) (fun c => ?_) (fun c => ?_)
  · have h := h.1 c
    refine j_iconst dd_P_isFigure_16 (inRd rfl) ?_
    exact j_zret dd_P_isFigure_17 rfl (Or.inl rfl) h
  · have h := h.2 c
    refine j_iload_n (j := 0) dd_P_isFigure_6 rfl rfl ?_
    refine j_bipush dd_P_isFigure_7 rfl (inRd rfl) ?_
    refine j_icmp_gt (tgt := 16) dd_P_isFigure_9 (by decide) (fun c => ?_) (fun c => ?_)
    · have h := h.1 c
      refine j_iconst dd_P_isFigure_16 (inRd rfl) ?_
      exact j_zret dd_P_isFigure_17 rfl (Or.inl rfl) h
    · have h := h.2 c
      refine j_iconst dd_P_isFigure_12 (inRd rfl) ?_
      refine j_goto (tgt := 17) dd_P_isFigure_13 (by decide) ?_
      exact j_zret dd_P_isFigure_17 rfl (Or.inr rfl) h
theorem vc_P_numberOfToken {E : EE} {Q : Int → JM → Prop}  (M : JM) (h : ∀ a1 : Int, a1 = M 9 0 4 → JG E mm_P_numberOfToken Q 7 [(0, vR 9 0), (1, vI 0), (2, vI a1)] [] M) : JC E mm_P_numberOfToken [vR 9 0] M Q := by
  refine j_entry (L0 := [(0, vR 9 0)]) pn_P (Nat.le_of_ble_eq_true rfl) rfl ?_
  refine j_iconst dd_P_numberOfToken_0 (inRd rfl) ?_
  refine j_istore_n (j := 1) dd_P_numberOfToken_1 rfl (by decide) rfl ?_
  refine j_aload_n (j := 0) dd_P_numberOfToken_2 rfl rfl ?_
  refine gf_9_4 dd_P_numberOfToken_3 wd_217 ?_
  refine j_topI (fun a1 ea1 => ?_)
  have h := h a1 ea1
  refine j_istore_n (j := 2) dd_P_numberOfToken_6 rfl (by decide) rfl ?_
  exact j_jump h (jsub_c rfl (jsub_c rfl (jsub_c rfl jsub_0)))
theorem vc_P_numberOfToken_7 {E : EE} {Q : Int → JM → Prop} (l1 : Int) (l2 : Int) (M : JM) (h : ((M 9 0 2 ≤ l2 → Q l1 M) ∧ (l2 < M 9 0 2 → ((160 ≤ l2 → Q l1 M) ∧ (l2 < 160 → (0 ≤ l2 ∧ l2 < 160) ∧ ∀ a1 : Int, a1 = w32 (w32 (w32 (10 * l1) + (M 10 0 l2.toNat)) - 48) → ∀ a2 : Int, a2 = w32 (l2 + 1) → JG E mm_P_numberOfToken Q 7 [(0, vR 9 0), (1, vI a1), (2, vI a2)] [] M))))) : JG E mm_P_numberOfToken Q 7 [(0, vR 9 0), (1, vI l1), (2, vI l2)] [] M := by
  refine j_iload_n (j := 2) dd_P_numberOfToken_7 rfl rfl ?_
  refine j_aload_n (j := 0) dd_P_numberOfToken_8 rfl rfl ?_
  refine gf_9_2 dd_P_numberOfToken_9 wd_215 ?_
  refine j_icmp_ge (tgt := 43) dd_P_numberOfToken_12 (by decide) (fun c => ?_) (fun c => ?_)
  · have h := h.1 c
    refine j_iload_n (j := 1) dd_P_numberOfToken_43 rfl rfl ?_
    exact j_iret dd_P_numberOfToken_44 rfl h
  · have h := h.2 c
    refine j_iload_n (j := 2) dd_P_numberOfToken_15 rfl rfl ?_
    refine j_sipush dd_P_numberOfToken_16 rfl (inRd rfl) ?_
    refine j_icmp_ge (tgt := 43) dd_P_numberOfToken_19 (by decide) (fun c => ?_) (fun c => ?_)
    · have h := h.1 c
      refine j_iload_n (j := 1) dd_P_numberOfToken_43 rfl rfl ?_
      exact j_iret dd_P_numberOfToken_44 rfl h
    · have h := h.2 c
      refine j_bipush dd_P_numberOfToken_22 rfl (inRd rfl) ?_
      refine j_iload_n (j := 1) dd_P_numberOfToken_24 rfl rfl ?_
      refine j_imul dd_P_numberOfToken_25 ?_
      refine j_aload_n (j := 0) dd_P_numberOfToken_26 rfl rfl ?_
      refine gf_9_0 dd_P_numberOfToken_27 wd_211 ?_
      refine j_iload_n (j := 2) dd_P_numberOfToken_30 rfl rfl ?_
      refine ld_10 dd_P_numberOfToken_31 h.1 ?_
      have h := h.2
      refine j_iadd dd_P_numberOfToken_32 ?_
      refine j_bipush dd_P_numberOfToken_33 rfl (inRd rfl) ?_
      refine j_isub dd_P_numberOfToken_35 ?_
      refine j_topI (fun a1 ea1 => ?_)
      have h := h a1 ea1
      refine j_istore_n (j := 1) dd_P_numberOfToken_36 rfl (by decide) rfl ?_
      refine j_iincN dd_P_numberOfToken_37 rfl rfl (fun a2 ea2 => ?_)
      have h := h a2 ea2
      refine j_goto (tgt := 7) dd_P_numberOfToken_40 (by decide) ?_
      exact j_jump h (jsub_c rfl (jsub_c rfl (jsub_c rfl jsub_0)))
theorem vc_T_startAfresh {E : EE} {Q : Int → JM → Prop} (u : Nat) (M : JM) (h : ∀ M1 : JM, M1 = pt M 3 u 2 0 → ∀ M2 : JM, M2 = pt M1 3 u 3 0 → ∀ M3 : JM, M3 = pt M2 3 u 4 2 → ∀ M4 : JM, M4 = pt M3 3 u 5 2 → ∀ M5 : JM, M5 = pt M4 3 u 6 0 → Q 0 M5) : JC E mm_T_startAfresh [vR 3 u] M Q := by
  refine j_entry (L0 := [(0, vR 3 u)]) pn_T (Nat.le_of_ble_eq_true rfl) rfl ?_
  refine j_aload_n (j := 0) dd_T_startAfresh_0 rfl rfl ?_
  refine j_iconst dd_T_startAfresh_1 (inRd rfl) ?_
  refine pf_3_2 dd_T_startAfresh_2 wd_163 (fun M1 eM1 => ?_)
  have h := h M1 eM1
  refine j_aload_n (j := 0) dd_T_startAfresh_5 rfl rfl ?_
  refine j_iconst dd_T_startAfresh_6 (inRd rfl) ?_
  refine pf_3_3 dd_T_startAfresh_7 wd_166 (fun M2 eM2 => ?_)
  have h := h M2 eM2
  refine j_aload_n (j := 0) dd_T_startAfresh_10 rfl rfl ?_
  refine j_iconst dd_T_startAfresh_11 (inRd rfl) ?_
  refine pf_3_4 dd_T_startAfresh_12 wd_169 (fun M3 eM3 => ?_)
  have h := h M3 eM3
  refine j_aload_n (j := 0) dd_T_startAfresh_15 rfl rfl ?_
  refine j_iconst dd_T_startAfresh_16 (inRd rfl) ?_
  refine pf_3_5 dd_T_startAfresh_17 wd_172 (fun M4 eM4 => ?_)
  have h := h M4 eM4
  refine j_aload_n (j := 0) dd_T_startAfresh_20 rfl rfl ?_
  refine j_iconst dd_T_startAfresh_21 (inRd rfl) ?_
  refine pf_3_6 dd_T_startAfresh_22 wd_175 (fun M5 eM5 => ?_)
  have h := h M5 eM5
  exact j_vret dd_T_startAfresh_25 rfl h
theorem vc_T_copyFrom {E : EE} {Q : Int → JM → Prop} (u : Nat) (r1 : Nat) (M : JM) (h : ∀ M1 : JM, M1 = pt M 3 u 2 (M 3 r1 2) → ∀ M2 : JM, M2 = pt M1 3 u 3 (M1 3 r1 3) → ∀ M3 : JM, M3 = pt M2 3 u 4 (M2 3 r1 4) → ∀ M4 : JM, M4 = pt M3 3 u 5 (M3 3 r1 5) → ∀ M5 : JM, M5 = pt M4 3 u 6 (M4 3 r1 6) → JG E mm_T_copyFrom Q 42 [(0, vR 3 u), (1, vR 3 r1), (2, vI 0)] [] M5) : JC E mm_T_copyFrom [vR 3 u, vR 3 r1] M Q := by
  refine j_entry (L0 := [(0, vR 3 u), (1, vR 3 r1)]) pn_T (Nat.le_of_ble_eq_true rfl) rfl ?_
  refine j_aload_n (j := 0) dd_T_copyFrom_0 rfl rfl ?_
  refine j_aload_n (j := 1) dd_T_copyFrom_1 rfl rfl ?_
  refine gf_3_2 dd_T_copyFrom_2 wd_163 ?_
  refine pf_3_2 dd_T_copyFrom_5 wd_163 (fun M1 eM1 => ?_)
  have h := h M1 eM1
  refine j_aload_n (j := 0) dd_T_copyFrom_8 rfl rfl ?_
  refine j_aload_n (j := 1) dd_T_copyFrom_9 rfl rfl ?_
  refine gf_3_3 dd_T_copyFrom_10 wd_166 ?_
  refine pf_3_3 dd_T_copyFrom_13 wd_166 (fun M2 eM2 => ?_)
  have h := h M2 eM2
  refine j_aload_n (j := 0) dd_T_copyFrom_16 rfl rfl ?_
  refine j_aload_n (j := 1) dd_T_copyFrom_17 rfl rfl ?_
  refine gf_3_4 dd_T_copyFrom_18 wd_169 ?_
  refine pf_3_4 dd_T_copyFrom_21 wd_169 (fun M3 eM3 => ?_)
  have h := h M3 eM3
  refine j_aload_n (j := 0) dd_T_copyFrom_24 rfl rfl ?_
  refine j_aload_n (j := 1) dd_T_copyFrom_25 rfl rfl ?_
  refine gf_3_5 dd_T_copyFrom_26 wd_172 ?_
  refine pf_3_5 dd_T_copyFrom_29 wd_172 (fun M4 eM4 => ?_)
  have h := h M4 eM4
  refine j_aload_n (j := 0) dd_T_copyFrom_32 rfl rfl ?_
  refine j_aload_n (j := 1) dd_T_copyFrom_33 rfl rfl ?_
  refine gf_3_6 dd_T_copyFrom_34 wd_175 ?_
  refine pf_3_6 dd_T_copyFrom_37 wd_175 (fun M5 eM5 => ?_)
  have h := h M5 eM5
  refine j_iconst dd_T_copyFrom_40 (inRd rfl) ?_
  refine j_istore_n (j := 2) dd_T_copyFrom_41 rfl (by decide) rfl ?_
  exact j_jump h (jsub_c rfl (jsub_c rfl (jsub_c rfl jsub_0)))
theorem vc_T_copyFrom_42 {E : EE} {Q : Int → JM → Prop} (u : Nat) (r1 : Nat) (l2 : Int) (M : JM) (h : ((M 3 u 2 ≤ l2 → JG E mm_T_copyFrom Q 73 [(0, vR 3 u), (1, vR 3 r1), (2, vI 0)] [] M) ∧ (l2 < M 3 u 2 → (0 ≤ l2 ∧ l2 < 8) ∧ (0 ≤ l2 ∧ l2 < 8) ∧ JC E mm_G_copyFrom [vR 1 (8 * u + l2.toNat), vR 1 (8 * r1 + l2.toNat)] M (fun a2 M1 => ∀ a3 : Int, a3 = w32 (l2 + 1) → JG E mm_T_copyFrom Q 42 [(0, vR 3 u), (1, vR 3 r1), (2, vI a3)] [] M1)))) : JG E mm_T_copyFrom Q 42 [(0, vR 3 u), (1, vR 3 r1), (2, vI l2)] [] M := by
  refine j_iload_n (j := 2) dd_T_copyFrom_42 rfl rfl ?_
  refine j_aload_n (j := 0) dd_T_copyFrom_43 rfl rfl ?_
  refine gf_3_2 dd_T_copyFrom_44 wd_163 ?_
  refine j_icmp_ge (tgt := 71) dd_T_copyFrom_47 (by decide) (fun c => ?_) (fun c => ?_)
  · have h := h.1 c
    refine j_iconst dd_T_copyFrom_71 (inRd rfl) ?_
    refine j_istore_n (j := 2) dd_T_copyFrom_72 rfl (by decide) rfl ?_
    exact j_jump h (jsub_c rfl (jsub_c rfl (jsub_c rfl jsub_0)))
  · have h := h.2 c
    refine j_aload_n (j := 0) dd_T_copyFrom_50 rfl rfl ?_
    refine gf_3_0 dd_T_copyFrom_51 wd_159 ?_
    refine j_iload_n (j := 2) dd_T_copyFrom_54 rfl rfl ?_
    refine ld_4 dd_T_copyFrom_55 h.1 ?_
    have h := h.2
    refine j_aload_n (j := 1) dd_T_copyFrom_56 rfl rfl ?_
    refine gf_3_0 dd_T_copyFrom_57 wd_159 ?_
    refine j_iload_n (j := 2) dd_T_copyFrom_60 rfl rfl ?_
    refine ld_4 dd_T_copyFrom_61 h.1 ?_
    have h := h.2
    refine j_cVV (mm' := mm_G_copyFrom) (t := 1) (i := (8 * u + l2.toNat)) (As := [vR 1 (8 * r1 + l2.toNat)]) (rest := []) h dd_T_copyFrom_62 (ws5 wd_483 wd_484 wd_485 wd_65 wd_486) nk_G_copyFrom (rok rfl) (by unfold isW; omega) ⟨_, ce_1 _⟩ rfl (Nat.le_of_ble_eq_true rfl) (fun _ => rfl) (fun a2 M1 h => ?_)
    refine j_iincN dd_T_copyFrom_65 rfl rfl (fun a3 ea3 => ?_)
    have h := h a3 ea3
    refine j_goto (tgt := 42) dd_T_copyFrom_68 (by decide) ?_
    exact j_jump h (jsub_c rfl (jsub_c rfl (jsub_c rfl jsub_0)))
theorem vc_T_copyFrom_73 {E : EE} {Q : Int → JM → Prop} (u : Nat) (r1 : Nat) (l2 : Int) (M : JM) (h : ((M 3 u 3 ≤ l2 → ∀ M1 : JM, M1 = pt M 3 u 7 0 → ∀ M2 : JM, M2 = pt M1 3 u 8 0 → ∀ M3 : JM, M3 = pt M2 3 u 9 0 → Q 0 M3) ∧ (l2 < M 3 u 3 → (0 ≤ l2 ∧ l2 < 4) ∧ (0 ≤ l2 ∧ l2 < 4) ∧ JC E mm_O_copyFrom [vR 2 (4 * u + (M 5 u l2.toNat).toNat), vR 2 (4 * r1 + (M 5 r1 l2.toNat).toNat)] M (fun a5 M4 => ∀ a6 : Int, a6 = w32 (l2 + 1) → JG E mm_T_copyFrom Q 73 [(0, vR 3 u), (1, vR 3 r1), (2, vI a6)] [] M4)))) : JG E mm_T_copyFrom Q 73 [(0, vR 3 u), (1, vR 3 r1), (2, vI l2)] [] M := by
  refine j_iload_n (j := 2) dd_T_copyFrom_73 rfl rfl ?_
  refine j_aload_n (j := 0) dd_T_copyFrom_74 rfl rfl ?_
  refine gf_3_3 dd_T_copyFrom_75 wd_166 ?_
  refine j_icmp_ge (tgt := 102) dd_T_copyFrom_78 (by decide) (fun c => ?_) (fun c => ?_)
  · have h := h.1 c
    refine j_aload_n (j := 0) dd_T_copyFrom_102 rfl rfl ?_
    refine j_iconst dd_T_copyFrom_103 (inRd rfl) ?_
    refine pf_3_7 dd_T_copyFrom_104 wd_177 (fun M1 eM1 => ?_)
    have h := h M1 eM1
    refine j_aload_n (j := 0) dd_T_copyFrom_107 rfl rfl ?_
    refine j_iconst dd_T_copyFrom_108 (inRd rfl) ?_
    refine pf_3_8 dd_T_copyFrom_109 wd_179 (fun M2 eM2 => ?_)
    have h := h M2 eM2
    refine j_aload_n (j := 0) dd_T_copyFrom_112 rfl rfl ?_
    refine j_iconst dd_T_copyFrom_113 (inRd rfl) ?_
    refine pf_3_9 dd_T_copyFrom_114 wd_181 (fun M3 eM3 => ?_)
    have h := h M3 eM3
    exact j_vret dd_T_copyFrom_117 rfl h
  · have h := h.2 c
    refine j_aload_n (j := 0) dd_T_copyFrom_81 rfl rfl ?_
    refine gf_3_1 dd_T_copyFrom_82 wd_161 ?_
    refine j_iload_n (j := 2) dd_T_copyFrom_85 rfl rfl ?_
    refine ld_5 dd_T_copyFrom_86 h.1 ?_
    have h := h.2
    refine j_aload_n (j := 1) dd_T_copyFrom_87 rfl rfl ?_
    refine gf_3_1 dd_T_copyFrom_88 wd_161 ?_
    refine j_iload_n (j := 2) dd_T_copyFrom_91 rfl rfl ?_
    refine ld_5 dd_T_copyFrom_92 h.1 ?_
    have h := h.2
    refine j_cVV (mm' := mm_O_copyFrom) (t := 2) (i := (4 * u + (M 5 u l2.toNat).toNat)) (As := [vR 2 (4 * r1 + (M 5 r1 l2.toNat).toNat)]) (rest := []) h dd_T_copyFrom_93 (ws5 wd_487 wd_488 wd_489 wd_66 wd_490) nk_O_copyFrom (rok rfl) (by unfold isW; omega) ⟨_, ce_2 _⟩ rfl (Nat.le_of_ble_eq_true rfl) (fun _ => rfl) (fun a5 M4 h => ?_)
    refine j_iincN dd_T_copyFrom_96 rfl rfl (fun a6 ea6 => ?_)
    have h := h a6 ea6
    refine j_goto (tgt := 73) dd_T_copyFrom_99 (by decide) ?_
    exact j_jump h (jsub_c rfl (jsub_c rfl (jsub_c rfl jsub_0)))
theorem vc_T_addGood {E : EE} {Q : Int → JM → Prop} (u : Nat) (x1 : Int) (x2 : Int) (x3 : Int) (M : JM) (h : ((8 ≤ M 3 u 2 → Q 0 M) ∧ (M 3 u 2 < 8 → (0 ≤ M 3 u 2 ∧ M 3 u 2 < 8) ∧ JC E mm_G_become [vR 1 (8 * u + (M 3 u 2).toNat), vI x1, vI x2, vI x3] M (fun a2 M1 => (0 ≤ M1 3 u 2 ∧ M1 3 u 2 < 8) ∧ ∀ M3 : JM, M3 = pt M1 1 (8 * u + (M1 3 u 2).toNat) 5 0 → ∀ M4 : JM, M4 = pt M3 3 u 2 (w32 (M3 3 u 2 + 1)) → Q 0 M4)))) : JC E mm_T_addGood [vR 3 u, vI x1, vI x2, vI x3] M Q := by
  refine j_entry (L0 := [(0, vR 3 u), (1, vI x1), (2, vI x2), (3, vI x3)]) pn_T (Nat.le_of_ble_eq_true rfl) rfl ?_
  refine j_aload_n (j := 0) dd_T_addGood_0 rfl rfl ?_
  refine gf_3_2 dd_T_addGood_1 wd_163 ?_
  refine j_bipush dd_T_addGood_4 rfl (inRd rfl) ?_
  refine j_icmp_ge (tgt := 47) dd_T_addGood_6 (by decide) (fun c => ?_) (fun c => ?_)
  · have h := h.1 c
    exact j_vret dd_T_addGood_47 rfl h
  · have h := h.2 c
    refine j_aload_n (j := 0) dd_T_addGood_9 rfl rfl ?_
    refine gf_3_0 dd_T_addGood_10 wd_159 ?_
    refine j_aload_n (j := 0) dd_T_addGood_13 rfl rfl ?_
    refine gf_3_2 dd_T_addGood_14 wd_163 ?_
    refine ld_4 dd_T_addGood_17 h.1 ?_
    have h := h.2
    refine j_iload_n (j := 1) dd_T_addGood_18 rfl rfl ?_
    refine j_iload_n (j := 2) dd_T_addGood_19 rfl rfl ?_
    refine j_iload_n (j := 3) dd_T_addGood_20 rfl rfl ?_
    refine j_cVV (mm' := mm_G_become) (t := 1) (i := (8 * u + (M 3 u 2).toNat)) (As := [vI x1, vI x2, vI x3]) (rest := []) h dd_T_addGood_21 (ws5 wd_456 wd_457 wd_458 wd_65 wd_459) nk_G_become (rok rfl) (by unfold isW; omega) ⟨_, ce_1 _⟩ rfl (Nat.le_of_ble_eq_true rfl) (fun _ => rfl) (fun a2 M1 h => ?_)
    refine j_aload_n (j := 0) dd_T_addGood_24 rfl rfl ?_
    refine gf_3_0 dd_T_addGood_25 wd_159 ?_
    refine j_aload_n (j := 0) dd_T_addGood_28 rfl rfl ?_
    refine gf_3_2 dd_T_addGood_29 wd_163 ?_
    refine ld_4 dd_T_addGood_32 h.1 ?_
    have h := h.2
    refine j_iconst dd_T_addGood_33 (inRd rfl) ?_
    refine pf_1_5 dd_T_addGood_34 wd_114 (Or.inl rfl) (fun M3 eM3 => ?_)
    have h := h M3 eM3
    refine j_aload_n (j := 0) dd_T_addGood_37 rfl rfl ?_
    refine j_dup dd_T_addGood_38 rfl ?_
    refine gf_3_2 dd_T_addGood_39 wd_163 ?_
    refine j_iconst dd_T_addGood_42 (inRd rfl) ?_
    refine j_iadd dd_T_addGood_43 ?_
    refine pf_3_2 dd_T_addGood_44 wd_163 (fun M4 eM4 => ?_)
    have h := h M4 eM4
    exact j_vret dd_T_addGood_47 rfl h
theorem vc_T_addOne {E : EE} {Q : Int → JM → Prop} (u : Nat) (x1 : Int) (M : JM) (h : ((4 ≤ M 3 u 3 → Q 0 M) ∧ (M 3 u 3 < 4 → (0 ≤ M 3 u 3 ∧ M 3 u 3 < 4) ∧ ∀ M1 : JM, M1 = pt M 2 (4 * u + (M 5 u ((M 3 u 3).toNat)).toNat) 0 x1 → (0 ≤ M1 3 u 3 ∧ M1 3 u 3 < 4) ∧ ∀ M2 : JM, M2 = pt M1 2 (4 * u + (M1 5 u ((M1 3 u 3).toNat)).toNat) 1 0 → ∀ M3 : JM, M3 = pt M2 3 u 3 (w32 (M2 3 u 3 + 1)) → Q 0 M3))) : JC E mm_T_addOne [vR 3 u, vI x1] M Q := by
  refine j_entry (L0 := [(0, vR 3 u), (1, vI x1)]) pn_T (Nat.le_of_ble_eq_true rfl) rfl ?_
  refine j_aload_n (j := 0) dd_T_addOne_0 rfl rfl ?_
  refine gf_3_3 dd_T_addOne_1 wd_166 ?_
  refine j_iconst dd_T_addOne_4 (inRd rfl) ?_
  refine j_icmp_ge (tgt := 44) dd_T_addOne_5 (by decide) (fun c => ?_) (fun c => ?_)
  · have h := h.1 c
    exact j_vret dd_T_addOne_44 rfl h
  · have h := h.2 c
    refine j_aload_n (j := 0) dd_T_addOne_8 rfl rfl ?_
    refine gf_3_1 dd_T_addOne_9 wd_161 ?_
    refine j_aload_n (j := 0) dd_T_addOne_12 rfl rfl ?_
    refine gf_3_3 dd_T_addOne_13 wd_166 ?_
    refine ld_5 dd_T_addOne_16 h.1 ?_
    have h := h.2
    refine j_iload_n (j := 1) dd_T_addOne_17 rfl rfl ?_
    refine pf_2_0 dd_T_addOne_18 wd_135 (fun M1 eM1 => ?_)
    have h := h M1 eM1
    refine j_aload_n (j := 0) dd_T_addOne_21 rfl rfl ?_
    refine gf_3_1 dd_T_addOne_22 wd_161 ?_
    refine j_aload_n (j := 0) dd_T_addOne_25 rfl rfl ?_
    refine gf_3_3 dd_T_addOne_26 wd_166 ?_
    refine ld_5 dd_T_addOne_29 h.1 ?_
    have h := h.2
    refine j_iconst dd_T_addOne_30 (inRd rfl) ?_
    refine pf_2_1 dd_T_addOne_31 wd_138 (fun M2 eM2 => ?_)
    have h := h M2 eM2
    refine j_aload_n (j := 0) dd_T_addOne_34 rfl rfl ?_
    refine j_dup dd_T_addOne_35 rfl ?_
    refine gf_3_3 dd_T_addOne_36 wd_166 ?_
    refine j_iconst dd_T_addOne_39 (inRd rfl) ?_
    refine j_iadd dd_T_addOne_40 ?_
    refine pf_3_3 dd_T_addOne_41 wd_166 (fun M3 eM3 => ?_)
    have h := h M3 eM3
    exact j_vret dd_T_addOne_44 rfl h
theorem vc_T_changePlaces {E : EE} {Q : Int → JM → Prop} (u : Nat) (x1 : Int) (x2 : Int) (M : JM) (h : (0 ≤ x1 ∧ x1 < 4) ∧ (0 ≤ x2 ∧ x2 < 4) ∧ (0 ≤ x1 ∧ x1 < 4) ∧ (4 * u ≤ 4 * u + (M 5 u x2.toNat).toNat ∧ 4 * u + (M 5 u x2.toNat).toNat < 4 * u + 4) ∧ ∀ M1 : JM, M1 = pt M 5 u x1.toNat ((4 * u + (M 5 u x2.toNat).toNat - 4 * u : Nat) : Int) → (0 ≤ x2 ∧ x2 < 4) ∧ (4 * u ≤ 4 * u + (M 5 u x1.toNat).toNat ∧ 4 * u + (M 5 u x1.toNat).toNat < 4 * u + 4) ∧ ∀ M2 : JM, M2 = pt M1 5 u x2.toNat ((4 * u + (M 5 u x1.toNat).toNat - 4 * u : Nat) : Int) → Q 0 M2) : JC E mm_T_changePlaces [vR 3 u, vI x1, vI x2] M Q := by
  refine j_entry (L0 := [(0, vR 3 u), (1, vI x1), (2, vI x2)]) pn_T (Nat.le_of_ble_eq_true rfl) rfl ?_
  refine j_aload_n (j := 0) dd_T_changePlaces_0 rfl rfl ?_
  refine gf_3_1 dd_T_changePlaces_1 wd_161 ?_
  refine j_iload_n (j := 1) dd_T_changePlaces_4 rfl rfl ?_
  refine ld_5 dd_T_changePlaces_5 h.1 ?_
  have h := h.2
  refine j_astore_n (j := 3) dd_T_changePlaces_6 rfl (by decide) rfl ?_
  refine j_aload_n (j := 0) dd_T_changePlaces_7 rfl rfl ?_
  refine gf_3_1 dd_T_changePlaces_8 wd_161 ?_
  refine j_iload_n (j := 1) dd_T_changePlaces_11 rfl rfl ?_
  refine j_aload_n (j := 0) dd_T_changePlaces_12 rfl rfl ?_
  refine gf_3_1 dd_T_changePlaces_13 wd_161 ?_
  refine j_iload_n (j := 2) dd_T_changePlaces_16 rfl rfl ?_
  refine ld_5 dd_T_changePlaces_17 h.1 ?_
  have h := h.2
  refine j_ast5 dd_T_changePlaces_18 h.1.1 h.1.2 h.2.1 (fun M1 eM1 => ?_)
  have h := h.2.2
  have h := h M1 eM1
  refine j_aload_n (j := 0) dd_T_changePlaces_19 rfl rfl ?_
  refine gf_3_1 dd_T_changePlaces_20 wd_161 ?_
  refine j_iload_n (j := 2) dd_T_changePlaces_23 rfl rfl ?_
  refine j_aload_n (j := 3) dd_T_changePlaces_24 rfl rfl ?_
  refine j_ast5 dd_T_changePlaces_25 h.1.1 h.1.2 h.2.1 (fun M2 eM2 => ?_)
  have h := h.2.2
  have h := h M2 eM2
  exact j_vret dd_T_changePlaces_26 rfl h
theorem vc_T_passWeeks {E : EE} {Q : Int → JM → Prop} (u : Nat) (x1 : Int) (M : JM) (h : JG E mm_T_passWeeks Q 2 [(0, vR 3 u), (1, vI x1), (2, vI 0)] [] M) : JC E mm_T_passWeeks [vR 3 u, vI x1] M Q := by
  refine j_entry (L0 := [(0, vR 3 u), (1, vI x1)]) pn_T (Nat.le_of_ble_eq_true rfl) rfl ?_
  refine j_iconst dd_T_passWeeks_0 (inRd rfl) ?_
  refine j_istore_n (j := 2) dd_T_passWeeks_1 rfl (by decide) rfl ?_
  exact j_jump h (jsub_c rfl (jsub_c rfl (jsub_c rfl jsub_0)))
theorem vc_T_passWeeks_2 {E : EE} {Q : Int → JM → Prop} (u : Nat) (x1 : Int) (l2 : Int) (M : JM) (h : ((x1 ≤ l2 → Q 0 M) ∧ (l2 < x1 → JC E mm_T_passWeek [vR 3 u, vI 0] M (fun a2 M1 => ∀ a3 : Int, a3 = w32 (l2 + 1) → JG E mm_T_passWeeks Q 2 [(0, vR 3 u), (1, vI x1), (2, vI a3)] [] M1)))) : JG E mm_T_passWeeks Q 2 [(0, vR 3 u), (1, vI x1), (2, vI l2)] [] M := by
  refine j_iload_n (j := 2) dd_T_passWeeks_2 rfl rfl ?_
  refine j_iload_n (j := 1) dd_T_passWeeks_3 rfl rfl ?_
  refine j_icmp_ge (tgt := 18) dd_T_passWeeks_4 (by decide) (fun c => ?_) (fun c => ?_)
  · have h := h.1 c
    exact j_vret dd_T_passWeeks_18 rfl h
  · have h := h.2 c
    refine j_aload_n (j := 0) dd_T_passWeeks_7 rfl rfl ?_
    refine j_iconst dd_T_passWeeks_8 (inRd rfl) ?_
    refine j_cVV (mm' := mm_T_passWeek) (t := 3) (i := u) (As := [vI 0]) (rest := []) h dd_T_passWeeks_9 (ws5 wd_586 wd_587 wd_588 wd_64 wd_589) nk_T_passWeek (rok rfl) (by unfold isW; omega) ⟨_, ce_3 _⟩ rfl (Nat.le_of_ble_eq_true rfl) (fun _ => rfl) (fun a2 M1 h => ?_)
    refine j_iincN dd_T_passWeeks_12 rfl rfl (fun a3 ea3 => ?_)
    have h := h a3 ea3
    refine j_goto (tgt := 2) dd_T_passWeeks_15 (by decide) ?_
    exact j_jump h (jsub_c rfl (jsub_c rfl (jsub_c rfl jsub_0)))
theorem vc_T_passWeek {E : EE} {Q : Int → JM → Prop} (u : Nat) (x1 : Int) (M : JM) (h : JC E mm_T_carryOut [vR 3 u, vI x1] M (fun a2 M1 => JC E mm_T_payOut [vR 3 u] M1 (fun a4 M3 => JC E mm_T_bringBack [vR 3 u, vI (M3 3 u 5)] M3 (fun a6 M5 => ∀ M7 : JM, M7 = pt M5 3 u 6 (w32 (M5 3 u 6 + 1)) → Q 0 M7)))) : JC E mm_T_passWeek [vR 3 u, vI x1] M Q := by
  refine j_entry (L0 := [(0, vR 3 u), (1, vI x1)]) pn_T (Nat.le_of_ble_eq_true rfl) rfl ?_
  refine j_aload_n (j := 0) dd_T_passWeek_0 rfl rfl ?_
  refine j_iload_n (j := 1) dd_T_passWeek_1 rfl rfl ?_
  refine j_cVV (mm' := mm_T_carryOut) (t := 3) (i := u) (As := [vI x1]) (rest := []) h dd_T_passWeek_2 (ws5 wd_590 wd_525 wd_526 wd_64 wd_527) nk_T_carryOut (rok rfl) (by unfold isW; omega) ⟨_, ce_3 _⟩ rfl (Nat.le_of_ble_eq_true rfl) (fun _ => rfl) (fun a2 M1 h => ?_)
  refine j_aload_n (j := 0) dd_T_passWeek_5 rfl rfl ?_
  refine j_cVV (mm' := mm_T_payOut) (t := 3) (i := u) (As := []) (rest := []) h dd_T_passWeek_6 (ws5 wd_591 wd_593 wd_16 wd_64 wd_594) nk_T_payOut (rok rfl) (by unfold isW; omega) ⟨_, ce_3 _⟩ rfl (Nat.le_of_ble_eq_true rfl) (fun _ => rfl) (fun a4 M3 h => ?_)
  refine j_aload_n (j := 0) dd_T_passWeek_9 rfl rfl ?_
  refine j_aload_n (j := 0) dd_T_passWeek_10 rfl rfl ?_
  refine gf_3_5 dd_T_passWeek_11 wd_172 ?_
  refine j_cVI (mm' := mm_T_bringBack) (t := 3) (i := u) (As := [vI (M3 3 u 5)]) (rest := []) h dd_T_passWeek_14 (ws5 wd_603 wd_575 wd_576 wd_64 wd_577) nk_T_bringBack (rok rfl) (by unfold isW; omega) ⟨_, ce_3 _⟩ rfl (Nat.le_of_ble_eq_true rfl) (fun _ => rfl) (fun a6 M5 h => ?_)
  refine j_pop dd_T_passWeek_17 rfl ?_
  refine j_aload_n (j := 0) dd_T_passWeek_18 rfl rfl ?_
  refine j_dup dd_T_passWeek_19 rfl ?_
  refine gf_3_6 dd_T_passWeek_20 wd_175 ?_
  refine j_iconst dd_T_passWeek_23 (inRd rfl) ?_
  refine j_iadd dd_T_passWeek_24 ?_
  refine pf_3_6 dd_T_passWeek_25 wd_175 (fun M7 eM7 => ?_)
  have h := h M7 eM7
  exact j_vret dd_T_passWeek_28 rfl h
theorem vc_T_carryOut {E : EE} {Q : Int → JM → Prop} (u : Nat) (x1 : Int) (M : JM) (h : ∀ M1 : JM, M1 = pt M 3 u 7 0 → JG E mm_T_carryOut Q 7 [(0, vR 3 u), (1, vI x1), (2, vI 0)] [] M1) : JC E mm_T_carryOut [vR 3 u, vI x1] M Q := by
  refine j_entry (L0 := [(0, vR 3 u), (1, vI x1)]) pn_T (Nat.le_of_ble_eq_true rfl) rfl ?_
  refine j_aload_n (j := 0) dd_T_carryOut_0 rfl rfl ?_
  refine j_iconst dd_T_carryOut_1 (inRd rfl) ?_
  refine pf_3_7 dd_T_carryOut_2 wd_177 (fun M1 eM1 => ?_)
  have h := h M1 eM1
  refine j_iconst dd_T_carryOut_5 (inRd rfl) ?_
  refine j_istore_n (j := 2) dd_T_carryOut_6 rfl (by decide) rfl ?_
  exact j_jump h (jsub_c rfl (jsub_c rfl (jsub_c rfl jsub_0)))
theorem vc_T_carryOut_7 {E : EE} {Q : Int → JM → Prop} (u : Nat) (x1 : Int) (l2 : Int) (M : JM) (h : ((M 3 u 3 ≤ l2 → JG E mm_T_carryOut Q 34 [(0, vR 3 u), (1, vI x1), (2, vI 1), (3, vI 0)] [] M) ∧ (l2 < M 3 u 3 → (0 ≤ l2 ∧ l2 < 4) ∧ JC E mm_O_emptyArms [vR 2 (4 * u + (M 5 u l2.toNat).toNat)] M (fun a2 M1 => ∀ a3 : Int, a3 = w32 (l2 + 1) → JG E mm_T_carryOut Q 7 [(0, vR 3 u), (1, vI x1), (2, vI a3)] [] M1)))) : JG E mm_T_carryOut Q 7 [(0, vR 3 u), (1, vI x1), (2, vI l2)] [] M := by
  refine j_iload_n (j := 2) dd_T_carryOut_7 rfl rfl ?_
  refine j_aload_n (j := 0) dd_T_carryOut_8 rfl rfl ?_
  refine gf_3_3 dd_T_carryOut_9 wd_166 ?_
  refine j_icmp_ge (tgt := 30) dd_T_carryOut_12 (by decide) (fun c => ?_) (fun c => ?_)
  · have h := h.1 c
    refine j_iconst dd_T_carryOut_30 (inRd rfl) ?_
    refine j_istore_n (j := 2) dd_T_carryOut_31 rfl (by decide) rfl ?_
    refine j_iconst dd_T_carryOut_32 (inRd rfl) ?_
    refine j_istore_n (j := 3) dd_T_carryOut_33 rfl (by decide) rfl ?_
    exact j_jump h (jsub_c rfl (jsub_c rfl (jsub_c rfl (jsub_c rfl jsub_0))))
  · have h := h.2 c
    refine j_aload_n (j := 0) dd_T_carryOut_15 rfl rfl ?_
    refine gf_3_1 dd_T_carryOut_16 wd_161 ?_
    refine j_iload_n (j := 2) dd_T_carryOut_19 rfl rfl ?_
    refine ld_5 dd_T_carryOut_20 h.1 ?_
    have h := h.2
    refine j_cVV (mm' := mm_O_emptyArms) (t := 2) (i := (4 * u + (M 5 u l2.toNat).toNat)) (As := []) (rest := []) h dd_T_carryOut_21 (ws5 wd_528 wd_529 wd_530 wd_66 wd_531) nk_O_emptyArms (rok rfl) (by unfold isW; omega) ⟨_, ce_2 _⟩ rfl (Nat.le_of_ble_eq_true rfl) (fun _ => rfl) (fun a2 M1 h => ?_)
    refine j_iincN dd_T_carryOut_24 rfl rfl (fun a3 ea3 => ?_)
    have h := h a3 ea3
    refine j_goto (tgt := 7) dd_T_carryOut_27 (by decide) ?_
    exact j_jump h (jsub_c rfl (jsub_c rfl (jsub_c rfl jsub_0)))
theorem vc_T_carryOut_34 {E : EE} {Q : Int → JM → Prop} (u : Nat) (x1 : Int) (l2 : Int) (l3 : Int) (M : JM) (h : ((M 3 u 4 ≤ l3 → Q 0 M) ∧ (l3 < M 3 u 4 → ((l2 = 0 → Q 0 M) ∧ (l2 ≠ 0 → JG E mm_T_carryOut Q 51 [(0, vR 3 u), (1, vI x1), (2, vI 0), (3, vI l3), (4, vI 0)] [] M))))) : JG E mm_T_carryOut Q 34 [(0, vR 3 u), (1, vI x1), (2, vI l2), (3, vI l3)] [] M := by
  refine j_iload_n (j := 3) dd_T_carryOut_34 rfl rfl ?_
  refine j_aload_n (j := 0) dd_T_carryOut_35 rfl rfl ?_
  refine gf_3_4 dd_T_carryOut_36 wd_169 ?_
  refine j_icmp_ge (tgt := 97) dd_T_carryOut_39 (by decide) (fun c => ?_) (fun c => ?_)
  · have h := h.1 c
    exact j_vret dd_T_carryOut_97 rfl h
  · have h := h.2 c
    refine j_iload_n (j := 2) dd_T_carryOut_42 rfl rfl ?_
    refine j_if_eq (tgt := 97) dd_T_carryOut_43 (by decide) (fun c => ?_) (fun c => ?_)
    · have h := h.1 c
      exact j_vret dd_T_carryOut_97 rfl h
    · have h := h.2 c
      refine j_iconst dd_T_carryOut_46 (inRd rfl) ?_
      refine j_istore_n (j := 2) dd_T_carryOut_47 rfl (by decide) rfl ?_
      refine j_iconst dd_T_carryOut_48 (inRd rfl) ?_
      refine j_istore (j := 4) dd_T_carryOut_49 (by decide) rfl ?_
      exact j_jump h (jsub_c rfl (jsub_c rfl (jsub_c rfl (jsub_c rfl (jsub_c rfl jsub_0)))))
theorem vc_T_carryOut_51 {E : EE} {Q : Int → JM → Prop} (u : Nat) (x1 : Int) (l2 : Int) (l3 : Int) (l4 : Int) (M : JM) (h : ((M 3 u 3 ≤ l4 → ∀ a1 : Int, a1 = w32 (l3 + 1) → JG E mm_T_carryOut Q 34 [(0, vR 3 u), (1, vI x1), (2, vI l2), (3, vI a1)] [] M) ∧ (l4 < M 3 u 3 → JC E mm_H_hasBit [vI x1, vI l4] M (fun a3 M2 => ((a3 ≠ 0 → ∀ a4 : Int, a4 = w32 (l4 + 1) → JG E mm_T_carryOut Q 51 [(0, vR 3 u), (1, vI x1), (2, vI l2), (3, vI l3), (4, vI a4)] [] M2) ∧ (a3 = 0 → (0 ≤ l4 ∧ l4 < 4) ∧ JC E mm_T_takesBest [vR 3 u, vR 2 (4 * u + (M2 5 u l4.toNat).toNat)] M2 (fun a6 M5 => ((a6 = 0 → ∀ a7 : Int, a7 = w32 (l4 + 1) → JG E mm_T_carryOut Q 51 [(0, vR 3 u), (1, vI x1), (2, vI l2), (3, vI l3), (4, vI a7)] [] M5) ∧ (a6 ≠ 0 → ∀ a8 : Int, a8 = w32 (l4 + 1) → JG E mm_T_carryOut Q 51 [(0, vR 3 u), (1, vI x1), (2, vI 1), (3, vI l3), (4, vI a8)] [] M5))))))))) : JG E mm_T_carryOut Q 51 [(0, vR 3 u), (1, vI x1), (2, vI l2), (3, vI l3), (4, vI l4)] [] M := by
  refine j_iload (j := 4) dd_T_carryOut_51 rfl ?_
  refine j_aload_n (j := 0) dd_T_carryOut_53 rfl rfl ?_
  refine gf_3_3 dd_T_carryOut_54 wd_166 ?_
  refine j_icmp_ge (tgt := 91) dd_T_carryOut_57 (by decide) (fun c => ?_) (fun c => ?_)
  · have h := h.1 c
    refine j_iincN dd_T_carryOut_91 rfl rfl (fun a1 ea1 => ?_)
    have h := h a1 ea1
    refine j_goto (tgt := 34) dd_T_carryOut_94 (by decide) ?_
    exact j_jump h (jsub_c rfl (jsub_c rfl (jsub_c rfl (jsub_c rfl jsub_0))))
  · have h := h.2 c
    refine j_iload_n (j := 1) dd_T_carryOut_60 rfl rfl ?_
    refine j_iload (j := 4) dd_T_carryOut_61 rfl ?_
    refine j_cNI (mm' := mm_H_hasBit) (As := [vI x1, vI l4]) (rest := []) h dd_T_carryOut_63 (by simp [nestL]) (ws3 wd_533 wd_63 wd_534) nk_H_hasBit (rok rfl) (Nat.le_of_ble_eq_true rfl) (fun _ => rfl) (fun a3 M2 h => ?_)
    refine j_if_ne (tgt := 85) dd_T_carryOut_66 (by decide) (fun c => ?_) (fun c => ?_)
    · have h := h.1 c
      refine j_iincN dd_T_carryOut_85 rfl rfl (fun a4 ea4 => ?_)
      have h := h a4 ea4
      refine j_goto (tgt := 51) dd_T_carryOut_88 (by decide) ?_
      exact j_jump h (jsub_c rfl (jsub_c rfl (jsub_c rfl (jsub_c rfl (jsub_c rfl jsub_0)))))
    · have h := h.2 c
      refine j_aload_n (j := 0) dd_T_carryOut_69 rfl rfl ?_
      refine j_aload_n (j := 0) dd_T_carryOut_70 rfl rfl ?_
      refine gf_3_1 dd_T_carryOut_71 wd_161 ?_
      refine j_iload (j := 4) dd_T_carryOut_74 rfl ?_
      refine ld_5 dd_T_carryOut_76 h.1 ?_
      have h := h.2
      refine j_cVI (mm' := mm_T_takesBest) (t := 3) (i := u) (As := [vR 2 (4 * u + (M2 5 u l4.toNat).toNat)]) (rest := []) h dd_T_carryOut_77 (ws5 wd_535 wd_537 wd_15 wd_64 wd_538) nk_T_takesBest (rok rfl) (by unfold isW; omega) ⟨_, ce_3 _⟩ rfl (Nat.le_of_ble_eq_true rfl) (fun _ => rfl) (fun a6 M5 h => ?_)
      refine j_if_eq (tgt := 85) dd_T_carryOut_80 (by decide) (fun c => ?_) (fun c => ?_)
      · have h := h.1 c
        refine j_iincN dd_T_carryOut_85 rfl rfl (fun a7 ea7 => ?_)
        have h := h a7 ea7
        refine j_goto (tgt := 51) dd_T_carryOut_88 (by decide) ?_
        exact j_jump h (jsub_c rfl (jsub_c rfl (jsub_c rfl (jsub_c rfl (jsub_c rfl jsub_0)))))
      · have h := h.2 c
        refine j_iconst dd_T_carryOut_83 (inRd rfl) ?_
        refine j_istore_n (j := 2) dd_T_carryOut_84 rfl (by decide) rfl ?_
        refine j_iincN dd_T_carryOut_85 rfl rfl (fun a8 ea8 => ?_)
        have h := h a8 ea8
        refine j_goto (tgt := 51) dd_T_carryOut_88 (by decide) ?_
        exact j_jump h (jsub_c rfl (jsub_c rfl (jsub_c rfl (jsub_c rfl (jsub_c rfl jsub_0)))))
theorem vc_T_takesBest {E : EE} {Q : Int → JM → Prop} (u : Nat) (r1 : Nat) (M : JM) (h : ∀ a1 : Int, a1 = w32 (M 2 r1 0 - (M 2 r1 3)) → JG E mm_T_takesBest Q 18 [(0, vR 3 u), (1, vR 2 r1), (2, vI (-1)), (3, vI (-1)), (4, vI a1), (5, vI 0)] [] M) : JC E mm_T_takesBest [vR 3 u, vR 2 r1] M Q := by
  refine j_entry (L0 := [(0, vR 3 u), (1, vR 2 r1)]) pn_T (Nat.le_of_ble_eq_true rfl) rfl ?_
  refine j_iconst dd_T_takesBest_0 (inRd rfl) ?_
  refine j_istore_n (j := 2) dd_T_takesBest_1 rfl (by decide) rfl ?_
  refine j_iconst dd_T_takesBest_2 (inRd rfl) ?_
  refine j_istore_n (j := 3) dd_T_takesBest_3 rfl (by decide) rfl ?_
  refine j_aload_n (j := 1) dd_T_takesBest_4 rfl rfl ?_
  refine gf_2_0 dd_T_takesBest_5 wd_135 ?_
  refine j_aload_n (j := 1) dd_T_takesBest_8 rfl rfl ?_
  refine gf_2_3 dd_T_takesBest_9 wd_145 ?_
  refine j_isub dd_T_takesBest_12 ?_
  refine j_topI (fun a1 ea1 => ?_)
  have h := h a1 ea1
  refine j_istore (j := 4) dd_T_takesBest_13 (by decide) rfl ?_
  refine j_iconst dd_T_takesBest_15 (inRd rfl) ?_
  refine j_istore (j := 5) dd_T_takesBest_16 (by decide) rfl ?_
  exact j_jump h (jsub_c rfl (jsub_c rfl (jsub_c rfl (jsub_c rfl (jsub_c rfl (jsub_c rfl jsub_0))))))
theorem vc_T_takesBest_18 {E : EE} {Q : Int → JM → Prop} (u : Nat) (r1 : Nat) (l2 : Int) (l3 : Int) (l4 : Int) (l5 : Int) (M : JM) (h : ((M 3 u 2 ≤ l5 → ((0 ≤ l2 → (0 ≤ l2 ∧ l2 < 8) ∧ ∀ M1 : JM, M1 = pt M 1 (8 * u + l2.toNat) 5 1 → ∀ M2 : JM, M2 = pt M1 2 r1 2 (or32 (M1 2 r1 2) (shl32 1 l2)) → (0 ≤ l2 ∧ l2 < 8) ∧ ∀ M3 : JM, M3 = pt M2 2 r1 3 (w32 (M2 2 r1 3 + (M2 1 (8 * u + l2.toNat) 3))) → ∀ M4 : JM, M4 = pt M3 2 r1 4 (w32 (M3 2 r1 4 + l3)) → ∀ M5 : JM, M5 = pt M4 3 u 7 (or32 (M4 3 u 7) (shl32 1 l2)) → ∀ M6 : JM, M6 = pt M5 3 u 9 (w32 (M5 3 u 9 + 1)) → Q 1 M6) ∧ (l2 < 0 → Q 0 M))) ∧ (l5 < M 3 u 2 → (0 ≤ l5 ∧ l5 < 8) ∧ ((M 1 (8 * u + l5.toNat) 5 ≠ 0 → ∀ a7 : Int, a7 = w32 (l5 + 1) → JG E mm_T_takesBest Q 18 [(0, vR 3 u), (1, vR 2 r1), (2, vI l2), (3, vI l3), (4, vI l4), (5, vI a7)] [] M) ∧ (M 1 (8 * u + l5.toNat) 5 = 0 → ((l4 < M 1 (8 * u + l5.toNat) 3 → ∀ a8 : Int, a8 = w32 (l5 + 1) → JG E mm_T_takesBest Q 18 [(0, vR 3 u), (1, vR 2 r1), (2, vI l2), (3, vI l3), (4, vI l4), (5, vI a8)] [] M) ∧ (M 1 (8 * u + l5.toNat) 3 ≤ l4 → ((M 1 (8 * u + l5.toNat) 4 ≤ l3 → ∀ a9 : Int, a9 = w32 (l5 + 1) → JG E mm_T_takesBest Q 18 [(0, vR 3 u), (1, vR 2 r1), (2, vI l2), (3, vI l3), (4, vI l4), (5, vI a9)] [] M) ∧ (l3 < M 1 (8 * u + l5.toNat) 4 → ∀ a10 : Int, a10 = M 1 (8 * u + l5.toNat) 4 → ∀ a11 : Int, a11 = w32 (l5 + 1) → JG E mm_T_takesBest Q 18 [(0, vR 3 u), (1, vR 2 r1), (2, vI l5), (3, vI a10), (4, vI l4), (5, vI a11)] [] M))))))))) : JG E mm_T_takesBest Q 18 [(0, vR 3 u), (1, vR 2 r1), (2, vI l2), (3, vI l3), (4, vI l4), (5, vI l5)] [] M := by
  refine j_iload (j := 5) dd_T_takesBest_18 rfl ?_
  refine j_aload_n (j := 0) dd_T_takesBest_20 rfl rfl ?_
  refine gf_3_2 dd_T_takesBest_21 wd_163 ?_
  refine j_icmp_ge (tgt := 78) dd_T_takesBest_24 (by decide) (fun c => ?_) (fun c => ?_)
  · have h := h.1 c
    refine j_iload_n (j := 2) dd_T_takesBest_78 rfl rfl ?_
    refine j_if_ge (tgt := 84) dd_T_takesBest_79 (by decide) (fun c => ?_) (fun c => ?_)
    · have h := h.1 c
      refine j_aload_n (j := 0) dd_T_takesBest_84 rfl rfl ?_
      refine gf_3_0 dd_T_takesBest_85 wd_159 ?_
      refine j_iload_n (j := 2) dd_T_takesBest_88 rfl rfl ?_
      refine ld_4 dd_T_takesBest_89 h.1 ?_
      have h := h.2
      refine j_iconst dd_T_takesBest_90 (inRd rfl) ?_
      refine pf_1_5 dd_T_takesBest_91 wd_114 (Or.inr rfl) (fun M1 eM1 => ?_)
      have h := h M1 eM1
      refine j_aload_n (j := 1) dd_T_takesBest_94 rfl rfl ?_
      refine j_dup dd_T_takesBest_95 rfl ?_
      refine gf_2_2 dd_T_takesBest_96 wd_142 ?_
      refine j_iconst dd_T_takesBest_99 (inRd rfl) ?_
      refine j_iload_n (j := 2) dd_T_takesBest_100 rfl rfl ?_
      refine j_ishl dd_T_takesBest_101 ?_
      refine j_ior dd_T_takesBest_102 ?_
      refine pf_2_2 dd_T_takesBest_103 wd_142 (fun M2 eM2 => ?_)
      have h := h M2 eM2
      refine j_aload_n (j := 1) dd_T_takesBest_106 rfl rfl ?_
      refine j_dup dd_T_takesBest_107 rfl ?_
      refine gf_2_3 dd_T_takesBest_108 wd_145 ?_
      refine j_aload_n (j := 0) dd_T_takesBest_111 rfl rfl ?_
      refine gf_3_0 dd_T_takesBest_112 wd_159 ?_
      refine j_iload_n (j := 2) dd_T_takesBest_115 rfl rfl ?_
      refine ld_4 dd_T_takesBest_116 h.1 ?_
      have h := h.2
      refine gf_1_3 dd_T_takesBest_117 wd_109 ?_
      refine j_iadd dd_T_takesBest_120 ?_
      refine pf_2_3 dd_T_takesBest_121 wd_145 (fun M3 eM3 => ?_)
      have h := h M3 eM3
      refine j_aload_n (j := 1) dd_T_takesBest_124 rfl rfl ?_
      refine j_dup dd_T_takesBest_125 rfl ?_
      refine gf_2_4 dd_T_takesBest_126 wd_147 ?_
      refine j_iload_n (j := 3) dd_T_takesBest_129 rfl rfl ?_
      refine j_iadd dd_T_takesBest_130 ?_
      refine pf_2_4 dd_T_takesBest_131 wd_147 (fun M4 eM4 => ?_)
      have h := h M4 eM4
      refine j_aload_n (j := 0) dd_T_takesBest_134 rfl rfl ?_
      refine j_dup dd_T_takesBest_135 rfl ?_
      refine gf_3_7 dd_T_takesBest_136 wd_177 ?_
      refine j_iconst dd_T_takesBest_139 (inRd rfl) ?_
      refine j_iload_n (j := 2) dd_T_takesBest_140 rfl rfl ?_
      refine j_ishl dd_T_takesBest_141 ?_
      refine j_ior dd_T_takesBest_142 ?_
      refine pf_3_7 dd_T_takesBest_143 wd_177 (fun M5 eM5 => ?_)
      have h := h M5 eM5
      refine j_aload_n (j := 0) dd_T_takesBest_146 rfl rfl ?_
      refine j_dup dd_T_takesBest_147 rfl ?_
      refine gf_3_9 dd_T_takesBest_148 wd_181 ?_
      refine j_iconst dd_T_takesBest_151 (inRd rfl) ?_
      refine j_iadd dd_T_takesBest_152 ?_
      refine pf_3_9 dd_T_takesBest_153 wd_181 (fun M6 eM6 => ?_)
      have h := h M6 eM6
      refine j_iconst dd_T_takesBest_156 (inRd rfl) ?_
      exact j_zret dd_T_takesBest_157 rfl (Or.inr rfl) h
    · have h := h.2 c
      refine j_iconst dd_T_takesBest_82 (inRd rfl) ?_
      exact j_zret dd_T_takesBest_83 rfl (Or.inl rfl) h
  · have h := h.2 c
    refine j_aload_n (j := 0) dd_T_takesBest_27 rfl rfl ?_
    refine gf_3_0 dd_T_takesBest_28 wd_159 ?_
    refine j_iload (j := 5) dd_T_takesBest_31 rfl ?_
    refine ld_4 dd_T_takesBest_33 h.1 ?_
    have h := h.2
    refine j_astore (j := 6) dd_T_takesBest_34 (by decide) rfl ?_
    refine j_aload (j := 6) dd_T_takesBest_36 rfl ?_
    refine gf_1_5 dd_T_takesBest_38 wd_114 ?_
    refine j_if_ne (tgt := 72) dd_T_takesBest_41 (by decide) (fun c => ?_) (fun c => ?_)
    · have h := h.1 c
      refine j_iincN dd_T_takesBest_72 rfl rfl (fun a7 ea7 => ?_)
      have h := h a7 ea7
      refine j_goto (tgt := 18) dd_T_takesBest_75 (by decide) ?_
      exact j_jump h (jsub_c rfl (jsub_c rfl (jsub_c rfl (jsub_c rfl (jsub_c rfl (jsub_c rfl jsub_0))))))
    · have h := h.2 c
      refine j_aload (j := 6) dd_T_takesBest_44 rfl ?_
      refine gf_1_3 dd_T_takesBest_46 wd_109 ?_
      refine j_iload (j := 4) dd_T_takesBest_49 rfl ?_
      refine j_icmp_gt (tgt := 72) dd_T_takesBest_51 (by decide) (fun c => ?_) (fun c => ?_)
      · have h := h.1 c
        refine j_iincN dd_T_takesBest_72 rfl rfl (fun a8 ea8 => ?_)
        have h := h a8 ea8
        refine j_goto (tgt := 18) dd_T_takesBest_75 (by decide) ?_
        exact j_jump h (jsub_c rfl (jsub_c rfl (jsub_c rfl (jsub_c rfl (jsub_c rfl (jsub_c rfl jsub_0))))))
      · have h := h.2 c
        refine j_aload (j := 6) dd_T_takesBest_54 rfl ?_
        refine gf_1_4 dd_T_takesBest_56 wd_112 ?_
        refine j_iload_n (j := 3) dd_T_takesBest_59 rfl rfl ?_
        refine j_icmp_le (tgt := 72) dd_T_takesBest_60 (by decide) (fun c => ?_) (fun c => ?_)
        · have h := h.1 c
          refine j_iincN dd_T_takesBest_72 rfl rfl (fun a9 ea9 => ?_)
          have h := h a9 ea9
          refine j_goto (tgt := 18) dd_T_takesBest_75 (by decide) ?_
          exact j_jump h (jsub_c rfl (jsub_c rfl (jsub_c rfl (jsub_c rfl (jsub_c rfl (jsub_c rfl jsub_0))))))
        · have h := h.2 c
          refine j_iload (j := 5) dd_T_takesBest_63 rfl ?_
          refine j_istore_n (j := 2) dd_T_takesBest_65 rfl (by decide) rfl ?_
          refine j_aload (j := 6) dd_T_takesBest_66 rfl ?_
          refine gf_1_4 dd_T_takesBest_68 wd_112 ?_
          refine j_topI (fun a10 ea10 => ?_)
          have h := h a10 ea10
          refine j_istore_n (j := 3) dd_T_takesBest_71 rfl (by decide) rfl ?_
          refine j_iincN dd_T_takesBest_72 rfl rfl (fun a11 ea11 => ?_)
          have h := h a11 ea11
          refine j_goto (tgt := 18) dd_T_takesBest_75 (by decide) ?_
          exact j_jump h (jsub_c rfl (jsub_c rfl (jsub_c rfl (jsub_c rfl (jsub_c rfl (jsub_c rfl jsub_0))))))
theorem vc_T_payOut {E : EE} {Q : Int → JM → Prop} (u : Nat) (M : JM) (h : JG E mm_T_payOut Q 2 [(0, vR 3 u), (1, vI 0)] [] M) : JC E mm_T_payOut [vR 3 u] M Q := by
  refine j_entry (L0 := [(0, vR 3 u)]) pn_T (Nat.le_of_ble_eq_true rfl) rfl ?_
  refine j_iconst dd_T_payOut_0 (inRd rfl) ?_
  refine j_istore_n (j := 1) dd_T_payOut_1 rfl (by decide) rfl ?_
  exact j_jump h (jsub_c rfl (jsub_c rfl jsub_0))
theorem vc_T_payOut_2 {E : EE} {Q : Int → JM → Prop} (u : Nat) (l1 : Int) (M : JM) (h : ((M 3 u 3 ≤ l1 → Q 0 M) ∧ (l1 < M 3 u 3 → (0 ≤ l1 ∧ l1 < 4) ∧ ∀ M1 : JM, M1 = pt M 2 (4 * u + (M 5 u l1.toNat).toNat) 1 (min 999 (w32 (M 2 (4 * u + (M 5 u l1.toNat).toNat) 1 + (M 2 (4 * u + (M 5 u l1.toNat).toNat) 4)))) → JC E mm_O_isBent [vR 2 (4 * u + (M 5 u l1.toNat).toNat)] M1 (fun a3 M2 => ((a3 = 0 → ∀ a4 : Int, a4 = w32 (l1 + 1) → JG E mm_T_payOut Q 2 [(0, vR 3 u), (1, vI a4)] [] M2) ∧ (a3 ≠ 0 → ∀ M5 : JM, M5 = pt M2 2 (4 * u + (M 5 u l1.toNat).toNat) 0 (max 1 (w32 (M2 2 (4 * u + (M 5 u l1.toNat).toNat) 0 - 1))) → ∀ M6 : JM, M6 = pt M5 3 u 8 (w32 (M5 3 u 8 + 1)) → ∀ a7 : Int, a7 = w32 (l1 + 1) → JG E mm_T_payOut Q 2 [(0, vR 3 u), (1, vI a7)] [] M6)))))) : JG E mm_T_payOut Q 2 [(0, vR 3 u), (1, vI l1)] [] M := by
  refine j_iload_n (j := 1) dd_T_payOut_2 rfl rfl ?_
  refine j_aload_n (j := 0) dd_T_payOut_3 rfl rfl ?_
  refine gf_3_3 dd_T_payOut_4 wd_166 ?_
  refine j_icmp_ge (tgt := 73) dd_T_payOut_7 (by decide) (fun c => ?_) (fun c => ?_)
  · have h := h.1 c
    exact j_vret dd_T_payOut_73 rfl h
  · have h := h.2 c
    refine j_aload_n (j := 0) dd_T_payOut_10 rfl rfl ?_
    refine gf_3_1 dd_T_payOut_11 wd_161 ?_
    refine j_iload_n (j := 1) dd_T_payOut_14 rfl rfl ?_
    refine ld_5 dd_T_payOut_15 h.1 ?_
    have h := h.2
    refine j_astore_n (j := 2) dd_T_payOut_16 rfl (by decide) rfl ?_
    refine j_aload_n (j := 2) dd_T_payOut_17 rfl rfl ?_
    refine j_sipush dd_T_payOut_18 rfl (inRd rfl) ?_
    refine j_aload_n (j := 2) dd_T_payOut_21 rfl rfl ?_
    refine gf_2_1 dd_T_payOut_22 wd_138 ?_
    refine j_aload_n (j := 2) dd_T_payOut_25 rfl rfl ?_
    refine gf_2_4 dd_T_payOut_26 wd_147 ?_
    refine j_iadd dd_T_payOut_29 ?_
    refine j_mmin dd_T_payOut_30 wd_595 wd_596 wd_75 wd_597 ⟨by decide, by decide⟩ (Nat.le_of_ble_eq_true rfl) ?_
    refine pf_2_1 dd_T_payOut_33 wd_138 (fun M1 eM1 => ?_)
    have h := h M1 eM1
    refine j_aload_n (j := 2) dd_T_payOut_36 rfl rfl ?_
    refine j_cVI (mm' := mm_O_isBent) (t := 2) (i := (4 * u + (M 5 u l1.toNat).toNat)) (As := []) (rest := []) h dd_T_payOut_37 (ws5 wd_598 wd_599 wd_600 wd_66 wd_601) nk_O_isBent (rok rfl) (by unfold isW; omega) ⟨_, ce_2 _⟩ rfl (Nat.le_of_ble_eq_true rfl) (fun _ => rfl) (fun a3 M2 h => ?_)
    refine j_if_eq (tgt := 67) dd_T_payOut_40 (by decide) (fun c => ?_) (fun c => ?_)
    · have h := h.1 c
      refine j_iincN dd_T_payOut_67 rfl rfl (fun a4 ea4 => ?_)
      have h := h a4 ea4
      refine j_goto (tgt := 2) dd_T_payOut_70 (by decide) ?_
      exact j_jump h (jsub_c rfl (jsub_c rfl jsub_0))
    · have h := h.2 c
      refine j_aload_n (j := 2) dd_T_payOut_43 rfl rfl ?_
      refine j_iconst dd_T_payOut_44 (inRd rfl) ?_
      refine j_aload_n (j := 2) dd_T_payOut_45 rfl rfl ?_
      refine gf_2_0 dd_T_payOut_46 wd_135 ?_
      refine j_iconst dd_T_payOut_49 (inRd rfl) ?_
      refine j_isub dd_T_payOut_50 ?_
      refine j_mmax dd_T_payOut_51 wd_602 wd_469 wd_75 wd_470 ⟨by decide, by decide⟩ (Nat.le_of_ble_eq_true rfl) ?_
      refine pf_2_0 dd_T_payOut_54 wd_135 (fun M5 eM5 => ?_)
      have h := h M5 eM5
      refine j_aload_n (j := 0) dd_T_payOut_57 rfl rfl ?_
      refine j_dup dd_T_payOut_58 rfl ?_
      refine gf_3_8 dd_T_payOut_59 wd_179 ?_
      refine j_iconst dd_T_payOut_62 (inRd rfl) ?_
      refine j_iadd dd_T_payOut_63 ?_
      refine pf_3_8 dd_T_payOut_64 wd_179 (fun M6 eM6 => ?_)
      have h := h M6 eM6
      refine j_iincN dd_T_payOut_67 rfl rfl (fun a7 ea7 => ?_)
      have h := h a7 ea7
      refine j_goto (tgt := 2) dd_T_payOut_70 (by decide) ?_
      exact j_jump h (jsub_c rfl (jsub_c rfl jsub_0))
theorem vc_T_bringBack {E : EE} {Q : Int → JM → Prop} (u : Nat) (x1 : Int) (M : JM) (h : JG E mm_T_bringBack Q 4 [(0, vR 3 u), (1, vI x1), (2, vI 0), (3, vI 0)] [] M) : JC E mm_T_bringBack [vR 3 u, vI x1] M Q := by
  refine j_entry (L0 := [(0, vR 3 u), (1, vI x1)]) pn_T (Nat.le_of_ble_eq_true rfl) rfl ?_
  refine j_iconst dd_T_bringBack_0 (inRd rfl) ?_
  refine j_istore_n (j := 2) dd_T_bringBack_1 rfl (by decide) rfl ?_
  refine j_iconst dd_T_bringBack_2 (inRd rfl) ?_
  refine j_istore_n (j := 3) dd_T_bringBack_3 rfl (by decide) rfl ?_
  exact j_jump h (jsub_c rfl (jsub_c rfl (jsub_c rfl (jsub_c rfl jsub_0))))
theorem vc_T_bringBack_4 {E : EE} {Q : Int → JM → Prop} (u : Nat) (x1 : Int) (l2 : Int) (l3 : Int) (M : JM) (h : ((M 3 u 2 ≤ l3 → Q l2 M) ∧ (l3 < M 3 u 2 → ((x1 ≤ l2 → Q l2 M) ∧ (l2 < x1 → (0 ≤ l3 ∧ l3 < 8) ∧ ((M 1 (8 * u + l3.toNat) 5 = 0 → ∀ a1 : Int, a1 = w32 (l3 + 1) → JG E mm_T_bringBack Q 4 [(0, vR 3 u), (1, vI x1), (2, vI l2), (3, vI a1)] [] M) ∧ (M 1 (8 * u + l3.toNat) 5 ≠ 0 → (0 ≤ l3 ∧ l3 < 8) ∧ ∀ M2 : JM, M2 = pt M 1 (8 * u + l3.toNat) 5 0 → ∀ a3 : Int, a3 = w32 (l2 + 1) → ∀ a4 : Int, a4 = w32 (l3 + 1) → JG E mm_T_bringBack Q 4 [(0, vR 3 u), (1, vI x1), (2, vI a3), (3, vI a4)] [] M2))))))) : JG E mm_T_bringBack Q 4 [(0, vR 3 u), (1, vI x1), (2, vI l2), (3, vI l3)] [] M := by
  refine j_iload_n (j := 3) dd_T_bringBack_4 rfl rfl ?_
  refine j_aload_n (j := 0) dd_T_bringBack_5 rfl rfl ?_
  refine gf_3_2 dd_T_bringBack_6 wd_163 ?_
  refine j_icmp_ge (tgt := 48) dd_T_bringBack_9 (by decide) (fun c => ?_) (fun c => ?_)
  · have h := h.1 c
    refine j_iload_n (j := 2) dd_T_bringBack_48 rfl rfl ?_
    exact j_iret dd_T_bringBack_49 rfl h
  · have h := h.2 c
    refine j_iload_n (j := 2) dd_T_bringBack_12 rfl rfl ?_
    refine j_iload_n (j := 1) dd_T_bringBack_13 rfl rfl ?_
    refine j_icmp_ge (tgt := 48) dd_T_bringBack_14 (by decide) (fun c => ?_) (fun c => ?_)
    · have h := h.1 c
      refine j_iload_n (j := 2) dd_T_bringBack_48 rfl rfl ?_
      exact j_iret dd_T_bringBack_49 rfl h
    · have h := h.2 c
      refine j_aload_n (j := 0) dd_T_bringBack_17 rfl rfl ?_
      refine gf_3_0 dd_T_bringBack_18 wd_159 ?_
      refine j_iload_n (j := 3) dd_T_bringBack_21 rfl rfl ?_
      refine ld_4 dd_T_bringBack_22 h.1 ?_
      have h := h.2
      refine gf_1_5 dd_T_bringBack_23 wd_114 ?_
      refine j_if_eq (tgt := 42) dd_T_bringBack_26 (by decide) (fun c => ?_) (fun c => ?_)
      · have h := h.1 c
        refine j_iincN dd_T_bringBack_42 rfl rfl (fun a1 ea1 => ?_)
        have h := h a1 ea1
        refine j_goto (tgt := 4) dd_T_bringBack_45 (by decide) ?_
        exact j_jump h (jsub_c rfl (jsub_c rfl (jsub_c rfl (jsub_c rfl jsub_0))))
      · have h := h.2 c
        refine j_aload_n (j := 0) dd_T_bringBack_29 rfl rfl ?_
        refine gf_3_0 dd_T_bringBack_30 wd_159 ?_
        refine j_iload_n (j := 3) dd_T_bringBack_33 rfl rfl ?_
        refine ld_4 dd_T_bringBack_34 h.1 ?_
        have h := h.2
        refine j_iconst dd_T_bringBack_35 (inRd rfl) ?_
        refine pf_1_5 dd_T_bringBack_36 wd_114 (Or.inl rfl) (fun M2 eM2 => ?_)
        have h := h M2 eM2
        refine j_iincN dd_T_bringBack_39 rfl rfl (fun a3 ea3 => ?_)
        have h := h a3 ea3
        refine j_iincN dd_T_bringBack_42 rfl rfl (fun a4 ea4 => ?_)
        have h := h a4 ea4
        refine j_goto (tgt := 4) dd_T_bringBack_45 (by decide) ?_
        exact j_jump h (jsub_c rfl (jsub_c rfl (jsub_c rfl (jsub_c rfl jsub_0))))
theorem vc_T_storeBits {E : EE} {Q : Int → JM → Prop} (u : Nat) (M : JM) (h : JG E mm_T_storeBits Q 4 [(0, vR 3 u), (1, vI 0), (2, vI 0)] [] M) : JC E mm_T_storeBits [vR 3 u] M Q := by
  refine j_entry (L0 := [(0, vR 3 u)]) pn_T (Nat.le_of_ble_eq_true rfl) rfl ?_
  refine j_iconst dd_T_storeBits_0 (inRd rfl) ?_
  refine j_istore_n (j := 1) dd_T_storeBits_1 rfl (by decide) rfl ?_
  refine j_iconst dd_T_storeBits_2 (inRd rfl) ?_
  refine j_istore_n (j := 2) dd_T_storeBits_3 rfl (by decide) rfl ?_
  exact j_jump h (jsub_c rfl (jsub_c rfl (jsub_c rfl jsub_0)))
theorem vc_T_storeBits_4 {E : EE} {Q : Int → JM → Prop} (u : Nat) (l1 : Int) (l2 : Int) (M : JM) (h : ((M 3 u 2 ≤ l2 → Q l1 M) ∧ (l2 < M 3 u 2 → (0 ≤ l2 ∧ l2 < 8) ∧ ((M 1 (8 * u + l2.toNat) 5 ≠ 0 → ∀ a1 : Int, a1 = w32 (l2 + 1) → JG E mm_T_storeBits Q 4 [(0, vR 3 u), (1, vI l1), (2, vI a1)] [] M) ∧ (M 1 (8 * u + l2.toNat) 5 = 0 → ∀ a2 : Int, a2 = or32 l1 (shl32 1 l2) → ∀ a3 : Int, a3 = w32 (l2 + 1) → JG E mm_T_storeBits Q 4 [(0, vR 3 u), (1, vI a2), (2, vI a3)] [] M))))) : JG E mm_T_storeBits Q 4 [(0, vR 3 u), (1, vI l1), (2, vI l2)] [] M := by
  refine j_iload_n (j := 2) dd_T_storeBits_4 rfl rfl ?_
  refine j_aload_n (j := 0) dd_T_storeBits_5 rfl rfl ?_
  refine gf_3_2 dd_T_storeBits_6 wd_163 ?_
  refine j_icmp_ge (tgt := 36) dd_T_storeBits_9 (by decide) (fun c => ?_) (fun c => ?_)
  · have h := h.1 c
    refine j_iload_n (j := 1) dd_T_storeBits_36 rfl rfl ?_
    exact j_iret dd_T_storeBits_37 rfl h
  · have h := h.2 c
    refine j_aload_n (j := 0) dd_T_storeBits_12 rfl rfl ?_
    refine gf_3_0 dd_T_storeBits_13 wd_159 ?_
    refine j_iload_n (j := 2) dd_T_storeBits_16 rfl rfl ?_
    refine ld_4 dd_T_storeBits_17 h.1 ?_
    have h := h.2
    refine gf_1_5 dd_T_storeBits_18 wd_114 ?_
    refine j_if_ne (tgt := 30) dd_T_storeBits_21 (by decide) (fun c => ?_) (fun c => ?_)
    · have h := h.1 c
      refine j_iincN dd_T_storeBits_30 rfl rfl (fun a1 ea1 => ?_)
      have h := h a1 ea1
      refine j_goto (tgt := 4) dd_T_storeBits_33 (by decide) ?_
      exact j_jump h (jsub_c rfl (jsub_c rfl (jsub_c rfl jsub_0)))
    · have h := h.2 c
      refine j_iload_n (j := 1) dd_T_storeBits_24 rfl rfl ?_
      refine j_iconst dd_T_storeBits_25 (inRd rfl) ?_
      refine j_iload_n (j := 2) dd_T_storeBits_26 rfl rfl ?_
      refine j_ishl dd_T_storeBits_27 ?_
      refine j_ior dd_T_storeBits_28 ?_
      refine j_topI (fun a2 ea2 => ?_)
      have h := h a2 ea2
      refine j_istore_n (j := 1) dd_T_storeBits_29 rfl (by decide) rfl ?_
      refine j_iincN dd_T_storeBits_30 rfl rfl (fun a3 ea3 => ?_)
      have h := h a3 ea3
      refine j_goto (tgt := 4) dd_T_storeBits_33 (by decide) ?_
      exact j_jump h (jsub_c rfl (jsub_c rfl (jsub_c rfl jsub_0)))
theorem vc_T_heftOf {E : EE} {Q : Int → JM → Prop} (u : Nat) (x1 : Int) (M : JM) (h : JG E mm_T_heftOf Q 4 [(0, vR 3 u), (1, vI x1), (2, vI 0), (3, vI 0)] [] M) : JC E mm_T_heftOf [vR 3 u, vI x1] M Q := by
  refine j_entry (L0 := [(0, vR 3 u), (1, vI x1)]) pn_T (Nat.le_of_ble_eq_true rfl) rfl ?_
  refine j_iconst dd_T_heftOf_0 (inRd rfl) ?_
  refine j_istore_n (j := 2) dd_T_heftOf_1 rfl (by decide) rfl ?_
  refine j_iconst dd_T_heftOf_2 (inRd rfl) ?_
  refine j_istore_n (j := 3) dd_T_heftOf_3 rfl (by decide) rfl ?_
  exact j_jump h (jsub_c rfl (jsub_c rfl (jsub_c rfl (jsub_c rfl jsub_0))))
theorem vc_T_heftOf_4 {E : EE} {Q : Int → JM → Prop} (u : Nat) (x1 : Int) (l2 : Int) (l3 : Int) (M : JM) (h : ((M 3 u 2 ≤ l3 → Q l2 M) ∧ (l3 < M 3 u 2 → JC E mm_H_hasBit [vI x1, vI l3] M (fun a2 M1 => ((a2 = 0 → ∀ a3 : Int, a3 = w32 (l3 + 1) → JG E mm_T_heftOf Q 4 [(0, vR 3 u), (1, vI x1), (2, vI l2), (3, vI a3)] [] M1) ∧ (a2 ≠ 0 → (0 ≤ l3 ∧ l3 < 8) ∧ ∀ a4 : Int, a4 = w32 (l2 + (M1 1 (8 * u + l3.toNat) 3)) → ∀ a5 : Int, a5 = w32 (l3 + 1) → JG E mm_T_heftOf Q 4 [(0, vR 3 u), (1, vI x1), (2, vI a4), (3, vI a5)] [] M1)))))) : JG E mm_T_heftOf Q 4 [(0, vR 3 u), (1, vI x1), (2, vI l2), (3, vI l3)] [] M := by
  refine j_iload_n (j := 3) dd_T_heftOf_4 rfl rfl ?_
  refine j_aload_n (j := 0) dd_T_heftOf_5 rfl rfl ?_
  refine gf_3_2 dd_T_heftOf_6 wd_163 ?_
  refine j_icmp_ge (tgt := 38) dd_T_heftOf_9 (by decide) (fun c => ?_) (fun c => ?_)
  · have h := h.1 c
    refine j_iload_n (j := 2) dd_T_heftOf_38 rfl rfl ?_
    exact j_iret dd_T_heftOf_39 rfl h
  · have h := h.2 c
    refine j_iload_n (j := 1) dd_T_heftOf_12 rfl rfl ?_
    refine j_iload_n (j := 3) dd_T_heftOf_13 rfl rfl ?_
    refine j_cNI (mm' := mm_H_hasBit) (As := [vI x1, vI l3]) (rest := []) h dd_T_heftOf_14 (by simp [nestL]) (ws3 wd_533 wd_63 wd_534) nk_H_hasBit (rok rfl) (Nat.le_of_ble_eq_true rfl) (fun _ => rfl) (fun a2 M1 h => ?_)
    refine j_if_eq (tgt := 32) dd_T_heftOf_17 (by decide) (fun c => ?_) (fun c => ?_)
    · have h := h.1 c
      refine j_iincN dd_T_heftOf_32 rfl rfl (fun a3 ea3 => ?_)
      have h := h a3 ea3
      refine j_goto (tgt := 4) dd_T_heftOf_35 (by decide) ?_
      exact j_jump h (jsub_c rfl (jsub_c rfl (jsub_c rfl (jsub_c rfl jsub_0))))
    · have h := h.2 c
      refine j_iload_n (j := 2) dd_T_heftOf_20 rfl rfl ?_
      refine j_aload_n (j := 0) dd_T_heftOf_21 rfl rfl ?_
      refine gf_3_0 dd_T_heftOf_22 wd_159 ?_
      refine j_iload_n (j := 3) dd_T_heftOf_25 rfl rfl ?_
      refine ld_4 dd_T_heftOf_26 h.1 ?_
      have h := h.2
      refine gf_1_3 dd_T_heftOf_27 wd_109 ?_
      refine j_iadd dd_T_heftOf_30 ?_
      refine j_topI (fun a4 ea4 => ?_)
      have h := h a4 ea4
      refine j_istore_n (j := 2) dd_T_heftOf_31 rfl (by decide) rfl ?_
      refine j_iincN dd_T_heftOf_32 rfl rfl (fun a5 ea5 => ?_)
      have h := h a5 ea5
      refine j_goto (tgt := 4) dd_T_heftOf_35 (by decide) ?_
      exact j_jump h (jsub_c rfl (jsub_c rfl (jsub_c rfl (jsub_c rfl jsub_0))))
theorem vc_T_paysOf {E : EE} {Q : Int → JM → Prop} (u : Nat) (x1 : Int) (M : JM) (h : JG E mm_T_paysOf Q 4 [(0, vR 3 u), (1, vI x1), (2, vI 0), (3, vI 0)] [] M) : JC E mm_T_paysOf [vR 3 u, vI x1] M Q := by
  refine j_entry (L0 := [(0, vR 3 u), (1, vI x1)]) pn_T (Nat.le_of_ble_eq_true rfl) rfl ?_
  refine j_iconst dd_T_paysOf_0 (inRd rfl) ?_
  refine j_istore_n (j := 2) dd_T_paysOf_1 rfl (by decide) rfl ?_
  refine j_iconst dd_T_paysOf_2 (inRd rfl) ?_
  refine j_istore_n (j := 3) dd_T_paysOf_3 rfl (by decide) rfl ?_
  exact j_jump h (jsub_c rfl (jsub_c rfl (jsub_c rfl (jsub_c rfl jsub_0))))
theorem vc_T_paysOf_4 {E : EE} {Q : Int → JM → Prop} (u : Nat) (x1 : Int) (l2 : Int) (l3 : Int) (M : JM) (h : ((M 3 u 2 ≤ l3 → Q l2 M) ∧ (l3 < M 3 u 2 → JC E mm_H_hasBit [vI x1, vI l3] M (fun a2 M1 => ((a2 = 0 → ∀ a3 : Int, a3 = w32 (l3 + 1) → JG E mm_T_paysOf Q 4 [(0, vR 3 u), (1, vI x1), (2, vI l2), (3, vI a3)] [] M1) ∧ (a2 ≠ 0 → (0 ≤ l3 ∧ l3 < 8) ∧ ∀ a4 : Int, a4 = w32 (l2 + (M1 1 (8 * u + l3.toNat) 4)) → ∀ a5 : Int, a5 = w32 (l3 + 1) → JG E mm_T_paysOf Q 4 [(0, vR 3 u), (1, vI x1), (2, vI a4), (3, vI a5)] [] M1)))))) : JG E mm_T_paysOf Q 4 [(0, vR 3 u), (1, vI x1), (2, vI l2), (3, vI l3)] [] M := by
  refine j_iload_n (j := 3) dd_T_paysOf_4 rfl rfl ?_
  refine j_aload_n (j := 0) dd_T_paysOf_5 rfl rfl ?_
  refine gf_3_2 dd_T_paysOf_6 wd_163 ?_
  refine j_icmp_ge (tgt := 38) dd_T_paysOf_9 (by decide) (fun c => ?_) (fun c => ?_)
  · have h := h.1 c
    refine j_iload_n (j := 2) dd_T_paysOf_38 rfl rfl ?_
    exact j_iret dd_T_paysOf_39 rfl h
  · have h := h.2 c
    refine j_iload_n (j := 1) dd_T_paysOf_12 rfl rfl ?_
    refine j_iload_n (j := 3) dd_T_paysOf_13 rfl rfl ?_
    refine j_cNI (mm' := mm_H_hasBit) (As := [vI x1, vI l3]) (rest := []) h dd_T_paysOf_14 (by simp [nestL]) (ws3 wd_533 wd_63 wd_534) nk_H_hasBit (rok rfl) (Nat.le_of_ble_eq_true rfl) (fun _ => rfl) (fun a2 M1 h => ?_)
    refine j_if_eq (tgt := 32) dd_T_paysOf_17 (by decide) (fun c => ?_) (fun c => ?_)
    · have h := h.1 c
      refine j_iincN dd_T_paysOf_32 rfl rfl (fun a3 ea3 => ?_)
      have h := h a3 ea3
      refine j_goto (tgt := 4) dd_T_paysOf_35 (by decide) ?_
      exact j_jump h (jsub_c rfl (jsub_c rfl (jsub_c rfl (jsub_c rfl jsub_0))))
    · have h := h.2 c
      refine j_iload_n (j := 2) dd_T_paysOf_20 rfl rfl ?_
      refine j_aload_n (j := 0) dd_T_paysOf_21 rfl rfl ?_
      refine gf_3_0 dd_T_paysOf_22 wd_159 ?_
      refine j_iload_n (j := 3) dd_T_paysOf_25 rfl rfl ?_
      refine ld_4 dd_T_paysOf_26 h.1 ?_
      have h := h.2
      refine gf_1_4 dd_T_paysOf_27 wd_112 ?_
      refine j_iadd dd_T_paysOf_30 ?_
      refine j_topI (fun a4 ea4 => ?_)
      have h := h a4 ea4
      refine j_istore_n (j := 2) dd_T_paysOf_31 rfl (by decide) rfl ?_
      refine j_iincN dd_T_paysOf_32 rfl rfl (fun a5 ea5 => ?_)
      have h := h a5 ea5
      refine j_goto (tgt := 4) dd_T_paysOf_35 (by decide) ?_
      exact j_jump h (jsub_c rfl (jsub_c rfl (jsub_c rfl (jsub_c rfl jsub_0))))
theorem vc_T_worthOfAll {E : EE} {Q : Int → JM → Prop} (u : Nat) (M : JM) (h : JG E mm_T_worthOfAll Q 4 [(0, vR 3 u), (1, vI 0), (2, vI 0)] [] M) : JC E mm_T_worthOfAll [vR 3 u] M Q := by
  refine j_entry (L0 := [(0, vR 3 u)]) pn_T (Nat.le_of_ble_eq_true rfl) rfl ?_
  refine j_iconst dd_T_worthOfAll_0 (inRd rfl) ?_
  refine j_istore_n (j := 1) dd_T_worthOfAll_1 rfl (by decide) rfl ?_
  refine j_iconst dd_T_worthOfAll_2 (inRd rfl) ?_
  refine j_istore_n (j := 2) dd_T_worthOfAll_3 rfl (by decide) rfl ?_
  exact j_jump h (jsub_c rfl (jsub_c rfl (jsub_c rfl jsub_0)))
theorem vc_T_worthOfAll_4 {E : EE} {Q : Int → JM → Prop} (u : Nat) (l1 : Int) (l2 : Int) (M : JM) (h : ((M 3 u 2 ≤ l2 → Q l1 M) ∧ (l2 < M 3 u 2 → (0 ≤ l2 ∧ l2 < 8) ∧ ∀ a1 : Int, a1 = w32 (l1 + (M 1 (8 * u + l2.toNat) 2)) → ∀ a2 : Int, a2 = w32 (l2 + 1) → JG E mm_T_worthOfAll Q 4 [(0, vR 3 u), (1, vI a1), (2, vI a2)] [] M))) : JG E mm_T_worthOfAll Q 4 [(0, vR 3 u), (1, vI l1), (2, vI l2)] [] M := by
  refine j_iload_n (j := 2) dd_T_worthOfAll_4 rfl rfl ?_
  refine j_aload_n (j := 0) dd_T_worthOfAll_5 rfl rfl ?_
  refine gf_3_2 dd_T_worthOfAll_6 wd_163 ?_
  refine j_icmp_ge (tgt := 30) dd_T_worthOfAll_9 (by decide) (fun c => ?_) (fun c => ?_)
  · have h := h.1 c
    refine j_iload_n (j := 1) dd_T_worthOfAll_30 rfl rfl ?_
    exact j_iret dd_T_worthOfAll_31 rfl h
  · have h := h.2 c
    refine j_iload_n (j := 1) dd_T_worthOfAll_12 rfl rfl ?_
    refine j_aload_n (j := 0) dd_T_worthOfAll_13 rfl rfl ?_
    refine gf_3_0 dd_T_worthOfAll_14 wd_159 ?_
    refine j_iload_n (j := 2) dd_T_worthOfAll_17 rfl rfl ?_
    refine ld_4 dd_T_worthOfAll_18 h.1 ?_
    have h := h.2
    refine gf_1_2 dd_T_worthOfAll_19 wd_106 ?_
    refine j_iadd dd_T_worthOfAll_22 ?_
    refine j_topI (fun a1 ea1 => ?_)
    have h := h a1 ea1
    refine j_istore_n (j := 1) dd_T_worthOfAll_23 rfl (by decide) rfl ?_
    refine j_iincN dd_T_worthOfAll_24 rfl rfl (fun a2 ea2 => ?_)
    have h := h a2 ea2
    refine j_goto (tgt := 4) dd_T_worthOfAll_27 (by decide) ?_
    exact j_jump h (jsub_c rfl (jsub_c rfl (jsub_c rfl jsub_0)))
theorem vc_T_wagesOfAll {E : EE} {Q : Int → JM → Prop} (u : Nat) (M : JM) (h : JG E mm_T_wagesOfAll Q 4 [(0, vR 3 u), (1, vI 0), (2, vI 0)] [] M) : JC E mm_T_wagesOfAll [vR 3 u] M Q := by
  refine j_entry (L0 := [(0, vR 3 u)]) pn_T (Nat.le_of_ble_eq_true rfl) rfl ?_
  refine j_iconst dd_T_wagesOfAll_0 (inRd rfl) ?_
  refine j_istore_n (j := 1) dd_T_wagesOfAll_1 rfl (by decide) rfl ?_
  refine j_iconst dd_T_wagesOfAll_2 (inRd rfl) ?_
  refine j_istore_n (j := 2) dd_T_wagesOfAll_3 rfl (by decide) rfl ?_
  exact j_jump h (jsub_c rfl (jsub_c rfl (jsub_c rfl jsub_0)))
theorem vc_T_wagesOfAll_4 {E : EE} {Q : Int → JM → Prop} (u : Nat) (l1 : Int) (l2 : Int) (M : JM) (h : ((M 3 u 3 ≤ l2 → Q l1 M) ∧ (l2 < M 3 u 3 → (0 ≤ l2 ∧ l2 < 4) ∧ ∀ a1 : Int, a1 = w32 (l1 + (M 2 (4 * u + (M 5 u l2.toNat).toNat) 1)) → ∀ a2 : Int, a2 = w32 (l2 + 1) → JG E mm_T_wagesOfAll Q 4 [(0, vR 3 u), (1, vI a1), (2, vI a2)] [] M))) : JG E mm_T_wagesOfAll Q 4 [(0, vR 3 u), (1, vI l1), (2, vI l2)] [] M := by
  refine j_iload_n (j := 2) dd_T_wagesOfAll_4 rfl rfl ?_
  refine j_aload_n (j := 0) dd_T_wagesOfAll_5 rfl rfl ?_
  refine gf_3_3 dd_T_wagesOfAll_6 wd_166 ?_
  refine j_icmp_ge (tgt := 30) dd_T_wagesOfAll_9 (by decide) (fun c => ?_) (fun c => ?_)
  · have h := h.1 c
    refine j_iload_n (j := 1) dd_T_wagesOfAll_30 rfl rfl ?_
    exact j_iret dd_T_wagesOfAll_31 rfl h
  · have h := h.2 c
    refine j_iload_n (j := 1) dd_T_wagesOfAll_12 rfl rfl ?_
    refine j_aload_n (j := 0) dd_T_wagesOfAll_13 rfl rfl ?_
    refine gf_3_1 dd_T_wagesOfAll_14 wd_161 ?_
    refine j_iload_n (j := 2) dd_T_wagesOfAll_17 rfl rfl ?_
    refine ld_5 dd_T_wagesOfAll_18 h.1 ?_
    have h := h.2
    refine gf_2_1 dd_T_wagesOfAll_19 wd_138 ?_
    refine j_iadd dd_T_wagesOfAll_22 ?_
    refine j_topI (fun a1 ea1 => ?_)
    have h := h a1 ea1
    refine j_istore_n (j := 1) dd_T_wagesOfAll_23 rfl (by decide) rfl ?_
    refine j_iincN dd_T_wagesOfAll_24 rfl rfl (fun a2 ea2 => ?_)
    have h := h a2 ea2
    refine j_goto (tgt := 4) dd_T_wagesOfAll_27 (by decide) ?_
    exact j_jump h (jsub_c rfl (jsub_c rfl (jsub_c rfl jsub_0)))
theorem vc_T_strengthOfAll {E : EE} {Q : Int → JM → Prop} (u : Nat) (M : JM) (h : JG E mm_T_strengthOfAll Q 4 [(0, vR 3 u), (1, vI 0), (2, vI 0)] [] M) : JC E mm_T_strengthOfAll [vR 3 u] M Q := by
  refine j_entry (L0 := [(0, vR 3 u)]) pn_T (Nat.le_of_ble_eq_true rfl) rfl ?_
  refine j_iconst dd_T_strengthOfAll_0 (inRd rfl) ?_
  refine j_istore_n (j := 1) dd_T_strengthOfAll_1 rfl (by decide) rfl ?_
  refine j_iconst dd_T_strengthOfAll_2 (inRd rfl) ?_
  refine j_istore_n (j := 2) dd_T_strengthOfAll_3 rfl (by decide) rfl ?_
  exact j_jump h (jsub_c rfl (jsub_c rfl (jsub_c rfl jsub_0)))
theorem vc_T_strengthOfAll_4 {E : EE} {Q : Int → JM → Prop} (u : Nat) (l1 : Int) (l2 : Int) (M : JM) (h : ((M 3 u 3 ≤ l2 → Q l1 M) ∧ (l2 < M 3 u 3 → (0 ≤ l2 ∧ l2 < 4) ∧ ∀ a1 : Int, a1 = w32 (l1 + (M 2 (4 * u + (M 5 u l2.toNat).toNat) 0)) → ∀ a2 : Int, a2 = w32 (l2 + 1) → JG E mm_T_strengthOfAll Q 4 [(0, vR 3 u), (1, vI a1), (2, vI a2)] [] M))) : JG E mm_T_strengthOfAll Q 4 [(0, vR 3 u), (1, vI l1), (2, vI l2)] [] M := by
  refine j_iload_n (j := 2) dd_T_strengthOfAll_4 rfl rfl ?_
  refine j_aload_n (j := 0) dd_T_strengthOfAll_5 rfl rfl ?_
  refine gf_3_3 dd_T_strengthOfAll_6 wd_166 ?_
  refine j_icmp_ge (tgt := 30) dd_T_strengthOfAll_9 (by decide) (fun c => ?_) (fun c => ?_)
  · have h := h.1 c
    refine j_iload_n (j := 1) dd_T_strengthOfAll_30 rfl rfl ?_
    exact j_iret dd_T_strengthOfAll_31 rfl h
  · have h := h.2 c
    refine j_iload_n (j := 1) dd_T_strengthOfAll_12 rfl rfl ?_
    refine j_aload_n (j := 0) dd_T_strengthOfAll_13 rfl rfl ?_
    refine gf_3_1 dd_T_strengthOfAll_14 wd_161 ?_
    refine j_iload_n (j := 2) dd_T_strengthOfAll_17 rfl rfl ?_
    refine ld_5 dd_T_strengthOfAll_18 h.1 ?_
    have h := h.2
    refine gf_2_0 dd_T_strengthOfAll_19 wd_135 ?_
    refine j_iadd dd_T_strengthOfAll_22 ?_
    refine j_topI (fun a1 ea1 => ?_)
    have h := h a1 ea1
    refine j_istore_n (j := 1) dd_T_strengthOfAll_23 rfl (by decide) rfl ?_
    refine j_iincN dd_T_strengthOfAll_24 rfl rfl (fun a2 ea2 => ?_)
    have h := h a2 ea2
    refine j_goto (tgt := 4) dd_T_strengthOfAll_27 (by decide) ?_
    exact j_jump h (jsub_c rfl (jsub_c rfl (jsub_c rfl jsub_0)))
theorem vc_T_leastWages {E : EE} {Q : Int → JM → Prop} (u : Nat) (M : JM) (h : ((M 3 u 3 ≠ 0 → ∀ a1 : Int, a1 = M 2 (4 * u + (M 5 u 0).toNat) 1 → JG E mm_T_leastWages Q 21 [(0, vR 3 u), (1, vI a1), (2, vI 1)] [] M) ∧ (M 3 u 3 = 0 → Q 0 M))) : JC E mm_T_leastWages [vR 3 u] M Q := by
  refine j_entry (L0 := [(0, vR 3 u)]) pn_T (Nat.le_of_ble_eq_true rfl) rfl ?_
  refine j_aload_n (j := 0) dd_T_leastWages_0 rfl rfl ?_
  refine gf_3_3 dd_T_leastWages_1 wd_166 ?_
  refine j_if_ne (tgt := 9) dd_T_leastWages_4 (by decide) (fun c => ?_) (fun c => ?_)
  · have h := h.1 c
    refine j_aload_n (j := 0) dd_T_leastWages_9 rfl rfl ?_
    refine gf_3_1 dd_T_leastWages_10 wd_161 ?_
    refine j_iconst dd_T_leastWages_13 (inRd rfl) ?_
    refine ld_5 dd_T_leastWages_14 ⟨by decide, by decide⟩ ?_
    refine gf_2_1 dd_T_leastWages_15 wd_138 ?_
    refine j_topI (fun a1 ea1 => ?_)
    have h := h a1 ea1
    refine j_istore_n (j := 1) dd_T_leastWages_18 rfl (by decide) rfl ?_
    refine j_iconst dd_T_leastWages_19 (inRd rfl) ?_
    refine j_istore_n (j := 2) dd_T_leastWages_20 rfl (by decide) rfl ?_
    exact j_jump h (jsub_c rfl (jsub_c rfl (jsub_c rfl jsub_0)))
  · have h := h.2 c
    refine j_iconst dd_T_leastWages_7 (inRd rfl) ?_
    exact j_iret dd_T_leastWages_8 rfl h
theorem vc_T_leastWages_21 {E : EE} {Q : Int → JM → Prop} (u : Nat) (l1 : Int) (l2 : Int) (M : JM) (h : ((M 3 u 3 ≤ l2 → Q l1 M) ∧ (l2 < M 3 u 3 → (0 ≤ l2 ∧ l2 < 4) ∧ ∀ a1 : Int, a1 = min l1 (M 2 (4 * u + (M 5 u l2.toNat).toNat) 1) → ∀ a2 : Int, a2 = w32 (l2 + 1) → JG E mm_T_leastWages Q 21 [(0, vR 3 u), (1, vI a1), (2, vI a2)] [] M))) : JG E mm_T_leastWages Q 21 [(0, vR 3 u), (1, vI l1), (2, vI l2)] [] M := by
  refine j_iload_n (j := 2) dd_T_leastWages_21 rfl rfl ?_
  refine j_aload_n (j := 0) dd_T_leastWages_22 rfl rfl ?_
  refine gf_3_3 dd_T_leastWages_23 wd_166 ?_
  refine j_icmp_ge (tgt := 49) dd_T_leastWages_26 (by decide) (fun c => ?_) (fun c => ?_)
  · have h := h.1 c
    refine j_iload_n (j := 1) dd_T_leastWages_49 rfl rfl ?_
    exact j_iret dd_T_leastWages_50 rfl h
  · have h := h.2 c
    refine j_iload_n (j := 1) dd_T_leastWages_29 rfl rfl ?_
    refine j_aload_n (j := 0) dd_T_leastWages_30 rfl rfl ?_
    refine gf_3_1 dd_T_leastWages_31 wd_161 ?_
    refine j_iload_n (j := 2) dd_T_leastWages_34 rfl rfl ?_
    refine ld_5 dd_T_leastWages_35 h.1 ?_
    have h := h.2
    refine gf_2_1 dd_T_leastWages_36 wd_138 ?_
    refine j_mmin dd_T_leastWages_39 wd_595 wd_596 wd_75 wd_597 ⟨by decide, by decide⟩ (Nat.le_of_ble_eq_true rfl) ?_
    refine j_topI (fun a1 ea1 => ?_)
    have h := h a1 ea1
    refine j_istore_n (j := 1) dd_T_leastWages_42 rfl (by decide) rfl ?_
    refine j_iincN dd_T_leastWages_43 rfl rfl (fun a2 ea2 => ?_)
    have h := h a2 ea2
    refine j_goto (tgt := 21) dd_T_leastWages_46 (by decide) ?_
    exact j_jump h (jsub_c rfl (jsub_c rfl (jsub_c rfl jsub_0)))
theorem vc_N_bitCount {E : EE} {Q : Int → JM → Prop} (x1 : Int) (M : JM) (h : ∀ a1 : Int, a1 = w32 (x1 - (and32 (ush32 x1 1) 1431655765)) → ∀ a2 : Int, a2 = w32 (and32 a1 858993459 + (and32 (ush32 a1 2) 858993459)) → ∀ a3 : Int, a3 = and32 (w32 (a2 + (ush32 a2 4))) 252645135 → ∀ a4 : Int, a4 = w32 (a3 + (ush32 a3 8)) → ∀ a5 : Int, a5 = w32 (a4 + (ush32 a4 16)) → Q (and32 a5 63) M) : JC E mm_N_bitCount [vI x1] M Q := by
  refine j_entry (L0 := [(0, vI x1)]) pn_N (Nat.le_of_ble_eq_true rfl) rfl ?_
  refine j_iload_n (j := 0) dd_N_bitCount_0 rfl rfl ?_
  refine j_iload_n (j := 0) dd_N_bitCount_1 rfl rfl ?_
  refine j_iconst dd_N_bitCount_2 (inRd rfl) ?_
  refine j_iushr dd_N_bitCount_3 ?_
  refine j_ldcw (x := 1431655765) dd_N_bitCount_4 wd_766 rfl (inRd rfl) ?_
  refine j_iand dd_N_bitCount_7 ?_
  refine j_isub dd_N_bitCount_8 ?_
  refine j_topI (fun a1 ea1 => ?_)
  have h := h a1 ea1
  refine j_istore_n (j := 0) dd_N_bitCount_9 rfl (by decide) rfl ?_
  refine j_iload_n (j := 0) dd_N_bitCount_10 rfl rfl ?_
  refine j_ldcw (x := 858993459) dd_N_bitCount_11 wd_767 rfl (inRd rfl) ?_
  refine j_iand dd_N_bitCount_14 ?_
  refine j_iload_n (j := 0) dd_N_bitCount_15 rfl rfl ?_
  refine j_iconst dd_N_bitCount_16 (inRd rfl) ?_
  refine j_iushr dd_N_bitCount_17 ?_
  refine j_ldcw (x := 858993459) dd_N_bitCount_18 wd_767 rfl (inRd rfl) ?_
  refine j_iand dd_N_bitCount_21 ?_
  refine j_iadd dd_N_bitCount_22 ?_
  refine j_topI (fun a2 ea2 => ?_)
  have h := h a2 ea2
  refine j_istore_n (j := 0) dd_N_bitCount_23 rfl (by decide) rfl ?_
  refine j_iload_n (j := 0) dd_N_bitCount_24 rfl rfl ?_
  refine j_iload_n (j := 0) dd_N_bitCount_25 rfl rfl ?_
  refine j_iconst dd_N_bitCount_26 (inRd rfl) ?_
  refine j_iushr dd_N_bitCount_27 ?_
  refine j_iadd dd_N_bitCount_28 ?_
  refine j_ldcw (x := 252645135) dd_N_bitCount_29 wd_768 rfl (inRd rfl) ?_
  refine j_iand dd_N_bitCount_32 ?_
  refine j_topI (fun a3 ea3 => ?_)
  have h := h a3 ea3
  refine j_istore_n (j := 0) dd_N_bitCount_33 rfl (by decide) rfl ?_
  refine j_iload_n (j := 0) dd_N_bitCount_34 rfl rfl ?_
  refine j_iload_n (j := 0) dd_N_bitCount_35 rfl rfl ?_
  refine j_bipush dd_N_bitCount_36 rfl (inRd rfl) ?_
  refine j_iushr dd_N_bitCount_38 ?_
  refine j_iadd dd_N_bitCount_39 ?_
  refine j_topI (fun a4 ea4 => ?_)
  have h := h a4 ea4
  refine j_istore_n (j := 0) dd_N_bitCount_40 rfl (by decide) rfl ?_
  refine j_iload_n (j := 0) dd_N_bitCount_41 rfl rfl ?_
  refine j_iload_n (j := 0) dd_N_bitCount_42 rfl rfl ?_
  refine j_bipush dd_N_bitCount_43 rfl (inRd rfl) ?_
  refine j_iushr dd_N_bitCount_45 ?_
  refine j_iadd dd_N_bitCount_46 ?_
  refine j_topI (fun a5 ea5 => ?_)
  have h := h a5 ea5
  refine j_istore_n (j := 0) dd_N_bitCount_47 rfl (by decide) rfl ?_
  refine j_iload_n (j := 0) dd_N_bitCount_48 rfl rfl ?_
  refine j_bipush dd_N_bitCount_49 rfl (inRd rfl) ?_
  refine j_iand dd_N_bitCount_51 ?_
  exact j_iret dd_N_bitCount_52 rfl h

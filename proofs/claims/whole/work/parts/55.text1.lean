/-! the text, in the class -/
def prs0 (T : Nat → Int) (n : Nat) : (Int × Nat) × (Nat × ((Nat → Int) × Nat)) := prs T n 200 X00 0 0 0 (tE T n 0) (tS T n 0) (tK T n 0) 0
def prZ (Z : ZZ) : (Int × Nat) × (Nat × ((Nat → Int) × Nat)) := prs0 (Z 4) (Z 3 1).toNat
def txtZ (Z : ZZ) (X : Nat → Int) (np : Nat) : ZZ := fun a k => if a = 0 then X k else if a = 3 then (if k = 0 then (np : Int) else if k = 4 then Z 3 4 else 0) else Z a k
def flt (Z : ZZ) (c : Int) : ZZ := fun a k => if a = 3 ∧ k = 1 then 0 else if a = 3 ∧ k = 3 then c else Z a k
def sp_text (Z : ZZ) : Int × ZZ := if (prZ Z).1.1 ≠ 0 then (w32 (-10 - ((prZ Z).1.2 : Int)), flt Z (prZ Z).1.1) else (((prZ Z).2.1 : Int), txtZ Z (prZ Z).2.2.1 (prZ Z).2.2.2)
theorem X00_PB : PB X00 0 := ⟨by decide, by decide, fun g hg => absurd hg (by show ¬ g < 0; omega), fun p hp => by omega, by decide, by decide⟩
theorem lnB_r {T : Nat → Int} {n i s np : Nat} {k h5 h6 : Int} {X : Nat → Int} (h : (lnB T n i s k X np h5 h6).1 = 0) : rfF (wdK T i s k) X np h5 h6 = 0 ∧ (lnF T n (wdK T i s k) i).1 = 0 := by
  unfold lnB at h
  by_cases y : rfF (wdK T i s k) X np h5 h6 ≠ 0
  · rw [if_pos y] at h; exact absurd h y
  · rw [if_neg y] at h; exact ⟨by omega, h⟩
theorem rf_w {w h5 h6 : Int} {X : Nat → Int} {np : Nat} (h : rfF w X np h5 h6 = 0) : w ≠ 7 := by
  intro q
  unfold rfF at h
  rw [if_pos q] at h
  omega
/-- one line of prs -/
theorem prs_s {T : Nat → Int} {n fu i s np L : Nat} {k h5 h6 : Int} {X : Nat → Int} (hk : k ≠ 4) (hk0 : k ≠ 0) : prs T n (fu + 1) X np h5 h6 i s k L = if (lnB T n i s k X np h5 h6).1 ≠ 0 then (lnB T n i s k X np h5 h6, (L, (X, np))) else prs T n fu (lnX T n (wdK T i s k) i X np) (lnN (wdK T i s k) np) (lnH 5 (wdK T i s k) h5) (lnH 6 (wdK T i s k) h6) (tE T n (lnF T n (wdK T i s k) i).2.2) (tS T n (lnF T n (wdK T i s k) i).2.2) (tK T n (lnF T n (wdK T i s k) i).2.2) (L + 1) := by
  rw [prs, if_neg hk, if_neg hk0]
  unfold lnB
  by_cases y : rfF (wdK T i s k) X np h5 h6 ≠ 0
  · rw [if_pos y, if_pos y, if_pos y]
  · rw [if_neg y, if_neg y]
theorem prs_ok {T : Nat → Int} {n : Nat} : ∀ (fu : Nat) (X : Nat → Int) (np : Nat) (h5 h6 : Int) (i s : Nat) (k : Int) (L : Nat), PB X np → PB (prs T n fu X np h5 h6 i s k L).2.2.1 (prs T n fu X np h5 h6 i s k L).2.2.2
  | 0, X, np, h5, h6, i, s, k, L, hB => hB
  | fu + 1, X, np, h5, h6, i, s, k, L, hB => by
    by_cases y4 : k = 4
    · rw [prs, if_pos y4]; exact hB
    · by_cases y0 : k = 0
      · rw [prs, if_neg y4, if_pos y0]; exact hB
      · rw [prs_s y4 y0]
        by_cases y : (lnB T n i s k X np h5 h6).1 ≠ 0
        · rw [if_pos y]; exact hB
        · rw [if_neg y]
          obtain ⟨a, b⟩ := lnB_r (by omega : (lnB T n i s k X np h5 h6).1 = 0)
          have c := wdK_c T i s k
          have d := rf_w a
          exact prs_ok fu _ _ _ _ _ _ _ _ (lnX_PB (by omega) hB a b)
section
variable {E : EE} {Q : Int → JM → Prop} {M : JM} {Z : ZZ} {T : Nat → Int} {n : Nat}
theorem P_tellAll (hW : WOK E) (hm : permOk M 1) (hT : M 9 0 1 = n ∧ ∀ j, j < n → M 10 0 j = T j) (hn : n ≤ 160)
    (hok : (prs0 T n).1.1 = 0 → ∀ M' : JM, M' 9 0 7 = 0 → VC M' 1 (prs0 T n).2.2.1 (prs0 T n).2.2.2 → fl M M' → Q ((prs0 T n).2.1 : Nat) M')
    (hbad : (prs0 T n).1.1 ≠ 0 → ∀ (v : Int) (M' : JM), M' 9 0 7 = (prs0 T n).1.1 → M' 9 0 8 = (prs0 T n).1.2 → fl M M' → Q v M') : JC E mm_P_tellAll [vR 9 0, vR 3 1] M Q := by
  refine vc_P_tellAll _ _ (T_startAfresh hm (fun M1 v1 f1 M3 e3 M4 e4 M5 e5 M6 e6 M7 e7 => ?_))
  have h7 : ∀ t i k, ¬ (t = 9 ∧ i = 0 ∧ 2 ≤ k) → M7 t i k = M1 t i k := fun t i k q => by rw [e7, pt_ne (by omega), e6, pt_ne (by omega), e5, pt_ne (by omega), e4, pt_ne (by omega), e3, pt_ne (by omega)]
  have loop : ∀ (fu : Nat) (X : Nat → Int) (np : Nat) (h5 h6 : Int) (i s : Nat) (k : Int) (L : Nat) (fp : Int) (M' : JM), n - s < fu → L ≤ s → s ≤ n → PC T n M' i s k (if k = 4 then 1 else 0) (if k = 4 then (s : Int) else fp) → (k ≠ 0 → s < n) → VC M' 1 X np → PB X np → M' 9 0 5 = h5 → M' 9 0 6 = h6 → fl M M' → prs0 T n = prs T n fu X np h5 h6 i s k L → JG E mm_P_tellAll Q 35 [(0, vR 9 0), (1, vR 3 1), (2, vI (L : Int))] [] M' := by
    intro fu
    induction fu with
    | zero => intro X np h5 h6 i s k L fp M' hfu; omega
    | succ fu ih =>
      intro X np h5 h6 i s k L fp M' hfu hL hs hP hk hV hB a5 a6 hf e
      refine vc_P_tellAll_35 _ _ _ ?_
      rw [hP.2.2.2.2.1, hP.2.2.1]
      by_cases y4 : k = 4
      · rw [if_pos y4]
        rw [prs, if_pos y4] at e
        rw [e] at hbad
        refine ⟨fun _ => hbad (show (1 : Int) ≠ 0 by decide) _ M' ?_ ?_ hf, fun z => absurd z (by decide)⟩
        · rw [hP.2.2.2.2.1, if_pos y4]
        · rw [hP.2.2.2.2.2.1, if_pos y4]
      · rw [if_neg y4]
        rw [if_neg y4, if_neg y4] at hP
        by_cases y0 : k = 0
        · rw [prs, if_neg y4, if_pos y0] at e
          rw [e] at hok
          exact ⟨fun z => absurd rfl z, fun _ => ⟨fun _ => hok rfl M' hP.2.2.2.2.1 hV hf, fun z => absurd y0 z⟩⟩
        · rw [prs_s y4 y0] at e
          have sn := hk y0
          have hi := hP.2.2.2.2.2.2
          refine ⟨fun z => absurd rfl z, fun _ => ⟨fun z => absurd z y0, fun _ => ⟨fun z => by omega, fun _ => P_tellLine hW hP hV hB a5 a6 (fun z M2 p2 v2 c5 c6 f2 a ea => ?_) (fun z M2 i' s' k' p2 f2 a ea => ?_)⟩⟩⟩
          · rw [if_neg (fun q => q z)] at e
            obtain ⟨r0, l0⟩ := lnB_r z
            have le := lnF_e hi.2.1 l0
            have wk1 := wdK_c T i s k
            have w7 := rf_w r0
            refine P_nextToken p2 (fun M3 p3 f3 => ?_)
            have tb := tE_b (T := T) (n := n) (i := (lnF T n (wdK T i s k) i).2.2) (by omega)
            rw [ea, w32_s (by omega)]
            exact ih _ _ _ _ _ _ _ (L + 1) fp M3 (by omega) (by omega) (by omega) p3 (fun q => tK_0 q) (VC_9 (fun t i k q => f3 t i k (by omega)) v2) (lnX_PB (by omega) hB r0 l0) (by rw [f3 9 0 5 (by omega)]; exact c5) (by rw [f3 9 0 6 (by omega)]; exact c6) (fl_tr hf (fl_tr f2 (pf_fl f3))) e
          · rw [if_pos z] at e
            rw [e] at hbad
            refine P_nextTokenF z p2 (vc_P_tellAll_35 _ _ _ ?_)
            rw [p2.2.2.2.2.1]
            exact ⟨fun _ => hbad z _ M2 p2.2.2.2.2.1 p2.2.2.2.2.2.1 (fl_tr hf f2), fun q => absurd q z⟩
  have fl7 : fl M M7 := fl_tr (fra_fl f1) (fun t i k q => h7 t i k (by omega))
  have v7 : VC M7 1 X00 0 := VC_9 (fun t i k q => h7 t i k (by omega)) v1
  have p7 : PCx T n M7 0 (M7 9 0 3) 0 0 := by
    refine ⟨⟨?_, fun j hj => ?_⟩, ?_, rfl, ?_, ?_, by omega, hn⟩
    · rw [h7 9 0 1 (by omega), f1 9 0 1 (by omega)]; exact hT.1
    · rw [h7 10 0 j (by omega), f1 10 0 j (by omega)]; exact hT.2 j hj
    · rw [e7, pt_ne (by omega), e6, pt_ne (by omega), e5, pt_ne (by omega), e4, pt_ne (by omega), e3, pt_eq]; rfl
    · rw [e7, pt_ne (by omega), e6, pt_ne (by omega), e5, pt_ne (by omega), e4, pt_eq]
    · rw [e7, pt_ne (by omega), e6, pt_ne (by omega), e5, pt_eq]
  refine P_nextTokenX p7 (fun M8 p8 f8 => ?_)
  have tb := tE_b (T := T) (n := n) (i := 0) (by omega)
  exact loop 200 X00 0 0 0 _ _ _ 0 0 M8 (by omega) (by omega) (by omega) p8 (fun q => tK_0 q) (VC_9 (fun t i k q => f8 t i k (by omega)) v7) X00_PB (by rw [f8 9 0 5 (by omega), e7, pt_ne (by omega), e6, pt_eq]) (by rw [f8 9 0 6 (by omega), e7, pt_eq]) (fl_tr fl7 (pf_fl f8)) rfl
theorem txt_o {X : Nat → Int} {np a k : Nat} (h : ¬ a = 0) (h3 : ¬ a = 3) : txtZ Z X np a k = Z a k := by unfold txtZ; rw [if_neg h, if_neg h3]
theorem txt_0 {X : Nat → Int} {np : Nat} : txtZ Z X np 0 = X := funext fun k => if_pos rfl
theorem txt_n {X : Nat → Int} {np : Nat} : txtZ Z X np 3 0 = np := by unfold txtZ; rw [if_neg (by omega), if_pos rfl, if_pos rfl]
theorem txt_t {X : Nat → Int} {np : Nat} : txtZ Z X np 3 4 = Z 3 4 := by unfold txtZ; rw [if_neg (by omega), if_pos rfl, if_neg (by omega), if_pos rfl]
theorem txt_3 {X : Nat → Int} {np k : Nat} (h : ¬ k = 0) (h4 : ¬ k = 4) : txtZ Z X np 3 k = 0 := by unfold txtZ; rw [if_neg (by omega), if_pos rfl, if_neg h, if_neg h4]
theorem flt_o {c : Int} {a k : Nat} (h : ¬ (a = 3 ∧ (k = 1 ∨ k = 3))) : flt Z c a k = Z a k := by unfold flt; rw [if_neg (by omega), if_neg (by omega)]
theorem flt_r {c : Int} {a : Nat} (h : ¬ a = 3) : flt Z c a = Z a := funext fun k => flt_o (by omega)
theorem flt_1 {c : Int} : flt Z c 3 1 = 0 := if_pos ⟨rfl, rfl⟩
theorem flt_3 {c : Int} : flt Z c 3 3 = c := by unfold flt; rw [if_neg (by omega), if_pos ⟨rfl, rfl⟩]
theorem prZ_PB (Z : ZZ) : PB (prZ Z).2.2.1 (prZ Z).2.2.2 := prs_ok 200 X00 0 0 0 _ _ _ 0 X00_PB
theorem ZB_flt {c : Int} (hZ : ZB Z) : ZB (flt Z c) := by
  obtain ⟨z1, z2, z3, z4, z5, z6, z7, z8⟩ := hZ
  have en : npz (flt Z c) = npz Z := npz_c (flt_o (by omega))
  refine ⟨by rw [en, flt_r (by omega)]; exact z1, by rw [flt_o (by omega)]; exact z2, by rw [flt_1]; omega, by rw [flt_o (by omega)]; exact z4, fun j hj => ?_, fun j hj => ?_, fun i hi => ?_, fun j hj => ?_⟩
  · rw [en, flt_o (by omega), flt_r (by omega)]; exact z5 j hj
  · rw [flt_r (a := 5) (by omega), flt_r (a := 6) (by omega)]; exact z6 j hj
  · rw [flt_o (by omega)] at hi
    rw [flt_r (a := 8) (by omega), flt_o (a := 3) (k := 0) (by omega)]; exact z7 i hi
  · rw [flt_1] at hj; omega
theorem npz_txt {X : Nat → Int} {np : Nat} : npz (txtZ Z X np) = np := by unfold npz; rw [txt_n]; rfl
theorem ZB_txt {X : Nat → Int} {np : Nat} (hZ : ZB Z) (hB : PB X np) : ZB (txtZ Z X np) := by
  obtain ⟨z1, z2, z3, z4, z5, z6, z7, z8⟩ := hZ
  refine ⟨by rw [npz_txt, txt_0]; exact hB, by rw [txt_n]; omega, by rw [txt_3 (by omega) (by omega)]; omega, by rw [txt_3 (by omega) (by omega)]; omega, fun j hj => ?_, fun j hj => ?_, fun i hi => ?_, fun j hj => ?_⟩
  · rw [txt_3 (by omega) (by omega)]; exact ⟨Or.inl rfl, fun q => absurd q (by decide)⟩
  · rw [txt_o (by omega) (by omega), txt_o (by omega) (by omega)]; exact z6 j hj
  · rw [txt_3 (by omega) (by omega)] at hi; omega
  · rw [txt_3 (by omega) (by omega)] at hj; omega
theorem ZB_text (hZ : ZB Z) : ZB (sp_text Z).2 := by
  unfold sp_text
  split
  · exact ZB_flt hZ
  · exact ZB_txt hZ (prZ_PB Z)
theorem H_text (hW : WOK E) (hZ : ZB Z) (hR : RepC Z M) (hQ : ∀ M' : JM, RepC (sp_text Z).2 M' → keepR M M' → Q (sp_text Z).1 M') : JC E mm_H_text [vR 0 0] M Q := by
  have hl := hZ.2.2.1
  have hn : ((Z 3 1).toNat : Int) = Z 3 1 := by omega
  unfold sp_text at hQ
  refine vc_H_text _ (P_tellAll (T := Z 4) (n := (Z 3 1).toNat) hW (hR.2.1 1 (by omega)) ⟨by rw [hn]; exact hR.2.2.2.1.1, fun j hj => hR.2.2.2.1.2 j (by omega)⟩ (by omega) (fun e0 M1 x7 v1 f1 M3 e3 M4 e4 => ?_) (fun e0 v M1 x7 x8 f1 M3 e3 M4 e4 => ?_))
  · rw [if_neg (fun q => q e0)] at hQ
    dsimp only at hQ
    have x3 : M3 9 0 7 = 0 := by rw [e3, pt_ne (by omega)]; exact x7
    rw [x3] at e4
    have x10 : M4 0 0 10 = 0 := by rw [e4, pt_eq]
    rw [x10]
    refine ⟨fun _ => ?_, fun z => absurd rfl z⟩
    have g4 : ∀ t i k, ¬ (t = 9 ∧ k = 1) → ¬ (t = 0 ∧ k = 10) → M4 t i k = M1 t i k := fun t i k q q2 => by rw [e4, pt_ne (by omega), e3, pt_ne (by omega)]
    have v4 : VC M4 1 (prZ Z).2.2.1 (prZ Z).2.2.2 := VC_eq5 (fun t i k q => g4 t i k (by omega) (by omega)) v1
    have hB := prZ_PB Z
    have pm4 : ∀ u, u < 5 → permOk M4 u := by
      intro u hu
      have h5 : ∀ a, M4 5 u a = M 5 u a := fun a => by rw [g4 5 u a (by omega) (by omega)]; exact f1 5 u a (by omega)
      refine ⟨fun a ha => ?_, fun a b ha hb0 => ?_⟩
      · rw [h5]; exact (hR.2.1 u hu).1 a ha
      · rw [h5, h5]; exact (hR.2.1 u hu).2 a b ha hb0
    refine T_copyFrom (by decide) hB v4 (pm4 0 (by omega)) (fun M5 v5 t5 f5 M7 e7 => ?_)
    have v5' : VC M5 0 (prZ Z).2.2.1 (prZ Z).2.2.2 := VC_c v5 (ngd_le (cpy_PB hB)) hB.2.1 (fun j hj => (cpy_lo (by omega)).symm)
    -- images are gone
    refine vc_H_text_67 _ _ _ ⟨fun z => by omega, fun _ => ⟨by omega, fun M8 e8 a8 ea8 => ?_⟩⟩
    rw [ea8, w32_id (by omega) (by omega)]
    refine vc_H_text_67 _ _ _ ⟨fun z => by omega, fun _ => ⟨by omega, fun M9 e9 a9 ea9 => ?_⟩⟩
    rw [ea9, w32_id (by omega) (by omega)]
    refine vc_H_text_67 _ _ _ ⟨fun _ => ?_, fun z => by omega⟩
    have g9 : ∀ t i k, ¬ (t = 12) → ¬ (t = 0 ∧ k = 9) → M9 t i k = M5 t i k := fun t i k q q2 => by rw [e9, pt_ne (by omega), e8, pt_ne (by omega), e7, pt_ne (by omega)]
    have v9 : VC M9 0 (prZ Z).2.2.1 (prZ Z).2.2.2 := by
      have eo : ∀ r, on M9 0 r = on M5 0 r := fun r => by unfold on; rw [g9 5 0 r (by omega) (by omega)]
      refine ⟨by rw [g9 3 _ _ (by omega) (by omega), g9 3 _ _ (by omega) (by omega), g9 3 _ _ (by omega) (by omega), g9 3 _ _ (by omega) (by omega), g9 3 _ _ (by omega) (by omega)]; exact v5'.1, fun g hg => ?_, fun r hr => ?_, fun a ha => ?_, fun a b ha hb0 => ?_⟩
      · rw [g9 1 _ 0 (by omega) (by omega), g9 1 _ 1 (by omega) (by omega), g9 1 _ 2 (by omega) (by omega), g9 1 _ 3 (by omega) (by omega), g9 1 _ 4 (by omega) (by omega), g9 1 _ 5 (by omega) (by omega)]; exact v5'.2.1 g hg
      · rw [eo, g9 2 _ 0 (by omega) (by omega), g9 2 _ 1 (by omega) (by omega)]; exact v5'.2.2.1 r hr
      · rw [g9 5 0 a (by omega) (by omega)]; exact v5'.2.2.2.1 a ha
      · rw [g9 5 0 a (by omega) (by omega), g9 5 0 b (by omega) (by omega)]; exact v5'.2.2.2.2 a b ha hb0
    have all : ∀ t i k, ¬ (t = 1 ∨ t = 2 ∨ t = 3 ∨ t = 9 ∨ t = 12 ∨ (t = 0 ∧ (k = 9 ∨ k = 10))) → M9 t i k = M t i k := fun t i k q => by rw [g9 t i k (by omega) (by omega), f5 t i k (by omega), g4 t i k (by omega) (by omega)]; exact f1 t i k (by omega)
    obtain ⟨r1, r2, r3, r4, r5, r6, r7⟩ := hR
    refine hQ M9 ⟨?_, fun u hu => ?_, fun j hj => ?_, ⟨?_, fun j hj => ?_⟩, ⟨?_, fun i j hi hj => ?_⟩, ⟨?_, ?_⟩, fun j hj => ?_⟩ (fun t i k q => all t i k (by omega))
    · rw [npz_txt, txt_0]; exact v9
    · refine ⟨fun a ha => ?_, fun a b ha hb0 => ?_⟩
      · rw [all 5 u a (by omega)]; exact (r2 u hu).1 a ha
      · rw [all 5 u a (by omega), all 5 u b (by omega)]; exact (r2 u hu).2 a b ha hb0
    · rw [txt_3 (by omega) (by omega)]
      refine ⟨?_, fun q => absurd q (by decide)⟩
      rcases (show j = 0 ∨ j = 1 by omega) with h | h <;> subst h
      · rw [e9, pt_ne (by omega), e8]; exact pt_eq _ _ _ _ _
      · rw [e9]; exact pt_eq _ _ _ _ _
    · rw [txt_3 (by omega) (by omega), g9 9 _ _ (by omega) (by omega), f5 9 _ _ (by omega), e4, pt_ne (by omega), e3, pt_eq]
    · rw [txt_3 (by omega) (by omega)] at hj; omega
    · rw [txt_3 (by omega) (by omega), e9, pt_ne (by omega), e8, pt_ne (by omega), e7, pt_eq]
    · rw [txt_3 (by omega) (by omega)] at hi; omega
    · rw [txt_3 (by omega) (by omega), g9 0 _ _ (by omega) (by omega), f5 0 _ _ (by omega), x10]
    · rw [txt_t, all 0 _ _ (by omega)]; exact r6.2
    · rw [txt_o (by omega) (by omega), txt_o (by omega) (by omega), all 6 _ _ (by omega), all 6 _ _ (by omega)]
      exact ⟨(r7 j hj).1, (r7 j hj).2.1, fun a ha => by rw [txt_o (by omega) (by omega), all 7 _ _ (by omega)]; exact (r7 j hj).2.2 a ha⟩
  · rw [if_pos (show (prZ Z).1.1 ≠ 0 from e0)] at hQ
    dsimp only at hQ
    have x3 : M3 9 0 7 = (prZ Z).1.1 := by rw [e3, pt_ne (by omega)]; exact x7
    rw [x3] at e4
    have x10 : M4 0 0 10 = (prZ Z).1.1 := by rw [e4, pt_eq]
    have x84 : M4 9 0 8 = ((prZ Z).1.2 : Nat) := by rw [e4, pt_ne (by omega), e3, pt_ne (by omega)]; exact x8
    rw [x10, x84]
    refine ⟨fun z => absurd z e0, fun _ => ?_⟩
    have all : ∀ t i k, ¬ ((t = 1 ∧ 8 ≤ i ∧ i < 16) ∨ (t = 2 ∧ 4 ≤ i ∧ i < 8) ∨ (t = 3 ∧ i = 1) ∨ t = 9 ∨ (t = 0 ∧ k = 10)) → M4 t i k = M t i k := fun t i k q => by rw [e4, pt_ne (by omega), e3, pt_ne (by omega)]; exact f1 t i k (by omega)
    have en : npz (flt Z (prZ Z).1.1) = npz Z := npz_c (flt_o (by omega))
    obtain ⟨r1, r2, r3, r4, r5, r6, r7⟩ := hR
    have vv : ∀ {u : Nat} {X : Nat → Int}, u ≠ 1 → PB X (npz Z) → VC M u X (npz Z) → VC M4 u X (npz Z) := by
      intro u X hu hBX v
      have h8 := ngd_le hBX
      have h4 := hBX.2.1
      have eo : ∀ r, on M4 u r = on M u r := fun r => by unfold on; rw [all 5 u r (by omega)]
      refine ⟨by rw [all 3 _ _ (by omega), all 3 _ _ (by omega), all 3 _ _ (by omega), all 3 _ _ (by omega), all 3 _ _ (by omega)]; exact v.1, fun g hg => ?_, fun r hr => ?_, fun a ha => ?_, fun a b ha hb0 => ?_⟩
      · rw [all 1 _ 0 (by omega), all 1 _ 1 (by omega), all 1 _ 2 (by omega), all 1 _ 3 (by omega), all 1 _ 4 (by omega), all 1 _ 5 (by omega)]; exact v.2.1 g hg
      · have ho := on_in v.2.2.2 (p := r) (by omega)
        rw [eo, all 2 _ 0 (by omega), all 2 _ 1 (by omega)]; exact v.2.2.1 r hr
      · rw [all 5 u a (by omega)]; exact v.2.2.2.1 a ha
      · rw [all 5 u a (by omega), all 5 u b (by omega)]; exact v.2.2.2.2 a b ha hb0
    refine hQ M4 ⟨?_, fun u hu => ?_, fun j hj => ?_, ⟨?_, fun j hj => ?_⟩, ⟨?_, fun i j hi hj => ?_⟩, ⟨?_, ?_⟩, fun j hj => ?_⟩ (fun t i k q => all t i k (by omega))
    · rw [en, flt_r (by omega)]; exact vv (by omega) hZ.1 r1
    · refine ⟨fun a ha => ?_, fun a b ha hb0 => ?_⟩
      · rw [all 5 u a (by omega)]; exact (r2 u hu).1 a ha
      · rw [all 5 u a (by omega), all 5 u b (by omega)]; exact (r2 u hu).2 a b ha hb0
    · rw [en, flt_o (by omega), flt_r (by omega), all 12 _ _ (by omega)]
      exact ⟨(r3 j hj).1, fun q => vv (by omega) ((hZ.2.2.2.2.1 j hj).2 q) ((r3 j hj).2 q)⟩
    · rw [flt_1, e4, pt_ne (by omega), e3, pt_eq]
    · rw [flt_1] at hj; omega
    · rw [flt_o (by omega), all 0 _ _ (by omega)]; exact r5.1
    · rw [flt_o (by omega)] at hi
      rw [flt_o (by omega), all 8 _ _ (by omega)]; exact r5.2 i j hi hj
    · rw [flt_3]; exact x10
    · rw [flt_o (by omega), all 0 _ _ (by omega)]; exact r6.2
    · rw [flt_r (a := 5) (by omega), flt_r (a := 6) (by omega), flt_r (a := 7) (by omega), all 6 _ _ (by omega), all 6 _ _ (by omega)]
      exact ⟨(r7 j hj).1, (r7 j hj).2.1, fun a ha => by rw [all 7 _ _ (by omega)]; exact (r7 j hj).2.2 a ha⟩
end

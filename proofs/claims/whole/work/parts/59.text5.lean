/-! the text, of the reference -/
section
variable {E : EE} {Q : Int → JM → Prop} {M : JM} {Z : ZZ} {T : Nat → Int} {n : Nat}
theorem M_text (hZ : ZB Z) (hR : RepR Z M) (hQ : ∀ M' : JM, RepR (sp_text Z).2 M' → keepC M M' → Q (sp_text Z).1 M') : JC E mm_M_text [vR 20 0] M Q := by
  have hl := hZ.2.2.1
  obtain ⟨N, hN⟩ : ∃ N : Nat, Z 3 1 = N := ⟨(Z 3 1).toNat, by omega⟩
  have hNn : (Z 3 1).toNat = N := by omega
  unfold sp_text prZ at hQ
  rw [hNn] at hQ
  -- what comes of it
  have fin : ∀ (L : Nat) (M' : JM), rg M M' → ((prs0 (Z 4) N).1.1 ≠ 0 → M' 20 0 8 = (prs0 (Z 4) N).1.1 ∧ M' 20 0 9 = (prs0 (Z 4) N).1.2) → 0 ≤ (prs0 (Z 4) N).1.1 → ((prs0 (Z 4) N).1.1 = 0 → M' 20 0 8 = 0 ∧ RP M' (prs0 (Z 4) N).2.2.1 (prs0 (Z 4) N).2.2.2 ∧ (prs0 (Z 4) N).2.1 = L) → JG E mm_M_text Q 71 [(0, vR 20 0), (1, vI (L : Int))] [] M' := by
    intro L M' f hb1 hpos hg
    refine vc_M_text_71 _ _ (fun M1 e1 M2 e2 => ?_)
    have x1 : M1 20 0 8 = M' 20 0 8 := by rw [e1, pt_ne (by omega)]
    rw [x1] at e2
    have x28 : M2 20 0 8 = M' 20 0 8 := by rw [e2, pt_ne (by omega), x1]
    have x29 : M2 20 0 9 = M' 20 0 9 := by rw [e2, pt_ne (by omega), e1, pt_ne (by omega)]
    rw [x28, x29]
    have h2 : ∀ t i k, ¬ (t = 20 ∧ (k = 6 ∨ k = 7)) → M2 t i k = M' t i k := fun t i k q => by rw [e2, pt_ne (by omega), e1, pt_ne (by omega)]
    have g2 : ∀ t i k, ¬ (t = 22 ∨ (t = 20 ∧ (k = 3 ∨ k = 4 ∨ k = 6 ∨ k = 7 ∨ (8 ≤ k ∧ k ≤ 13)))) → M2 t i k = M t i k := fun t i k q => by rw [h2 t i k (by omega)]; exact f t i k (by omega)
    obtain ⟨r1, r3, r4, r5, r6, r7, r8, r9⟩ := hR
    by_cases y : (prs0 (Z 4) N).1.1 ≠ 0
    · obtain ⟨b8, b9⟩ := hb1 y
      rw [if_pos y] at hQ
      dsimp only at hQ
      rw [b8, b9]
      refine ⟨fun z => by omega, fun _ => ?_⟩
      have en : npz (flt Z (prs0 (Z 4) N).1.1) = npz Z := npz_c (flt_o (by omega))
      refine hQ M2 ⟨⟨fun k hk => ?_, ?_⟩, fun j hj => ?_, ⟨?_, fun j hj => ?_⟩, ⟨?_, fun i j hi hj => ?_⟩, ⟨?_, ?_⟩, fun j hj => ?_, fun j hj => ?_, fun j hj => ?_⟩ (fun t i k q => g2 t i k (by omega))
      · rw [flt_r (by omega), g2 21 _ _ (by omega)]; exact r1.1 k hk
      · rw [en, g2 20 _ _ (by omega)]; exact r1.2
      · rw [en, flt_o (by omega), flt_r (by omega), g2 30 _ _ (by omega)]
        exact ⟨(r3 j hj).1, fun q => ⟨fun k hk => by rw [g2 21 _ _ (by omega)]; exact ((r3 j hj).2 q).1 k hk, by rw [g2 20 _ _ (by omega)]; exact ((r3 j hj).2 q).2⟩⟩
      · rw [flt_1, e2, pt_ne (by omega), e1, pt_eq]
      · rw [flt_1] at hj; omega
      · rw [flt_o (by omega), g2 20 _ _ (by omega)]; exact r5.1
      · rw [flt_o (by omega)] at hi
        rw [flt_o (by omega), g2 28 _ _ (by omega)]; exact r5.2 i j hi hj
      · rw [flt_3, e2, pt_eq, b8]
      · rw [flt_o (by omega), g2 20 _ _ (by omega)]; exact r6.2
      · rw [flt_r (a := 5) (by omega), flt_r (a := 6) (by omega), flt_r (a := 7) (by omega), g2 31 _ _ (by omega), g2 32 _ _ (by omega)]
        exact ⟨(r7 j hj).1, (r7 j hj).2.1, fun a ha => by rw [g2 33 _ _ (by omega)]; exact (r7 j hj).2.2 a ha⟩
      · rw [g2 24 _ _ (by omega)]; exact r8 j hj
      · rw [g2 25 _ _ (by omega)]; exact r9 j hj
    · obtain ⟨b8, br, bL⟩ := hg (by omega)
      rw [if_neg y] at hQ
      dsimp only at hQ
      rw [b8]
      refine ⟨fun _ => ?_, fun z => by omega⟩
      have rp2 : RP M2 (prs0 (Z 4) N).2.2.1 (prs0 (Z 4) N).2.2.2 := ⟨fun k hk => by rw [h2 22 _ _ (by omega)]; exact br.1 k hk, by rw [h2 20 _ _ (by omega)]; exact br.2⟩
      refine up_ind (P := fun i => ∀ M5 : JM, (∀ k, k < i → M5 21 0 k = (prs0 (Z 4) N).2.2.1 k) → (∀ t a k, ¬ (t = 21 ∧ a = 0 ∧ k < 44) → M5 t a k = M2 t a k) → JG E mm_M_text Q 101 [(0, vR 20 0), (1, vI (L : Int)), (2, vI (i : Int))] [] M5) 44 ?_ ?_ M2 (fun k hk => by omega) (fun _ _ _ _ => rfl)
      · intro M5 w5 f5
        refine vc_M_text_101 _ _ _ ⟨fun _ M6 e6 M7 e7 M8 e8 M9 e9 => ?_, fun z => by omega⟩
        rw [f5 20 0 3 (by omega), rp2.2] at e6
        have h9 : ∀ t a k, ¬ (t = 30 ∨ (t = 20 ∧ (k = 1 ∨ k = 22))) → M9 t a k = M5 t a k := fun t a k q => by rw [e9, pt_ne (by omega), e8, pt_ne (by omega), e7, pt_ne (by omega), e6, pt_ne (by omega)]
        have g9 : ∀ t a k, ¬ (t = 21 ∧ a = 0 ∧ k < 44) → ¬ (t = 30 ∨ (t = 20 ∧ (k = 1 ∨ k = 22))) → ¬ (t = 22 ∨ (t = 20 ∧ (k = 3 ∨ k = 4 ∨ k = 6 ∨ k = 7 ∨ (8 ≤ k ∧ k ≤ 13)))) → M9 t a k = M t a k := fun t a k q q2 q3 => by rw [h9 t a k q2, f5 t a k q]; exact g2 t a k q3
        rw [← bL]
        refine hQ M9 ⟨⟨fun k hk => ?_, ?_⟩, fun j hj => ?_, ⟨?_, fun j hj => ?_⟩, ⟨?_, fun i j hi hj => ?_⟩, ⟨?_, ?_⟩, fun j hj => ?_, fun j hj => ?_, fun j hj => ?_⟩ (fun t a k q => g9 t a k (by omega) (by omega) (by omega))
        · rw [txt_0, Nat.zero_add, h9 21 0 k (by omega)]; exact w5 k hk
        · rw [npz_txt, e9, pt_ne (by omega), e8, pt_ne (by omega), e7, pt_ne (by omega), e6, pt_eq]
        · rw [txt_3 (by omega) (by omega)]
          refine ⟨?_, fun q => absurd q (by decide)⟩
          rcases (show j = 0 ∨ j = 1 by omega) with h | h <;> subst h
          · rw [e9, pt_ne (by omega), e8, pt_eq]
          · rw [e9, pt_eq]
        · rw [txt_3 (by omega) (by omega), h9 20 _ _ (by omega), f5 20 _ _ (by omega), e2, pt_ne (by omega), e1, pt_eq]
        · rw [txt_3 (by omega) (by omega)] at hj; omega
        · rw [txt_3 (by omega) (by omega), e9, pt_ne (by omega), e8, pt_ne (by omega), e7, pt_eq]
        · rw [txt_3 (by omega) (by omega)] at hi; omega
        · rw [txt_3 (by omega) (by omega), h9 20 _ _ (by omega), f5 20 _ _ (by omega), e2, pt_eq, b8]
        · rw [txt_t, g9 20 _ _ (by omega) (by omega) (by omega)]; exact r6.2
        · rw [txt_o (by omega) (by omega), txt_o (by omega) (by omega), g9 31 _ _ (by omega) (by omega) (by omega), g9 32 _ _ (by omega) (by omega) (by omega)]
          exact ⟨(r7 j hj).1, (r7 j hj).2.1, fun a ha => by rw [txt_o (by omega) (by omega), g9 33 _ _ (by omega) (by omega) (by omega)]; exact (r7 j hj).2.2 a ha⟩
        · rw [g9 24 _ _ (by omega) (by omega) (by omega)]; exact r8 j hj
        · rw [g9 25 _ _ (by omega) (by omega) (by omega)]; exact r9 j hj
      · intro i hi ih M5 w5 f5
        refine vc_M_text_101 _ _ _ ⟨fun z => by omega, fun _ => ⟨by omega, by omega, fun M6 e6 a ea => ?_⟩⟩
        rw [Int.toNat_natCast, f5 22 0 i (by omega), rp2.1 i hi] at e6
        rw [ea, w32_s (by omega)]
        refine ih M6 (fun k hk => ?_) (fun t a k q => by rw [e6, pt_ne (by omega)]; exact f5 t a k q)
        by_cases q : k = i
        · rw [q, e6, pt_eq]
        · rw [e6, pt_ne (by omega)]; exact w5 k (by omega)
  -- line by line
  have loop : ∀ (fu : Nat) (X : Nat → Int) (np : Nat) (h5 h6 : Int) (p L : Nat) (M' : JM), N - tS (Z 4) N p < fu → L ≤ tS (Z 4) N p → CT (Z 4) N M' p → PB X np → zr X → RP M' X np → TD M' h5 h6 → rg M M' → prs0 (Z 4) N = prs (Z 4) N fu X np h5 h6 (tE (Z 4) N p) (tS (Z 4) N p) (tK (Z 4) N p) L → JG E mm_M_text Q 47 [(0, vR 20 0), (1, vI (L : Int))] [] M' := by
    intro fu
    induction fu with
    | zero => intro X np h5 h6 p L M' hfu; omega
    | succ fu ih =>
      intro X np h5 h6 p L M' hfu hL hC hB hz hP hD f e
      have cb := CT_b hC
      refine vc_M_text_47 _ _ ?_
      rw [hC.2.2.2.1]
      by_cases y4 : tK (Z 4) N p = 4
      · rw [if_pos y4]
        rw [prs, if_pos y4] at e
        refine ⟨fun _ => fin L M' f (fun _ => ?_) ?_ (fun q => ?_), fun z => absurd z (by decide)⟩
        · rw [e]; exact ⟨by rw [hC.2.2.2.1, if_pos y4], hC.2.2.2.2.1 y4⟩
        · rw [e]; show (0 : Int) ≤ 1; decide
        · rw [e] at q; exact absurd q (by show ¬ (1 : Int) = 0; decide)
      · rw [if_neg y4, hC.2.2.2.2.2.1 y4]
        refine ⟨fun z => absurd rfl z, fun _ => ⟨fun y0 => ?_, fun y0 => ?_⟩⟩
        · rw [prs, if_neg y4, if_pos y0] at e
          refine fin L M' f (fun q => ?_) ?_ (fun _ => ?_)
          · rw [e] at q; exact absurd rfl q
          · rw [e]; exact Int.le_refl _
          · rw [e]; exact ⟨by rw [hC.2.2.2.1, if_neg y4], hP, rfl⟩
        · rw [prs_s y4 y0] at e
          have sn := tK_0 y0
          refine M_readLine hC y4 hB hz hP hD (fun z M2 c2 r2 d2 f2 a ea => ?_) (fun z M2 a8 a9 f2 a ea => ?_)
          · rw [if_neg (fun q => q z)] at e
            obtain ⟨r0, l0⟩ := lnB_r z
            have le := lnF_e (i := tE (Z 4) N p) (by omega) l0
            have wk1 := wdK_c (Z 4) (tE (Z 4) N p) (tS (Z 4) N p) (tK (Z 4) N p)
            have w7 := rf_w r0
            have c2b := CT_b c2
            have h8g := ngd_le hB
            have hng := ngd_int hB
            have h4g := hB.2.1
            have full : ¬ ((wdK (Z 4) (tE (Z 4) N p) (tS (Z 4) N p) (tK (Z 4) N p) ≤ 3 ∧ X 32 = 8) ∨ (wdK (Z 4) (tE (Z 4) N p) (tS (Z 4) N p) (tK (Z 4) N p) = 4 ∧ np = 4)) := by
              intro q
              unfold rfF at r0
              rw [if_neg w7, if_pos q] at r0
              split at r0 <;> omega
            rw [ea, w32_s (by omega)]
            exact ih _ _ _ _ _ (L + 1) M2 (by omega) (by omega) c2 (lnX_PB (by omega) hB r0 l0) (lnX_zr hB hz (fun q => by omega) (fun q => by omega)) r2 d2 (rg_tr f f2) e
          · rw [if_pos z] at e
            have pos : 0 ≤ (lnB (Z 4) N (tE (Z 4) N p) (tS (Z 4) N p) (tK (Z 4) N p) X np h5 h6).1 := by
              unfold lnB
              split
              · exact rfF_c.1
              · show 0 ≤ (lnF _ _ _ _).1
                unfold lnF
                split
                · split
                  · exact nmF_c.1
                  · split
                    · exact nmF_c.1
                    · exact sgF_c.1
                · split
                  · exact nmF_c.1
                  · exact sgF_c.1
            rw [ea, w32_s (by omega)]
            refine vc_M_text_47 _ _ ⟨fun _ => fin (L + 1) M2 (rg_tr f f2) (fun _ => ?_) ?_ (fun q => ?_), fun q => absurd (a8.symm.trans q) z⟩
            · rw [e]; exact ⟨a8, a9⟩
            · rw [e]; exact pos
            · rw [e] at q; exact absurd q z
  refine vc_M_text _ (fun M1 e1 M2 e2 M3 e3 M4 e4 => ?_)
  have h4 : ∀ t i k, ¬ (t = 20 ∧ (k = 3 ∨ k = 4 ∨ k = 8 ∨ k = 10)) → M4 t i k = M t i k := fun t i k q => by rw [e4, pt_ne (by omega), e3, pt_ne (by omega), e2, pt_ne (by omega), e1, pt_ne (by omega)]
  refine up_ind (P := fun i => ∀ M5 : JM, (∀ k, k < i → M5 22 0 k = 0) → (∀ t a k, ¬ (t = 22) → M5 t a k = M4 t a k) → JG E mm_M_text Q 24 [(0, vR 20 0), (1, vI 0), (2, vI (i : Int))] [] M5) 44 ?_ ?_ M4 (fun k hk => by omega) (fun _ _ _ _ => rfl)
  · intro M5 w5 f5
    have t5 : tpR (Z 4) N M5 := by
      obtain ⟨r1, r3, r4, r5, r6, r7, r8, r9⟩ := hR
      refine ⟨⟨?_, fun j hj => ?_⟩, by omega, fun j hj => (hZ.2.2.2.2.2.2.2 j (by omega)).1, fun j hj => ?_, fun j hj => ?_⟩
      · rw [f5 20 _ _ (by omega), h4 20 _ _ (by omega), ← hN]; exact r4.1
      · rw [f5 23 _ _ (by omega), h4 23 _ _ (by omega)]; exact r4.2 j (by omega)
      · rw [f5 24 _ _ (by omega), h4 24 _ _ (by omega)]; exact r8 j hj
      · rw [f5 25 _ _ (by omega), h4 25 _ _ (by omega)]; exact r9 j hj
    refine vc_M_text_24 _ _ _ ⟨fun _ => M_step (i := 0) t5 ?_ ?_ (by omega) (fun M6 c6 f6 => ?_), fun z => by omega⟩
    · rw [f5 20 _ _ (by omega), e4, pt_ne (by omega), e3, pt_ne (by omega), e2, pt_ne (by omega), e1, pt_eq]
    · rw [f5 20 _ _ (by omega), e4, pt_ne (by omega), e3, pt_ne (by omega), e2, pt_eq]; rfl
    · have td5 : M5 20 0 4 = 0 := by rw [f5 20 _ _ (by omega), e4, pt_eq]
      have td : TD M6 0 0 := by
        unfold TD
        rw [f6 20 0 4 (by omega), td5]
        exact ⟨by omega, ⟨fun q => absurd q (hb_0 (k := 5) (by omega)), fun q => absurd rfl q⟩, ⟨fun q => absurd q (hb_0 (k := 6) (by omega)), fun q => absurd rfl q⟩⟩
      have rp : RP M6 X00 0 := RP_rf f6 ⟨fun k hk => w5 k hk, by rw [f5 20 _ _ (by omega), e4, pt_ne (by omega), e3, pt_eq]; rfl⟩
      have cb := CT_b c6
      exact loop 200 X00 0 0 0 0 0 M6 (by omega) (by omega) c6 X00_PB (fun _ _ => rfl) rp td (fun t i k q => by rw [f6 t i k (by omega), f5 t i k (by omega)]; exact h4 t i k (by omega)) rfl
  · intro i hi ih M5 w5 f5
    refine vc_M_text_24 _ _ _ ⟨fun z => by omega, fun _ => ⟨by omega, fun M6 e6 a ea => ?_⟩⟩
    rw [Int.toNat_natCast] at e6
    rw [ea, w32_s (by omega)]
    refine ih M6 (fun k hk => ?_) (fun t a k q => by rw [e6, pt_ne (by omega)]; exact f5 t a k q)
    by_cases q : k = i
    · rw [q, e6, pt_eq]
    · rw [e6, pt_ne (by omega)]; exact w5 k (by omega)
end

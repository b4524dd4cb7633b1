/-! a line, and the text, of the reference -/
def TD (M : JM) (h5 h6 : Int) : Prop := (0 ≤ M 20 0 4 ∧ M 20 0 4 < 128) ∧ (hb (M 20 0 4) 5 ↔ h5 ≠ 0) ∧ (hb (M 20 0 4) 6 ↔ h6 ≠ 0)
section
variable {E : EE} {Q : Int → JM → Prop} {M : JM} {Z : ZZ} {T : Nat → Int} {n : Nat}
theorem TD_or {M' : JM} {h5 h6 : Int} {w : Nat} (hw : w ≤ 6) (h : TD M h5 h6) (e : M' 20 0 4 = or32 (M 20 0 4) (shl32 1 (w : Int))) : TD M' (lnH 5 w h5) (lnH 6 w h6) := by
  obtain ⟨a, b, c⟩ := h
  have sm1 := or_small (x := M 20 0 4) (g := w) (n := 7) a.1 (by omega) (by omega) (by omega)
  have o5 := hb_or (x := M 20 0 4) (g := w) (k := 5) a.1 (by omega) (by omega) (by omega)
  have o6 := hb_or (x := M 20 0 4) (g := w) (k := 6) a.1 (by omega) (by omega) (by omega)
  unfold TD lnH
  rw [e]
  refine ⟨⟨sm1.1, by have := sm1.2; omega⟩, ?_, ?_⟩
  · refine Iff.trans o5 ?_
    by_cases y : w = 5
    · rw [if_pos (by omega)]
      exact ⟨fun _ => by decide, fun _ => Or.inr y.symm⟩
    · rw [if_neg (by omega)]
      exact ⟨fun q => q.elim (fun z => b.mp z) (fun z => absurd z.symm y), fun q => Or.inl (b.mpr q)⟩
  · refine Iff.trans o6 ?_
    by_cases y : w = 6
    · rw [if_pos (by omega)]
      exact ⟨fun _ => by decide, fun _ => Or.inr y.symm⟩
    · rw [if_neg (by omega)]
      exact ⟨fun q => q.elim (fun z => c.mp z) (fun z => absurd z.symm y), fun q => Or.inl (c.mpr q)⟩
theorem M_readLine {p np : Nat} {X : Nat → Int} {h5 h6 : Int} (hC : CT T n M p) (h4 : tK T n p ≠ 4) (hB : PB X np) (hz : zr X) (hR : RP M X np) (hD : TD M h5 h6)
    (hok : (lnB T n (tE T n p) (tS T n p) (tK T n p) X np h5 h6).1 = 0 → ∀ M' : JM, CT T n M' (lnF T n (wdK T (tE T n p) (tS T n p) (tK T n p)) (tE T n p)).2.2 → RP M' (lnX T n (wdK T (tE T n p) (tS T n p) (tK T n p)) (tE T n p) X np) (lnN (wdK T (tE T n p) (tS T n p) (tK T n p)) np) → TD M' (lnH 5 (wdK T (tE T n p) (tS T n p) (tK T n p)) h5) (lnH 6 (wdK T (tE T n p) (tS T n p) (tK T n p)) h6) → rg M M' → Q 0 M')
    (hbad : (lnB T n (tE T n p) (tS T n p) (tK T n p) X np h5 h6).1 ≠ 0 → ∀ M' : JM, M' 20 0 8 = (lnB T n (tE T n p) (tS T n p) (tK T n p) X np h5 h6).1 → M' 20 0 9 = (lnB T n (tE T n p) (tS T n p) (tK T n p) X np h5 h6).2 → rg M M' → Q 0 M') : JC E mm_M_readLine [vR 20 0] M Q := by
  obtain ⟨cT, c10, c11, c8, c9, c12, c13, cp⟩ := id hC
  have cb := CT_b hC
  rw [if_neg h4] at c8
  have hw := wdK_c T (tE T n p) (tS T n p) (tK T n p)
  have h8g := ngd_le hB
  have hng := ngd_int hB
  have hnp4 := hB.2.1
  have e32 : M 22 0 32 = X 32 := hR.1 32 (by omega)
  -- the name
  have eN : (if tK T n p = 1 then wdR T (tS T n p) (tE T n p) else -4) = (if wdK T (tE T n p) (tS T n p) (tK T n p) = 7 then -4 else wdK T (tE T n p) (tS T n p) (tK T n p)) := by
    unfold wdK
    by_cases y : tK T n p = 1
    · rw [if_pos y, if_pos y]
      unfold wd
      rcases wdR_c T (tS T n p) (tE T n p) with q | q
      · rw [if_pos q, if_pos rfl, q]
      · rw [if_neg (c := wdR T (tS T n p) (tE T n p) = -4) (by omega), if_neg (by omega)]
    · rw [if_neg y, if_neg y, if_pos rfl]
  unfold lnB at hok hbad
  generalize wdK T (tE T n p) (tS T n p) (tK T n p) = w at hok hbad hw eN
  refine vc_M_readLine _ (M_nameHere cT c10 c11 (c12 h4) cb.2.1 cb.2.2.1 ?_)
  rw [eN]
  by_cases y7 : w = 7
  · rw [if_pos y7]
    have e2 : rfF w X np h5 h6 = 2 := by unfold rfF; rw [if_pos y7]
    rw [e2, if_pos (by decide)] at hbad
    exact M_in (fun q => by omega) (fun q => d00 (M_fails c8 c11 (fun M1 a8 a9 a0 => hbad (show (2 : Int) ≠ 0 by decide) M1 a8 a9 (fun t i k z => a0 t i k (by omega)))))
  · rw [if_neg y7]
    obtain ⟨wn, hwn⟩ : ∃ wn : Nat, w = wn := ⟨w.toNat, by omega⟩
    -- refused
    have g80F : ∀ (M1 : JM) (c : Int), 0 < c → rfF w X np h5 h6 = c → M1 20 0 8 = c → M1 20 0 9 = tS T n p → rg M M1 → JG E mm_M_readLine Q 80 [(0, vR 20 0), (1, vI w)] [] M1 := by
      intro M1 c hc e a8 a9 f1
      rw [e, if_pos (by omega)] at hbad
      refine vc_M_readLine_80 _ _ (fun M2 e2 => M_stepF (by rw [e2, pt_ne (by omega)]; omega) ⟨fun z => ?_, fun _ => ?_⟩)
      · rw [e2, pt_ne (by omega), a8] at z; omega
      · exact hbad (by omega) M2 (by rw [e2, pt_ne (by omega)]; exact a8) (by rw [e2, pt_ne (by omega)]; exact a9) (rg_tr f1 (fun t i k q => by rw [e2, pt_ne (by omega)]))
    have g53 : rfF w X np h5 h6 = 5 → JG E mm_M_readLine Q 53 [(0, vR 20 0), (1, vI w)] [] M := by
      intro e
      have ne5 : w < 5 := by
        by_cases q : w < 5
        · exact q
        · unfold rfF at e
          rw [if_neg y7] at e
          by_cases q2 : (w = 5 ∧ h5 ≠ 0) ∨ (w = 6 ∧ h6 ≠ 0)
          · rw [if_pos q2] at e; omega
          · rw [if_neg q2, if_neg (by omega)] at e; omega
      exact vc_M_readLine_53 _ _ (M_fails c8 c11 (fun M1 a8 a9 a0 => vc_M_readLine_58 _ _ ⟨fun _ => g80F M1 5 (by decide) e a8 a9 (fun t i k q => a0 t i k (by omega)), fun z => by omega⟩))
    have g80 : rfF w X np h5 h6 = 0 → JG E mm_M_readLine Q 80 [(0, vR 20 0), (1, vI w)] [] M := by
      intro e
      rw [e, if_neg (fun q => q rfl)] at hok hbad
      have full : ¬ ((w ≤ 3 ∧ X 32 = 8) ∨ (w = 4 ∧ np = 4)) := by
        intro q
        unfold rfF at e
        rw [if_neg y7] at e
        by_cases q2 : (w = 5 ∧ h5 ≠ 0) ∨ (w = 6 ∧ h6 ≠ 0)
        · rw [if_pos q2] at e; omega
        · rw [if_neg q2, if_pos q] at e; omega
      refine vc_M_readLine_80 _ _ (fun M1 e1 => ?_)
      have f1 : rg M M1 := fun t i k q => by rw [e1, pt_ne (by omega)]
      have d1 : TD M1 (lnH 5 w h5) (lnH 6 w h6) := by rw [hwn]; exact TD_or (by omega) hD (by rw [e1, pt_eq, hwn])
      have x8 : M1 20 0 8 = 0 := by rw [e1, pt_ne (by omega)]; exact c8
      have x10 : M1 20 0 10 = tE T n p := by rw [e1, pt_ne (by omega)]; exact c10
      have t1 : tpR T n M1 := (CT_o (fun t i k q => by rw [e1, pt_ne (by omega)]) hC).1
      refine M_step t1 x8 x10 cb.2.2.1 (fun M2 k2 f2 => ?_)
      have r2 : RP M2 X np := RP_rf f2 ⟨fun k hk => by rw [e1, pt_ne (by omega)]; exact hR.1 k hk, by rw [e1, pt_ne (by omega)]; exact hR.2⟩
      have d2 : TD M2 (lnH 5 w h5) (lnH 6 w h6) := by unfold TD; rw [f2 20 0 4 (by omega)]; exact d1
      have g2 : rg M M2 := rg_tr f1 (rf_rg f2)
      rw [k2.2.2.2.1]
      by_cases y4 : tK T n (tE T n p) = 4
      · rw [if_pos y4]
        refine ⟨fun z => by omega, fun _ => ?_⟩
        have n1 : ∀ lo hi, nmF T n (tE T n p) lo hi = 1 := fun lo hi => by unfold nmF; rw [if_pos y4]
        have eM : lnM T n w (tE T n p) = (1, tS T n (tE T n p)) := by
          unfold lnM
          rw [n1, n1]
          split
          · rw [if_pos (by decide)]
          · rfl
        have eF := lnF_M (T := T) (n := n) (w := w) (i := tE T n p) (by rw [eM]; show (1 : Int) ≠ 0; decide)
        rw [eF.1, eF.2, eM] at hbad
        exact hbad (show (1 : Int) ≠ 0 by decide) M2 (by rw [k2.2.2.2.1, if_pos y4]) (k2.2.2.2.2.1 y4) g2
      · rw [if_neg y4]
        refine ⟨fun _ => ?_, fun z => by omega⟩
        refine M_readMore (by omega) k2 hB hz r2 full (fun z M4 k4 r4 f4 => ?_) (fun z M4 a8 a9 f4 => ?_)
        · have eF := lnF_S (T := T) (n := n) z
          rw [eF] at hok hbad
          dsimp only at hok hbad
          have g4 : rg M M4 := rg_tr g2 (fun t i k q => f4 t i k (by omega))
          have d4 : TD M4 (lnH 5 w h5) (lnH 6 w h6) := by unfold TD; rw [f4 20 0 4 (by omega)]; exact d2
          have b4 := CT_b k4
          rw [k4.2.2.2.1]
          by_cases s4 : tK T n (lnS T n w (tE T n p)) = 4
          · rw [if_pos s4]
            have eS : sgF T n (lnS T n w (tE T n p)) = 1 := by unfold sgF; rw [if_pos s4]
            rw [eS] at hbad
            refine ⟨fun _ => vc_M_readLine_129 _ (M_stepF (by rw [k4.2.2.2.1, if_pos s4]; decide) (hbad (by decide) M4 (by rw [k4.2.2.2.1, if_pos s4]) (k4.2.2.2.2.1 s4) g4)), fun q => absurd q (by decide)⟩
          · rw [if_neg s4]
            have z8 : M4 20 0 8 = 0 := by rw [k4.2.2.2.1, if_neg s4]
            refine ⟨fun q => absurd rfl q, fun _ => ?_⟩
            rw [k4.2.2.2.2.2.1 s4]
            refine ⟨fun s3 => vc_M_readLine_129 _ (M_step k4.1 z8 k4.2.1 b4.2.2.1 (fun M5 k5 f5 => ?_)), fun s3 => M_fails z8 k4.2.2.1 (fun M5 a8 a9 a0 => vc_M_readLine_129 _ (M_stepF (by rw [a8]; decide) ?_))⟩
            · have eS : sgF T n (lnS T n w (tE T n p)) = 0 := by unfold sgF; rw [if_neg s4, if_pos s3]
              exact hok eS M5 k5 (RP_rf f5 r4) (by unfold TD; rw [f5 20 0 4 (by omega)]; exact d4) (rg_tr g4 (rf_rg f5))
            · have eS : sgF T n (lnS T n w (tE T n p)) = 2 := by unfold sgF; rw [if_neg s4, if_neg s3]
              rw [eS] at hbad
              exact hbad (by decide) M5 a8 a9 (rg_tr g4 (fun t i k q => a0 t i k (by omega)))
        · have eF := lnF_M (T := T) (n := n) z
          rw [eF.1, eF.2] at hbad
          have pos : 0 < M4 20 0 8 := by
            rw [a8]
            have : 0 ≤ (lnM T n w (tE T n p)).1 := by
              unfold lnM
              split
              · split
                · exact nmF_c.1
                · exact nmF_c.1
              · exact nmF_c.1
            omega
          have q := hbad z M4 a8 a9 (rg_tr g2 f4)
          exact ⟨fun _ => vc_M_readLine_129 _ (M_stepF pos q), fun y => by omega⟩
    have g58 : rfF w X np h5 h6 ≠ 5 → JG E mm_M_readLine Q 58 [(0, vR 20 0), (1, vI w)] [] M := by
      intro ne
      by_cases q2 : (w = 5 ∧ h5 ≠ 0) ∨ (w = 6 ∧ h6 ≠ 0)
      · have e4 : rfF w X np h5 h6 = 4 := by unfold rfF; rw [if_neg y7, if_pos q2]
        have bit : and32 (shr32 (M 20 0 4) w) 1 = 1 := by
          rcases q2 with ⟨q3, q4⟩ | ⟨q3, q4⟩
          · rw [q3]; exact hD.2.1.mpr q4
          · rw [q3]; exact hD.2.2.mpr q4
        exact vc_M_readLine_58 _ _ ⟨fun z => by omega, fun _ => ⟨fun z => absurd bit z, fun _ => M_fails c8 c11 (fun M1 a8 a9 a0 => g80F M1 4 (by decide) e4 a8 a9 (fun t i k q => a0 t i k (by omega)))⟩⟩
      · have e0 : rfF w X np h5 h6 = 0 := by
          unfold rfF at ne ⊢
          rw [if_neg y7, if_neg q2] at ne ⊢
          by_cases q3 : (w ≤ 3 ∧ X 32 = 8) ∨ (w = 4 ∧ np = 4)
          · rw [if_pos q3] at ne; exact absurd rfl ne
          · rw [if_neg q3]
        have nobit : 5 ≤ w → and32 (shr32 (M 20 0 4) w) 1 ≠ 1 := by
          intro q3 q4
          rcases (show w = 5 ∨ w = 6 by omega) with q5 | q5
          · rw [q5] at q4
            exact q2 (Or.inl ⟨q5, hD.2.1.mp q4⟩)
          · rw [q5] at q4
            exact q2 (Or.inr ⟨q5, hD.2.2.mp q4⟩)
        exact vc_M_readLine_58 _ _ ⟨fun _ => g80 e0, fun z => ⟨fun _ => g80 e0, fun z2 => absurd z2 (nobit z)⟩⟩
    have is5 : (w ≤ 3 ∧ X 32 = 8) ∨ (w = 4 ∧ np = 4) → rfF w X np h5 h6 = 5 := fun q => by unfold rfF; rw [if_neg y7, if_neg (by omega), if_pos q]
    have not5 : ¬ ((w ≤ 3 ∧ X 32 = 8) ∨ (w = 4 ∧ np = 4)) → rfF w X np h5 h6 ≠ 5 := fun q => by
      unfold rfF
      rw [if_neg y7]
      rw [if_neg q]
      split
      · decide
      · decide
    have g40 : ¬ (w ≤ 3 ∧ X 32 = 8) → JG E mm_M_readLine Q 40 [(0, vR 20 0), (1, vI w)] [] M := by
      intro q
      refine vc_M_readLine_40 _ _ ⟨fun z => g58 (not5 (by omega)), fun z => ?_⟩
      rw [hR.2]
      exact ⟨fun z2 => g58 (not5 (by omega)), fun z2 => g53 (is5 (by omega))⟩
    refine M_in (fun _ => d10 ⟨fun z => g40 (by omega), fun z => ?_⟩) (fun q => absurd (by omega) q)
    rw [e32]
    exact ⟨fun z2 => g53 (is5 (by omega)), fun z2 => g40 (by omega)⟩
theorem lnX_zr {i np : Nat} {w : Int} {X : Nat → Int} (hB : PB X np) (hz : zr X) (h8 : w ≤ 3 → ngd X < 8) (h4 : w = 4 → np < 4) : zr (lnX T n w i X np) := by
  intro j hj
  unfold lnX
  by_cases y : w ≤ 3
  · have := h8 y
    rw [if_pos y]
    unfold addg
    rw [if_neg (by omega), if_neg (by omega), if_neg (by omega)]
    by_cases q : j = 24 + ngd X
    · rw [if_pos q]
    · rw [if_neg q, if_neg (by omega)]; exact hz j hj
  · rw [if_neg y]
    by_cases y4 : w = 4
    · have := h4 y4
      rw [if_pos y4]
      unfold adO
      rw [if_neg (by omega)]
      by_cases q : j = 37 + np
      · rw [if_pos q]
      · rw [if_neg q]; exact hz j hj
    · rw [if_neg y4]
      split
      · rw [uf_n (by omega)]; exact hz j hj
      · rw [uf_n (by omega)]; exact hz j hj
end

/-! the class's weeks: wages, goods brought back, whole weeks; towns are told and changed -/
theorem VA_c {M : JM} {u np : Nat} {X Y : Nat → Int} (h4 : np ≤ 4) (hA : VA M u X np) (h : ∀ j, 44 ≤ j ∧ j < 57 → Y j = X j) : VA M u Y np := by
  refine ⟨fun p hp => ?_, by rw [h 56 (by omega)]; exact hA.2⟩
  rw [h (44 + p) (by omega), h (48 + p) (by omega), h (52 + p) (by omega)]
  exact hA.1 p hp
theorem VT_c {M : JM} {u : Nat} {X Y : Nat → Int} (hT : VT M u X) (h : ∀ j, 57 ≤ j ∧ j < 59 → Y j = X j) : VT M u Y := by
  unfold VT
  rw [h 57 (by omega), h 58 (by omega)]
  exact hT
theorem brg_stop {m : Int} {X : Nat → Int} {i : Nat} (h : m ≤ (brg m X i).1) : ∀ k : Nat, brg m X (i + k) = brg m X i
  | 0 => rfl
  | k + 1 => by
    have ih := brg_stop h k
    show brg m X (i + k + 1) = _
    rw [brg, ih, if_neg (by omega)]
section
variable {E : EE} {Q : Int → JM → Prop} {M : JM} {u np : Nat} {X : Nat → Int}
theorem T_payOut (hB : PB X np) (hI : AI X np) (hV : VC M u X np) (hA : VA M u X np) (hT : VT M u X) (hQ : ∀ M' : JM, VC M' u (payN X np) np → VA M' u (payN X np) np → VT M' u (payN X np) → fra u M M' → Q 0 M') : JC E mm_T_payOut [vR 3 u] M Q := by
  have h8 := ngd_le hB
  have h4 := hB.2.1
  refine vc_T_payOut u M ?_
  refine up_ind (P := fun i => ∀ M' : JM, fra u M M' → VC M' u (payN X i) np → VA M' u (payN X i) np → VT M' u (payN X i) → JG E mm_T_payOut Q 2 [(0, vR 3 u), (1, vI (i : Int))] [] M') np ?_ ?_ M (fra_rf u M) hV hA hT
  · intro M' f hV' hA' hT'
    exact vc_T_payOut_2 _ _ _ ⟨fun _ => hQ M' hV' hA' hT' f, fun h => by rw [hV'.1.2.1] at h; omega⟩
  · intro i hi ih M' f hV' hA' hT'
    have hm := hV'.2.2.2
    refine vc_T_payOut_2 _ _ _ ⟨fun h => by rw [hV'.1.2.1] at h; omega, fun _ => ⟨by omega, fun M1 e1 => ?_⟩⟩
    rw [Int.toNat_natCast] at e1 ⊢
    have eo : 4 * u + (M' 5 u i).toNat = on M' u i := rfl
    rw [eo] at e1 ⊢
    have iu := on_in hm (p := i) (by omega)
    have hb := hB.2.2.2.1 i hi
    have hy := pay_b hB hI hi
    have elo := payN_lo X i (by omega)
    obtain ⟨ew, es⟩ := payN_w X i (by omega) i (by omega)
    rw [if_neg (by omega)] at ew es
    obtain ⟨v0, v1⟩ := hV'.2.2.1 i hi
    obtain ⟨v2, v3, v4⟩ := hA'.1 i hi
    have e52 := elo (52 + i) (by omega)
    have e48 := elo (48 + i) (by omega)
    rw [v1, v4, ew, e52, w32_id (by omega) (by omega)] at e1
    have r0 : M1 2 (on M' u i) 0 = X (33 + i) := by rw [e1, pt_ne (by omega), v0, es]
    have r3 : M1 2 (on M' u i) 3 = X (48 + i) := by rw [e1, pt_ne (by omega), v3, e48]
    have key : ∀ M6 : JM, fra u M' M6 → (∀ t a k, ¬ (t = 2 ∧ a = on M' u i ∧ k < 2) → ¬ (t = 3 ∧ a = u ∧ k = 8) → M6 t a k = M' t a k) → M6 2 (on M' u i) 1 = min 999 (X (37 + i) + X (52 + i)) → M6 2 (on M' u i) 0 = (if X (48 + i) = X (33 + i) then max 1 (X (33 + i) - 1) else X (33 + i)) → M6 3 u 8 = (if X (48 + i) = X (33 + i) then w32 (payN X i 58 + 1) else payN X i 58) → JG E mm_T_payOut Q 2 [(0, vR 3 u), (1, vI ((i + 1 : Nat) : Int))] [] M6 := by
      intro M6 f6 n6 w1 w0 w8
      have lo2 : ∀ j, ¬ j = 37 + i → ¬ j = 33 + i → ¬ j = 58 → payN X (i + 1) j = payN X i j := fun j a b c => pay1_n a b c
      have eng : ngd (payN X (i + 1)) = ngd X := by unfold ngd; rw [payN_lo X (i + 1) (by omega) 32 (by omega)]
      have eng' : ngd (payN X i) = ngd X := by unfold ngd; rw [elo 32 (by omega)]
      refine ih M6 (fra_tr f f6) ⟨?_, fun g hg => ?_, fun p hp => ?_, fra_pm f6 hm⟩ (VA_c h4 ⟨fun p hp => ?_, ?_⟩ (fun j hj => lo2 j (by omega) (by omega) (by omega))) ⟨?_, ?_⟩
      · rw [n6 3 u 2 (by omega) (by omega), n6 3 u 3 (by omega) (by omega), n6 3 u 4 (by omega) (by omega), n6 3 u 5 (by omega) (by omega), n6 3 u 6 (by omega) (by omega), lo2 32 (by omega) (by omega) (by omega), lo2 41 (by omega) (by omega) (by omega), lo2 42 (by omega) (by omega) (by omega), lo2 43 (by omega) (by omega) (by omega)]
        exact hV'.1
      · rw [eng] at hg
        unfold heft pays
        rw [lo2 g (by omega) (by omega) (by omega), lo2 (8 + g) (by omega) (by omega) (by omega), lo2 (16 + g) (by omega) (by omega) (by omega), lo2 (24 + g) (by omega) (by omega) (by omega), n6 1 _ 0 (by omega) (by omega), n6 1 _ 1 (by omega) (by omega), n6 1 _ 2 (by omega) (by omega), n6 1 _ 3 (by omega) (by omega), n6 1 _ 4 (by omega) (by omega), n6 1 _ 5 (by omega) (by omega)]
        exact hV'.2.1 g (by omega)
      · rw [fra_on f6]
        obtain ⟨q1, q2⟩ := payN_w X (i + 1) (by omega) p (by omega)
        by_cases hpi : p = i
        · subst hpi
          rw [if_pos (show p < p + 1 by omega)] at q1
          rw [w0, w1, q1, q2]
          refine ⟨?_, rfl⟩
          by_cases hz : X (48 + p) = X (33 + p)
          · rw [if_pos hz, if_pos ⟨by omega, hz⟩]
          · rw [if_neg hz, if_neg (fun z => hz z.2)]
        · have hne : on M' u p ≠ on M' u i := fun q => hpi (on_inj hm (by omega) (by omega) q)
          rw [n6 2 _ 0 (by omega) (by omega), n6 2 _ 1 (by omega) (by omega), lo2 (33 + p) (by omega) (by omega) (by omega), lo2 (37 + p) (by omega) (by omega) (by omega)]
          exact hV'.2.2.1 p hp
      · rw [fra_on f6, n6 2 _ 2 (by omega) (by omega), n6 2 _ 3 (by omega) (by omega), n6 2 _ 4 (by omega) (by omega)]
        exact hA'.1 p hp
      · rw [n6 3 u 7 (by omega) (by omega)]; exact hA'.2
      · rw [w8]
        show _ = pay1 (payN X i) i 58
        unfold pay1
        have q37 : ¬ 58 = 37 + i := by omega
        have q33 : ¬ 58 = 33 + i := by omega
        rw [e48, es]
        simp [q37, q33]
      · rw [n6 3 u 9 (by omega) (by omega), lo2 57 (by omega) (by omega) (by omega)]
        exact hT'.2
    have f1 : fra u M' M1 := by rw [e1]; exact fra_pt (by omega)
    refine vc_O_isBent _ _ ⟨fun hne => ⟨fun _ a e => ?_, fun z => absurd rfl z⟩, fun heq => ⟨fun z => absurd z (by decide), fun _ M5 e5 M6 e6 a e => ?_⟩⟩
    · rw [r0, r3] at hne
      rw [e, w32_s (by omega)]
      refine key M1 f1 (fun t a k h1 h2 => by rw [e1, pt_ne (by omega)]) (by rw [e1, pt_eq]) (by rw [if_neg hne, r0]) ?_
      rw [if_neg hne, e1, pt_ne (by omega)]
      exact hT'.1
    · rw [r0, r3] at heq
      rw [r0, w32_id (by omega) (by omega)] at e5
      have r8 : M5 3 u 8 = payN X i 58 := by rw [e5, pt_ne (by omega), e1, pt_ne (by omega)]; exact hT'.1
      rw [r8] at e6
      have f6 : fra u M' M6 := by rw [e6, e5]; exact fra_tr (fra_tr f1 (fra_pt (by omega))) (fra_pt (by omega))
      rw [e, w32_s (by omega)]
      refine key M6 f6 (fun t a k h1 h2 => by rw [e6, pt_ne (by omega), e5, pt_ne (by omega), e1, pt_ne (by omega)]) ?_ ?_ ?_
      · rw [e6, pt_ne (by omega), e5, pt_ne (by omega), e1, pt_eq]
      · rw [if_pos heq, e6, pt_ne (by omega), e5, pt_eq]
      · rw [if_pos heq, e6, pt_eq]
theorem T_bringBack {m : Int} (hB : PB X np) (hV : VC M u X np) (hQ : ∀ M' : JM, VC M' u (brg m X (ngd X)).2 np → (∀ t i k, ¬ (t = 1 ∧ 8 * u ≤ i ∧ i < 8 * u + 8 ∧ k = 5) → M' t i k = M t i k) → Q (brg m X (ngd X)).1 M') : JC E mm_T_bringBack [vR 3 u, vI m] M Q := by
  have h8 := ngd_le hB
  have hn := ngd_int hB
  have h4 := hB.2.1
  refine vc_T_bringBack u m M ?_
  refine up_ind (P := fun i => ∀ M' : JM, VC M' u (brg m X i).2 np → (∀ t a k, ¬ (t = 1 ∧ 8 * u ≤ a ∧ a < 8 * u + 8 ∧ k = 5) → M' t a k = M t a k) → JG E mm_T_bringBack Q 4 [(0, vR 3 u), (1, vI m), (2, vI (brg m X i).1), (3, vI (i : Int))] [] M') (ngd X) ?_ ?_ M hV (fun _ _ _ _ => rfl)
  · intro M' hV' hn'
    have e32 := brg_lo m X (ngd X) 32 (by omega)
    exact vc_T_bringBack_4 _ _ _ _ _ ⟨fun _ => hQ M' hV' hn', fun h => by rw [hV'.1.1, e32] at h; omega⟩
  · intro i hi ih M' hV' hn'
    have e32 := brg_lo m X i 32 (by omega)
    have hc := brg_n m X i
    refine vc_T_bringBack_4 _ _ _ _ _ ⟨fun h => by rw [hV'.1.1, e32] at h; omega, fun _ => ⟨fun h => ?_, fun h => ⟨by omega, ?_⟩⟩⟩
    · have hs := brg_stop h (ngd X - i)
      rw [show i + (ngd X - i) = ngd X by omega] at hs
      rw [← hs] at hV' ⊢
      exact hQ M' hV' hn'
    · rw [Int.toNat_natCast]
      have e5 : M' 1 (8 * u + i) 5 = X (24 + i) := by
        have eng : ngd (brg m X i).2 = ngd X := by unfold ngd; rw [e32]
        rw [(hV'.2.1 i (by omega)).2.2.2.2.2, brg_lo m X i (24 + i) (by omega)]
      rw [e5]
      refine ⟨fun h0 a e => ?_, fun h0 => ⟨by omega, fun M2 e2 a ea b eb => ?_⟩⟩
      · rw [brg, if_neg (by omega)] at ih
        rw [e, w32_s (by omega)]
        exact ih M' hV' hn'
      · rw [brg, if_pos ⟨h, h0⟩] at ih
        rw [ea, eb, w32_s (by omega), w32_id (by omega) (by omega)]
        have n2 : ∀ t a k, ¬ (t = 1 ∧ a = 8 * u + i ∧ k = 5) → M2 t a k = M' t a k := fun t a k z => by rw [e2, pt_ne (by omega)]
        have f2 : fra u M' M2 := by rw [e2]; exact fra_pt (by omega)
        refine ih M2 ⟨?_, fun g hg => ?_, fun p hp => ?_, fra_pm f2 hV'.2.2.2⟩ (fun t a k z => by rw [n2 t a k (by omega)]; exact hn' t a k z)
        · simp only
          rw [uf_n (by omega), uf_n (by omega), uf_n (by omega), uf_n (by omega), n2 3 u 2 (by omega), n2 3 u 3 (by omega), n2 3 u 4 (by omega), n2 3 u 5 (by omega), n2 3 u 6 (by omega)]
          exact hV'.1
        · simp only at hg ⊢
          have eng : ngd (uf (brg m X i).2 (24 + i) 0) = ngd X := by unfold ngd; rw [uf_n (by omega), e32]
          have eng' : ngd (brg m X i).2 = ngd X := by unfold ngd; rw [e32]
          rw [eng] at hg
          unfold heft pays
          rw [uf_n (j := g) (by omega), uf_n (j := 8 + g) (by omega), uf_n (j := 16 + g) (by omega), n2 1 _ 0 (by omega), n2 1 _ 1 (by omega), n2 1 _ 2 (by omega), n2 1 _ 3 (by omega), n2 1 _ 4 (by omega)]
          obtain ⟨z0, z1, z2, z3, z4, z5⟩ := hV'.2.1 g (by omega)
          refine ⟨z0, z1, z2, z3, z4, ?_⟩
          by_cases hgi : g = i
          · subst hgi
            rw [uf_s, e2, pt_eq]
          · rw [uf_n (by omega), n2 1 _ 5 (by omega)]
            exact z5
        · simp only
          rw [fra_on f2, uf_n (by omega), uf_n (by omega), n2 2 _ 0 (by omega), n2 2 _ 1 (by omega)]
          exact hV'.2.2.1 p hp
theorem wk_57 (hB : PB X np) (r : Nat) (ill : Int) {j : Nat} (hj : 44 ≤ j) : wk np r ill X j = payN (rnds np ill (clr X) r) np j := by
  have h8 := ngd_le hB
  unfold wk
  rw [uf_n (by omega), brg_lo _ _ _ _ (by omega)]
theorem T_passWeek {ill : Int} (hB : PB X np) (hV : VC M u X np) (hT : VT M u X) (hQ : ∀ M' : JM, VC M' u (wk np (hoot X) ill X) np → VT M' u (wk np (hoot X) ill X) → M' 3 u 7 = wk np (hoot X) ill X 56 → fra u M M' → Q 0 M') : JC E mm_T_passWeek [vR 3 u, vI ill] M Q := by
  have h8 := ngd_le hB
  have h4 := hB.2.1
  refine vc_T_passWeek u ill M (T_carryOut hB hV hT (fun M1 hV1 hA1 hT1 f1 => ?_))
  obtain ⟨hB1, hI1, hg1, hlo1⟩ := rnds_ok (ill := ill) (clr_PB hB) (clr_AI hB) (hoot X)
  refine T_payOut hB1 hI1 hV1 hA1 hT1 (fun M2 hV2 hA2 hT2 f2 => ?_)
  have hB2 := payN_PB hB1 hI1
  have plo := payN_lo (rnds np ill (clr X) (hoot X)) np h4
  have e42 : M2 3 u 5 = X 42 + 2 := by rw [hV2.1.2.2.2.1, plo 42 (by omega), hlo1 42 (by omega), clr_lo (by omega)]
  have e43 : payN (rnds np ill (clr X) (hoot X)) np 43 = X 43 := by rw [plo 43 (by omega), hlo1 43 (by omega), clr_lo (by omega)]
  have eng : ngd (payN (rnds np ill (clr X) (hoot X)) np) = ngd X := by
    unfold ngd
    rw [plo 32 (by omega), hlo1 32 (by omega), clr_lo (by omega)]
  rw [e42]
  refine T_bringBack hB2 hV2 (fun M3 hV3 hn3 M4 e4 => ?_)
  rw [eng] at hV3
  have b43 : M3 3 u 6 = X 43 := by rw [hV3.1.2.2.2.2, brg_lo _ _ _ _ (by omega), e43]
  rw [b43] at e4
  have n4 : ∀ t i k, ¬ (t = 3 ∧ i = u ∧ k = 6) → M4 t i k = M3 t i k := fun t i k h => by rw [e4, pt_ne (by omega)]
  have f3 : fra u M2 M3 := fun t i k h => hn3 t i k (by omega)
  have f4 : fra u M3 M4 := by rw [e4]; exact fra_pt (by omega)
  have ew : ∀ j, ¬ j = 43 → wk np (hoot X) ill X j = (brg (X 42 + 2) (payN (rnds np ill (clr X) (hoot X)) np) (ngd X)).2 j := fun j h => uf_n h
  refine hQ M4 ⟨?_, fun g hg => ?_, fun p hp => ?_, fra_pm f4 hV3.2.2.2⟩ ⟨?_, ?_⟩ ?_ (fra_tr f1 (fra_tr f2 (fra_tr f3 f4)))
  · rw [ew 32 (by omega), ew 41 (by omega), ew 42 (by omega), n4 3 u 2 (by omega), n4 3 u 3 (by omega), n4 3 u 4 (by omega), n4 3 u 5 (by omega), e4, pt_eq]
    exact ⟨hV3.1.1, hV3.1.2.1, hV3.1.2.2.1, hV3.1.2.2.2.1, (uf_s _ _ _).symm⟩
  · have e9 : ngd (wk np (hoot X) ill X) = ngd X := by
      unfold ngd
      rw [ew 32 (by omega), brg_lo _ _ _ _ (by omega)]
      exact eng
    have e8 : ngd (brg (X 42 + 2) (payN (rnds np ill (clr X) (hoot X)) np) (ngd X)).2 = ngd X := by
      rw [← eng]
      show ((brg _ _ _).2 32).toNat = (payN _ _ 32).toNat
      rw [brg_lo _ _ _ _ (by omega)]
    rw [e9] at hg
    unfold heft pays
    rw [ew g (by omega), ew (8 + g) (by omega), ew (16 + g) (by omega), ew (24 + g) (by omega), n4 1 _ 0 (by omega), n4 1 _ 1 (by omega), n4 1 _ 2 (by omega), n4 1 _ 3 (by omega), n4 1 _ 4 (by omega), n4 1 _ 5 (by omega)]
    exact hV3.2.1 g (by omega)
  · rw [fra_on f4, ew (33 + p) (by omega), ew (37 + p) (by omega), n4 2 _ 0 (by omega), n4 2 _ 1 (by omega)]
    exact hV3.2.2.1 p hp
  · rw [n4 3 u 8 (by omega), hn3 3 u 8 (by omega), wk_57 hB _ _ (by omega)]; exact hT2.1
  · rw [n4 3 u 9 (by omega), hn3 3 u 9 (by omega), wk_57 hB _ _ (by omega)]; exact hT2.2
  · rw [n4 3 u 7 (by omega), hn3 3 u 7 (by omega), wk_57 hB _ _ (by omega)]; exact hA2.2
theorem T_passWeeks {n : Nat} (hn : n < 1000) (hB : PB X np) (hV : VC M u X np) (hT : VT M u X) (hQ : ∀ M' : JM, VC M' u (wks np X n) np → VT M' u (wks np X n) → fra u M M' → Q 0 M') : JC E mm_T_passWeeks [vR 3 u, vI (n : Int)] M Q := by
  refine vc_T_passWeeks u _ M ?_
  refine up_ind (P := fun i => ∀ M' : JM, VC M' u (wks np X i) np → VT M' u (wks np X i) → fra u M M' → JG E mm_T_passWeeks Q 2 [(0, vR 3 u), (1, vI (n : Int)), (2, vI (i : Int))] [] M') n ?_ ?_ M hV hT (fra_rf u M)
  · intro M' hV' hT' f
    exact vc_T_passWeeks_2 _ _ _ _ ⟨fun _ => hQ M' hV' hT' f, fun h => by omega⟩
  · intro i hi ih M' hV' hT' f
    refine vc_T_passWeeks_2 _ _ _ _ ⟨fun h => by omega, fun _ => T_passWeek (wks_PB hB i) hV' hT' (fun M2 hV2 hT2 _ f2 a e => ?_)⟩
    rw [e, w32_s (by omega)]
    exact ih M2 hV2 hT2 (fra_tr f f2)
end

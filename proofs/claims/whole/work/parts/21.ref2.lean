/-! the reference's weeks -/
section
variable {E : EE} {Q : Int → JM → Prop} {M : JM} {b np : Nat} {X : Nat → Int}
theorem M_roundsOn {r : Nat} {ill : Int} (hr : r < 1000) (hbb : b ≤ 220) (hB : PB X np) (hV : VR M b X np) (hT : VRT M X) (hQ : ∀ M' : JM, VR M' b (rnds np ill (clr X) r) np → VRA M' (rnds np ill (clr X) r) → VRT M' (rnds np ill (clr X) r) → frb b M M' → Q 0 M') : JC E mm_M_roundsOn [vR 20 0, vI (b : Int), vI (r : Int), vI ill] M Q := by
  have h8 := ngd_le hB
  have h4 := hB.2.1
  have hB0 := clr_PB hB
  have hA0 := clr_AI hB
  have rounds : ∀ M0 : JM, frb b M M0 → VR M0 b (clr X) np → VRA M0 (clr X) → VRT M0 (clr X) → JG E mm_M_roundsOn Q 39 [(0, vR 20 0), (1, vI (b : Int)), (2, vI (r : Int)), (3, vI ill), (4, vI 0)] [] M0 := by
    intro M0 f0 hV0 hA0' hT0
    refine up_ind (P := fun i => ∀ M' : JM, frb b M M' → VR M' b (rnds np ill (clr X) i) np → VRA M' (rnds np ill (clr X) i) → VRT M' (rnds np ill (clr X) i) → JG E mm_M_roundsOn Q 39 [(0, vR 20 0), (1, vI (b : Int)), (2, vI (r : Int)), (3, vI ill), (4, vI (i : Int))] [] M') r ?_ ?_ M0 f0 hV0 hA0' hT0
    · intro M' f hV' hA' hT'
      exact vc_M_roundsOn_39 _ _ _ _ _ ⟨fun _ => hQ M' hV' hA' hT' f, fun h => by omega⟩
    · intro i hi ih M' f hV' hA' hT'
      obtain ⟨hBr, hAr, -, -⟩ := rnds_ok (ill := ill) hB0 hA0 i
      refine vc_M_roundsOn_39 _ _ _ _ _ ⟨fun h => by omega, fun _ => ?_⟩
      refine up_ind (P := fun p => ∀ M' : JM, frb b M M' → VR M' b (rnd ill (rnds np ill (clr X) i) p) np → VRA M' (rnd ill (rnds np ill (clr X) i) p) → VRT M' (rnd ill (rnds np ill (clr X) i) p) → JG E mm_M_roundsOn Q 48 [(0, vR 20 0), (1, vI (b : Int)), (2, vI (r : Int)), (3, vI ill), (4, vI (i : Int)), (5, vI (p : Int))] [] M') np ?_ ?_ M' f hV' hA' hT'
      · intro M'' f'' hV'' hA'' hT''
        refine vc_M_roundsOn_48 _ _ _ _ _ _ ⟨fun _ a e => ?_, fun h => by rw [hV''.2] at h; omega⟩
        rw [e, w32_s (by omega)]
        exact ih M'' f'' hV'' hA'' hT''
      · intro p hp ihp M'' f'' hV'' hA'' hT''
        obtain ⟨hBp, hAp, -, -⟩ := rnd_ok (ill := ill) hBr hAr p (by omega)
        refine vc_M_roundsOn_48 _ _ _ _ _ _ ⟨fun h => by rw [hV''.2] at h; omega, fun _ => ⟨fun hbit => ?_, fun hbit => ?_⟩⟩
        · rw [rnd, if_neg hbit] at ihp
          generalize rnd ill (rnds np ill (clr X) i) p = Y at hV'' hA'' hT'' hBp hAp ihp
          have h8' := ngd_le hBp
          refine M_bestFor hbb hp hBp hAp hV'' hA'' ?_
          rcases turn_c Y p with ⟨ht, hc⟩ | ⟨g, hg, ht, hc1, hc2, hc3, hc4⟩
          · rw [hc, if_pos rfl]
            refine vc_M_roundsOn_79 _ _ _ _ _ _ _ ⟨fun _ a e => ?_, fun z => absurd rfl z⟩
            rw [ht] at ihp
            rw [e, w32_s (by omega)]
            exact ihp M'' f'' hV'' hA'' hT''
          · rw [hc1, if_neg (by omega)]
            have hp4 : p < 4 := by omega
            have hg8 : g < 8 := by omega
            have w24 : w32 (w32 ((b : Int) + 24) + g) = ((b + (24 + g) : Nat) : Int) := ix32 hbb (c := 24) (by omega) (by omega)
            refine vc_M_roundsOn_79 _ _ _ _ _ _ _ ⟨fun z => by omega, fun _ => ?_⟩
            rw [w24, Int.toNat_natCast, Int.toNat_natCast]
            refine ⟨by omega, fun M2 e2 => ⟨by omega, by omega, fun M3 e3 => ⟨by omega, ?_⟩⟩⟩
            have hI2 := hAp p hp
            have hb2 := hBp.2.2.2.1 p hp
            have hhb := heft_b hBp hg
            have v26 : M2 26 0 p = Y (44 + p) := by rw [e2, pt_ne (by omega)]; exact (hA''.1 p hp4).1
            rw [v26] at e3
            have hV3 : VR M3 b (take Y p g (pays Y g)) np := by
              refine ⟨fun k hk => ?_, by rw [e3, pt_ne (by omega), e2, pt_ne (by omega)]; exact hV''.2⟩
              rw [e3, pt_ne (by omega), e2]
              by_cases hkg : k = 24 + g
              · subst hkg
                rw [pt_eq, take_24 hg8 hp4 hg8, if_pos rfl]
              · rw [pt_ne (by omega), hV''.1 k hk]
                by_cases hk24 : 24 ≤ k ∧ k < 32
                · obtain ⟨j, rfl⟩ : ∃ j, k = 24 + j := ⟨k - 24, by omega⟩
                  rw [take_24 (by omega) hp4 hg8, if_neg (by omega)]
                · rw [take_lo (by omega) hp4 hg8]
            refine M_heftOn hbb (take_PB hBp hp hg8) hV3 (by rw [take_ngd hp4 hg8]; exact hg) ⟨by omega, fun M6 e6 M7 e7 M8 e8 a e => ?_⟩
            rw [(take_hp hp4 hg8 hg8).1] at e6
            have v27 : M3 27 0 p = Y (48 + p) := by rw [e3, pt_ne (by omega), e2, pt_ne (by omega)]; exact (hA''.1 p hp4).2
            rw [v27, w32_id (by omega) (by omega)] at e6
            have v18 : M6 20 0 18 = Y 56 := by rw [e6, pt_ne (by omega), e3, pt_ne (by omega), e2, pt_ne (by omega)]; exact hA''.2
            rw [v18] at e7
            have v20 : M7 20 0 20 = Y 57 := by rw [e7, pt_ne (by omega), e6, pt_ne (by omega), e3, pt_ne (by omega), e2, pt_ne (by omega)]; exact hT''.2
            rw [v20] at e8
            have f8 : frb b M'' M8 := by
              rw [e8, e7, e6, e3, e2]
              exact frb_tr (frb_tr (frb_tr (frb_tr (frb_pt (by omega)) (frb_pt (by omega))) (frb_pt (by omega))) (frb_pt (by omega))) (frb_pt (by omega))
            rw [ht] at ihp
            rw [e, w32_s (by omega)]
            refine ihp M8 (frb_tr f'' f8) ⟨fun k hk => ?_, ?_⟩ ⟨fun q hq => ?_, ?_⟩ ⟨?_, ?_⟩
            · rw [e8, pt_ne (by omega), e7, pt_ne (by omega), e6, pt_ne (by omega)]; exact hV3.1 k hk
            · rw [e8, pt_ne (by omega), e7, pt_ne (by omega), e6, pt_ne (by omega)]; exact hV3.2
            · rw [take_44 hq hp4 hg8, take_48 hq hp4 hg8]
              by_cases hqp : q = p
              · subst hqp
                rw [if_pos rfl, if_pos rfl]
                exact ⟨by rw [e8, pt_ne (by omega), e7, pt_ne (by omega), e6, pt_ne (by omega), e3, pt_eq], by rw [e8, pt_ne (by omega), e7, pt_ne (by omega), e6, pt_eq]⟩
              · rw [if_neg hqp, if_neg hqp]
                refine ⟨?_, ?_⟩
                · rw [e8, pt_ne (by omega), e7, pt_ne (by omega), e6, pt_ne (by omega), e3, pt_ne (by omega), e2, pt_ne (by omega)]; exact (hA''.1 q hq).1
                · rw [e8, pt_ne (by omega), e7, pt_ne (by omega), e6, pt_ne (by omega), e3, pt_ne (by omega), e2, pt_ne (by omega)]; exact (hA''.1 q hq).2
            · rw [take_56 hp4 hg8, e8, pt_ne (by omega), e7, pt_eq]
            · rw [take_lo (by omega) hp4 hg8, e8, pt_ne (by omega), e7, pt_ne (by omega), e6, pt_ne (by omega), e3, pt_ne (by omega), e2, pt_ne (by omega)]; exact hT''.1
            · rw [take_57 hp4 hg8, e8, pt_eq]
        · rw [rnd, if_pos hbit] at ihp
          refine vc_M_roundsOn_79 _ _ _ _ _ _ _ ⟨fun _ a e => ?_, fun z => absurd rfl z⟩
          rw [e, w32_s (by omega)]
          exact ihp M'' f'' hV'' hA'' hT''
  refine vc_M_roundsOn _ _ _ _ (fun M1 e1 => ?_)
  have f1 : frb b M M1 := by rw [e1]; exact frb_pt (by omega)
  have n1 : ∀ t i k, ¬ (t = 20 ∧ i = 0 ∧ k = 18) → M1 t i k = M t i k := fun t i k h => by rw [e1, pt_ne (by omega)]
  refine up_ind (P := fun i => ∀ M' : JM, frb b M M' → (∀ t a k, ¬ (t = 20 ∧ a = 0 ∧ k = 18) → ¬ (t = 26 ∨ t = 27) → M' t a k = M t a k) → M' 20 0 18 = 0 → (∀ p, p < i → M' 26 0 p = 0 ∧ M' 27 0 p = 0) → JG E mm_M_roundsOn Q 8 [(0, vR 20 0), (1, vI (b : Int)), (2, vI (r : Int)), (3, vI ill), (4, vI (i : Int))] [] M') 4 ?_ ?_ M1 f1 (fun t a k h _ => n1 t a k h) (by rw [e1, pt_eq]) (fun p hp => absurd hp (Nat.not_lt_zero p))
  · intro M' f hn' h18 harm
    refine vc_M_roundsOn_8 _ _ _ _ _ ⟨fun _ => ?_, fun h => by omega⟩
    refine rounds M' f ⟨fun k hk => ?_, ?_⟩ ⟨fun p hp => ?_, ?_⟩ ⟨?_, ?_⟩
    · rw [clr_lo (by omega), hn' 21 0 _ (by omega) (by omega)]; exact hV.1 k hk
    · rw [hn' 20 0 1 (by omega) (by omega)]; exact hV.2
    · rw [clr_hi (by omega), clr_hi (by omega)]; exact harm p hp
    · rw [clr_hi (by omega)]; exact h18
    · rw [clr_lo (by omega), hn' 20 0 19 (by omega) (by omega)]; exact hT.1
    · rw [clr_lo (by omega), hn' 20 0 20 (by omega) (by omega)]; exact hT.2
  · intro i hi ih M' f hn' h18 harm
    refine vc_M_roundsOn_8 _ _ _ _ _ ⟨fun h => by omega, fun _ => ⟨by omega, fun M2 e2 => ⟨by omega, fun M3 e3 a e => ?_⟩⟩⟩
    rw [Int.toNat_natCast] at e2 e3
    rw [e, w32_s (by omega)]
    refine ih M3 (frb_tr f (by rw [e3, e2]; exact frb_tr (frb_pt (by omega)) (frb_pt (by omega)))) (fun t a k h1 h2 => ?_) ?_ (fun p hp => ?_)
    · rw [e3, pt_ne (by omega), e2, pt_ne (by omega)]; exact hn' t a k h1 h2
    · rw [e3, pt_ne (by omega), e2, pt_ne (by omega)]; exact h18
    · by_cases hpi : p = i
      · subst hpi
        exact ⟨by rw [e3, pt_ne (by omega), e2, pt_eq], by rw [e3, pt_eq]⟩
      · rw [e3, pt_ne (by omega), e2, pt_ne (by omega), pt_ne (by omega), pt_ne (by omega)]; exact harm p (by omega)
theorem M_weekOn {r : Nat} {ill : Int} (hr : r < 1000) (hbb : b ≤ 220) (hB : PB X np) (hV : VR M b X np) (hT : VRT M X) (hQ : ∀ M' : JM, VR M' b (wk np r ill X) np → VRT M' (wk np r ill X) → M' 20 0 18 = wk np r ill X 56 → frb b M M' → Q 0 M') : JC E mm_M_weekOn [vR 20 0, vI (b : Int), vI (r : Int), vI ill] M Q := by
  have h8 := ngd_le hB
  have hn := ngd_int hB
  have h4 := hB.2.1
  refine vc_M_weekOn _ _ _ _ (M_roundsOn hr hbb hB hV hT (fun M1 hV1 hA1 hT1 f1 => ?_))
  obtain ⟨hB1, hI1, hg1, hlo1⟩ := rnds_ok (ill := ill) (clr_PB hB) (clr_AI hB) r
  have hB2 := payN_PB hB1 hI1
  have plo := payN_lo (rnds np ill (clr X) r) np h4
  have e42 : payN (rnds np ill (clr X) r) np 42 = X 42 := by rw [plo 42 (by omega), hlo1 42 (by omega), clr_lo (by omega)]
  have e43 : payN (rnds np ill (clr X) r) np 43 = X 43 := by rw [plo 43 (by omega), hlo1 43 (by omega), clr_lo (by omega)]
  have e32 : payN (rnds np ill (clr X) r) np 32 = X 32 := by rw [plo 32 (by omega), hlo1 32 (by omega), clr_lo (by omega)]
  have hb42 := hB.2.2.2.2.2
  have hgY : ngd (rnds np ill (clr X) r) = ngd X := hg1.trans (clr_ngd X)
  have wc : ∀ c : Nat, c ≤ 43 → w32 ((b : Int) + c) = ((b + c : Nat) : Int) := fun c hc => ix1 hbb hc
  -- the end
  have fin : ∀ M' : JM, frb b M M' → VR M' b (brg (X 42 + 2) (payN (rnds np ill (clr X) r) np) (ngd X)).2 np → VRT M' (payN (rnds np ill (clr X) r) np) → M' 20 0 18 = payN (rnds np ill (clr X) r) np 56 → JG E mm_M_weekOn Q 214 [(0, vR 20 0), (1, vI (b : Int))] [] M' := by
    intro M' f hV' hT' h18
    refine vc_M_weekOn_214 _ _ ?_
    have w43 : w32 ((b : Int) + 43) = ((b + 43 : Nat) : Int) := wc 43 (by omega)
    rw [w43, Int.toNat_natCast, hV'.1 43 (by omega), brg_lo _ _ _ _ (by omega), e43]
    refine ⟨by omega, by omega, fun M2 e2 => ?_⟩
    refine hQ M2 ⟨fun k hk => ?_, by rw [e2, pt_ne (by omega)]; exact hV'.2⟩ ⟨?_, ?_⟩ ?_ (frb_tr f (by rw [e2]; exact frb_pt (by omega)))
    · by_cases hk43 : k = 43
      · subst hk43
        rw [e2, pt_eq]
        exact (uf_s _ _ _).symm
      · rw [e2, pt_ne (by omega)]
        show _ = uf _ 43 _ k
        rw [uf_n hk43]
        exact hV'.1 k hk
    · rw [wk_57 hB _ _ (by omega), e2, pt_ne (by omega)]; exact hT'.1
    · rw [wk_57 hB _ _ (by omega), e2, pt_ne (by omega)]; exact hT'.2
    · rw [wk_57 hB _ _ (by omega), e2, pt_ne (by omega)]; exact h18
  -- goods are brought back
  have back : ∀ M' : JM, frb b M M' → VR M' b (payN (rnds np ill (clr X) r) np) np → VRT M' (payN (rnds np ill (clr X) r) np) → M' 20 0 18 = payN (rnds np ill (clr X) r) np 56 → JG E mm_M_weekOn Q 159 [(0, vR 20 0), (1, vI (b : Int)), (4, vI (X 42 + 2)), (5, vI 0)] [] M' := by
    intro M0 f0 hV0 hT0 h180
    have start : X 42 + 2 = X 42 + 2 - (brg (X 42 + 2) (payN (rnds np ill (clr X) r) np) 0).1 := by show _ = _ - 0; omega
    rw [start]
    have w32' : w32 ((b : Int) + 32) = ((b + 32 : Nat) : Int) := wc 32 (by omega)
    refine up_ind (P := fun i => ∀ M' : JM, frb b M M' → VR M' b (brg (X 42 + 2) (payN (rnds np ill (clr X) r) np) i).2 np → VRT M' (payN (rnds np ill (clr X) r) np) → M' 20 0 18 = payN (rnds np ill (clr X) r) np 56 → JG E mm_M_weekOn Q 159 [(0, vR 20 0), (1, vI (b : Int)), (4, vI (X 42 + 2 - (brg (X 42 + 2) (payN (rnds np ill (clr X) r) np) i).1)), (5, vI (i : Int))] [] M') (ngd X) ?_ ?_ M0 f0 hV0 hT0 h180
    · intro M' f hV' hT' h18
      refine vc_M_weekOn_159 _ _ _ _ ?_
      rw [w32', Int.toNat_natCast, hV'.1 32 (by omega), brg_lo _ _ _ _ (by omega), e32]
      exact ⟨by omega, fun _ => fin M' f hV' hT' h18, fun h => by omega⟩
    · intro i hi ih M' f hV' hT' h18
      have hc := brg_n (X 42 + 2) (payN (rnds np ill (clr X) r) np) i
      have w24 : w32 (w32 ((b : Int) + 24) + i) = ((b + (24 + i) : Nat) : Int) := ix32 hbb (c := 24) (by omega) (by omega)
      have h01 := (hB2.2.2.1 i (by unfold ngd; rw [e32]; unfold ngd at hi; exact hi)).2.2.2
      refine vc_M_weekOn_159 _ _ _ _ ?_
      rw [w32', w24, Int.toNat_natCast, Int.toNat_natCast, hV'.1 32 (by omega), hV'.1 (24 + i) (by omega), brg_lo _ _ _ 32 (by omega), brg_lo _ _ _ (24 + i) (by omega), e32]
      refine ⟨by omega, fun h => by omega, fun _ => ⟨fun h => ?_, fun h => ⟨by omega, fun a e => ⟨by omega, fun M2 e2 a2 ea2 => ?_⟩⟩⟩⟩
      · have hs := brg_stop (m := X 42 + 2) (X := payN (rnds np ill (clr X) r) np) (i := i) (by omega) (ngd X - i)
        rw [show i + (ngd X - i) = ngd X by omega] at hs
        rw [← hs] at hV'
        exact fin M' f hV' hT' h18
      · rw [w32_id (by omega) (by omega)] at e
        rw [ea2, w32_s (by omega)]
        have hv : a = X 42 + 2 - (brg (X 42 + 2) (payN (rnds np ill (clr X) r) np) (i + 1)).1 ∧ VR M2 b (brg (X 42 + 2) (payN (rnds np ill (clr X) r) np) (i + 1)).2 np := by
          have hp : ∀ k, k < 44 → M2 21 0 (b + k) = if k = 24 + i then 0 else (brg (X 42 + 2) (payN (rnds np ill (clr X) r) np) i).2 k := fun k hk => by
            by_cases hki : k = 24 + i
            · subst hki; rw [if_pos rfl, e2, pt_eq]
            · rw [if_neg hki, e2, pt_ne (by omega)]; exact hV'.1 k hk
          have h1 : M2 20 0 1 = np := by rw [e2, pt_ne (by omega)]; exact hV'.2
          rw [brg]
          by_cases hz : payN (rnds np ill (clr X) r) np (24 + i) = 0
          · rw [if_neg (fun q => q.2 hz)]
            refine ⟨by omega, fun k hk => ?_, h1⟩
            rw [hp k hk]
            split
            · rename_i hk2
              subst hk2
              rw [brg_lo _ _ _ (24 + i) (by omega), hz]
            · rfl
          · rw [if_pos ⟨by omega, hz⟩]
            refine ⟨by simp only; omega, fun k hk => ?_, h1⟩
            rw [hp k hk]
            rfl
        rw [hv.1]
        exact ih M2 (frb_tr f (by rw [e2]; exact frb_pt (by omega))) hv.2 ⟨by rw [e2, pt_ne (by omega)]; exact hT'.1, by rw [e2, pt_ne (by omega)]; exact hT'.2⟩ (by rw [e2, pt_ne (by omega)]; exact h18)
  -- the wages
  refine up_ind (P := fun i => ∀ M' : JM, frb b M M' → VR M' b (payN (rnds np ill (clr X) r) i) np → VRA M' (payN (rnds np ill (clr X) r) i) → VRT M' (payN (rnds np ill (clr X) r) i) → JG E mm_M_weekOn Q 10 [(0, vR 20 0), (1, vI (b : Int)), (4, vI (i : Int))] [] M') np ?_ ?_ M1 f1 hV1 hA1 hT1
  · intro M' f hV' hA' hT'
    refine vc_M_weekOn_10 _ _ _ ⟨fun _ => ?_, fun h => by rw [hV'.2] at h; omega⟩
    have w42 : w32 ((b : Int) + 42) = ((b + 42 : Nat) : Int) := wc 42 (by omega)
    rw [w42, Int.toNat_natCast, hV'.1 42 (by omega), e42, w32_id (by omega) (by omega)]
    refine ⟨by omega, fun a e => ?_⟩
    rw [e]
    exact back M' f hV' hT' hA'.2
  · intro i hi ih M' f hV' hA' hT'
    have hY := rnds_ok (ill := ill) (clr_PB hB) (clr_AI hB) r
    generalize rnds np ill (clr X) r = Y at hV' hA' hT' ih hB1 hI1 hgY
    have elo := payN_lo Y i (by omega)
    obtain ⟨ew, es⟩ := payN_w Y i (by omega) i (by omega)
    rw [if_neg (by omega)] at ew es
    have hbY := hB1.2.2.2.1 i hi
    have hyY := pay_b hB1 hI1 hi
    have hIY := hI1 i hi
    have w37 : w32 (w32 ((b : Int) + 37) + i) = ((b + (37 + i) : Nat) : Int) := ix32 hbb (c := 37) (by omega) (by omega)
    have w33 : w32 (w32 ((b : Int) + 33) + i) = ((b + (33 + i) : Nat) : Int) := ix32 hbb (c := 33) (by omega) (by omega)
    refine vc_M_weekOn_10 _ _ _ ⟨fun h => by rw [hV'.2] at h; omega, fun _ => ?_⟩
    rw [w37, Int.toNat_natCast, Int.toNat_natCast, hV'.1 (37 + i) (by omega), ew, (hA'.1 i (by omega)).1, elo (44 + i) (by omega)]
    have hVY : VR M' b (fun j => if 33 ≤ j ∧ j < 41 then payN Y i j else Y j) np := VR_c hV' (fun j hj => by
      split
      · rfl
      · exact (elo j (by omega)).symm)
    have hBY : PB (fun j => if 33 ≤ j ∧ j < 41 then payN Y i j else Y j) np := by
      refine ⟨?_, h4, fun g hg => ?_, fun p hp => ?_, ?_, ?_⟩
      · simp; exact hB1.1
      · have hg' : g < ngd Y := hg
        have h8Y := ngd_le hB1
        have := hB1.2.2.1 g hg'
        dsimp only
        rw [if_neg (by omega), if_neg (by omega), if_neg (by omega), if_neg (by omega)]
        exact this
      · have hbp := hB1.2.2.2.1 p hp
        have hyp := pay_b hB1 hI1 hp
        obtain ⟨q1, q2⟩ := payN_w Y i (by omega) p (by omega)
        dsimp only
        rw [if_pos (by omega), if_pos (by omega), q1, q2]
        constructor
        · split <;> omega
        · split <;> omega
      · simp; exact hB1.2.2.2.2.1
      · simp; exact hB1.2.2.2.2.2
    refine ⟨by omega, by omega, M_paysAll hbb hBY hVY ?_⟩
    have epay : smB (pays (fun j => if 33 ≤ j ∧ j < 41 then payN Y i j else Y j)) (Y (44 + i)) (ngd (fun j => if 33 ≤ j ∧ j < 41 then payN Y i j else Y j)) = Y (52 + i) := by
      rw [hIY.2.2.1]
      have h8Y := ngd_le hB1
      refine smB_c (fun g hg => ?_)
      have hg' : g < ngd Y := hg
      unfold pays
      dsimp only
      rw [if_neg (by omega), if_neg (by omega)]
    rw [epay]
    refine fun a e => ?_
    rw [w32_id (by omega) (by omega)] at e
    -- behind the wages: who is bent
    have more : JG E mm_M_weekOn Q 73 [(0, vR 20 0), (1, vI (b : Int)), (4, vI (i : Int))] [vI (min 999 (Y (37 + i) + Y (52 + i))), vI ((b + (37 + i) : Nat) : Int), vR 21 0] M' := by
      refine vc_M_weekOn_73 _ _ _ _ _ ?_
      rw [w33]
      refine ⟨by omega, fun M2 e2 => ⟨by omega, by omega, ?_⟩⟩
      rw [Int.toNat_natCast] at e2
      rw [Int.toNat_natCast, Int.toNat_natCast]
      have v27 : M2 27 0 i = Y (48 + i) := by rw [e2, pt_ne (by omega), (hA'.1 i (by omega)).2, elo (48 + i) (by omega)]
      have v33 : M2 21 0 (b + (33 + i)) = Y (33 + i) := by rw [e2, pt_ne (by omega), hV'.1 (33 + i) (by omega), es]
      have key : ∀ M6 : JM, frb b M' M6 → (∀ k, k < 44 → k ≠ 37 + i → k ≠ 33 + i → M6 21 0 (b + k) = M' 21 0 (b + k)) → (∀ t k, t ≠ 21 → ¬ (t = 20 ∧ k = 19) → M6 t 0 k = M' t 0 k) → M6 21 0 (b + (37 + i)) = min 999 (Y (37 + i) + Y (52 + i)) → M6 21 0 (b + (33 + i)) = (if Y (48 + i) = Y (33 + i) then max 1 (Y (33 + i) - 1) else Y (33 + i)) → M6 20 0 19 = (if Y (48 + i) = Y (33 + i) then w32 (payN Y i 58 + 1) else payN Y i 58) → JG E mm_M_weekOn Q 10 [(0, vR 20 0), (1, vI (b : Int)), (4, vI ((i + 1 : Nat) : Int))] [] M6 := by
        intro M6 f6 n6 m6 w1 w0 w19
        have lo2 : ∀ j, ¬ j = 37 + i → ¬ j = 33 + i → ¬ j = 58 → payN Y (i + 1) j = payN Y i j := fun j a b c => pay1_n a b c
        obtain ⟨q1, q2⟩ := payN_w Y (i + 1) (by omega) i (by omega)
        rw [if_pos (show i < i + 1 by omega)] at q1
        refine ih M6 (frb_tr f f6) ⟨fun k hk => ?_, by rw [m6 20 1 (by omega) (by omega)]; exact hV'.2⟩ ⟨fun p hp => ?_, ?_⟩ ⟨?_, ?_⟩
        · by_cases h1 : k = 37 + i
          · subst h1; rw [w1, q1]
          · by_cases h2 : k = 33 + i
            · subst h2
              rw [w0, q2]
              by_cases hz : Y (48 + i) = Y (33 + i)
              · rw [if_pos hz, if_pos ⟨by omega, hz⟩]
              · rw [if_neg hz, if_neg (fun z => hz z.2)]
            · rw [n6 k hk h1 h2, lo2 k h1 h2 (by omega)]; exact hV'.1 k hk
        · rw [lo2 (44 + p) (by omega) (by omega) (by omega), lo2 (48 + p) (by omega) (by omega) (by omega), m6 26 p (by omega) (by omega), m6 27 p (by omega) (by omega)]
          exact hA'.1 p hp
        · rw [lo2 56 (by omega) (by omega) (by omega), m6 20 18 (by omega) (by omega)]; exact hA'.2
        · rw [w19]
          show _ = pay1 (payN Y i) i 58
          unfold pay1
          have q37 : ¬ 58 = 37 + i := by omega
          have q33 : ¬ 58 = 33 + i := by omega
          rw [elo (48 + i) (by omega), es]
          simp [q37, q33]
        · rw [lo2 57 (by omega) (by omega) (by omega), m6 20 20 (by omega) (by omega)]; exact hT'.2
      rw [v27, v33]
      refine ⟨fun hne a ea => ?_, fun heq M3 e3 => ⟨by omega, by omega, ?_⟩⟩
      · rw [ea, w32_s (by omega)]
        refine key M2 (by rw [e2]; exact frb_pt (by omega)) (fun k hk h1 h2 => by rw [e2, pt_ne (by omega)]) (fun t k h1 h2 => by rw [e2, pt_ne (by omega)]) (by rw [e2, pt_eq]) ?_ ?_
        · rw [if_neg hne]; exact v33
        · rw [if_neg hne, e2, pt_ne (by omega)]; exact hT'.1
      · have v19 : M2 20 0 19 = payN Y i 58 := by rw [e2, pt_ne (by omega)]; exact hT'.1
        rw [v19] at e3
        have u27 : M3 27 0 i = Y (48 + i) := by rw [e3, pt_ne (by omega)]; exact v27
        have u33 : M3 21 0 (b + (33 + i)) = Y (33 + i) := by rw [e3, pt_ne (by omega)]; exact v33
        rw [u27, u33]
        have last : ∀ d : Int, Y (33 + i) - d = max 1 (Y (33 + i) - 1) → 0 ≤ d ∧ d ≤ 1 → JG E mm_M_weekOn Q 135 [(0, vR 20 0), (1, vI (b : Int)), (4, vI (i : Int))] [vI d, vI (Y (33 + i)), vI ((b + (33 + i) : Nat) : Int), vR 21 0] M3 := by
          intro d hd hd2
          refine vc_M_weekOn_135 _ _ _ _ _ _ ⟨by omega, fun M4 e4 a ea => ?_⟩
          rw [Int.toNat_natCast, w32_id (by omega) (by omega), hd] at e4
          rw [ea, w32_s (by omega)]
          refine key M4 (by rw [e4, e3, e2]; exact frb_tr (frb_tr (frb_pt (by omega)) (frb_pt (by omega))) (frb_pt (by omega))) (fun k hk h1 h2 => by rw [e4, pt_ne (by omega), e3, pt_ne (by omega), e2, pt_ne (by omega)]) (fun t k h1 h2 => by rw [e4, pt_ne (by omega), e3, pt_ne (by omega), e2, pt_ne (by omega)]) (by rw [e4, pt_ne (by omega), e3, pt_ne (by omega), e2, pt_eq]) ?_ ?_
          · rw [if_pos heq, e4, pt_eq]
          · rw [if_pos heq, e4, pt_ne (by omega), e3, pt_eq]
        exact ⟨fun h => last 0 (by omega) (by omega), fun h => last 1 (by omega) (by omega)⟩
    refine ⟨fun h => ?_, fun h => ?_⟩
    · rw [show min 999 (Y (37 + i) + Y (52 + i)) = a by omega] at more; exact more
    · rw [show min 999 (Y (37 + i) + Y (52 + i)) = 999 by omega] at more; exact more
end

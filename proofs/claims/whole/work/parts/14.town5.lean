/-! the class's weeks: its methods -/
section
variable {E : EE} {Q : Int → JM → Prop} {M : JM} {u np : Nat} {X : Nat → Int}
theorem T_takesBest {p : Nat} (hp : p < np) (hB : PB X np) (hI : AI X np) (hV : VC M u X np) (hA : VA M u X np) (hT : VT M u X) (h0 : turn X p = X → Q 0 M) (h1 : ∀ M' : JM, VC M' u (turn X p) np → VA M' u (turn X p) np → VT M' u (turn X p) → fra u M M' → Q 1 M') : JC E mm_T_takesBest [vR 3 u, vR 2 (on M u p)] M Q := by
  have h8 := ngd_le hB
  have hn := ngd_int hB
  have h4 := hB.2.1
  have hm := hV.2.2.2
  have hI2 := hI p hp
  have hb2 := hB.2.2.2.1 p hp
  obtain ⟨s0, s1⟩ := hV.2.2.1 p hp
  obtain ⟨s2, s3, s4⟩ := hA.1 p hp
  refine vc_T_takesBest u (on M u p) M (fun a1 e1 => ?_)
  rw [s0, s3, w32_id (by omega) (by omega)] at e1
  subst e1
  refine up_ind (P := fun i => JG E mm_T_takesBest Q 18 [(0, vR 3 u), (1, vR 2 (on M u p)), (2, vI (bst X (X (33 + p) - X (48 + p)) i).1), (3, vI (bst X (X (33 + p) - X (48 + p)) i).2), (4, vI (X (33 + p) - X (48 + p))), (5, vI (i : Int))] [] M) (ngd X) ?_ ?_
  · refine vc_T_takesBest_18 _ _ _ _ _ _ _ ⟨fun _ => ⟨fun hz => ?_, fun hz => ?_⟩, fun h => by rw [hV.1.1] at h; omega⟩
    · rcases turn_c X p with ⟨-, hc⟩ | ⟨g, hg, ht, hc1, hc2, hc3, hc4⟩
      · omega
      · rw [hc1, hc2]
        refine ⟨by omega, fun M1 e1 M2 e2 => ⟨by omega, fun M3 e3 M4 e4 M5 e5 M6 e6 => ?_⟩⟩
        rw [Int.toNat_natCast] at e1 e3
        have ho := on_in hm (p := p) (by omega)
        have hgb := hV.2.1 g hg
        have hhb := heft_b hB hg
        have hyb := pays_b hB hg
        have hpb := pay_b hB hI hp
        have v2 : M1 2 (on M u p) 2 = X (44 + p) := by rw [e1, pt_ne (by omega), s2]
        rw [v2] at e2
        have v3 : M2 2 (on M u p) 3 = X (48 + p) := by rw [e2, pt_ne (by omega), e1, pt_ne (by omega), s3]
        have v3' : M2 1 (8 * u + g) 3 = heft X g := by rw [e2, pt_ne (by omega), e1, pt_ne (by omega), hgb.2.2.2.1]
        rw [v3, v3', w32_id (by omega) (by omega)] at e3
        have v4 : M3 2 (on M u p) 4 = X (52 + p) := by rw [e3, pt_ne (by omega), e2, pt_ne (by omega), e1, pt_ne (by omega), s4]
        rw [v4, w32_id (by omega) (by omega)] at e4
        have v5 : M4 3 u 7 = X 56 := by rw [e4, pt_ne (by omega), e3, pt_ne (by omega), e2, pt_ne (by omega), e1, pt_ne (by omega), hA.2]
        rw [v5] at e5
        have v6 : M5 3 u 9 = X 57 := by rw [e5, pt_ne (by omega), e4, pt_ne (by omega), e3, pt_ne (by omega), e2, pt_ne (by omega), e1, pt_ne (by omega), hT.2]
        rw [v6] at e6
        have f6 : fra u M M6 := by
          rw [e6, e5, e4, e3, e2, e1]
          exact fra_tr (fra_tr (fra_tr (fra_tr (fra_tr (fra_pt (by omega)) (fra_pt (by omega))) (fra_pt (by omega))) (fra_pt (by omega))) (fra_pt (by omega))) (fra_pt (by omega))
        have n6 : ∀ t i k, ¬ (t = 1 ∧ i = 8 * u + g ∧ k = 5) → ¬ (t = 2 ∧ i = on M u p ∧ (k = 2 ∨ k = 3 ∨ k = 4)) → ¬ (t = 3 ∧ i = u ∧ (k = 7 ∨ k = 9)) → M6 t i k = M t i k := fun t i k a b c => by
          rw [e6, pt_ne (by omega), e5, pt_ne (by omega), e4, pt_ne (by omega), e3, pt_ne (by omega), e2, pt_ne (by omega), e1, pt_ne (by omega)]
        have hp4 : p < 4 := by omega
        have hg8 : g < 8 := by omega
        rw [ht] at h1
        refine h1 M6 ⟨?_, fun j hj => ?_, fun q hq => ?_, fra_pm f6 hm⟩ ⟨fun q hq => ?_, ?_⟩ ⟨?_, ?_⟩ f6
        · rw [n6 3 u 2 (by omega) (by omega) (by omega), n6 3 u 3 (by omega) (by omega) (by omega), n6 3 u 4 (by omega) (by omega) (by omega), n6 3 u 5 (by omega) (by omega) (by omega), n6 3 u 6 (by omega) (by omega) (by omega), take_lo (by omega) hp4 hg8, take_lo (by omega) hp4 hg8, take_lo (by omega) hp4 hg8, take_lo (by omega) hp4 hg8]
          exact hV.1
        · rw [take_ngd hp4 hg8] at hj
          obtain ⟨w1, w2⟩ := take_hp (X := X) (py := pays X g) hp4 hg8 (j := j) (by omega)
          rw [w1, w2, take_lo (by omega) hp4 hg8, take_lo (by omega) hp4 hg8, take_lo (by omega) hp4 hg8, take_24 (by omega) hp4 hg8]
          obtain ⟨z0, z1, z2, z3, z4, z5⟩ := hV.2.1 j hj
          rw [n6 1 _ 0 (by omega) (by omega) (by omega), n6 1 _ 1 (by omega) (by omega) (by omega), n6 1 _ 2 (by omega) (by omega) (by omega), n6 1 _ 3 (by omega) (by omega) (by omega), n6 1 _ 4 (by omega) (by omega) (by omega)]
          refine ⟨z0, z1, z2, z3, z4, ?_⟩
          by_cases hjg : j = g
          · subst hjg
            rw [if_pos rfl, e6, pt_ne (by omega), e5, pt_ne (by omega), e4, pt_ne (by omega), e3, pt_ne (by omega), e2, pt_ne (by omega), e1, pt_eq]
          · rw [if_neg hjg, n6 1 _ 5 (by omega) (by omega) (by omega)]
            exact z5
        · rw [fra_on f6, n6 2 _ 0 (by omega) (by omega) (by omega), n6 2 _ 1 (by omega) (by omega) (by omega), take_lo (by omega) hp4 hg8, take_lo (by omega) hp4 hg8]
          exact hV.2.2.1 q hq
        · rw [fra_on f6, take_44 (by omega) hp4 hg8, take_48 (by omega) hp4 hg8, take_52 (by omega) hp4 hg8]
          by_cases hqp : q = p
          · subst hqp
            rw [if_pos rfl, if_pos rfl, if_pos rfl]
            refine ⟨?_, ?_, ?_⟩
            · rw [e6, pt_ne (by omega), e5, pt_ne (by omega), e4, pt_ne (by omega), e3, pt_ne (by omega), e2, pt_eq]
            · rw [e6, pt_ne (by omega), e5, pt_ne (by omega), e4, pt_ne (by omega), e3, pt_eq]
            · rw [e6, pt_ne (by omega), e5, pt_ne (by omega), e4, pt_eq]
          · have hne : on M u q ≠ on M u p := fun z => hqp (on_inj hm (by omega) (by omega) z)
            rw [if_neg hqp, if_neg hqp, if_neg hqp, n6 2 _ 2 (by omega) (by omega) (by omega), n6 2 _ 3 (by omega) (by omega) (by omega), n6 2 _ 4 (by omega) (by omega) (by omega)]
            exact hA.1 q hq
        · rw [take_56 hp4 hg8, e6, pt_ne (by omega), e5, pt_eq]
        · rw [take_lo (by omega) hp4 hg8, n6 3 u 8 (by omega) (by omega) (by omega)]; exact hT.1
        · rw [take_57 hp4 hg8, e6, pt_eq]
    · rcases turn_c X p with ⟨ht, -⟩ | ⟨g, hg, ht, hc1, -⟩
      · exact h0 ht
      · omega
  · intro i hi ih
    have hgb := hV.2.1 i hi
    refine vc_T_takesBest_18 _ _ _ _ _ _ _ ⟨fun h => by rw [hV.1.1] at h; omega, fun _ => ⟨by omega, ?_⟩⟩
    rw [Int.toNat_natCast, hgb.2.2.2.1, hgb.2.2.2.2.1, hgb.2.2.2.2.2]
    refine ⟨fun h a e => ?_, fun h => ⟨fun h2 a e => ?_, fun h2 => ⟨fun h3 a e => ?_, fun h3 a e b eb => ?_⟩⟩⟩
    · rw [bst, if_neg (by omega)] at ih; rw [e, w32_s (by omega)]; exact ih
    · rw [bst, if_neg (by omega)] at ih; rw [e, w32_s (by omega)]; exact ih
    · rw [bst, if_neg (by omega)] at ih; rw [e, w32_s (by omega)]; exact ih
    · rw [bst, if_pos (by omega)] at ih; rw [e, eb, w32_s (by omega)]; exact ih
theorem T_carryOut {ill : Int} (hB : PB X np) (hV : VC M u X np) (hT : VT M u X) (hQ : ∀ M' : JM, VC M' u (rnds np ill (clr X) (hoot X)) np → VA M' u (rnds np ill (clr X) (hoot X)) np → VT M' u (rnds np ill (clr X) (hoot X)) → fra u M M' → Q 0 M') : JC E mm_T_carryOut [vR 3 u, vI ill] M Q := by
  have h8 := ngd_le hB
  have h4 := hB.2.1
  have hm := hV.2.2.2
  obtain ⟨hh6, hh⟩ := hoot_b hB
  have hB0 := clr_PB hB
  have hA0 := clr_AI hB
  -- the rounds
  have rounds : ∀ M0 : JM, fra u M M0 → VC M0 u (clr X) np → VA M0 u (clr X) np → VT M0 u (clr X) → JG E mm_T_carryOut Q 34 [(0, vR 3 u), (1, vI ill), (2, vI 1), (3, vI 0)] [] M0 := by
    intro M0 f0 hV0 hVA0 hVT0
    refine up_ind (P := fun r => ∀ (l : Int) (M' : JM), fra u M M' → VC M' u (rnds np ill (clr X) r) np → VA M' u (rnds np ill (clr X) r) np → VT M' u (rnds np ill (clr X) r) → (l = 0 → rnd ill (rnds np ill (clr X) r) np = rnds np ill (clr X) r) → JG E mm_T_carryOut Q 34 [(0, vR 3 u), (1, vI ill), (2, vI l), (3, vI (r : Int))] [] M') (hoot X) ?_ ?_ 1 M0 f0 hV0 hVA0 hVT0 (fun h => absurd h (by decide))
    · intro l M' f hV' hVA' hVT' _
      have e41 : rnds np ill (clr X) (hoot X) 41 = X 41 := by rw [(rnds_ok hB0 hA0 (hoot X)).2.2.2 41 (by omega), clr_lo (by omega)]
      refine vc_T_carryOut_34 _ _ _ _ _ ⟨fun _ => hQ M' hV' hVA' hVT' f, fun h => ?_⟩
      rw [hV'.1.2.2.1, e41] at h
      omega
    · intro r hr ih l M' f hV' hVA' hVT' hl
      obtain ⟨hBr, hAr, -, hlo⟩ := rnds_ok (ill := ill) hB0 hA0 r
      have e41 : rnds np ill (clr X) r 41 = X 41 := by rw [hlo 41 (by omega), clr_lo (by omega)]
      refine vc_T_carryOut_34 _ _ _ _ _ ⟨fun h => by rw [hV'.1.2.2.1, e41] at h; omega, fun _ => ⟨fun hl0 => ?_, fun hl0 => ?_⟩⟩
      · have hfix := rnds_fix (hl hl0) (hoot X - r)
        rw [show r + (hoot X - r) = hoot X by omega] at hfix
        rw [← hfix] at hV' hVA' hVT'
        exact hQ M' hV' hVA' hVT' f
      · -- the people of a round
        refine up_ind (P := fun p => ∀ (l : Int) (M' : JM), fra u M M' → VC M' u (rnd ill (rnds np ill (clr X) r) p) np → VA M' u (rnd ill (rnds np ill (clr X) r) p) np → VT M' u (rnd ill (rnds np ill (clr X) r) p) → (l = 0 → rnd ill (rnds np ill (clr X) r) p = rnds np ill (clr X) r) → JG E mm_T_carryOut Q 51 [(0, vR 3 u), (1, vI ill), (2, vI l), (3, vI (r : Int)), (4, vI (p : Int))] [] M') np ?_ ?_ 0 M' f hV' hVA' hVT' (fun _ => rfl)
        · intro l M'' f'' hV'' hVA'' hVT'' hl''
          refine vc_T_carryOut_51 _ _ _ _ _ _ ⟨fun _ a e => ?_, fun h => by rw [hV''.1.2.1] at h; omega⟩
          rw [e, w32_s (by omega)]
          refine ih l M'' f'' hV'' hVA'' hVT'' (fun hl0 => ?_)
          have q := hl'' hl0
          show rnd ill (rnd ill (rnds np ill (clr X) r) np) np = rnd ill (rnds np ill (clr X) r) np
          rw [q]
          exact q
        · intro p hp ihp l M'' f'' hV'' hVA'' hVT'' hl''
          obtain ⟨hBp, hAp, -, -⟩ := rnd_ok (ill := ill) hBr hAr p (by omega)
          refine vc_T_carryOut_51 _ _ _ _ _ _ ⟨fun h => by rw [hV''.1.2.1] at h; omega, fun _ => H_hasBit (fun hbit => ⟨fun _ a e => ?_, fun z => absurd z (by decide)⟩) (fun hbit => ⟨fun z => absurd rfl z, fun _ => ⟨by omega, ?_⟩⟩)⟩
          · rw [rnd, if_pos hbit] at ihp
            rw [e, w32_s (by omega)]
            exact ihp l M'' f'' hV'' hVA'' hVT'' hl''
          · rw [rnd, if_neg hbit] at ihp
            rw [Int.toNat_natCast]
            refine T_takesBest hp hBp hAp hV'' hVA'' hVT'' (fun ht => ⟨fun _ a e => ?_, fun z => absurd rfl z⟩) (fun M3 hV3 hVA3 hVT3 f3 => ⟨fun z => absurd z (by decide), fun _ a e => ?_⟩)
            · rw [e, w32_s (by omega)]
              rw [ht] at ihp
              exact ihp l M'' f'' hV'' hVA'' hVT'' hl''
            · rw [e, w32_s (by omega)]
              exact ihp 1 M3 (fra_tr f'' f3) hV3 hVA3 hVT3 (fun z => absurd z (by decide))
  -- the arms are emptied
  refine vc_T_carryOut u ill M (fun M1 e1 => ?_)
  have f1 : fra u M M1 := by rw [e1]; exact fra_pt (by omega)
  have n1 : ∀ t i k, ¬ (t = 3 ∧ i = u ∧ k = 7) → M1 t i k = M t i k := fun t i k h => by rw [e1, pt_ne (by omega)]
  refine up_ind (P := fun i => ∀ M' : JM, fra u M M' → (∀ t a k, ¬ (t = 3 ∧ a = u ∧ k = 7) → ¬ (t = 2 ∧ 4 * u ≤ a ∧ a < 4 * u + 4 ∧ 2 ≤ k) → M' t a k = M t a k) → M' 3 u 7 = 0 → (∀ p, p < i → M' 2 (on M u p) 2 = 0 ∧ M' 2 (on M u p) 3 = 0 ∧ M' 2 (on M u p) 4 = 0) → JG E mm_T_carryOut Q 7 [(0, vR 3 u), (1, vI ill), (2, vI (i : Int))] [] M') np ?_ ?_ M1 f1 (fun t a k h _ => n1 t a k h) (by rw [e1, pt_eq]) (fun p hp => absurd hp (Nat.not_lt_zero p))
  · intro M' f hn' h7 harm
    refine vc_T_carryOut_7 _ _ _ _ ⟨fun _ => ?_, fun h => by rw [hn' 3 u 3 (by omega) (by omega), hV.1.2.1] at h; omega⟩
    refine rounds M' f (VC_c (X := X) ⟨?_, fun g hg => ?_, fun p hp => ?_, fra_pm f hm⟩ h8 h4 (fun j hj => clr_lo (by omega))) ⟨fun p hp => ?_, ?_⟩ ⟨?_, ?_⟩
    · rw [hn' 3 u 2 (by omega) (by omega), hn' 3 u 3 (by omega) (by omega), hn' 3 u 4 (by omega) (by omega), hn' 3 u 5 (by omega) (by omega), hn' 3 u 6 (by omega) (by omega)]; exact hV.1
    · rw [hn' 1 _ 0 (by omega) (by omega), hn' 1 _ 1 (by omega) (by omega), hn' 1 _ 2 (by omega) (by omega), hn' 1 _ 3 (by omega) (by omega), hn' 1 _ 4 (by omega) (by omega), hn' 1 _ 5 (by omega) (by omega)]; exact hV.2.1 g hg
    · rw [fra_on f, hn' 2 _ 0 (by omega) (by omega), hn' 2 _ 1 (by omega) (by omega)]; exact hV.2.2.1 p hp
    · rw [fra_on f, clr_hi (by omega), clr_hi (by omega), clr_hi (by omega)]; exact harm p hp
    · rw [clr_hi (by omega)]; exact h7
    · rw [clr_lo (by omega), hn' 3 u 8 (by omega) (by omega)]; exact hT.1
    · rw [clr_lo (by omega), hn' 3 u 9 (by omega) (by omega)]; exact hT.2
  · intro i hi ih M' f hn' h7 harm
    refine vc_T_carryOut_7 _ _ _ _ ⟨fun h => by rw [hn' 3 u 3 (by omega) (by omega), hV.1.2.1] at h; omega, fun _ => ⟨by omega, ?_⟩⟩
    rw [Int.toNat_natCast]
    have eo : 4 * u + (M' 5 u i).toNat = on M u i := by rw [fra_5 f]; rfl
    have iu := on_in hm (p := i) (by omega)
    rw [eo]
    refine O_emptyArms (fun M2 k2 k3 k4 kf a e => ?_)
    have f2 : fra u M' M2 := fun t a k hn => kf t a k (by omega)
    rw [e, w32_s (by omega)]
    refine ih M2 (fra_tr f f2) (fun t a k hn hn2 => ?_) ?_ (fun p hp => ?_)
    · rw [kf t a k (by omega)]; exact hn' t a k hn hn2
    · rw [kf 3 u 7 (by omega)]; exact h7
    · by_cases hpi : p = i
      · subst hpi
        exact ⟨k2, k3, k4⟩
      · have hne : on M u p ≠ on M u i := fun q => hpi (on_inj hm (by omega) (by omega) q)
        rw [kf 2 _ 2 (by omega), kf 2 _ 3 (by omega), kf 2 _ 4 (by omega)]
        exact harm p (by omega)
end

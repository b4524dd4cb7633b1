/-! pages that differ in their counts alone -/
def eqv (X Y : Nat → Int) : Prop := ∀ j, j < 57 → X j = Y j
theorem eqv_rf (X : Nat → Int) : eqv X X := fun _ _ => rfl
theorem eqv_hp {X Y : Nat → Int} (h : eqv X Y) {g : Nat} (hg : g < 32) : heft X g = heft Y g ∧ pays X g = pays Y g := by
  unfold heft pays
  rw [h g (by omega), h (8 + g) (by omega), h (16 + g) (by omega)]
  exact ⟨rfl, rfl⟩
theorem eqv_ng {X Y : Nat → Int} (h : eqv X Y) : ngd X = ngd Y := by unfold ngd; rw [h 32 (by omega)]
theorem eqv_ho {X Y : Nat → Int} (h : eqv X Y) : hoot X = hoot Y := by unfold hoot; rw [h 41 (by omega)]
theorem eqv_PB {X Y : Nat → Int} {np : Nat} (h : eqv X Y) (hB : PB X np) : PB Y np := PB_c hB (fun j hj => (h j (by omega)).symm)
theorem eqv_bst {X Y : Nat → Int} (h : eqv X Y) (fr : Int) : ∀ k : Nat, k ≤ 8 → bst X fr k = bst Y fr k
  | 0, _ => rfl
  | k + 1, hk => by
    unfold bst
    rw [eqv_bst h fr k (by omega), h (24 + k) (by omega), (eqv_hp h (g := k) (by omega)).1, (eqv_hp h (g := k) (by omega)).2]
theorem eqv_turn {X Y : Nat → Int} (h : eqv X Y) {p : Nat} (hp : p < 4) (h8 : ngd X ≤ 8) : eqv (turn X p) (turn Y p) := by
  have e : bst X (X (33 + p) - X (48 + p)) (ngd X) = bst Y (Y (33 + p) - Y (48 + p)) (ngd Y) := by
    rw [← eqv_ng h, ← h (33 + p) (by omega), ← h (48 + p) (by omega)]
    exact eqv_bst h _ _ h8
  unfold turn
  rw [e]
  rcases bst_c Y (Y (33 + p) - Y (48 + p)) (ngd Y) with hc | ⟨g, h1, h2, h3, -⟩
  · rw [if_pos (by omega), if_pos (by omega)]; exact h
  · rw [if_neg (by omega), if_neg (by omega), h2, Int.toNat_natCast]
    rw [eqv_ng h] at h8
    intro j hj
    unfold take
    rw [h (44 + p) (by omega), h (48 + p) (by omega), h (52 + p) (by omega), h 56 (by omega), (eqv_hp h (g := g) (by omega)).1, h j hj]
    rw [if_neg (c := j = 57) (by omega), if_neg (c := j = 57) (by omega)]
theorem eqv_rnd {X Y : Nat → Int} {np : Nat} (h : eqv X Y) (ill : Int) (hB : PB X np) (hA : AI X np) : ∀ p : Nat, p ≤ np → eqv (rnd ill X p) (rnd ill Y p)
  | 0, _ => h
  | p + 1, hp => by
    have h4 := hB.2.1
    have ih := eqv_rnd h ill hB hA p (by omega)
    have h8 := ngd_le (rnd_ok (ill := ill) hB hA p (by omega)).1
    unfold rnd
    split
    · exact ih
    · exact eqv_turn ih (by omega) h8
theorem eqv_AI {X Y : Nat → Int} {np : Nat} (h : eqv X Y) (hB : PB X np) (hA : AI X np) : AI Y np := by
  have h4 := hB.2.1
  have h8 := ngd_le hB
  intro p hp
  rw [← h (48 + p) (by omega), ← h (33 + p) (by omega), ← h (44 + p) (by omega), ← h (52 + p) (by omega), ← eqv_ng h]
  obtain ⟨a, b, c, d⟩ := hA p hp
  refine ⟨a, b, ?_, fun g hg hbg => ?_⟩
  · rw [c]; exact smB_c (fun g hg => (eqv_hp h (by omega)).2)
  · rw [← h (24 + g) (by omega)]; exact d g hg hbg
theorem eqv_rnds {X Y : Nat → Int} {np : Nat} (h : eqv X Y) (ill : Int) (hB : PB X np) (hA : AI X np) : ∀ r : Nat, eqv (rnds np ill X r) (rnds np ill Y r)
  | 0 => h
  | r + 1 => by
    obtain ⟨h1, h2, -, -⟩ := rnds_ok (ill := ill) hB hA r
    exact eqv_rnd (eqv_rnds h ill hB hA r) ill h1 h2 np (Nat.le_refl _)
theorem eqv_clr {X Y : Nat → Int} (h : eqv X Y) : eqv (clr X) (clr Y) := fun j hj => by
  unfold clr
  rw [h j hj]
theorem eqv_payN {X Y : Nat → Int} (h : eqv X Y) : ∀ k : Nat, k ≤ 4 → eqv (payN X k) (payN Y k)
  | 0, _ => h
  | k + 1, hk => by
    have ih := eqv_payN h k (by omega)
    intro j hj
    show pay1 (payN X k) k j = pay1 (payN Y k) k j
    unfold pay1
    rw [ih (37 + k) (by omega), ih (52 + k) (by omega), ih (48 + k) (by omega), ih (33 + k) (by omega), ih j hj]
    rw [if_neg (c := j = 58 ∧ _) (by omega), if_neg (c := j = 58 ∧ _) (by omega)]
theorem eqv_brg {X Y : Nat → Int} (h : eqv X Y) (m : Int) : ∀ k : Nat, k ≤ 8 → (brg m X k).1 = (brg m Y k).1 ∧ eqv (brg m X k).2 (brg m Y k).2
  | 0, _ => ⟨rfl, h⟩
  | k + 1, hk => by
    obtain ⟨i1, i2⟩ := eqv_brg h m k (by omega)
    unfold brg
    rw [i1, h (24 + k) (by omega)]
    split
    · refine ⟨rfl, fun j hj => ?_⟩
      simp only
      unfold uf
      rw [i2 j hj]
    · exact ⟨i1, i2⟩
theorem eqv_wk {X Y : Nat → Int} {np : Nat} (h : eqv X Y) (r : Nat) (ill : Int) (hB : PB X np) : eqv (wk np r ill X) (wk np r ill Y) := by
  have h1 := eqv_rnds (eqv_clr h) ill (clr_PB hB) (clr_AI hB) r
  have h2 := eqv_payN h1 np hB.2.1
  have h8 := ngd_le hB
  intro j hj
  unfold wk
  rw [← h 42 (by omega), ← h 43 (by omega), ← eqv_ng h]
  have h3 := (eqv_brg h2 (X 42 + 2) (ngd X) h8).2
  unfold uf
  rw [h3 j hj]
theorem eqv_wks {X Y : Nat → Int} {np : Nat} (h : eqv X Y) (hB : PB X np) : ∀ n : Nat, eqv (wks np X n) (wks np Y n)
  | 0 => h
  | n + 1 => by
    have ih := eqv_wks h hB n
    show eqv (wk np (hoot (wks np X n)) 0 (wks np X n)) (wk np (hoot (wks np Y n)) 0 (wks np Y n))
    rw [← eqv_ho ih]
    exact eqv_wk ih _ _ (wks_PB hB n)
theorem cpy_lo {X : Nat → Int} {j : Nat} (h : j < 56 ∨ 58 < j) : cpy X j = X j := if_neg (by omega)
theorem cpy_PB {X : Nat → Int} {np : Nat} (hB : PB X np) : PB (cpy X) np := PB_c hB (fun j hj => cpy_lo (by omega))
theorem clr_cpy (X Y : Nat → Int) (h : ∀ j, j < 44 → X j = Y j) : eqv (clr X) (clr Y) := fun j hj => by
  unfold clr
  by_cases hj2 : 44 ≤ j ∧ j < 57
  · rw [if_pos hj2, if_pos hj2]
  · rw [if_neg hj2, if_neg hj2]; exact h j (by omega)
/-- a week looks at the page alone -/
theorem eqv_wk2 {X Y : Nat → Int} {np : Nat} (h : ∀ j, j < 44 → X j = Y j) (r : Nat) (ill : Int) (hB : PB X np) : eqv (wk np r ill X) (wk np r ill Y) := by
  have h1 := eqv_rnds (clr_cpy X Y h) ill (clr_PB hB) (clr_AI hB) r
  have h2 := eqv_payN h1 np hB.2.1
  have h8 := ngd_le hB
  have eng : ngd X = ngd Y := by unfold ngd; rw [h 32 (by omega)]
  intro j hj
  unfold wk
  rw [← h 42 (by omega), ← h 43 (by omega), ← eng]
  have h3 := (eqv_brg h2 (X 42 + 2) (ngd X) h8).2
  unfold uf
  rw [h3 j hj]
theorem wks_lo {X Y : Nat → Int} {np : Nat} (h : ∀ j, j < 44 → X j = Y j) (hB : PB X np) : ∀ (n j : Nat), j < 44 → wks np X n j = wks np Y n j
  | 0, j, hj => h j hj
  | n + 1, j, hj => by
    have ih := wks_lo h hB n
    have e : hoot (wks np X n) = hoot (wks np Y n) := by unfold hoot; rw [ih 41 (by omega)]
    show wk np (hoot (wks np X n)) 0 (wks np X n) j = wk np (hoot (wks np Y n)) 0 (wks np Y n) j
    rw [← e]
    exact eqv_wk2 ih _ _ (wks_PB hB n) j (by omega)
section
variable {E : EE} {Q : Int → JM → Prop} {M : JM} {b np : Nat} {X : Nat → Int}
theorem M_goesOn (hbb : b ≤ 220) (hB : PB X np) (hV : VR M b X np) (hT : VRT M X) (hQ : ∀ M' : JM, VR M' b (wk np (hoot X) 0 X) np → VRT M' (wk np (hoot X) 0 X) → M' 20 0 18 = wk np (hoot X) 0 X 56 → frb b M M' → Q 0 M') : JC E mm_M_goesOn [vR 20 0, vI (b : Int)] M Q := by
  obtain ⟨h6, hh⟩ := hoot_b hB
  have w41 : w32 ((b : Int) + 41) = ((b + 41 : Nat) : Int) := ix1 hbb (c := 41) (by omega)
  refine vc_M_goesOn _ _ ?_
  rw [w41, Int.toNat_natCast, hV.1 41 (by omega), w32_id (by omega) (by omega), ← hh]
  exact ⟨by omega, M_weekOn (by omega) hbb hB hV hT hQ⟩
/-- the counts as they stand -/
def wct (M : JM) (X : Nat → Int) : Nat → Int := fun j => if j = 57 then M 20 0 20 else if j = 58 then M 20 0 19 else X j
theorem wct_lo {j : Nat} (h : j < 57) : wct M X j = X j := by unfold wct; rw [if_neg (by omega), if_neg (by omega)]
theorem wct_T : VRT M (wct M X) := ⟨rfl, rfl⟩
theorem wct_V (hV : VR M b X np) : VR M b (wct M X) np := VR_c hV (fun _ hj => wct_lo (by omega))
theorem wct_PB (hB : PB X np) : PB (wct M X) np := PB_c hB (fun _ hj => wct_lo (by omega))
/-- a week, whatever the counts are -/
theorem M_goesOn' (hbb : b ≤ 220) (hB : PB X np) (hV : VR M b X np) (hQ : ∀ M' : JM, VR M' b (wk np (hoot X) 0 X) np → M' 20 0 18 = wk np (hoot X) 0 X 56 → frb b M M' → Q 0 M') : JC E mm_M_goesOn [vR 20 0, vI (b : Int)] M Q := by
  have e : hoot (wct M X) = hoot X := by unfold hoot; rw [wct_lo (by omega)]
  have q := eqv_wk2 (X := wct M X) (Y := X) (fun j hj => wct_lo (by omega)) (hoot X) 0 (wct_PB hB)
  refine M_goesOn hbb (wct_PB hB) (wct_V hV) wct_T (fun M' hV' _ h18 f => ?_)
  rw [e] at hV' h18
  exact hQ M' (VR_c hV' (fun j hj => (q j (by omega)).symm)) (h18.trans (q 56 (by omega))) f
theorem M_tries (hb : b + 44 ≤ 176 ∨ b = 220) (hB : PB X np) (hV : VR M b X np) (hQ : ∀ M' : JM, VRA M' (rnds np 0 (clr X) (hoot X)) → frb 176 M M' → Q 0 M') : JC E mm_M_tries [vR 20 0, vI (b : Int)] M Q := by
  obtain ⟨h6, hh⟩ := hoot_b hB
  refine vc_M_tries _ _ (M_copies (c := 176) (by omega) (by omega) (by omega) hV (fun M1 hV1 n1 => ?_))
  have e41 : M1 21 0 217 = X 41 := hV1.1 41 (by omega)
  rw [e41, w32_id (by omega) (by omega), ← hh]
  refine M_roundsOn (b := 176) (by omega) (by omega) (wct_PB hB) (wct_V hV1) wct_T (fun M2 _ hA2 _ f2 => ?_)
  have q := eqv_rnds (clr_cpy (wct M1 X) X (fun j hj => wct_lo (by omega))) 0 (clr_PB (wct_PB hB)) (clr_AI (wct_PB hB)) (hoot X)
  refine hQ M2 ⟨fun p hp => ?_, ?_⟩ (fun t i k hn => ?_)
  · rw [← q (44 + p) (by omega), ← q (48 + p) (by omega)]; exact hA2.1 p hp
  · rw [← q 56 (by omega)]; exact hA2.2
  · rw [f2 t i k hn]; exact n1 t i k (by omega)
theorem M_weeksGo {n : Nat} {N : Nat → Int} (hn : n < 1000) (hb : b + 44 ≤ 176 ∨ b = 220) (hB : PB X np) (hBN : PB N np) (hV : VR M b X np) (hN : VR M 0 N np) (hQ : ∀ M' : JM, VR M' 176 (wks np (cpy X) n) np → VRT M' (wks np (cpy X) n) → frb 176 M M' → Q (wag np (wks np (cpy X) n) - wag np N) M') : JC E mm_M_weeksGo [vR 20 0, vI (b : Int), vI (n : Int)] M Q := by
  refine vc_M_weeksGo _ _ _ (M_copies (c := 176) (by omega) (by omega) (by omega) hV (fun M1 hV1 n1 M3 e3 M4 e4 => ?_))
  have f4 : frb 176 M M4 := fun t i k h => by rw [e4, pt_ne (by omega), e3, pt_ne (by omega)]; exact n1 t i k (by omega)
  refine up_ind (P := fun i => ∀ M' : JM, VR M' 176 (wks np (cpy X) i) np → VRT M' (wks np (cpy X) i) → frb 176 M M' → JG E mm_M_weeksGo Q 20 [(0, vR 20 0), (2, vI (n : Int)), (3, vI (i : Int))] [] M') n ?_ ?_ M4 ⟨fun k hk => ?_, ?_⟩ ⟨?_, ?_⟩ f4
  · intro M' hV' hT' f
    have hBw := wks_PB (cpy_PB hB) n
    have b1 := wag_b hBw
    have b2 := wag_b hBN
    refine vc_M_weeksGo_20 _ _ _ ⟨fun _ => M_wagesOn (b := 176) (by omega) hBw hV' (M_wagesOn (b := 0) (by omega) hBN (frb_VR f (by omega) hN) ?_), fun h => by omega⟩
    rw [w32_id (by omega) (by omega)]
    exact hQ M' hV' hT' f
  · intro i hi ih M' hV' hT' f
    refine vc_M_weeksGo_20 _ _ _ ⟨fun h => by omega, fun _ => M_goesOn (b := 176) (by omega) (wks_PB (cpy_PB hB) i) hV' hT' (fun M5 hV5 hT5 _ f5 a e => ?_)⟩
    rw [e, w32_s (by omega)]
    exact ih M5 hV5 hT5 (frb_tr f f5)
  · rw [e4, pt_ne (by omega), e3, pt_ne (by omega)]
    show _ = cpy X k
    rw [cpy_lo (by omega)]
    exact hV1.1 k hk
  · rw [e4, pt_ne (by omega), e3, pt_ne (by omega)]; exact hV1.2
  · rw [e4, pt_ne (by omega), e3, pt_eq]; rfl
  · rw [e4, pt_eq]; rfl
end

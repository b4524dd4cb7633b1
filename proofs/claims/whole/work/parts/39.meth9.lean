/-! swap -/
def swp (Z : ZZ) (p q : Nat) : Nat → Int := fun j => if j = 33 + p then Z 0 (33 + q) else if j = 33 + q then Z 0 (33 + p) else if j = 37 + p then Z 0 (37 + q) else if j = 37 + q then Z 0 (37 + p) else cpy (Z 0) j
theorem swp_lo {Z : ZZ} {p q j : Nat} (h : j < 33 ∨ 41 ≤ j) (hp : p < 4) (hq : q < 4) : swp Z p q j = cpy (Z 0) j := by
  unfold swp
  rw [if_neg (by omega), if_neg (by omega), if_neg (by omega), if_neg (by omega)]
theorem swp_s {Z : ZZ} {p q r : Nat} (hp : p < 4) (hq : q < 4) (hr : r < 4) : swp Z p q (33 + r) = Z 0 (33 + (if r = p then q else if r = q then p else r)) ∧ swp Z p q (37 + r) = Z 0 (37 + (if r = p then q else if r = q then p else r)) := by
  by_cases h1 : r = p
  · rw [if_pos h1]
    exact ⟨if_pos (by omega), by unfold swp; rw [if_neg (by omega), if_neg (by omega), if_pos (by omega)]⟩
  · rw [if_neg h1]
    by_cases h2 : r = q
    · rw [if_pos h2]
      exact ⟨by unfold swp; rw [if_neg (by omega), if_pos (by omega)], by unfold swp; rw [if_neg (by omega), if_neg (by omega), if_neg (by omega), if_pos (by omega)]⟩
    · rw [if_neg h2]
      exact ⟨by unfold swp; rw [if_neg (by omega), if_neg (by omega), if_neg (by omega), if_neg (by omega), cpy_lo (by omega)], by unfold swp; rw [if_neg (by omega), if_neg (by omega), if_neg (by omega), if_neg (by omega), cpy_lo (by omega)]⟩
theorem swp_PB {Z : ZZ} {p q : Nat} (hZ : ZB Z) (hp : p < npz Z) (hq : q < npz Z) : PB (swp Z p q) (npz Z) := by
  have h4 := hZ.1.2.1
  have h8 := ngd_le hZ.1
  have hB := cpy_PB hZ.1
  have e : ngd (swp Z p q) = ngd (Z 0) := by unfold ngd; rw [swp_lo (by omega) (by omega) (by omega), cpy_lo (by omega)]
  refine ⟨by rw [swp_lo (by omega) (by omega) (by omega)]; exact hB.1, h4, fun g hg => ?_, fun r hr => ?_, by rw [swp_lo (by omega) (by omega) (by omega)]; exact hB.2.2.2.2.1, by rw [swp_lo (by omega) (by omega) (by omega)]; exact hB.2.2.2.2.2⟩
  · rw [e] at hg
    rw [swp_lo (by omega) (by omega) (by omega), swp_lo (by omega) (by omega) (by omega), swp_lo (by omega) (by omega) (by omega), swp_lo (by omega) (by omega) (by omega)]
    exact hB.2.2.1 g (by rw [ngd_cpy]; exact hg)
  · rw [(swp_s (r := r) (by omega) (by omega) (by omega)).1, (swp_s (r := r) (by omega) (by omega) (by omega)).2]
    refine hZ.1.2.2.2.1 _ ?_
    split
    · exact hq
    · split
      · exact hp
      · exact hr
theorem cpy_swp {Z : ZZ} {p q : Nat} (hp : p < 4) (hq : q < 4) : cpy (swp Z p q) = swp Z p q := by
  funext j
  unfold cpy
  by_cases hj : j = 56 ∨ j = 57 ∨ j = 58
  · rw [if_pos hj, swp_lo (by omega) hp hq]
    exact (if_pos hj).symm
  · rw [if_neg hj]
section
variable {E : EE} {Q : Int → JM → Prop} {M : JM} {Z : ZZ}
theorem C_places {p q : Nat} (hpq : p ≠ q) (hZ : ZB Z) (hR : RepC Z M) (hp : p < npz Z) (hq : q < npz Z) (hV : VC M 1 (cpy (Z 0)) (npz Z)) (hT : VT M 1 (cpy (Z 0))) (hQ : ∀ M' : JM, RepC Z M' → VC M' 1 (swp Z p q) (npz Z) → VT M' 1 (swp Z p q) → keepR M M' → Q 0 M') : JC E mm_T_changePlaces [vR 3 1, vI (p : Int), vI (q : Int)] M Q := by
  have h4 := hZ.1.2.1
  have h8 := ngd_le hZ.1
  have pm := hV.2.2.2
  have a1 := pm.1 p (by omega)
  have a2 := pm.1 q (by omega)
  refine vc_T_changePlaces _ _ _ _ ?_
  rw [Int.toNat_natCast, Int.toNat_natCast]
  refine ⟨by omega, by omega, by omega, by omega, fun M1 e1 => ⟨by omega, by omega, fun M2 e2 => ?_⟩⟩
  have hn : ∀ t i k, ¬ (t = 5 ∧ i = 1) → M2 t i k = M t i k := fun t i k z => by rw [e2, pt_ne (by omega), e1, pt_ne (by omega)]
  have h5 : ∀ a, a < 4 → (M2 5 1 a).toNat = (M 5 1 (if a = p then q else if a = q then p else a)).toNat := by
    intro a ha
    by_cases z1 : a = p
    · rw [if_pos z1, z1, e2, pt_ne (by omega), e1, pt_eq]; omega
    · rw [if_neg z1]
      by_cases z2 : a = q
      · rw [if_pos z2, z2, e2, pt_eq]; omega
      · rw [if_neg z2, e2, pt_ne (by omega), e1, pt_ne (by omega)]
  have pm2 : permOk M2 1 := by
    refine ⟨fun a ha => ?_, fun a b ha hb hab => ?_⟩
    · rw [h5 a ha]
      refine pm.1 _ ?_
      split
      · omega
      · split <;> omega
    · rw [h5 a ha, h5 b hb] at hab
      have hc := pm.2 _ _ (by split; omega; split <;> omega) (by split; omega; split <;> omega) hab
      by_cases y1 : a = p
      · rw [if_pos y1] at hc
        by_cases y3 : b = p
        · omega
        · rw [if_neg y3] at hc
          by_cases y4 : b = q
          · rw [if_pos y4] at hc; omega
          · rw [if_neg y4] at hc; omega
      · rw [if_neg y1] at hc
        by_cases y2 : a = q
        · rw [if_pos y2] at hc
          by_cases y3 : b = p
          · rw [if_pos y3] at hc; omega
          · rw [if_neg y3] at hc
            by_cases y4 : b = q
            · omega
            · rw [if_neg y4] at hc; omega
        · rw [if_neg y2] at hc
          by_cases y3 : b = p
          · rw [if_pos y3] at hc; omega
          · rw [if_neg y3] at hc
            by_cases y4 : b = q
            · rw [if_pos y4] at hc; omega
            · rw [if_neg y4] at hc; omega
  have hon : ∀ a, a < 4 → on M2 1 a = on M 1 (if a = p then q else if a = q then p else a) := fun a ha => by unfold on; rw [h5 a ha]
  have hVo : ∀ {u np : Nat} {X : Nat → Int}, u ≠ 1 → VC M u X np → VC M2 u X np := by
    intro u np X hu v
    have e : ∀ r, on M2 u r = on M u r := fun r => by unfold on; rw [hn 5 u r (by omega)]
    refine ⟨by rw [hn 3 _ _ (by omega), hn 3 _ _ (by omega), hn 3 _ _ (by omega), hn 3 _ _ (by omega), hn 3 _ _ (by omega)]; exact v.1, fun g hg => ?_, fun r hr => ?_, fun a ha => ?_, fun a b ha hb => ?_⟩
    · rw [hn 1 _ 0 (by omega), hn 1 _ 1 (by omega), hn 1 _ 2 (by omega), hn 1 _ 3 (by omega), hn 1 _ 4 (by omega), hn 1 _ 5 (by omega)]; exact v.2.1 g hg
    · rw [e, hn 2 _ 0 (by omega), hn 2 _ 1 (by omega)]; exact v.2.2.1 r hr
    · rw [hn 5 u a (by omega)]; exact v.2.2.2.1 a ha
    · rw [hn 5 u a (by omega), hn 5 u b (by omega)]; exact v.2.2.2.2 a b ha hb
  have r' : RepC Z M2 := by
    obtain ⟨r1, r2, r3, r4, r5, r6, r7⟩ := hR
    refine ⟨hVo (by omega) r1, fun u hu => ?_, fun k hk => ?_, ?_, ?_, ?_, fun k hk => ?_⟩
    · by_cases z : u = 1
      · rw [z]; exact pm2
      · refine ⟨fun a ha => ?_, fun a b ha hb => ?_⟩
        · rw [hn 5 u a (by omega)]; exact (r2 u hu).1 a ha
        · rw [hn 5 u a (by omega), hn 5 u b (by omega)]; exact (r2 u hu).2 a b ha hb
    · rw [hn 12 0 k (by omega)]; exact ⟨(r3 k hk).1, fun z => hVo (by omega) ((r3 k hk).2 z)⟩
    · rw [hn 9 0 1 (by omega)]; exact ⟨r4.1, fun j hj => by rw [hn 10 0 j (by omega)]; exact r4.2 j hj⟩
    · rw [hn 0 0 9 (by omega)]; exact ⟨r5.1, fun i k hi hk => by rw [hn 8 i k (by omega)]; exact r5.2 i k hi hk⟩
    · rw [hn 0 0 10 (by omega), hn 0 0 11 (by omega)]; exact r6
    · rw [hn 6 k 1 (by omega), hn 6 k 2 (by omega)]; exact ⟨(r7 k hk).1, (r7 k hk).2.1, fun j hj => by rw [hn 7 k j (by omega)]; exact (r7 k hk).2.2 j hj⟩
  refine hQ M2 r' ⟨?_, fun g hg => ?_, fun r hr => ?_, pm2⟩ ⟨?_, ?_⟩ (fun t i k z => hn t i k (by omega))
  · rw [swp_lo (by omega) (by omega) (by omega), swp_lo (by omega) (by omega) (by omega), swp_lo (by omega) (by omega) (by omega), swp_lo (by omega) (by omega) (by omega), hn 3 _ _ (by omega), hn 3 _ _ (by omega), hn 3 _ _ (by omega), hn 3 _ _ (by omega), hn 3 _ _ (by omega)]
    exact hV.1
  · have e : ngd (swp Z p q) = ngd (cpy (Z 0)) := by unfold ngd; rw [swp_lo (by omega) (by omega) (by omega)]
    rw [e] at hg
    have hg8 : g < 8 := by rw [ngd_cpy] at hg; omega
    unfold heft pays
    rw [swp_lo (by omega) (by omega) (by omega), swp_lo (by omega) (by omega) (by omega), swp_lo (by omega) (by omega) (by omega), swp_lo (by omega) (by omega) (by omega), hn 1 _ 0 (by omega), hn 1 _ 1 (by omega), hn 1 _ 2 (by omega), hn 1 _ 3 (by omega), hn 1 _ 4 (by omega), hn 1 _ 5 (by omega)]
    exact hV.2.1 g hg
  · rw [hon r (by omega), (swp_s (r := r) (by omega) (by omega) (by omega)).1, (swp_s (r := r) (by omega) (by omega) (by omega)).2, hn 2 _ 0 (by omega), hn 2 _ 1 (by omega)]
    have hx : (if r = p then q else if r = q then p else r) < npz Z := by
      split
      · exact hq
      · split
        · exact hp
        · exact hr
    have v := hV.2.2.1 _ hx
    rw [cpy_lo (by omega), cpy_lo (by omega)] at v
    exact v
  · rw [swp_lo (by omega) (by omega) (by omega), hn 3 _ _ (by omega)]; exact hT.1
  · rw [swp_lo (by omega) (by omega) (by omega), hn 3 _ _ (by omega)]; exact hT.2
def swpF (Z : ZZ) (n p q : Nat) : Int := wag (npz Z) (wks (npz Z) (swp Z p q) n)
def swpI (Z : ZZ) (n p : Nat) (r : Int × Int) (k : Nat) : Int × Int := mx (fun q => p < q) (swpF Z n p) (fun q => 10 * (p : Int) + q) r.1 r.2 k
def swpR (Z : ZZ) (n : Nat) : Nat → Int × Int
  | 0 => (-4, wag (npz Z) (wkZ Z n))
  | p + 1 => swpI Z n p (swpR Z n p) (npz Z)
def sp_swap (Z : ZZ) (n w : Int) : Int := if (0 ≤ n ∧ n ≤ 60) ∧ (0 ≤ w ∧ w ≤ 1) then bom Z (swpR Z n.toNat (npz Z)) w else -1
theorem swpF_b {n p q : Nat} (hZ : ZB Z) (hp : p < npz Z) (hq : q < npz Z) : 0 ≤ swpF Z n p q ∧ swpF Z n p q ≤ 3996 := wag_b (wks_PB (swp_PB hZ hp hq) n)
theorem swpI_b {n p k : Nat} {r : Int × Int} (hr : 0 ≤ r.2 ∧ r.2 ≤ 3996) (hZ : ZB Z) (hp : p < npz Z) (hk : k ≤ npz Z) : 0 ≤ (swpI Z n p r k).2 ∧ (swpI Z n p r k).2 ≤ 3996 := mx_b k hr (fun j hj _ => swpF_b hZ hp (by omega))
theorem swpR_b (n : Nat) (hZ : ZB Z) : ∀ k : Nat, k ≤ npz Z → 0 ≤ (swpR Z n k).2 ∧ (swpR Z n k).2 ≤ 3996
  | 0, _ => wag_b (wkZ_PB hZ n)
  | k + 1, h => swpI_b (swpR_b n hZ k (by omega)) hZ (by omega) (Nat.le_refl _)
theorem swpI_0 {n p : Nat} {r : Int × Int} : swpI Z n p r (p + 1) = r := mx_skip (p + 1) (fun k hk => by omega)
theorem H_swap {n w : Int} (hZ : ZB Z) (hR : RepC Z M) (hQ : ∀ M' : JM, RepC Z M' → keepR M M' → Q (sp_swap Z n w) M') : JC E mm_H_swap [vR 0 0, vI n, vI w] M Q := by
  unfold sp_swap at hQ
  refine vc_H_swap _ _ _ (H_within (fun h => c10 (H_within (fun h2 => d10 ?_) (fun h2 => d00 ?_))) (fun h => c00 ?_))
  · rw [if_pos ⟨h, h2⟩] at hQ
    obtain ⟨m, rfl⟩ : ∃ m : Nat, n = m := ⟨n.toNat, by omega⟩
    rw [Int.toNat_natCast] at hQ
    have h4 := hZ.1.2.1
    refine H_wagesAsItIs (by omega) hZ hR (fun M0 r0 k0 => ?_)
    refine up_ind (P := fun i => ∀ M' : JM, RepC Z M' → keepR M M' → JG E mm_H_swap Q 34 [(0, vR 0 0), (1, vI (m : Int)), (2, vI w), (3, vI (swpR Z m i).1), (4, vI (swpR Z m i).2), (5, vI (i : Int))] [] M') (npz Z) ?_ ?_ M0 r0 k0
    · intro M' r k
      have hb1 := swpR_b m hZ (npz Z) (Nat.le_refl _)
      exact vc_H_swap_34 _ _ _ _ _ _ ⟨fun _ => H_bestOrMore (by omega) hZ r (hQ M' r k), fun z => by rw [r.1.1.2.1] at z; omega⟩
    · intro p hp ih M' r k
      refine vc_H_swap_34 _ _ _ _ _ _ ⟨fun z => by rw [r.1.1.2.1] at z; omega, fun _ a ea => ?_⟩
      rw [ea, w32_s (by omega)]
      have key := up_ind (P := fun i => ∀ M' : JM, RepC Z M' → keepR M M' → JG E mm_H_swap Q 52 [(0, vR 0 0), (1, vI (m : Int)), (2, vI w), (3, vI (swpI Z m p (swpR Z m p) (p + 1 + i)).1), (4, vI (swpI Z m p (swpR Z m p) (p + 1 + i)).2), (5, vI (p : Int)), (6, vI ((p + 1 + i : Nat) : Int))] [] M') (npz Z - (p + 1)) ?_ ?_ M' r k
      · rw [Nat.add_zero, swpI_0] at key
        exact key
      · intro M3 r3 k3
        refine vc_H_swap_52 _ _ _ _ _ _ _ ⟨fun _ a ea => ?_, fun z => by rw [r3.1.1.2.1] at z; omega⟩
        rw [show p + 1 + (npz Z - (p + 1)) = npz Z by omega, ea, w32_s (by omega)]
        exact ih M3 r3 k3
      · intro i hi ih2 M3 r3 k3
        generalize hq : p + 1 + i = q at ih2
        have ih2' : ∀ M' : JM, RepC Z M' → keepR M M' → JG E mm_H_swap Q 52 [(0, vR 0 0), (1, vI (m : Int)), (2, vI w), (3, vI (swpI Z m p (swpR Z m p) (q + 1)).1), (4, vI (swpI Z m p (swpR Z m p) (q + 1)).2), (5, vI (p : Int)), (6, vI ((q + 1 : Nat) : Int))] [] M' := by
          have e : p + 1 + (i + 1) = q + 1 := by omega
          intro M' r k
          have := ih2 M' r k
          rw [e] at this
          exact this
        have hqn : q < npz Z := by omega
        have hB3 := swp_PB hZ hp hqn
        refine vc_H_swap_52 _ _ _ _ _ _ _ ⟨fun z => by rw [r3.1.1.2.1] at z; omega, fun _ => C_copy hZ r3 (fun M4 r4 v4 t4 k4 => C_places (by omega) hZ r4 hp hqn v4 t4 (fun M5 r5 v5 t5 k5 => C_weeks (by omega) hZ r5 hB3 v5 t5 (fun M6 r6 v6 t6 k6 => T_wagesOfAll v6 (wks_PB hB3 m) ?_)))⟩
        have kk := keepR_tr k3 (keepR_tr k4 (keepR_tr k5 k6))
        have q6 := ih2' M6 r6 kk
        refine ⟨fun z2 a ea => ?_, fun z2 a ea => T_wagesOfAll v6 (wks_PB hB3 m) (fun a2 ea2 => ?_)⟩
        · have e : swpI Z m p (swpR Z m p) (q + 1) = swpI Z m p (swpR Z m p) q := mx_n (fun y => Int.not_lt.mpr z2 y.2)
          rw [e] at q6
          rw [ea, w32_s (by omega)]
          exact q6
        · have e : swpI Z m p (swpR Z m p) (q + 1) = (10 * (p : Int) + q, swpF Z m p q) := mx_y (by omega) z2
          rw [e] at q6
          rw [ea2, w32_s (by omega), ea, w32_id (x := 10 * (p : Int)) (by omega) (by omega), w32_id (by omega) (by omega)]
          exact q6
  · rw [if_neg (fun z => h2 z.2)] at hQ; exact hQ M hR (keepR_rf M)
  · rw [if_neg (fun z => h z.1)] at hQ; exact hQ M hR (keepR_rf M)
theorem M_swap {n w : Int} (hZ : ZB Z) (hR : RepR Z M) (hQ : ∀ M' : JM, RepR Z M' → keepC M M' → Q (sp_swap Z n w) M') : JC E mm_M_swap [vR 20 0, vI n, vI w] M Q := by
  unfold sp_swap at hQ
  refine vc_M_swap _ _ _ (M_in (fun h => c10 (M_in (fun h2 => d10 ?_) (fun h2 => d00 ?_))) (fun h => c00 ?_))
  · rw [if_pos ⟨h, h2⟩] at hQ
    obtain ⟨m, rfl⟩ : ∃ m : Nat, n = m := ⟨n.toNat, by omega⟩
    rw [Int.toNat_natCast] at hQ
    have h4 := hZ.1.2.1
    refine R_weeks (b := 0) (by omega) (by omega) hZ hR hZ.1 hR.1 (fun M0 r0 v0 t0 f0 => ?_)
    refine up_ind (P := fun i => ∀ M' : JM, RepR Z M' → fro M M' → JG E mm_M_swap Q 38 [(0, vR 20 0), (1, vI (m : Int)), (2, vI w), (3, vI ((swpR Z m i).2 - wag (npz Z) (Z 0))), (4, vI (swpR Z m i).1), (5, vI (i : Int))] [] M') (npz Z) ?_ ?_ M0 r0 (frb_fro (by omega) f0)
    · intro M' r f
      exact vc_M_swap_38 _ _ _ _ _ _ ⟨fun _ => bom_M rfl (hQ M' r (fro_keepC f)), fun z => by rw [r.1.2] at z; omega⟩
    · intro p hp ih M' r f
      refine vc_M_swap_38 _ _ _ _ _ _ ⟨fun z => by rw [r.1.2] at z; omega, fun _ a ea => ?_⟩
      rw [ea, w32_s (by omega)]
      have key := up_ind (P := fun i => ∀ M' : JM, RepR Z M' → fro M M' → JG E mm_M_swap Q 53 [(0, vR 20 0), (1, vI (m : Int)), (2, vI w), (3, vI ((swpI Z m p (swpR Z m p) (p + 1 + i)).2 - wag (npz Z) (Z 0))), (4, vI (swpI Z m p (swpR Z m p) (p + 1 + i)).1), (5, vI (p : Int)), (6, vI ((p + 1 + i : Nat) : Int))] [] M') (npz Z - (p + 1)) ?_ ?_ M' r f
      · rw [Nat.add_zero, swpI_0] at key
        exact key
      · intro M3 r3 f3
        refine vc_M_swap_53 _ _ _ _ _ _ _ ⟨fun _ a ea => ?_, fun z => by rw [r3.1.2] at z; omega⟩
        rw [show p + 1 + (npz Z - (p + 1)) = npz Z by omega, ea, w32_s (by omega)]
        exact ih M3 r3 f3
      · intro i hi ih2 M3 r3 f3
        generalize hq : p + 1 + i = q at ih2
        have ih2' : ∀ M' : JM, RepR Z M' → fro M M' → JG E mm_M_swap Q 53 [(0, vR 20 0), (1, vI (m : Int)), (2, vI w), (3, vI ((swpI Z m p (swpR Z m p) (q + 1)).2 - wag (npz Z) (Z 0))), (4, vI (swpI Z m p (swpR Z m p) (q + 1)).1), (5, vI (p : Int)), (6, vI ((q + 1 : Nat) : Int))] [] M' := by
          have e : p + 1 + (i + 1) = q + 1 := by omega
          intro M' r f
          have := ih2 M' r f
          rw [e] at this
          exact this
        have hqn : q < npz Z := by omega
        have hB3 := swp_PB hZ hp hqn
        refine vc_M_swap_53 _ _ _ _ _ _ _ ⟨fun z => by rw [r3.1.2] at z; omega, fun _ => R_copy (c := 220) (by omega) r3 (fun M4 r4 v4 f4 => ?_)⟩
        have now : ∀ {M' : JM}, RepR Z M' → ∀ j, j < 44 → M' 21 0 j = Z 0 j := fun r j hj => by have := r.1.1 j hj; rw [Nat.zero_add] at this; exact this
        refine vc_M_swap_73 _ _ _ _ _ _ _ _ ⟨fun z => by omega, fun _ => ?_⟩
        rw [w32_id (x := 33 + (0 : Int)) (by omega) (by omega), w32_id (x := 253 + (0 : Int)) (by omega) (by omega), w32_id (x := 33 + 0 + (q : Int)) (by omega) (by omega), w32_id (x := 33 + 0 + (p : Int)) (by omega) (by omega), w32_id (x := 253 + 0 + (q : Int)) (by omega) (by omega), w32_id (x := 253 + 0 + (p : Int)) (by omega) (by omega)]
        rw [show (33 + 0 + (q : Int)).toNat = 33 + q by omega, show (33 + 0 + (p : Int)).toNat = 33 + p by omega, show (253 + 0 + (q : Int)).toNat = 220 + (33 + q) by omega, show (253 + 0 + (p : Int)).toNat = 220 + (33 + p) by omega]
        refine ⟨by omega, by omega, fun M5 e5 => ⟨by omega, by omega, fun M6 e6 a6 ea6 => ?_⟩⟩
        rw [now r4 (33 + q) (by omega)] at e5
        have g5 : fro M4 M5 := by rw [e5]; exact fro_pt (by omega)
        rw [now (fro_R g5 r4) (33 + p) (by omega)] at e6
        have g6 : fro M4 M6 := fro_tr g5 (by rw [e6]; exact fro_pt (by omega))
        have r6 := fro_R g6 r4
        rw [ea6, w32_id (by omega) (by omega)]
        refine vc_M_swap_73 _ _ _ _ _ _ _ _ ⟨fun z => by omega, fun _ => ?_⟩
        rw [w32_id (x := 33 + (0 + 4 : Int)) (by omega) (by omega), w32_id (x := 253 + (0 + 4 : Int)) (by omega) (by omega), w32_id (x := 33 + (0 + 4) + (q : Int)) (by omega) (by omega), w32_id (x := 33 + (0 + 4) + (p : Int)) (by omega) (by omega), w32_id (x := 253 + (0 + 4) + (q : Int)) (by omega) (by omega), w32_id (x := 253 + (0 + 4) + (p : Int)) (by omega) (by omega)]
        rw [show (33 + (0 + 4) + (q : Int)).toNat = 37 + q by omega, show (33 + (0 + 4) + (p : Int)).toNat = 37 + p by omega, show (253 + (0 + 4) + (q : Int)).toNat = 220 + (37 + q) by omega, show (253 + (0 + 4) + (p : Int)).toNat = 220 + (37 + p) by omega]
        refine ⟨by omega, by omega, fun M7 e7 => ⟨by omega, by omega, fun M8 e8 a8 ea8 => ?_⟩⟩
        rw [now r6 (37 + q) (by omega)] at e7
        have g7 : fro M4 M7 := fro_tr g6 (by rw [e7]; exact fro_pt (by omega))
        rw [now (fro_R g7 r4) (37 + p) (by omega)] at e8
        have g8 : fro M4 M8 := fro_tr g7 (by rw [e8]; exact fro_pt (by omega))
        have r8 := fro_R g8 r4
        have v8 : VR M8 220 (swp Z p q) (npz Z) := by
          refine ⟨fun j hj => ?_, by rw [g8 20 0 1 (by omega)]; exact v4.2⟩
          unfold swp
          by_cases y1 : j = 33 + p
          · rw [if_pos y1, y1, e8, pt_ne (by omega), e7, pt_ne (by omega), e6, pt_ne (by omega), e5, pt_eq]
          · rw [if_neg y1]
            by_cases y2 : j = 33 + q
            · rw [if_pos y2, y2, e8, pt_ne (by omega), e7, pt_ne (by omega), e6, pt_eq]
            · rw [if_neg y2]
              by_cases y3 : j = 37 + p
              · rw [if_pos y3, y3, e8, pt_ne (by omega), e7, pt_eq]
              · rw [if_neg y3]
                by_cases y4 : j = 37 + q
                · rw [if_pos y4, y4, e8, pt_eq]
                · rw [if_neg y4, e8, pt_ne (by omega), e7, pt_ne (by omega), e6, pt_ne (by omega), e5, pt_ne (by omega)]
                  exact v4.1 j hj
        rw [ea8, w32_id (by omega) (by omega)]
        refine vc_M_swap_73 _ _ _ _ _ _ _ _ ⟨fun _ => R_weeks (b := 220) (by omega) (by omega) hZ r8 hB3 v8 (fun M9 r9 v9 t9 f9 => ?_), fun z => by omega⟩
        rw [cpy_swp (by omega) (by omega)]
        have ff := fro_tr f3 (fro_tr f4 (fro_tr g8 (frb_fro (by omega) f9)))
        have q9 := ih2' M9 r9 ff
        show ((swpF Z m p q - _ ≤ _ → _) ∧ (_ < swpF Z m p q - _ → _))
        refine ⟨fun z2 => vc_M_swap_169 _ _ _ _ _ _ _ _ ⟨fun _ a ea => ?_, fun z3 => absurd z2 (Int.not_le.mpr z3)⟩, fun z2 => vc_M_swap_169 _ _ _ _ _ _ _ _ ⟨fun z3 => absurd z2 (Int.not_lt.mpr z3), fun _ a ea => ?_⟩⟩
        · have e : swpI Z m p (swpR Z m p) (q + 1) = swpI Z m p (swpR Z m p) q := mx_n (fun y => Int.not_lt.mpr (show swpF Z m p q ≤ (swpI Z m p (swpR Z m p) q).2 by omega) y.2)
          rw [e] at q9
          rw [ea, w32_s (by omega)]
          exact q9
        · have e : swpI Z m p (swpR Z m p) (q + 1) = (10 * (p : Int) + q, swpF Z m p q) := mx_y (by omega) (show (swpI Z m p (swpR Z m p) q).2 < swpF Z m p q by omega)
          rw [e] at q9
          rw [ea, w32_s (by omega), w32_id (x := 10 * (p : Int)) (by omega) (by omega), w32_id (by omega) (by omega)]
          exact q9
  · rw [if_neg (fun z => h2 z.2)] at hQ; exact hQ M hR (keepC_rf M)
  · rw [if_neg (fun z => h z.1)] at hQ; exact hQ M hR (keepC_rf M)
end

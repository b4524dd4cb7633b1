/-! weeks, runs, ahead, gone, rich -/
section
variable {E : EE} {Q : Int → JM → Prop} {M : JM} {Z : ZZ} {X : Nat → Int}
/-- the counts as they stand, in a town -/
def wcu (M : JM) (u : Nat) (X : Nat → Int) : Nat → Int := fun j => if j = 57 then M 3 u 9 else if j = 58 then M 3 u 8 else X j
theorem wcu_lo {u j : Nat} (h : j < 57) : wcu M u X j = X j := by unfold wcu; rw [if_neg (by omega), if_neg (by omega)]
theorem wcu_T {u : Nat} : VT M u (wcu M u X) := ⟨rfl, rfl⟩
theorem wcu_PB {u np : Nat} (hB : PB X np) : PB (wcu M u X) np := PB_c hB (fun _ hj => wcu_lo (by omega))
def sp_weeks (Z : ZZ) (n : Int) : Int × ZZ := if 0 ≤ n ∧ n ≤ 30 then (if 999 < w32 (Z 0 43 + n) then (-3, Z) else (wag (npz Z) (wks (npz Z) (Z 0) n.toNat) - wag (npz Z) (Z 0), zp Z 0 (wks (npz Z) (Z 0) n.toNat))) else (-1, Z)
theorem ZB_weeks {n : Int} (hZ : ZB Z) : ZB (sp_weeks Z n).2 := by
  unfold sp_weeks
  split
  · split
    · exact hZ
    · exact ZB_now hZ (wks_PB hZ.1 _)
  · exact hZ
theorem H_weeks {n : Int} (hZ : ZB Z) (hR : RepC Z M) (hQ : ∀ M' : JM, RepC (sp_weeks Z n).2 M' → keepR M M' → Q (sp_weeks Z n).1 M') : JC E mm_H_weeks [vR 0 0, vI n] M Q := by
  unfold sp_weeks at hQ
  have h8 := ngd_le hZ.1
  refine vc_H_weeks _ _ (H_within (fun h => d10 ?_) (fun h => d00 ?_))
  · rw [if_pos h] at hQ
    rw [hR.1.1.2.2.2.2]
    refine ⟨fun q => T_wagesOfAll hR.1 hZ.1 ?_, fun q => ?_⟩
    · rw [if_neg (by omega)] at hQ
      dsimp only at hQ
      rw [show n = ((n.toNat : Nat) : Int) by omega]
      refine T_passWeeks (X := wcu M 0 (Z 0)) (np := npz Z) (by omega) (wcu_PB hZ.1) (VC_c hR.1 h8 hZ.1.2.1 (fun j hj => wcu_lo (by omega))) wcu_T (fun M' v _ f => ?_)
      have hBw := wks_PB (np := npz Z) hZ.1 n.toNat
      have v2 : VC M' 0 (wks (npz Z) (Z 0) n.toNat) (npz Z) := VC_c v (ngd_le (wks_PB (wcu_PB hZ.1) _)) hZ.1.2.1 (fun j hj => wks_lo (fun j hj => (wcu_lo (by omega)).symm) hZ.1 _ j hj)
      refine T_wagesOfAll v2 hBw ?_
      have b1 := wag_b hBw
      have b2 := wag_b hZ.1
      rw [w32_id (by omega) (by omega)]
      exact hQ M' (RepC_now hZ f hR v2) (fra_keepR f)
    · rw [if_pos q] at hQ
      exact hQ M hR (keepR_rf M)
  · rw [if_neg h] at hQ
    exact hQ M hR (keepR_rf M)
theorem M_weeks {n : Int} (hZ : ZB Z) (hR : RepR Z M) (hQ : ∀ M' : JM, RepR (sp_weeks Z n).2 M' → keepC M M' → Q (sp_weeks Z n).1 M') : JC E mm_M_weeks [vR 20 0, vI n] M Q := by
  unfold sp_weeks at hQ
  refine vc_M_weeks _ _ (M_in (fun h => d10 ?_) (fun h => d00 ?_))
  · rw [if_pos h] at hQ
    have e43 : M 21 0 43 = Z 0 43 := hR.1.1 43 (by omega)
    rw [e43]
    refine ⟨fun q => M_wagesOn (b := 0) (by omega) hZ.1 hR.1 ?_, fun q => ?_⟩
    · rw [if_neg (by omega)] at hQ
      dsimp only at hQ
      generalize hn : n.toNat = m at hQ
      rw [show n = (m : Int) by omega]
      refine up_ind (P := fun i => ∀ M' : JM, VR M' 0 (wks (npz Z) (Z 0) i) (npz Z) → frb 0 M M' → JG E mm_M_weeks Q 40 [(0, vR 20 0), (1, vI (m : Int)), (2, vI (wag (npz Z) (Z 0))), (3, vI (i : Int))] [] M') m ?_ ?_ M hR.1 (frb_rf 0 M)
      · intro M' v f
        have hBw := wks_PB (np := npz Z) hZ.1 m
        have b1 := wag_b hBw
        have b2 := wag_b hZ.1
        refine vc_M_weeks_40 _ _ _ _ ⟨fun _ => M_wagesOn (b := 0) (by omega) hBw v ?_, fun z => by omega⟩
        rw [w32_id (by omega) (by omega)]
        exact hQ M' (RepR_now (fun t i k q => f t i k (by omega)) hR v) (frb_keepC f)
      · intro i hi ih M' v f
        refine vc_M_weeks_40 _ _ _ _ ⟨fun z => by omega, fun _ => M_goesOn' (b := 0) (by omega) (wks_PB hZ.1 i) v (fun M2 v2 _ f2 a e => ?_)⟩
        rw [e, w32_s (by omega)]
        exact ih M2 v2 (frb_tr f f2)
    · rw [if_pos q] at hQ
      exact hQ M hR (keepC_rf M)
  · rw [if_neg h] at hQ
    exact hQ M hR (keepC_rf M)
def wkZ (Z : ZZ) (n : Nat) : Nat → Int := wks (npz Z) (cpy (Z 0)) n
theorem wkZ_PB (hZ : ZB Z) (n : Nat) : PB (wkZ Z n) (npz Z) := wks_PB (cpy_PB hZ.1) n
def sp_runs (Z : ZZ) (n w : Int) : Int := if (0 ≤ n ∧ n ≤ 60) ∧ (0 ≤ w ∧ w ≤ 4) then (if w = 0 then wag (npz Z) (wkZ Z n.toNat) - wag (npz Z) (Z 0) else if w = 1 then stb (wkZ Z n.toNat) (ngd (wkZ Z n.toNat)) else if w = 2 then wkZ Z n.toNat 58 else if w = 3 then wkZ Z n.toNat 57 else if npz Z = 0 then 0 else lst (wkZ Z n.toNat) (npz Z)) else -1
theorem H_runs {n w : Int} (hZ : ZB Z) (hR : RepC Z M) (hQ : ∀ M' : JM, RepC Z M' → keepR M M' → Q (sp_runs Z n w) M') : JC E mm_H_runs [vR 0 0, vI n, vI w] M Q := by
  unfold sp_runs at hQ
  refine vc_H_runs _ _ _ (H_within (fun h1 => c10 (H_within (fun h2 => d10 ?_) (fun h2 => d00 ?_))) (fun h1 => c00 ?_))
  · rw [if_pos ⟨h1, h2⟩] at hQ
    rw [show vI n = vI ((n.toNat : Nat) : Int) by rw [show ((n.toNat : Nat) : Int) = n by omega]]
    refine C_copy hZ hR (fun M1 r1 v1 t1 k1 => C_weeks (by omega) hZ r1 (cpy_PB hZ.1) v1 t1 (fun M2 r2 v2 t2 k2 => ?_))
    have q := hQ M2 r2 (keepR_tr k1 k2)
    have hBw := wkZ_PB hZ n.toNat
    have b1 := wag_b hBw
    have b2 := wag_b hZ.1
    refine ⟨fun h => ?_, fun h => ?_, fun h => ?_, fun h => ?_, fun h => ?_⟩
    · rw [if_neg (by omega), if_neg (by omega), if_neg (by omega), if_neg (by omega)] at q
      exact T_leastWages v2 hBw q
    · rw [if_pos h] at q
      refine T_wagesOfAll v2 hBw (T_wagesOfAll r2.1 hZ.1 ?_)
      rw [w32_id (by unfold wkZ at b1; omega) (by unfold wkZ at b1; omega)]
      exact q
    · rw [if_neg (by omega), if_pos h] at q
      exact T_storeBits v2 hBw q
    · rw [if_neg (by omega), if_neg (by omega), if_pos h] at q
      rw [t2.1]; exact q
    · rw [if_neg (by omega), if_neg (by omega), if_neg (by omega), if_pos h] at q
      rw [t2.2]; exact q
  · rw [if_neg (fun z => h2 z.2)] at hQ; exact hQ M hR (keepR_rf M)
  · rw [if_neg (fun z => h1 z.1)] at hQ; exact hQ M hR (keepR_rf M)
theorem M_runs {n w : Int} (hZ : ZB Z) (hR : RepR Z M) (hQ : ∀ M' : JM, RepR Z M' → keepC M M' → Q (sp_runs Z n w) M') : JC E mm_M_runs [vR 20 0, vI n, vI w] M Q := by
  unfold sp_runs at hQ
  refine vc_M_runs _ _ _ (M_in (fun h1 => c10 (M_in (fun h2 => d10 ?_) (fun h2 => d00 ?_))) (fun h1 => c00 ?_))
  · rw [if_pos ⟨h1, h2⟩] at hQ
    rw [show vI n = vI ((n.toNat : Nat) : Int) by rw [show ((n.toNat : Nat) : Int) = n by omega]]
    refine R_weeks (b := 0) (by omega) (by omega) hZ hR hZ.1 hR.1 (fun M2 r2 v2 t2 f2 => ?_)
    have q := hQ M2 r2 (frb_keepC f2)
    have hBw := wkZ_PB hZ n.toNat
    refine ⟨fun h => ⟨fun h3 => ⟨fun h4 => ⟨fun h5 => ?_, fun h5 => ?_⟩, fun h4 => ?_⟩, fun h3 => ?_⟩, fun h => ?_⟩
    · rw [if_neg (by omega), if_neg (by omega), if_neg (by omega), if_neg (by omega)] at q
      exact M_leastOn (b := 176) (by omega) hBw v2 q
    · rw [if_neg (by omega), if_neg (by omega), if_neg (by omega), if_pos h5] at q
      rw [t2.2]; exact q
    · rw [if_neg (by omega), if_neg (by omega), if_pos h4] at q
      rw [t2.1]; exact q
    · rw [if_neg (by omega), if_pos h3] at q
      exact M_storeOn (b := 176) (by omega) hBw v2 q
    · rw [if_pos h] at q
      exact q
  · rw [if_neg (fun z => h2 z.2)] at hQ; exact hQ M hR (keepC_rf M)
  · rw [if_neg (fun z => h1 z.1)] at hQ; exact hQ M hR (keepC_rf M)
def sp_ahead (Z : ZZ) (p n w : Int) : Int := if (0 ≤ p ∧ p < Z 3 0) ∧ (0 ≤ n ∧ n ≤ 60) ∧ (0 ≤ w ∧ w ≤ 1) then (if w = 0 then wkZ Z n.toNat (37 + p.toNat) else wkZ Z n.toNat (33 + p.toNat)) else -1
theorem H_ahead {p n w : Int} (hZ : ZB Z) (hR : RepC Z M) (hQ : ∀ M' : JM, RepC Z M' → keepR M M' → Q (sp_ahead Z p n w) M') : JC E mm_H_ahead [vR 0 0, vI p, vI n, vI w] M Q := by
  unfold sp_ahead at hQ
  refine vc_H_ahead _ _ _ _ (H_isOne hZ hR (fun h0 => c10 (H_within (fun h1 => c10 (H_within (fun h2 => d10 ?_) (fun h2 => d00 ?_))) (fun h1 => c00 ?_))) (fun h0 => c00 ?_))
  · rw [if_pos ⟨h0, h1, h2⟩] at hQ
    rw [show vI n = vI ((n.toNat : Nat) : Int) by rw [show ((n.toNat : Nat) : Int) = n by omega]]
    refine C_copy hZ hR (fun M1 r1 v1 t1 k1 => C_weeks (by omega) hZ r1 (cpy_PB hZ.1) v1 t1 (fun M2 r2 v2 t2 k2 => ?_))
    have q := hQ M2 r2 (keepR_tr k1 k2)
    obtain ⟨o1, o2⟩ := oN hZ h0
    have h4 := np4 hZ
    obtain ⟨w1, w2⟩ := v2.2.2.1 p.toNat o1
    refine ⟨fun h => ⟨by omega, ?_⟩, fun h => ⟨by omega, ?_⟩⟩
    · rw [if_neg h] at q
      rw [show M2 2 (4 * 1 + (M2 5 1 p.toNat).toNat) 0 = wkZ Z n.toNat (33 + p.toNat) from w1]; exact q
    · rw [if_pos h] at q
      rw [show M2 2 (4 * 1 + (M2 5 1 p.toNat).toNat) 1 = wkZ Z n.toNat (37 + p.toNat) from w2]; exact q
  · rw [if_neg (fun z => h2 z.2.2)] at hQ; exact hQ M hR (keepR_rf M)
  · rw [if_neg (fun z => h1 z.2.1)] at hQ; exact hQ M hR (keepR_rf M)
  · rw [if_neg (fun z => h0 z.1)] at hQ; exact hQ M hR (keepR_rf M)
theorem M_ahead {p n w : Int} (hZ : ZB Z) (hR : RepR Z M) (hQ : ∀ M' : JM, RepR Z M' → keepC M M' → Q (sp_ahead Z p n w) M') : JC E mm_M_ahead [vR 20 0, vI p, vI n, vI w] M Q := by
  unfold sp_ahead at hQ
  refine vc_M_ahead _ _ _ _ (M_isOne hZ hR (fun h0 => c10 (M_in (fun h1 => c10 (M_in (fun h2 => d10 ?_) (fun h2 => d00 ?_))) (fun h1 => c00 ?_))) (fun h0 => c00 ?_))
  · rw [if_pos ⟨h0, h1, h2⟩] at hQ
    rw [show vI n = vI ((n.toNat : Nat) : Int) by rw [show ((n.toNat : Nat) : Int) = n by omega]]
    refine R_weeks (b := 0) (by omega) (by omega) hZ hR hZ.1 hR.1 (fun M2 r2 v2 t2 f2 => ?_)
    have q := hQ M2 r2 (frb_keepC f2)
    obtain ⟨o1, o2⟩ := oN hZ h0
    have h4 := np4 hZ
    rw [w32_id (x := 209 + p) (by omega) (by omega), w32_id (x := 213 + p) (by omega) (by omega), show (209 + p).toNat = 176 + (33 + p.toNat) by omega, show (213 + p).toNat = 176 + (37 + p.toNat) by omega]
    refine ⟨fun h => ⟨by omega, ?_⟩, fun h => ⟨by omega, ?_⟩⟩
    · rw [if_neg h] at q
      rw [v2.1 (33 + p.toNat) (by omega)]; exact q
    · rw [if_pos h] at q
      rw [v2.1 (37 + p.toNat) (by omega)]; exact q
  · rw [if_neg (fun z => h2 z.2.2)] at hQ; exact hQ M hR (keepC_rf M)
  · rw [if_neg (fun z => h1 z.2.1)] at hQ; exact hQ M hR (keepC_rf M)
  · rw [if_neg (fun z => h0 z.1)] at hQ; exact hQ M hR (keepC_rf M)
def sp_gone (Z : ZZ) (g : Int) : Int := if 0 ≤ g ∧ g < Z 0 32 then fnd (fun k => hb (wkZ Z (k + 1) 56) g) 0 61 else -1
theorem H_gone {g : Int} (hZ : ZB Z) (hR : RepC Z M) (hQ : ∀ M' : JM, RepC Z M' → keepR M M' → Q (sp_gone Z g) M') : JC E mm_H_gone [vR 0 0, vI g] M Q := by
  unfold sp_gone at hQ
  refine vc_H_gone _ _ (H_isGood hZ hR (fun h => d10 (C_copy hZ hR (fun M1 r1 v1 t1 k1 => ?_))) (fun h => d00 ?_))
  · rw [if_pos h] at hQ
    refine up_ind (P := fun i => fnd (fun k => hb (wkZ Z (k + 1) 56) g) 0 61 = fnd (fun k => hb (wkZ Z (k + 1) 56) g) i (61 - i) → ∀ M' : JM, RepC Z M' → VC M' 1 (wkZ Z i) (npz Z) → VT M' 1 (wkZ Z i) → keepR M M' → JG E mm_H_gone Q 23 [(0, vR 0 0), (1, vI g), (2, vI (i : Int))] [] M') 61 ?_ ?_ rfl M1 r1 v1 t1 k1
    · intro e M' r v t k
      refine vc_H_gone_23 _ _ _ ⟨fun _ => ?_, fun z => by omega⟩
      rw [e, fnd_e] at hQ
      exact hQ M' r k
    · intro i hi ih e M' r v t k
      rw [fnd_s (by omega)] at e
      refine vc_H_gone_23 _ _ _ ⟨fun z => by omega, fun _ => C_week hZ r (wkZ_PB hZ i) v t (fun M2 r2 v2 t2 g2 k2 => ?_)⟩
      rw [show M2 3 1 7 = wkZ Z (i + 1) 56 from g2]
      refine H_hasBit (fun hbb => c10 ?_) (fun hbb => c00 (fun a ea => ?_))
      · rw [e, if_pos hbb] at hQ
        exact hQ M2 r2 (keepR_tr k k2)
      · rw [if_neg hbb] at e
        rw [ea, w32_s (by omega)]
        exact ih e M2 r2 v2 t2 (keepR_tr k k2)
  · rw [if_neg h] at hQ; exact hQ M hR (keepR_rf M)
theorem M_gone {g : Int} (hZ : ZB Z) (hR : RepR Z M) (hQ : ∀ M' : JM, RepR Z M' → keepC M M' → Q (sp_gone Z g) M') : JC E mm_M_gone [vR 20 0, vI g] M Q := by
  unfold sp_gone at hQ
  refine vc_M_gone _ _ (M_isGoods hZ hR (fun h => d10 (R_copy (c := 176) (by omega) hR (fun M1 r1 v1 f1 => ?_))) (fun h => d00 ?_))
  · rw [if_pos h] at hQ
    refine up_ind (P := fun i => fnd (fun k => hb (wkZ Z (k + 1) 56) g) 0 61 = fnd (fun k => hb (wkZ Z (k + 1) 56) g) i (61 - i) → ∀ M' : JM, RepR Z M' → VR M' 176 (wkZ Z i) (npz Z) → fro M M' → JG E mm_M_gone Q 20 [(0, vR 20 0), (1, vI g), (2, vI (i : Int))] [] M') 61 ?_ ?_ rfl M1 r1 v1 f1
    · intro e M' r v f
      refine vc_M_gone_20 _ _ _ ⟨fun _ => ?_, fun z => by omega⟩
      rw [e, fnd_e] at hQ
      exact hQ M' r (fro_keepC f)
    · intro i hi ih e M' r v f
      rw [fnd_s (by omega)] at e
      refine vc_M_gone_20 _ _ _ ⟨fun z => by omega, fun _ => R_goes r (wkZ_PB hZ i) v (fun M2 r2 v2 g2 f2 => ?_)⟩
      rw [show M2 20 0 18 = wkZ Z (i + 1) 56 from g2]
      refine ⟨fun hbb a ea => ?_, fun hbb => ?_⟩
      · rw [if_neg hbb] at e
        rw [ea, w32_s (by omega)]
        exact ih e M2 r2 v2 (fro_tr f f2)
      · rw [e, if_pos hbb] at hQ
        exact hQ M2 r2 (fro_keepC (fro_tr f f2))
  · rw [if_neg h] at hQ; exact hQ M hR (keepC_rf M)
def sp_rich (Z : ZZ) (p v : Int) : Int := if (0 ≤ p ∧ p < Z 3 0) ∧ (0 ≤ v ∧ v ≤ 999) then fnd (fun k => v ≤ wkZ Z k (37 + p.toNat)) 0 61 else -1
theorem H_rich {p v : Int} (hZ : ZB Z) (hR : RepC Z M) (hQ : ∀ M' : JM, RepC Z M' → keepR M M' → Q (sp_rich Z p v) M') : JC E mm_H_rich [vR 0 0, vI p, vI v] M Q := by
  unfold sp_rich at hQ
  refine vc_H_rich _ _ _ (H_isOne hZ hR (fun h => c10 (H_within (fun h2 => d10 (C_copy hZ hR (fun M1 r1 v1 t1 k1 => ?_))) (fun h2 => d00 ?_))) (fun h => c00 ?_))
  · rw [if_pos ⟨h, h2⟩] at hQ
    obtain ⟨o1, o2⟩ := oN hZ h
    have h4 := np4 hZ
    refine up_ind (P := fun i => fnd (fun k => v ≤ wkZ Z k (37 + p.toNat)) 0 61 = fnd (fun k => v ≤ wkZ Z k (37 + p.toNat)) i (61 - i) → ∀ M' : JM, RepC Z M' → VC M' 1 (wkZ Z i) (npz Z) → VT M' 1 (wkZ Z i) → keepR M M' → JG E mm_H_rich Q 34 [(0, vR 0 0), (1, vI p), (2, vI v), (3, vI (i : Int))] [] M') 61 ?_ ?_ rfl M1 r1 v1 t1 k1
    · intro e M' r v' t k
      refine vc_H_rich_34 _ _ _ _ ⟨fun _ => ?_, fun z => by omega⟩
      rw [e, fnd_e] at hQ
      exact hQ M' r k
    · intro i hi ih e M' r v' t k
      rw [fnd_s (by omega)] at e
      have w2 : M' 2 (4 * 1 + (M' 5 1 p.toNat).toNat) 1 = wkZ Z i (37 + p.toNat) := (v'.2.2.1 p.toNat o1).2
      refine vc_H_rich_34 _ _ _ _ ⟨fun z => by omega, fun _ => ⟨by omega, ?_⟩⟩
      rw [w2]
      refine ⟨fun z => C_week hZ r (wkZ_PB hZ i) v' t (fun M2 r2 v2 t2 g2 k2 a ea => ?_), fun z => ?_⟩
      · rw [if_neg (by omega)] at e
        rw [ea, w32_s (by omega)]
        exact ih e M2 r2 v2 t2 (keepR_tr k k2)
      · rw [e, if_pos z] at hQ
        exact hQ M' r k
  · rw [if_neg (fun z => h2 z.2)] at hQ; exact hQ M hR (keepR_rf M)
  · rw [if_neg (fun z => h z.1)] at hQ; exact hQ M hR (keepR_rf M)
theorem M_rich {p v : Int} (hZ : ZB Z) (hR : RepR Z M) (hQ : ∀ M' : JM, RepR Z M' → keepC M M' → Q (sp_rich Z p v) M') : JC E mm_M_rich [vR 20 0, vI p, vI v] M Q := by
  unfold sp_rich at hQ
  refine vc_M_rich _ _ _ (M_isOne hZ hR (fun h => c10 (M_in (fun h2 => d10 (R_copy (c := 176) (by omega) hR (fun M1 r1 v1 f1 => ?_))) (fun h2 => d00 ?_))) (fun h => c00 ?_))
  · rw [if_pos ⟨h, h2⟩] at hQ
    obtain ⟨o1, o2⟩ := oN hZ h
    have h4 := np4 hZ
    refine up_ind (P := fun i => fnd (fun k => v ≤ wkZ Z k (37 + p.toNat)) 0 61 = fnd (fun k => v ≤ wkZ Z k (37 + p.toNat)) i (61 - i) → ∀ M' : JM, RepR Z M' → VR M' 176 (wkZ Z i) (npz Z) → fro M M' → JG E mm_M_rich Q 32 [(0, vR 20 0), (1, vI p), (2, vI v), (3, vI (i : Int))] [] M') 61 ?_ ?_ rfl M1 r1 v1 f1
    · intro e M' r v' f
      refine vc_M_rich_32 _ _ _ _ ⟨fun _ => ?_, fun z => by omega⟩
      rw [e, fnd_e] at hQ
      exact hQ M' r (fro_keepC f)
    · intro i hi ih e M' r v' f
      rw [fnd_s (by omega)] at e
      refine vc_M_rich_32 _ _ _ _ ⟨fun z => by omega, fun _ => ?_⟩
      rw [w32_id (x := 213 + p) (by omega) (by omega), show (213 + p).toNat = 176 + (37 + p.toNat) by omega, v'.1 (37 + p.toNat) (by omega)]
      refine ⟨by omega, fun z => R_goes r (wkZ_PB hZ i) v' (fun M2 r2 v2 g2 f2 a ea => ?_), fun z => ?_⟩
      · rw [if_neg (by omega)] at e
        rw [ea, w32_s (by omega)]
        exact ih e M2 r2 v2 (fro_tr f f2)
      · rw [e, if_pos z] at hQ
        exact hQ M' r (fro_keepC f)
  · rw [if_neg (fun z => h2 z.2)] at hQ; exact hQ M hR (keepC_rf M)
  · rw [if_neg (fun z => h z.1)] at hQ; exact hQ M hR (keepC_rf M)
end

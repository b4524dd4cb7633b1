/-! towns and pages on which things are tried -/
theorem c10 {A B : Prop} (h : B) : ((1 : Int) = 0 → A) ∧ ((1 : Int) ≠ 0 → B) := ⟨fun z => absurd z (by decide), fun _ => h⟩
theorem c00 {A B : Prop} (h : A) : ((0 : Int) = 0 → A) ∧ ((0 : Int) ≠ 0 → B) := ⟨fun _ => h, fun z => absurd rfl z⟩
theorem d10 {A B : Prop} (h : A) : ((1 : Int) ≠ 0 → A) ∧ ((1 : Int) = 0 → B) := ⟨fun _ => h, fun z => absurd z (by decide)⟩
theorem d00 {A B : Prop} (h : B) : ((0 : Int) ≠ 0 → A) ∧ ((0 : Int) = 0 → B) := ⟨fun z => absurd rfl z, fun _ => h⟩
/-- the first k from i on at which f, or -4 -/
def fnd (f : Nat → Prop) [∀ k, Decidable (f k)] : Nat → Nat → Int
  | _, 0 => -4
  | k, n + 1 => if f k then (k : Int) else fnd f (k + 1) n
theorem fnd_s {f : Nat → Prop} [∀ k, Decidable (f k)] {i N : Nat} (h : i < N) : fnd f i (N - i) = if f i then (i : Int) else fnd f (i + 1) (N - (i + 1)) := by
  rw [show N - i = (N - (i + 1)) + 1 by omega]
  rfl
theorem fnd_e {f : Nat → Prop} [∀ k, Decidable (f k)] {N : Nat} : fnd f N (N - N) = -4 := by
  rw [Nat.sub_self]
  rfl
section
variable {E : EE} {Q : Int → JM → Prop} {M : JM} {Z : ZZ} {X : Nat → Int}
theorem C_copy (hZ : ZB Z) (hR : RepC Z M) (hQ : ∀ M' : JM, RepC Z M' → VC M' 1 (cpy (Z 0)) (npz Z) → VT M' 1 (cpy (Z 0)) → keepR M M' → Q 0 M') : JC E mm_T_copyFrom [vR 3 1, vR 3 0] M Q :=
  T_copyFrom (by decide) hZ.1 hR.1 (hR.2.1 1 (by omega)) (fun M' v t f => hQ M' (RepC_fra (Or.inl rfl) hZ f hR) v t (fra_keepR f))
theorem C_weeks {n : Nat} (hn : n < 1000) (hZ : ZB Z) (hR : RepC Z M) (hB : PB X (npz Z)) (hV : VC M 1 X (npz Z)) (hT : VT M 1 X) (hQ : ∀ M' : JM, RepC Z M' → VC M' 1 (wks (npz Z) X n) (npz Z) → VT M' 1 (wks (npz Z) X n) → keepR M M' → Q 0 M') : JC E mm_T_passWeeks [vR 3 1, vI (n : Int)] M Q :=
  T_passWeeks hn hB hV hT (fun M' v t f => hQ M' (RepC_fra (Or.inl rfl) hZ f hR) v t (fra_keepR f))
theorem C_week {ill : Int} (hZ : ZB Z) (hR : RepC Z M) (hB : PB X (npz Z)) (hV : VC M 1 X (npz Z)) (hT : VT M 1 X) (hQ : ∀ M' : JM, RepC Z M' → VC M' 1 (wk (npz Z) (hoot X) ill X) (npz Z) → VT M' 1 (wk (npz Z) (hoot X) ill X) → M' 3 1 7 = wk (npz Z) (hoot X) ill X 56 → keepR M M' → Q 0 M') : JC E mm_T_passWeek [vR 3 1, vI ill] M Q :=
  T_passWeek hB hV hT (fun M' v t g f => hQ M' (RepC_fra (Or.inl rfl) hZ f hR) v t g (fra_keepR f))
theorem C_carry {ill : Int} (hZ : ZB Z) (hR : RepC Z M) (hB : PB X (npz Z)) (hV : VC M 1 X (npz Z)) (hT : VT M 1 X) (hQ : ∀ M' : JM, RepC Z M' → VA M' 1 (rnds (npz Z) ill (clr X) (hoot X)) (npz Z) → keepR M M' → Q 0 M') : JC E mm_T_carryOut [vR 3 1, vI ill] M Q :=
  T_carryOut hB hV hT (fun M' _ a _ f => hQ M' (RepC_fra (Or.inl rfl) hZ f hR) a (fra_keepR f))
/-- the pages tried, in the reference -/
def fro (M M' : JM) : Prop := ∀ t i k, ¬ ((t = 21 ∧ i = 0 ∧ 176 ≤ k) ∨ t = 26 ∨ t = 27 ∨ (t = 20 ∧ (k = 18 ∨ k = 19 ∨ k = 20))) → M' t i k = M t i k
theorem fro_rf (M : JM) : fro M M := fun _ _ _ _ => rfl
theorem fro_tr {M M' M'' : JM} (h : fro M M') (h2 : fro M' M'') : fro M M'' := fun t i k q => (h2 t i k q).trans (h t i k q)
theorem fro_R {M' : JM} (h : fro M M') (hR : RepR Z M) : RepR Z M' := RepR_frb (fun t i k q => h t i k (by omega)) hR
theorem fro_keepC {M' : JM} (h : fro M M') : keepC M M' := fun t i k q => h t i k (by omega)
theorem frb_fro {b : Nat} {M' : JM} (hb : 176 ≤ b) (h : frb b M M') : fro M M' := fun t i k q => h t i k (by omega)
theorem R_copy {c : Nat} (hc : c = 176 ∨ c = 220) (hR : RepR Z M) (hQ : ∀ M' : JM, RepR Z M' → VR M' c (cpy (Z 0)) (npz Z) → fro M M' → Q 0 M') : JC E mm_M_copies [vR 20 0, vI 0, vI (c : Int)] M Q :=
  M_copies (b := 0) (c := c) (by omega) (by omega) (by omega) hR.1 (fun M' v n => by
    have f : fro M M' := fun t i k q => n t i k (by omega)
    exact hQ M' (fro_R f hR) (VR_c v (fun j hj => cpy_lo (by omega))) f)
theorem R_goes (hR : RepR Z M) (hB : PB X (npz Z)) (hV : VR M 176 X (npz Z)) (hQ : ∀ M' : JM, RepR Z M' → VR M' 176 (wk (npz Z) (hoot X) 0 X) (npz Z) → M' 20 0 18 = wk (npz Z) (hoot X) 0 X 56 → fro M M' → Q 0 M') : JC E mm_M_goesOn [vR 20 0, vI 176] M Q :=
  M_goesOn' (b := 176) (by omega) hB hV (fun M' v g f => hQ M' (fro_R (frb_fro (by omega) f) hR) v g (frb_fro (by omega) f))
theorem R_weeks {n b : Nat} (hn : n < 1000) (hbb : b = 0 ∨ b = 220) (hZ : ZB Z) (hR : RepR Z M) (hB : PB X (npz Z)) (hV : VR M b X (npz Z)) (hQ : ∀ M' : JM, RepR Z M' → VR M' 176 (wks (npz Z) (cpy X) n) (npz Z) → VRT M' (wks (npz Z) (cpy X) n) → frb 176 M M' → Q (wag (npz Z) (wks (npz Z) (cpy X) n) - wag (npz Z) (Z 0)) M') : JC E mm_M_weeksGo [vR 20 0, vI (b : Int), vI (n : Int)] M Q :=
  M_weeksGo hn (by omega) hB hZ.1 hV hR.1 (fun M' v t f => hQ M' (fro_R (frb_fro (by omega) f) hR) v t f)
/-! stock, hide, fill -/
def sp_stock (Z : ZZ) (k w v : Int) : Int × ZZ := if 0 ≤ k ∧ k ≤ 3 then (if 1 ≤ w ∧ w ≤ 9 then (if 0 ≤ v ∧ v ≤ 9 then (if Z 0 32 = 8 then (-3, Z) else (Z 0 32 + 1, zp Z 0 (addg (Z 0) k w v))) else (-1, Z)) else (-1, Z)) else (-1, Z)
theorem ZB_stock {k w v : Int} (hZ : ZB Z) : ZB (sp_stock Z k w v).2 := by
  unfold sp_stock
  split
  · split
    · split
      · split
        · exact hZ
        · have := ngd_int hZ.1
          have := ngd_le hZ.1
          exact ZB_now hZ (addg_PB hZ.1 (by omega) (by assumption) (by assumption) (by assumption))
      · exact hZ
    · exact hZ
  · exact hZ
theorem H_stock {k w v : Int} (hZ : ZB Z) (hR : RepC Z M) (hQ : ∀ M' : JM, RepC (sp_stock Z k w v).2 M' → keepR M M' → Q (sp_stock Z k w v).1 M') : JC E mm_H_stock [vR 0 0, vI k, vI w, vI v] M Q := by
  unfold sp_stock at hQ
  refine vc_H_stock _ _ _ _ (H_isKind (fun h1 => c10 (H_isWeight (fun h2 => c10 (H_isWorth (fun h3 => d10 ?_) (fun h3 => d00 ?_))) (fun h2 => c00 ?_))) (fun h1 => c00 ?_))
  · rw [if_pos h1, if_pos h2, if_pos h3] at hQ
    have e1 := ngd_int hZ.1
    have e2 := ngd_le hZ.1
    rw [hR.1.1.1]
    refine ⟨fun h => T_addGood hZ.1 (by omega) h1 h2 h3 hR.1 (fun M' v' f => ?_), fun h => ?_⟩
    · rw [if_neg (by omega)] at hQ
      dsimp only at hQ
      rw [v'.1.1, addg_32 (by omega)]
      exact hQ M' (RepC_now hZ f hR v') (fra_keepR f)
    · rw [if_pos (by omega)] at hQ
      exact hQ M hR (keepR_rf M)
  · rw [if_pos h1, if_pos h2, if_neg h3] at hQ; exact hQ M hR (keepR_rf M)
  · rw [if_pos h1, if_neg h2] at hQ; exact hQ M hR (keepR_rf M)
  · rw [if_neg h1] at hQ; exact hQ M hR (keepR_rf M)
theorem M_stocks {k w v : Int} (hZ : ZB Z) (hR : RepR Z M) (hQ : ∀ M' : JM, RepR (sp_stock Z k w v).2 M' → (∀ t i j, ¬ (t = 21 ∧ i = 0 ∧ j < 44) → M' t i j = M t i j) → Q (sp_stock Z k w v).1 M') : JC E mm_M_stocks [vR 20 0, vI k, vI w, vI v] M Q := by
  unfold sp_stock at hQ
  refine vc_M_stocks _ _ _ _ (M_isRight (fun h1 => c10 (M_isRight (fun h2 => c10 (M_isRight (fun h3 => d10 ?_) (fun h3 => d00 ?_))) (fun h2 => c00 ?_))) (fun h1 => c00 ?_))
  · have g1 : 0 ≤ k ∧ k ≤ 3 := by omega
    have g2 : 1 ≤ w ∧ w ≤ 9 := by omega
    have g3 : 0 ≤ v ∧ v ≤ 9 := by omega
    rw [if_pos g1, if_pos g2, if_pos g3] at hQ
    have e1 := ngd_int hZ.1
    have e2 := ngd_le hZ.1
    have e0 : M 21 0 32 = Z 0 32 := hR.1.1 32 (by omega)
    intro a ha
    rw [e0, ← e1] at ha
    subst ha
    refine ⟨fun h => ?_, fun h => ?_⟩
    · rw [if_neg (by omega)] at hQ
      dsimp only at hQ
      rw [w32_id (x := 8 + ((ngd (Z 0) : Nat) : Int)) (by omega) (by omega), w32_id (x := 16 + ((ngd (Z 0) : Nat) : Int)) (by omega) (by omega), w32_id (x := 24 + ((ngd (Z 0) : Nat) : Int)) (by omega) (by omega)]
      rw [show (8 + ((ngd (Z 0) : Nat) : Int)).toNat = 8 + ngd (Z 0) by omega, show (16 + ((ngd (Z 0) : Nat) : Int)).toNat = 16 + ngd (Z 0) by omega, show (24 + ((ngd (Z 0) : Nat) : Int)).toNat = 24 + ngd (Z 0) by omega, Int.toNat_natCast]
      refine ⟨by omega, fun M8 e8 => ⟨by omega, fun M9 e9 => ⟨by omega, fun M10 e10 => ⟨by omega, fun M11 e11 M12 e12 => ?_⟩⟩⟩⟩
      have v32 : M11 21 0 32 = Z 0 32 := by rw [e11, pt_ne (by omega), e10, pt_ne (by omega), e9, pt_ne (by omega), e8, pt_ne (by omega), e0]
      rw [v32, w32_id (by omega) (by omega)] at e12
      have v12 : M12 21 0 32 = Z 0 32 + 1 := by rw [e12, pt_eq]
      rw [v12]
      have fr : ∀ t i j, ¬ (t = 21 ∧ i = 0 ∧ j < 44) → M12 t i j = M t i j := fun t i j q => by rw [e12, pt_ne (by omega), e11, pt_ne (by omega), e10, pt_ne (by omega), e9, pt_ne (by omega), e8, pt_ne (by omega)]
      refine hQ M12 (RepR_now (fun t i j q => fr t i j (by omega)) hR ⟨fun j hj => ?_, by rw [fr 20 0 1 (by omega)]; exact hR.1.2⟩) fr
      have ej : M 21 0 j = Z 0 j := by have := hR.1.1 j hj; rw [Nat.zero_add] at this; exact this
      rw [Nat.zero_add]
      unfold addg
      by_cases q1 : j = ngd (Z 0)
      · rw [if_pos q1, q1, e12, pt_ne (by omega), e11, pt_ne (by omega), e10, pt_ne (by omega), e9, pt_ne (by omega), e8, pt_eq]
      · rw [if_neg q1]
        by_cases q2 : j = 8 + ngd (Z 0)
        · rw [if_pos q2, q2, e12, pt_ne (by omega), e11, pt_ne (by omega), e10, pt_ne (by omega), e9, pt_eq]
        · rw [if_neg q2]
          by_cases q3 : j = 16 + ngd (Z 0)
          · rw [if_pos q3, q3, e12, pt_ne (by omega), e11, pt_ne (by omega), e10, pt_eq]
          · rw [if_neg q3]
            by_cases q4 : j = 24 + ngd (Z 0)
            · rw [if_pos q4, q4, e12, pt_ne (by omega), e11, pt_eq]
            · rw [if_neg q4]
              by_cases q5 : j = 32
              · rw [if_pos q5, q5, v12]
              · rw [if_neg q5, e12, pt_ne (by omega), e11, pt_ne (by omega), e10, pt_ne (by omega), e9, pt_ne (by omega), e8, pt_ne (by omega), ej]
    · rw [if_pos (by omega)] at hQ
      exact hQ M hR (fun _ _ _ _ => rfl)
  · rw [if_pos (by omega), if_pos (by omega), if_neg (by omega)] at hQ; exact hQ M hR (fun _ _ _ _ => rfl)
  · rw [if_pos (by omega), if_neg (by omega)] at hQ; exact hQ M hR (fun _ _ _ _ => rfl)
  · rw [if_neg (by omega)] at hQ; exact hQ M hR (fun _ _ _ _ => rfl)
theorem M_stock {k w v : Int} (hZ : ZB Z) (hR : RepR Z M) (hQ : ∀ M' : JM, RepR (sp_stock Z k w v).2 M' → keepC M M' → Q (sp_stock Z k w v).1 M') : JC E mm_M_stock [vR 20 0, vI k, vI w, vI v] M Q :=
  vc_M_stock _ _ _ _ (M_stocks hZ hR (fun M' r f => hQ M' r (fun t i j q => f t i j (by omega))))
def sp_hide (Z : ZZ) (g : Int) : Int × ZZ := if 0 ≤ g ∧ g < Z 0 32 then (if Z 0 (24 + g.toNat) = 0 then (1, zu Z 0 (24 + g.toNat) 1) else (-2, Z)) else (-1, Z)
theorem ZB_hide {g : Int} (hZ : ZB Z) : ZB (sp_hide Z g).2 := by
  unfold sp_hide
  split
  · split
    · show ZB (zu _ _ _ _)
      rw [zu_zp]
      exact ZB_now hZ (PB_t hZ.1 (gN hZ (by assumption)).1 (Or.inr rfl))
    · exact hZ
  · exact hZ
theorem H_hide {g : Int} (hZ : ZB Z) (hR : RepC Z M) (hQ : ∀ M' : JM, RepC (sp_hide Z g).2 M' → keepR M M' → Q (sp_hide Z g).1 M') : JC E mm_H_hide [vR 0 0, vI g] M Q := by
  unfold sp_hide at hQ
  refine vc_H_hide _ _ (H_isGood hZ hR (fun h => d10 ?_) (fun h => d00 ?_))
  · rw [if_pos h] at hQ
    obtain ⟨h1, h2⟩ := gN hZ h
    have h8 := ngd_le hZ.1
    have e : M 1 (8 * 0 + g.toNat) 5 = Z 0 (24 + g.toNat) := (hR.1.2.1 g.toNat h1).2.2.2.2.2
    rw [e]
    refine ⟨by omega, fun q => ⟨by omega, fun M3 e3 => ?_⟩, fun q => ?_⟩
    · rw [if_pos q] at hQ
      dsimp only at hQ
      rw [zu_zp] at hQ
      have f : fra 0 M M3 := by rw [e3]; exact fra_pt (by omega)
      exact hQ M3 (RepC_now hZ f hR (VC_taken hZ.1 h1 hR.1 e3)) (fra_keepR f)
    · rw [if_neg q] at hQ
      exact hQ M hR (keepR_rf M)
  · rw [if_neg h] at hQ
    exact hQ M hR (keepR_rf M)
theorem M_hide {g : Int} (hZ : ZB Z) (hR : RepR Z M) (hQ : ∀ M' : JM, RepR (sp_hide Z g).2 M' → keepC M M' → Q (sp_hide Z g).1 M') : JC E mm_M_hide [vR 20 0, vI g] M Q := by
  unfold sp_hide at hQ
  refine vc_M_hide _ _ (M_isGoods hZ hR (fun h => d10 ?_) (fun h => d00 ?_))
  · rw [if_pos h] at hQ
    obtain ⟨h1, h2⟩ := gN hZ h
    have h8 := ngd_le hZ.1
    have hv := (hZ.1.2.2.1 _ h1).2.2.2
    rw [w32_id (by omega) (by omega), show (24 + g).toNat = 24 + g.toNat by omega]
    have e : M 21 0 (24 + g.toNat) = Z 0 (24 + g.toNat) := by have := hR.1.1 (24 + g.toNat) (by omega); rw [Nat.zero_add] at this; exact this
    rw [e]
    refine ⟨by omega, fun q => ⟨by omega, fun M3 e3 => ?_⟩, fun q => ?_⟩
    · rw [if_pos (by omega)] at hQ
      exact hQ M3 (RepR_place hR (by omega) e3) (by rw [e3]; exact keepC_pt (by omega))
    · rw [if_neg (by omega)] at hQ
      exact hQ M hR (keepC_rf M)
  · rw [if_neg h] at hQ
    exact hQ M hR (keepC_rf M)
def sp_fill (Z : ZZ) : Int × ZZ := ((brg 8 (Z 0) (ngd (Z 0))).1, zp Z 0 (brg 8 (Z 0) (ngd (Z 0))).2)
theorem ZB_fill (hZ : ZB Z) : ZB (sp_fill Z).2 := ZB_now hZ (brg_PB hZ.1 (Nat.le_refl _))
theorem H_fill (hZ : ZB Z) (hR : RepC Z M) (hQ : ∀ M' : JM, RepC (sp_fill Z).2 M' → keepR M M' → Q (sp_fill Z).1 M') : JC E mm_H_fill [vR 0 0] M Q :=
  vc_H_fill _ (T_bringBack hZ.1 hR.1 (fun M' v f => hQ M' (RepC_now hZ (fun t i k q => f t i k (by omega)) hR v) (fun t i k q => f t i k (by omega))))
theorem M_fill (hZ : ZB Z) (hR : RepR Z M) (hQ : ∀ M' : JM, RepR (sp_fill Z).2 M' → keepC M M' → Q (sp_fill Z).1 M') : JC E mm_M_fill [vR 20 0] M Q := by
  have h8 := ngd_le hZ.1
  have hn := ngd_int hZ.1
  refine vc_M_fill _ ?_
  refine up_ind (P := fun i => ∀ M' : JM, VR M' 0 (brg 8 (Z 0) i).2 (npz Z) → (∀ t i j, ¬ (t = 21 ∧ i = 0 ∧ j < 44) → M' t i j = M t i j) → JG E mm_M_fill Q 4 [(0, vR 20 0), (1, vI (brg 8 (Z 0) i).1), (2, vI (i : Int))] [] M') (ngd (Z 0)) ?_ ?_ M hR.1 (fun _ _ _ _ => rfl)
  · intro M' v f
    have e32 : M' 21 0 32 = Z 0 32 := by have := v.1 32 (by omega); rw [Nat.zero_add] at this; rw [this]; exact brg_lo _ _ _ _ (by omega)
    exact vc_M_fill_4 _ _ _ ⟨fun _ => hQ M' (RepR_now (fun t i j q => f t i j (by omega)) hR v) (fun t i j q => f t i j (by omega)), fun h => by rw [e32] at h; omega⟩
  · intro i hi ih M' v f
    have e32 : M' 21 0 32 = Z 0 32 := by have := v.1 32 (by omega); rw [Nat.zero_add] at this; rw [this]; exact brg_lo _ _ _ _ (by omega)
    have e24 : M' 21 0 (24 + i) = Z 0 (24 + i) := by have := v.1 (24 + i) (by omega); rw [Nat.zero_add] at this; rw [this]; exact brg_lo _ _ _ _ (by omega)
    have hb01 := (hZ.1.2.2.1 i hi).2.2.2
    have hbn := brg_n 8 (Z 0) i
    refine vc_M_fill_4 _ _ _ ⟨fun h => by rw [e32] at h; omega, fun _ => ?_⟩
    rw [w32_id (x := 24 + (i : Int)) (by omega) (by omega), show (24 + (i : Int)).toNat = 24 + i by omega, e24]
    refine ⟨by omega, fun a ea => ⟨by omega, fun M2 e2 a3 ea3 => ?_⟩⟩
    rw [ea3, w32_s (by omega), ea, w32_id (by omega) (by omega)]
    have q := ih M2 ?_ (fun t i' j q => by rw [e2, pt_ne (by omega)]; exact f t i' j q)
    · have e1 : (brg 8 (Z 0) (i + 1)).1 = (brg 8 (Z 0) i).1 + Z 0 (24 + i) := by
        rw [show brg 8 (Z 0) (i + 1) = if (brg 8 (Z 0) i).1 < 8 ∧ Z 0 (24 + i) ≠ 0 then ((brg 8 (Z 0) i).1 + 1, uf (brg 8 (Z 0) i).2 (24 + i) 0) else brg 8 (Z 0) i from rfl]
        by_cases z : Z 0 (24 + i) = 0
        · rw [if_neg (fun q => q.2 z), z]; omega
        · rw [if_pos ⟨by omega, z⟩]; dsimp only; omega
      rw [e1] at q
      exact q
    · refine ⟨fun j hj => ?_, by rw [e2, pt_ne (by omega)]; exact v.2⟩
      have vj := v.1 j hj
      rw [Nat.zero_add] at vj ⊢
      rw [show brg 8 (Z 0) (i + 1) = if (brg 8 (Z 0) i).1 < 8 ∧ Z 0 (24 + i) ≠ 0 then ((brg 8 (Z 0) i).1 + 1, uf (brg 8 (Z 0) i).2 (24 + i) 0) else brg 8 (Z 0) i from rfl]
      by_cases z : Z 0 (24 + i) = 0
      · rw [if_neg (fun q => q.2 z), e2]
        by_cases hje : j = 24 + i
        · rw [hje, pt_eq, brg_lo _ _ _ _ (by omega), z]
        · rw [pt_ne (by omega)]; exact vj
      · rw [if_pos ⟨by omega, z⟩, e2]
        dsimp only
        by_cases hje : j = 24 + i
        · rw [hje, pt_eq, uf_s]
        · rw [pt_ne (by omega), uf_n hje]; exact vj
end

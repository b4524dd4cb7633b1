section
variable {E : EE} {Q : Int → JM → Prop} {M : JM} {Z : ZZ}
theorem gN {Z : ZZ} {g : Int} (hZ : ZB Z) (h : 0 ≤ g ∧ g < Z 0 32) : g.toNat < ngd (Z 0) ∧ ((g.toNat : Nat) : Int) = g := by have := ngd_int hZ.1; omega
theorem oN {Z : ZZ} {p : Int} (hZ : ZB Z) (h : 0 ≤ p ∧ p < Z 3 0) : p.toNat < npz Z ∧ ((p.toNat : Nat) : Int) = p := by have := npz_i hZ; omega
def sp_good (Z : ZZ) (g w : Int) : Int := if 0 ≤ g ∧ g < Z 0 32 then (if w = 0 then Z 0 g.toNat else if w = 1 then Z 0 (8 + g.toNat) else if w = 2 then Z 0 (16 + g.toNat) else if w = 3 then Z 0 (24 + g.toNat) else if w = 4 then heft (Z 0) g.toNat else if w = 5 then pays (Z 0) g.toNat else -1) else -1
theorem H_good {g w : Int} (hZ : ZB Z) (hR : RepC Z M) (hQ : ∀ M' : JM, RepC Z M' → keepR M M' → Q (sp_good Z g w) M') : JC E mm_H_good [vR 0 0, vI g, vI w] M Q := by
  have q := hQ M hR (keepR_rf M)
  unfold sp_good at q
  refine vc_H_good _ _ _ (H_isGood hZ hR (fun h => ⟨fun _ => ?_, fun z => absurd z (by decide)⟩) (fun h => ⟨fun z => absurd rfl z, fun _ => ?_⟩))
  · obtain ⟨h1, h2⟩ := gN hZ h
    have h8 := ngd_le hZ.1
    obtain ⟨v0, v1, v2, v3, v4, v5⟩ := hR.1.2.1 _ h1
    have b5 := (hZ.1.2.2.1 _ h1).2.2.2
    rw [v0, v1, v2, v3, v4, v5]
    rw [if_pos h] at q
    refine ⟨by omega, fun h => ?_, fun h => ?_, fun h => ?_, fun h => ?_, fun h => ⟨fun h2 => ?_, fun h2 => ?_⟩, fun h => ?_, fun h => ?_⟩
    · rw [if_neg (by omega), if_neg (by omega), if_neg (by omega), if_neg (by omega), if_neg (by omega), if_neg (by omega)] at q; exact q
    · rw [if_pos h] at q; exact q
    · rw [if_neg (by omega), if_pos h] at q; exact q
    · rw [if_neg (by omega), if_neg (by omega), if_pos h] at q; exact q
    · rw [if_neg (by omega), if_neg (by omega), if_neg (by omega), if_pos h, h2] at q; exact q
    · rw [if_neg (by omega), if_neg (by omega), if_neg (by omega), if_pos h, show Z 0 (24 + g.toNat) = 1 by omega] at q; exact q
    · rw [if_neg (by omega), if_neg (by omega), if_neg (by omega), if_neg (by omega), if_pos h] at q; exact q
    · rw [if_neg (by omega), if_neg (by omega), if_neg (by omega), if_neg (by omega), if_neg (by omega), if_pos h] at q; exact q
  · rw [if_neg h] at q; exact q
theorem M_good {g w : Int} (hZ : ZB Z) (hR : RepR Z M) (hQ : ∀ M' : JM, RepR Z M' → keepC M M' → Q (sp_good Z g w) M') : JC E mm_M_good [vR 20 0, vI g, vI w] M Q := by
  have q := hQ M hR (keepC_rf M)
  unfold sp_good at q
  refine vc_M_good _ _ _ (M_isGoods hZ hR (fun h => ⟨fun z => absurd z (by decide), fun _ => M_in (fun hw => ⟨fun _ => ⟨fun h3 => ⟨fun h4 => ?_, fun h4 => ?_⟩, fun h3 => ?_⟩, fun z => absurd z (by decide)⟩) (fun hw => ⟨fun z => absurd rfl z, fun _ => ?_⟩)⟩) (fun h => ⟨fun _ => ?_, fun z => absurd rfl z⟩))
  · obtain ⟨h1, h2⟩ := gN hZ h
    rw [if_pos h, if_neg (by omega), if_neg (by omega), if_neg (by omega), if_neg (by omega), if_neg (by omega), if_pos (by omega)] at q
    rw [← h2]
    exact M_paysOn (b := 0) (by omega) hZ.1 hR.1 h1 q
  · obtain ⟨h1, h2⟩ := gN hZ h
    rw [if_pos h, if_neg (by omega), if_neg (by omega), if_neg (by omega), if_neg (by omega), if_pos (by omega)] at q
    rw [← h2]
    exact M_heftOn (b := 0) (by omega) hZ.1 hR.1 h1 q
  · obtain ⟨h1, h2⟩ := gN hZ h
    have h8 := ngd_le hZ.1
    rw [w32_id (x := 8 * w) (by omega) (by omega), w32_id (by omega) (by omega)]
    refine ⟨by omega, ?_⟩
    rw [if_pos h] at q
    have hv := hR.1.1
    rcases (show w = 0 ∨ w = 1 ∨ w = 2 ∨ w = 3 by omega) with z | z | z | z <;> subst z
    · have e : M 21 0 ((8 * 0 + g).toNat) = Z 0 g.toNat := by have := hv g.toNat (by omega); rw [← this]; congr 1; omega
      rw [e]; rw [if_pos rfl] at q; exact q
    · have e : M 21 0 ((8 * 1 + g).toNat) = Z 0 (8 + g.toNat) := by have := hv (8 + g.toNat) (by omega); rw [← this]; congr 1; omega
      rw [e]; rw [if_neg (by omega), if_pos rfl] at q; exact q
    · have e : M 21 0 ((8 * 2 + g).toNat) = Z 0 (16 + g.toNat) := by have := hv (16 + g.toNat) (by omega); rw [← this]; congr 1; omega
      rw [e]; rw [if_neg (by omega), if_neg (by omega), if_pos rfl] at q; exact q
    · have e : M 21 0 ((8 * 3 + g).toNat) = Z 0 (24 + g.toNat) := by have := hv (24 + g.toNat) (by omega); rw [← this]; congr 1; omega
      rw [e]; rw [if_neg (by omega), if_neg (by omega), if_neg (by omega), if_pos rfl] at q; exact q
  · rw [if_pos h, if_neg (by omega), if_neg (by omega), if_neg (by omega), if_neg (by omega), if_neg (by omega), if_neg (by omega)] at q; exact q
  · rw [if_neg h] at q; exact q
def sp_one (Z : ZZ) (p w : Int) : Int := if 0 ≤ p ∧ p < Z 3 0 then (if w = 0 then Z 0 (33 + p.toNat) else if w = 1 then Z 0 (37 + p.toNat) else if w = 2 then rnds (npz Z) 0 (clr (Z 0)) (hoot (Z 0)) (44 + p.toNat) else if w = 3 then rnds (npz Z) 0 (clr (Z 0)) (hoot (Z 0)) (48 + p.toNat) else -1) else -1
theorem H_one {p w : Int} (hZ : ZB Z) (hR : RepC Z M) (hQ : ∀ M' : JM, RepC Z M' → keepR M M' → Q (sp_one Z p w) M') : JC E mm_H_one [vR 0 0, vI p, vI w] M Q := by
  have q := hQ M hR (keepR_rf M)
  unfold sp_one at q hQ
  refine vc_H_one _ _ _ (H_isOne hZ hR (fun h => ⟨fun z => absurd z (by decide), fun _ => H_within (fun hw => ⟨fun _ => ⟨fun w0 => ⟨fun w1 => ?_, fun w1 => ?_⟩, fun w0 => ?_⟩, fun z => absurd z (by decide)⟩) (fun hw => ⟨fun z => absurd rfl z, fun _ => ?_⟩)⟩) (fun h => ⟨fun _ => ?_, fun z => absurd rfl z⟩))
  · obtain ⟨h1, h2⟩ := oN hZ h
    have h4 := np4 hZ
    have h4' := hZ.1.2.1
    refine T_copyFrom (by omega) hZ.1 hR.1 (hR.2.1 1 (by omega)) (fun M1 hV1 hT1 f1 => ?_)
    refine T_carryOut (cpy_PB hZ.1) hV1 hT1 (fun M2 hV2 hA2 hT2 f2 => ?_)
    have e1 : hoot (cpy (Z 0)) = hoot (Z 0) := by unfold hoot; rw [cpy_lo (by omega)]
    have ev := eqv_rnds (clr_cpy (cpy (Z 0)) (Z 0) (fun j hj => cpy_lo (by omega))) 0 (clr_PB (cpy_PB hZ.1)) (clr_AI (cpy_PB hZ.1)) (hoot (Z 0))
    rw [e1] at hA2
    obtain ⟨a2, a3, -⟩ := hA2.1 _ h1
    rw [ev _ (by omega)] at a2
    rw [ev _ (by omega)] at a3
    have q2 := hQ M2 (RepC_fra (by omega) hZ (fra_tr f1 f2) hR) (fra_keepR (fra_tr f1 f2))
    rw [if_pos h, if_neg w0, if_neg w1] at q2
    unfold on at a2 a3
    rw [a2, a3]
    refine ⟨fun w2 => ⟨by omega, ?_⟩, fun w2 => ⟨by omega, ?_⟩⟩
    · rw [if_neg w2, if_pos (by omega)] at q2; exact q2
    · rw [if_pos w2] at q2; exact q2
  · obtain ⟨h1, h2⟩ := oN hZ h
    have h4 := np4 hZ
    have e := (hR.1.2.2.1 _ h1).2
    unfold on at e
    rw [if_pos h, if_neg w0, if_pos w1, ← e] at q
    exact ⟨by omega, q⟩
  · obtain ⟨h1, h2⟩ := oN hZ h
    have h4 := np4 hZ
    have e := (hR.1.2.2.1 _ h1).1
    unfold on at e
    rw [if_pos h, if_pos w0, ← e] at q
    exact ⟨by omega, q⟩
  · rw [if_pos h, if_neg (by omega), if_neg (by omega), if_neg (by omega), if_neg (by omega)] at q; exact q
  · rw [if_neg h] at q; exact q
theorem frb176 {M' : JM} (hR : RepR Z M) (f : frb 176 M M') : RepR Z M' := RepR_frb (fun t i k q => f t i k (by omega)) hR
theorem M_one {p w : Int} (hZ : ZB Z) (hR : RepR Z M) (hQ : ∀ M' : JM, RepR Z M' → keepC M M' → Q (sp_one Z p w) M') : JC E mm_M_one [vR 20 0, vI p, vI w] M Q := by
  have q := hQ M hR (keepC_rf M)
  unfold sp_one at q hQ
  refine vc_M_one _ _ _ (M_isOne hZ hR (fun h => ⟨fun z => absurd z (by decide), fun _ => M_in (fun hw => ⟨fun _ => ?_, fun z => absurd z (by decide)⟩) (fun hw => ⟨fun z => absurd rfl z, fun _ => ?_⟩)⟩) (fun h => ⟨fun _ => ?_, fun z => absurd rfl z⟩))
  · obtain ⟨h1, h2⟩ := oN hZ h
    have h4 := np4 hZ
    have h4' := hZ.1.2.1
    refine M_tries (b := 0) (by omega) hZ.1 hR.1 (fun M1 hA1 f1 => ?_)
    have hR1 := frb176 hR f1
    have q2 := hQ M1 hR1 (frb_keepC f1)
    rw [if_pos h] at q2
    refine ⟨fun w2 => ⟨fun w3 => ⟨by omega, ?_⟩, fun w3 => ⟨by omega, ?_⟩⟩, fun w2 => ?_⟩
    · rw [if_neg (by omega), if_neg (by omega), if_neg (by omega), if_pos (by omega)] at q2
      rw [(hA1.1 _ (by omega)).2]; exact q2
    · rw [if_neg (by omega), if_neg (by omega), if_pos (by omega)] at q2
      rw [(hA1.1 _ (by omega)).1]; exact q2
    · rw [w32_id (x := 4 * w) (by omega) (by omega), w32_id (x := 33 + 4 * w) (by omega) (by omega), w32_id (by omega) (by omega)]
      refine ⟨by omega, ?_⟩
      have hv := hR1.1.1
      rcases (show w = 0 ∨ w = 1 by omega) with z | z <;> subst z
      · have e : M1 21 0 ((33 + 4 * 0 + p).toNat) = Z 0 (33 + p.toNat) := by have := hv (33 + p.toNat) (by omega); rw [← this]; congr 1; omega
        rw [e]; rw [if_pos rfl] at q2; exact q2
      · have e : M1 21 0 ((33 + 4 * 1 + p).toNat) = Z 0 (37 + p.toNat) := by have := hv (37 + p.toNat) (by omega); rw [← this]; congr 1; omega
        rw [e]; rw [if_neg (by omega), if_pos rfl] at q2; exact q2
  · rw [if_pos h, if_neg (by omega), if_neg (by omega), if_neg (by omega), if_neg (by omega)] at q; exact q
  · rw [if_neg h] at q; exact q
/-! alter, train, set -/
def sp_alter (Z : ZZ) (g w v : Int) : Int × ZZ := if 0 ≤ g ∧ g < Z 0 32 then (if w = 0 ∧ 0 ≤ v ∧ v ≤ 3 then (Z 0 g.toNat, zu Z 0 g.toNat v) else if w = 1 ∧ 1 ≤ v ∧ v ≤ 9 then (Z 0 (8 + g.toNat), zu Z 0 (8 + g.toNat) v) else if w = 2 ∧ 0 ≤ v ∧ v ≤ 9 then (Z 0 (16 + g.toNat), zu Z 0 (16 + g.toNat) v) else (-1, Z)) else (-1, Z)
theorem ZB_alter {g w v : Int} (hZ : ZB Z) : ZB (sp_alter Z g w v).2 := by
  unfold sp_alter
  split
  · rename_i h
    obtain ⟨h1, h2⟩ := gN hZ h
    split
    · rename_i hw; show ZB (zu Z 0 _ v); rw [zu_zp]; exact ZB_now hZ (PB_k hZ.1 h1 hw.2)
    · split
      · rename_i hw; show ZB (zu Z 0 _ v); rw [zu_zp]; exact ZB_now hZ (PB_w hZ.1 h1 hw.2)
      · split
        · rename_i hw; show ZB (zu Z 0 _ v); rw [zu_zp]; exact ZB_now hZ (PB_v hZ.1 h1 hw.2)
        · exact hZ
  · exact hZ
theorem H_isKind {v : Int} (h1 : 0 ≤ v ∧ v ≤ 3 → Q 1 M) (h0 : ¬ (0 ≤ v ∧ v ≤ 3) → Q 0 M) : JC E mm_H_isKind [vI v] M Q := vc_H_isKind _ _ (H_within (fun h => ⟨Or.inr rfl, h1 h⟩) (fun h => ⟨Or.inl rfl, h0 h⟩))
theorem H_isWeight {v : Int} (h1 : 1 ≤ v ∧ v ≤ 9 → Q 1 M) (h0 : ¬ (1 ≤ v ∧ v ≤ 9) → Q 0 M) : JC E mm_H_isWeight [vI v] M Q := vc_H_isWeight _ _ (H_within (fun h => ⟨Or.inr rfl, h1 h⟩) (fun h => ⟨Or.inl rfl, h0 h⟩))
theorem H_isWorth {v : Int} (h1 : 0 ≤ v ∧ v ≤ 9 → Q 1 M) (h0 : ¬ (0 ≤ v ∧ v ≤ 9) → Q 0 M) : JC E mm_H_isWorth [vI v] M Q := vc_H_isWorth _ _ (H_within (fun h => ⟨Or.inr rfl, h1 h⟩) (fun h => ⟨Or.inl rfl, h0 h⟩))
theorem H_alter {g w v : Int} (hZ : ZB Z) (hR : RepC Z M) (hQ : ∀ M' : JM, RepC (sp_alter Z g w v).2 M' → keepR M M' → Q (sp_alter Z g w v).1 M') : JC E mm_H_alter [vR 0 0, vI g, vI w, vI v] M Q := by
  unfold sp_alter at hQ
  refine vc_H_alter _ _ _ _ (H_isGood hZ hR (fun h => ⟨fun _ => ?_, fun z => absurd z (by decide)⟩) (fun h => ⟨fun z => absurd rfl z, fun _ => ?_⟩))
  · obtain ⟨h1, h2⟩ := gN hZ h
    have h8 := ngd_le hZ.1
    have h4 := hZ.1.2.1
    obtain ⟨v0, v1, v2, -⟩ := hR.1.2.1 _ h1
    obtain ⟨b0, b1, b2, -⟩ := hZ.1.2.2.1 _ h1
    rw [if_pos h] at hQ
    have bad : ¬ (w = 0 ∧ 0 ≤ v ∧ v ≤ 3) → ¬ (w = 1 ∧ 1 ≤ v ∧ v ≤ 9) → ¬ (w = 2 ∧ 0 ≤ v ∧ v ≤ 9) → Q (-1) M := fun a b c => by
      rw [if_neg a, if_neg b, if_neg c] at hQ
      exact hQ M hR (keepR_rf M)
    have fr : ∀ {M1 : JM}, (∀ t j a, ¬ (t = 1 ∧ j = 8 * 0 + g.toNat ∧ a < 5) → M1 t j a = M t j a) → fra 0 M M1 := fun hn t i k q => hn t i k (by omega)
    have more : ¬ (w = 0 ∧ 0 ≤ v ∧ v ≤ 3) → JG E mm_H_alter Q 61 [(2, vI w), (3, vI v), (4, vR 1 (8 * 0 + g.toNat)), (5, vI (-1))] [] M := fun nk => by
      have more2 : ¬ (w = 1 ∧ 1 ≤ v ∧ v ≤ 9) → JG E mm_H_alter Q 99 [(2, vI w), (3, vI v), (4, vR 1 (8 * 0 + g.toNat)), (5, vI (-1))] [] M := fun nw => by
        refine vc_H_alter_99 _ _ _ _ _ ⟨fun h => bad nk nw (fun z => h z.1), fun h => H_isWorth (fun hk => ⟨fun z => absurd z (by decide), fun _ a e => ?_⟩) (fun hk => ⟨fun _ => bad nk nw (fun z => hk z.2), fun z => absurd rfl z⟩)⟩
        rw [v0, v1]
        rw [v2] at e
        refine G_become b0 b1 hk (fun M1 hv1 hn1 => ?_)
        rw [if_neg nk, if_neg nw, if_pos ⟨h, hk⟩] at hQ
        dsimp only at hQ
        rw [zu_zp] at hQ
        rw [e]
        exact hQ M1 (RepC_now hZ (fr hn1) hR (VC_worth h8 h4 (by omega) (VC_good hZ.1 h1 hR.1 hv1 hn1))) (fra_keepR (fr hn1))
      refine vc_H_alter_61 _ _ _ _ _ ⟨fun h => more2 (fun z => h z.1), fun h => H_isWeight (fun hk => ⟨fun z => absurd z (by decide), fun _ a e => ?_⟩) (fun hk => ⟨fun _ => more2 (fun z => hk z.2), fun z => absurd rfl z⟩)⟩
      rw [v0, v2]
      rw [v1] at e
      refine G_become b0 hk b2 (fun M1 hv1 hn1 => ?_)
      rw [if_neg nk, if_pos ⟨h, hk⟩] at hQ
      dsimp only at hQ
      rw [zu_zp] at hQ
      rw [e]
      exact hQ M1 (RepC_now hZ (fr hn1) hR (VC_weight h8 h4 (by omega) (VC_good hZ.1 h1 hR.1 hv1 hn1))) (fra_keepR (fr hn1))
    refine ⟨by omega, fun h => more (fun z => h z.1), fun h => H_isKind (fun hk => ⟨fun z => absurd z (by decide), fun _ a e => ?_⟩) (fun hk => ⟨fun _ => more (fun z => hk z.2), fun z => absurd rfl z⟩)⟩
    rw [v1, v2]
    rw [v0] at e
    refine G_become hk b1 b2 (fun M1 hv1 hn1 => ?_)
    rw [if_pos ⟨h, hk⟩] at hQ
    dsimp only at hQ
    rw [zu_zp] at hQ
    rw [e]
    exact hQ M1 (RepC_now hZ (fr hn1) hR (VC_kind h8 h4 (by omega) (VC_good hZ.1 h1 hR.1 hv1 hn1))) (fra_keepR (fr hn1))
  · rw [if_neg h] at hQ
    exact hQ M hR (keepR_rf M)
theorem M_isRight {w v : Int} (h1 : (w = 0 ∧ 0 ≤ v ∧ v ≤ 3) ∨ (w = 1 ∧ 1 ≤ v ∧ v ≤ 9) ∨ (w = 2 ∧ 0 ≤ v ∧ v ≤ 9) → Q 1 M) (h0 : ¬ ((w = 0 ∧ 0 ≤ v ∧ v ≤ 3) ∨ (w = 1 ∧ 1 ≤ v ∧ v ≤ 9) ∨ (w = 2 ∧ 0 ≤ v ∧ v ≤ 9)) → Q 0 M) : JC E mm_M_isRight [vI w, vI v] M Q := by
  refine vc_M_isRight _ _ _ ⟨fun a => ⟨fun b => ⟨fun c => h0 (by omega), fun c => M_in (fun d => ⟨fun z => absurd z (by decide), fun _ => h1 (by omega)⟩) (fun d => ⟨fun _ => h0 (by omega), fun z => absurd rfl z⟩)⟩, fun b => M_in (fun d => ⟨Or.inr rfl, h1 (by omega)⟩) (fun d => ⟨Or.inl rfl, h0 (by omega)⟩)⟩, fun a => M_in (fun d => ⟨Or.inr rfl, h1 (by omega)⟩) (fun d => ⟨Or.inl rfl, h0 (by omega)⟩)⟩
/-- a place of the page now, in the reference -/
theorem RepR_place {M' : JM} {k : Nat} {v : Int} (hR : RepR Z M) (hk : k < 44) (e : M' = pt M 21 0 k v) : RepR (zu Z 0 k v) M' := by
  rw [zu_zp]
  exact RepR_now (fun t i j q => by rw [e, pt_ne (by omega)]) hR (VR_uf hR.1 hk (by rw [Nat.zero_add]; exact e))
theorem M_alter {g w v : Int} (hZ : ZB Z) (hR : RepR Z M) (hQ : ∀ M' : JM, RepR (sp_alter Z g w v).2 M' → keepC M M' → Q (sp_alter Z g w v).1 M') : JC E mm_M_alter [vR 20 0, vI g, vI w, vI v] M Q := by
  unfold sp_alter at hQ
  have bad : Q (-1) M → JG E mm_M_alter Q 21 [(1, vI g), (2, vI w), (3, vI v)] [vR 20 0] M := fun q => vc_M_alter_21 _ _ _ _ (vc_M_alter_22 _ _ _ _ _ (vc_M_puts _ _ _ _ _ ⟨fun z => absurd rfl z, fun _ => q⟩))
  refine vc_M_alter _ _ _ _ (M_isGoods hZ hR (fun h => ⟨fun z => absurd z (by decide), fun _ => M_isRight (fun hw => ⟨fun z => absurd z (by decide), fun _ => ?_⟩) (fun hw => ⟨fun _ => bad ?_, fun z => absurd rfl z⟩)⟩) (fun h => ⟨fun _ => bad ?_, fun z => absurd rfl z⟩))
  · obtain ⟨h1, h2⟩ := gN hZ h
    have h8 := ngd_le hZ.1
    rw [if_pos h] at hQ
    refine vc_M_alter_22 _ _ _ _ _ (vc_M_puts _ _ _ _ _ ⟨fun _ => ?_, fun z => absurd z (by decide)⟩)
    rw [w32_id (x := 8 * w) (by omega) (by omega), w32_id (x := 8 * w + g) (by omega) (by omega)]
    have hx : (8 * w + g).toNat = 8 * w.toNat + g.toNat := by omega
    have hk : 8 * w.toNat + g.toNat < 44 := by omega
    have hval : M 21 0 (8 * w.toNat + g.toNat) = Z 0 (8 * w.toNat + g.toNat) := by have := hR.1.1 _ hk; rw [Nat.zero_add] at this; exact this
    have hbd : -10 ≤ Z 0 (8 * w.toNat + g.toNat) ∧ Z 0 (8 * w.toNat + g.toNat) ≤ 100 := by
      obtain ⟨b0, b1, b2, -⟩ := hZ.1.2.2.1 _ h1
      rcases (show w.toNat = 0 ∨ w.toNat = 1 ∨ w.toNat = 2 by omega) with z | z | z <;> rw [z]
      · rw [show 8 * 0 + g.toNat = g.toNat by omega]; omega
      · rw [show 8 * 1 + g.toNat = 8 + g.toNat by omega]; omega
      · rw [show 8 * 2 + g.toNat = 16 + g.toNat by omega]; omega
    rw [hx, hval, Int.add_zero, w32_id (by omega) (by omega), Int.sub_zero, w32_id (by omega) (by omega)]
    refine ⟨by omega, fun a e => ⟨by omega, fun M2 e2 => ?_⟩⟩
    rw [e]
    have hRn := RepR_place hR hk e2
    have hkeep : keepC M M2 := by rw [e2]; exact keepC_pt (by omega)
    rcases hw with hw | hw | hw
    · rw [if_pos hw] at hQ
      have z : 8 * w.toNat + g.toNat = g.toNat := by omega
      rw [z] at hRn ⊢
      exact hQ M2 hRn hkeep
    · rw [if_neg (by omega), if_pos hw] at hQ
      have z : 8 * w.toNat + g.toNat = 8 + g.toNat := by omega
      rw [z] at hRn ⊢
      exact hQ M2 hRn hkeep
    · rw [if_neg (by omega), if_neg (by omega), if_pos hw] at hQ
      have z : 8 * w.toNat + g.toNat = 16 + g.toNat := by omega
      rw [z] at hRn ⊢
      exact hQ M2 hRn hkeep
  · rw [if_pos h, if_neg (fun z => hw (Or.inl z)), if_neg (fun z => hw (Or.inr (Or.inl z))), if_neg (fun z => hw (Or.inr (Or.inr z)))] at hQ
    exact hQ M hR (keepC_rf M)
  · rw [if_neg h] at hQ
    exact hQ M hR (keepC_rf M)
def sp_train (Z : ZZ) (p w v : Int) : Int × ZZ := if 0 ≤ p ∧ p < Z 3 0 then (if w = 0 ∧ 1 ≤ v ∧ v ≤ 20 then (Z 0 (33 + p.toNat), zu Z 0 (33 + p.toNat) v) else if w = 1 ∧ 0 ≤ v ∧ v ≤ 999 then (Z 0 (37 + p.toNat), zu Z 0 (37 + p.toNat) v) else (-1, Z)) else (-1, Z)
theorem ZB_train {p w v : Int} (hZ : ZB Z) : ZB (sp_train Z p w v).2 := by
  unfold sp_train
  split
  · rename_i h
    obtain ⟨h1, h2⟩ := oN hZ h
    split
    · rename_i hw; show ZB (zu Z 0 _ v); rw [zu_zp]; exact ZB_now hZ (PB_s hZ.1 h1 hw.2)
    · split
      · rename_i hw; show ZB (zu Z 0 _ v); rw [zu_zp]; exact ZB_now hZ (PB_a hZ.1 h1 hw.2)
      · exact hZ
  · exact hZ
theorem H_train {p w v : Int} (hZ : ZB Z) (hR : RepC Z M) (hQ : ∀ M' : JM, RepC (sp_train Z p w v).2 M' → keepR M M' → Q (sp_train Z p w v).1 M') : JC E mm_H_train [vR 0 0, vI p, vI w, vI v] M Q := by
  unfold sp_train at hQ
  refine vc_H_train _ _ _ _ (H_isOne hZ hR (fun h => ⟨fun _ => ?_, fun z => absurd z (by decide)⟩) (fun h => ⟨fun z => absurd rfl z, fun _ => ?_⟩))
  · obtain ⟨h1, h2⟩ := oN hZ h
    have h4 := np4 hZ
    have h4' := hZ.1.2.1
    obtain ⟨v0, v1⟩ := hR.1.2.2.1 _ h1
    have eo : 4 * 0 + (M 5 0 p.toNat).toNat = on M 0 p.toNat := rfl
    have ho := on_in hR.1.2.2.2 (p := p.toNat) (by omega)
    rw [eo]
    rw [if_pos h] at hQ
    have bad : ¬ (w = 0 ∧ 1 ≤ v ∧ v ≤ 20) → ¬ (w = 1 ∧ 0 ≤ v ∧ v ≤ 999) → Q (-1) M := fun a b => by
      rw [if_neg a, if_neg b] at hQ
      exact hQ M hR (keepR_rf M)
    have more : ¬ (w = 0 ∧ 1 ≤ v ∧ v ≤ 20) → JG E mm_H_train Q 54 [(2, vI w), (3, vI v), (4, vR 2 (on M 0 p.toNat)), (5, vI (-1))] [] M := fun nk => by
      refine vc_H_train_54 _ _ _ _ _ ⟨fun h => bad nk (fun z => h z.1), fun h => H_within (fun hk => ⟨fun z => absurd z (by decide), fun _ a e M4 e4 => ?_⟩) (fun hk => ⟨fun _ => bad nk (fun z => hk z.2), fun z => absurd rfl z⟩)⟩
      rw [if_neg nk, if_pos ⟨h, hk⟩] at hQ
      dsimp only at hQ
      rw [zu_zp] at hQ
      rw [e, v1]
      have f : fra 0 M M4 := by rw [e4]; exact fra_pt (by omega)
      exact hQ M4 (RepC_now hZ f hR (VC_one (k := 1) (by omega) hZ.1 h1 hR.1 e4)) (fra_keepR f)
    refine ⟨by omega, fun h => more (fun z => h z.1), fun h => H_within (fun hk => ⟨fun z => absurd z (by decide), fun _ a e M4 e4 => ?_⟩) (fun hk => ⟨fun _ => more (fun z => hk z.2), fun z => absurd rfl z⟩)⟩
    rw [if_pos ⟨h, hk⟩] at hQ
    dsimp only at hQ
    rw [zu_zp] at hQ
    rw [e, v0]
    have f : fra 0 M M4 := by rw [e4]; exact fra_pt (by omega)
    exact hQ M4 (RepC_now hZ f hR (VC_one (k := 0) (by omega) hZ.1 h1 hR.1 e4)) (fra_keepR f)
  · rw [if_neg h] at hQ
    exact hQ M hR (keepR_rf M)
theorem M_train {p w v : Int} (hZ : ZB Z) (hR : RepR Z M) (hQ : ∀ M' : JM, RepR (sp_train Z p w v).2 M' → keepC M M' → Q (sp_train Z p w v).1 M') : JC E mm_M_train [vR 20 0, vI p, vI w, vI v] M Q := by
  unfold sp_train at hQ
  have go : ∀ s : Int, ((s ≠ 0 ↔ ((w = 0 ∧ 1 ≤ v ∧ v ≤ 20) ∨ (w = 1 ∧ 0 ≤ v ∧ v ≤ 999)))) → JG E mm_M_train Q 38 [(0, vR 20 0), (1, vI p), (2, vI w), (3, vI v)] [vI s] M := fun s hs => by
    have bad : Q (-1) M → JG E mm_M_train Q 58 [(1, vI p), (2, vI w), (3, vI v)] [vR 20 0] M := fun q => vc_M_train_58 _ _ _ _ (vc_M_train_59 _ _ _ _ _ (vc_M_puts _ _ _ _ _ ⟨fun z => absurd rfl z, fun _ => q⟩))
    refine vc_M_train_38 _ _ _ _ _ (M_isOne hZ hR (fun h => ⟨fun z => absurd z (by decide), fun _ => ⟨fun s0 => bad ?_, fun s0 => ?_⟩⟩) (fun h => ⟨fun _ => bad ?_, fun z => absurd rfl z⟩))
    · have hn : ¬ ((w = 0 ∧ 1 ≤ v ∧ v ≤ 20) ∨ (w = 1 ∧ 0 ≤ v ∧ v ≤ 999)) := fun z => (hs.mpr z) s0
      rw [if_pos h, if_neg (fun z => hn (Or.inl z)), if_neg (fun z => hn (Or.inr z))] at hQ
      exact hQ M hR (keepC_rf M)
    · have hw := hs.mp s0
      obtain ⟨h1, h2⟩ := oN hZ h
      have h4 := np4 hZ
      rw [if_pos h] at hQ
      refine vc_M_train_59 _ _ _ _ _ (vc_M_puts _ _ _ _ _ ⟨fun _ => ?_, fun z => absurd z (by decide)⟩)
      rw [w32_id (x := 4 * w) (by omega) (by omega), w32_id (x := 33 + 4 * w) (by omega) (by omega), w32_id (x := 33 + 4 * w + p) (by omega) (by omega)]
      have hx : (33 + 4 * w + p).toNat = 33 + 4 * w.toNat + p.toNat := by omega
      have hk : 33 + 4 * w.toNat + p.toNat < 44 := by omega
      have hval : M 21 0 (33 + 4 * w.toNat + p.toNat) = Z 0 (33 + 4 * w.toNat + p.toNat) := by have := hR.1.1 _ hk; rw [Nat.zero_add] at this; exact this
      have hbd : -10 ≤ Z 0 (33 + 4 * w.toNat + p.toNat) ∧ Z 0 (33 + 4 * w.toNat + p.toNat) ≤ 1000 := by
        obtain ⟨b0, b1⟩ := hZ.1.2.2.2.1 _ h1
        rcases (show w.toNat = 0 ∨ w.toNat = 1 by omega) with z | z <;> rw [z]
        · show -10 ≤ Z 0 (33 + p.toNat) ∧ Z 0 (33 + p.toNat) ≤ 1000
          omega
        · show -10 ≤ Z 0 (37 + p.toNat) ∧ Z 0 (37 + p.toNat) ≤ 1000
          omega
      rw [hx, hval, Int.add_zero, w32_id (by omega) (by omega), Int.sub_zero, w32_id (by omega) (by omega)]
      refine ⟨by omega, fun a e => ⟨by omega, fun M2 e2 => ?_⟩⟩
      rw [e]
      have hRn := RepR_place hR hk e2
      have hkeep : keepC M M2 := by rw [e2]; exact keepC_pt (by omega)
      rcases hw with hw | hw
      · rw [if_pos hw] at hQ
        have z : 33 + 4 * w.toNat + p.toNat = 33 + p.toNat := by omega
        rw [z] at hRn ⊢
        exact hQ M2 hRn hkeep
      · rw [if_neg (by omega), if_pos hw] at hQ
        have z : 33 + 4 * w.toNat + p.toNat = 37 + p.toNat := by omega
        rw [z] at hRn ⊢
        exact hQ M2 hRn hkeep
    · rw [if_neg h] at hQ
      exact hQ M hR (keepC_rf M)
  refine vc_M_train _ _ _ _ ⟨fun a => ⟨fun b => vc_M_train_37 _ _ _ _ (go 0 (by omega)), fun b => M_in (fun d => ⟨fun z => absurd z (by decide), fun _ => go 1 (by omega)⟩) (fun d => ⟨fun _ => vc_M_train_37 _ _ _ _ (go 0 (by omega)), fun z => absurd rfl z⟩)⟩, fun a => M_in (fun d => go 1 (by omega)) (fun d => go 0 (by omega))⟩
def sp_set (Z : ZZ) (w v : Int) : Int × ZZ := if w = 0 ∧ 0 ≤ v ∧ v ≤ 6 then (Z 0 41 + 2, zu Z 0 41 (v - 2)) else if w = 1 ∧ 0 ≤ v ∧ v ≤ 8 then (Z 0 42 + 2, zu Z 0 42 (v - 2)) else (-1, Z)
theorem ZB_set {w v : Int} (hZ : ZB Z) : ZB (sp_set Z w v).2 := by
  unfold sp_set
  split
  · show ZB (zu Z 0 41 (v - 2)); rw [zu_zp]; exact ZB_now hZ (PB_h hZ.1 (by omega))
  · split
    · show ZB (zu Z 0 42 (v - 2)); rw [zu_zp]; exact ZB_now hZ (PB_b hZ.1 (by omega))
    · exact hZ
theorem H_set {w v : Int} (hZ : ZB Z) (hR : RepC Z M) (hQ : ∀ M' : JM, RepC (sp_set Z w v).2 M' → keepR M M' → Q (sp_set Z w v).1 M') : JC E mm_H_set [vR 0 0, vI w, vI v] M Q := by
  unfold sp_set at hQ
  obtain ⟨c1, c2, c3, c4, c5⟩ := hR.1.1
  have bad : ¬ (w = 0 ∧ 0 ≤ v ∧ v ≤ 6) → ¬ (w = 1 ∧ 0 ≤ v ∧ v ≤ 8) → Q (-1) M := fun a b => by
    rw [if_neg a, if_neg b] at hQ
    exact hQ M hR (keepR_rf M)
  have more : ¬ (w = 0 ∧ 0 ≤ v ∧ v ≤ 6) → JG E mm_H_set Q 35 [(0, vR 0 0), (1, vI w), (2, vI v), (3, vI (-1))] [] M := fun nk => by
    refine vc_H_set_35 _ _ _ _ ⟨fun h => bad nk (fun z => h z.1), fun h => H_within (fun hk => ⟨fun z => absurd z (by decide), fun _ a e M4 e4 => ?_⟩) (fun hk => ⟨fun _ => bad nk (fun z => hk z.2), fun z => absurd rfl z⟩)⟩
    rw [if_neg nk, if_pos ⟨h, hk⟩] at hQ
    dsimp only at hQ
    rw [zu_zp] at hQ
    rw [e, c4]
    have f : fra 0 M M4 := by rw [e4]; exact fra_pt (by omega)
    exact hQ M4 (RepC_now hZ f hR (VC_set (k := 1) (by omega) hZ.1 hR.1 e4)) (fra_keepR f)
  refine vc_H_set _ _ _ ⟨fun h => more (fun z => h z.1), fun h => H_within (fun hk => ⟨fun z => absurd z (by decide), fun _ a e M4 e4 => ?_⟩) (fun hk => ⟨fun _ => more (fun z => hk z.2), fun z => absurd rfl z⟩)⟩
  rw [if_pos ⟨h, hk⟩] at hQ
  dsimp only at hQ
  rw [zu_zp] at hQ
  rw [e, c3]
  have f : fra 0 M M4 := by rw [e4]; exact fra_pt (by omega)
  exact hQ M4 (RepC_now hZ f hR (VC_set (k := 0) (by omega) hZ.1 hR.1 e4)) (fra_keepR f)
theorem M_set {w v : Int} (hZ : ZB Z) (hR : RepR Z M) (hQ : ∀ M' : JM, RepR (sp_set Z w v).2 M' → keepC M M' → Q (sp_set Z w v).1 M') : JC E mm_M_set [vR 20 0, vI w, vI v] M Q := by
  unfold sp_set at hQ
  obtain ⟨b1, b2⟩ := hZ.1.2.2.2.2
  have e41 : M 21 0 41 = Z 0 41 := hR.1.1 41 (by omega)
  have e42 : M 21 0 42 = Z 0 42 := hR.1.1 42 (by omega)
  have bad : ¬ (w = 0 ∧ 0 ≤ v ∧ v ≤ 6) → ¬ (w = 1 ∧ 0 ≤ v ∧ v ≤ 8) → JG E mm_M_set Q 37 [(1, vI w), (2, vI v)] [vR 20 0] M := fun a b => by
    rw [if_neg a, if_neg b] at hQ
    exact vc_M_set_37 _ _ _ (vc_M_set_38 _ _ _ _ (vc_M_puts _ _ _ _ _ ⟨fun z => absurd rfl z, fun _ => hQ M hR (keepC_rf M)⟩))
  refine vc_M_set _ _ _ (M_in (fun h => ⟨fun z => absurd z (by decide), fun _ => ⟨fun h0 => ?_, fun h0 => ?_⟩⟩) (fun h => ⟨fun _ => bad (by omega) (by omega), fun z => absurd rfl z⟩))
  · refine vc_M_set_27 _ _ _ _ _ _ (M_in (fun hk => ⟨fun z => absurd z (by decide), fun _ => vc_M_set_38 _ _ _ _ (vc_M_puts _ _ _ _ _ ⟨fun _ => ?_, fun z => absurd z (by decide)⟩)⟩) (fun hk => ⟨fun _ => bad (by omega) (by omega), fun z => absurd rfl z⟩))
    have hw : w = 1 := by omega
    subst hw
    rw [if_neg (by omega), if_pos ⟨rfl, hk⟩] at hQ
    rw [show w32 (41 + 1) = 42 from w32_id (by omega) (by omega)]
    refine ⟨by omega, fun a e => ⟨by omega, fun M2 e2 => ?_⟩⟩
    have q : (42 : Int).toNat = 42 := rfl
    rw [q, e42, w32_id (by omega) (by omega)] at e
    rw [q, w32_id (by omega) (by omega)] at e2
    rw [e]
    exact hQ M2 (RepR_place hR (by omega) e2) (by rw [e2]; exact keepC_pt (by omega))
  · refine vc_M_set_27 _ _ _ _ _ _ (M_in (fun hk => ⟨fun z => absurd z (by decide), fun _ => vc_M_set_38 _ _ _ _ (vc_M_puts _ _ _ _ _ ⟨fun _ => ?_, fun z => absurd z (by decide)⟩)⟩) (fun hk => ⟨fun _ => bad (by omega) (by omega), fun z => absurd rfl z⟩))
    subst h0
    rw [if_pos ⟨rfl, hk⟩] at hQ
    rw [show w32 (41 + 0) = 41 from w32_id (by omega) (by omega)]
    refine ⟨by omega, fun a e => ⟨by omega, fun M2 e2 => ?_⟩⟩
    have q : (41 : Int).toNat = 41 := rfl
    rw [q, e41, w32_id (by omega) (by omega)] at e
    rw [q, w32_id (by omega) (by omega)] at e2
    rw [e]
    exact hQ M2 (RepR_place hR (by omega) e2) (by rw [e2]; exact keepC_pt (by omega))
end

/-! a place of a copy is another -/
def chg (Z : ZZ) (k : Nat) (v : Int) : Nat → Int := uf (cpy (Z 0)) k v
theorem chg_lo {Z : ZZ} {k j : Nat} {v : Int} (h : ¬ j = k) (hj : j < 56) : chg Z k v j = Z 0 j := by unfold chg; rw [uf_n h, cpy_lo (by omega)]
theorem cpy_chg {Z : ZZ} {k : Nat} {v : Int} (h : k < 44) : cpy (chg Z k v) = chg Z k v := by
  funext j
  unfold cpy
  by_cases hj : j = 56 ∨ j = 57 ∨ j = 58
  · rw [if_pos hj]
    unfold chg
    rw [uf_n (by omega)]
    exact (if_pos hj).symm
  · rw [if_neg hj]
/-- on the other page, all but a place are as now -/
def VRx (Z : ZZ) (M : JM) (k : Nat) : Prop := (∀ j, j < 44 → ¬ j = k → M 21 0 (220 + j) = Z 0 j) ∧ M 20 0 1 = npz Z
theorem VRx_pt {Z : ZZ} {M M' : JM} {k : Nat} {v : Int} (h : VRx Z M k) (e : M' = pt M 21 0 (220 + k) v) : VR M' 220 (chg Z k v) (npz Z) := by
  refine ⟨fun j hj => ?_, by rw [e, pt_ne (by omega)]; exact h.2⟩
  by_cases hjk : j = k
  · subst hjk; rw [e, pt_eq]; exact (uf_s _ _ _).symm
  · rw [e, pt_ne (by omega), chg_lo hjk (by omega)]; exact h.1 j hj hjk
theorem VRx_cp {Z : ZZ} {M : JM} {k : Nat} (h : VR M 220 (cpy (Z 0)) (npz Z)) : VRx Z M k := ⟨fun j hj _ => by rw [h.1 j hj, cpy_lo (by omega)], h.2⟩
theorem VRx_f {Z : ZZ} {M M' : JM} {k : Nat} (f : frb 176 M M') (h : VRx Z M k) : VRx Z M' k := ⟨fun j hj q => by rw [f 21 0 _ (by omega)]; exact h.1 j hj q, by rw [f 20 0 1 (by omega)]; exact h.2⟩
theorem VRx_p {Z : ZZ} {M : JM} {k : Nat} {v : Int} (h : VRx Z M k) : VRx Z (pt M 21 0 (220 + k) v) k := ⟨fun j hj q => by rw [pt_ne (by omega)]; exact h.1 j hj q, by rw [pt_ne (by omega)]; exact h.2⟩
theorem fro_pt {M : JM} {k : Nat} {v : Int} (h : 176 ≤ k) : fro M (pt M 21 0 k v) := fun t i j q => pt_ne (by omega)
section
variable {E : EE} {Q : Int → JM → Prop} {M : JM} {Z : ZZ} {X : Nat → Int}
theorem VT_chg {k : Nat} {v : Int} (hk : k < 44) (h : VT M 1 (cpy (Z 0))) : VT M 1 (chg Z k v) := VT_c h (fun j hj => by unfold chg; rw [uf_n (by omega)])
theorem C_bec {g : Nat} {k w v : Int} (hk : 0 ≤ k ∧ k ≤ 3) (hw : 1 ≤ w ∧ w ≤ 9) (hv : 0 ≤ v ∧ v ≤ 9) (hZ : ZB Z) (hR : RepC Z M) (hg : g < ngd (Z 0)) (hV : VC M 1 X (npz Z)) (hB : PB X (npz Z)) (hX : ngd X = ngd (Z 0)) (hT : VT M 1 X) (hQ : ∀ M' : JM, RepC Z M' → VC M' 1 (ugd X g k w v) (npz Z) → VT M' 1 X → keepR M M' → Q 0 M') : JC E mm_G_become [vR 1 (8 * 1 + g), vI k, vI w, vI v] M Q := by
  have h8 := ngd_le hZ.1
  refine G_become hk hw hv (fun M' m n => ?_)
  have f : fra 1 M M' := fun t i k q => n t i k (by omega)
  refine hQ M' (RepC_fra (Or.inl rfl) hZ f hR) (VC_good hB (by rw [hX]; exact hg) hV m n) ⟨?_, ?_⟩ (fra_keepR f)
  · rw [n 3 _ _ (by omega)]; exact hT.1
  · rw [n 3 _ _ (by omega)]; exact hT.2
theorem ngd_cpy : ngd (cpy (Z 0)) = ngd (Z 0) := by unfold ngd; rw [cpy_lo (by omega)]
theorem C_str {p : Nat} {v : Int} {M' : JM} (hZ : ZB Z) (hR : RepC Z M) (hp : p < npz Z) (hV : VC M 1 (cpy (Z 0)) (npz Z)) (hT : VT M 1 (cpy (Z 0))) (e : M' = pt M 2 (4 * 1 + (M 5 1 p).toNat) 0 v) : RepC Z M' ∧ VC M' 1 (chg Z (33 + p) v) (npz Z) ∧ VT M' 1 (chg Z (33 + p) v) ∧ keepR M M' := by
  have h4 := hZ.1.2.1
  have e' : M' = pt M 2 (on M 1 p) 0 v := e
  have ho := on_in hV.2.2.2 (p := p) (by omega)
  have f : fra 1 M M' := by rw [e']; exact fra_pt (by omega)
  have hv := VC_one (k := 0) (by omega) (cpy_PB hZ.1) hp hV e'
  refine ⟨RepC_fra (Or.inl rfl) hZ f hR, hv, VT_chg (by omega) ⟨?_, ?_⟩, fra_keepR f⟩
  · rw [e', pt_ne (by omega)]; exact hT.1
  · rw [e', pt_ne (by omega)]; exact hT.2
theorem R_tries (hZ : ZB Z) (hR : RepR Z M) (hB : PB X (npz Z)) (hV : VR M 220 X (npz Z)) (hQ : ∀ M' : JM, RepR Z M' → VRA M' (rnds (npz Z) 0 (clr X) (hoot X)) → frb 176 M M' → Q 0 M') : JC E mm_M_tries [vR 20 0, vI 220] M Q :=
  M_tries (b := 220) (by omega) hB hV (fun M' a f => hQ M' (fro_R (frb_fro (by omega) f) hR) a f)
/-! need, price -/
def sp_need (Z : ZZ) (p g : Int) : Int := if (0 ≤ p ∧ p < Z 3 0) ∧ (0 ≤ g ∧ g < Z 0 32) then fnd (fun s => hb (rnds (npz Z) 0 (clr (chg Z (33 + p.toNat) s)) (hoot (chg Z (33 + p.toNat) s)) (44 + p.toNat)) g) 1 20 else -1
theorem chg_str {p : Nat} {s : Int} (hZ : ZB Z) (hp : p < npz Z) (hs : 1 ≤ s ∧ s ≤ 20) : PB (chg Z (33 + p) s) (npz Z) := PB_s (cpy_PB hZ.1) hp hs
theorem chg_wor {g : Nat} {s : Int} (hZ : ZB Z) (hg : g < ngd (Z 0)) (hs : 0 ≤ s ∧ s ≤ 9) : PB (chg Z (16 + g) s) (npz Z) := PB_v (cpy_PB hZ.1) (by rw [ngd_cpy]; exact hg) hs
theorem H_need {p g : Int} (hZ : ZB Z) (hR : RepC Z M) (hQ : ∀ M' : JM, RepC Z M' → keepR M M' → Q (sp_need Z p g) M') : JC E mm_H_need [vR 0 0, vI p, vI g] M Q := by
  unfold sp_need at hQ
  refine vc_H_need _ _ _ (H_isOne hZ hR (fun h => c10 (H_isGood hZ hR (fun h2 => d10 ?_) (fun h2 => d00 ?_))) (fun h => c00 ?_))
  · rw [if_pos ⟨h, h2⟩] at hQ
    obtain ⟨o1, o2⟩ := oN hZ h
    have h4 := np4 hZ
    refine up_ind (P := fun i => fnd (fun s : Nat => hb (rnds (npz Z) 0 (clr (chg Z (33 + p.toNat) s)) (hoot (chg Z (33 + p.toNat) s)) (44 + p.toNat)) g) 1 20 = fnd (fun s : Nat => hb (rnds (npz Z) 0 (clr (chg Z (33 + p.toNat) s)) (hoot (chg Z (33 + p.toNat) s)) (44 + p.toNat)) g) (i + 1) (21 - (i + 1)) → ∀ M' : JM, RepC Z M' → keepR M M' → JG E mm_H_need Q 20 [(0, vR 0 0), (1, vI p), (2, vI g), (3, vI ((i + 1 : Nat) : Int))] [] M') 20 ?_ ?_ rfl M hR (keepR_rf M)
    · intro e M' r k
      refine vc_H_need_20 _ _ _ _ ⟨fun _ => ?_, fun z => by omega⟩
      rw [e, fnd_e] at hQ
      exact hQ M' r k
    · intro i hi ih e M' r k
      rw [fnd_s (by omega)] at e
      refine vc_H_need_20 _ _ _ _ ⟨fun z => by omega, fun _ => C_copy hZ r (fun M1 r1 v1 t1 k1 => ⟨by omega, fun M3 e3 => ?_⟩)⟩
      obtain ⟨r3, v3, t3, k3⟩ := C_str hZ r1 o1 v1 t1 e3
      refine C_carry hZ r3 (chg_str hZ o1 (by omega)) v3 t3 (fun M4 r4 a4 k4 => ⟨by omega, ?_⟩)
      rw [show M4 2 (4 * 1 + (M4 5 1 p.toNat).toNat) 2 = _ from (a4.1 p.toNat o1).1]
      have kk := keepR_tr k (keepR_tr k1 (keepR_tr k3 k4))
      refine H_hasBit (fun q => c10 ?_) (fun q => c00 (fun a ea => ?_))
      · rw [e, if_pos q] at hQ
        exact hQ M4 r4 kk
      · rw [if_neg q] at e
        rw [ea, w32_s (by omega)]
        exact ih e M4 r4 kk
  · rw [if_neg (fun z => h2 z.2)] at hQ; exact hQ M hR (keepR_rf M)
  · rw [if_neg (fun z => h z.1)] at hQ; exact hQ M hR (keepR_rf M)
theorem M_need {p g : Int} (hZ : ZB Z) (hR : RepR Z M) (hQ : ∀ M' : JM, RepR Z M' → keepC M M' → Q (sp_need Z p g) M') : JC E mm_M_need [vR 20 0, vI p, vI g] M Q := by
  unfold sp_need at hQ
  refine vc_M_need _ _ _ (M_isOne hZ hR (fun h => c10 (M_isGoods hZ hR (fun h2 => d10 (R_copy (c := 220) (by omega) hR (fun M1 r1 v1 f1 => ?_))) (fun h2 => d00 ?_))) (fun h => c00 ?_))
  · rw [if_pos ⟨h, h2⟩] at hQ
    obtain ⟨o1, o2⟩ := oN hZ h
    have h4 := np4 hZ
    refine up_ind (P := fun i => fnd (fun s : Nat => hb (rnds (npz Z) 0 (clr (chg Z (33 + p.toNat) s)) (hoot (chg Z (33 + p.toNat) s)) (44 + p.toNat)) g) 1 20 = fnd (fun s : Nat => hb (rnds (npz Z) 0 (clr (chg Z (33 + p.toNat) s)) (hoot (chg Z (33 + p.toNat) s)) (44 + p.toNat)) g) (i + 1) (21 - (i + 1)) → ∀ M' : JM, RepR Z M' → VRx Z M' (33 + p.toNat) → fro M M' → JG E mm_M_need Q 28 [(0, vR 20 0), (1, vI p), (2, vI g), (3, vI ((i + 1 : Nat) : Int))] [] M') 20 ?_ ?_ rfl M1 r1 (VRx_cp v1) f1
    · intro e M' r x f
      refine vc_M_need_28 _ _ _ _ ⟨fun _ => ?_, fun z => by omega⟩
      rw [e, fnd_e] at hQ
      exact hQ M' r (fro_keepC f)
    · intro i hi ih e M' r x f
      rw [fnd_s (by omega)] at e
      refine vc_M_need_28 _ _ _ _ ⟨fun z => by omega, fun _ => ?_⟩
      rw [w32_id (x := 253 + p) (by omega) (by omega), show (253 + p).toNat = 220 + (33 + p.toNat) by omega]
      refine ⟨by omega, fun M2 e2 => ?_⟩
      have v2 := VRx_pt x e2
      have f2 : fro M' M2 := by rw [e2]; exact fro_pt (by omega)
      refine R_tries hZ (fro_R f2 r) (chg_str hZ o1 (by omega)) v2 (fun M3 r3 a3 f3 => ⟨by omega, ?_⟩)
      have ff := fro_tr f (fro_tr f2 (frb_fro (by omega) f3))
      rw [(a3.1 p.toNat (by omega)).1]
      refine ⟨fun q a ea => ?_, fun q => ?_⟩
      · rw [if_neg q] at e
        rw [ea, w32_s (by omega)]
        exact ih e M3 r3 (VRx_f f3 (by rw [e2]; exact VRx_p x)) ff
      · rw [e, if_pos q] at hQ
        exact hQ M3 r3 (fro_keepC ff)
  · rw [if_neg (fun z => h2 z.2)] at hQ; exact hQ M hR (keepC_rf M)
  · rw [if_neg (fun z => h z.1)] at hQ; exact hQ M hR (keepC_rf M)
def sp_price (Z : ZZ) (g : Int) : Int := if 0 ≤ g ∧ g < Z 0 32 then fnd (fun s => hb (rnds (npz Z) 0 (clr (chg Z (16 + g.toNat) s)) (hoot (chg Z (16 + g.toNat) s)) 56) g) 0 10 else -1
theorem H_price {g : Int} (hZ : ZB Z) (hR : RepC Z M) (hQ : ∀ M' : JM, RepC Z M' → keepR M M' → Q (sp_price Z g) M') : JC E mm_H_price [vR 0 0, vI g] M Q := by
  unfold sp_price at hQ
  refine vc_H_price _ _ (H_isGood hZ hR (fun h => d10 ?_) (fun h => d00 ?_))
  · rw [if_pos h] at hQ
    obtain ⟨o1, o2⟩ := gN hZ h
    have h8 := ngd_le hZ.1
    obtain ⟨z0, z1, z2, z3⟩ := hZ.1.2.2.1 _ o1
    refine up_ind (P := fun i => fnd (fun s : Nat => hb (rnds (npz Z) 0 (clr (chg Z (16 + g.toNat) s)) (hoot (chg Z (16 + g.toNat) s)) 56) g) 0 10 = fnd (fun s : Nat => hb (rnds (npz Z) 0 (clr (chg Z (16 + g.toNat) s)) (hoot (chg Z (16 + g.toNat) s)) 56) g) i (10 - i) → ∀ M' : JM, RepC Z M' → keepR M M' → JG E mm_H_price Q 12 [(0, vR 0 0), (1, vI g), (2, vI (i : Int))] [] M') 10 ?_ ?_ rfl M hR (keepR_rf M)
    · intro e M' r k
      refine vc_H_price_12 _ _ _ ⟨fun _ => ?_, fun z => by omega⟩
      rw [e, fnd_e] at hQ
      exact hQ M' r k
    · intro i hi ih e M' r k
      rw [fnd_s (by omega)] at e
      refine vc_H_price_12 _ _ _ ⟨fun z => by omega, fun _ => C_copy hZ r (fun M1 r1 v1 t1 k1 => ⟨by omega, by omega, by omega, ?_⟩)⟩
      have w0 : M1 1 (8 * 0 + g.toNat) 0 = cpy (Z 0) g.toNat := by rw [cpy_lo (by omega)]; exact (r1.1.2.1 g.toNat o1).1
      have w1 : M1 1 (8 * 0 + g.toNat) 1 = cpy (Z 0) (8 + g.toNat) := by rw [cpy_lo (by omega)]; exact (r1.1.2.1 g.toNat o1).2.1
      rw [w0, w1]
      refine C_bec (by rw [cpy_lo (by omega)]; exact z0) (by rw [cpy_lo (by omega)]; exact z1) (by omega) hZ r1 o1 v1 (cpy_PB hZ.1) ngd_cpy t1 (fun M3 r3 v3 t3 k3 => ?_)
      have v4 : VC M3 1 (chg Z (16 + g.toNat) i) (npz Z) := VC_worth (by rw [ngd_cpy]; exact h8) hZ.1.2.1 (by omega) v3
      refine C_carry hZ r3 (chg_wor hZ o1 (by omega)) v4 (VT_chg (by omega) t3) (fun M4 r4 a4 k4 => ?_)
      rw [a4.2]
      have kk := keepR_tr k (keepR_tr k1 (keepR_tr k3 k4))
      refine H_hasBit (fun q => c10 ?_) (fun q => c00 (fun a ea => ?_))
      · rw [e, if_pos q] at hQ
        exact hQ M4 r4 kk
      · rw [if_neg q] at e
        rw [ea, w32_s (by omega)]
        exact ih e M4 r4 kk
  · rw [if_neg h] at hQ; exact hQ M hR (keepR_rf M)
theorem M_price {g : Int} (hZ : ZB Z) (hR : RepR Z M) (hQ : ∀ M' : JM, RepR Z M' → keepC M M' → Q (sp_price Z g) M') : JC E mm_M_price [vR 20 0, vI g] M Q := by
  unfold sp_price at hQ
  refine vc_M_price _ _ (M_isGoods hZ hR (fun h => d10 (R_copy (c := 220) (by omega) hR (fun M1 r1 v1 f1 => ?_))) (fun h => d00 ?_))
  · rw [if_pos h] at hQ
    obtain ⟨o1, o2⟩ := gN hZ h
    have h8 := ngd_le hZ.1
    refine up_ind (P := fun i => fnd (fun s : Nat => hb (rnds (npz Z) 0 (clr (chg Z (16 + g.toNat) s)) (hoot (chg Z (16 + g.toNat) s)) 56) g) 0 10 = fnd (fun s : Nat => hb (rnds (npz Z) 0 (clr (chg Z (16 + g.toNat) s)) (hoot (chg Z (16 + g.toNat) s)) 56) g) i (10 - i) → ∀ M' : JM, RepR Z M' → VRx Z M' (16 + g.toNat) → fro M M' → JG E mm_M_price Q 20 [(0, vR 20 0), (1, vI g), (2, vI (i : Int))] [] M') 10 ?_ ?_ rfl M1 r1 (VRx_cp v1) f1
    · intro e M' r x f
      refine vc_M_price_20 _ _ _ ⟨fun _ => ?_, fun z => by omega⟩
      rw [e, fnd_e] at hQ
      exact hQ M' r (fro_keepC f)
    · intro i hi ih e M' r x f
      rw [fnd_s (by omega)] at e
      refine vc_M_price_20 _ _ _ ⟨fun z => by omega, fun _ => ?_⟩
      rw [w32_id (x := 236 + g) (by omega) (by omega), show (236 + g).toNat = 220 + (16 + g.toNat) by omega]
      refine ⟨by omega, fun M2 e2 => ?_⟩
      have v2 := VRx_pt x e2
      have f2 : fro M' M2 := by rw [e2]; exact fro_pt (by omega)
      refine R_tries hZ (fro_R f2 r) (chg_wor hZ o1 (by omega)) v2 (fun M3 r3 a3 f3 => ?_)
      have ff := fro_tr f (fro_tr f2 (frb_fro (by omega) f3))
      rw [a3.2]
      refine ⟨fun q a ea => ?_, fun q => ?_⟩
      · rw [if_neg q] at e
        rw [ea, w32_s (by omega)]
        exact ih e M3 r3 (VRx_f f3 (by rw [e2]; exact VRx_p x)) ff
      · rw [e, if_pos q] at hQ
        exact hQ M3 r3 (fro_keepC ff)
  · rw [if_neg h] at hQ; exact hQ M hR (keepC_rf M)
end

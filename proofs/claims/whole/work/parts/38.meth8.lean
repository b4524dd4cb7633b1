/-! wages never are less; kind, swap -/
theorem sm_le {f g : Nat → Int} : ∀ n : Nat, (∀ k, k < n → f k ≤ g k) → sm f n ≤ sm g n
  | 0, _ => Int.le_refl _
  | n + 1, h => by
    have ih := sm_le n (fun k hk => h k (by omega))
    have := h n (by omega)
    simp only [sm]
    omega
theorem wk_up {X : Nat → Int} {np : Nat} (hB : PB X np) (r : Nat) (ill : Int) {p : Nat} (hp : p < np) : X (37 + p) ≤ wk np r ill X (37 + p) := by
  have h4 := hB.2.1
  have h8 := ngd_le hB
  obtain ⟨g1, g2, g3, g4⟩ := rnds_ok (ill := ill) (clr_PB hB) (clr_AI hB) r
  have hb1 := pay_b g1 g2 hp
  have hw := (payN_w (rnds np ill (clr X) r) np h4 p (by omega)).1
  rw [if_pos hp, g4 (37 + p) (by omega), clr_lo (by omega)] at hw
  unfold wk
  rw [uf_n (by omega), brg_lo _ _ _ _ (by omega), hw]
  have := (hB.2.2.2.1 p hp).2
  omega
theorem wks_up {X : Nat → Int} {np : Nat} (hB : PB X np) {p : Nat} (hp : p < np) : ∀ n : Nat, X (37 + p) ≤ wks np X n (37 + p)
  | 0 => Int.le_refl _
  | n + 1 => Int.le_trans (wks_up hB hp n) (wk_up (wks_PB hB n) _ _ hp)
theorem wag_up {X : Nat → Int} {np : Nat} (hB : PB X np) (n : Nat) : wag np X ≤ wag np (wks np X n) := sm_le np (fun _ hp => wks_up hB hp n)
section
variable {E : EE} {Q : Int → JM → Prop} {M : JM} {Z : ZZ} {X : Nat → Int}
theorem chg_kin {g : Nat} {s : Int} (hZ : ZB Z) (hg : g < ngd (Z 0)) (hs : 0 ≤ s ∧ s ≤ 3) : PB (chg Z g s) (npz Z) := PB_k (cpy_PB hZ.1) (by rw [ngd_cpy]; exact hg) hs
theorem wag_chg {k : Nat} {s : Int} (hk : k < 37) (hZ : ZB Z) : wag (npz Z) (chg Z k s) = wag (npz Z) (Z 0) := by
  have h4 := hZ.1.2.1
  exact sm_c _ (fun p hp => chg_lo (by omega) (by omega))
def kindF (Z : ZZ) (g n : Nat) (k : Nat) : Int := wag (npz Z) (wks (npz Z) (chg Z g k) n)
def kindR (Z : ZZ) (g n : Nat) (k : Nat) : Int × Int := mx (fun _ => True) (kindF Z g n) (fun h => (h : Int)) (-4) (-1) k
def sp_kind (Z : ZZ) (g n w : Int) : Int := if (0 ≤ g ∧ g < Z 0 32) ∧ (0 ≤ n ∧ n ≤ 60) ∧ (0 ≤ w ∧ w ≤ 1) then bom Z (kindR Z g.toNat n.toNat 4) w else -1
theorem kindF_b {g n k : Nat} (hZ : ZB Z) (hg : g < ngd (Z 0)) (hk : k < 4) : wag (npz Z) (Z 0) ≤ kindF Z g n k ∧ kindF Z g n k ≤ 3996 := by
  have h8 := ngd_le hZ.1
  have hB := chg_kin (s := (k : Int)) hZ hg (by omega)
  refine ⟨?_, (wag_b (wks_PB hB n)).2⟩
  have := wag_up hB n
  rw [wag_chg (by omega) hZ] at this
  exact this
theorem kindR_b {g n k : Nat} (hZ : ZB Z) (hg : g < ngd (Z 0)) (hk : k ≤ 4) : -1 ≤ (kindR Z g n k).2 ∧ (kindR Z g n k).2 ≤ 3996 := mx_b k (by omega) (fun j hj _ => by have := kindF_b (n := n) hZ hg (k := j) (by omega); have := wag_b hZ.1; omega)
theorem kindR_0 {g n : Nat} (hZ : ZB Z) (hg : g < ngd (Z 0)) : kindR Z g n 1 = (0, kindF Z g n 0) := by
  have := kindF_b (n := n) hZ hg (k := 0) (by omega)
  have := wag_b hZ.1
  exact mx_y trivial (show (-1 : Int) < kindF Z g n 0 by omega)
theorem kindR_l {g n : Nat} (hZ : ZB Z) (hg : g < ngd (Z 0)) : ∀ k : Nat, 0 ≤ (kindR Z g n (k + 1)).1
  | 0 => by rw [kindR_0 hZ hg]; exact Int.le_refl _
  | k + 1 => by
    have ih := kindR_l (n := n) hZ hg k
    by_cases q : True ∧ (kindR Z g n (k + 1)).2 < kindF Z g n (k + 1)
    · rw [show kindR Z g n (k + 1 + 1) = (((k + 1 : Nat) : Int), kindF Z g n (k + 1)) from if_pos q]
      exact Int.natCast_nonneg _
    · rw [show kindR Z g n (k + 1 + 1) = kindR Z g n (k + 1) from if_neg q]
      exact ih
theorem H_tryKind {g : Int} {k : Nat} (hk : k < 4) (hZ : ZB Z) (hR : RepC Z M) (h : 0 ≤ g ∧ g < Z 0 32) (hQ : ∀ M' : JM, RepC Z M' → VC M' 1 (chg Z g.toNat k) (npz Z) → VT M' 1 (chg Z g.toNat k) → keepR M M' → Q 0 M') : JC E mm_H_tryKind [vR 0 0, vI g, vI (k : Int)] M Q := by
  obtain ⟨o1, o2⟩ := gN hZ h
  have h8 := ngd_le hZ.1
  obtain ⟨z0, z1, z2, z3⟩ := hZ.1.2.2.1 _ o1
  refine vc_H_tryKind _ _ _ (C_copy hZ hR (fun M1 r1 v1 t1 k1 => ⟨by omega, by omega, by omega, ?_⟩))
  have w1 : M1 1 (8 * 0 + g.toNat) 1 = cpy (Z 0) (8 + g.toNat) := by rw [cpy_lo (by omega)]; exact (r1.1.2.1 g.toNat o1).2.1
  have w2 : M1 1 (8 * 0 + g.toNat) 2 = cpy (Z 0) (16 + g.toNat) := by rw [cpy_lo (by omega)]; exact (r1.1.2.1 g.toNat o1).2.2.1
  rw [w1, w2]
  refine C_bec (by omega) (by rw [cpy_lo (by omega)]; exact z1) (by rw [cpy_lo (by omega)]; exact z2) hZ r1 o1 v1 (cpy_PB hZ.1) ngd_cpy t1 (fun M3 r3 v3 t3 k3 => ?_)
  exact hQ M3 r3 (VC_kind (by rw [ngd_cpy]; exact h8) hZ.1.2.1 (by omega) v3) (VT_chg (by omega) t3) (keepR_tr k1 k3)
theorem H_kind {g n w : Int} (hZ : ZB Z) (hR : RepC Z M) (hQ : ∀ M' : JM, RepC Z M' → keepR M M' → Q (sp_kind Z g n w) M') : JC E mm_H_kind [vR 0 0, vI g, vI n, vI w] M Q := by
  unfold sp_kind at hQ
  refine vc_H_kind _ _ _ _ (H_isGood hZ hR (fun hg => c10 (H_within (fun h => c10 (H_within (fun h2 => d10 ?_) (fun h2 => d00 ?_))) (fun h => c00 ?_))) (fun hg => c00 ?_))
  · rw [if_pos ⟨hg, h, h2⟩] at hQ
    obtain ⟨m, rfl⟩ : ∃ m : Nat, n = m := ⟨n.toNat, by omega⟩
    rw [Int.toNat_natCast] at hQ
    obtain ⟨o1, o2⟩ := gN hZ hg
    refine up_ind (P := fun i => ∀ M' : JM, RepC Z M' → keepR M M' → JG E mm_H_kind Q 39 [(0, vR 0 0), (1, vI g), (2, vI (m : Int)), (3, vI w), (4, vI (kindR Z g.toNat m i).1), (5, vI (kindR Z g.toNat m i).2), (6, vI (i : Int))] [] M') 4 ?_ ?_ M hR (keepR_rf M)
    · intro M' r k
      have hb1 := kindR_b (n := m) hZ o1 (Nat.le_refl 4)
      exact vc_H_kind_39 _ _ _ _ _ _ _ ⟨fun _ => H_bestOrMore hb1 hZ r (hQ M' r k), fun z => by omega⟩
    · intro i hi ih M' r k
      have hB3 := chg_kin (s := (i : Int)) hZ o1 (by omega)
      refine vc_H_kind_39 _ _ _ _ _ _ _ ⟨fun z => by omega, fun _ => H_tryKind hi hZ r hg (fun M1 r1 v1 t1 k1 => C_weeks (by omega) hZ r1 hB3 v1 t1 (fun M4 r4 v4 t4 k4 => T_wagesOfAll v4 (wks_PB hB3 m) ?_))⟩
      have kk := keepR_tr k (keepR_tr k1 k4)
      refine ⟨fun z2 a ea => ?_, fun z2 => T_wagesOfAll v4 (wks_PB hB3 m) (fun a ea => ?_)⟩
      · have e : kindR Z g.toNat m (i + 1) = kindR Z g.toNat m i := mx_n (fun q => Int.not_lt.mpr z2 q.2)
        rw [ea, w32_s (by omega), ← e]
        exact ih M4 r4 kk
      · have e : kindR Z g.toNat m (i + 1) = ((i : Int), kindF Z g.toNat m i) := mx_y trivial z2
        rw [ea, w32_s (by omega)]
        have q := ih M4 r4 kk
        rw [e] at q
        exact q
  · rw [if_neg (fun z => h2 z.2.2)] at hQ; exact hQ M hR (keepR_rf M)
  · rw [if_neg (fun z => h z.2.1)] at hQ; exact hQ M hR (keepR_rf M)
  · rw [if_neg (fun z => hg z.1)] at hQ; exact hQ M hR (keepR_rf M)
theorem M_kind {g n w : Int} (hZ : ZB Z) (hR : RepR Z M) (hQ : ∀ M' : JM, RepR Z M' → keepC M M' → Q (sp_kind Z g n w) M') : JC E mm_M_kind [vR 20 0, vI g, vI n, vI w] M Q := by
  unfold sp_kind at hQ
  refine vc_M_kind _ _ _ _ (M_isGoods hZ hR (fun hg => c10 (M_in (fun h => c10 (M_in (fun h2 => d10 (R_copy (c := 220) (by omega) hR (fun M1 r1 v1 f1 => ?_))) (fun h2 => d00 ?_))) (fun h => c00 ?_))) (fun hg => c00 ?_))
  · rw [if_pos ⟨hg, h, h2⟩] at hQ
    obtain ⟨m, rfl⟩ : ∃ m : Nat, n = m := ⟨n.toNat, by omega⟩
    rw [Int.toNat_natCast] at hQ
    obtain ⟨o1, o2⟩ := gN hZ hg
    have h8 := ngd_le hZ.1
    have hwb := wag_b hZ.1
    refine up_ind (P := fun i => ∀ M' : JM, RepR Z M' → VRx Z M' g.toNat → fro M M' → JG E mm_M_kind Q 49 [(0, vR 20 0), (1, vI g), (2, vI (m : Int)), (3, vI w), (4, vI (if i = 0 then -1 else (kindR Z g.toNat m i).2 - wag (npz Z) (Z 0))), (5, vI (if i = 0 then 0 else (kindR Z g.toNat m i).1)), (6, vI (i : Int))] [] M') 4 ?_ ?_ M1 r1 (VRx_cp v1) f1
    · intro M' r x f
      have q := hQ M' r (fro_keepC f)
      have l0 : 0 ≤ (kindR Z g.toNat m 4).1 := kindR_l (n := m) hZ o1 3
      unfold bom at q
      rw [if_neg (by omega)] at q
      refine vc_M_kind_49 _ _ _ _ _ _ _ ⟨fun _ => ⟨fun z => ?_, fun z => ?_⟩, fun z => by omega⟩
      · rw [if_neg z] at q
        rw [if_neg (by omega)]; exact q
      · rw [if_pos z] at q
        rw [if_neg (by omega)]; exact q
    · intro i hi ih M' r x f
      have hB3 := chg_kin (s := (i : Int)) hZ o1 (by omega)
      have hkb := kindF_b (n := m) hZ o1 hi
      refine vc_M_kind_49 _ _ _ _ _ _ _ ⟨fun z => by omega, fun _ => ?_⟩
      rw [w32_id (x := 220 + g) (by omega) (by omega), show (220 + g).toNat = 220 + g.toNat by omega]
      refine ⟨by omega, fun M2 e2 => ?_⟩
      have v2 := VRx_pt x e2
      have f2 : fro M' M2 := by rw [e2]; exact fro_pt (by omega)
      refine R_weeks (b := 220) (by omega) (by omega) hZ (fro_R f2 r) hB3 v2 (fun M3 r3 v3 t3 f3 => ?_)
      rw [cpy_chg (by omega)]
      have ff := fro_tr f (fro_tr f2 (frb_fro (by omega) f3))
      have xx := VRx_f f3 (show VRx Z M2 g.toNat by rw [e2]; exact VRx_p x)
      have q := ih M3 r3 xx ff
      rw [if_neg (by omega), if_neg (by omega)] at q
      show ((kindF Z g.toNat m i - _ ≤ _ → _) ∧ (_ < kindF Z g.toNat m i - _ → _))
      by_cases h0 : i = 0
      · subst h0
        rw [if_pos rfl, if_pos rfl]
        rw [show kindR Z g.toNat m (0 + 1) = (0, kindF Z g.toNat m 0) from kindR_0 hZ o1] at q
        refine ⟨fun z2 => by omega, fun z2 => vc_M_kind_91 _ _ _ _ _ _ _ _ ⟨fun z3 => absurd z2 (Int.not_lt.mpr z3), fun _ a ea => ?_⟩⟩
        rw [ea, w32_s (by omega)]
        exact q
      · rw [if_neg h0, if_neg h0]
        refine ⟨fun z2 => vc_M_kind_91 _ _ _ _ _ _ _ _ ⟨fun _ a ea => ?_, fun z3 => absurd z2 (Int.not_le.mpr z3)⟩, fun z2 => vc_M_kind_91 _ _ _ _ _ _ _ _ ⟨fun z3 => absurd z2 (Int.not_lt.mpr z3), fun _ a ea => ?_⟩⟩
        · have e : kindR Z g.toNat m (i + 1) = kindR Z g.toNat m i := mx_n (fun q => Int.not_lt.mpr (show kindF Z g.toNat m i ≤ (kindR Z g.toNat m i).2 by omega) q.2)
          rw [e] at q
          rw [ea, w32_s (by omega)]
          exact q
        · have e : kindR Z g.toNat m (i + 1) = ((i : Int), kindF Z g.toNat m i) := mx_y trivial (show (kindR Z g.toNat m i).2 < kindF Z g.toNat m i by omega)
          rw [e] at q
          rw [ea, w32_s (by omega)]
          exact q
  · rw [if_neg (fun z => h2 z.2.2)] at hQ; exact hQ M hR (keepC_rf M)
  · rw [if_neg (fun z => h z.2.1)] at hQ; exact hQ M hR (keepC_rf M)
  · rw [if_neg (fun z => hg z.1)] at hQ; exact hQ M hR (keepC_rf M)
end

/-! numbers that are as seen -/
def nmb (f : Nat → Int) (lo : Nat) : Nat → Int
  | 0 => 0
  | i + 1 => if f (lo + i) = 0 then nmb f lo i else or32 (nmb f lo i) (shl32 1 ((lo + i : Nat) : Int))
theorem nmb_b {f : Nat → Int} {lo : Nat} : ∀ i : Nat, lo + i ≤ 31 → 0 ≤ nmb f lo i ∧ nmb f lo i < 2 ^ (lo + i)
  | 0, _ => ⟨Int.le_refl _, by
      show (0 : Int) < 2 ^ (lo + 0)
      have : (0 : Nat) < 2 ^ (lo + 0) := Nat.pow_pos (by decide)
      exact_mod_cast this⟩
  | i + 1, h => by
    have ih := nmb_b (f := f) (lo := lo) i (by omega)
    have hp : (2 : Int) ^ (lo + i) < 2 ^ (lo + (i + 1)) := by
      have : 2 ^ (lo + i) < 2 ^ (lo + (i + 1)) := Nat.pow_lt_pow_right (by decide) (by omega)
      exact_mod_cast this
    unfold nmb
    split
    · omega
    · exact or_small ih.1 (by omega) (by omega) h
theorem nmb_R {f : Nat → Int} {lo i : Nat} (h : lo + i ≤ 30) : inR (nmb f lo i) := by
  have b := nmb_b (f := f) (lo := lo) i (by omega)
  have hp : (2 : Nat) ^ (lo + i) ≤ 2 ^ 30 := Nat.pow_le_pow_right (by decide) h
  have e : ((2 ^ (lo + i) : Nat) : Int) = (2 : Int) ^ (lo + i) := by rw [Int.natCast_pow]; rfl
  unfold inR
  have h2 : ((2 ^ (lo + i) : Nat) : Int) ≤ 1073741824 := by
    have : (2 : Nat) ^ 30 = 1073741824 := by decide
    omega
  omega
section
variable {E : EE} {Q : Int → JM → Prop} {M : JM} {Z : ZZ} {X : Nat → Int}
theorem zu_zu {k : Nat} {x v : Int} : zu (zu Z 0 k x) 0 k v = zu Z 0 k v := by
  funext a j
  unfold zu
  split
  · rfl
  · rfl
theorem zu_id {k : Nat} : zu Z 0 k (Z 0 k) = Z := by
  funext a j
  unfold zu
  split
  · rename_i h; rw [h.1, h.2]
  · rfl
theorem okZ_u {k : Nat} {v : Int} : okZ (zu Z 0 k v) X = okZ Z X := by
  have e8 : zu Z 0 k v 8 = Z 8 := zu_r (by omega)
  have e3 : zu Z 0 k v 3 = Z 3 := zu_r (by omega)
  unfold okZ seenN npz
  rw [e8, e3]
theorem cpy_u {k : Nat} {v : Int} (hk : k < 44) : cpy (zu Z 0 k v 0) = chg Z k v := by
  rw [zu_a]
  funext j
  unfold chg cpy uf
  dsimp only
  by_cases h : j = 56 ∨ j = 57 ∨ j = 58
  · rw [if_pos h, if_neg (by omega), if_pos h]
  · rw [if_neg h, if_neg h]
theorem npz_u {k : Nat} {v : Int} : npz (zu Z 0 k v) = npz Z := npz_c (by rw [zu_n (by omega)])
theorem M_numbersAt {k lo n : Nat} (hk : k < 44) (hn : lo + n ≤ 21) (hn0 : 1 ≤ n) (hZ : ZB Z) (hP : ∀ v : Nat, lo ≤ v → v < lo + n → PB (uf (Z 0) k v) (npz Z)) (hR : RepR Z M) (hQ : ∀ M' : JM, RepR Z M' → keepC M M' → (∀ v, lo ≤ v → v < lo + n → rowM M' (npz Z) v (chg Z k v) 21) → Q (nmb (fun v => okZ Z (chg Z k v)) lo n) M') : JC E mm_M_numbersAt [vR 20 0, vI (k : Int), vI (lo : Int), vI ((lo + n : Nat) - 1 : Int)] M Q := by
  refine vc_M_numbersAt _ _ _ _ ⟨by omega, fun a ea => ?_⟩
  have e0 : M 21 0 k = Z 0 k := by have := hR.1.1 k hk; rw [Nat.zero_add] at this; exact this
  rw [Int.toNat_natCast, e0] at ea
  subst ea
  refine up_ind (P := fun i => ∀ (x : Int) (M' : JM), RepR (zu Z 0 k x) M' → keepC M M' → (∀ v, lo ≤ v → v < lo + i → rowM M' (npz Z) v (chg Z k v) 21) → JG E mm_M_numbersAt Q 14 [(0, vR 20 0), (1, vI (k : Int)), (3, vI ((lo + n : Nat) - 1 : Int)), (4, vI (Z 0 k)), (5, vI (nmb (fun v => okZ Z (chg Z k v)) lo i)), (6, vI ((lo + i : Nat) : Int))] [] M') n ?_ ?_ (Z 0 k) M (by rw [zu_id]; exact hR) (keepC_rf M) (fun v h1 h2 => by omega)
  · intro x M' r kk w
    refine vc_M_numbersAt_14 _ _ _ _ _ _ ⟨fun _ => ⟨by omega, fun M1 e1 => ?_⟩, fun z => by omega⟩
    rw [Int.toNat_natCast] at e1
    have r1 := RepR_place r hk e1
    rw [zu_zu, zu_id] at r1
    exact hQ M1 r1 (keepC_tr kk (by rw [e1]; exact keepC_pt (by omega))) (fun v h1 h2 j p hj hp => by rw [e1, pt_ne (by omega)]; exact w v h1 h2 j p hj hp)
  · intro i hi ih x M' r kk w
    refine vc_M_numbersAt_14 _ _ _ _ _ _ ⟨fun z => by omega, fun _ => ⟨by omega, fun M2 e2 => ?_⟩⟩
    rw [Int.toNat_natCast] at e2
    have r2 := RepR_place r hk e2
    rw [zu_zu] at r2
    have hZ2 : ZB (zu Z 0 k ((lo + i : Nat) : Int)) := by rw [zu_zp]; exact ZB_now hZ (hP (lo + i) (by omega) (by omega))
    refine M_isAsSeen (v := lo + i) (by omega) hZ2 r2 (fun M3 f3 o3 w3 => ?_)
    rw [okZ_u, cpy_u hk]
    rw [cpy_u hk, npz_u] at w3
    have r3 := frs_R f3 r2
    have k3 : keepC M M3 := keepC_tr kk (fun t a b q => by rw [f3 t a b (by omega), e2, pt_ne (by omega)])
    have ws : ∀ v, lo ≤ v → v < lo + (i + 1) → rowM M3 (npz Z) v (chg Z k v) 21 := by
      intro v h1 h2
      by_cases y : v = lo + i
      · rw [y]; exact w3
      · intro j p hj hp
        have h4 := hZ.1.2.1
        rw [o3 _ (by omega), e2, pt_ne (by omega)]
        exact w v h1 (by omega) j p hj hp
    have q := ih _ M3 r3 k3 ws
    refine ⟨fun y => vc_M_numbersAt_47 _ _ _ _ _ _ _ (fun a1 e1 a2 ea2 => ?_), fun y => vc_M_numbersAt_47 _ _ _ _ _ _ _ (fun a1 e1 a2 ea2 => ?_)⟩
    · rw [show nmb (fun v => okZ Z (chg Z k v)) lo (i + 1) = nmb (fun v => okZ Z (chg Z k v)) lo i from if_pos y] at q
      rw [or_0 (nmb_R (by omega))] at e1
      rw [e1, ea2, w32_s (by omega)]
      exact q
    · rw [show nmb (fun v => okZ Z (chg Z k v)) lo (i + 1) = or32 (nmb (fun v => okZ Z (chg Z k v)) lo i) (shl32 1 ((lo + i : Nat) : Int)) from if_neg y] at q
      rw [e1, ea2, w32_s (by omega)]
      exact q
def sp_kinds (Z : ZZ) (g : Int) : Int := if 0 ≤ g ∧ g < Z 0 32 then nmb (fun v => okZ Z (chg Z g.toNat v)) 0 4 else -1
def sp_weights (Z : ZZ) (g : Int) : Int := if 0 ≤ g ∧ g < Z 0 32 then nmb (fun v => okZ Z (chg Z (8 + g.toNat) v)) 1 9 else -1
def strZ (Z : ZZ) (p : Nat) : Int := nmb (fun v => okZ Z (chg Z (33 + p) v)) 1 20
def sp_strengths (Z : ZZ) (p : Int) : Int := if 0 ≤ p ∧ p < Z 3 0 then strZ Z p.toNat else -1
theorem H_kinds {g : Int} (hZ : ZB Z) (hR : RepC Z M) (hQ : ∀ M' : JM, RepC Z M' → keepR M M' → Q (sp_kinds Z g) M') : JC E mm_H_kinds [vR 0 0, vI g] M Q := by
  unfold sp_kinds at hQ
  refine vc_H_kinds _ _ (H_isGood hZ hR (fun h => d10 ?_) (fun h => d00 ?_))
  · rw [if_pos h] at hQ
    obtain ⟨o1, o2⟩ := gN hZ h
    refine up_ind (P := fun i => ∀ M' : JM, RepC Z M' → keepR M M' → JG E mm_H_kinds Q 14 [(0, vR 0 0), (1, vI g), (2, vI (nmb (fun v => okZ Z (chg Z g.toNat v)) 0 i)), (3, vI (i : Int))] [] M') 4 ?_ ?_ M hR (keepR_rf M)
    · intro M' r k
      exact vc_H_kinds_14 _ _ _ _ ⟨fun _ => hQ M' r k, fun z => by omega⟩
    · intro i hi ih M' r k
      refine vc_H_kinds_14 _ _ _ _ ⟨fun z => by omega, fun _ => H_tryKind hi hZ r h (fun M1 r1 v1 t1 k1 => C_goes hZ r1 (chg_kin hZ o1 (by omega)) v1 t1 (fun M2 r2 k2 => ?_))⟩
      have q := ih M2 r2 (keepR_tr k (keepR_tr k1 k2))
      have e0 : okZ Z (chg Z g.toNat ((0 + i : Nat) : Int)) = okZ Z (chg Z g.toNat (i : Int)) := by rw [Nat.zero_add]
      refine ⟨fun y a ea => ?_, fun y a ea a2 ea2 => ?_⟩
      · rw [show nmb (fun v => okZ Z (chg Z g.toNat v)) 0 (i + 1) = nmb (fun v => okZ Z (chg Z g.toNat v)) 0 i from if_pos (e0.trans y)] at q
        rw [ea, w32_s (by omega)]
        exact q
      · rw [show nmb (fun v => okZ Z (chg Z g.toNat v)) 0 (i + 1) = or32 (nmb (fun v => okZ Z (chg Z g.toNat v)) 0 i) (shl32 1 ((0 + i : Nat) : Int)) from if_neg (fun z => y (e0.symm.trans z)), Nat.zero_add] at q
        rw [ea, ea2, w32_s (by omega)]
        exact q
  · rw [if_neg h] at hQ; exact hQ M hR (keepR_rf M)
theorem M_kinds {g : Int} (hZ : ZB Z) (hR : RepR Z M) (hQ : ∀ M' : JM, RepR Z M' → keepC M M' → Q (sp_kinds Z g) M') : JC E mm_M_kinds [vR 20 0, vI g] M Q := by
  unfold sp_kinds at hQ
  refine vc_M_kinds _ _ (M_isGoods hZ hR (fun h => c10 ?_) (fun h => c00 ?_))
  · rw [if_pos h] at hQ
    obtain ⟨o1, o2⟩ := gN hZ h
    have h8 := ngd_le hZ.1
    rw [show vI g = vI ((g.toNat : Nat) : Int) by rw [o2]]
    exact M_numbersAt (lo := 0) (n := 4) (by omega) (by omega) (by omega) hZ (fun v _ hv => PB_k hZ.1 o1 (by omega)) hR (fun M' r k _ => hQ M' r k)
  · rw [if_neg h] at hQ; exact hQ M hR (keepC_rf M)
theorem chg_wei {g : Nat} {s : Int} (hZ : ZB Z) (hg : g < ngd (Z 0)) (hs : 1 ≤ s ∧ s ≤ 9) : PB (chg Z (8 + g) s) (npz Z) := PB_w (cpy_PB hZ.1) (by rw [ngd_cpy]; exact hg) hs
theorem H_weights {g : Int} (hZ : ZB Z) (hR : RepC Z M) (hQ : ∀ M' : JM, RepC Z M' → keepR M M' → Q (sp_weights Z g) M') : JC E mm_H_weights [vR 0 0, vI g] M Q := by
  unfold sp_weights at hQ
  refine vc_H_weights _ _ (H_isGood hZ hR (fun h => d10 ?_) (fun h => d00 ?_))
  · rw [if_pos h] at hQ
    obtain ⟨o1, o2⟩ := gN hZ h
    have h8 := ngd_le hZ.1
    obtain ⟨z0, z1, z2, z3⟩ := hZ.1.2.2.1 _ o1
    refine up_ind (P := fun i => ∀ M' : JM, RepC Z M' → keepR M M' → JG E mm_H_weights Q 14 [(0, vR 0 0), (1, vI g), (2, vI (nmb (fun v => okZ Z (chg Z (8 + g.toNat) v)) 1 i)), (3, vI ((1 + i : Nat) : Int))] [] M') 9 ?_ ?_ M hR (keepR_rf M)
    · intro M' r k
      exact vc_H_weights_14 _ _ _ _ ⟨fun _ => hQ M' r k, fun z => by omega⟩
    · intro i hi ih M' r k
      refine vc_H_weights_14 _ _ _ _ ⟨fun z => by omega, fun _ => C_copy hZ r (fun M1 r1 v1 t1 k1 => ⟨by omega, by omega, by omega, ?_⟩)⟩
      have w0 : M1 1 (8 * 0 + g.toNat) 0 = cpy (Z 0) g.toNat := by rw [cpy_lo (by omega)]; exact (r1.1.2.1 g.toNat o1).1
      have w2 : M1 1 (8 * 0 + g.toNat) 2 = cpy (Z 0) (16 + g.toNat) := by rw [cpy_lo (by omega)]; exact (r1.1.2.1 g.toNat o1).2.2.1
      rw [w0, w2]
      refine C_bec (by rw [cpy_lo (by omega)]; exact z0) (by omega) (by rw [cpy_lo (by omega)]; exact z2) hZ r1 o1 v1 (cpy_PB hZ.1) ngd_cpy t1 (fun M3 r3 v3 t3 k3 => ?_)
      have v4 : VC M3 1 (chg Z (8 + g.toNat) ((1 + i : Nat) : Int)) (npz Z) := VC_weight (by rw [ngd_cpy]; exact h8) hZ.1.2.1 (by omega) v3
      refine C_goes hZ r3 (chg_wei hZ o1 (by omega)) v4 (VT_chg (by omega) t3) (fun M2 r2 k2 => ?_)
      have q := ih M2 r2 (keepR_tr k (keepR_tr k1 (keepR_tr k3 k2)))
      refine ⟨fun y a ea => ?_, fun y a ea a2 ea2 => ?_⟩
      · rw [show nmb (fun v => okZ Z (chg Z (8 + g.toNat) v)) 1 (i + 1) = nmb (fun v => okZ Z (chg Z (8 + g.toNat) v)) 1 i from if_pos y] at q
        rw [ea, w32_s (by omega)]
        exact q
      · rw [show nmb (fun v => okZ Z (chg Z (8 + g.toNat) v)) 1 (i + 1) = or32 (nmb (fun v => okZ Z (chg Z (8 + g.toNat) v)) 1 i) (shl32 1 ((1 + i : Nat) : Int)) from if_neg y] at q
        rw [ea, ea2, w32_s (by omega)]
        exact q
  · rw [if_neg h] at hQ; exact hQ M hR (keepR_rf M)
theorem M_weights {g : Int} (hZ : ZB Z) (hR : RepR Z M) (hQ : ∀ M' : JM, RepR Z M' → keepC M M' → Q (sp_weights Z g) M') : JC E mm_M_weights [vR 20 0, vI g] M Q := by
  unfold sp_weights at hQ
  refine vc_M_weights _ _ (M_isGoods hZ hR (fun h => c10 ?_) (fun h => c00 ?_))
  · rw [if_pos h] at hQ
    obtain ⟨o1, o2⟩ := gN hZ h
    have h8 := ngd_le hZ.1
    rw [w32_id (by omega) (by omega), show 8 + g = ((8 + g.toNat : Nat) : Int) by omega]
    exact M_numbersAt (lo := 1) (n := 9) (by omega) (by omega) (by omega) hZ (fun v _ hv => PB_w hZ.1 o1 (by omega)) hR (fun M' r k _ => hQ M' r k)
  · rw [if_neg h] at hQ; exact hQ M hR (keepC_rf M)
theorem H_strengthsAsSeen {p : Int} (hZ : ZB Z) (hR : RepC Z M) (h : 0 ≤ p ∧ p < Z 3 0) (hQ : ∀ M' : JM, RepC Z M' → keepR M M' → Q (strZ Z p.toNat) M') : JC E mm_H_strengthsAsSeen [vR 0 0, vI p] M Q := by
  unfold strZ at hQ
  obtain ⟨o1, o2⟩ := oN hZ h
  have h4 := np4 hZ
  refine vc_H_strengthsAsSeen _ _ ?_
  refine up_ind (P := fun i => ∀ M' : JM, RepC Z M' → keepR M M' → JG E mm_H_strengthsAsSeen Q 4 [(0, vR 0 0), (1, vI p), (2, vI (nmb (fun v => okZ Z (chg Z (33 + p.toNat) v)) 1 i)), (3, vI ((1 + i : Nat) : Int))] [] M') 20 ?_ ?_ M hR (keepR_rf M)
  · intro M' r k
    exact vc_H_strengthsAsSeen_4 _ _ _ _ ⟨fun _ => hQ M' r k, fun z => by omega⟩
  · intro i hi ih M' r k
    refine vc_H_strengthsAsSeen_4 _ _ _ _ ⟨fun z => by omega, fun _ => C_copy hZ r (fun M1 r1 v1 t1 k1 => ⟨by omega, fun M3 e3 => ?_⟩)⟩
    obtain ⟨r3, v3, t3, k3⟩ := C_str hZ r1 o1 v1 t1 e3
    refine C_goes hZ r3 (chg_str hZ o1 (by omega)) v3 t3 (fun M2 r2 k2 => ?_)
    have q := ih M2 r2 (keepR_tr k (keepR_tr k1 (keepR_tr k3 k2)))
    refine ⟨fun y a ea => ?_, fun y a ea a2 ea2 => ?_⟩
    · rw [show nmb (fun v => okZ Z (chg Z (33 + p.toNat) v)) 1 (i + 1) = nmb (fun v => okZ Z (chg Z (33 + p.toNat) v)) 1 i from if_pos y] at q
      rw [ea, w32_s (by omega)]
      exact q
    · rw [show nmb (fun v => okZ Z (chg Z (33 + p.toNat) v)) 1 (i + 1) = or32 (nmb (fun v => okZ Z (chg Z (33 + p.toNat) v)) 1 i) (shl32 1 ((1 + i : Nat) : Int)) from if_neg y] at q
      rw [ea, ea2, w32_s (by omega)]
      exact q
theorem H_strengths {p : Int} (hZ : ZB Z) (hR : RepC Z M) (hQ : ∀ M' : JM, RepC Z M' → keepR M M' → Q (sp_strengths Z p) M') : JC E mm_H_strengths [vR 0 0, vI p] M Q := by
  unfold sp_strengths at hQ
  refine vc_H_strengths _ _ (H_isOne hZ hR (fun h => d10 ?_) (fun h => d00 ?_))
  · rw [if_pos h] at hQ
    exact H_strengthsAsSeen hZ hR h hQ
  · rw [if_neg h] at hQ; exact hQ M hR (keepR_rf M)
theorem M_strs {p : Int} (hZ : ZB Z) (hR : RepR Z M) (h : 0 ≤ p ∧ p < Z 3 0) (hQ : ∀ M' : JM, RepR Z M' → keepC M M' → (∀ v, 1 ≤ v → v < 21 → rowM M' (npz Z) v (chg Z (33 + p.toNat) v) 21) → Q (strZ Z p.toNat) M') : JC E mm_M_numbersAt [vR 20 0, vI (w32 (33 + p)), vI 1, vI 20] M Q := by
  obtain ⟨o1, o2⟩ := oN hZ h
  have h4 := np4 hZ
  rw [w32_id (by omega) (by omega), show 33 + p = ((33 + p.toNat : Nat) : Int) by omega]
  exact M_numbersAt (lo := 1) (n := 20) (by omega) (by omega) (by omega) hZ (fun v _ hv => PB_s hZ.1 o1 (by omega)) hR hQ
theorem M_strengths {p : Int} (hZ : ZB Z) (hR : RepR Z M) (hQ : ∀ M' : JM, RepR Z M' → keepC M M' → Q (sp_strengths Z p) M') : JC E mm_M_strengths [vR 20 0, vI p] M Q := by
  unfold sp_strengths at hQ
  refine vc_M_strengths _ _ (M_isOne hZ hR (fun h => c10 ?_) (fun h => c00 ?_))
  · rw [if_pos h] at hQ
    exact M_strs hZ hR h (fun M' r k _ => hQ M' r k)
  · rw [if_neg h] at hQ; exact hQ M hR (keepC_rf M)
end

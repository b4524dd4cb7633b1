/-! pages that differ in the hooter and in how often was taken -/
def nx (X Y : Nat → Int) : Prop := ∀ j, ¬ j = 41 → ¬ j = 57 → X j = Y j
theorem nx_hp {X Y : Nat → Int} (h : nx X Y) {g : Nat} (hg : g < 8) : heft X g = heft Y g ∧ pays X g = pays Y g := by
  unfold heft pays
  rw [h g (by omega) (by omega), h (8 + g) (by omega) (by omega), h (16 + g) (by omega) (by omega)]
  exact ⟨rfl, rfl⟩
theorem nx_ng {X Y : Nat → Int} (h : nx X Y) : ngd X = ngd Y := by unfold ngd; rw [h 32 (by omega) (by omega)]
theorem nx_bst {X Y : Nat → Int} (h : nx X Y) (fr : Int) : ∀ k : Nat, k ≤ 8 → bst X fr k = bst Y fr k
  | 0, _ => rfl
  | k + 1, hk => by
    unfold bst
    rw [nx_bst h fr k (by omega), h (24 + k) (by omega) (by omega), (nx_hp h (g := k) (by omega)).1, (nx_hp h (g := k) (by omega)).2]
theorem nx_turn {X Y : Nat → Int} (h : nx X Y) {p : Nat} (hp : p < 4) (h8 : ngd X ≤ 8) : nx (turn X p) (turn Y p) := by
  have e : bst X (X (33 + p) - X (48 + p)) (ngd X) = bst Y (Y (33 + p) - Y (48 + p)) (ngd Y) := by
    rw [← nx_ng h, ← h (33 + p) (by omega) (by omega), ← h (48 + p) (by omega) (by omega)]
    exact nx_bst h _ _ h8
  unfold turn
  rw [e]
  rcases bst_c Y (Y (33 + p) - Y (48 + p)) (ngd Y) with hc | ⟨g, h1, h2, h3, -⟩
  · rw [if_pos (by omega), if_pos (by omega)]; exact h
  · rw [if_neg (by omega), if_neg (by omega), h2, Int.toNat_natCast]
    rw [nx_ng h] at h8
    intro j hj hj2
    unfold take
    rw [h (44 + p) (by omega) (by omega), h (48 + p) (by omega) (by omega), h (52 + p) (by omega) (by omega), h 56 (by omega) (by omega), (nx_hp h (g := g) (by omega)).1, h j hj hj2]
    rw [if_neg (c := j = 57) hj2, if_neg (c := j = 57) hj2]
theorem nx_rnd {X Y : Nat → Int} {np : Nat} (h : nx X Y) (ill : Int) (hB : PB X np) (hA : AI X np) : ∀ p : Nat, p ≤ np → nx (rnd ill X p) (rnd ill Y p)
  | 0, _ => h
  | p + 1, hp => by
    have h4 := hB.2.1
    have ih := nx_rnd h ill hB hA p (by omega)
    have h8 := ngd_le (rnd_ok (ill := ill) hB hA p (by omega)).1
    unfold rnd
    split
    · exact ih
    · exact nx_turn ih (by omega) h8
theorem nx_rnds {X Y : Nat → Int} {np : Nat} (h : nx X Y) (ill : Int) (hB : PB X np) (hA : AI X np) : ∀ r : Nat, nx (rnds np ill X r) (rnds np ill Y r)
  | 0 => h
  | r + 1 => by
    obtain ⟨h1, h2, -, -⟩ := rnds_ok (ill := ill) hB hA r
    exact nx_rnd (nx_rnds h ill hB hA r) ill h1 h2 np (Nat.le_refl _)
theorem nx_clr {X Y : Nat → Int} (h : nx X Y) : nx (clr X) (clr Y) := fun j hj hj2 => by
  unfold clr
  rw [h j hj hj2]
theorem nx_payN {X Y : Nat → Int} (h : nx X Y) : ∀ k : Nat, k ≤ 4 → nx (payN X k) (payN Y k)
  | 0, _ => h
  | k + 1, hk => by
    have ih := nx_payN h k (by omega)
    intro j hj hj2
    show pay1 (payN X k) k j = pay1 (payN Y k) k j
    unfold pay1
    rw [ih (37 + k) (by omega) (by omega), ih (52 + k) (by omega) (by omega), ih (48 + k) (by omega) (by omega), ih (33 + k) (by omega) (by omega), ih 58 (by omega) (by omega), ih j hj hj2]
theorem nx_brg {X Y : Nat → Int} (h : nx X Y) (m : Int) : ∀ k : Nat, k ≤ 8 → (brg m X k).1 = (brg m Y k).1 ∧ nx (brg m X k).2 (brg m Y k).2
  | 0, _ => ⟨rfl, h⟩
  | k + 1, hk => by
    obtain ⟨i1, i2⟩ := nx_brg h m k (by omega)
    unfold brg
    rw [i1, h (24 + k) (by omega) (by omega)]
    split
    · refine ⟨rfl, fun j hj hj2 => ?_⟩
      simp only
      unfold uf
      rw [i2 j hj hj2]
    · exact ⟨i1, i2⟩
theorem nx_wk {X Y : Nat → Int} {np : Nat} (h : nx X Y) (r : Nat) (ill : Int) (hB : PB X np) : nx (wk np r ill X) (wk np r ill Y) := by
  have h1 := nx_rnds (nx_clr h) ill (clr_PB hB) (clr_AI hB) r
  have h2 := nx_payN h1 np hB.2.1
  have h8 := ngd_le hB
  intro j hj hj2
  unfold wk
  rw [← h 42 (by omega) (by omega), ← h 43 (by omega) (by omega), ← nx_ng h]
  have h3 := (nx_brg h2 (X 42 + 2) (ngd X) h8).2
  unfold uf
  rw [h3 j hj hj2]
theorem nx_uf {X Y : Nat → Int} (h : nx X Y) (k : Nat) (v : Int) : nx (uf X k v) (uf Y k v) := fun j hj hj2 => by unfold uf; rw [h j hj hj2]
theorem nx_wag {X Y : Nat → Int} {np : Nat} (h : nx X Y) (h4 : np ≤ 4) : wag np X = wag np Y := sm_c np (fun p hp => h (37 + p) (by omega) (by omega))
theorem wk_lo {X : Nat → Int} {np : Nat} (hB : PB X np) (r : Nat) (ill : Int) {j : Nat} (hj : j < 24 ∨ j = 32 ∨ j = 41 ∨ j = 42) : wk np r ill X j = X j := by
  have h8 := ngd_le hB
  have h4 := hB.2.1
  obtain ⟨g1, g2, g3, g4⟩ := rnds_ok (ill := ill) (clr_PB hB) (clr_AI hB) r
  unfold wk
  rw [uf_n (by omega), brg_lo _ _ _ _ (by omega), payN_lo _ _ h4 _ (by omega), g4 j (by omega), clr_lo (by omega)]
/-! drift -/
theorem bv_16 (x : BitVec 32) : x >>> 16 &&& 32767#32 = x.sshiftRight 16 &&& 32767#32 := by
  apply BitVec.eq_of_getLsbD_eq
  intro i hi
  rw [BitVec.getLsbD_and, BitVec.getLsbD_and, BitVec.getLsbD_sshiftRight, BitVec.getLsbD_ushiftRight]
  by_cases h : i < 15
  · simp [show ¬ 32 ≤ i by omega, show 16 + i < 32 by omega]
  · have e : BitVec.getLsbD 32767#32 i = false := by
      rw [BitVec.getLsbD_ofNat]
      have : Nat.testBit 32767 i = false := Nat.testBit_lt_two_pow (Nat.lt_of_lt_of_le (show 32767 < 2 ^ 15 by decide) (Nat.pow_le_pow_right (by decide) (by omega)))
      simp [this]
    rw [e]
    simp
theorem got_eq (x : Int) : and32 (ush32 x 16) 32767 = and32 (shr32 x 16) 32767 := by
  unfold and32 ush32 shr32
  rw [i32_t, i32_t]
  have k : ((i32 x).toUInt32 >>> ((i32 16).toUInt32 &&& Int32.toUInt32 31)).toInt32 &&& i32 32767 = i32 x >>> (i32 16 &&& 31) &&& i32 32767 := by
    apply Int32.toBitVec_inj.1
    rw [show (i32 16).toUInt32 &&& Int32.toUInt32 31 = (16 : UInt32) by decide, show i32 16 &&& 31 = (16 : Int32) by decide]
    rw [Int32.toBitVec_and, Int32.toBitVec_and, Int32.toBitVec_shiftRight, show ((16 : Int32).toBitVec.smod 32) = 16#32 by decide]
    exact bv_16 _
  rw [k]
theorem got_b (x : Int) : 0 ≤ and32 x 32767 ∧ and32 x 32767 ≤ 32767 := by
  unfold and32
  have e : (i32 x &&& i32 32767).toBitVec.toNat = (i32 x).toBitVec.toNat &&& 32767 := by
    rw [Int32.toBitVec_and, BitVec.toNat_and]
    rfl
  have h1 : (i32 x).toBitVec.toNat &&& 32767 ≤ 32767 := Nat.and_le_right
  have h2 : (i32 x &&& i32 32767).toInt = ((i32 x &&& i32 32767).toBitVec.toNat : Int) := by
    show BitVec.toInt _ = _
    rw [BitVec.toInt_eq_toNat_of_lt]
    rw [e]
    omega
  rw [h2, e]
  omega
def drS (s : Int) : Nat → Int
  | 0 => s
  | t + 1 => w32 (w32 (drS s t * 1103515245) + 12345)
def drG (s : Int) (t : Nat) : Int := and32 (shr32 (drS s (t + 1)) 16) 32767
def drI (Z : ZZ) (s : Int) (t : Nat) : Nat := (drG s t / 8 % Z 0 32).toNat
def drX (Z : ZZ) (s : Int) : Nat → Nat → Int
  | 0 => cpy (Z 0)
  | t + 1 => wk (npz Z) (drG s t % 7).toNat 0 (uf (drX Z s t) (8 + drI Z s t) (1 + drG s t / 64 % 9))
theorem drG_b (s : Int) (t : Nat) : 0 ≤ drG s t ∧ drG s t ≤ 32767 := got_b _
theorem dr_m {s : Int} {t : Nat} {m : Int} (hm : 1 ≤ m ∧ m ≤ 9) : w32 (Int.tmod (w32 (Int.tdiv (drG s t) 8)) m) = drG s t / 8 % m ∧ w32 (Int.tmod (w32 (Int.tdiv (drG s t) 64)) m) = drG s t / 64 % m ∧ w32 (Int.tmod (drG s t) m) = drG s t % m := by
  have hb := drG_b s t
  have q : ∀ x : Int, 0 ≤ x ∧ x ≤ 32767 → w32 (Int.tmod x m) = x % m := by
    intro x hx
    have h1 := Int.emod_nonneg x (show m ≠ 0 by omega)
    have h2 := Int.emod_lt_of_pos x (show 0 < m by omega)
    rw [Int.tmod_eq_emod_of_nonneg hx.1, w32_id (by omega) (by omega)]
  rw [Int.tdiv_eq_ediv_of_nonneg hb.1, Int.tdiv_eq_ediv_of_nonneg hb.1, w32_id (x := drG s t / 8) (by omega) (by omega), w32_id (x := drG s t / 64) (by omega) (by omega)]
  exact ⟨q _ (by omega), q _ (by omega), q _ (by omega)⟩
section
variable {E : EE} {Q : Int → JM → Prop} {M : JM} {Z : ZZ}
theorem drI_b (hZ : ZB Z) (h0 : ¬ Z 0 32 = 0) (s : Int) (t : Nat) : drI Z s t < ngd (Z 0) ∧ ((drI Z s t : Nat) : Int) = drG s t / 8 % Z 0 32 := by
  have hn := ngd_int hZ.1
  have h1 := Int.emod_nonneg (drG s t / 8) h0
  have h2 := Int.emod_lt_of_pos (drG s t / 8) (show 0 < Z 0 32 by omega)
  unfold drI
  omega
theorem drX_ok (hZ : ZB Z) (h0 : ¬ Z 0 32 = 0) (s : Int) : ∀ t : Nat, PB (drX Z s t) (npz Z) ∧ ngd (drX Z s t) = ngd (Z 0)
  | 0 => ⟨cpy_PB hZ.1, ngd_cpy⟩
  | t + 1 => by
    obtain ⟨a, b⟩ := drX_ok hZ h0 s t
    obtain ⟨i1, i2⟩ := drI_b hZ h0 s t
    have h8 := ngd_le hZ.1
    have hb := drG_b s t
    have c : PB (uf (drX Z s t) (8 + drI Z s t) (1 + drG s t / 64 % 9)) (npz Z) := PB_w a (by omega) (by omega)
    refine ⟨wk_PB c _ _, ?_⟩
    show ngd (wk _ _ _ _) = _
    unfold ngd
    rw [wk_lo c _ _ (by omega), uf_n (by omega)]
    exact b
def sp_drift (Z : ZZ) (s n w : Int) : Int := if (1 ≤ n ∧ n ≤ 60) ∧ (0 ≤ w ∧ w ≤ 1) then (if Z 0 32 = 0 then -2 else if w = 0 then wag (npz Z) (drX Z s n.toNat) - wag (npz Z) (Z 0) else drX Z s n.toNat 58) else -1
theorem H_drift {s n w : Int} (hZ : ZB Z) (hR : RepC Z M) (hQ : ∀ M' : JM, RepC Z M' → keepR M M' → Q (sp_drift Z s n w) M') : JC E mm_H_drift [vR 0 0, vI s, vI n, vI w] M Q := by
  unfold sp_drift at hQ
  refine vc_H_drift _ _ _ _ (H_within (fun h => c10 (H_within (fun h2 => d10 ?_) (fun h2 => d00 ?_))) (fun h => c00 ?_))
  · rw [if_pos ⟨h, h2⟩] at hQ
    rw [hR.1.1.1]
    refine ⟨fun h0 => C_copy hZ hR (fun M1 r1 v1 t1 k1 => ?_), fun h0 => ?_⟩
    · rw [if_neg h0] at hQ
      obtain ⟨N, rfl⟩ : ∃ N : Nat, n = N := ⟨n.toNat, by omega⟩
      rw [Int.toNat_natCast] at hQ
      have h8 := ngd_le hZ.1
      have hn := ngd_int hZ.1
      refine up_ind (P := fun i => ∀ (X : Nat → Int) (M' : JM), nx X (drX Z s i) → PB X (npz Z) → RepC Z M' → VC M' 1 X (npz Z) → VT M' 1 X → keepR M M' → JG E mm_H_drift Q 51 [(0, vR 0 0), (2, vI (N : Int)), (3, vI w), (4, vI (drS s i)), (5, vI (i : Int))] [] M') N ?_ ?_ (cpy (Z 0)) M1 (fun _ _ _ => rfl) (cpy_PB hZ.1) r1 v1 t1 k1
      · intro X M' x b r v t k
        have q := hQ M' r k
        have b1 := wag_b b
        have b2 := wag_b hZ.1
        refine vc_H_drift_51 _ _ _ _ _ ⟨fun _ => ⟨fun z => ?_, fun z => T_wagesOfAll v b (T_wagesOfAll r.1 hZ.1 ?_)⟩, fun z => by omega⟩
        · rw [if_neg z, ← x 58 (by omega) (by omega)] at q
          rw [t.1]; exact q
        · rw [if_pos z, ← nx_wag x hZ.1.2.1] at q
          rw [w32_id (by omega) (by omega)]; exact q
      · intro i hi ih X M' x b r v t k
        have ng : ngd X = ngd (Z 0) := (nx_ng x).trans (drX_ok hZ h0 s i).2
        obtain ⟨i1, i2⟩ := drI_b hZ h0 s i
        have hb := drG_b s i
        obtain ⟨m1, -, -⟩ := dr_m (s := s) (t := i) (m := Z 0 32) (by omega)
        obtain ⟨-, m2, -⟩ := dr_m (s := s) (t := i) (m := 9) (by omega)
        obtain ⟨-, -, m3⟩ := dr_m (s := s) (t := i) (m := 7) (by omega)
        refine vc_H_drift_51 _ _ _ _ _ ⟨fun z => by omega, fun _ a5 e5 a6 e6 => ?_⟩
        have e5' : a5 = drS s (i + 1) := e5
        rw [got_eq, e5'] at e6
        have e6' : a6 = drG s i := e6
        rw [e6', r.1.1.1, m1, m2, m3, ← i2, Int.toNat_natCast]
        refine ⟨h0, by omega, ?_⟩
        obtain ⟨y0, y1, y2, -⟩ := v.2.1 (drI Z s i) (by omega)
        obtain ⟨z0, z1, z2, -⟩ := b.2.2.1 (drI Z s i) (by omega)
        rw [y0, y2, w32_id (by omega) (by omega)]
        refine C_bec z0 (by omega) z2 hZ r i1 v b ng t (fun M7 r7 v7 t7 k7 M9 e9 => ?_)
        have bw : PB (uf X (8 + drI Z s i) (1 + drG s i / 64 % 9)) (npz Z) := PB_w b (by omega) (by omega)
        have v8 : VC M7 1 (uf X (8 + drI Z s i) (1 + drG s i / 64 % 9)) (npz Z) := VC_weight (by omega) hZ.1.2.1 (by omega) v7
        have f9 : fra 1 M7 M9 := by rw [e9]; exact fra_pt (by omega)
        have v9 := VC_set (k := 0) (by omega) bw v8 e9
        have b9 : PB (uf (uf X (8 + drI Z s i) (1 + drG s i / 64 % 9)) (41 + 0) (drG s i % 7 - 2)) (npz Z) := PB_h bw (by omega)
        have t9 : VT M9 1 (uf (uf X (8 + drI Z s i) (1 + drG s i / 64 % 9)) (41 + 0) (drG s i % 7 - 2)) := by
          refine ⟨?_, ?_⟩
          · rw [e9, pt_ne (by omega), uf_n (by omega), uf_n (by omega)]; exact t7.1
          · rw [e9, pt_ne (by omega), uf_n (by omega), uf_n (by omega)]; exact t7.2
        have eh : hoot (uf (uf X (8 + drI Z s i) (1 + drG s i / 64 % 9)) (41 + 0) (drG s i % 7 - 2)) = (drG s i % 7).toNat := by
          unfold hoot
          rw [uf_s]
          omega
        refine C_week hZ (RepC_fra (Or.inl rfl) hZ f9 r7) b9 v9 t9 (fun M10 r10 v10 t10 _ k10 a12 e12 => ?_)
        rw [eh] at v10 t10
        rw [e12, w32_s (by omega), e5']
        refine ih _ M10 ?_ (wk_PB b9 _ _) r10 v10 t10 (keepR_tr k (keepR_tr k7 (keepR_tr (fra_keepR f9) k10)))
        refine nx_wk (fun j hj hj2 => ?_) _ _ b9
        rw [uf_n (by omega)]
        exact nx_uf x _ _ j hj hj2
    · rw [if_pos h0] at hQ; exact hQ M hR (keepR_rf M)
  · rw [if_neg (fun z => h2 z.2)] at hQ; exact hQ M hR (keepR_rf M)
  · rw [if_neg (fun z => h z.1)] at hQ; exact hQ M hR (keepR_rf M)
theorem M_drift {s n w : Int} (hZ : ZB Z) (hR : RepR Z M) (hQ : ∀ M' : JM, RepR Z M' → keepC M M' → Q (sp_drift Z s n w) M') : JC E mm_M_drift [vR 20 0, vI s, vI n, vI w] M Q := by
  unfold sp_drift at hQ
  refine vc_M_drift _ _ _ _ (M_in (fun h => c10 (M_in (fun h2 => d10 ?_) (fun h2 => d00 ?_))) (fun h => c00 ?_))
  · rw [if_pos ⟨h, h2⟩] at hQ
    have e32 : M 21 0 32 = Z 0 32 := hR.1.1 32 (by omega)
    rw [e32]
    refine ⟨fun h0 => R_copy (c := 176) (by omega) hR (fun M1 r1 v1 f1 M7 e7 => ?_), fun h0 => ?_⟩
    · rw [if_neg h0] at hQ
      obtain ⟨N, rfl⟩ : ∃ N : Nat, n = N := ⟨n.toNat, by omega⟩
      rw [Int.toNat_natCast] at hQ
      have h8 := ngd_le hZ.1
      have hn := ngd_int hZ.1
      have f7 : fro M1 M7 := fun t i k q => by rw [e7, pt_ne (by omega)]
      have v7 : VR M7 176 (cpy (Z 0)) (npz Z) := ⟨fun k hk => by rw [e7, pt_ne (by omega)]; exact v1.1 k hk, by rw [e7, pt_ne (by omega)]; exact v1.2⟩
      have x7 : nx (wct M7 (cpy (Z 0))) (cpy (Z 0)) := by
        intro j hj hj2
        unfold wct
        rw [if_neg hj2]
        by_cases q : j = 58
        · rw [if_pos q, q, e7, pt_eq]; rfl
        · rw [if_neg q]
      refine up_ind (P := fun i => ∀ (X : Nat → Int) (M' : JM), nx X (drX Z s i) → PB X (npz Z) → RepR Z M' → VR M' 176 X (npz Z) → VRT M' X → fro M M' → JG E mm_M_drift Q 56 [(0, vR 20 0), (2, vI (N : Int)), (3, vI w), (4, vI (drS s i)), (5, vI (i : Int))] [] M') N ?_ ?_ (wct M7 (cpy (Z 0))) M7 x7 (wct_PB (cpy_PB hZ.1)) (fro_R f7 r1) (wct_V v7) wct_T (fro_tr f1 f7)
      · intro X M' x b r v t f
        have q := hQ M' r (fro_keepC f)
        have b1 := wag_b b
        have b2 := wag_b hZ.1
        refine vc_M_drift_56 _ _ _ _ _ ⟨fun _ => ⟨fun z => ?_, fun z => M_wagesOn (b := 176) (by omega) b v (M_wagesOn (b := 0) (by omega) hZ.1 r.1 ?_)⟩, fun z => by omega⟩
        · rw [if_neg z, ← x 58 (by omega) (by omega)] at q
          rw [t.1]; exact q
        · rw [if_pos z, ← nx_wag x hZ.1.2.1] at q
          rw [w32_id (by omega) (by omega)]; exact q
      · intro i hi ih X M' x b r v t f
        have ng : ngd X = ngd (Z 0) := (nx_ng x).trans (drX_ok hZ h0 s i).2
        obtain ⟨i1, i2⟩ := drI_b hZ h0 s i
        have hb := drG_b s i
        obtain ⟨m1, -, -⟩ := dr_m (s := s) (t := i) (m := Z 0 32) (by omega)
        obtain ⟨-, m2, -⟩ := dr_m (s := s) (t := i) (m := 9) (by omega)
        obtain ⟨-, -, m3⟩ := dr_m (s := s) (t := i) (m := 7) (by omega)
        have e32' : M' 21 0 32 = Z 0 32 := r.1.1 32 (by omega)
        refine vc_M_drift_56 _ _ _ _ _ ⟨fun z => by omega, fun _ a5 e5 a6 e6 => ?_⟩
        have e5' : a5 = drS s (i + 1) := e5
        rw [e5'] at e6
        have e6' : a6 = drG s i := e6
        rw [e6', e32', m1, m2, m3, ← i2, w32_id (x := 184 + ((drI Z s i : Nat) : Int)) (by omega) (by omega), show (184 + ((drI Z s i : Nat) : Int)).toNat = 176 + (8 + drI Z s i) by omega, w32_id (x := 1 + drG s i / 64 % 9) (by omega) (by omega)]
        refine ⟨h0, by omega, fun M8 e8 => ?_⟩
        have bw : PB (uf X (8 + drI Z s i) (1 + drG s i / 64 % 9)) (npz Z) := PB_w b (by omega) (by omega)
        have v8 := VR_uf v (by omega) e8
        have f8 : fro M' M8 := by rw [e8]; exact fro_pt (by omega)
        have t8 : VRT M8 (uf X (8 + drI Z s i) (1 + drG s i / 64 % 9)) := by
          refine ⟨?_, ?_⟩
          · rw [e8, pt_ne (by omega), uf_n (by omega)]; exact t.1
          · rw [e8, pt_ne (by omega), uf_n (by omega)]; exact t.2
        rw [show drG s i % 7 = (((drG s i % 7).toNat : Nat) : Int) by omega]
        refine M_weekOn (b := 176) (by omega) (by omega) bw v8 t8 (fun M9 v9 t9 _ f9 a10 e10 => ?_)
        have g9 := frb_fro (b := 176) (by omega) f9
        rw [e10, w32_s (by omega), e5']
        exact ih _ M9 (nx_wk (nx_uf x _ _) _ _ bw) (wk_PB bw _ _) (fro_R g9 (fro_R f8 r)) v9 t9 (fro_tr f (fro_tr f8 g9))
    · rw [if_pos h0] at hQ; exact hQ M hR (keepC_rf M)
  · rw [if_neg (fun z => h2 z.2)] at hQ; exact hQ M hR (keepC_rf M)
  · rw [if_neg (fun z => h z.1)] at hQ; exact hQ M hR (keepC_rf M)
end

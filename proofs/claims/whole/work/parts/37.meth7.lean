/-! the first that is most -/
def mx (c : Nat → Prop) [∀ k, Decidable (c k)] (f lab : Nat → Int) (b m : Int) : Nat → Int × Int
  | 0 => (b, m)
  | k + 1 => if c k ∧ (mx c f lab b m k).2 < f k then (lab k, f k) else mx c f lab b m k
theorem mx_y {c : Nat → Prop} [∀ k, Decidable (c k)] {f lab : Nat → Int} {b m : Int} {k : Nat} (hc : c k) (h : (mx c f lab b m k).2 < f k) : mx c f lab b m (k + 1) = (lab k, f k) := if_pos ⟨hc, h⟩
theorem mx_n {c : Nat → Prop} [∀ k, Decidable (c k)] {f lab : Nat → Int} {b m : Int} {k : Nat} (h : ¬ (c k ∧ (mx c f lab b m k).2 < f k)) : mx c f lab b m (k + 1) = mx c f lab b m k := if_neg h
theorem mx_skip {c : Nat → Prop} [∀ k, Decidable (c k)] {f lab : Nat → Int} {b m : Int} : ∀ n : Nat, (∀ k, k < n → ¬ c k) → mx c f lab b m n = (b, m)
  | 0, _ => rfl
  | n + 1, h => by
    rw [mx_n (fun z => h n (by omega) z.1)]
    exact mx_skip n (fun k hk => h k (by omega))
theorem mx_b {c : Nat → Prop} [∀ k, Decidable (c k)] {f lab : Nat → Int} {b m : Int} {lo hi : Int} : ∀ n : Nat, lo ≤ m ∧ m ≤ hi → (∀ k, k < n → c k → lo ≤ f k ∧ f k ≤ hi) → lo ≤ (mx c f lab b m n).2 ∧ (mx c f lab b m n).2 ≤ hi
  | 0, hm, _ => hm
  | n + 1, hm, h => by
    have ih := mx_b (b := b) (lab := lab) n hm (fun k hk => h k (by omega))
    by_cases q : c n ∧ (mx c f lab b m n).2 < f n
    · rw [mx_y q.1 q.2]; exact h n (by omega) q.1
    · rw [mx_n q]; exact ih
def lstw (np : Nat) (X : Nat → Int) : Int := if np = 0 then 0 else lst X np
def bom (Z : ZZ) (r : Int × Int) (w : Int) : Int := if r.1 = -4 then -4 else if w = 0 then r.1 else r.2 - wag (npz Z) (Z 0)
section
variable {E : EE} {Q : Int → JM → Prop} {M : JM} {Z : ZZ} {X : Nat → Int}
theorem H_bestOrMore {b m w : Int} (hm : -1 ≤ m ∧ m ≤ 3996) (hZ : ZB Z) (hR : RepC Z M) (hQ : Q (bom Z (b, m) w) M) : JC E mm_H_bestOrMore [vR 0 0, vI b, vI m, vI w] M Q := by
  unfold bom at hQ
  have b2 := wag_b hZ.1
  refine vc_H_bestOrMore _ _ _ _ ⟨fun h => ⟨fun h2 => T_wagesOfAll hR.1 hZ.1 ?_, fun h2 => ?_⟩, fun h => ?_⟩
  · rw [if_neg h, if_neg h2] at hQ
    rw [w32_id (by omega) (by omega)]; exact hQ
  · rw [if_neg h, if_pos h2] at hQ; exact hQ
  · rw [if_pos h] at hQ; exact hQ
theorem H_wagesAsItIs {m : Nat} (hm : m < 1000) (hZ : ZB Z) (hR : RepC Z M) (hQ : ∀ M' : JM, RepC Z M' → keepR M M' → Q (wag (npz Z) (wkZ Z m)) M') : JC E mm_H_wagesAsItIs [vR 0 0, vI (m : Int)] M Q :=
  vc_H_wagesAsItIs _ _ (C_copy hZ hR (fun M1 r1 v1 t1 k1 => C_weeks hm hZ r1 (cpy_PB hZ.1) v1 t1 (fun M2 r2 v2 t2 k2 => T_wagesOfAll v2 (wkZ_PB hZ m) (hQ M2 r2 (keepR_tr k1 k2)))))
/-! fair -/
def fairF (Z : ZZ) (n : Nat) (h : Nat) : Int := lstw (npz Z) (wks (npz Z) (chg Z 41 (h - 2)) n)
def fairR (Z : ZZ) (n : Nat) (k : Nat) : Int × Int := mx (fun _ => True) (fairF Z n) (fun h => (h : Int)) 0 (-1) k
def sp_fair (Z : ZZ) (n w : Int) : Int := if (0 ≤ n ∧ n ≤ 60) ∧ (0 ≤ w ∧ w ≤ 1) then (if Z 3 0 = 0 then -2 else if w = 0 then (fairR Z n.toNat 7).1 else (fairR Z n.toNat 7).2) else -1
theorem chg_hoo {s : Int} (hZ : ZB Z) (hs : -2 ≤ s ∧ s ≤ 4) : PB (chg Z 41 s) (npz Z) := PB_h (cpy_PB hZ.1) hs
theorem H_fair {n w : Int} (hZ : ZB Z) (hR : RepC Z M) (hQ : ∀ M' : JM, RepC Z M' → keepR M M' → Q (sp_fair Z n w) M') : JC E mm_H_fair [vR 0 0, vI n, vI w] M Q := by
  unfold sp_fair at hQ
  refine vc_H_fair _ _ _ (H_within (fun h => c10 (H_within (fun h2 => d10 ?_) (fun h2 => d00 ?_))) (fun h => c00 ?_))
  · rw [if_pos ⟨h, h2⟩] at hQ
    have hi := npz_i hZ
    rw [hR.1.1.2.1, hi]
    refine ⟨fun h0 => ?_, fun h0 => ?_⟩
    · rw [if_neg h0] at hQ
      obtain ⟨m, rfl⟩ : ∃ m : Nat, n = m := ⟨n.toNat, by omega⟩
      rw [Int.toNat_natCast] at hQ
      refine up_ind (P := fun i => ∀ M' : JM, RepC Z M' → keepR M M' → JG E mm_H_fair Q 42 [(0, vR 0 0), (1, vI (m : Int)), (2, vI w), (3, vI (fairR Z m i).1), (4, vI (fairR Z m i).2), (5, vI (i : Int))] [] M') 7 ?_ ?_ M hR (keepR_rf M)
      · intro M' r k
        have q := hQ M' r k
        refine vc_H_fair_42 _ _ _ _ _ _ ⟨fun _ => ⟨fun z => ?_, fun z => ?_⟩, fun z => by omega⟩
        · rw [if_neg z] at q; exact q
        · rw [if_pos z] at q; exact q
      · intro i hi' ih M' r k
        refine vc_H_fair_42 _ _ _ _ _ _ ⟨fun z => by omega, fun _ => C_copy hZ r (fun M1 r1 v1 t1 k1 M3 e3 => ?_)⟩
        have f3 : fra 1 M1 M3 := by rw [e3]; exact fra_pt (by omega)
        have v3 : VC M3 1 (chg Z 41 (i - 2)) (npz Z) := VC_set (k := 0) (by omega) (cpy_PB hZ.1) v1 e3
        have t3 : VT M3 1 (chg Z 41 (i - 2)) := VT_chg (by omega) ⟨by rw [e3, pt_ne (by omega)]; exact t1.1, by rw [e3, pt_ne (by omega)]; exact t1.2⟩
        have hB3 := chg_hoo (s := (i : Int) - 2) hZ (by omega)
        refine C_weeks (by omega) hZ (RepC_fra (Or.inl rfl) hZ f3 r1) hB3 v3 t3 (fun M4 r4 v4 t4 k4 => T_leastWages v4 (wks_PB hB3 m) ?_)
        have kk := keepR_tr k (keepR_tr k1 (keepR_tr (fra_keepR f3) k4))
        refine ⟨fun z a ea => ?_, fun z => T_leastWages v4 (wks_PB hB3 m) (fun a ea => ?_)⟩
        · have e : fairR Z m (i + 1) = fairR Z m i := mx_n (fun q => by have : fairF Z m i ≤ (fairR Z m i).2 := z; have := q.2; unfold fairR at *; omega)
          rw [ea, w32_s (by omega), ← e]
          exact ih M4 r4 kk
        · have e : fairR Z m (i + 1) = ((i : Int), fairF Z m i) := mx_y trivial z
          rw [ea, w32_s (by omega)]
          have q := ih M4 r4 kk
          rw [e] at q
          exact q
    · rw [if_pos h0] at hQ
      exact hQ M hR (keepR_rf M)
  · rw [if_neg (fun z => h2 z.2)] at hQ; exact hQ M hR (keepR_rf M)
  · rw [if_neg (fun z => h z.1)] at hQ; exact hQ M hR (keepR_rf M)
theorem M_fair {n w : Int} (hZ : ZB Z) (hR : RepR Z M) (hQ : ∀ M' : JM, RepR Z M' → keepC M M' → Q (sp_fair Z n w) M') : JC E mm_M_fair [vR 20 0, vI n, vI w] M Q := by
  unfold sp_fair at hQ
  refine vc_M_fair _ _ _ (M_in (fun h => c10 (M_in (fun h2 => d10 ?_) (fun h2 => d00 ?_))) (fun h => c00 ?_))
  · rw [if_pos ⟨h, h2⟩] at hQ
    have hi := npz_i hZ
    rw [hR.1.2, hi]
    refine ⟨fun h0 => R_copy (c := 220) (by omega) hR (fun M1 r1 v1 f1 => ?_), fun h0 => ?_⟩
    · rw [if_neg h0] at hQ
      obtain ⟨m, rfl⟩ : ∃ m : Nat, n = m := ⟨n.toNat, by omega⟩
      rw [Int.toNat_natCast] at hQ
      refine up_ind (P := fun i => ∀ M' : JM, RepR Z M' → VRx Z M' 41 → fro M M' → JG E mm_M_fair Q 50 [(0, vR 20 0), (1, vI (m : Int)), (2, vI w), (3, vI (fairR Z m i).2), (4, vI (fairR Z m i).1), (5, vI (i : Int))] [] M') 7 ?_ ?_ M1 r1 (VRx_cp v1) f1
      · intro M' r x f
        have q := hQ M' r (fro_keepC f)
        refine vc_M_fair_50 _ _ _ _ _ _ ⟨fun _ => ⟨fun z => ?_, fun z => ?_⟩, fun z => by omega⟩
        · rw [if_neg z] at q; exact q
        · rw [if_pos z] at q; exact q
      · intro i hi' ih M' r x f
        refine vc_M_fair_50 _ _ _ _ _ _ ⟨fun z => by omega, fun _ M2 e2 => ?_⟩
        rw [w32_id (by omega) (by omega)] at e2
        have v2 := VRx_pt (k := 41) x e2
        have f2 : fro M' M2 := by rw [e2]; exact fro_pt (by omega)
        have hB3 := chg_hoo (s := (i : Int) - 2) hZ (by omega)
        refine R_weeks (b := 220) (by omega) (by omega) hZ (fro_R f2 r) hB3 v2 (fun M3 r3 v3 t3 f3 => ?_)
        rw [cpy_chg (by omega)] at v3
        have ff := fro_tr f (fro_tr f2 (frb_fro (by omega) f3))
        have xx := VRx_f f3 (show VRx Z M2 41 by rw [e2]; exact VRx_p x)
        refine M_leastOn (b := 176) (by omega) (wks_PB hB3 m) v3 ⟨fun z => ?_, fun z => ?_⟩
        · have e : fairR Z m (i + 1) = fairR Z m i := mx_n (fun q => by have : fairF Z m i ≤ (fairR Z m i).2 := z; have := q.2; unfold fairR at *; omega)
          refine vc_M_fair_100 _ _ _ _ _ _ _ ⟨fun _ a ea => ?_, fun z2 => absurd z (Int.not_le.mpr z2)⟩
          rw [ea, w32_s (by omega), ← e]
          exact ih M3 r3 xx ff
        · have e : fairR Z m (i + 1) = ((i : Int), fairF Z m i) := mx_y trivial z
          refine vc_M_fair_100 _ _ _ _ _ _ _ ⟨fun z2 => absurd z (Int.not_lt.mpr z2), fun _ a ea => ?_⟩
          rw [ea, w32_s (by omega)]
          have q := ih M3 r3 xx ff
          rw [e] at q
          exact q
    · rw [if_pos h0] at hQ
      exact hQ M hR (keepC_rf M)
  · rw [if_neg (fun z => h2 z.2)] at hQ; exact hQ M hR (keepC_rf M)
  · rw [if_neg (fun z => h z.1)] at hQ; exact hQ M hR (keepC_rf M)
/-! lose -/
def loseF (Z : ZZ) (n : Nat) (g : Nat) : Int := wag (npz Z) (wks (npz Z) (chg Z (24 + g) 1) n)
def loseR (Z : ZZ) (n : Nat) (k : Nat) : Int × Int := mx (fun g => Z 0 (24 + g) = 0) (loseF Z n) (fun h => (h : Int)) (-4) (wag (npz Z) (wkZ Z n)) k
def sp_lose (Z : ZZ) (n w : Int) : Int := if (0 ≤ n ∧ n ≤ 60) ∧ (0 ≤ w ∧ w ≤ 1) then bom Z (loseR Z n.toNat (ngd (Z 0))) w else -1
theorem chg_tak {g : Nat} (hZ : ZB Z) (hg : g < ngd (Z 0)) : PB (chg Z (24 + g) 1) (npz Z) := PB_t (cpy_PB hZ.1) (by rw [ngd_cpy]; exact hg) (Or.inr rfl)
theorem loseF_b {n g : Nat} (hZ : ZB Z) (hg : g < ngd (Z 0)) : 0 ≤ loseF Z n g ∧ loseF Z n g ≤ 3996 := wag_b (wks_PB (chg_tak hZ hg) n)
theorem loseR_b {n k : Nat} (hZ : ZB Z) (hk : k ≤ ngd (Z 0)) : 0 ≤ (loseR Z n k).2 ∧ (loseR Z n k).2 ≤ 3996 := mx_b k (wag_b (wkZ_PB hZ n)) (fun j hj _ => loseF_b hZ (by omega))
theorem H_lose {n w : Int} (hZ : ZB Z) (hR : RepC Z M) (hQ : ∀ M' : JM, RepC Z M' → keepR M M' → Q (sp_lose Z n w) M') : JC E mm_H_lose [vR 0 0, vI n, vI w] M Q := by
  unfold sp_lose at hQ
  refine vc_H_lose _ _ _ (H_within (fun h => c10 (H_within (fun h2 => d10 ?_) (fun h2 => d00 ?_))) (fun h => c00 ?_))
  · rw [if_pos ⟨h, h2⟩] at hQ
    obtain ⟨m, rfl⟩ : ∃ m : Nat, n = m := ⟨n.toNat, by omega⟩
    rw [Int.toNat_natCast] at hQ
    have hn := ngd_int hZ.1
    have h8 := ngd_le hZ.1
    refine H_wagesAsItIs (by omega) hZ hR (fun M0 r0 k0 => ?_)
    refine up_ind (P := fun i => ∀ M' : JM, RepC Z M' → keepR M M' → JG E mm_H_lose Q 34 [(0, vR 0 0), (1, vI (m : Int)), (2, vI w), (3, vI (loseR Z m i).1), (4, vI (loseR Z m i).2), (5, vI (i : Int))] [] M') (ngd (Z 0)) ?_ ?_ M0 r0 k0
    · intro M' r k
      have hb1 := loseR_b (n := m) hZ (Nat.le_refl _)
      refine vc_H_lose_34 _ _ _ _ _ _ ⟨fun _ => H_bestOrMore (by omega) hZ r (hQ M' r k), fun z => by rw [r.1.1.1] at z; omega⟩
    · intro i hi ih M' r k
      refine vc_H_lose_34 _ _ _ _ _ _ ⟨fun z => by rw [r.1.1.1] at z; omega, fun _ => ⟨by omega, ?_⟩⟩
      rw [show M' 1 (8 * 0 + (i : Int).toNat) 5 = Z 0 (24 + i) from (r.1.2.1 i hi).2.2.2.2.2]
      refine ⟨fun z a ea => ?_, fun z => C_copy hZ r (fun M1 r1 v1 t1 k1 => ⟨by omega, fun M3 e3 => ?_⟩)⟩
      · have e : loseR Z m (i + 1) = loseR Z m i := mx_n (fun q => z q.1)
        rw [ea, w32_s (by omega), ← e]
        exact ih M' r k
      · rw [Int.toNat_natCast] at e3
        have f3 : fra 1 M1 M3 := by rw [e3]; exact fra_pt (by omega)
        have v3 : VC M3 1 (chg Z (24 + i) 1) (npz Z) := VC_taken (cpy_PB hZ.1) (by rw [ngd_cpy]; exact hi) v1 e3
        have t3 : VT M3 1 (chg Z (24 + i) 1) := VT_chg (by omega) ⟨by rw [e3, pt_ne (by omega)]; exact t1.1, by rw [e3, pt_ne (by omega)]; exact t1.2⟩
        have hB3 := chg_tak hZ hi
        refine C_weeks (by omega) hZ (RepC_fra (Or.inl rfl) hZ f3 r1) hB3 v3 t3 (fun M4 r4 v4 t4 k4 => T_wagesOfAll v4 (wks_PB hB3 m) ?_)
        have kk := keepR_tr k (keepR_tr k1 (keepR_tr (fra_keepR f3) k4))
        refine ⟨fun z2 a ea => ?_, fun z2 => T_wagesOfAll v4 (wks_PB hB3 m) (fun a ea => ?_)⟩
        · have e : loseR Z m (i + 1) = loseR Z m i := mx_n (fun q => by have : loseF Z m i ≤ (loseR Z m i).2 := z2; have := q.2; unfold loseR at *; omega)
          rw [ea, w32_s (by omega), ← e]
          exact ih M4 r4 kk
        · have e : loseR Z m (i + 1) = ((i : Int), loseF Z m i) := mx_y z z2
          rw [ea, w32_s (by omega)]
          have q := ih M4 r4 kk
          rw [e] at q
          exact q
  · rw [if_neg (fun z => h2 z.2)] at hQ; exact hQ M hR (keepR_rf M)
  · rw [if_neg (fun z => h z.1)] at hQ; exact hQ M hR (keepR_rf M)
theorem bom_M {b m w : Int} {W : Int} (hW : W = wag (npz Z) (Z 0)) (hQ : Q (bom Z (b, m) w) M) : (b = -4 → Q b M) ∧ (b ≠ -4 → ((w ≠ 0 → Q (m - W) M) ∧ (w = 0 → Q b M))) := by
  unfold bom at hQ
  subst hW
  refine ⟨fun h => ?_, fun h => ⟨fun h2 => ?_, fun h2 => ?_⟩⟩
  · rw [if_pos h] at hQ; rw [h]; exact hQ
  · rw [if_neg h, if_neg h2] at hQ; exact hQ
  · rw [if_neg h, if_pos h2] at hQ; exact hQ
theorem M_lose {n w : Int} (hZ : ZB Z) (hR : RepR Z M) (hQ : ∀ M' : JM, RepR Z M' → keepC M M' → Q (sp_lose Z n w) M') : JC E mm_M_lose [vR 20 0, vI n, vI w] M Q := by
  unfold sp_lose at hQ
  refine vc_M_lose _ _ _ (M_in (fun h => c10 (M_in (fun h2 => d10 ?_) (fun h2 => d00 ?_))) (fun h => c00 ?_))
  · rw [if_pos ⟨h, h2⟩] at hQ
    obtain ⟨m, rfl⟩ : ∃ m : Nat, n = m := ⟨n.toNat, by omega⟩
    rw [Int.toNat_natCast] at hQ
    have hn := ngd_int hZ.1
    have h8 := ngd_le hZ.1
    refine R_weeks (b := 0) (by omega) (by omega) hZ hR hZ.1 hR.1 (fun M1 r1 v1 t1 f1 => ?_)
    refine up_ind (P := fun i => ∀ M' : JM, RepR Z M' → fro M M' → JG E mm_M_lose Q 38 [(0, vR 20 0), (1, vI (m : Int)), (2, vI w), (3, vI ((loseR Z m i).2 - wag (npz Z) (Z 0))), (4, vI (loseR Z m i).1), (5, vI (i : Int))] [] M') (ngd (Z 0)) ?_ ?_ M1 r1 (frb_fro (by omega) f1)
    · intro M' r f
      have e32 : M' 21 0 32 = Z 0 32 := r.1.1 32 (by omega)
      exact vc_M_lose_38 _ _ _ _ _ _ ⟨fun _ => bom_M rfl (hQ M' r (fro_keepC f)), fun z => by rw [e32] at z; omega⟩
    · intro i hi ih M' r f
      have e32 : M' 21 0 32 = Z 0 32 := r.1.1 32 (by omega)
      have e24 : M' 21 0 (24 + i) = Z 0 (24 + i) := by have := r.1.1 (24 + i) (by omega); rw [Nat.zero_add] at this; exact this
      refine vc_M_lose_38 _ _ _ _ _ _ ⟨fun z => by rw [e32] at z; omega, fun _ => ?_⟩
      rw [w32_id (x := 24 + (i : Int)) (by omega) (by omega), w32_id (x := 244 + (i : Int)) (by omega) (by omega), show (24 + (i : Int)).toNat = 24 + i by omega, show (244 + (i : Int)).toNat = 220 + (24 + i) by omega, e24]
      refine ⟨by omega, fun z a ea => ?_, fun z => R_copy (c := 220) (by omega) r (fun M2 r2 v2 f2 => ⟨by omega, fun M4 e4 => ?_⟩)⟩
      · have e : loseR Z m (i + 1) = loseR Z m i := mx_n (fun q => z q.1)
        rw [ea, w32_s (by omega), ← e]
        exact ih M' r f
      · have v4 := VRx_pt (VRx_cp (k := 24 + i) v2) e4
        have f4 : fro M2 M4 := by rw [e4]; exact fro_pt (by omega)
        refine R_weeks (b := 220) (by omega) (by omega) hZ (fro_R f4 r2) (chg_tak hZ hi) v4 (fun M5 r5 v5 t5 f5 => ?_)
        rw [cpy_chg (by omega)]
        have ff := fro_tr f (fro_tr f2 (fro_tr f4 (frb_fro (by omega) f5)))
        refine ⟨fun z2 => ?_, fun z2 => ?_⟩
        · have e : loseR Z m (i + 1) = loseR Z m i := mx_n (fun q => Int.not_lt.mpr (show loseF Z m i ≤ (loseR Z m i).2 from by have z4 : loseF Z m i - wag (npz Z) (Z 0) ≤ (loseR Z m i).2 - wag (npz Z) (Z 0) := z2; omega) q.2)
          refine vc_M_lose_106 _ _ _ _ _ _ _ ⟨fun _ a ea => ?_, fun z3 => by omega⟩
          rw [ea, w32_s (by omega), ← e]
          exact ih M5 r5 ff
        · have e : loseR Z m (i + 1) = ((i : Int), loseF Z m i) := mx_y z (show (loseR Z m i).2 < loseF Z m i from by have z4 : (loseR Z m i).2 - wag (npz Z) (Z 0) < loseF Z m i - wag (npz Z) (Z 0) := z2; omega)
          refine vc_M_lose_106 _ _ _ _ _ _ _ ⟨fun z3 => by omega, fun _ a ea => ?_⟩
          rw [ea, w32_s (by omega)]
          have q := ih M5 r5 ff
          rw [e] at q
          exact q
  · rw [if_neg (fun z => h2 z.2)] at hQ; exact hQ M hR (keepC_rf M)
  · rw [if_neg (fun z => h z.1)] at hQ; exact hQ M hR (keepC_rf M)
end

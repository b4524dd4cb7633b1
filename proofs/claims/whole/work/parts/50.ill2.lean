/-! luck and mean -/
def wyZ (Z : ZZ) (v : Int) (i : Nat) : Int := waysI v i (npz Z)
def luckT (Z : ZZ) (v g : Int) (i : Nat) : Int := if hb (rnds (npz Z) i (clr (cpy (Z 0))) (hoot (cpy (Z 0))) 56) g then wyZ Z v i else 0
def luckU (Z : ZZ) (v g : Int) (k : Nat) : Int := sm (luckT Z v g) k
def gainT (Z : ZZ) (v : Int) (X : Nat → Int) (i : Nat) : Int := wyZ Z v i * (wag (npz Z) (wk (npz Z) (hoot (cpy X)) i (cpy X)) - wag (npz Z) (Z 0))
def gain1 (Z : ZZ) (v : Int) (X : Nat → Int) (k : Nat) : Int := sm (gainT Z v X) k
def halfX (Z : ZZ) (i : Nat) : Nat → Int := wk (npz Z) (hoot (cpy (Z 0))) i (cpy (Z 0))
def gain2T (Z : ZZ) (v : Int) (i : Nat) : Int := wyZ Z v i * gain1 Z v (halfX Z i) (2 ^ npz Z)
def gain2 (Z : ZZ) (v : Int) (k : Nat) : Int := sm (gain2T Z v) k
def sp_luck (Z : ZZ) (v g w : Int) : Int := if (0 ≤ v ∧ v ≤ 10) ∧ (0 ≤ g ∧ g < Z 0 32) ∧ (0 ≤ w ∧ w ≤ 1) then frc (luckU Z v g (2 ^ npz Z)).toNat (pw10 (npz Z)).toNat w else -1
def sp_mean (Z : ZZ) (v n w : Int) : Int := if (0 ≤ v ∧ v ≤ 10) ∧ (0 ≤ n ∧ n ≤ 2) ∧ (0 ≤ w ∧ w ≤ 1) then (if n = 0 then frc 0 1 w else if n = 1 then frc (gain1 Z v (Z 0) (2 ^ npz Z)).toNat (pw10 (npz Z)).toNat w else frc (gain2 Z v (2 ^ npz Z)).toNat (pw10 (2 * npz Z)).toNat w) else -1
section
variable {E : EE} {Q : Int → JM → Prop} {M : JM} {Z : ZZ} {X : Nat → Int}
theorem pow_b (hZ : ZB Z) : 2 ^ npz Z ≤ 16 := by
  have h4 := hZ.1.2.1
  exact (Nat.pow_le_pow_right (by decide) h4 : 2 ^ npz Z ≤ 2 ^ 4)
theorem wyZ_b {v : Int} {i : Nat} (hZ : ZB Z) (hv : 0 ≤ v ∧ v ≤ 10) : 0 ≤ wyZ Z v i ∧ wyZ Z v i ≤ 10000 := by
  have h4 := hZ.1.2.1
  have := waysI_b (ill := i) hv (npz Z)
  have h5 : ∀ n : Nat, n ≤ 4 → pw10 n ≤ 10000 := by decide
  have := h5 _ h4
  unfold wyZ
  omega
theorem luckT_b {v g : Int} {i : Nat} (hZ : ZB Z) (hv : 0 ≤ v ∧ v ≤ 10) : 0 ≤ luckT Z v g i ∧ luckT Z v g i ≤ 10000 := by
  have := wyZ_b (i := i) hZ hv
  unfold luckT
  split <;> omega
theorem luckU_b {v g : Int} (hZ : ZB Z) (hv : 0 ≤ v ∧ v ≤ 10) (k : Nat) : 0 ≤ luckU Z v g k ∧ luckU Z v g k ≤ k * 10000 := sm_b k (fun _ _ => luckT_b hZ hv)
/-- a page on which wages of all are not less than now -/
def upZ (Z : ZZ) (X : Nat → Int) : Prop := PB X (npz Z) ∧ wag (npz Z) (Z 0) ≤ wag (npz Z) X
theorem wag_cpy {np : Nat} (h4 : np ≤ 4) : wag np (cpy X) = wag np X := sm_c np (fun p hp => cpy_lo (by omega))
theorem wag_wk {np : Nat} (hB : PB X np) (r : Nat) (ill : Int) : wag np X ≤ wag np (wk np r ill X) := sm_le np (fun _ hp => wk_up hB r ill hp)
theorem upZ_wk {i r : Nat} (h : upZ Z X) : upZ Z (wk (npz Z) r i (cpy X)) := by
  have hB := cpy_PB h.1
  have h4 := hB.2.1
  refine ⟨wk_PB hB _ _, ?_⟩
  have := wag_wk hB r (i : Int)
  rw [wag_cpy h4] at this
  have := h.2
  omega
theorem mul_b {a b A B : Int} (h1 : 0 ≤ a ∧ a ≤ A) (h2 : 0 ≤ b ∧ b ≤ B) : 0 ≤ a * b ∧ a * b ≤ A * B := ⟨Int.mul_nonneg h1.1 h2.1, Int.le_trans (Int.mul_le_mul_of_nonneg_right h1.2 h2.1) (Int.mul_le_mul_of_nonneg_left h2.2 (by omega))⟩
theorem gainT_b {v : Int} {i : Nat} (hZ : ZB Z) (hv : 0 ≤ v ∧ v ≤ 10) (h : upZ Z X) : 0 ≤ gainT Z v X i ∧ gainT Z v X i ≤ 39960000 := by
  have b := upZ_wk (i := i) (r := hoot (cpy X)) h
  have c := wag_b b.1
  have d := wag_b hZ.1
  have e := b.2
  exact mul_b (A := 10000) (B := 3996) (wyZ_b (i := i) hZ hv) (by omega)
theorem gain1_b {v : Int} (hZ : ZB Z) (hv : 0 ≤ v ∧ v ≤ 10) (h : upZ Z X) (k : Nat) : 0 ≤ gain1 Z v X k ∧ gain1 Z v X k ≤ k * 39960000 := sm_b k (fun _ _ => gainT_b hZ hv h)
theorem upZ_0 (hZ : ZB Z) : upZ Z (Z 0) := ⟨hZ.1, Int.le_refl _⟩
theorem upZ_h (hZ : ZB Z) (i : Nat) : upZ Z (halfX Z i) := upZ_wk (upZ_0 hZ)
theorem gain2T_b {v : Int} {i : Nat} (hZ : ZB Z) (hv : 0 ≤ v ∧ v ≤ 10) : 0 ≤ gain2T Z v i ∧ gain2T Z v i ≤ 10000 * 639360000 := by
  have b := gain1_b hZ hv (upZ_h hZ i) (2 ^ npz Z)
  have p := pow_b hZ
  exact mul_b (A := 10000) (B := 639360000) (wyZ_b (i := i) hZ hv) (by omega)
theorem gain2_b {v : Int} (hZ : ZB Z) (hv : 0 ≤ v ∧ v ≤ 10) (k : Nat) : 0 ≤ gain2 Z v k ∧ gain2 Z v k ≤ k * (10000 * 639360000) := sm_b k (fun _ _ => gain2T_b hZ hv)
theorem H_illnesses (hZ : ZB Z) (hR : RepC Z M) (hQ : Q ((2 ^ npz Z : Nat) : Int) M) : JC E mm_H_illnesses [vR 0 0] M Q := by
  have h4 := hZ.1.2.1
  refine vc_H_illnesses _ ?_
  rw [hR.1.1.2.1, shl1 (by omega)]
  exact hQ
theorem H_waysOfIllness {v : Int} {i : Nat} (hv : 0 ≤ v ∧ v ≤ 10) (hZ : ZB Z) (hR : RepC Z M) (hQ : Q (wyZ Z v i) M) : JC E mm_H_waysOfIllness [vR 0 0, vI v, vI (i : Int)] M Q := by
  have h4 := hZ.1.2.1
  unfold wyZ at hQ
  refine vc_H_waysOfIllness _ _ _ ?_
  refine up_ind (P := fun p => JG E mm_H_waysOfIllness Q 5 [(0, vR 0 0), (1, vI v), (2, vI (i : Int)), (3, vL (waysI v i p)), (5, vI (p : Int))] [] M) (npz Z) ?_ ?_
  · exact vc_H_waysOfIllness_5 _ _ _ _ _ ⟨fun _ => hQ, fun z => by rw [hR.1.1.2.1] at z; omega⟩
  · intro p hp ih
    have wb := waysI_b (ill := i) hv p
    have wb2 := waysI_b (ill := i) hv (p + 1)
    have pb := pw10_b p (by omega)
    have pb2 := pw10_b (p + 1) (by omega)
    refine vc_H_waysOfIllness_5 _ _ _ _ _ ⟨fun z => by rw [hR.1.1.2.1] at z; omega, fun _ => H_hasBit (fun y => c10 ?_) (fun y => c00 ?_)⟩
    · rw [show waysI v i (p + 1) = waysI v i p * v by rw [waysI, if_pos y]] at ih wb2
      refine vc_H_waysOfIllness_37 _ _ _ _ _ _ (fun a1 e1 a2 e2 => ?_)
      rw [e1, e2, w32_s (by omega), w64_id (by omega) (by omega)]
      exact ih
    · rw [show waysI v i (p + 1) = waysI v i p * (10 - v) by rw [waysI, if_neg y]] at ih wb2
      refine vc_H_waysOfIllness_37 _ _ _ _ _ _ (fun a1 e1 a2 e2 => ?_)
      rw [w32_id (x := 10 - v) (by omega) (by omega)] at e1
      rw [e1, e2, w32_s (by omega), w64_id (by omega) (by omega)]
      exact ih
theorem H_allWays (hZ : ZB Z) (hR : RepC Z M) (hQ : Q (pw10 (npz Z)) M) : JC E mm_H_allWaysOfIllness [vR 0 0] M Q := by
  have h4 := hZ.1.2.1
  refine vc_H_allWaysOfIllness _ ?_
  refine up_ind (P := fun p => JG E mm_H_allWaysOfIllness Q 4 [(0, vR 0 0), (1, vL (pw10 p)), (3, vI (p : Int))] [] M) (npz Z) ?_ ?_
  · exact vc_H_allWaysOfIllness_4 _ _ _ ⟨fun _ => hQ, fun z => by rw [hR.1.1.2.1] at z; omega⟩
  · intro p hp ih
    have pb := pw10_b p (by omega)
    refine vc_H_allWaysOfIllness_4 _ _ _ ⟨fun z => by rw [hR.1.1.2.1] at z; omega, fun _ a1 e1 a2 e2 => ?_⟩
    rw [show pw10 (p + 1) = pw10 p * 10 from rfl] at ih
    rw [e1, e2, w32_s (by omega), w64_id (by omega) (by omega)]
    exact ih
theorem H_luck {v g w : Int} (hZ : ZB Z) (hR : RepC Z M) (hQ : ∀ M' : JM, RepC Z M' → keepR M M' → Q (sp_luck Z v g w) M') : JC E mm_H_luck [vR 0 0, vI v, vI g, vI w] M Q := by
  unfold sp_luck at hQ
  refine vc_H_luck _ _ _ _ (H_within (fun h => c10 (H_isGood hZ hR (fun hg => c10 (H_within (fun h2 => d10 ?_) (fun h2 => d00 ?_))) (fun hg => c00 ?_))) (fun h => c00 ?_))
  · rw [if_pos ⟨h, hg, h2⟩] at hQ
    have pb := pow_b hZ
    have h4 := hZ.1.2.1
    refine up_ind (P := fun i => ∀ M' : JM, RepC Z M' → keepR M M' → JG E mm_H_luck Q 37 [(0, vR 0 0), (1, vI v), (2, vI g), (3, vI w), (4, vL (luckU Z v g i)), (6, vI (i : Int))] [] M') (2 ^ npz Z) ?_ ?_ M hR (keepR_rf M)
    · intro M' r k
      have ub := luckU_b (g := g) hZ h (2 ^ npz Z)
      have tb := pw10_b (npz Z) (by omega)
      refine vc_H_luck_37 _ _ _ _ _ _ (H_illnesses hZ r ⟨fun _ => H_allWays hZ r ?_, fun z => by omega⟩)
      rw [show luckU Z v g (2 ^ npz Z) = (((luckU Z v g (2 ^ npz Z)).toNat : Nat) : Int) by omega, show pw10 (npz Z) = (((pw10 (npz Z)).toNat : Nat) : Int) by omega]
      exact H_partOfFraction (by omega) (by omega) (by omega) (hQ M' r k)
    · intro i hi ih M' r k
      have ub := luckU_b (g := g) hZ h i
      have wb := wyZ_b (i := i) hZ h
      refine vc_H_luck_37 _ _ _ _ _ _ (H_illnesses hZ r ⟨fun z => by omega, fun _ => C_copy hZ r (fun M1 r1 v1 t1 k1 => C_carry hZ r1 (cpy_PB hZ.1) v1 t1 (fun M2 r2 a2 k2 => ?_))⟩)
      rw [a2.2]
      have kk := keepR_tr k (keepR_tr k1 k2)
      refine H_hasBit (fun y => c10 (H_waysOfIllness h hZ r2 (fun a ea a2 ea2 => ?_))) (fun y => c00 (fun a ea => ?_))
      · have q := ih M2 r2 kk
        rw [show luckU Z v g (i + 1) = luckU Z v g i + wyZ Z v i by unfold luckU; simp only [sm]; rw [luckT, if_pos y]] at q
        rw [ea, ea2, w32_s (by omega), w64_id (by omega) (by omega)]
        exact q
      · have q := ih M2 r2 kk
        rw [show luckU Z v g (i + 1) = luckU Z v g i by unfold luckU; simp only [sm]; rw [luckT, if_neg y, Int.add_zero]] at q
        rw [ea, w32_s (by omega)]
        exact q
  · rw [if_neg (fun z => h2 z.2.2)] at hQ; exact hQ M hR (keepR_rf M)
  · rw [if_neg (fun z => hg z.2.1)] at hQ; exact hQ M hR (keepR_rf M)
  · rw [if_neg (fun z => h z.1)] at hQ; exact hQ M hR (keepR_rf M)
theorem H_gains {u : Nat} {v : Int} (hu : u = 0 ∨ u = 2) (hv : 0 ≤ v ∧ v ≤ 10) (hZ : ZB Z) (hR : RepC Z M) (hU : upZ Z X) (hV : VC M u X (npz Z)) (hQ : ∀ M' : JM, RepC Z M' → keepR M M' → Q (gain1 Z v X (2 ^ npz Z)) M') : JC E mm_H_gainsBehindWeek [vR 0 0, vR 3 u, vI v] M Q := by
  have pb := pow_b hZ
  have h4 := hZ.1.2.1
  refine vc_H_gainsBehindWeek _ _ _ ?_
  refine up_ind (P := fun i => ∀ M' : JM, RepC Z M' → VC M' u X (npz Z) → keepR M M' → JG E mm_H_gainsBehindWeek Q 5 [(0, vR 0 0), (1, vR 3 u), (2, vI v), (3, vL (gain1 Z v X i)), (5, vI (i : Int))] [] M') (2 ^ npz Z) ?_ ?_ M hR hV (keepR_rf M)
  · intro M' r vv k
    exact vc_H_gainsBehindWeek_5 _ _ _ _ _ (H_illnesses hZ r ⟨fun _ => hQ M' r k, fun z => by omega⟩)
  · intro i hi ih M' r vv k
    have gb := gain1_b hZ hv hU i
    have tb := gainT_b (i := i) hZ hv hU
    refine vc_H_gainsBehindWeek_5 _ _ _ _ _ (H_illnesses hZ r ⟨fun z => by omega, fun _ => H_waysOfIllness hv hZ r ⟨fun y a ea => ?_, fun y => ?_⟩⟩)
    · have q := ih M' r vv k
      rw [show gain1 Z v X (i + 1) = gain1 Z v X i by unfold gain1; simp only [sm]; rw [gainT, cmp_0.mp y, Int.zero_mul, Int.add_zero]] at q
      rw [ea, w32_s (by omega)]
      exact q
    · refine T_copyFrom (by omega) hU.1 vv (r.2.1 1 (by omega)) (fun M1 v1 t1 f1 => ?_)
      have r1 := RepC_fra (Or.inl rfl) hZ f1 r
      refine T_passWeek (cpy_PB hU.1) v1 t1 (fun M2 v2 t2 _ f2 => ?_)
      have r2 := RepC_fra (Or.inl rfl) hZ f2 r1
      have uw := upZ_wk (i := i) (r := hoot (cpy X)) hU
      have wb := wag_b uw.1
      have wb2 := wag_b hZ.1
      refine T_wagesOfAll v2 uw.1 (T_wagesOfAll r2.1 hZ.1 (fun a ea a2 ea2 => ?_))
      have q := ih M2 r2 (fra_VC f2 (by omega) (ngd_le hU.1) h4 (fra_VC f1 (by omega) (ngd_le hU.1) h4 vv)) (keepR_tr k (keepR_tr (fra_keepR f1) (fra_keepR f2)))
      rw [show gain1 Z v X (i + 1) = gain1 Z v X i + gainT Z v X i from rfl] at q
      unfold gainT at q tb
      rw [w32_id (x := wag (npz Z) (wk (npz Z) (hoot (cpy X)) i (cpy X)) - wag (npz Z) (Z 0)) (by omega) (by omega), w64_id (x := wyZ Z v i * _) (by omega) (by omega), w64_id (by omega) (by omega)] at ea
      rw [ea, ea2, w32_s (by omega)]
      exact q
theorem H_gains2 {v : Int} (hv : 0 ≤ v ∧ v ≤ 10) (hZ : ZB Z) (hR : RepC Z M) (hQ : ∀ M' : JM, RepC Z M' → keepR M M' → Q (gain2 Z v (2 ^ npz Z)) M') : JC E mm_H_gainsBehindTwoWeeks [vR 0 0, vI v] M Q := by
  have pb := pow_b hZ
  have h4 := hZ.1.2.1
  refine vc_H_gainsBehindTwoWeeks _ _ ?_
  refine up_ind (P := fun i => ∀ M' : JM, RepC Z M' → keepR M M' → JG E mm_H_gainsBehindTwoWeeks Q 5 [(0, vR 0 0), (1, vI v), (2, vL (gain2 Z v i)), (4, vI (i : Int))] [] M') (2 ^ npz Z) ?_ ?_ M hR (keepR_rf M)
  · intro M' r k
    exact vc_H_gainsBehindTwoWeeks_5 _ _ _ _ (H_illnesses hZ r ⟨fun _ => hQ M' r k, fun z => by omega⟩)
  · intro i hi ih M' r k
    have gb := gain2_b hZ hv i
    have tb := gain2T_b (i := i) hZ hv
    refine vc_H_gainsBehindTwoWeeks_5 _ _ _ _ (H_illnesses hZ r ⟨fun z => by omega, fun _ => H_waysOfIllness hv hZ r ⟨fun y a ea => ?_, fun y => ?_⟩⟩)
    · have q := ih M' r k
      rw [show gain2 Z v (i + 1) = gain2 Z v i by unfold gain2; simp only [sm]; rw [gain2T, cmp_0.mp y, Int.zero_mul, Int.add_zero]] at q
      rw [ea, w32_s (by omega)]
      exact q
    · refine T_copyFrom (u := 2) (by omega) hZ.1 r.1 (r.2.1 2 (by omega)) (fun M1 v1 t1 f1 => ?_)
      have r1 := RepC_fra (Or.inr rfl) hZ f1 r
      refine T_passWeek (cpy_PB hZ.1) v1 t1 (fun M2 v2 t2 _ f2 => ?_)
      have r2 := RepC_fra (Or.inr rfl) hZ f2 r1
      refine H_gains (Or.inr rfl) hv hZ r2 (upZ_h hZ i) v2 (fun M3 r3 k3 a ea a2 ea2 => ?_)
      have q := ih M3 r3 (keepR_tr k (keepR_tr (fra_keepR f1) (keepR_tr (fra_keepR f2) k3)))
      rw [show gain2 Z v (i + 1) = gain2 Z v i + gain2T Z v i from rfl] at q
      unfold gain2T at q tb
      rw [w64_id (x := wyZ Z v i * _) (by omega) (by omega), w64_id (by omega) (by omega)] at ea
      rw [ea, ea2, w32_s (by omega)]
      exact q
theorem pw10_a (a : Nat) : ∀ n : Nat, pw10 (a + n) = pw10 a * pw10 n
  | 0 => by simp [pw10]
  | n + 1 => by
    show pw10 ((a + n) + 1) = _
    rw [pw10, pw10_a a n, pw10, Int.mul_assoc]
theorem H_mean {v n w : Int} (hZ : ZB Z) (hR : RepC Z M) (hQ : ∀ M' : JM, RepC Z M' → keepR M M' → Q (sp_mean Z v n w) M') : JC E mm_H_mean [vR 0 0, vI v, vI n, vI w] M Q := by
  unfold sp_mean at hQ
  refine vc_H_mean _ _ _ _ (H_within (fun h => c10 (H_within (fun hg => c10 (H_within (fun h2 => d10 ?_) (fun h2 => d00 ?_))) (fun hg => c00 ?_))) (fun h => c00 ?_))
  · rw [if_pos ⟨h, hg, h2⟩] at hQ
    have pb := pow_b hZ
    have h4 := hZ.1.2.1
    have tb := pw10_b (npz Z) (by omega)
    have tb2 := pw10_b (2 * npz Z) (by omega)
    refine ⟨fun y => ⟨fun y2 => ?_, fun y2 => ?_⟩, fun y => ?_⟩
    · rw [if_pos (by omega)] at hQ
      exact vc_H_mean_86 _ _ _ _ (H_partOfFraction (u := 0) (d := 1) (by omega) (by omega) (by omega) (hQ M hR (keepR_rf M)))
    · rw [if_neg (by omega), if_neg y] at hQ
      have gb := gain2_b hZ h (2 ^ npz Z)
      refine H_gains2 h hZ hR (fun M1 r1 k1 => H_allWays hZ r1 (H_allWays hZ r1 (fun a ea => vc_H_mean_86 _ _ _ _ ?_)))
      rw [← pw10_a, ← Nat.two_mul, w64_id (by omega) (by omega)] at ea
      rw [ea, show gain2 Z v (2 ^ npz Z) = (((gain2 Z v (2 ^ npz Z)).toNat : Nat) : Int) by omega, show pw10 (2 * npz Z) = (((pw10 (2 * npz Z)).toNat : Nat) : Int) by omega]
      exact H_partOfFraction (by omega) (by omega) (by omega) (hQ M1 r1 k1)
    · rw [if_neg (by omega), if_pos y] at hQ
      have gb := gain1_b hZ h (upZ_0 hZ) (2 ^ npz Z)
      refine H_gains (Or.inl rfl) h hZ hR (upZ_0 hZ) hR.1 (fun M1 r1 k1 => H_allWays hZ r1 (vc_H_mean_86 _ _ _ _ ?_))
      rw [show gain1 Z v (Z 0) (2 ^ npz Z) = (((gain1 Z v (Z 0) (2 ^ npz Z)).toNat : Nat) : Int) by omega, show pw10 (npz Z) = (((pw10 (npz Z)).toNat : Nat) : Int) by omega]
      exact H_partOfFraction (by omega) (by omega) (by omega) (hQ M1 r1 k1)
  · rw [if_neg (fun z => h2 z.2.2)] at hQ; exact hQ M hR (keepR_rf M)
  · rw [if_neg (fun z => hg z.2.1)] at hQ; exact hQ M hR (keepR_rf M)
  · rw [if_neg (fun z => h z.1)] at hQ; exact hQ M hR (keepR_rf M)
end

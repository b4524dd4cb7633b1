/-! as seen -/
def okW (S Y : Nat → Int) (k : Int) : Nat → Int
  | 0 => 1
  | e + 1 => if okW S Y k e = 1 ∧ (S (3 * e) ≠ k ∨ Y (37 + (S (3 * e + 1)).toNat) = S (3 * e + 2)) then 1 else 0
def okA (S : Nat → Int) (n np : Nat) (X : Nat → Int) : Nat → Int
  | 0 => 1
  | k + 1 => if okA S n np X k = 1 ∧ okW S (wks np X k) (k : Int) n = 1 then 1 else 0
section
variable {S Y X : Nat → Int} {k : Int} {n np : Nat}
theorem okW_01 : ∀ e : Nat, okW S Y k e = 0 ∨ okW S Y k e = 1
  | 0 => Or.inr rfl
  | e + 1 => by unfold okW; split <;> simp
theorem okW_z {e : Nat} (h : okW S Y k e = 0) : ∀ j : Nat, okW S Y k (e + j) = 0
  | 0 => h
  | j + 1 => by
    show okW S Y k ((e + j) + 1) = 0
    unfold okW
    rw [if_neg (fun q => by have := okW_z h j; omega)]
theorem okW_free : ∀ e : Nat, (∀ i, i < e → S (3 * i) ≠ k) → okW S Y k e = 1
  | 0, _ => rfl
  | e + 1, h => by
    unfold okW
    rw [if_pos ⟨okW_free e (fun i hi => h i (by omega)), Or.inl (h e (by omega))⟩]
theorem okA_01 : ∀ k : Nat, okA S n np X k = 0 ∨ okA S n np X k = 1
  | 0 => Or.inr rfl
  | k + 1 => by unfold okA; split <;> simp
theorem okA_z {k : Nat} (h : okA S n np X k = 0) : ∀ j : Nat, okA S n np X (k + j) = 0
  | 0 => h
  | j + 1 => by
    show okA S n np X ((k + j) + 1) = 0
    unfold okA
    rw [if_neg (fun q => by have := okA_z h j; omega)]
theorem okA_free {k : Nat} (h : okA S n np X k = 1) : ∀ j : Nat, (∀ i : Nat, k ≤ i → okW S (wks np X i) (i : Int) n = 1) → okA S n np X (k + j) = 1
  | 0, _ => h
  | j + 1, hf => by
    show okA S n np X ((k + j) + 1) = 1
    unfold okA
    rw [if_pos ⟨okA_free h j hf, hf _ (by omega)⟩]
end
def mxs (S : Nat → Int) : Nat → Int
  | 0 => 0
  | e + 1 => max (mxs S e) (S (3 * e))
theorem mxs_b {S : Nat → Int} : ∀ n : Nat, (∀ e, e < n → 0 ≤ S (3 * e) ∧ S (3 * e) ≤ 20) → (0 ≤ mxs S n ∧ mxs S n ≤ 20) ∧ ∀ e, e < n → S (3 * e) ≤ mxs S n
  | 0, _ => ⟨by simp [mxs], fun e he => by omega⟩
  | n + 1, h => by
    obtain ⟨a, b⟩ := mxs_b n (fun e he => h e (by omega))
    have c := h n (by omega)
    unfold mxs
    refine ⟨by omega, fun e he => ?_⟩
    by_cases q : e = n
    · rw [q]; omega
    · have := b e (by omega); omega
def seenN (Z : ZZ) : Nat := (Z 3 2).toNat
def okZ (Z : ZZ) (X : Nat → Int) : Int := okA (Z 8) (seenN Z) (npz Z) X 21
section
variable {E : EE} {Q : Int → JM → Prop} {M : JM} {Z : ZZ} {X : Nat → Int}
theorem seenN_i (hZ : ZB Z) : ((seenN Z : Nat) : Int) = Z 3 2 := by have := hZ.2.2.2.1; unfold seenN; omega
theorem H_lastWeekSeen (hZ : ZB Z) (hR : RepC Z M) (hQ : Q (mxs (Z 8) (seenN Z)) M) : JC E mm_H_lastWeekSeen [vR 0 0] M Q := by
  have hs := seenN_i hZ
  have h6 := hZ.2.2.2.1
  obtain ⟨r5, r5'⟩ := hR.2.2.2.2.1
  refine vc_H_lastWeekSeen _ ?_
  refine up_ind (P := fun i => JG E mm_H_lastWeekSeen Q 4 [(0, vR 0 0), (1, vI (mxs (Z 8) i)), (2, vI (i : Int))] [] M) (seenN Z) ?_ ?_
  · exact vc_H_lastWeekSeen_4 _ _ _ ⟨fun _ => hQ, fun z => by rw [r5] at z; omega⟩
  · intro i hi ih
    refine vc_H_lastWeekSeen_4 _ _ _ ⟨fun z => by rw [r5] at z; omega, fun _ => ⟨by omega, fun a ea a2 ea2 => ?_⟩⟩
    rw [Int.toNat_natCast, r5' i 0 (by omega) (by omega)] at ea
    rw [ea2, w32_s (by omega), ea]
    exact ih
theorem H_trialIsAsSeen {k : Int} (hZ : ZB Z) (hR : RepC Z M) (hV : VC M 1 X (npz Z)) (hQ : Q (okW (Z 8) X k (seenN Z)) M) : JC E mm_H_trialIsAsSeen [vR 0 0, vI k] M Q := by
  have hs := seenN_i hZ
  have h6 := hZ.2.2.2.1
  have h4 := np4 hZ
  have hi' := npz_i hZ
  obtain ⟨r5, r5'⟩ := hR.2.2.2.2.1
  refine vc_H_trialIsAsSeen _ _ ?_
  refine up_ind (P := fun i => okW (Z 8) X k i = 1 → JG E mm_H_trialIsAsSeen Q 2 [(0, vR 0 0), (1, vI k), (2, vI (i : Int))] [] M) (seenN Z) ?_ ?_ rfl
  · intro o
    rw [o] at hQ
    exact vc_H_trialIsAsSeen_2 _ _ _ ⟨fun _ => hQ, fun z => by rw [r5] at z; omega⟩
  · intro i hi ih o
    obtain ⟨b0, b1, b2⟩ := hZ.2.2.2.2.2.2.1 i (by omega)
    have e0 : M 8 i 0 = Z 8 (3 * i) := r5' i 0 (by omega) (by omega)
    have e1 : M 8 i 1 = Z 8 (3 * i + 1) := r5' i 1 (by omega) (by omega)
    have e2 : M 8 i 2 = Z 8 (3 * i + 2) := r5' i 2 (by omega) (by omega)
    refine vc_H_trialIsAsSeen_2 _ _ _ ⟨fun z => by rw [r5] at z; omega, fun _ => ⟨by omega, ?_⟩⟩
    rw [Int.toNat_natCast, e0, e1, e2]
    refine ⟨fun y a ea => ?_, fun y => ⟨by omega, ?_⟩⟩
    · rw [ea, w32_s (by omega)]
      exact ih (by unfold okW; rw [if_pos ⟨o, Or.inl y⟩])
    · rw [show M 2 (4 * 1 + (M 5 1 (Z 8 (3 * i + 1)).toNat).toNat) 1 = X (37 + (Z 8 (3 * i + 1)).toNat) from (hV.2.2.1 _ (by omega)).2]
      refine ⟨fun y2 a ea => ?_, fun y2 => ?_⟩
      · rw [ea, w32_s (by omega)]
        exact ih (by unfold okW; rw [if_pos ⟨o, Or.inr y2⟩])
      · have z0 : okW (Z 8) X k (i + 1) = 0 := by
          unfold okW
          rw [if_neg]
          rintro ⟨-, q | q⟩
          · exact q y
          · exact y2 q
        have z1 := okW_z z0 (seenN Z - (i + 1))
        rw [show i + 1 + (seenN Z - (i + 1)) = seenN Z by omega] at z1
        rw [z1] at hQ
        exact hQ
theorem C_goes (hZ : ZB Z) (hR : RepC Z M) (hB : PB X (npz Z)) (hV : VC M 1 X (npz Z)) (hT : VT M 1 X) (hQ : ∀ M' : JM, RepC Z M' → keepR M M' → Q (okZ Z X) M') : JC E mm_H_trialGoesAsSeen [vR 0 0] M Q := by
  have hs := seenN_i hZ
  obtain ⟨mb, mb'⟩ := mxs_b (S := Z 8) (seenN Z) (fun e he => (hZ.2.2.2.2.2.2.1 e (by omega)).1)
  obtain ⟨L, hL⟩ : ∃ L : Nat, mxs (Z 8) (seenN Z) = L := ⟨(mxs (Z 8) (seenN Z)).toNat, by omega⟩
  rw [hL] at mb mb'
  refine vc_H_trialGoesAsSeen _ (H_lastWeekSeen hZ hR ?_)
  rw [hL]
  unfold okZ at hQ
  have zero : ∀ i : Nat, i ≤ L → okA (Z 8) (seenN Z) (npz Z) X (i + 1) = 0 → okA (Z 8) (seenN Z) (npz Z) X 21 = 0 := by
    intro i hi h
    have := okA_z h (20 - i)
    rw [show i + 1 + (20 - i) = 21 by omega] at this
    exact this
  refine up_ind (P := fun i => okA (Z 8) (seenN Z) (npz Z) X i = 1 → ∀ M' : JM, RepC Z M' → VC M' 1 (wks (npz Z) X i) (npz Z) → VT M' 1 (wks (npz Z) X i) → keepR M M' → JG E mm_H_trialGoesAsSeen Q 7 [(0, vR 0 0), (1, vI (L : Int)), (2, vI (i : Int))] [] M') L ?_ ?_ rfl M hR hV hT (keepR_rf M)
  · intro o M' r v t k
    refine vc_H_trialGoesAsSeen_7 _ _ _ ⟨fun _ => H_trialIsAsSeen hZ r v ?_, fun z => by omega⟩
    rcases okW_01 (S := Z 8) (Y := wks (npz Z) X L) (k := (L : Int)) (seenN Z) with y | y
    · rw [y]
      have z0 : okA (Z 8) (seenN Z) (npz Z) X (L + 1) = 0 := by unfold okA; rw [if_neg (fun q => by omega)]
      rw [zero L (Nat.le_refl _) z0] at hQ
      exact ⟨Or.inl rfl, hQ M' r k⟩
    · rw [y]
      have z0 : okA (Z 8) (seenN Z) (npz Z) X (L + 1) = 1 := by unfold okA; rw [if_pos ⟨o, y⟩]
      have z1 := okA_free z0 (20 - L) (fun i hi => okW_free _ (fun e he => by have := mb' e he; omega))
      rw [show L + 1 + (20 - L) = 21 by omega] at z1
      rw [z1] at hQ
      exact ⟨Or.inr rfl, hQ M' r k⟩
  · intro i hi ih o M' r v t k
    refine vc_H_trialGoesAsSeen_7 _ _ _ ⟨fun z => by omega, fun _ => H_trialIsAsSeen hZ r v ?_⟩
    rcases okW_01 (S := Z 8) (Y := wks (npz Z) X i) (k := (i : Int)) (seenN Z) with y | y
    · rw [y]
      have z0 : okA (Z 8) (seenN Z) (npz Z) X (i + 1) = 0 := by unfold okA; rw [if_neg (fun q => by omega)]
      rw [zero i (by omega) z0] at hQ
      exact d00 (hQ M' r k)
    · rw [y]
      refine d10 (C_week hZ r (wks_PB hB i) v t (fun M2 r2 v2 t2 _ k2 a ea => ?_))
      rw [ea, w32_s (by omega)]
      exact ih (by unfold okA; rw [if_pos ⟨o, y⟩]) M2 r2 v2 t2 (keepR_tr k k2)
/-! in the reference -/
def frs (M M' : JM) : Prop := ∀ t i k, ¬ ((t = 21 ∧ i = 0 ∧ 176 ≤ k) ∨ t = 26 ∨ t = 27 ∨ t = 29 ∨ (t = 20 ∧ (k = 18 ∨ k = 19 ∨ k = 20))) → M' t i k = M t i k
theorem frs_tr {M M' M'' : JM} (h : frs M M') (h2 : frs M' M'') : frs M M'' := fun t i k q => (h2 t i k q).trans (h t i k q)
theorem fro_frs {M' : JM} (h : fro M M') : frs M M' := fun t i k q => h t i k (by omega)
theorem frs_R {M' : JM} (h : frs M M') (hR : RepR Z M) : RepR Z M' := RepR_frb (fun t i k q => h t i k (by omega)) hR
/-- a row of wages -/
def rowM (M : JM) (np : Nat) (v : Nat) (X : Nat → Int) (n : Nat) : Prop := ∀ k p, k < n → p < np → M 29 0 (84 * v + 4 * k + p) = wks np X k (37 + p)
theorem M_isAsSeen {v : Nat} (hv : v < 21) (hZ : ZB Z) (hR : RepR Z M) (hQ : ∀ M' : JM, frs M M' → (∀ k, ¬ (84 * v ≤ k ∧ k < 84 * v + 84) → M' 29 0 k = M 29 0 k) → rowM M' (npz Z) v (cpy (Z 0)) 21 → Q (okZ Z (cpy (Z 0))) M') : JC E mm_M_isAsSeen [vR 20 0, vI (v : Int)] M Q := by
  have hs := seenN_i hZ
  have h6 := hZ.2.2.2.1
  have h4 := np4 hZ
  have hi' := npz_i hZ
  unfold okZ at hQ
  refine vc_M_isAsSeen _ _ (R_copy (c := 176) (by omega) hR (fun M1 r1 v1 f1 => ?_))
  refine up_ind (P := fun i => ∀ M' : JM, VR M' 176 (wks (npz Z) (cpy (Z 0)) i) (npz Z) → frs M M' → (∀ k, ¬ (84 * v ≤ k ∧ k < 84 * v + 84) → M' 29 0 k = M 29 0 k) → rowM M' (npz Z) v (cpy (Z 0)) i → JG E mm_M_isAsSeen Q 12 [(0, vR 20 0), (1, vI (v : Int)), (2, vI (okA (Z 8) (seenN Z) (npz Z) (cpy (Z 0)) i)), (3, vI (i : Int))] [] M') 21 ?_ ?_ M1 v1 (fro_frs f1) (fun k _ => f1 29 0 k (by omega)) (fun k p hk => by omega)
  · intro M' vv f o w
    exact vc_M_isAsSeen_12 _ _ _ _ ⟨fun _ => ⟨okA_01 21, hQ M' f o w⟩, fun z => by omega⟩
  · intro i hi ih M' vv f o w
    refine vc_M_isAsSeen_12 _ _ _ _ ⟨fun z => by omega, fun _ => ?_⟩
    refine up_ind (P := fun p => ∀ M' : JM, VR M' 176 (wks (npz Z) (cpy (Z 0)) i) (npz Z) → frs M M' → (∀ k, ¬ (84 * v ≤ k ∧ k < 84 * v + 84) → M' 29 0 k = M 29 0 k) → rowM M' (npz Z) v (cpy (Z 0)) i → (∀ q, q < p → M' 29 0 (84 * v + 4 * i + q) = wks (npz Z) (cpy (Z 0)) i (37 + q)) → JG E mm_M_isAsSeen Q 21 [(0, vR 20 0), (1, vI (v : Int)), (2, vI (okA (Z 8) (seenN Z) (npz Z) (cpy (Z 0)) i)), (3, vI (i : Int)), (4, vI (p : Int))] [] M') (npz Z) ?_ ?_ M' vv f o w (fun q hq => by omega)
    · intro M2 v2 f2 o2 w2 x2
      have r2 := frs_R f2 hR
      refine vc_M_isAsSeen_21 _ _ _ _ _ ⟨fun _ => ?_, fun z => by rw [v2.2] at z; omega⟩
      have w3 : rowM M2 (npz Z) v (cpy (Z 0)) (i + 1) := by
        intro k p hk hp
        by_cases q : k = i
        · rw [q]; exact x2 p hp
        · exact w2 k p (by omega) hp
      obtain ⟨r5, r5'⟩ := r2.2.2.2.1
      have key := up_ind (P := fun e => JG E mm_M_isAsSeen Q 66 [(0, vR 20 0), (1, vI (v : Int)), (2, vI (if okA (Z 8) (seenN Z) (npz Z) (cpy (Z 0)) i = 1 ∧ okW (Z 8) (wks (npz Z) (cpy (Z 0)) i) (i : Int) e = 1 then 1 else 0)), (3, vI (i : Int)), (4, vI (e : Int))] [] M2) (seenN Z) ?_ ?_
      · have e0 : (if okA (Z 8) (seenN Z) (npz Z) (cpy (Z 0)) i = 1 ∧ okW (Z 8) (wks (npz Z) (cpy (Z 0)) i) (i : Int) 0 = 1 then (1 : Int) else 0) = okA (Z 8) (seenN Z) (npz Z) (cpy (Z 0)) i := by
          rcases okA_01 (S := Z 8) (n := seenN Z) (np := npz Z) (X := cpy (Z 0)) i with y | y
          · rw [y, if_neg (fun q => by omega)]
          · rw [y, if_pos ⟨rfl, rfl⟩]
        rw [e0] at key
        exact key
      · refine vc_M_isAsSeen_66 _ _ _ _ _ ⟨fun _ => R_goes r2 (wks_PB (cpy_PB hZ.1) i) v2 (fun M3 r3 v3 _ f3 a ea => ?_), fun z => by rw [r5] at z; omega⟩
        rw [ea, w32_s (by omega)]
        exact ih M3 v3 (frs_tr f2 (fro_frs f3)) (fun k q => by rw [f3 29 0 k (by omega)]; exact o2 k q) (fun k p hk hp => by rw [f3 29 0 _ (by omega)]; exact w3 k p hk hp)
      · intro e he ih2
        obtain ⟨b0, b1, b2⟩ := hZ.2.2.2.2.2.2.1 e (by omega)
        have e0 : M2 28 0 (3 * e) = Z 8 (3 * e) := r5' e 0 (by omega) (by omega)
        have e1 : M2 28 0 (3 * e + 1) = Z 8 (3 * e + 1) := r5' e 1 (by omega) (by omega)
        have e2 : M2 28 0 (3 * e + 2) = Z 8 (3 * e + 2) := r5' e 2 (by omega) (by omega)
        refine vc_M_isAsSeen_66 _ _ _ _ _ ⟨fun z => by rw [r5] at z; omega, fun _ => ?_⟩
        rw [w32_id (x := 3 * (e : Int)) (by omega) (by omega), w32_id (x := 3 * (e : Int) + 1) (by omega) (by omega), w32_id (x := 3 * (e : Int) + 2) (by omega) (by omega), show (3 * (e : Int)).toNat = 3 * e by omega, show (3 * (e : Int) + 1).toNat = 3 * e + 1 by omega, show (3 * (e : Int) + 2).toNat = 3 * e + 2 by omega, e0, e1, e2]
        rw [w32_id (x := 213 + Z 8 (3 * e + 1)) (by omega) (by omega), show (213 + Z 8 (3 * e + 1)).toNat = 176 + (37 + (Z 8 (3 * e + 1)).toNat) by omega, v2.1 (37 + (Z 8 (3 * e + 1)).toNat) (by omega)]
        by_cases y : okA (Z 8) (seenN Z) (npz Z) (cpy (Z 0)) i = 1 ∧ okW (Z 8) (wks (npz Z) (cpy (Z 0)) i) (i : Int) e = 1
        · rw [if_pos y]
          have yes : (Z 8 (3 * e) ≠ (i : Int) ∨ wks (npz Z) (cpy (Z 0)) i (37 + (Z 8 (3 * e + 1)).toNat) = Z 8 (3 * e + 2)) → JG E mm_M_isAsSeen Q 126 [(0, vR 20 0), (1, vI (v : Int)), (3, vI (i : Int)), (4, vI (e : Int))] [] M2 := by
            intro q
            refine vc_M_isAsSeen_126 _ _ _ _ (fun a ea => ?_)
            rw [ea, w32_s (by omega)]
            have z : okW (Z 8) (wks (npz Z) (cpy (Z 0)) i) (i : Int) (e + 1) = 1 := by unfold okW; rw [if_pos ⟨y.2, q⟩]
            rw [if_pos ⟨y.1, z⟩] at ih2
            exact ih2
          refine ⟨fun z => absurd z (by decide), fun _ => ⟨by omega, fun q => yes (Or.inl q), fun q => ⟨by omega, by omega, by omega, fun q2 => ?_, fun q2 => yes (Or.inr q2)⟩⟩⟩
          refine vc_M_isAsSeen_130 _ _ _ _ (fun a ea => ?_)
          rw [ea, w32_s (by omega)]
          have z : okW (Z 8) (wks (npz Z) (cpy (Z 0)) i) (i : Int) (e + 1) = 0 := by
            unfold okW
            rw [if_neg]
            rintro ⟨-, q3 | q3⟩
            · exact q3 q
            · exact q2 q3
          rw [if_neg (fun q3 => by omega)] at ih2
          exact ih2
        · rw [if_neg y]
          refine ⟨fun _ => vc_M_isAsSeen_130 _ _ _ _ (fun a ea => ?_), fun z => absurd rfl z⟩
          rw [ea, w32_s (by omega)]
          have z : ¬ (okA (Z 8) (seenN Z) (npz Z) (cpy (Z 0)) i = 1 ∧ okW (Z 8) (wks (npz Z) (cpy (Z 0)) i) (i : Int) (e + 1) = 1) := by
            intro q
            refine y ⟨q.1, ?_⟩
            rcases okW_01 (S := Z 8) (Y := wks (npz Z) (cpy (Z 0)) i) (k := (i : Int)) e with y2 | y2
            · have := okW_z y2 1; omega
            · exact y2
          rw [if_neg z] at ih2
          exact ih2
    · intro p hp ih2 M2 v2 f2 o2 w2 x2
      refine vc_M_isAsSeen_21 _ _ _ _ _ ⟨fun z => by rw [v2.2] at z; omega, fun _ => ?_⟩
      rw [w32_id (x := 213 + (p : Int)) (by omega) (by omega), show (213 + (p : Int)).toNat = 176 + (37 + p) by omega, v2.1 (37 + p) (by omega), w32_id (x := 84 * (v : Int)) (by omega) (by omega), w32_id (x := 4 * (i : Int)) (by omega) (by omega), w32_id (x := 84 * (v : Int) + 4 * (i : Int)) (by omega) (by omega), w32_id (x := 84 * (v : Int) + 4 * (i : Int) + (p : Int)) (by omega) (by omega), show (84 * (v : Int) + 4 * (i : Int) + (p : Int)).toNat = 84 * v + 4 * i + p by omega]
      refine ⟨by omega, by omega, fun M3 e3 a ea => ?_⟩
      rw [ea, w32_s (by omega)]
      refine ih2 M3 ⟨fun j hj => by rw [e3, pt_ne (by omega)]; exact v2.1 j hj, by rw [e3, pt_ne (by omega)]; exact v2.2⟩ (fun t j k q => by rw [e3, pt_ne (by omega)]; exact f2 t j k q) (fun k q => by rw [e3, pt_ne (by omega)]; exact o2 k q) (fun k q hk hq => by rw [e3, pt_ne (by omega)]; exact w2 k q hk hq) (fun q hq => ?_)
      by_cases y : q = p
      · rw [y, e3, pt_eq]
      · rw [e3, pt_ne (by omega)]; exact x2 q (by omega)
end

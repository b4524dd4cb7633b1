/-! what the class and the reference hold, as one value Z: 0 the page now, 1 and 2 the images' pages, 3 numbers (0 people, 1 bytes on the tape, 2 seen, 3 fault, 4 torn, 5 and 6 whether there is an image), 4 the tape, 5 lanes, 6 sizes, 7 cells, 8 what is seen -/
abbrev ZZ : Type := Nat → Nat → Int
def zu (Z : ZZ) (a k : Nat) (v : Int) : ZZ := fun a' k' => if a' = a ∧ k' = k then v else Z a' k'
def zp (Z : ZZ) (a : Nat) (f : Nat → Int) : ZZ := fun a' => if a' = a then f else Z a'
theorem zu_s (Z : ZZ) (a k : Nat) (v : Int) : zu Z a k v a k = v := if_pos ⟨rfl, rfl⟩
theorem zu_n {Z : ZZ} {a k a' k' : Nat} {v : Int} (h : ¬ (a' = a ∧ k' = k)) : zu Z a k v a' k' = Z a' k' := if_neg h
theorem zu_r {Z : ZZ} {a k a' : Nat} {v : Int} (h : ¬ a' = a) : zu Z a k v a' = Z a' := funext fun k' => if_neg (fun q => h q.1)
theorem zu_a (Z : ZZ) (a k : Nat) (v : Int) : zu Z a k v a = uf (Z a) k v := funext fun k' => by unfold zu uf; by_cases h : k' = k <;> simp [h]
theorem zp_s (Z : ZZ) (a : Nat) (f : Nat → Int) : zp Z a f a = f := if_pos rfl
theorem zp_n {Z : ZZ} {a a' : Nat} {f : Nat → Int} (h : ¬ a' = a) : zp Z a f a' = Z a' := if_neg h
def npz (Z : ZZ) : Nat := (Z 3 0).toNat
def ZB (Z : ZZ) : Prop := PB (Z 0) (npz Z) ∧ 0 ≤ Z 3 0 ∧ (0 ≤ Z 3 1 ∧ Z 3 1 ≤ 160) ∧ (0 ≤ Z 3 2 ∧ Z 3 2 ≤ 6) ∧ (∀ k, k < 2 → (Z 3 (5 + k) = 0 ∨ Z 3 (5 + k) = 1) ∧ (Z 3 (5 + k) = 1 → PB (Z (1 + k)) (npz Z))) ∧ (∀ k, k < 4 → (-1 ≤ Z 5 k ∧ Z 5 k ≤ 2) ∧ (0 ≤ Z 6 k ∧ Z 6 k ≤ 40)) ∧ (∀ i : Nat, (i : Int) < Z 3 2 → (0 ≤ Z 8 (3 * i) ∧ Z 8 (3 * i) ≤ 20) ∧ (0 ≤ Z 8 (3 * i + 1) ∧ Z 8 (3 * i + 1) < Z 3 0) ∧ (0 ≤ Z 8 (3 * i + 2) ∧ Z 8 (3 * i + 2) ≤ 999)) ∧ (∀ j : Nat, (j : Int) < Z 3 1 → 0 ≤ Z 4 j ∧ Z 4 j ≤ 127)
def RepC (Z : ZZ) (M : JM) : Prop := VC M 0 (Z 0) (npz Z) ∧ (∀ u, u < 5 → permOk M u) ∧ (∀ k, k < 2 → M 12 0 k = Z 3 (5 + k) ∧ (Z 3 (5 + k) = 1 → VC M (3 + k) (Z (1 + k)) (npz Z))) ∧ (M 9 0 1 = Z 3 1 ∧ ∀ j : Nat, (j : Int) < Z 3 1 → M 10 0 j = Z 4 j) ∧ (M 0 0 9 = Z 3 2 ∧ ∀ i k : Nat, (i : Int) < Z 3 2 → k < 3 → M 8 i k = Z 8 (3 * i + k)) ∧ (M 0 0 10 = Z 3 3 ∧ M 0 0 11 = Z 3 4) ∧ (∀ k, k < 4 → M 6 k 1 = Z 5 k ∧ M 6 k 2 = Z 6 k ∧ ∀ j, j < 40 → M 7 k j = Z 7 (40 * k + j))
def endsT : List Int := [0, 5, 12, 19, 24, 27, 33, 39]
def lettT : List Int := [112, 108, 97, 105, 110, 97, 119, 107, 119, 97, 114, 100, 102, 101, 97, 116, 104, 101, 114, 99, 114, 97, 116, 101, 111, 110, 101, 104, 111, 111, 116, 101, 114, 98, 114, 105, 110, 103, 115]
def RepR (Z : ZZ) (M : JM) : Prop := VR M 0 (Z 0) (npz Z) ∧ (∀ k, k < 2 → M 30 0 k = Z 3 (5 + k) ∧ (Z 3 (5 + k) = 1 → VR M (44 + 44 * k) (Z (1 + k)) (npz Z))) ∧ (M 20 0 6 = Z 3 1 ∧ ∀ j : Nat, (j : Int) < Z 3 1 → M 23 0 j = Z 4 j) ∧ (M 20 0 22 = Z 3 2 ∧ ∀ i k : Nat, (i : Int) < Z 3 2 → k < 3 → M 28 0 (3 * i + k) = Z 8 (3 * i + k)) ∧ (M 20 0 7 = Z 3 3 ∧ M 20 0 28 = Z 3 4) ∧ (∀ k, k < 4 → M 31 0 k = (if Z 5 k = -1 then -4 else Z 5 k) ∧ M 32 0 k = Z 6 k ∧ ∀ j, j < 40 → M 33 0 (40 * k + j) = Z 7 (40 * k + j)) ∧ (∀ j, j < 8 → M 24 0 j = endsT.getD j 0) ∧ (∀ j, j < 39 → M 25 0 j = lettT.getD j 0)
def keepR (M M' : JM) : Prop := ∀ t i k, 20 ≤ t → M' t i k = M t i k
def keepC (M M' : JM) : Prop := ∀ t i k, t < 20 → M' t i k = M t i k
theorem keepR_rf (M : JM) : keepR M M := fun _ _ _ _ => rfl
theorem keepC_rf (M : JM) : keepC M M := fun _ _ _ _ => rfl
theorem keepR_tr {M M' M'' : JM} (h : keepR M M') (h2 : keepR M' M'') : keepR M M'' := fun t i k q => (h2 t i k q).trans (h t i k q)
theorem keepC_tr {M M' M'' : JM} (h : keepC M M') (h2 : keepC M' M'') : keepC M M'' := fun t i k q => (h2 t i k q).trans (h t i k q)
theorem keepR_pt {M : JM} {t i k : Nat} {x : Int} (h : t < 20) : keepR M (pt M t i k x) := fun t' i' k' q => pt_ne (by omega)
theorem keepC_pt {M : JM} {t i k : Nat} {x : Int} (h : 20 ≤ t) : keepC M (pt M t i k x) := fun t' i' k' q => pt_ne (by omega)
theorem fra_keepR {u : Nat} {M M' : JM} (h : fra u M M') : keepR M M' := fun t i k q => h t i k (by omega)
theorem frb_keepC {b : Nat} {M M' : JM} (h : frb b M M') : keepC M M' := fun t i k q => h t i k (by omega)
theorem VC_eq {M M' : JM} {u np : Nat} {X : Nat → Int} (h : ∀ t i k, t < 20 → M' t i k = M t i k) (hV : VC M u X np) : VC M' u X np := by
  have e : ∀ p, on M' u p = on M u p := fun p => by unfold on; rw [h 5 u p (by omega)]
  refine ⟨by rw [h 3 u 2 (by omega), h 3 u 3 (by omega), h 3 u 4 (by omega), h 3 u 5 (by omega), h 3 u 6 (by omega)]; exact hV.1, fun g hg => ?_, fun p hp => ?_, fun a ha => ?_, fun a b ha hb => ?_⟩
  · rw [h 1 _ 0 (by omega), h 1 _ 1 (by omega), h 1 _ 2 (by omega), h 1 _ 3 (by omega), h 1 _ 4 (by omega), h 1 _ 5 (by omega)]; exact hV.2.1 g hg
  · rw [e, h 2 _ 0 (by omega), h 2 _ 1 (by omega)]; exact hV.2.2.1 p hp
  · rw [h 5 u a (by omega)]; exact hV.2.2.2.1 a ha
  · rw [h 5 u a (by omega), h 5 u b (by omega)]; exact hV.2.2.2.2 a b ha hb
theorem RepC_keep {Z : ZZ} {M M' : JM} (h : keepC M M') (hR : RepC Z M) : RepC Z M' := by
  obtain ⟨r1, r2, r3, r4, r5, r6, r7⟩ := hR
  refine ⟨VC_eq h r1, fun u hu => ⟨fun a ha => ?_, fun a b ha hb => ?_⟩, fun k hk => ?_, ?_, ?_, ?_, fun k hk => ?_⟩
  · rw [h 5 u a (by omega)]; exact (r2 u hu).1 a ha
  · rw [h 5 u a (by omega), h 5 u b (by omega)]; exact (r2 u hu).2 a b ha hb
  · rw [h 12 0 k (by omega)]; exact ⟨(r3 k hk).1, fun q => VC_eq h ((r3 k hk).2 q)⟩
  · rw [h 9 0 1 (by omega)]; exact ⟨r4.1, fun j hj => by rw [h 10 0 j (by omega)]; exact r4.2 j hj⟩
  · rw [h 0 0 9 (by omega)]; exact ⟨r5.1, fun i k hi hk => by rw [h 8 i k (by omega)]; exact r5.2 i k hi hk⟩
  · rw [h 0 0 10 (by omega), h 0 0 11 (by omega)]; exact r6
  · rw [h 6 k 1 (by omega), h 6 k 2 (by omega)]; exact ⟨(r7 k hk).1, (r7 k hk).2.1, fun j hj => by rw [h 7 k j (by omega)]; exact (r7 k hk).2.2 j hj⟩
theorem VR_eq {M M' : JM} {b np : Nat} {X : Nat → Int} (h : keepR M M') (hV : VR M b X np) : VR M' b X np := ⟨fun k hk => by rw [h 21 0 _ (by omega)]; exact hV.1 k hk, by rw [h 20 0 1 (by omega)]; exact hV.2⟩
theorem RepR_keep {Z : ZZ} {M M' : JM} (h : keepR M M') (hR : RepR Z M) : RepR Z M' := by
  obtain ⟨r1, r3, r4, r5, r6, r7, r8, r9⟩ := hR
  refine ⟨VR_eq h r1, fun k hk => ?_, ?_, ?_, ?_, fun k hk => ?_, fun j hj => ?_, fun j hj => ?_⟩
  · rw [h 30 0 k (by omega)]; exact ⟨(r3 k hk).1, fun q => VR_eq h ((r3 k hk).2 q)⟩
  · rw [h 20 0 6 (by omega)]; exact ⟨r4.1, fun j hj => by rw [h 23 0 j (by omega)]; exact r4.2 j hj⟩
  · rw [h 20 0 22 (by omega)]; exact ⟨r5.1, fun i k hi hk => by rw [h 28 0 _ (by omega)]; exact r5.2 i k hi hk⟩
  · rw [h 20 0 7 (by omega), h 20 0 28 (by omega)]; exact r6
  · rw [h 31 0 k (by omega), h 32 0 k (by omega)]; exact ⟨(r7 k hk).1, (r7 k hk).2.1, fun j hj => by rw [h 33 0 _ (by omega)]; exact (r7 k hk).2.2 j hj⟩
  · rw [h 24 0 j (by omega)]; exact r8 j hj
  · rw [h 25 0 j (by omega)]; exact r9 j hj
/-- a town on which things are tried has changed -/
theorem RepC_fra {Z : ZZ} {M M' : JM} {u : Nat} (hu : u = 1 ∨ u = 2) (hZ : ZB Z) (h : fra u M M') (hR : RepC Z M) : RepC Z M' := by
  obtain ⟨r1, r2, r3, r4, r5, r6, r7⟩ := hR
  refine ⟨fra_VC h (by omega) (ngd_le hZ.1) hZ.1.2.1 r1, fun v hv => fra_pm h (r2 v hv), fun k hk => ?_, ?_, ?_, ?_, fun k hk => ?_⟩
  · rw [h 12 0 k (by omega)]; exact ⟨(r3 k hk).1, fun q => fra_VC h (by omega) (ngd_le ((hZ.2.2.2.2.1 k hk).2 q)) hZ.1.2.1 ((r3 k hk).2 q)⟩
  · rw [h 9 0 1 (by omega)]; exact ⟨r4.1, fun j hj => by rw [h 10 0 j (by omega)]; exact r4.2 j hj⟩
  · rw [h 0 0 9 (by omega)]; exact ⟨r5.1, fun i k hi hk => by rw [h 8 i k (by omega)]; exact r5.2 i k hi hk⟩
  · rw [h 0 0 10 (by omega), h 0 0 11 (by omega)]; exact r6
  · rw [h 6 k 1 (by omega), h 6 k 2 (by omega)]; exact ⟨(r7 k hk).1, (r7 k hk).2.1, fun j hj => by rw [h 7 k j (by omega)]; exact (r7 k hk).2.2 j hj⟩
/-- the pages on which things are tried, the arms and the counts have changed -/
theorem RepR_frb {Z : ZZ} {M M' : JM} (h : ∀ t i k, ¬ ((t = 21 ∧ i = 0 ∧ 132 ≤ k) ∨ t = 26 ∨ t = 27 ∨ t = 29 ∨ (t = 20 ∧ (k = 18 ∨ k = 19 ∨ k = 20))) → M' t i k = M t i k) (hR : RepR Z M) : RepR Z M' := by
  obtain ⟨r1, r3, r4, r5, r6, r7, r8, r9⟩ := hR
  refine ⟨⟨fun k hk => ?_, ?_⟩, fun k hk => ?_, ?_, ?_, ?_, fun k hk => ?_, fun j hj => ?_, fun j hj => ?_⟩
  · rw [h 21 0 _ (by omega)]; exact r1.1 k hk
  · rw [h 20 0 1 (by omega)]; exact r1.2
  · rw [h 30 0 k (by omega)]; exact ⟨(r3 k hk).1, fun q => ⟨fun j hj => by rw [h 21 0 _ (by omega)]; exact ((r3 k hk).2 q).1 j hj, by rw [h 20 0 1 (by omega)]; exact ((r3 k hk).2 q).2⟩⟩
  · rw [h 20 0 6 (by omega)]; exact ⟨r4.1, fun j hj => by rw [h 23 0 j (by omega)]; exact r4.2 j hj⟩
  · rw [h 20 0 22 (by omega)]; exact ⟨r5.1, fun i k hi hk => by rw [h 28 0 _ (by omega)]; exact r5.2 i k hi hk⟩
  · rw [h 20 0 7 (by omega), h 20 0 28 (by omega)]; exact r6
  · rw [h 31 0 k (by omega), h 32 0 k (by omega)]; exact ⟨(r7 k hk).1, (r7 k hk).2.1, fun j hj => by rw [h 33 0 _ (by omega)]; exact (r7 k hk).2.2 j hj⟩
  · rw [h 24 0 j (by omega)]; exact r8 j hj
  · rw [h 25 0 j (by omega)]; exact r9 j hj
theorem npz_i {Z : ZZ} (hZ : ZB Z) : ((npz Z : Nat) : Int) = Z 3 0 := by have := hZ.2.1; unfold npz; omega
theorem np4 {Z : ZZ} (hZ : ZB Z) : Z 3 0 ≤ 4 := by have := npz_i hZ; have := hZ.1.2.1; omega
section
variable {E : EE} {Q : Int → JM → Prop} {M : JM} {Z : ZZ}
theorem H_isGood {g : Int} (hZ : ZB Z) (hR : RepC Z M) (h1 : 0 ≤ g ∧ g < Z 0 32 → Q 1 M) (h0 : ¬ (0 ≤ g ∧ g < Z 0 32) → Q 0 M) : JC E mm_H_isGood [vR 0 0, vI g] M Q := by
  have hb := hZ.1.1
  refine vc_H_isGood _ _ ?_
  rw [hR.1.1.1, w32_id (by omega) (by omega)]
  exact H_within (fun h => ⟨Or.inr rfl, h1 (by omega)⟩) (fun h => ⟨Or.inl rfl, h0 (by omega)⟩)
theorem H_isOne {p : Int} (hZ : ZB Z) (hR : RepC Z M) (h1 : 0 ≤ p ∧ p < Z 3 0 → Q 1 M) (h0 : ¬ (0 ≤ p ∧ p < Z 3 0) → Q 0 M) : JC E mm_H_isOne [vR 0 0, vI p] M Q := by
  have hi := npz_i hZ
  have h4 := np4 hZ
  have h0' := hZ.2.1
  refine vc_H_isOne _ _ ?_
  rw [hR.1.1.2.1, hi, w32_id (by omega) (by omega)]
  exact H_within (fun h => ⟨Or.inr rfl, h1 (by omega)⟩) (fun h => ⟨Or.inl rfl, h0 (by omega)⟩)
theorem M_isGoods {g : Int} (hZ : ZB Z) (hR : RepR Z M) (h1 : 0 ≤ g ∧ g < Z 0 32 → Q 1 M) (h0 : ¬ (0 ≤ g ∧ g < Z 0 32) → Q 0 M) : JC E mm_M_isGoods [vR 20 0, vI g] M Q := by
  have hb := hZ.1.1
  have e : M 21 0 32 = Z 0 32 := hR.1.1 32 (by omega)
  refine vc_M_isGoods _ _ ?_
  rw [e, w32_id (by omega) (by omega)]
  exact M_in (fun h => ⟨Or.inr rfl, h1 (by omega)⟩) (fun h => ⟨Or.inl rfl, h0 (by omega)⟩)
theorem M_isOne {p : Int} (hZ : ZB Z) (hR : RepR Z M) (h1 : 0 ≤ p ∧ p < Z 3 0 → Q 1 M) (h0 : ¬ (0 ≤ p ∧ p < Z 3 0) → Q 0 M) : JC E mm_M_isOne [vR 20 0, vI p] M Q := by
  have hi := npz_i hZ
  have h4 := np4 hZ
  have h0' := hZ.2.1
  refine vc_M_isOne _ _ ?_
  rw [hR.1.2, hi, w32_id (by omega) (by omega)]
  exact M_in (fun h => ⟨Or.inr rfl, h1 (by omega)⟩) (fun h => ⟨Or.inl rfl, h0 (by omega)⟩)
end

/-! sheet, lay, count -/
theorem bv_by (x : BitVec 32) : (x <<< 24).sshiftRight 24 = (x.signExtend 8).signExtend 32 := by
  apply BitVec.eq_of_getLsbD_eq
  intro i hi
  simp only [BitVec.getLsbD_sshiftRight, BitVec.getLsbD_signExtend, BitVec.getLsbD_shiftLeft, BitVec.msb_eq_getLsbD_last]
  by_cases h : i < 8
  · simp [hi, h, show 24 + i < 32 by omega, show ¬ 32 ≤ i by omega]
  · simp [hi, h, show ¬ 24 + i < 32 by omega, show ¬ 32 ≤ i by omega]
theorem bv_sh (x : BitVec 32) : (x <<< 16).sshiftRight 16 = (x.signExtend 16).signExtend 32 := by
  apply BitVec.eq_of_getLsbD_eq
  intro i hi
  simp only [BitVec.getLsbD_sshiftRight, BitVec.getLsbD_signExtend, BitVec.getLsbD_shiftLeft, BitVec.msb_eq_getLsbD_last]
  by_cases h : i < 16
  · simp [hi, h, show 16 + i < 32 by omega, show ¬ 32 ≤ i by omega]
  · simp [hi, h, show ¬ 16 + i < 32 by omega, show ¬ 32 ≤ i by omega]
theorem by_eq (x : Int) : shr32 (shl32 x 24) 24 = by32 x := by
  unfold shr32 shl32 by32
  rw [i32_t, show i32 24 &&& 31 = (24 : Int32) by decide]
  have k : i32 x <<< (24 : Int32) >>> (24 : Int32) = (i32 x).toInt8.toInt32 := by
    apply Int32.toBitVec_inj.1
    rw [Int32.toBitVec_shiftRight, Int32.toBitVec_shiftLeft, show ((24 : Int32).toBitVec.smod 32) = 24#32 by decide]
    exact bv_by _
  rw [k]
theorem sh_eq (x : Int) : shr32 (shl32 x 16) 16 = sh16 x := by
  unfold shr32 shl32 sh16
  rw [i32_t, show i32 16 &&& 31 = (16 : Int32) by decide]
  have k : i32 x <<< (16 : Int32) >>> (16 : Int32) = (i32 x).toInt16.toInt32 := by
    apply Int32.toBitVec_inj.1
    rw [Int32.toBitVec_shiftRight, Int32.toBitVec_shiftLeft, show ((16 : Int32).toBitVec.smod 32) = 16#32 by decide]
    exact bv_sh _
  rw [k]
section
variable {E : EE} {Q : Int → JM → Prop} {M : JM} {Z : ZZ}
def shtZ (Z : ZZ) (k : Nat) (l n : Int) : ZZ := fun a j => if a = 5 ∧ j = k then l else if a = 6 ∧ j = k then n else if a = 7 ∧ 40 * k ≤ j ∧ j < 40 * k + 40 then 0 else Z a j
theorem shtZ_o {k a j : Nat} {l n : Int} (h : ¬ (a = 5 ∨ a = 6 ∨ a = 7)) : shtZ Z k l n a j = Z a j := by unfold shtZ; rw [if_neg (by omega), if_neg (by omega), if_neg (by omega)]
theorem shtZ_r {k a : Nat} {l n : Int} (h : ¬ (a = 5 ∨ a = 6 ∨ a = 7)) : shtZ Z k l n a = Z a := funext fun _ => shtZ_o h
theorem shtZ_5 {k j : Nat} {l n : Int} : shtZ Z k l n 5 j = if j = k then l else Z 5 j := by
  unfold shtZ
  by_cases h : j = k
  · rw [if_pos ⟨rfl, h⟩, if_pos h]
  · rw [if_neg (by omega), if_neg (by omega), if_neg (by omega), if_neg h]
theorem shtZ_6 {k j : Nat} {l n : Int} : shtZ Z k l n 6 j = if j = k then n else Z 6 j := by
  unfold shtZ
  by_cases h : j = k
  · rw [if_neg (by omega), if_pos ⟨rfl, h⟩, if_pos h]
  · rw [if_neg (by omega), if_neg (by omega), if_neg (by omega), if_neg h]
theorem shtZ_7 {k i j : Nat} {l n : Int} (hj : j < 40) : shtZ Z k l n 7 (40 * i + j) = if i = k then 0 else Z 7 (40 * i + j) := by
  unfold shtZ
  by_cases h : i = k
  · rw [if_neg (by omega), if_neg (by omega), if_pos (by omega), if_pos h]
  · rw [if_neg (by omega), if_neg (by omega), if_neg (by omega), if_neg h]
def sp_sheet (Z : ZZ) (k l n : Int) : Int × ZZ := if (0 ≤ k ∧ k ≤ 3) ∧ (0 ≤ l ∧ l ≤ 2) ∧ n ≤ 40 then (if n < 0 then (-14, Z) else (1, shtZ Z k.toNat l n)) else (-1, Z)
theorem ZB_sheet {k l n : Int} (hZ : ZB Z) : ZB (sp_sheet Z k l n).2 := by
  unfold sp_sheet
  split
  · rename_i h
    split
    · exact hZ
    · show ZB (shtZ Z k.toNat l n)
      obtain ⟨z1, z2, z3, z4, z5, z6, z7, z8⟩ := hZ
      have en : npz (shtZ Z k.toNat l n) = npz Z := npz_c (shtZ_o (by omega))
      refine ⟨by rw [en, shtZ_r (by omega)]; exact z1, by rw [shtZ_o (by omega)]; exact z2, by rw [shtZ_o (by omega)]; exact z3, by rw [shtZ_o (by omega)]; exact z4, fun j hj => ?_, fun j hj => ?_, fun i hi => ?_, fun j hj => ?_⟩
      · rw [en, shtZ_o (by omega), shtZ_r (by omega)]; exact z5 j hj
      · rw [shtZ_5, shtZ_6]
        by_cases q : j = k.toNat
        · rw [if_pos q, if_pos q]; omega
        · rw [if_neg q, if_neg q]; exact z6 j hj
      · rw [shtZ_o (by omega)] at hi
        rw [shtZ_r (a := 8) (by omega), shtZ_o (a := 3) (by omega)]; exact z7 i hi
      · rw [shtZ_o (by omega)] at hj
        rw [shtZ_o (by omega)]; exact z8 j hj
  · exact hZ
theorem H_isSheet {k : Int} (h1 : 0 ≤ k ∧ k ≤ 3 → Q 1 M) (h0 : ¬ (0 ≤ k ∧ k ≤ 3) → Q 0 M) : JC E mm_H_isSheet [vI k] M Q := vc_H_isSheet _ _ (H_within (fun h => ⟨Or.inr rfl, h1 h⟩) (fun h => ⟨Or.inl rfl, h0 h⟩))
theorem H_isLane {k : Int} (h1 : 0 ≤ k ∧ k ≤ 2 → Q 1 M) (h0 : ¬ (0 ≤ k ∧ k ≤ 2) → Q 0 M) : JC E mm_H_isLane [vI k] M Q := vc_H_isLane _ _ (H_within (fun h => ⟨Or.inr rfl, h1 h⟩) (fun h => ⟨Or.inl rfl, h0 h⟩))
theorem S_becomeRow {k : Nat} {l n : Int} (hQ : ∀ M' : JM, M' 6 k 1 = l → M' 6 k 2 = n → (∀ j, j < 40 → M' 7 k j = 0) → (∀ t i j, ¬ ((t = 6 ∨ t = 7) ∧ i = k) → M' t i j = M t i j) → Q 0 M') : JC E mm_S_becomeRow [vR 6 k, vI l, vI n] M Q := by
  refine vc_S_becomeRow _ _ _ _ (fun M1 e1 M2 e2 => ?_)
  refine up_ind (P := fun i => ∀ M' : JM, M' 6 k 1 = l → M' 6 k 2 = n → (∀ j, j < i → M' 7 k j = 0) → (∀ t i j, ¬ ((t = 6 ∨ t = 7) ∧ i = k) → M' t i j = M t i j) → JG E mm_S_becomeRow Q 12 [(0, vR 6 k), (3, vI (i : Int))] [] M') 40 ?_ ?_ M2 ?_ ?_ (fun j hj => by omega) ?_
  · intro M' a b c d
    exact vc_S_becomeRow_12 _ _ _ ⟨fun _ => hQ M' a b c d, fun z => by omega⟩
  · intro i hi ih M' a b c d
    refine vc_S_becomeRow_12 _ _ _ ⟨fun z => by omega, fun _ => ⟨by omega, fun M3 e3 a4 e4 => ?_⟩⟩
    rw [Int.toNat_natCast] at e3
    rw [e4, w32_s (by omega)]
    refine ih M3 (by rw [e3, pt_ne (by omega)]; exact a) (by rw [e3, pt_ne (by omega)]; exact b) (fun j hj => ?_) (fun t i' j q => by rw [e3, pt_ne (by omega)]; exact d t i' j q)
    by_cases q : j = i
    · rw [q, e3, pt_eq]
    · rw [e3, pt_ne (by omega)]; exact c j (by omega)
  · rw [e2, pt_ne (by omega), e1, pt_eq]
  · rw [e2, pt_eq]
  · intro t i j q
    rw [e2, pt_ne (by omega), e1, pt_ne (by omega)]
theorem H_sheet {k l n : Int} (hZ : ZB Z) (hR : RepC Z M) (hQ : ∀ M' : JM, RepC (sp_sheet Z k l n).2 M' → keepR M M' → Q (sp_sheet Z k l n).1 M') : JC E mm_H_sheet [vR 0 0, vI k, vI l, vI n] M Q := by
  unfold sp_sheet at hQ
  refine vc_H_sheet _ _ _ _ (H_isSheet (fun h1 => c10 (H_isLane (fun h2 => c10 ⟨fun h3 => ⟨fun h4 => ⟨by omega, ?_⟩, fun h4 => ?_⟩, fun h3 => ?_⟩) (fun h2 => c00 ?_))) (fun h1 => c00 ?_))
  · rw [if_pos ⟨h1, h2, h3⟩, if_neg (by omega)] at hQ
    dsimp only at hQ
    refine S_becomeRow (fun M5 a b c d => ?_)
    have hn : ∀ t i j, ¬ (t = 6 ∨ t = 7) → M5 t i j = M t i j := fun t i j q => d t i j (by omega)
    obtain ⟨r4, r5, r6, r7⟩ := hR.2.2.2
    refine hQ M5 (RepC_gen hR (fun t i j q => hn t i j (by omega)) ⟨shtZ_r (by omega), shtZ_r (by omega), shtZ_r (by omega), shtZ_o (by omega), shtZ_o (by omega), shtZ_o (by omega)⟩ ⟨?_, fun j hj => ?_⟩ ⟨?_, fun i j hi hj => ?_⟩ ⟨?_, ?_⟩ (fun i hi => ?_)) (fun t i j q => hn t i j (by omega))
    · rw [shtZ_o (by omega), hn 9 _ _ (by omega)]; exact r4.1
    · rw [shtZ_o (by omega)] at hj
      rw [shtZ_o (by omega), hn 10 _ _ (by omega)]; exact r4.2 j hj
    · rw [shtZ_o (by omega), hn 0 _ _ (by omega)]; exact r5.1
    · rw [shtZ_o (by omega)] at hi
      rw [shtZ_o (by omega), hn 8 _ _ (by omega)]; exact r5.2 i j hi hj
    · rw [shtZ_o (by omega), hn 0 _ _ (by omega)]; exact r6.1
    · rw [shtZ_o (by omega), hn 0 _ _ (by omega)]; exact r6.2
    · rw [shtZ_5, shtZ_6]
      by_cases q : i = k.toNat
      · rw [if_pos q, if_pos q, q]
        exact ⟨a, b, fun j hj => by rw [shtZ_7 hj, if_pos rfl]; exact c j hj⟩
      · rw [if_neg q, if_neg q, d 6 _ _ (by omega), d 6 _ _ (by omega)]
        exact ⟨(r7 i hi).1, (r7 i hi).2.1, fun j hj => by rw [shtZ_7 hj, if_neg q, d 7 _ _ (by omega)]; exact (r7 i hi).2.2 j hj⟩
  · rw [if_pos ⟨h1, h2, h3⟩, if_pos h4] at hQ; exact hQ M hR (keepR_rf M)
  · rw [if_neg (by omega)] at hQ; exact hQ M hR (keepR_rf M)
  · rw [if_neg (fun z => h2 z.2.1)] at hQ; exact hQ M hR (keepR_rf M)
  · rw [if_neg (fun z => h1 z.1)] at hQ; exact hQ M hR (keepR_rf M)
theorem M_sheet {k l n : Int} (hZ : ZB Z) (hR : RepR Z M) (hQ : ∀ M' : JM, RepR (sp_sheet Z k l n).2 M' → keepC M M' → Q (sp_sheet Z k l n).1 M') : JC E mm_M_sheet [vR 20 0, vI k, vI l, vI n] M Q := by
  unfold sp_sheet at hQ
  refine vc_M_sheet _ _ _ _ (M_in (fun h1 => c10 (M_in (fun h2 => c10 ⟨fun h3 => ⟨fun h4 => ⟨by omega, fun M5 e5 => ⟨by omega, fun M6 e6 => ?_⟩⟩, fun h4 => ?_⟩, fun h3 => ?_⟩) (fun h2 => c00 ?_))) (fun h1 => c00 ?_))
  · rw [if_pos ⟨h1, h2, h3⟩, if_neg (by omega)] at hQ
    dsimp only at hQ
    refine up_ind (P := fun i => ∀ M' : JM, M' 31 0 k.toNat = l → M' 32 0 k.toNat = n → (∀ j, j < i → M' 33 0 (40 * k.toNat + j) = 0) → (∀ t i j, ¬ ((t = 31 ∧ j = k.toNat) ∨ (t = 32 ∧ j = k.toNat) ∨ (t = 33 ∧ 40 * k.toNat ≤ j ∧ j < 40 * k.toNat + 40)) → M' t i j = M t i j) → JG E mm_M_sheet Q 56 [(0, vR 20 0), (1, vI k), (4, vI (i : Int))] [] M') 40 ?_ ?_ M6 ?_ ?_ (fun j hj => by omega) ?_
    · intro M' a b c d
      refine vc_M_sheet_56 _ _ _ ⟨fun _ => ?_, fun z => by omega⟩
      have hn : ∀ t i j, ¬ (t = 31 ∨ t = 32 ∨ t = 33) → M' t i j = M t i j := fun t i j q => d t i j (by omega)
      obtain ⟨r4, r5, r6, r7, -⟩ := hR.2.2
      refine hQ M' (RepR_gen hR (fun t i j q => hn t i j (by omega)) ⟨shtZ_r (by omega), shtZ_r (by omega), shtZ_r (by omega), shtZ_o (by omega), shtZ_o (by omega), shtZ_o (by omega)⟩ ⟨?_, fun j hj => ?_⟩ ⟨?_, fun i j hi hj => ?_⟩ ⟨?_, ?_⟩ (fun i hi => ?_)) (fun t i j q => hn t i j (by omega))
      · rw [shtZ_o (by omega), hn 20 _ _ (by omega)]; exact r4.1
      · rw [shtZ_o (by omega)] at hj
        rw [shtZ_o (by omega), hn 23 _ _ (by omega)]; exact r4.2 j hj
      · rw [shtZ_o (by omega), hn 20 _ _ (by omega)]; exact r5.1
      · rw [shtZ_o (by omega)] at hi
        rw [shtZ_o (by omega), hn 28 _ _ (by omega)]; exact r5.2 i j hi hj
      · rw [shtZ_o (by omega), hn 20 _ _ (by omega)]; exact r6.1
      · rw [shtZ_o (by omega), hn 20 _ _ (by omega)]; exact r6.2
      · rw [shtZ_5, shtZ_6]
        by_cases q : i = k.toNat
        · rw [if_pos q, if_pos q, q, if_neg (by omega)]
          exact ⟨a, b, fun j hj => by rw [shtZ_7 hj, if_pos rfl]; exact c j hj⟩
        · rw [if_neg q, if_neg q, d 31 _ _ (by omega), d 32 _ _ (by omega)]
          exact ⟨(r7 i hi).1, (r7 i hi).2.1, fun j hj => by rw [shtZ_7 hj, if_neg q, d 33 _ _ (by omega)]; exact (r7 i hi).2.2 j hj⟩
    · intro i hi ih M' a b c d
      refine vc_M_sheet_56 _ _ _ ⟨fun z => by omega, fun _ => ?_⟩
      rw [w32_id (x := 40 * k) (by omega) (by omega), w32_id (x := 40 * k + (i : Int)) (by omega) (by omega), show (40 * k + (i : Int)).toNat = 40 * k.toNat + i by omega]
      refine ⟨by omega, fun M3 e3 a4 e4 => ?_⟩
      rw [e4, w32_s (by omega)]
      refine ih M3 (by rw [e3, pt_ne (by omega)]; exact a) (by rw [e3, pt_ne (by omega)]; exact b) (fun j hj => ?_) (fun t i' j q => by rw [e3, pt_ne (by omega)]; exact d t i' j q)
      by_cases q : j = i
      · rw [q, e3, pt_eq]
      · rw [e3, pt_ne (by omega)]; exact c j (by omega)
    · rw [e6, pt_ne (by omega), e5, pt_eq]
    · rw [e6, pt_eq]
    · intro t i j q
      rw [e6, pt_ne (by omega), e5, pt_ne (by omega)]
  · rw [if_pos ⟨h1, h2, h3⟩, if_pos h4] at hQ; exact hQ M hR (keepC_rf M)
  · rw [if_neg (by omega)] at hQ; exact hQ M hR (keepC_rf M)
  · rw [if_neg (fun z => h2 z.2.1)] at hQ; exact hQ M hR (keepC_rf M)
  · rw [if_neg (fun z => h1 z.1)] at hQ; exact hQ M hR (keepC_rf M)
/-! lay -/
def layV (l v : Int) : Int := if l = 0 then by32 v else if l = 1 then sh16 v else v
def sp_lay (Z : ZZ) (k i v : Int) : Int × ZZ := if 0 ≤ k ∧ k ≤ 3 then (if Z 5 k.toNat = -1 then (-11, Z) else if 0 ≤ i ∧ i ≤ Z 6 k.toNat - 1 then (1, zu Z 7 (40 * k.toNat + i.toNat) (layV (Z 5 k.toNat) v)) else (-12, Z)) else (-1, Z)
theorem ZB_lay {k i v : Int} (hZ : ZB Z) : ZB (sp_lay Z k i v).2 := by
  unfold sp_lay
  split
  · split
    · exact hZ
    · split
      · show ZB (zu Z 7 _ _)
        obtain ⟨z1, z2, z3, z4, z5, z6, z7, z8⟩ := hZ
        refine ⟨z1, z2, z3, z4, fun j hj => ?_, z6, z7, z8⟩
        rw [zu_r (a' := 3) (by omega), zu_r (a' := 1 + j) (by omega)]; exact z5 j hj
      · exact hZ
  · exact hZ
theorem S_faultOfCells {k : Nat} {l i n : Int} (h1 : M 6 k 1 = -1 → Q 1 M) (h3 : M 6 k 1 ≠ -1 → M 6 k 1 ≠ l → Q 3 M) (h2 : M 6 k 1 ≠ -1 → M 6 k 1 = l → ¬ (0 ≤ i ∧ i ≤ w32 (M 6 k 2 - n)) → Q 2 M) (h0 : M 6 k 1 ≠ -1 → M 6 k 1 = l → 0 ≤ i ∧ i ≤ w32 (M 6 k 2 - n) → Q 0 M) : JC E mm_S_faultOfCells [vR 6 k, vI l, vI i, vI n] M Q :=
  vc_S_faultOfCells _ _ _ _ _ ⟨fun a => ⟨fun b => H_within (fun c => c10 (h0 a b c)) (fun c => c00 (h2 a b c)), fun b => h3 a b⟩, fun a => h1 a⟩
theorem RepC_cell {k j : Nat} {v : Int} {M' : JM} (hk : k < 4) (hj : j < 40) (hR : RepC Z M) (e : M' = pt M 7 k j v) : RepC (zu Z 7 (40 * k + j) v) M' := by
  have hn : ∀ t i j, ¬ t = 7 → M' t i j = M t i j := fun t i j q => by rw [e, pt_ne (by omega)]
  obtain ⟨r4, r5, r6, r7⟩ := hR.2.2.2
  refine RepC_gen hR (fun t i j q => hn t i j (by omega)) ⟨rfl, rfl, rfl, rfl, rfl, rfl⟩ ⟨?_, fun j hj => ?_⟩ ⟨?_, fun i j hi hj => ?_⟩ ⟨?_, ?_⟩ (fun i hi => ⟨?_, ?_, fun j' hj' => ?_⟩)
  · rw [hn 9 _ _ (by omega)]; exact r4.1
  · rw [hn 10 _ _ (by omega)]; exact r4.2 j hj
  · rw [hn 0 _ _ (by omega)]; exact r5.1
  · rw [hn 8 _ _ (by omega)]; exact r5.2 i j hi hj
  · rw [hn 0 _ _ (by omega)]; exact r6.1
  · rw [hn 0 _ _ (by omega)]; exact r6.2
  · rw [hn 6 _ _ (by omega)]; exact (r7 i hi).1
  · rw [hn 6 _ _ (by omega)]; exact (r7 i hi).2.1
  · by_cases q : i = k ∧ j' = j
    · rw [q.1, q.2, zu_s, e, pt_eq]
    · rw [zu_n (by omega), e, pt_ne (by omega)]; exact (r7 i hi).2.2 j' hj'
theorem RepR_cell {k j : Nat} {v : Int} {M' : JM} (hk : k < 4) (hj : j < 40) (hR : RepR Z M) (e : M' = pt M 33 0 (40 * k + j) v) : RepR (zu Z 7 (40 * k + j) v) M' := by
  have hn : ∀ t i j, ¬ t = 33 → M' t i j = M t i j := fun t i j q => by rw [e, pt_ne (by omega)]
  obtain ⟨r4, r5, r6, r7, -⟩ := hR.2.2
  refine RepR_gen hR (fun t i j q => hn t i j (by omega)) ⟨rfl, rfl, rfl, rfl, rfl, rfl⟩ ⟨?_, fun j hj => ?_⟩ ⟨?_, fun i j hi hj => ?_⟩ ⟨?_, ?_⟩ (fun i hi => ⟨?_, ?_, fun j' hj' => ?_⟩)
  · rw [hn 20 _ _ (by omega)]; exact r4.1
  · rw [hn 23 _ _ (by omega)]; exact r4.2 j hj
  · rw [hn 20 _ _ (by omega)]; exact r5.1
  · rw [hn 28 _ _ (by omega)]; exact r5.2 i j hi hj
  · rw [hn 20 _ _ (by omega)]; exact r6.1
  · rw [hn 20 _ _ (by omega)]; exact r6.2
  · rw [hn 31 _ _ (by omega)]; exact (r7 i hi).1
  · rw [hn 32 _ _ (by omega)]; exact (r7 i hi).2.1
  · by_cases q : i = k ∧ j' = j
    · rw [q.1, q.2, zu_s, e, pt_eq]
    · rw [zu_n (by omega), e, pt_ne (by omega)]; exact (r7 i hi).2.2 j' hj'
theorem H_lay {k i v : Int} (hZ : ZB Z) (hR : RepC Z M) (hQ : ∀ M' : JM, RepC (sp_lay Z k i v).2 M' → keepR M M' → Q (sp_lay Z k i v).1 M') : JC E mm_H_lay [vR 0 0, vI k, vI i, vI v] M Q := by
  unfold sp_lay at hQ
  refine vc_H_lay _ _ _ _ (H_isSheet (fun h => d10 ⟨by omega, by omega, ?_⟩) (fun h => d00 ?_))
  · rw [if_pos h] at hQ
    have hk : k.toNat < 4 := by omega
    obtain ⟨x1, x2, x3⟩ := hR.2.2.2.2.2.2 k.toNat hk
    obtain ⟨b1, b2⟩ := hZ.2.2.2.2.2.1 k.toNat hk
    refine S_faultOfCells (fun q => ?_) (fun _ q => absurd rfl q) (fun q _ q2 => ?_) (fun q _ q2 => c00 ⟨by omega, ?_⟩)
    · rw [x1] at q
      rw [if_pos q] at hQ
      refine c10 ?_
      rw [w32_id (by omega) (by omega)]
      exact hQ M hR (keepR_rf M)
    · rw [x1] at q
      rw [x2, w32_id (by omega) (by omega)] at q2
      rw [if_neg q, if_neg q2] at hQ
      refine ⟨fun z => by omega, fun _ => ?_⟩
      rw [w32_id (by omega) (by omega)]
      exact hQ M hR (keepR_rf M)
    · rw [x1] at q
      rw [x2, w32_id (by omega) (by omega)] at q2
      rw [if_neg q, if_pos q2] at hQ
      dsimp only at hQ
      unfold layV at hQ
      refine vc_S_putCell _ _ _ _ ?_
      rw [x1]
      refine ⟨fun y => ⟨fun y2 => ⟨by omega, fun M1 e1 => ?_⟩, fun y2 => ⟨by omega, fun M1 e1 => ?_⟩⟩, fun y => ⟨by omega, fun M1 e1 => ?_⟩⟩
      · rw [if_neg y, if_neg y2] at hQ
        exact hQ M1 (RepC_cell hk (by omega) hR e1) (by rw [e1]; exact keepR_pt (by omega))
      · rw [if_neg y, if_pos y2] at hQ
        exact hQ M1 (RepC_cell hk (by omega) hR e1) (by rw [e1]; exact keepR_pt (by omega))
      · rw [if_pos y] at hQ
        exact hQ M1 (RepC_cell hk (by omega) hR e1) (by rw [e1]; exact keepR_pt (by omega))
  · rw [if_neg h] at hQ; exact hQ M hR (keepR_rf M)
theorem M_lay {k i v : Int} (hZ : ZB Z) (hR : RepR Z M) (hQ : ∀ M' : JM, RepR (sp_lay Z k i v).2 M' → keepC M M' → Q (sp_lay Z k i v).1 M') : JC E mm_M_lay [vR 20 0, vI k, vI i, vI v] M Q := by
  unfold sp_lay at hQ
  refine vc_M_lay _ _ _ _ (M_in (fun h => d10 ⟨by omega, ?_⟩) (fun h => d00 ?_))
  · rw [if_pos h] at hQ
    have hk : k.toNat < 4 := by omega
    obtain ⟨x1, x2, x3⟩ := hR.2.2.2.2.2.1 k.toNat hk
    obtain ⟨b1, b2⟩ := hZ.2.2.2.2.2.1 k.toNat hk
    rw [x1, x2, w32_id (x := Z 6 k.toNat - 1) (by omega) (by omega)]
    by_cases q : Z 5 k.toNat = -1
    · rw [if_pos q] at hQ
      rw [if_pos q]
      exact ⟨fun z => absurd rfl z, fun _ => hQ M hR (keepC_rf M)⟩
    · rw [if_neg q] at hQ
      rw [if_neg q]
      refine ⟨fun _ => ⟨by omega, M_in (fun q2 => d10 ⟨by omega, ?_⟩) (fun q2 => d00 ?_)⟩, fun z => by omega⟩
      · rw [if_pos q2] at hQ
        dsimp only at hQ
        unfold layV at hQ
        rw [x1, if_neg q, w32_id (x := 40 * k) (by omega) (by omega), w32_id (x := 40 * k + i) (by omega) (by omega), show (40 * k + i).toNat = 40 * k.toNat + i.toNat by omega, by_eq, sh_eq]
        refine ⟨fun y => ⟨by omega, fun y2 => ⟨by omega, fun M1 e1 => ?_⟩, fun y2 => ⟨by omega, fun M1 e1 => ?_⟩⟩, fun y => ⟨by omega, fun M1 e1 => ?_⟩⟩
        · rw [if_neg y, if_neg y2] at hQ
          exact hQ M1 (RepR_cell hk (by omega) hR e1) (by rw [e1]; exact keepC_pt (by omega))
        · rw [if_neg y, if_pos y2] at hQ
          exact hQ M1 (RepR_cell hk (by omega) hR e1) (by rw [e1]; exact keepC_pt (by omega))
        · rw [if_pos y] at hQ
          exact hQ M1 (RepR_cell hk (by omega) hR e1) (by rw [e1]; exact keepC_pt (by omega))
      · rw [if_neg q2] at hQ
        exact hQ M hR (keepC_rf M)
  · rw [if_neg h] at hQ; exact hQ M hR (keepC_rf M)
/-! count -/
def sp_count (Z : ZZ) (w : Int) : Int := if w = 0 then Z 3 2 else if w = 1 then Z 3 5 + Z 3 6 else if w = 2 then Z 3 1 else if w = 3 then (if Z 5 0 = -1 then -4 else Z 6 0) else if w = 4 then sm (fun g => Z 0 (16 + g)) (ngd (Z 0)) else if w = 5 then sm (fun p => Z 0 (33 + p)) (npz Z) else -1
theorem H_keptImages (hZ : ZB Z) (hR : RepC Z M) (hQ : Q (Z 3 5 + Z 3 6) M) : JC E mm_H_keptImages [vR 0 0] M Q := by
  have a0 := (hR.2.2.1 0 (by omega)).1
  have a1 := (hR.2.2.1 1 (by omega)).1
  have b0 := (hZ.2.2.2.2.1 0 (by omega)).1
  have b1 := (hZ.2.2.2.2.1 1 (by omega)).1
  have last : ∀ x : Int, 0 ≤ x ∧ x ≤ 1 → Q (x + Z 3 6) M → JG E mm_H_keptImages Q 4 [(0, vR 0 0), (1, vI x), (2, vI 1)] [] M := by
    intro x hx q
    refine vc_H_keptImages_4 _ _ _ ⟨fun z => by omega, fun _ => ⟨by omega, ?_⟩⟩
    rw [show M 12 0 (1 : Int).toNat = Z 3 6 from a1]
    have b1' : Z 3 6 = 0 ∨ Z 3 6 = 1 := b1
    refine ⟨fun y a ea => ?_, fun y a ea a2 ea2 => ?_⟩
    · rw [ea, w32_id (by omega) (by omega)]
      refine vc_H_keptImages_4 _ _ _ ⟨fun _ => ?_, fun z => by omega⟩
      rw [y, Int.add_zero] at q; exact q
    · rw [ea, ea2, w32_id (by omega) (by omega), w32_id (by omega) (by omega)]
      refine vc_H_keptImages_4 _ _ _ ⟨fun _ => ?_, fun z => by omega⟩
      rw [show Z 3 6 = 1 by omega] at q; exact q
  refine vc_H_keptImages _ (vc_H_keptImages_4 _ _ _ ⟨fun z => by omega, fun _ => ⟨by omega, ?_⟩⟩)
  rw [show M 12 0 (0 : Int).toNat = Z 3 5 from a0]
  have b0' : Z 3 5 = 0 ∨ Z 3 5 = 1 := b0
  refine ⟨fun y a ea => ?_, fun y a ea a2 ea2 => ?_⟩
  · rw [ea, w32_id (by omega) (by omega)]
    rw [y] at hQ
    exact last 0 (by omega) hQ
  · rw [ea, ea2, w32_id (by omega) (by omega)]
    rw [show Z 3 5 = 1 by omega] at hQ
    exact last 1 (by omega) hQ
theorem H_count {w : Int} (hZ : ZB Z) (hR : RepC Z M) (hQ : ∀ M' : JM, RepC Z M' → keepR M M' → Q (sp_count Z w) M') : JC E mm_H_count [vR 0 0, vI w] M Q := by
  have q := hQ M hR (keepR_rf M)
  unfold sp_count at q
  refine vc_H_count _ _ ⟨fun h => ?_, fun h => ?_, fun h => ?_, fun h => ?_, fun h => ?_, fun h => ?_, fun h => ?_⟩
  · rw [if_neg (by omega), if_neg (by omega), if_neg (by omega), if_neg (by omega), if_neg (by omega), if_neg (by omega)] at q; exact q
  · rw [if_pos h] at q; rw [hR.2.2.2.2.1.1]; exact q
  · rw [if_neg (by omega), if_pos h] at q; exact H_keptImages hZ hR q
  · rw [if_neg (by omega), if_neg (by omega), if_pos h] at q; rw [hR.2.2.2.1.1]; exact q
  · rw [if_neg (by omega), if_neg (by omega), if_neg (by omega), if_pos h] at q
    obtain ⟨x1, x2, -⟩ := hR.2.2.2.2.2.2 0 (by omega)
    rw [x1, x2]
    refine ⟨fun y => ?_, fun y => ?_⟩
    · rw [if_neg y] at q; exact q
    · rw [if_pos y] at q; exact q
  · rw [if_neg (by omega), if_neg (by omega), if_neg (by omega), if_neg (by omega), if_pos h] at q; exact T_worthOfAll hR.1 hZ.1 q
  · rw [if_neg (by omega), if_neg (by omega), if_neg (by omega), if_neg (by omega), if_neg (by omega), if_pos h] at q; exact T_strengthOfAll hR.1 hZ.1 q
theorem M_count {w : Int} (hZ : ZB Z) (hR : RepR Z M) (hQ : ∀ M' : JM, RepR Z M' → keepC M M' → Q (sp_count Z w) M') : JC E mm_M_count [vR 20 0, vI w] M Q := by
  have q := hQ M hR (keepC_rf M)
  unfold sp_count at q
  have h8 := ngd_le hZ.1
  have hn := ngd_int hZ.1
  have h4 := hZ.1.2.1
  have now : ∀ j, j < 44 → M 21 0 j = Z 0 j := fun j hj => by have := hR.1.1 j hj; rw [Nat.zero_add] at this; exact this
  have e32 := now 32 (by omega)
  refine vc_M_count _ _ ?_
  refine up_ind (P := fun i => JG E mm_M_count Q 7 [(0, vR 20 0), (1, vI w), (2, vI (sm (fun g => Z 0 (16 + g)) i)), (3, vI 0), (4, vI (i : Int))] [] M) (ngd (Z 0)) ?_ ?_
  · refine vc_M_count_7 _ _ _ _ _ ⟨fun _ => ?_, fun z => by rw [e32] at z; omega⟩
    refine up_ind (P := fun i => JG E mm_M_count Q 41 [(0, vR 20 0), (1, vI w), (2, vI (sm (fun g => Z 0 (16 + g)) (ngd (Z 0)))), (3, vI (sm (fun p => Z 0 (33 + p)) i)), (4, vI (i : Int))] [] M) (npz Z) ?_ ?_
    · refine vc_M_count_41 _ _ _ _ _ ⟨fun _ => ⟨fun h => ?_, fun h => ?_, fun h => ?_, fun h => ?_, fun h => ?_, fun h => ?_, fun h => ?_⟩, fun z => by rw [hR.1.2] at z; omega⟩
      · rw [if_neg (by omega), if_neg (by omega), if_neg (by omega), if_neg (by omega), if_neg (by omega), if_neg (by omega)] at q; exact q
      · rw [if_pos h] at q; rw [hR.2.2.2.1.1]; exact q
      · rw [if_neg (by omega), if_pos h] at q
        have a0 : M 30 0 0 = Z 3 5 := (hR.2.1 0 (by omega)).1
        have a1 : M 30 0 1 = Z 3 6 := (hR.2.1 1 (by omega)).1
        have b0 : Z 3 5 = 0 ∨ Z 3 5 = 1 := (hZ.2.2.2.2.1 0 (by omega)).1
        have b1 : Z 3 6 = 0 ∨ Z 3 6 = 1 := (hZ.2.2.2.2.1 1 (by omega)).1
        have last : ∀ s : Int, s = Z 3 5 → JG E mm_M_count Q 127 [(0, vR 20 0)] [vI s] M := by
          intro s hs
          refine vc_M_count_127 _ _ ?_
          rw [a1, hs]
          refine ⟨fun y => ?_, fun y => ?_⟩
          · rw [w32_id (by omega) (by omega)]; rw [y] at q; exact q
          · rw [w32_id (by omega) (by omega)]; rw [show Z 3 6 = 1 by omega] at q; exact q
        rw [a0]
        exact ⟨fun y => last 0 y.symm, fun y => last 1 (by omega)⟩
      · rw [if_neg (by omega), if_neg (by omega), if_pos h] at q; rw [hR.2.2.1.1]; exact q
      · rw [if_neg (by omega), if_neg (by omega), if_neg (by omega), if_pos h] at q
        obtain ⟨x1, x2, -⟩ := hR.2.2.2.2.2.1 0 (by omega)
        have b1 := (hZ.2.2.2.2.2.1 0 (by omega)).1
        rw [x1, x2]
        by_cases y : Z 5 0 = -1
        · rw [if_pos y] at q ⊢
          exact ⟨fun z => absurd rfl z, fun _ => q⟩
        · rw [if_neg y] at q ⊢
          exact ⟨fun _ => q, fun z => by omega⟩
      · rw [if_neg (by omega), if_neg (by omega), if_neg (by omega), if_neg (by omega), if_pos h] at q; exact q
      · rw [if_neg (by omega), if_neg (by omega), if_neg (by omega), if_neg (by omega), if_neg (by omega), if_pos h] at q; exact q
    · intro i hi ih
      have hs := sm_b (f := fun p => Z 0 (33 + p)) (c := 20) (i + 1) (fun k hk => by have := (hZ.1.2.2.2.1 k (by omega)).1; omega)
      refine vc_M_count_41 _ _ _ _ _ ⟨fun z => by rw [hR.1.2] at z; omega, fun _ => ?_⟩
      rw [w32_id (x := 33 + (i : Int)) (by omega) (by omega), show (33 + (i : Int)).toNat = 33 + i by omega, now (33 + i) (by omega)]
      refine ⟨by omega, fun a ea a2 ea2 => ?_⟩
      simp only [sm] at ih hs
      rw [ea, ea2, w32_s (by omega), w32_id (by omega) (by omega)]
      exact ih
  · intro i hi ih
    have hs := sm_b (f := fun g => Z 0 (16 + g)) (c := 9) (i + 1) (fun k hk => (hZ.1.2.2.1 k (by omega)).2.2.1)
    refine vc_M_count_7 _ _ _ _ _ ⟨fun z => by rw [e32] at z; omega, fun _ => ?_⟩
    rw [w32_id (x := 16 + (i : Int)) (by omega) (by omega), show (16 + (i : Int)).toNat = 16 + i by omega, now (16 + i) (by omega)]
    refine ⟨by omega, fun a ea a2 ea2 => ?_⟩
    simp only [sm] at ih hs
    rw [ea, ea2, w32_s (by omega), w32_id (by omega) (by omega)]
    exact ih
end

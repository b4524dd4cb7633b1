/-! see, forget, keep, back, sheet, lay, count -/
section
variable {E : EE} {Q : Int → JM → Prop} {M : JM} {Z : ZZ}
def seeZ (Z : ZZ) (n p v : Int) : ZZ := fun a k => if a = 3 ∧ k = 2 then Z 3 2 + 1 else if a = 8 ∧ k = 3 * (Z 3 2).toNat then n else if a = 8 ∧ k = 3 * (Z 3 2).toNat + 1 then p else if a = 8 ∧ k = 3 * (Z 3 2).toNat + 2 then v else Z a k
theorem seeZ_o {n p v : Int} {a k : Nat} (h : ¬ (a = 3 ∧ k = 2)) (h2 : ¬ a = 8) : seeZ Z n p v a k = Z a k := by unfold seeZ; rw [if_neg h, if_neg (by omega), if_neg (by omega), if_neg (by omega)]
theorem seeZ_r {n p v : Int} {a : Nat} (h : ¬ a = 3) (h2 : ¬ a = 8) : seeZ Z n p v a = Z a := funext fun k => seeZ_o (by omega) h2
theorem seeZ_8 {n p v : Int} {i k : Nat} (hi : ¬ i = (Z 3 2).toNat) (hk : k < 3) : seeZ Z n p v 8 (3 * i + k) = Z 8 (3 * i + k) := by unfold seeZ; rw [if_neg (by omega), if_neg (by omega), if_neg (by omega), if_neg (by omega)]
theorem seeZ_80 {n p v : Int} : seeZ Z n p v 8 (3 * (Z 3 2).toNat) = n := by unfold seeZ; rw [if_neg (by omega), if_pos ⟨rfl, rfl⟩]
theorem seeZ_81 {n p v : Int} : seeZ Z n p v 8 (3 * (Z 3 2).toNat + 1) = p := by unfold seeZ; rw [if_neg (by omega), if_neg (by omega), if_pos ⟨rfl, rfl⟩]
theorem seeZ_82 {n p v : Int} : seeZ Z n p v 8 (3 * (Z 3 2).toNat + 2) = v := by unfold seeZ; rw [if_neg (by omega), if_neg (by omega), if_neg (by omega), if_pos ⟨rfl, rfl⟩]
theorem seeZ_2 {n p v : Int} : seeZ Z n p v 3 2 = Z 3 2 + 1 := if_pos ⟨rfl, rfl⟩
def sp_see (Z : ZZ) (n p v : Int) : Int × ZZ := if (0 ≤ n ∧ n ≤ 20) ∧ (0 ≤ p ∧ p < Z 3 0) ∧ (0 ≤ v ∧ v ≤ 999) then (if Z 3 2 = 6 then (-3, Z) else (Z 3 2 + 1, seeZ Z n p v)) else (-1, Z)
theorem ZB_see {n p v : Int} (hZ : ZB Z) : ZB (sp_see Z n p v).2 := by
  unfold sp_see
  split
  · rename_i h
    split
    · exact hZ
    · show ZB (seeZ Z n p v)
      obtain ⟨z1, z2, z3, z4, z5, z6, z7, z8⟩ := hZ
      have en : npz (seeZ Z n p v) = npz Z := npz_c (seeZ_o (by omega) (by omega))
      refine ⟨by rw [en, seeZ_r (by omega) (by omega)]; exact z1, by rw [seeZ_o (by omega) (by omega)]; exact z2, by rw [seeZ_o (by omega) (by omega)]; exact z3, by rw [seeZ_2]; omega, fun k hk => ?_, fun k hk => ?_, fun i hi => ?_, fun j hj => ?_⟩
      · rw [en, seeZ_o (by omega) (by omega), seeZ_r (by omega) (by omega)]; exact z5 k hk
      · rw [seeZ_o (by omega) (by omega), seeZ_o (by omega) (by omega)]; exact z6 k hk
      · rw [seeZ_2] at hi
        rw [seeZ_o (a := 3) (k := 0) (by omega) (by omega)]
        by_cases he : i = (Z 3 2).toNat
        · subst he
          rw [seeZ_80, seeZ_81, seeZ_82]
          exact h
        · have q := seeZ_8 (n := n) (p := p) (v := v) (k := 0) he (by omega)
          rw [Nat.add_zero] at q
          rw [q, seeZ_8 he (by omega), seeZ_8 he (by omega)]
          exact z7 i (by omega)
      · rw [seeZ_o (by omega) (by omega)] at hj
        rw [seeZ_o (by omega) (by omega)]
        exact z8 j hj
  · exact hZ
theorem H_see {n p v : Int} (hZ : ZB Z) (hR : RepC Z M) (hQ : ∀ M' : JM, RepC (sp_see Z n p v).2 M' → keepR M M' → Q (sp_see Z n p v).1 M') : JC E mm_H_see [vR 0 0, vI n, vI p, vI v] M Q := by
  unfold sp_see at hQ
  refine vc_H_see _ _ _ _ (H_within (fun h1 => c10 (H_isOne hZ hR (fun h2 => c10 (H_within (fun h3 => d10 ?_) (fun h3 => d00 ?_))) (fun h2 => c00 ?_))) (fun h1 => c00 ?_))
  · rw [if_pos ⟨h1, h2, h3⟩] at hQ
    have zb := hZ.2.2.2.1
    rw [hR.2.2.2.2.1.1]
    refine ⟨fun h => ⟨by omega, fun M7 e7 => ?_⟩, fun h => ?_⟩
    · rw [if_neg (by omega)] at hQ
      dsimp only at hQ
      have x7 : M7 0 0 9 = Z 3 2 := by rw [e7, pt_ne (by omega)]; exact hR.2.2.2.2.1.1
      rw [x7]
      refine ⟨by omega, fun M8 e8 => ?_⟩
      have x8 : M8 0 0 9 = Z 3 2 := by rw [e8, pt_ne (by omega)]; exact x7
      rw [x8]
      refine ⟨by omega, fun M9 e9 M10 e10 => ?_⟩
      have x9 : M9 0 0 9 = Z 3 2 := by rw [e9, pt_ne (by omega)]; exact x8
      rw [x9, w32_id (by omega) (by omega)] at e10
      have x10 : M10 0 0 9 = Z 3 2 + 1 := by rw [e10, pt_eq]
      rw [x10]
      have hn : ∀ t i k, ¬ (t = 8 ∧ i = (Z 3 2).toNat) → ¬ (t = 0 ∧ k = 9) → M10 t i k = M t i k := fun t i k q q2 => by rw [e10, pt_ne (by omega), e9, pt_ne (by omega), e8, pt_ne (by omega), e7, pt_ne (by omega)]
      obtain ⟨r4, r5, r6, r7⟩ := hR.2.2.2
      refine hQ M10 (RepC_gen hR (fun t i k q => hn t i k (by omega) (by omega)) ⟨seeZ_r (by omega) (by omega), seeZ_r (by omega) (by omega), seeZ_r (by omega) (by omega), seeZ_o (by omega) (by omega), seeZ_o (by omega) (by omega), seeZ_o (by omega) (by omega)⟩ ⟨?_, fun j hj => ?_⟩ ⟨?_, fun i k hi hk => ?_⟩ ⟨?_, ?_⟩ (fun k hk => ⟨?_, ?_, fun j hj => ?_⟩)) (fun t i k q => hn t i k (by omega) (by omega))
      · rw [hn 9 _ _ (by omega) (by omega), seeZ_o (by omega) (by omega)]; exact r4.1
      · rw [seeZ_o (by omega) (by omega)] at hj
        rw [hn 10 _ _ (by omega) (by omega), seeZ_o (by omega) (by omega)]; exact r4.2 j hj
      · rw [seeZ_2]; exact x10
      · rw [seeZ_2] at hi
        by_cases he : i = (Z 3 2).toNat
        · subst he
          rcases (show k = 0 ∨ k = 1 ∨ k = 2 by omega) with q | q | q <;> subst q
          · rw [Nat.add_zero, seeZ_80, e10, pt_ne (by omega), e9, pt_ne (by omega), e8, pt_ne (by omega), e7, pt_eq]
          · rw [seeZ_81, e10, pt_ne (by omega), e9, pt_ne (by omega), e8, pt_eq]
          · rw [seeZ_82, e10, pt_ne (by omega), e9, pt_eq]
        · rw [seeZ_8 he hk, hn 8 _ _ (by omega) (by omega)]; exact r5.2 i k (by omega) hk
      · rw [hn 0 _ _ (by omega) (by omega), seeZ_o (by omega) (by omega)]; exact r6.1
      · rw [hn 0 _ _ (by omega) (by omega), seeZ_o (by omega) (by omega)]; exact r6.2
      · rw [hn 6 _ _ (by omega) (by omega), seeZ_o (by omega) (by omega)]; exact (r7 k hk).1
      · rw [hn 6 _ _ (by omega) (by omega), seeZ_o (by omega) (by omega)]; exact (r7 k hk).2.1
      · rw [hn 7 _ _ (by omega) (by omega), seeZ_o (by omega) (by omega)]; exact (r7 k hk).2.2 j hj
    · rw [if_pos (by omega)] at hQ
      exact hQ M hR (keepR_rf M)
  · rw [if_neg (fun z => h3 z.2.2)] at hQ; exact hQ M hR (keepR_rf M)
  · rw [if_neg (fun z => h2 z.2.1)] at hQ; exact hQ M hR (keepR_rf M)
  · rw [if_neg (fun z => h1 z.1)] at hQ; exact hQ M hR (keepR_rf M)
theorem M_see {n p v : Int} (hZ : ZB Z) (hR : RepR Z M) (hQ : ∀ M' : JM, RepR (sp_see Z n p v).2 M' → keepC M M' → Q (sp_see Z n p v).1 M') : JC E mm_M_see [vR 20 0, vI n, vI p, vI v] M Q := by
  unfold sp_see at hQ
  refine vc_M_see _ _ _ _ (M_in (fun h1 => c10 (M_isOne hZ hR (fun h2 => c10 (M_in (fun h3 => d10 ?_) (fun h3 => d00 ?_))) (fun h2 => c00 ?_))) (fun h1 => c00 ?_))
  · rw [if_pos ⟨h1, h2, h3⟩] at hQ
    have zb := hZ.2.2.2.1
    obtain ⟨r4, r5, r6, r7, -⟩ := hR.2.2
    rw [r5.1, w32_id (x := 3 * Z 3 2) (by omega) (by omega), show (3 * Z 3 2).toNat = 3 * (Z 3 2).toNat by omega]
    refine ⟨fun h => ⟨by omega, fun M7 e7 => ?_⟩, fun h => ?_⟩
    · rw [if_neg (by omega)] at hQ
      dsimp only at hQ
      have x7 : M7 20 0 22 = Z 3 2 := by rw [e7, pt_ne (by omega)]; exact r5.1
      rw [x7, w32_id (x := 3 * Z 3 2) (by omega) (by omega), w32_id (x := 3 * Z 3 2 + 1) (by omega) (by omega), show (3 * Z 3 2 + 1).toNat = 3 * (Z 3 2).toNat + 1 by omega]
      refine ⟨by omega, fun M8 e8 => ?_⟩
      have x8 : M8 20 0 22 = Z 3 2 := by rw [e8, pt_ne (by omega)]; exact x7
      rw [x8, w32_id (x := 3 * Z 3 2) (by omega) (by omega), w32_id (x := 3 * Z 3 2 + 2) (by omega) (by omega), show (3 * Z 3 2 + 2).toNat = 3 * (Z 3 2).toNat + 2 by omega]
      refine ⟨by omega, fun M9 e9 M10 e10 => ?_⟩
      have x9 : M9 20 0 22 = Z 3 2 := by rw [e9, pt_ne (by omega)]; exact x8
      rw [x9, w32_id (by omega) (by omega)] at e10
      have x10 : M10 20 0 22 = Z 3 2 + 1 := by rw [e10, pt_eq]
      rw [x10]
      have hn : ∀ t i k, ¬ (t = 28 ∧ 3 * (Z 3 2).toNat ≤ k ∧ k < 3 * (Z 3 2).toNat + 3) → ¬ (t = 20 ∧ k = 22) → M10 t i k = M t i k := fun t i k q q2 => by rw [e10, pt_ne (by omega), e9, pt_ne (by omega), e8, pt_ne (by omega), e7, pt_ne (by omega)]
      refine hQ M10 (RepR_gen hR (fun t i k q => hn t i k (by omega) (by omega)) ⟨seeZ_r (by omega) (by omega), seeZ_r (by omega) (by omega), seeZ_r (by omega) (by omega), seeZ_o (by omega) (by omega), seeZ_o (by omega) (by omega), seeZ_o (by omega) (by omega)⟩ ⟨?_, fun j hj => ?_⟩ ⟨?_, fun i k hi hk => ?_⟩ ⟨?_, ?_⟩ (fun k hk => ⟨?_, ?_, fun j hj => ?_⟩)) (fun t i k q => hn t i k (by omega) (by omega))
      · rw [hn 20 _ _ (by omega) (by omega), seeZ_o (by omega) (by omega)]; exact r4.1
      · rw [seeZ_o (by omega) (by omega)] at hj
        rw [hn 23 _ _ (by omega) (by omega), seeZ_o (by omega) (by omega)]; exact r4.2 j hj
      · rw [seeZ_2]; exact x10
      · rw [seeZ_2] at hi
        by_cases he : i = (Z 3 2).toNat
        · subst he
          rcases (show k = 0 ∨ k = 1 ∨ k = 2 by omega) with q | q | q <;> subst q
          · rw [Nat.add_zero, seeZ_80, e10, pt_ne (by omega), e9, pt_ne (by omega), e8, pt_ne (by omega), e7, pt_eq]
          · rw [seeZ_81, e10, pt_ne (by omega), e9, pt_ne (by omega), e8, pt_eq]
          · rw [seeZ_82, e10, pt_ne (by omega), e9, pt_eq]
        · rw [seeZ_8 he hk, hn 28 _ _ (by omega) (by omega)]; exact r5.2 i k (by omega) hk
      · rw [hn 20 _ _ (by omega) (by omega), seeZ_o (by omega) (by omega)]; exact r6.1
      · rw [hn 20 _ _ (by omega) (by omega), seeZ_o (by omega) (by omega)]; exact r6.2
      · rw [hn 31 _ _ (by omega) (by omega), seeZ_o (by omega) (by omega)]; exact (r7 k hk).1
      · rw [hn 32 _ _ (by omega) (by omega), seeZ_o (by omega) (by omega)]; exact (r7 k hk).2.1
      · rw [hn 33 _ _ (by omega) (by omega), seeZ_o (by omega) (by omega)]; exact (r7 k hk).2.2 j hj
    · rw [if_pos (by omega)] at hQ
      exact hQ M hR (keepC_rf M)
  · rw [if_neg (fun z => h3 z.2.2)] at hQ; exact hQ M hR (keepC_rf M)
  · rw [if_neg (fun z => h2 z.2.1)] at hQ; exact hQ M hR (keepC_rf M)
  · rw [if_neg (fun z => h1 z.1)] at hQ; exact hQ M hR (keepC_rf M)
def sp_forget (Z : ZZ) (n : Int) : Int × ZZ := if 0 ≤ n ∧ n ≤ Z 3 2 then (Z 3 2, zu Z 3 2 n) else (-1, Z)
theorem ZB_cnt {n : Int} (hZ : ZB Z) (h : 0 ≤ n ∧ n ≤ Z 3 2) : ZB (zu Z 3 2 n) := by
  obtain ⟨z1, z2, z3, z4, z5, z6, z7, z8⟩ := hZ
  refine ⟨z1, z2, z3, by rw [zu_s]; omega, fun k hk => ?_, z6, fun i hi => ?_, z8⟩
  · rw [zu_n (by omega), zu_r (by omega)]; exact z5 k hk
  · rw [zu_s] at hi
    rw [zu_n (by omega), zu_n (by omega), zu_n (by omega), zu_n (by omega)]; exact z7 i (by omega)
theorem ZB_forget {n : Int} (hZ : ZB Z) : ZB (sp_forget Z n).2 := by
  unfold sp_forget
  split
  · exact ZB_cnt hZ (by assumption)
  · exact hZ
theorem H_forget {n : Int} (hZ : ZB Z) (hR : RepC Z M) (hQ : ∀ M' : JM, RepC (sp_forget Z n).2 M' → keepR M M' → Q (sp_forget Z n).1 M') : JC E mm_H_forget [vR 0 0, vI n] M Q := by
  unfold sp_forget at hQ
  refine vc_H_forget _ _ (fun a ea => ?_)
  rw [hR.2.2.2.2.1.1] at ea
  subst ea
  refine H_within (fun h => d10 (fun M4 e4 => ?_)) (fun h => d00 ?_)
  · rw [if_pos h] at hQ
    dsimp only at hQ
    have hn : ∀ t i k, ¬ (t = 0 ∧ k = 9) → M4 t i k = M t i k := fun t i k q => by rw [e4, pt_ne (by omega)]
    obtain ⟨r4, r5, r6, r7⟩ := hR.2.2.2
    refine hQ M4 (RepC_gen hR (fun t i k q => hn t i k (by omega)) ⟨rfl, rfl, rfl, rfl, rfl, rfl⟩ ⟨?_, fun j hj => ?_⟩ ⟨?_, fun i k hi hk => ?_⟩ ⟨?_, ?_⟩ (fun k hk => ⟨?_, ?_, fun j hj => ?_⟩)) (by rw [e4]; exact keepR_pt (by omega))
    · rw [hn 9 _ _ (by omega)]; exact r4.1
    · rw [hn 10 _ _ (by omega)]; exact r4.2 j hj
    · rw [zu_s, e4, pt_eq]
    · rw [zu_s] at hi
      rw [hn 8 _ _ (by omega), zu_n (by omega)]; exact r5.2 i k (by omega) hk
    · rw [hn 0 _ _ (by omega)]; exact r6.1
    · rw [hn 0 _ _ (by omega)]; exact r6.2
    · rw [hn 6 _ _ (by omega)]; exact (r7 k hk).1
    · rw [hn 6 _ _ (by omega)]; exact (r7 k hk).2.1
    · rw [hn 7 _ _ (by omega)]; exact (r7 k hk).2.2 j hj
  · rw [if_neg h] at hQ; exact hQ M hR (keepR_rf M)
theorem M_forget {n : Int} (hZ : ZB Z) (hR : RepR Z M) (hQ : ∀ M' : JM, RepR (sp_forget Z n).2 M' → keepC M M' → Q (sp_forget Z n).1 M') : JC E mm_M_forget [vR 20 0, vI n] M Q := by
  unfold sp_forget at hQ
  obtain ⟨r4, r5, r6, r7, -⟩ := hR.2.2
  refine vc_M_forget _ _ ?_
  rw [r5.1]
  refine M_in (fun h => d10 (fun a ea M4 e4 => ?_)) (fun h => d00 ?_)
  · rw [if_pos h] at hQ
    dsimp only at hQ
    rw [ea, r5.1]
    have hn : ∀ t i k, ¬ (t = 20 ∧ k = 22) → M4 t i k = M t i k := fun t i k q => by rw [e4, pt_ne (by omega)]
    refine hQ M4 (RepR_gen hR (fun t i k q => hn t i k (by omega)) ⟨rfl, rfl, rfl, rfl, rfl, rfl⟩ ⟨?_, fun j hj => ?_⟩ ⟨?_, fun i k hi hk => ?_⟩ ⟨?_, ?_⟩ (fun k hk => ⟨?_, ?_, fun j hj => ?_⟩)) (by rw [e4]; exact keepC_pt (by omega))
    · rw [hn 20 _ _ (by omega)]; exact r4.1
    · rw [hn 23 _ _ (by omega)]; exact r4.2 j hj
    · rw [zu_s, e4, pt_eq]
    · rw [zu_s] at hi
      rw [hn 28 _ _ (by omega), zu_n (by omega)]; exact r5.2 i k (by omega) hk
    · rw [hn 20 _ _ (by omega)]; exact r6.1
    · rw [hn 20 _ _ (by omega)]; exact r6.2
    · rw [hn 31 _ _ (by omega)]; exact (r7 k hk).1
    · rw [hn 32 _ _ (by omega)]; exact (r7 k hk).2.1
    · rw [hn 33 _ _ (by omega)]; exact (r7 k hk).2.2 j hj
  · rw [if_neg h] at hQ; exact hQ M hR (keepC_rf M)
/-! images -/
def sp_keep (Z : ZZ) (k : Int) : Int × ZZ := if 0 ≤ k ∧ k ≤ 1 then (Z 3 (5 + k.toNat), zu (zp Z (1 + k.toNat) (Z 0)) 3 (5 + k.toNat) 1) else (-1, Z)
theorem kepZ_p {k j : Nat} (hk : k < 2) (hj : j < 2) : zu (zp Z (1 + k) (Z 0)) 3 (5 + k) 1 (1 + j) = (if j = k then Z 0 else Z (1 + j)) := by
  rw [zu_r (by omega)]
  split
  · rename_i h; rw [h, zp_s]
  · rw [zp_n (by omega)]
theorem kepZ_f {k j : Nat} (hk : k < 2) (hj : j < 2) : zu (zp Z (1 + k) (Z 0)) 3 (5 + k) 1 3 (5 + j) = (if j = k then 1 else Z 3 (5 + j)) := by
  split
  · rename_i h; rw [h, zu_s]
  · rw [zu_n (by omega), zp_n (by omega)]
theorem kepZ_o {k a j : Nat} (hk : k < 2) (ha : ¬ (a = 3 ∧ 5 ≤ j)) (ha2 : ¬ (a = 1 ∨ a = 2)) : zu (zp Z (1 + k) (Z 0)) 3 (5 + k) 1 a j = Z a j := by rw [zu_n (by omega), zp_n (by omega)]
theorem kepZ_r {k a : Nat} (hk : k < 2) (ha : ¬ a = 3) (ha2 : ¬ (a = 1 ∨ a = 2)) : zu (zp Z (1 + k) (Z 0)) 3 (5 + k) 1 a = Z a := by rw [zu_r ha, zp_n (by omega)]
theorem ZB_keep {k : Int} (hZ : ZB Z) : ZB (sp_keep Z k).2 := by
  unfold sp_keep
  split
  · rename_i h
    show ZB (zu (zp Z (1 + k.toNat) (Z 0)) 3 (5 + k.toNat) 1)
    have hk : k.toNat < 2 := by omega
    obtain ⟨z1, z2, z3, z4, z5, z6, z7, z8⟩ := hZ
    have en : npz (zu (zp Z (1 + k.toNat) (Z 0)) 3 (5 + k.toNat) 1) = npz Z := npz_c (kepZ_o hk (by omega) (by omega))
    refine ⟨by rw [en, kepZ_r hk (by omega) (by omega)]; exact z1, by rw [kepZ_o hk (by omega) (by omega)]; exact z2, by rw [kepZ_o hk (by omega) (by omega)]; exact z3, by rw [kepZ_o hk (by omega) (by omega)]; exact z4, fun j hj => ?_, fun j hj => ?_, fun i hi => ?_, fun j hj => ?_⟩
    · rw [en, kepZ_f hk hj, kepZ_p hk hj]
      by_cases q : j = k.toNat
      · rw [if_pos q, if_pos q]; exact ⟨Or.inr rfl, fun _ => z1⟩
      · rw [if_neg q, if_neg q]; exact z5 j hj
    · rw [kepZ_r hk (by omega) (by omega), kepZ_r hk (by omega) (by omega)]; exact z6 j hj
    · rw [kepZ_o hk (by omega) (by omega)] at hi
      rw [kepZ_r hk (a := 8) (by omega) (by omega), kepZ_o hk (a := 3) (j := 0) (by omega) (by omega)]; exact z7 i hi
    · rw [kepZ_o hk (by omega) (by omega)] at hj
      rw [kepZ_r hk (by omega) (by omega)]; exact z8 j hj
  · exact hZ
theorem H_keep {k : Int} (hZ : ZB Z) (hR : RepC Z M) (hQ : ∀ M' : JM, RepC (sp_keep Z k).2 M' → keepR M M' → Q (sp_keep Z k).1 M') : JC E mm_H_keep [vR 0 0, vI k] M Q := by
  unfold sp_keep at hQ
  refine vc_H_keep _ _ (H_within (fun h => d10 ⟨by omega, ?_⟩) (fun h => d00 ?_))
  · rw [if_pos h] at hQ
    dsimp only at hQ
    have hk : k.toNat < 2 := by omega
    have x := (hR.2.2.1 k.toNat hk).1
    have z01 := (hZ.2.2.2.2.1 k.toNat hk).1
    have h8 := ngd_le hZ.1
    have main : ∀ s : Int, s = Z 3 (5 + k.toNat) → JG E mm_H_keep Q 25 [(0, vR 0 0), (1, vI k)] [vI s] M := by
      intro s hs
      refine vc_H_keep_25 _ _ _ ⟨by omega, T_copyFrom (by omega) hZ.1 hR.1 (hR.2.1 _ (by omega)) (fun M1 v1 t1 f1 => ⟨by omega, fun M3 e3 => ?_⟩)⟩
      have hn : ∀ t i j, ¬ (t = 12 ∧ i = 0 ∧ j = k.toNat) → M3 t i j = M1 t i j := fun t i j q => by rw [e3, pt_ne (by omega)]
      have hn2 : ∀ t i j, t ≠ 1 → t ≠ 2 → t ≠ 3 → t ≠ 12 → M3 t i j = M t i j := fun t i j q1 q2 q3 q4 => by rw [hn t i j (by omega)]; exact f1 t i j (by omega)
      have hVm : ∀ {u : Nat} {X : Nat → Int} {np : Nat}, VC M1 u X np → VC M3 u X np := by
        intro u X np v
        have e : ∀ r, on M3 u r = on M1 u r := fun r => by unfold on; rw [hn 5 u r (by omega)]
        refine ⟨by rw [hn 3 _ _ (by omega), hn 3 _ _ (by omega), hn 3 _ _ (by omega), hn 3 _ _ (by omega), hn 3 _ _ (by omega)]; exact v.1, fun g hg => ?_, fun r hr => ?_, fun a ha => ?_, fun a b ha hb => ?_⟩
        · rw [hn 1 _ 0 (by omega), hn 1 _ 1 (by omega), hn 1 _ 2 (by omega), hn 1 _ 3 (by omega), hn 1 _ 4 (by omega), hn 1 _ 5 (by omega)]; exact v.2.1 g hg
        · rw [e, hn 2 _ 0 (by omega), hn 2 _ 1 (by omega)]; exact v.2.2.1 r hr
        · rw [hn 5 u a (by omega)]; exact v.2.2.2.1 a ha
        · rw [hn 5 u a (by omega), hn 5 u b (by omega)]; exact v.2.2.2.2 a b ha hb
      have v2 : VC M1 (3 + k.toNat) (Z 0) (npz Z) := VC_c v1 (by rw [ngd_cpy]; exact h8) hZ.1.2.1 (fun j hj => (cpy_lo (by omega)).symm)
      have en : npz (zu (zp Z (1 + k.toNat) (Z 0)) 3 (5 + k.toNat) 1) = npz Z := npz_c (kepZ_o hk (by omega) (by omega))
      rw [hs]
      refine hQ M3 ?_ (fun t i j q => by rw [hn t i j (by omega)]; exact f1 t i j (by omega))
      obtain ⟨r1, r2, r3, r4, r5, r6, r7⟩ := hR
      refine ⟨?_, fun u hu => ?_, fun j hj => ?_, ⟨?_, fun j hj => ?_⟩, ⟨?_, fun i j hi hj => ?_⟩, ⟨?_, ?_⟩, fun j hj => ?_⟩
      · rw [en, kepZ_r hk (by omega) (by omega)]; exact hVm (fra_VC f1 (by omega) h8 hZ.1.2.1 r1)
      · refine ⟨fun a ha => ?_, fun a b ha hb => ?_⟩
        · rw [hn2 5 u a (by omega) (by omega) (by omega) (by omega)]; exact (r2 u hu).1 a ha
        · rw [hn2 5 u a (by omega) (by omega) (by omega) (by omega), hn2 5 u b (by omega) (by omega) (by omega) (by omega)]; exact (r2 u hu).2 a b ha hb
      · rw [en, kepZ_f hk hj, kepZ_p hk hj]
        by_cases q : j = k.toNat
        · rw [if_pos q, if_pos q, q]
          exact ⟨by rw [e3, pt_eq], fun _ => hVm v2⟩
        · rw [if_neg q, if_neg q, hn 12 0 j (by omega), f1 12 0 j (by omega)]
          exact ⟨(r3 j hj).1, fun y => hVm (fra_VC f1 (by omega) (ngd_le ((hZ.2.2.2.2.1 j hj).2 y)) hZ.1.2.1 ((r3 j hj).2 y))⟩
      · rw [kepZ_o hk (by omega) (by omega), hn2 9 _ _ (by omega) (by omega) (by omega) (by omega)]; exact r4.1
      · rw [kepZ_o hk (by omega) (by omega)] at hj
        rw [kepZ_o hk (by omega) (by omega), hn2 10 _ _ (by omega) (by omega) (by omega) (by omega)]; exact r4.2 j hj
      · rw [kepZ_o hk (by omega) (by omega), hn2 0 _ _ (by omega) (by omega) (by omega) (by omega)]; exact r5.1
      · rw [kepZ_o hk (by omega) (by omega)] at hi
        rw [kepZ_o hk (by omega) (by omega), hn2 8 _ _ (by omega) (by omega) (by omega) (by omega)]; exact r5.2 i j hi hj
      · rw [kepZ_o hk (by omega) (by omega), hn2 0 _ _ (by omega) (by omega) (by omega) (by omega)]; exact r6.1
      · rw [kepZ_o hk (by omega) (by omega), hn2 0 _ _ (by omega) (by omega) (by omega) (by omega)]; exact r6.2
      · rw [kepZ_r hk (a := 5) (by omega) (by omega), kepZ_r hk (a := 6) (by omega) (by omega), kepZ_r hk (a := 7) (by omega) (by omega), hn2 6 _ _ (by omega) (by omega) (by omega) (by omega), hn2 6 _ _ (by omega) (by omega) (by omega) (by omega)]
        exact ⟨(r7 j hj).1, (r7 j hj).2.1, fun i hi => by rw [hn2 7 _ _ (by omega) (by omega) (by omega) (by omega)]; exact (r7 j hj).2.2 i hi⟩
    rw [x]
    exact ⟨fun q => main 0 q.symm, fun q => main 1 (by omega)⟩
  · rw [if_neg h] at hQ; exact hQ M hR (keepR_rf M)
theorem M_keep {k : Int} (hZ : ZB Z) (hR : RepR Z M) (hQ : ∀ M' : JM, RepR (sp_keep Z k).2 M' → keepC M M' → Q (sp_keep Z k).1 M') : JC E mm_M_keep [vR 20 0, vI k] M Q := by
  unfold sp_keep at hQ
  refine vc_M_keep _ _ (M_in (fun h => d10 ?_) (fun h => d00 ?_))
  · rw [if_pos h] at hQ
    dsimp only at hQ
    have hk : k.toNat < 2 := by omega
    have z01 := (hZ.2.2.2.2.1 k.toNat hk).1
    rw [w32_id (x := k + 1) (by omega) (by omega), w32_id (by omega) (by omega), show 44 * (k + 1) = ((44 + 44 * k.toNat : Nat) : Int) by omega]
    refine M_copies (b := 0) (c := 44 + 44 * k.toNat) (by omega) (by omega) (by omega) hR.1 (fun M1 v1 f1 => ⟨by omega, ?_⟩)
    have x : M1 30 0 k.toNat = Z 3 (5 + k.toNat) := by rw [f1 30 _ _ (by omega)]; exact (hR.2.1 k.toNat hk).1
    have main : ∀ s : Int, s = Z 3 (5 + k.toNat) → JG E mm_M_keep Q 37 [(0, vR 20 0), (1, vI k)] [vI s] M1 := by
      intro s hs
      refine vc_M_keep_37 _ _ _ ⟨by omega, fun M3 e3 => ?_⟩
      have hn : ∀ t i j, ¬ (t = 30 ∧ i = 0 ∧ j = k.toNat) → ¬ (t = 21 ∧ i = 0 ∧ 44 + 44 * k.toNat ≤ j ∧ j < 44 + 44 * k.toNat + 44) → M3 t i j = M t i j := fun t i j q q2 => by rw [e3, pt_ne (by omega)]; exact f1 t i j q2
      have en : npz (zu (zp Z (1 + k.toNat) (Z 0)) 3 (5 + k.toNat) 1) = npz Z := npz_c (kepZ_o hk (by omega) (by omega))
      rw [hs]
      refine hQ M3 ?_ (fun t i j q => hn t i j (by omega) (by omega))
      obtain ⟨r1, r3, r4, r5, r6, r7, r8, r9⟩ := hR
      refine ⟨⟨fun j hj => ?_, ?_⟩, fun j hj => ?_, ⟨?_, fun j hj => ?_⟩, ⟨?_, fun i j hi hj => ?_⟩, ⟨?_, ?_⟩, fun j hj => ?_, fun j hj => ?_, fun j hj => ?_⟩
      · rw [kepZ_r hk (by omega) (by omega), hn 21 _ _ (by omega) (by omega)]; exact r1.1 j hj
      · rw [en, hn 20 _ _ (by omega) (by omega)]; exact r1.2
      · rw [en, kepZ_f hk hj, kepZ_p hk hj]
        by_cases q : j = k.toNat
        · rw [if_pos q, if_pos q, q]
          refine ⟨by rw [e3, pt_eq], fun _ => ⟨fun i hi => by rw [e3, pt_ne (by omega)]; exact v1.1 i hi, by rw [hn 20 _ _ (by omega) (by omega)]; exact r1.2⟩⟩
        · rw [if_neg q, if_neg q, hn 30 0 j (by omega) (by omega)]
          exact ⟨(r3 j hj).1, fun y => ⟨fun i hi => by rw [hn 21 _ _ (by omega) (by omega)]; exact ((r3 j hj).2 y).1 i hi, by rw [hn 20 _ _ (by omega) (by omega)]; exact ((r3 j hj).2 y).2⟩⟩
      · rw [kepZ_o hk (by omega) (by omega), hn 20 _ _ (by omega) (by omega)]; exact r4.1
      · rw [kepZ_o hk (by omega) (by omega)] at hj
        rw [kepZ_o hk (by omega) (by omega), hn 23 _ _ (by omega) (by omega)]; exact r4.2 j hj
      · rw [kepZ_o hk (by omega) (by omega), hn 20 _ _ (by omega) (by omega)]; exact r5.1
      · rw [kepZ_o hk (by omega) (by omega)] at hi
        rw [kepZ_o hk (by omega) (by omega), hn 28 _ _ (by omega) (by omega)]; exact r5.2 i j hi hj
      · rw [kepZ_o hk (by omega) (by omega), hn 20 _ _ (by omega) (by omega)]; exact r6.1
      · rw [kepZ_o hk (by omega) (by omega), hn 20 _ _ (by omega) (by omega)]; exact r6.2
      · rw [kepZ_r hk (a := 5) (by omega) (by omega), kepZ_r hk (a := 6) (by omega) (by omega), kepZ_r hk (a := 7) (by omega) (by omega), hn 31 _ _ (by omega) (by omega), hn 32 _ _ (by omega) (by omega)]
        exact ⟨(r7 j hj).1, (r7 j hj).2.1, fun i hi => by rw [hn 33 _ _ (by omega) (by omega)]; exact (r7 j hj).2.2 i hi⟩
      · rw [hn 24 _ _ (by omega) (by omega)]; exact r8 j hj
      · rw [hn 25 _ _ (by omega) (by omega)]; exact r9 j hj
    rw [x]
    exact ⟨fun q => main 0 q.symm, fun q => main 1 (by omega)⟩
  · rw [if_neg h] at hQ; exact hQ M hR (keepC_rf M)
def sp_back (Z : ZZ) (k : Int) : Int × ZZ := if 0 ≤ k ∧ k ≤ 1 then (if Z 3 (5 + k.toNat) = 0 then (-2, Z) else (Z (1 + k.toNat) 43, zp Z 0 (Z (1 + k.toNat)))) else (-1, Z)
theorem ZB_back {k : Int} (hZ : ZB Z) : ZB (sp_back Z k).2 := by
  unfold sp_back
  split
  · split
    · exact hZ
    · obtain ⟨a, b⟩ := hZ.2.2.2.2.1 k.toNat (by omega)
      exact ZB_now hZ (b (by omega))
  · exact hZ
theorem H_back {k : Int} (hZ : ZB Z) (hR : RepC Z M) (hQ : ∀ M' : JM, RepC (sp_back Z k).2 M' → keepR M M' → Q (sp_back Z k).1 M') : JC E mm_H_back [vR 0 0, vI k] M Q := by
  unfold sp_back at hQ
  refine vc_H_back _ _ (H_within (fun h => d10 ⟨by omega, ?_⟩) (fun h => d00 ?_))
  · rw [if_pos h] at hQ
    have hk : k.toNat < 2 := by omega
    obtain ⟨x, xv⟩ := hR.2.2.1 k.toNat hk
    obtain ⟨z01, zb⟩ := hZ.2.2.2.2.1 k.toNat hk
    rw [x]
    refine ⟨fun q => ⟨by omega, ?_⟩, fun q => ?_⟩
    · rw [if_neg q] at hQ
      dsimp only at hQ
      have q1 : Z 3 (5 + k.toNat) = 1 := by omega
      have hB := zb q1
      refine T_copyFrom (by omega) hB (xv q1) (hR.2.1 0 (by omega)) (fun M1 v1 t1 f1 => ?_)
      have v2 : VC M1 0 (Z (1 + k.toNat)) (npz Z) := VC_c v1 (ngd_le (cpy_PB hB)) hZ.1.2.1 (fun j hj => (cpy_lo (by omega)).symm)
      rw [v2.1.2.2.2.2]
      exact hQ M1 (RepC_now hZ f1 hR v2) (fra_keepR f1)
    · rw [if_pos q] at hQ; exact hQ M hR (keepR_rf M)
  · rw [if_neg h] at hQ; exact hQ M hR (keepR_rf M)
theorem M_back {k : Int} (hZ : ZB Z) (hR : RepR Z M) (hQ : ∀ M' : JM, RepR (sp_back Z k).2 M' → keepC M M' → Q (sp_back Z k).1 M') : JC E mm_M_back [vR 20 0, vI k] M Q := by
  unfold sp_back at hQ
  refine vc_M_back _ _ (M_in (fun h => d10 ⟨by omega, ?_⟩) (fun h => d00 ?_))
  · rw [if_pos h] at hQ
    have hk : k.toNat < 2 := by omega
    obtain ⟨x, xv⟩ := hR.2.1 k.toNat hk
    obtain ⟨z01, zb⟩ := hZ.2.2.2.2.1 k.toNat hk
    rw [x]
    refine ⟨fun q => ?_, fun q => ?_⟩
    · rw [if_neg q] at hQ
      dsimp only at hQ
      have q1 : Z 3 (5 + k.toNat) = 1 := by omega
      rw [w32_id (x := k + 1) (by omega) (by omega), w32_id (by omega) (by omega), show 44 * (k + 1) = ((44 + 44 * k.toNat : Nat) : Int) by omega]
      refine M_copies (b := 44 + 44 * k.toNat) (c := 0) (by omega) (by omega) (by omega) (xv q1) (fun M1 v1 f1 => ?_)
      have x43 : M1 21 0 43 = Z (1 + k.toNat) 43 := v1.1 43 (by omega)
      rw [x43]
      exact hQ M1 (RepR_now (fun t i j q => f1 t i j (by omega)) hR v1) (fun t i j q => f1 t i j (by omega))
    · rw [if_pos q] at hQ; exact hQ M hR (keepC_rf M)
  · rw [if_neg h] at hQ; exact hQ M hR (keepC_rf M)
end

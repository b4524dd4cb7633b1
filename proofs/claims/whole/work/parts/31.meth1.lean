/-! the calls one by one: what they answer, on both sides -/
theorem RepC_now {Z : ZZ} {M M' : JM} {X : Nat → Int} (hZ : ZB Z) (h : fra 0 M M') (hR : RepC Z M) (hV : VC M' 0 X (npz Z)) : RepC (zp Z 0 X) M' := by
  obtain ⟨r1, r2, r3, r4, r5, r6, r7⟩ := hR
  refine ⟨hV, fun v hv => fra_pm h (r2 v hv), fun k hk => ?_, ?_, ?_, ?_, fun k hk => ?_⟩
  · rw [h 12 0 k (by omega)]
    have e : zp Z 0 X (1 + k) = Z (1 + k) := zp_n (by omega)
    rw [e]
    exact ⟨(r3 k hk).1, fun q => fra_VC h (by omega) (ngd_le ((hZ.2.2.2.2.1 k hk).2 q)) hZ.1.2.1 ((r3 k hk).2 q)⟩
  · rw [h 9 0 1 (by omega)]; exact ⟨r4.1, fun j hj => by rw [h 10 0 j (by omega)]; exact r4.2 j hj⟩
  · rw [h 0 0 9 (by omega)]; exact ⟨r5.1, fun i k hi hk => by rw [h 8 i k (by omega)]; exact r5.2 i k hi hk⟩
  · rw [h 0 0 10 (by omega), h 0 0 11 (by omega)]; exact r6
  · rw [h 6 k 1 (by omega), h 6 k 2 (by omega)]; exact ⟨(r7 k hk).1, (r7 k hk).2.1, fun j hj => by rw [h 7 k j (by omega)]; exact (r7 k hk).2.2 j hj⟩
theorem RepR_now {Z : ZZ} {M M' : JM} {X : Nat → Int} (h : ∀ t i k, ¬ ((t = 21 ∧ i = 0 ∧ (k < 44 ∨ 132 ≤ k)) ∨ t = 26 ∨ t = 27 ∨ t = 29 ∨ (t = 20 ∧ (k = 18 ∨ k = 19 ∨ k = 20))) → M' t i k = M t i k) (hR : RepR Z M) (hV : VR M' 0 X (npz Z)) : RepR (zp Z 0 X) M' := by
  obtain ⟨r1, r3, r4, r5, r6, r7, r8, r9⟩ := hR
  refine ⟨hV, fun k hk => ?_, ?_, ?_, ?_, fun k hk => ?_, fun j hj => ?_, fun j hj => ?_⟩
  · rw [h 30 0 k (by omega)]
    have e : zp Z 0 X (1 + k) = Z (1 + k) := zp_n (by omega)
    rw [e]
    exact ⟨(r3 k hk).1, fun q => ⟨fun j hj => by rw [h 21 0 _ (by omega)]; exact ((r3 k hk).2 q).1 j hj, by rw [h 20 0 1 (by omega)]; exact ((r3 k hk).2 q).2⟩⟩
  · rw [h 20 0 6 (by omega)]; exact ⟨r4.1, fun j hj => by rw [h 23 0 j (by omega)]; exact r4.2 j hj⟩
  · rw [h 20 0 22 (by omega)]; exact ⟨r5.1, fun i k hi hk => by rw [h 28 0 _ (by omega)]; exact r5.2 i k hi hk⟩
  · rw [h 20 0 7 (by omega), h 20 0 28 (by omega)]; exact r6
  · rw [h 31 0 k (by omega), h 32 0 k (by omega)]; exact ⟨(r7 k hk).1, (r7 k hk).2.1, fun j hj => by rw [h 33 0 _ (by omega)]; exact (r7 k hk).2.2 j hj⟩
  · rw [h 24 0 j (by omega)]; exact r8 j hj
  · rw [h 25 0 j (by omega)]; exact r9 j hj
theorem ZB_now {Z : ZZ} {X : Nat → Int} (hZ : ZB Z) (hB : PB X (npz Z)) : ZB (zp Z 0 X) := by
  obtain ⟨z1, z2, z3, z4, z5, z6, z7, z8⟩ := hZ
  refine ⟨hB, z2, z3, z4, fun k hk => ?_, z6, z7, z8⟩
  have e : zp Z 0 X (1 + k) = Z (1 + k) := zp_n (by omega)
  rw [e]
  exact z5 k hk
theorem zu_zp (Z : ZZ) (k : Nat) (v : Int) : zu Z 0 k v = zp Z 0 (uf (Z 0) k v) := by
  funext a
  by_cases h : a = 0
  · subst h; rw [zu_a, zp_s]
  · rw [zu_r h, zp_n h]
theorem npz_c {Z Z' : ZZ} (h : Z' 3 0 = Z 3 0) : npz Z' = npz Z := by unfold npz; rw [h]
theorem VC_eq5 {M M' : JM} {u np : Nat} {X : Nat → Int} (h : ∀ t i k, (t = 1 ∨ t = 2 ∨ t = 3 ∨ t = 5 ∨ t = 12) → M' t i k = M t i k) (hV : VC M u X np) : VC M' u X np := by
  have e : ∀ p, on M' u p = on M u p := fun p => by unfold on; rw [h 5 u p (by omega)]
  refine ⟨by rw [h 3 u 2 (by omega), h 3 u 3 (by omega), h 3 u 4 (by omega), h 3 u 5 (by omega), h 3 u 6 (by omega)]; exact hV.1, fun g hg => ?_, fun p hp => ?_, fun a ha => ?_, fun a b ha hb => ?_⟩
  · rw [h 1 _ 0 (by omega), h 1 _ 1 (by omega), h 1 _ 2 (by omega), h 1 _ 3 (by omega), h 1 _ 4 (by omega), h 1 _ 5 (by omega)]; exact hV.2.1 g hg
  · rw [e, h 2 _ 0 (by omega), h 2 _ 1 (by omega)]; exact hV.2.2.1 p hp
  · rw [h 5 u a (by omega)]; exact hV.2.2.2.1 a ha
  · rw [h 5 u a (by omega), h 5 u b (by omega)]; exact hV.2.2.2.2 a b ha hb
/-- the towns are as they were -/
theorem RepC_gen {Z Z' : ZZ} {M M' : JM} (hR : RepC Z M) (hM : ∀ t i k, (t = 1 ∨ t = 2 ∨ t = 3 ∨ t = 5 ∨ t = 12) → M' t i k = M t i k) (hZ : Z' 0 = Z 0 ∧ Z' 1 = Z 1 ∧ Z' 2 = Z 2 ∧ Z' 3 0 = Z 3 0 ∧ Z' 3 5 = Z 3 5 ∧ Z' 3 6 = Z 3 6)
    (r4 : M' 9 0 1 = Z' 3 1 ∧ ∀ j : Nat, (j : Int) < Z' 3 1 → M' 10 0 j = Z' 4 j) (r5 : M' 0 0 9 = Z' 3 2 ∧ ∀ i k : Nat, (i : Int) < Z' 3 2 → k < 3 → M' 8 i k = Z' 8 (3 * i + k)) (r6 : M' 0 0 10 = Z' 3 3 ∧ M' 0 0 11 = Z' 3 4) (r7 : ∀ k, k < 4 → M' 6 k 1 = Z' 5 k ∧ M' 6 k 2 = Z' 6 k ∧ ∀ j, j < 40 → M' 7 k j = Z' 7 (40 * k + j)) : RepC Z' M' := by
  obtain ⟨r1, r2, r3, -⟩ := hR
  obtain ⟨z0, z1, z2, z3, z5, z6⟩ := hZ
  have en := npz_c z3
  refine ⟨by rw [z0, en]; exact VC_eq5 hM r1, fun u hu => ⟨fun a ha => ?_, fun a b ha hb => ?_⟩, fun k hk => ?_, r4, r5, r6, r7⟩
  · rw [hM 5 u a (by omega)]; exact (r2 u hu).1 a ha
  · rw [hM 5 u a (by omega), hM 5 u b (by omega)]; exact (r2 u hu).2 a b ha hb
  · rw [hM 12 0 k (by omega), en]
    rcases (show k = 0 ∨ k = 1 by omega) with h | h <;> subst h
    · show _ = Z' 3 5 ∧ (Z' 3 5 = 1 → VC M' 3 (Z' 1) _)
      rw [z5, z1]
      exact ⟨(r3 0 (by omega)).1, fun q => VC_eq5 hM ((r3 0 (by omega)).2 q)⟩
    · show _ = Z' 3 6 ∧ (Z' 3 6 = 1 → VC M' 4 (Z' 2) _)
      rw [z6, z2]
      exact ⟨(r3 1 (by omega)).1, fun q => VC_eq5 hM ((r3 1 (by omega)).2 q)⟩
theorem RepR_gen {Z Z' : ZZ} {M M' : JM} (hR : RepR Z M) (hM : ∀ t i k, (t = 21 ∨ t = 24 ∨ t = 25 ∨ t = 30 ∨ (t = 20 ∧ k = 1)) → M' t i k = M t i k) (hZ : Z' 0 = Z 0 ∧ Z' 1 = Z 1 ∧ Z' 2 = Z 2 ∧ Z' 3 0 = Z 3 0 ∧ Z' 3 5 = Z 3 5 ∧ Z' 3 6 = Z 3 6)
    (r4 : M' 20 0 6 = Z' 3 1 ∧ ∀ j : Nat, (j : Int) < Z' 3 1 → M' 23 0 j = Z' 4 j) (r5 : M' 20 0 22 = Z' 3 2 ∧ ∀ i k : Nat, (i : Int) < Z' 3 2 → k < 3 → M' 28 0 (3 * i + k) = Z' 8 (3 * i + k)) (r6 : M' 20 0 7 = Z' 3 3 ∧ M' 20 0 28 = Z' 3 4) (r7 : ∀ k, k < 4 → M' 31 0 k = (if Z' 5 k = -1 then -4 else Z' 5 k) ∧ M' 32 0 k = Z' 6 k ∧ ∀ j, j < 40 → M' 33 0 (40 * k + j) = Z' 7 (40 * k + j)) : RepR Z' M' := by
  obtain ⟨r1, r3, -, -, -, -, r8, r9⟩ := hR
  obtain ⟨z0, z1, z2, z3, z5, z6⟩ := hZ
  have en := npz_c z3
  have hv : ∀ {b : Nat} {X : Nat → Int} {np : Nat}, VR M b X np → VR M' b X np := fun h => ⟨fun k hk => by rw [hM 21 0 _ (by omega)]; exact h.1 k hk, by rw [hM 20 0 1 (by omega)]; exact h.2⟩
  refine ⟨by rw [z0, en]; exact hv r1, fun k hk => ?_, r4, r5, r6, r7, fun j hj => by rw [hM 24 0 j (by omega)]; exact r8 j hj, fun j hj => by rw [hM 25 0 j (by omega)]; exact r9 j hj⟩
  rw [hM 30 0 k (by omega), en]
  rcases (show k = 0 ∨ k = 1 by omega) with h | h <;> subst h
  · show _ = Z' 3 5 ∧ (Z' 3 5 = 1 → VR M' 44 (Z' 1) _)
    rw [z5, z1]
    exact ⟨(r3 0 (by omega)).1, fun q => hv ((r3 0 (by omega)).2 q)⟩
  · show _ = Z' 3 6 ∧ (Z' 3 6 = 1 → VR M' 88 (Z' 2) _)
    rw [z6, z2]
    exact ⟨(r3 1 (by omega)).1, fun q => hv ((r3 1 (by omega)).2 q)⟩
section
variable {E : EE} {Q : Int → JM → Prop} {M : JM} {Z : ZZ}
/-! feed, end, fault -/
def sp_feed (Z : ZZ) (c : Int) : Int × ZZ := if 0 ≤ c ∧ c ≤ 127 then (if Z 3 1 = 160 then (-3, Z) else (Z 3 1 + 1, zu (zu Z 4 (Z 3 1).toNat c) 3 1 (Z 3 1 + 1))) else (-1, Z)
theorem ZB_feed {c : Int} (hZ : ZB Z) : ZB (sp_feed Z c).2 := by
  unfold sp_feed
  split
  · split
    · exact hZ
    · show ZB (zu (zu Z 4 (Z 3 1).toNat c) 3 1 (Z 3 1 + 1))
      obtain ⟨z1, z2, z3, z4, z5, z6, z7, z8⟩ := hZ
      refine ⟨z1, z2, ⟨by rw [zu_s]; omega, by rw [zu_s]; omega⟩, z4, fun k hk => ?_, z6, z7, fun j hj => ?_⟩
      · rw [zu_n (by omega), zu_n (by omega), zu_r (by omega), zu_r (by omega)]; exact z5 k hk
      · rw [zu_s] at hj
        rw [zu_n (by omega)]
        by_cases hje : j = (Z 3 1).toNat
        · subst hje; rw [zu_s]; assumption
        · rw [zu_n (by omega)]; exact z8 j (by omega)
  · exact hZ
theorem H_feed {c : Int} (hZ : ZB Z) (hR : RepC Z M) (hQ : ∀ M' : JM, RepC (sp_feed Z c).2 M' → keepR M M' → Q (sp_feed Z c).1 M') : JC E mm_H_feed [vR 0 0, vI c] M Q := by
  have hl := hZ.2.2.1
  unfold sp_feed at hQ
  refine vc_H_feed _ _ (H_within (fun h => ⟨fun _ => ?_, fun z => absurd z (by decide)⟩) (fun h => ⟨fun z => absurd rfl z, fun _ => ?_⟩))
  · rw [if_pos h] at hQ
    rw [hR.2.2.2.1.1]
    refine ⟨fun h2 => ⟨by omega, fun M3 e3 M4 e4 => ?_⟩, fun h2 => ?_⟩
    · rw [if_neg (by omega)] at hQ
      dsimp only at hQ
      have v1 : M3 9 0 1 = Z 3 1 := by rw [e3, pt_ne (by omega)]; exact hR.2.2.2.1.1
      rw [v1, w32_id (by omega) (by omega)] at e4
      have v2 : M4 9 0 1 = Z 3 1 + 1 := by rw [e4, pt_eq]
      rw [v2]
      have n4 : ∀ t i k, t < 9 ∨ 10 < t → M4 t i k = M t i k := fun t i k q => by rw [e4, pt_ne (by omega), e3, pt_ne (by omega)]
      obtain ⟨r4, r5, r6, r7⟩ := hR.2.2.2
      refine hQ M4 (RepC_gen hR (fun t i k q => n4 t i k (by omega)) ⟨rfl, rfl, rfl, rfl, rfl, rfl⟩ ⟨v2, fun j hj => ?_⟩ ?_ ?_ (fun k hk => ?_)) (fun t i k q => n4 t i k (by omega))
      · rw [zu_s] at hj
        rw [e4, pt_ne (by omega), e3, zu_n (by omega)]
        by_cases hje : j = (Z 3 1).toNat
        · subst hje; rw [pt_eq, zu_s]
        · rw [pt_ne (by omega), zu_n (by omega)]; exact r4.2 j (by omega)
      · rw [n4 0 _ _ (by omega)]; exact ⟨r5.1, fun i k hi hk => by rw [n4 8 _ _ (by omega)]; exact r5.2 i k hi hk⟩
      · rw [n4 0 _ _ (by omega), n4 0 _ _ (by omega)]; exact r6
      · rw [n4 6 _ _ (by omega), n4 6 _ _ (by omega)]; exact ⟨(r7 k hk).1, (r7 k hk).2.1, fun j hj => by rw [n4 7 _ _ (by omega)]; exact (r7 k hk).2.2 j hj⟩
    · rw [if_pos (by omega)] at hQ
      exact hQ M hR (keepR_rf M)
  · rw [if_neg h] at hQ
    exact hQ M hR (keepR_rf M)
theorem M_feed {c : Int} (hZ : ZB Z) (hR : RepR Z M) (hQ : ∀ M' : JM, RepR (sp_feed Z c).2 M' → keepC M M' → Q (sp_feed Z c).1 M') : JC E mm_M_feed [vR 20 0, vI c] M Q := by
  have hl := hZ.2.2.1
  obtain ⟨r4, r5, r6, r7, -⟩ := hR.2.2
  unfold sp_feed at hQ
  refine vc_M_feed _ _ (M_in (fun h => ⟨fun _ => ?_, fun z => absurd z (by decide)⟩) (fun h => ⟨fun z => absurd rfl z, fun _ => ?_⟩))
  · rw [if_pos h] at hQ
    rw [r4.1]
    refine ⟨fun h2 => ⟨by omega, fun M3 e3 M4 e4 => ?_⟩, fun h2 => ?_⟩
    · rw [if_neg (by omega)] at hQ
      dsimp only at hQ
      have v1 : M3 20 0 6 = Z 3 1 := by rw [e3, pt_ne (by omega)]; exact r4.1
      rw [v1, w32_id (by omega) (by omega)] at e4
      have v2 : M4 20 0 6 = Z 3 1 + 1 := by rw [e4, pt_eq]
      rw [v2]
      have n4 : ∀ t i k, ¬ (t = 23 ∨ (t = 20 ∧ k = 6)) → M4 t i k = M t i k := fun t i k q => by rw [e4, pt_ne (by omega), e3, pt_ne (by omega)]
      refine hQ M4 (RepR_gen hR (fun t i k q => n4 t i k (by omega)) ⟨rfl, rfl, rfl, rfl, rfl, rfl⟩ ⟨v2, fun j hj => ?_⟩ ?_ ?_ (fun k hk => ?_)) (fun t i k q => n4 t i k (by omega))
      · rw [zu_s] at hj
        rw [e4, pt_ne (by omega), e3, zu_n (by omega)]
        by_cases hje : j = (Z 3 1).toNat
        · subst hje; rw [pt_eq, zu_s]
        · rw [pt_ne (by omega), zu_n (by omega)]; exact r4.2 j (by omega)
      · rw [n4 20 0 22 (by omega)]; exact ⟨r5.1, fun i k hi hk => by rw [n4 28 _ _ (by omega)]; exact r5.2 i k hi hk⟩
      · rw [n4 20 0 7 (by omega), n4 20 0 28 (by omega)]; exact r6
      · rw [n4 31 _ _ (by omega), n4 32 _ _ (by omega)]; exact ⟨(r7 k hk).1, (r7 k hk).2.1, fun j hj => by rw [n4 33 _ _ (by omega)]; exact (r7 k hk).2.2 j hj⟩
    · rw [if_pos (by omega)] at hQ
      exact hQ M hR (keepC_rf M)
  · rw [if_neg h] at hQ
    exact hQ M hR (keepC_rf M)
def sp_end (Z : ZZ) (n : Int) : Int × ZZ := if 0 ≤ n ∧ n ≤ Z 3 1 then (Z 3 1, zu Z 3 1 n) else (-1, Z)
theorem ZB_len {n : Int} (hZ : ZB Z) (h : 0 ≤ n ∧ n ≤ Z 3 1) : ZB (zu Z 3 1 n) := by
  obtain ⟨z1, z2, z3, z4, z5, z6, z7, z8⟩ := hZ
  refine ⟨z1, z2, ⟨by rw [zu_s]; omega, by rw [zu_s]; omega⟩, z4, fun k hk => ?_, z6, z7, fun j hj => ?_⟩
  · rw [zu_n (by omega), zu_r (by omega)]; exact z5 k hk
  · rw [zu_s] at hj
    rw [zu_n (by omega)]; exact z8 j (by omega)
theorem RepC_len {n : Int} {M' : JM} (hR : RepC Z M) (h : n ≤ Z 3 1) (hv : M' 9 0 1 = n) (hn : ∀ t i k, ¬ (t = 9 ∧ i = 0 ∧ 1 ≤ k) → M' t i k = M t i k) : RepC (zu Z 3 1 n) M' := by
  obtain ⟨r4, r5, r6, r7⟩ := hR.2.2.2
  refine RepC_gen hR (fun t i k q => hn t i k (by omega)) ⟨rfl, rfl, rfl, rfl, rfl, rfl⟩ ⟨by rw [zu_s]; exact hv, fun j hj => ?_⟩ ?_ ?_ (fun k hk => ?_)
  · rw [zu_s] at hj
    rw [hn 10 0 j (by omega), zu_n (by omega)]; exact r4.2 j (by omega)
  · rw [hn 0 _ _ (by omega)]; exact ⟨r5.1, fun i k hi hk => by rw [hn 8 _ _ (by omega)]; exact r5.2 i k hi hk⟩
  · rw [hn 0 _ _ (by omega), hn 0 _ _ (by omega)]; exact r6
  · rw [hn 6 _ _ (by omega), hn 6 _ _ (by omega)]; exact ⟨(r7 k hk).1, (r7 k hk).2.1, fun j hj => by rw [hn 7 _ _ (by omega)]; exact (r7 k hk).2.2 j hj⟩
theorem ZB_end {n : Int} (hZ : ZB Z) : ZB (sp_end Z n).2 := by
  unfold sp_end
  split
  · exact ZB_len hZ (by assumption)
  · exact hZ
theorem H_end {n : Int} (hZ : ZB Z) (hR : RepC Z M) (hQ : ∀ M' : JM, RepC (sp_end Z n).2 M' → keepR M M' → Q (sp_end Z n).1 M') : JC E mm_H_end [vR 0 0, vI n] M Q := by
  unfold sp_end at hQ
  refine vc_H_end _ _ (fun a e => ?_)
  rw [hR.2.2.2.1.1] at e
  subst e
  refine H_within (fun h => ⟨fun _ M4 e4 => ?_, fun z => absurd z (by decide)⟩) (fun h => ⟨fun z => absurd rfl z, fun _ => ?_⟩)
  · rw [if_pos h] at hQ
    exact hQ M4 (RepC_len hR h.2 (by rw [e4, pt_eq]) (fun t i k q => by rw [e4, pt_ne (by omega)])) (by rw [e4]; exact keepR_pt (by omega))
  · rw [if_neg h] at hQ
    exact hQ M hR (keepR_rf M)
theorem M_end {n : Int} (hZ : ZB Z) (hR : RepR Z M) (hQ : ∀ M' : JM, RepR (sp_end Z n).2 M' → keepC M M' → Q (sp_end Z n).1 M') : JC E mm_M_end [vR 20 0, vI n] M Q := by
  obtain ⟨r4, r5, r6, r7, -⟩ := hR.2.2
  unfold sp_end at hQ
  refine vc_M_end _ _ ?_
  rw [r4.1]
  refine M_in (fun h => ⟨fun _ a e M4 e4 => ?_, fun z => absurd z (by decide)⟩) (fun h => ⟨fun z => absurd rfl z, fun _ => ?_⟩)
  · rw [if_pos h] at hQ
    dsimp only at hQ
    rw [e, r4.1]
    have hn : ∀ t i k, ¬ (t = 20 ∧ i = 0 ∧ k = 6) → M4 t i k = M t i k := fun t i k q => by rw [e4, pt_ne (by omega)]
    refine hQ M4 (RepR_gen hR (fun t i k q => hn t i k (by omega)) ⟨rfl, rfl, rfl, rfl, rfl, rfl⟩ ⟨by rw [zu_s, e4, pt_eq], fun j hj => ?_⟩ ?_ ?_ (fun k hk => ?_)) (by rw [e4]; exact keepC_pt (by omega))
    · rw [zu_s] at hj
      rw [hn 23 0 j (by omega), zu_n (by omega)]; exact r4.2 j (by omega)
    · rw [hn 20 _ _ (by omega)]; exact ⟨r5.1, fun i k hi hk => by rw [hn 28 _ _ (by omega)]; exact r5.2 i k hi hk⟩
    · rw [hn 20 _ _ (by omega), hn 20 _ _ (by omega)]; exact r6
    · rw [hn 31 _ _ (by omega), hn 32 _ _ (by omega)]; exact ⟨(r7 k hk).1, (r7 k hk).2.1, fun j hj => by rw [hn 33 _ _ (by omega)]; exact (r7 k hk).2.2 j hj⟩
  · rw [if_neg h] at hQ
    exact hQ M hR (keepC_rf M)
theorem H_fault (hR : RepC Z M) (hQ : ∀ M' : JM, RepC Z M' → keepR M M' → Q (Z 3 3) M') : JC E mm_H_fault [vR 0 0] M Q := vc_H_fault _ (by rw [hR.2.2.2.2.2.1.1]; exact hQ M hR (keepR_rf M))
theorem M_fault (hR : RepR Z M) (hQ : ∀ M' : JM, RepR Z M' → keepC M M' → Q (Z 3 3) M') : JC E mm_M_fault [vR 20 0] M Q := vc_M_fault _ (by rw [hR.2.2.2.2.1.1]; exact hQ M hR (keepC_rf M))
theorem H_torn (hR : RepC Z M) (hQ : ∀ M' : JM, RepC Z M' → keepR M M' → Q (Z 3 4) M') : JC E mm_H_torn [vR 0 0] M Q := vc_H_torn _ (by rw [hR.2.2.2.2.2.1.2]; exact hQ M hR (keepR_rf M))
theorem M_torn (hR : RepR Z M) (hQ : ∀ M' : JM, RepR Z M' → keepC M M' → Q (Z 3 4) M') : JC E mm_M_torn [vR 20 0] M Q := vc_M_torn _ (by rw [hR.2.2.2.2.1.2]; exact hQ M hR (keepC_rf M))
/-! rule, good, one -/
def sp_rule (Z : ZZ) (w : Int) : Int := if w = 0 then Z 0 32 else if w = 1 then Z 3 0 else if w = 2 then Z 0 43 else if w = 3 then Z 0 41 + 2 else if w = 4 then Z 0 42 + 2 else if w = 5 then stb (Z 0) (ngd (Z 0)) else if w = 6 then wag (npz Z) (Z 0) else -1
theorem H_rule {w : Int} (hZ : ZB Z) (hR : RepC Z M) (hQ : ∀ M' : JM, RepC Z M' → keepR M M' → Q (sp_rule Z w) M') : JC E mm_H_rule [vR 0 0, vI w] M Q := by
  obtain ⟨⟨c1, c2, c3, c4, c5⟩, -⟩ := id hR.1
  have q := hQ M hR (keepR_rf M)
  unfold sp_rule at q
  refine vc_H_rule _ _ ⟨fun h => ?_, fun h => ?_, fun h => ?_, fun h => ?_, fun h => ?_, fun h => ?_, fun h => ?_, fun h => ?_⟩
  · rw [if_neg (by omega), if_neg (by omega), if_neg (by omega), if_neg (by omega), if_neg (by omega), if_neg (by omega), if_neg (by omega)] at q; exact q
  · rw [if_pos h] at q; rw [c1]; exact q
  · rw [if_neg (by omega), if_pos h] at q; rw [c2, npz_i hZ]; exact q
  · rw [if_neg (by omega), if_neg (by omega), if_pos h] at q; rw [c5]; exact q
  · rw [if_neg (by omega), if_neg (by omega), if_neg (by omega), if_pos h] at q; rw [c3]; exact q
  · rw [if_neg (by omega), if_neg (by omega), if_neg (by omega), if_neg (by omega), if_pos h] at q; rw [c4]; exact q
  · rw [if_neg (by omega), if_neg (by omega), if_neg (by omega), if_neg (by omega), if_neg (by omega), if_pos h] at q; exact T_storeBits hR.1 hZ.1 q
  · rw [if_neg (by omega), if_neg (by omega), if_neg (by omega), if_neg (by omega), if_neg (by omega), if_neg (by omega), if_pos h] at q; exact T_wagesOfAll hR.1 hZ.1 q
theorem M_rule {w : Int} (hZ : ZB Z) (hR : RepR Z M) (hQ : ∀ M' : JM, RepR Z M' → keepC M M' → Q (sp_rule Z w) M') : JC E mm_M_rule [vR 20 0, vI w] M Q := by
  have hv := hR.1.1
  have e32 : M 21 0 32 = Z 0 32 := hv 32 (by omega)
  have e41 : M 21 0 41 = Z 0 41 := hv 41 (by omega)
  have e42 : M 21 0 42 = Z 0 42 := hv 42 (by omega)
  have e43 : M 21 0 43 = Z 0 43 := hv 43 (by omega)
  have b1 := hZ.1.2.2.2.2
  have q := hQ M hR (keepC_rf M)
  unfold sp_rule at q
  refine vc_M_rule _ _ ⟨fun h => ?_, fun h => ?_, fun h => ?_, fun h => ?_, fun h => ?_, fun h => ?_, fun h => ?_, fun h => ?_⟩
  · rw [if_neg (by omega), if_neg (by omega), if_neg (by omega), if_neg (by omega), if_neg (by omega), if_neg (by omega), if_neg (by omega)] at q; exact q
  · rw [if_pos h] at q; rw [e32]; exact q
  · rw [if_neg (by omega), if_pos h] at q; rw [hR.1.2, npz_i hZ]; exact q
  · rw [if_neg (by omega), if_neg (by omega), if_pos h] at q; rw [e43]; exact q
  · rw [if_neg (by omega), if_neg (by omega), if_neg (by omega), if_pos h] at q; rw [e41, w32_id (by omega) (by omega)]; exact q
  · rw [if_neg (by omega), if_neg (by omega), if_neg (by omega), if_neg (by omega), if_pos h] at q; rw [e42, w32_id (by omega) (by omega)]; exact q
  · rw [if_neg (by omega), if_neg (by omega), if_neg (by omega), if_neg (by omega), if_neg (by omega), if_pos h] at q; exact M_storeOn (b := 0) (by omega) hZ.1 hR.1 q
  · rw [if_neg (by omega), if_neg (by omega), if_neg (by omega), if_neg (by omega), if_neg (by omega), if_neg (by omega), if_pos h] at q; exact M_wagesOn (b := 0) (by omega) hZ.1 hR.1 q
end

/-! the reference's pages -/
def VR (M : JM) (b : Nat) (X : Nat → Int) (np : Nat) : Prop := (∀ k, k < 44 → M 21 0 (b + k) = X k) ∧ M 20 0 1 = np
def VRA (M : JM) (X : Nat → Int) : Prop := (∀ p, p < 4 → M 26 0 p = X (44 + p) ∧ M 27 0 p = X (48 + p)) ∧ M 20 0 18 = X 56
def VRT (M : JM) (X : Nat → Int) : Prop := M 20 0 19 = X 58 ∧ M 20 0 20 = X 57
/-- nothing but this page, the arms and the counts has changed -/
def frb (b : Nat) (M M' : JM) : Prop := ∀ t i k, ¬ ((t = 21 ∧ i = 0 ∧ b ≤ k ∧ k < b + 44) ∨ t = 26 ∨ t = 27 ∨ (t = 20 ∧ (k = 18 ∨ k = 19 ∨ k = 20))) → M' t i k = M t i k
theorem frb_rf (b : Nat) (M : JM) : frb b M M := fun _ _ _ _ => rfl
theorem frb_tr {b : Nat} {M M' M'' : JM} (h : frb b M M') (h2 : frb b M' M'') : frb b M M'' := fun t i k hn => (h2 t i k hn).trans (h t i k hn)
theorem frb_pt {b : Nat} {M : JM} {t i k : Nat} {x : Int} (h : (t = 21 ∧ i = 0 ∧ b ≤ k ∧ k < b + 44) ∨ t = 26 ∨ t = 27 ∨ (t = 20 ∧ (k = 18 ∨ k = 19 ∨ k = 20))) : frb b M (pt M t i k x) := fun t' i' k' hn => pt_ne (fun q => hn (by rw [q.1, q.2.1, q.2.2]; exact h))
theorem VR_c {M : JM} {b np : Nat} {X Y : Nat → Int} (hV : VR M b X np) (h : ∀ j, j < 44 → Y j = X j) : VR M b Y np := ⟨fun k hk => by rw [h k hk]; exact hV.1 k hk, hV.2⟩
theorem frb_VR {b b' np : Nat} {M M' : JM} {X : Nat → Int} (h : frb b M M') (hb : b' + 44 ≤ b ∨ b + 44 ≤ b') (hV : VR M b' X np) : VR M' b' X np :=
  ⟨fun k hk => by rw [h 21 0 (b' + k) (by omega)]; exact hV.1 k hk, by rw [h 20 0 1 (by omega)]; exact hV.2⟩
section
variable {E : EE} {Q : Int → JM → Prop} {M : JM} {b np : Nat} {X : Nat → Int}
theorem M_in {x a c : Int} (h1 : a ≤ x ∧ x ≤ c → Q 1 M) (h0 : ¬ (a ≤ x ∧ x ≤ c) → Q 0 M) : JC E mm_M_in [vL x, vL a, vL c] M Q := by
  refine vc_M_in _ _ _ _ ⟨fun h => h0 ?_, fun h => ⟨fun h2 => h0 ?_, fun h2 => h1 ?_⟩⟩
  · unfold cmpL at h
    split at h
    · omega
    · split at h <;> omega
  · unfold cmpL at h2
    split at h2
    · omega
    · split at h2 <;> omega
  · unfold cmpL at h h2
    split at h <;> split at h2 <;> (try split at h) <;> (try split at h2) <;> omega
theorem M_heftOn {g : Nat} (hbb : b ≤ 220) (hB : PB X np) (hV : VR M b X np) (hg : g < ngd X) (hQ : Q (heft X g) M) : JC E mm_M_heftOn [vR 20 0, vI (b : Int), vI (g : Int)] M Q := by
  have h8 := ngd_le hB
  obtain ⟨b0, b1, -, -⟩ := hB.2.2.1 g hg
  have w1 : w32 ((b : Int) + g) = ((b + g : Nat) : Int) := by rw [w32_id (by omega) (by omega)]; omega
  have w2 : w32 (w32 ((b : Int) + 8) + g) = ((b + (8 + g) : Nat) : Int) := by rw [w32_id (x := (b : Int) + 8) (by omega) (by omega), w32_id (by omega) (by omega)]; omega
  refine vc_M_heftOn _ _ _ ?_
  rw [w1, w2, Int.toNat_natCast, Int.toNat_natCast]
  refine ⟨by omega, fun a1 e1 => ⟨by omega, fun a2 e2 => ?_⟩⟩
  rw [hV.1 g (by omega)] at e1
  rw [hV.1 (8 + g) (by omega)] at e2
  subst e1 e2
  unfold heft hfv at hQ
  refine ⟨fun h => ⟨fun h2 => ⟨fun h3 => ?_, fun h3 => ?_⟩, fun h2 => ?_⟩, fun h => ?_⟩
  · rw [if_neg h, if_neg h2, if_neg h3] at hQ
    rw [w32_id (x := 2 * X (8 + g)) (by omega) (by omega), w32_id (by omega) (by omega)]; exact hQ
  · rw [if_neg h, if_neg h2, if_pos h3] at hQ
    rw [w32_id (x := X (8 + g) + 1) (by omega) (by omega), Int.tdiv_eq_ediv_of_nonneg (by omega), w32_id (by omega) (by omega)]; exact hQ
  · rw [if_neg h, if_pos h2] at hQ
    rw [w32_id (by omega) (by omega)]; exact hQ
  · rw [if_pos h] at hQ; exact hQ
theorem M_paysOn {g : Nat} (hbb : b ≤ 220) (hB : PB X np) (hV : VR M b X np) (hg : g < ngd X) (hQ : Q (pays X g) M) : JC E mm_M_paysOn [vR 20 0, vI (b : Int), vI (g : Int)] M Q := by
  have h8 := ngd_le hB
  obtain ⟨b0, -, b1, -⟩ := hB.2.2.1 g hg
  have w1 : w32 ((b : Int) + g) = ((b + g : Nat) : Int) := by rw [w32_id (by omega) (by omega)]; omega
  have w2 : w32 (w32 ((b : Int) + 16) + g) = ((b + (16 + g) : Nat) : Int) := by rw [w32_id (x := (b : Int) + 16) (by omega) (by omega), w32_id (by omega) (by omega)]; omega
  refine vc_M_paysOn _ _ _ ?_
  rw [w1, w2, Int.toNat_natCast, Int.toNat_natCast]
  refine ⟨by omega, fun a1 e1 => ⟨by omega, fun a2 e2 => ?_⟩⟩
  rw [hV.1 g (by omega)] at e1
  rw [hV.1 (16 + g) (by omega)] at e2
  subst e1 e2
  unfold pays pyv at hQ
  refine ⟨fun h => ⟨fun h2 => ?_, fun h2 => ?_⟩, fun h => ?_⟩
  · rw [if_pos (by omega)] at hQ
    refine ⟨fun h3 => ?_, fun h3 => ?_⟩
    · rw [show max 0 (X (16 + g) - 2) = 0 by omega] at hQ; exact hQ
    · rw [show max 0 (X (16 + g) - 2) = X (16 + g) - 2 by omega] at hQ
      rw [w32_id (by omega) (by omega)]; exact hQ
  · rw [if_neg (by omega), if_pos h2] at hQ
    rw [w32_id (by omega) (by omega)]; exact hQ
  · rw [if_neg (by omega), if_neg (by omega)] at hQ; exact hQ
theorem ix32 (hbb : b ≤ 220) {c g : Nat} (hc : c ≤ 43) (hg : g < 8) : w32 (w32 ((b : Int) + c) + g) = ((b + (c + g) : Nat) : Int) := by
  rw [w32_id (x := (b : Int) + c) (by omega) (by omega), w32_id (by omega) (by omega)]; omega
theorem ix1 (hbb : b ≤ 220) {c : Nat} (hc : c ≤ 43) : w32 ((b : Int) + c) = ((b + c : Nat) : Int) := by
  rw [w32_id (by omega) (by omega)]; omega
theorem M_bestFor {p : Nat} (hbb : b ≤ 220) (hp : p < np) (hB : PB X np) (hI : AI X np) (hV : VR M b X np) (hA : VRA M X) (hQ : Q (if (bst X (X (33 + p) - X (48 + p)) (ngd X)).1 = -1 then -4 else (bst X (X (33 + p) - X (48 + p)) (ngd X)).1) M) : JC E mm_M_bestFor [vR 20 0, vI (b : Int), vI (p : Int)] M Q := by
  have h8 := ngd_le hB
  have hn := ngd_int hB
  have h4 := hB.2.1
  have hI2 := hI p hp
  have hb2 := hB.2.2.2.1 p hp
  have w32' : w32 ((b : Int) + 32) = ((b + 32 : Nat) : Int) := ix1 hbb (c := 32) (by omega)
  have w33 : w32 (w32 ((b : Int) + 33) + p) = ((b + (33 + p) : Nat) : Int) := ix32 hbb (c := 33) (by omega) (by omega)
  refine vc_M_bestFor _ _ _ ?_
  refine up_ind (P := fun i => JG E mm_M_bestFor Q 9 [(0, vR 20 0), (1, vI (b : Int)), (2, vI (p : Int)), (3, vI (if (bst X (X (33 + p) - X (48 + p)) i).1 = -1 then -4 else (bst X (X (33 + p) - X (48 + p)) i).1)), (4, vI (bst X (X (33 + p) - X (48 + p)) i).2), (5, vI (i : Int))] [] M) (ngd X) ?_ ?_
  · refine vc_M_bestFor_9 _ _ _ _ _ _ ?_
    rw [w32', Int.toNat_natCast, hV.1 32 (by omega)]
    exact ⟨by omega, fun _ => hQ, fun h => by omega⟩
  · intro i hi ih
    have hh := heft_b hB hi
    have w24 : w32 (w32 ((b : Int) + 24) + i) = ((b + (24 + i) : Nat) : Int) := ix32 hbb (c := 24) (by omega) (by omega)
    refine vc_M_bestFor_9 _ _ _ _ _ _ ?_
    rw [w32', w24, w33, Int.toNat_natCast, Int.toNat_natCast, Int.toNat_natCast, Int.toNat_natCast, hV.1 32 (by omega), hV.1 (24 + i) (by omega), (hA.1 p (by omega)).2]
    have stay : ¬ (X (24 + i) = 0 ∧ heft X i ≤ X (33 + p) - X (48 + p) ∧ (bst X (X (33 + p) - X (48 + p)) i).2 < pays X i) → JG E mm_M_bestFor Q 9 [(0, vR 20 0), (1, vI (b : Int)), (2, vI (p : Int)), (3, vI (if (bst X (X (33 + p) - X (48 + p)) i).1 = -1 then -4 else (bst X (X (33 + p) - X (48 + p)) i).1)), (4, vI (bst X (X (33 + p) - X (48 + p)) i).2), (5, vI ((i + 1 : Nat) : Int))] [] M := fun h => by
      have hbs : bst X (X (33 + p) - X (48 + p)) (i + 1) = bst X (X (33 + p) - X (48 + p)) i := by rw [bst, if_neg h]
      rw [hbs] at ih
      exact ih
    refine ⟨by omega, fun h => by omega, fun _ => ⟨by omega, fun h => ?_, fun h => ⟨by omega, M_heftOn hbb hB hV hi ⟨by omega, ?_⟩⟩⟩⟩
    · refine vc_M_bestFor_70 _ _ _ _ _ _ (vc_M_bestFor_71 _ _ _ _ _ _ _ ⟨fun _ a e => ?_, fun z => absurd rfl z⟩)
      rw [e, w32_s (by omega)]
      exact stay (fun z => h z.1)
    · rw [hV.1 (33 + p) (by omega), w32_id (by omega) (by omega)]
      refine ⟨fun h2 => ?_, fun h2 => ?_⟩
      · refine vc_M_bestFor_70 _ _ _ _ _ _ (vc_M_bestFor_71 _ _ _ _ _ _ _ ⟨fun _ a e => ?_, fun z => absurd rfl z⟩)
        rw [e, w32_s (by omega)]
        exact stay (fun z => by omega)
      · refine vc_M_bestFor_71 _ _ _ _ _ _ _ ⟨fun z => absurd z (by decide), fun _ => M_paysOn hbb hB hV hi ⟨fun h3 a e => ?_, fun h3 => M_paysOn hbb hB hV hi (fun a e => ?_)⟩⟩
        · rw [e, w32_s (by omega)]
          exact stay (fun z => by omega)
        · have hbs : bst X (X (33 + p) - X (48 + p)) (i + 1) = ((i : Int), pays X i) := by rw [bst, if_pos ⟨h, by omega, h3⟩]
          rw [hbs] at ih
          simp only at ih
          rw [if_neg (by omega)] at ih
          rw [e, w32_s (by omega)]
          exact ih
theorem M_paysAll {x : Int} (hbb : b ≤ 220) (hB : PB X np) (hV : VR M b X np) (hQ : Q (smB (pays X) x (ngd X)) M) : JC E mm_M_paysAll [vR 20 0, vI (b : Int), vI x] M Q := by
  have h8 := ngd_le hB
  have hn := ngd_int hB
  have w32' : w32 ((b : Int) + 32) = ((b + 32 : Nat) : Int) := ix1 hbb (c := 32) (by omega)
  refine vc_M_paysAll _ _ _ ?_
  refine up_ind (P := fun i => JG E mm_M_paysAll Q 5 [(0, vR 20 0), (1, vI (b : Int)), (2, vI x), (3, vI (smB (pays X) x i)), (4, vI (i : Int))] [] M) (ngd X) ?_ ?_
  · refine vc_M_paysAll_5 _ _ _ _ _ ?_
    rw [w32', Int.toNat_natCast, hV.1 32 (by omega)]
    exact ⟨by omega, fun _ => hQ, fun h => by omega⟩
  · intro i hi ih
    have hs := sm_b (f := fun g => if hb x g then pays X g else 0) (c := 18) (i + 1) (fun k hk => by have := pays_b hB (g := k) (by omega); split <;> omega)
    unfold smB at ih ⊢
    simp only [sm] at ih hs
    refine vc_M_paysAll_5 _ _ _ _ _ ?_
    rw [w32', Int.toNat_natCast, hV.1 32 (by omega)]
    refine ⟨by omega, fun h => by omega, fun _ => ⟨fun h => ?_, fun h => M_paysOn hbb hB hV hi ?_⟩⟩
    · refine vc_M_paysAll_41 _ _ _ _ _ _ (fun a e a2 e2 => ?_)
      rw [if_neg h] at ih hs
      rw [e, e2, w32_s (by omega), w32_id (by omega) (by omega)]
      exact ih
    · refine vc_M_paysAll_41 _ _ _ _ _ _ (fun a e a2 e2 => ?_)
      rw [if_pos h] at ih hs
      rw [e, e2, w32_s (by omega), w32_id (by omega) (by omega)]
      exact ih
theorem M_storeOn (hbb : b ≤ 220) (hB : PB X np) (hV : VR M b X np) (hQ : Q (stb X (ngd X)) M) : JC E mm_M_storeOn [vR 20 0, vI (b : Int)] M Q := by
  have h8 := ngd_le hB
  have hn := ngd_int hB
  have w32' : w32 ((b : Int) + 32) = ((b + 32 : Nat) : Int) := ix1 hbb (c := 32) (by omega)
  have rng : ∀ i : Nat, i ≤ 8 → 0 ≤ stb X i ∧ stb X i < 2 ^ 8 := by
    intro i
    induction i with
    | zero => intro _; simp [stb]
    | succ i ih =>
      intro hi
      have := ih (by omega)
      unfold stb
      split
      · exact or_small this.1 this.2 (by omega) (by omega)
      · exact this
  refine vc_M_storeOn _ _ ?_
  refine up_ind (P := fun i => JG E mm_M_storeOn Q 4 [(0, vR 20 0), (1, vI (b : Int)), (2, vI (stb X i)), (3, vI (i : Int))] [] M) (ngd X) ?_ ?_
  · refine vc_M_storeOn_4 _ _ _ _ ?_
    rw [w32', Int.toNat_natCast, hV.1 32 (by omega)]
    exact ⟨by omega, fun _ => hQ, fun h => by omega⟩
  · intro i hi ih
    have w24 : w32 (w32 ((b : Int) + 24) + i) = ((b + (24 + i) : Nat) : Int) := ix32 hbb (c := 24) (by omega) (by omega)
    have hr := rng i (by omega)
    refine vc_M_storeOn_4 _ _ _ _ ?_
    rw [w32', w24, Int.toNat_natCast, Int.toNat_natCast, hV.1 32 (by omega), hV.1 (24 + i) (by omega)]
    refine ⟨by omega, fun h => by omega, fun _ => ⟨by omega, fun h => ?_, fun h => ?_⟩⟩
    · refine vc_M_storeOn_39 _ _ _ _ _ (fun a e a2 e2 => ?_)
      rw [stb, if_neg h] at ih
      rw [e, e2, w32_s (by omega), or_0 (by unfold inR; omega)]
      exact ih
    · refine vc_M_storeOn_39 _ _ _ _ _ (fun a e a2 e2 => ?_)
      rw [stb, if_pos h] at ih
      rw [e, e2, w32_s (by omega)]
      exact ih
theorem M_wagesOn (hbb : b ≤ 220) (hB : PB X np) (hV : VR M b X np) (hQ : Q (wag np X) M) : JC E mm_M_wagesOn [vR 20 0, vI (b : Int)] M Q := by
  have h4 := hB.2.1
  refine vc_M_wagesOn _ _ ?_
  refine up_ind (P := fun i => JG E mm_M_wagesOn Q 4 [(0, vR 20 0), (1, vI (b : Int)), (2, vI (sm (fun p => X (37 + p)) i)), (3, vI (i : Int))] [] M) np ?_ ?_
  · exact vc_M_wagesOn_4 _ _ _ _ ⟨fun _ => hQ, fun h => by rw [hV.2] at h; omega⟩
  · intro i hi ih
    have w37 : w32 (w32 ((b : Int) + 37) + i) = ((b + (37 + i) : Nat) : Int) := ix32 hbb (c := 37) (by omega) (by omega)
    have hs := sm_b (f := fun p => X (37 + p)) (c := 999) (i + 1) (fun k hk => (hB.2.2.2.1 k (by omega)).2)
    simp only [sm] at ih hs
    refine vc_M_wagesOn_4 _ _ _ _ ⟨fun h => by rw [hV.2] at h; omega, fun _ => ?_⟩
    rw [w37, Int.toNat_natCast, hV.1 (37 + i) (by omega)]
    refine ⟨by omega, fun a e a2 e2 => ?_⟩
    rw [e, e2, w32_s (by omega), w32_id (by omega) (by omega)]
    exact ih
theorem M_leastOn (hbb : b ≤ 220) (hB : PB X np) (hV : VR M b X np) (hQ : Q (if np = 0 then 0 else lst X np) M) : JC E mm_M_leastOn [vR 20 0, vI (b : Int)] M Q := by
  have h4 := hB.2.1
  have hm := hV.2
  refine vc_M_leastOn _ _ ⟨fun h => ?_, fun h => ?_⟩
  · rw [hm] at h
    rw [if_neg (by omega)] at hQ
    refine up_ind (P := fun i => JG E mm_M_leastOn Q 17 [(0, vR 20 0), (1, vI (b : Int)), (2, vI (lst X i)), (3, vI (i : Int))] [] M) np ?_ ?_
    · exact vc_M_leastOn_17 _ _ _ _ ⟨fun _ => hQ, fun h => by rw [hm] at h; omega⟩
    · intro i hi ih
      have w37 : w32 (w32 ((b : Int) + 37) + i) = ((b + (37 + i) : Nat) : Int) := ix32 hbb (c := 37) (by omega) (by omega)
      refine vc_M_leastOn_17 _ _ _ _ ⟨fun h => by rw [hm] at h; omega, fun _ => ?_⟩
      rw [w37, Int.toNat_natCast, hV.1 (37 + i) (by omega)]
      rw [lst] at ih
      refine ⟨by omega, fun h a e => ?_, fun h => ⟨by omega, fun a e a2 e2 => ?_⟩⟩
      · rw [show min (lst X i) (X (37 + i)) = lst X i by omega] at ih
        rw [e, w32_s (by omega)]
        exact ih
      · rw [show min (lst X i) (X (37 + i)) = X (37 + i) by omega] at ih
        rw [e, e2, w32_s (by omega)]
        exact ih
  · rw [hm] at h
    rw [if_pos (by omega)] at hQ
    exact vc_M_leastOn_17 _ _ _ _ ⟨fun _ => hQ, fun h => by rw [hm] at h; omega⟩
theorem M_copies {c : Nat} (hbb : b ≤ 220) (hc : c ≤ 220) (hbc : b + 44 ≤ c ∨ c + 44 ≤ b) (hV : VR M b X np) (hQ : ∀ M' : JM, VR M' c X np → (∀ t i k, ¬ (t = 21 ∧ i = 0 ∧ c ≤ k ∧ k < c + 44) → M' t i k = M t i k) → Q 0 M') : JC E mm_M_copies [vR 20 0, vI (b : Int), vI (c : Int)] M Q := by
  refine vc_M_copies _ _ _ ?_
  refine up_ind (P := fun i => ∀ M' : JM, (∀ k, k < i → M' 21 0 (c + k) = X k) → (∀ t i k, ¬ (t = 21 ∧ i = 0 ∧ c ≤ k ∧ k < c + 44) → M' t i k = M t i k) → JG E mm_M_copies Q 2 [(0, vR 20 0), (1, vI (b : Int)), (2, vI (c : Int)), (3, vI (i : Int))] [] M') 44 ?_ ?_ M (fun k hk => absurd hk (Nat.not_lt_zero k)) (fun _ _ _ _ => rfl)
  · intro M' h1 h2
    exact vc_M_copies_2 _ _ _ _ ⟨fun _ => hQ M' ⟨h1, by rw [h2 20 0 1 (by omega)]; exact hV.2⟩ h2, fun h => by omega⟩
  · intro i hi ih M' h1 h2
    have wb : w32 ((b : Int) + i) = ((b + i : Nat) : Int) := ix1 hbb (by omega)
    have wc : w32 ((c : Int) + i) = ((c + i : Nat) : Int) := ix1 hc (by omega)
    refine vc_M_copies_2 _ _ _ _ ⟨fun h => by omega, fun _ => ?_⟩
    rw [wb, wc, Int.toNat_natCast, Int.toNat_natCast, h2 21 0 (b + i) (by omega), hV.1 i hi]
    refine ⟨by omega, by omega, fun M1 e1 a e => ?_⟩
    rw [e, w32_s (by omega)]
    refine ih M1 (fun k hk => ?_) (fun t a k hn => ?_)
    · by_cases hki : k = i
      · subst hki; rw [e1, pt_eq]
      · rw [e1, pt_ne (by omega)]; exact h1 k (by omega)
    · rw [e1, pt_ne (by omega)]; exact h2 t a k hn
end

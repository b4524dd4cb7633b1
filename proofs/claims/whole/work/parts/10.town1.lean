/-! the class's towns: what they hold, in terms of a page -/
theorem w32_s {i : Nat} (h : i < 1000000) : w32 ((i : Int) + 1) = ((i + 1 : Nat) : Int) := by
  rw [w32_id (by omega) (by omega)]
  omega
def on (M : JM) (u p : Nat) : Nat := 4 * u + (M 5 u p).toNat
def permOk (M : JM) (u : Nat) : Prop := (∀ a, a < 4 → (M 5 u a).toNat < 4) ∧ ∀ a b, a < 4 → b < 4 → (M 5 u a).toNat = (M 5 u b).toNat → a = b
def VC (M : JM) (u : Nat) (X : Nat → Int) (np : Nat) : Prop :=
  (M 3 u 2 = X 32 ∧ M 3 u 3 = np ∧ M 3 u 4 = X 41 + 2 ∧ M 3 u 5 = X 42 + 2 ∧ M 3 u 6 = X 43) ∧
  (∀ g, g < ngd X → M 1 (8 * u + g) 0 = X g ∧ M 1 (8 * u + g) 1 = X (8 + g) ∧ M 1 (8 * u + g) 2 = X (16 + g) ∧ M 1 (8 * u + g) 3 = heft X g ∧ M 1 (8 * u + g) 4 = pays X g ∧ M 1 (8 * u + g) 5 = X (24 + g)) ∧
  (∀ p, p < np → M 2 (on M u p) 0 = X (33 + p) ∧ M 2 (on M u p) 1 = X (37 + p)) ∧ permOk M u
/-- the arms -/
def VA (M : JM) (u : Nat) (X : Nat → Int) (np : Nat) : Prop := (∀ p, p < np → M 2 (on M u p) 2 = X (44 + p) ∧ M 2 (on M u p) 3 = X (48 + p) ∧ M 2 (on M u p) 4 = X (52 + p)) ∧ M 3 u 7 = X 56
/-- the counts -/
def VT (M : JM) (u : Nat) (X : Nat → Int) : Prop := M 3 u 8 = X 58 ∧ M 3 u 9 = X 57
/-- nothing but this town has changed -/
def fra (u : Nat) (M M' : JM) : Prop := ∀ t i k, ¬ ((t = 1 ∧ 8 * u ≤ i ∧ i < 8 * u + 8) ∨ (t = 2 ∧ 4 * u ≤ i ∧ i < 4 * u + 4) ∨ (t = 3 ∧ i = u)) → M' t i k = M t i k
theorem fra_rf (u : Nat) (M : JM) : fra u M M := fun _ _ _ _ => rfl
theorem fra_tr {u : Nat} {M M' M'' : JM} (h : fra u M M') (h2 : fra u M' M'') : fra u M M'' := fun t i k hn => (h2 t i k hn).trans (h t i k hn)
theorem fra_pt {u : Nat} {M : JM} {t i k : Nat} {x : Int} (h : (t = 1 ∧ 8 * u ≤ i ∧ i < 8 * u + 8) ∨ (t = 2 ∧ 4 * u ≤ i ∧ i < 4 * u + 4) ∨ (t = 3 ∧ i = u)) : fra u M (pt M t i k x) := fun t' i' k' hn => pt_ne (fun q => hn (by rw [q.1, q.2.1]; exact h))
theorem fra_5 {u v : Nat} {M M' : JM} (h : fra u M M') (a : Nat) : M' 5 v a = M 5 v a := h 5 v a (by omega)
theorem fra_on {u v : Nat} {M M' : JM} (h : fra u M M') (a : Nat) : on M' v a = on M v a := by unfold on; rw [fra_5 h]
theorem fra_pm {u v : Nat} {M M' : JM} (h : fra u M M') (hp : permOk M v) : permOk M' v := by
  refine ⟨fun a ha => ?_, fun a b ha hb hab => ?_⟩
  · rw [fra_5 h]; exact hp.1 a ha
  · rw [fra_5 h, fra_5 h] at hab; exact hp.2 a b ha hb hab
theorem on_in {M : JM} {u p : Nat} (h : permOk M u) (hp : p < 4) : 4 * u ≤ on M u p ∧ on M u p < 4 * u + 4 := by
  have := h.1 p hp
  unfold on
  omega
theorem on_inj {M : JM} {u p q : Nat} (h : permOk M u) (hp : p < 4) (hq : q < 4) (e : on M u p = on M u q) : p = q := by
  unfold on at e
  exact h.2 p q hp hq (by omega)
/-- another town is as it was -/
theorem fra_VC {u v : Nat} {M M' : JM} {X : Nat → Int} {np : Nat} (h : fra u M M') (hv : v ≠ u) (h8 : ngd X ≤ 8) (h4 : np ≤ 4) (hV : VC M v X np) : VC M' v X np := by
  obtain ⟨⟨c1, c2, c3, c4, c5⟩, hg, hp, hm⟩ := hV
  refine ⟨?_, fun g hgn => ?_, fun p hpn => ?_, fra_pm h hm⟩
  · rw [h 3 v 2 (by omega), h 3 v 3 (by omega), h 3 v 4 (by omega), h 3 v 5 (by omega), h 3 v 6 (by omega)]
    exact ⟨c1, c2, c3, c4, c5⟩
  · have hn : ∀ k, M' 1 (8 * v + g) k = M 1 (8 * v + g) k := fun k => h 1 _ k (by omega)
    rw [hn, hn, hn, hn, hn, hn]
    exact hg g hgn
  · have h0 := on_in hm (p := p) (by omega)
    have hn : ∀ k, M' 2 (on M v p) k = M 2 (on M v p) k := fun k => h 2 _ k (by omega)
    rw [fra_on h, hn, hn]
    exact hp p hpn
section
variable {E : EE} {Q : Int → JM → Prop} {M : JM} {u np : Nat} {X : Nat → Int}
theorem T_wagesOfAll (hV : VC M u X np) (hB : PB X np) (hQ : Q (wag np X) M) : JC E mm_T_wagesOfAll [vR 3 u] M Q := by
  refine vc_T_wagesOfAll u M ?_
  refine up_ind (P := fun i => JG E mm_T_wagesOfAll Q 4 [(0, vR 3 u), (1, vI (sm (fun p => X (37 + p)) i)), (2, vI (i : Int))] [] M) np ?_ ?_
  · exact vc_T_wagesOfAll_4 _ _ _ _ ⟨fun _ => hQ, fun h => by rw [hV.1.2.1] at h; omega⟩
  · intro i hi ih
    have h4 := hB.2.1
    have hs := sm_b (f := fun p => X (37 + p)) (c := 999) (i + 1) (fun k hk => (hB.2.2.2.1 k (by omega)).2)
    refine vc_T_wagesOfAll_4 _ _ _ _ ⟨fun h => by rw [hV.1.2.1] at h; omega, fun _ => ⟨by omega, fun a1 e1 a2 e2 => ?_⟩⟩
    have e : M 2 (4 * u + (M 5 u (i : Int).toNat).toNat) 1 = X (37 + i) := (hV.2.2.1 i hi).2
    rw [e1, e2, e, w32_s (by omega), w32_id (by simp only [sm] at hs; omega) (by simp only [sm] at hs; omega)]
    exact ih
theorem T_strengthOfAll (hV : VC M u X np) (hB : PB X np) (hQ : Q (sm (fun p => X (33 + p)) np) M) : JC E mm_T_strengthOfAll [vR 3 u] M Q := by
  refine vc_T_strengthOfAll u M ?_
  refine up_ind (P := fun i => JG E mm_T_strengthOfAll Q 4 [(0, vR 3 u), (1, vI (sm (fun p => X (33 + p)) i)), (2, vI (i : Int))] [] M) np ?_ ?_
  · exact vc_T_strengthOfAll_4 _ _ _ _ ⟨fun _ => hQ, fun h => by rw [hV.1.2.1] at h; omega⟩
  · intro i hi ih
    have h4 := hB.2.1
    have hs := sm_b (f := fun p => X (33 + p)) (c := 20) (i + 1) (fun k hk => by have := (hB.2.2.2.1 k (by omega)).1; omega)
    refine vc_T_strengthOfAll_4 _ _ _ _ ⟨fun h => by rw [hV.1.2.1] at h; omega, fun _ => ⟨by omega, fun a1 e1 a2 e2 => ?_⟩⟩
    have e : M 2 (4 * u + (M 5 u (i : Int).toNat).toNat) 0 = X (33 + i) := (hV.2.2.1 i hi).1
    rw [e1, e2, e, w32_s (by omega), w32_id (by simp only [sm] at hs; omega) (by simp only [sm] at hs; omega)]
    exact ih
theorem T_worthOfAll (hV : VC M u X np) (hB : PB X np) (hQ : Q (sm (fun g => X (16 + g)) (ngd X)) M) : JC E mm_T_worthOfAll [vR 3 u] M Q := by
  have h8 := ngd_le hB
  have hn := ngd_int hB
  refine vc_T_worthOfAll u M ?_
  refine up_ind (P := fun i => JG E mm_T_worthOfAll Q 4 [(0, vR 3 u), (1, vI (sm (fun g => X (16 + g)) i)), (2, vI (i : Int))] [] M) (ngd X) ?_ ?_
  · exact vc_T_worthOfAll_4 _ _ _ _ ⟨fun _ => hQ, fun h => by rw [hV.1.1] at h; omega⟩
  · intro i hi ih
    have hs := sm_b (f := fun g => X (16 + g)) (c := 9) (i + 1) (fun k hk => (hB.2.2.1 k (by omega)).2.2.1)
    refine vc_T_worthOfAll_4 _ _ _ _ ⟨fun h => by rw [hV.1.1] at h; omega, fun _ => ⟨by omega, fun a1 e1 a2 e2 => ?_⟩⟩
    have e : M 1 (8 * u + (i : Int).toNat) 2 = X (16 + i) := (hV.2.1 i hi).2.2.1
    rw [e1, e2, e, w32_s (by omega), w32_id (by simp only [sm] at hs; omega) (by simp only [sm] at hs; omega)]
    exact ih
theorem T_storeBits (hV : VC M u X np) (hB : PB X np) (hQ : Q (stb X (ngd X)) M) : JC E mm_T_storeBits [vR 3 u] M Q := by
  have h8 := ngd_le hB
  have hn := ngd_int hB
  refine vc_T_storeBits u M ?_
  refine up_ind (P := fun i => JG E mm_T_storeBits Q 4 [(0, vR 3 u), (1, vI (stb X i)), (2, vI (i : Int))] [] M) (ngd X) ?_ ?_
  · exact vc_T_storeBits_4 _ _ _ _ ⟨fun _ => hQ, fun h => by rw [hV.1.1] at h; omega⟩
  · intro i hi ih
    have e : M 1 (8 * u + (i : Int).toNat) 5 = X (24 + i) := (hV.2.1 i hi).2.2.2.2.2
    refine vc_T_storeBits_4 _ _ _ _ ⟨fun h => by rw [hV.1.1] at h; omega, fun _ => ⟨by omega, ?_⟩⟩
    rw [e]
    refine ⟨fun h a1 e1 => ?_, fun h a1 e1 a2 e2 => ?_⟩
    · rw [stb, if_neg h] at ih
      rw [e1, w32_s (by omega)]
      exact ih
    · rw [stb, if_pos h] at ih
      rw [e1, e2, w32_s (by omega)]
      exact ih
theorem T_leastWages (hV : VC M u X np) (hB : PB X np) (hQ : Q (if np = 0 then 0 else lst X np) M) : JC E mm_T_leastWages [vR 3 u] M Q := by
  have h4 := hB.2.1
  refine vc_T_leastWages u M ⟨fun h a1 e1 => ?_, fun h => ?_⟩
  · rw [hV.1.2.1] at h
    have h0 : np ≠ 0 := by omega
    rw [if_neg h0] at hQ
    have e : M 2 (4 * u + (M 5 u 0).toNat) 1 = X (37 + 0) := (hV.2.2.1 0 (by omega)).2
    have hl : a1 = lst X (0 + 1) := by
      have := (hB.2.2.2.1 0 (by omega)).2
      rw [e1, e]
      simp only [lst]
      omega
    rw [hl]
    refine up_ind (P := fun i => JG E mm_T_leastWages Q 21 [(0, vR 3 u), (1, vI (lst X (i + 1))), (2, vI ((i : Int) + 1))] [] M) (np - 1) ?_ ?_
    · refine vc_T_leastWages_21 _ _ _ _ ⟨fun _ => ?_, fun h => by rw [hV.1.2.1] at h; omega⟩
      rw [show np - 1 + 1 = np by omega]
      exact hQ
    · intro i hi ih
      refine vc_T_leastWages_21 _ _ _ _ ⟨fun h => by rw [hV.1.2.1] at h; omega, fun _ => ⟨by omega, fun a1 e1 a2 e2 => ?_⟩⟩
      have e : M 2 (4 * u + (M 5 u ((i : Int) + 1).toNat).toNat) 1 = X (37 + (i + 1)) := by
        rw [show ((i : Int) + 1).toNat = i + 1 by omega]
        exact (hV.2.2.1 (i + 1) (by omega)).2
      rw [e1, e2, e, w32_id (by omega) (by omega)]
      exact ih
  · rw [hV.1.2.1] at h
    rw [if_pos (by omega)] at hQ
    exact hQ
theorem H_hasBit {x i : Int} (h1 : hb x i → Q 1 M) (h0 : ¬ hb x i → Q 0 M) : JC E mm_H_hasBit [vI x, vI i] M Q := vc_H_hasBit _ _ _ ⟨h0, h1⟩
theorem H_within {x a b : Int} (h1 : a ≤ x ∧ x ≤ b → Q 1 M) (h0 : ¬ (a ≤ x ∧ x ≤ b) → Q 0 M) : JC E mm_H_within [vI x, vI a, vI b] M Q :=
  vc_H_within _ _ _ _ ⟨fun h => h0 (by omega), fun h => ⟨fun h2 => h0 (by omega), fun h2 => h1 ⟨h, h2⟩⟩⟩
/-- of the goods by bits, summed -/
def smB (f : Nat → Int) (x : Int) (n : Nat) : Int := sm (fun g => if hb x g then f g else 0) n
theorem T_heftOf {x : Int} (hV : VC M u X np) (hB : PB X np) (hQ : Q (smB (heft X) x (ngd X)) M) : JC E mm_T_heftOf [vR 3 u, vI x] M Q := by
  have h8 := ngd_le hB
  have hn := ngd_int hB
  refine vc_T_heftOf u x M ?_
  refine up_ind (P := fun i => JG E mm_T_heftOf Q 4 [(0, vR 3 u), (1, vI x), (2, vI (smB (heft X) x i)), (3, vI (i : Int))] [] M) (ngd X) ?_ ?_
  · exact vc_T_heftOf_4 _ _ _ _ _ ⟨fun _ => hQ, fun h => by rw [hV.1.1] at h; omega⟩
  · intro i hi ih
    have hs := sm_b (f := fun g => if hb x g then heft X g else 0) (c := 18) (i + 1) (fun k hk => by have := heft_b hB (g := k) (by omega); split <;> omega)
    have e : M 1 (8 * u + (i : Int).toNat) 3 = heft X i := (hV.2.1 i hi).2.2.2.1
    unfold smB at ih ⊢
    simp only [sm] at ih hs
    refine vc_T_heftOf_4 _ _ _ _ _ ⟨fun h => by rw [hV.1.1] at h; omega, fun _ => H_hasBit (fun h => ⟨fun h => absurd h (by decide), fun _ => ⟨by omega, fun a1 e1 a2 e2 => ?_⟩⟩) (fun h => ⟨fun _ a1 e1 => ?_, fun h => absurd rfl h⟩)⟩
    · rw [if_pos h] at ih hs
      rw [e1, e2, e, w32_s (by omega), w32_id (by omega) (by omega)]
      exact ih
    · rw [if_neg h, Int.add_zero] at ih
      rw [e1, w32_s (by omega)]
      exact ih
theorem T_paysOf {x : Int} (hV : VC M u X np) (hB : PB X np) (hQ : Q (smB (pays X) x (ngd X)) M) : JC E mm_T_paysOf [vR 3 u, vI x] M Q := by
  have h8 := ngd_le hB
  have hn := ngd_int hB
  refine vc_T_paysOf u x M ?_
  refine up_ind (P := fun i => JG E mm_T_paysOf Q 4 [(0, vR 3 u), (1, vI x), (2, vI (smB (pays X) x i)), (3, vI (i : Int))] [] M) (ngd X) ?_ ?_
  · exact vc_T_paysOf_4 _ _ _ _ _ ⟨fun _ => hQ, fun h => by rw [hV.1.1] at h; omega⟩
  · intro i hi ih
    have hs := sm_b (f := fun g => if hb x g then pays X g else 0) (c := 18) (i + 1) (fun k hk => by have := pays_b hB (g := k) (by omega); split <;> omega)
    have e : M 1 (8 * u + (i : Int).toNat) 4 = pays X i := (hV.2.1 i hi).2.2.2.2.1
    unfold smB at ih ⊢
    simp only [sm] at ih hs
    refine vc_T_paysOf_4 _ _ _ _ _ ⟨fun h => by rw [hV.1.1] at h; omega, fun _ => H_hasBit (fun h => ⟨fun h => absurd h (by decide), fun _ => ⟨by omega, fun a1 e1 a2 e2 => ?_⟩⟩) (fun h => ⟨fun _ a1 e1 => ?_, fun h => absurd rfl h⟩)⟩
    · rw [if_pos h] at ih hs
      rw [e1, e2, e, w32_s (by omega), w32_id (by omega) (by omega)]
      exact ih
    · rw [if_neg h, Int.add_zero] at ih
      rw [e1, w32_s (by omega)]
      exact ih
end

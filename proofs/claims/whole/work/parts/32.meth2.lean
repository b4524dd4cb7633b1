/-! pages changed in one place -/
section
variable {X : Nat → Int} {np g p : Nat} {v : Int}
theorem uf_ng (hk : ¬ 32 = g) : ngd (uf X g v) = ngd X := by unfold ngd; rw [uf_n hk]
theorem PB_uf {k : Nat} (hB : PB X np) (hk : k ≠ 32) (h1 : ∀ g, g < ngd X → k = g → 0 ≤ v ∧ v ≤ 3) (h2 : ∀ g, g < ngd X → k = 8 + g → 1 ≤ v ∧ v ≤ 9) (h3 : ∀ g, g < ngd X → k = 16 + g → 0 ≤ v ∧ v ≤ 9) (h4 : ∀ g, g < ngd X → k = 24 + g → v = 0 ∨ v = 1) (h5 : ∀ p, p < np → k = 33 + p → 1 ≤ v ∧ v ≤ 20) (h6 : ∀ p, p < np → k = 37 + p → 0 ≤ v ∧ v ≤ 999) (h7 : k = 41 → -2 ≤ v ∧ v ≤ 4) (h8 : k = 42 → -2 ≤ v ∧ v ≤ 6) : PB (uf X k v) np := by
  have e : ngd (uf X k v) = ngd X := uf_ng (fun q => hk q.symm)
  refine ⟨by rw [uf_n (fun q => hk q.symm)]; exact hB.1, hB.2.1, fun g hg => ?_, fun p hp => ?_, ?_, ?_⟩
  · rw [e] at hg
    obtain ⟨a, b, c, d⟩ := hB.2.2.1 g hg
    refine ⟨?_, ?_, ?_, ?_⟩
    · by_cases q : g = k
      · rw [q, uf_s]; exact h1 g hg q.symm
      · rw [uf_n q]; exact a
    · by_cases q : 8 + g = k
      · rw [q, uf_s]; exact h2 g hg q.symm
      · rw [uf_n q]; exact b
    · by_cases q : 16 + g = k
      · rw [q, uf_s]; exact h3 g hg q.symm
      · rw [uf_n q]; exact c
    · by_cases q : 24 + g = k
      · rw [q, uf_s]; exact h4 g hg q.symm
      · rw [uf_n q]; exact d
  · obtain ⟨a, b⟩ := hB.2.2.2.1 p hp
    refine ⟨?_, ?_⟩
    · by_cases q : 33 + p = k
      · rw [q, uf_s]; exact h5 p hp q.symm
      · rw [uf_n q]; exact a
    · by_cases q : 37 + p = k
      · rw [q, uf_s]; exact h6 p hp q.symm
      · rw [uf_n q]; exact b
  · by_cases q : 41 = k
    · rw [q, uf_s]; exact h7 q.symm
    · rw [uf_n q]; exact hB.2.2.2.2.1
  · by_cases q : 42 = k
    · rw [q, uf_s]; exact h8 q.symm
    · rw [uf_n q]; exact hB.2.2.2.2.2
theorem PB_k (hB : PB X np) (hg : g < ngd X) (hv : 0 ≤ v ∧ v ≤ 3) : PB (uf X g v) np := by
  have := ngd_le hB; have := hB.2.1
  exact PB_uf hB (by omega) (fun _ _ _ => hv) (fun _ _ _ => by omega) (fun _ _ _ => by omega) (fun _ _ _ => by omega) (fun _ _ _ => by omega) (fun _ _ _ => by omega) (fun _ => by omega) (fun _ => by omega)
theorem PB_w (hB : PB X np) (hg : g < ngd X) (hv : 1 ≤ v ∧ v ≤ 9) : PB (uf X (8 + g) v) np := by
  have := ngd_le hB; have := hB.2.1
  exact PB_uf hB (by omega) (fun _ _ _ => by omega) (fun _ _ _ => hv) (fun _ _ _ => by omega) (fun _ _ _ => by omega) (fun _ _ _ => by omega) (fun _ _ _ => by omega) (fun _ => by omega) (fun _ => by omega)
theorem PB_v (hB : PB X np) (hg : g < ngd X) (hv : 0 ≤ v ∧ v ≤ 9) : PB (uf X (16 + g) v) np := by
  have := ngd_le hB; have := hB.2.1
  exact PB_uf hB (by omega) (fun _ _ _ => by omega) (fun _ _ _ => by omega) (fun _ _ _ => hv) (fun _ _ _ => by omega) (fun _ _ _ => by omega) (fun _ _ _ => by omega) (fun _ => by omega) (fun _ => by omega)
theorem PB_t (hB : PB X np) (hg : g < ngd X) (hv : v = 0 ∨ v = 1) : PB (uf X (24 + g) v) np := by
  have := ngd_le hB; have := hB.2.1
  exact PB_uf hB (by omega) (fun _ _ _ => by omega) (fun _ _ _ => by omega) (fun _ _ _ => by omega) (fun _ _ _ => hv) (fun _ _ _ => by omega) (fun _ _ _ => by omega) (fun _ => by omega) (fun _ => by omega)
theorem PB_s (hB : PB X np) (hp : p < np) (hv : 1 ≤ v ∧ v ≤ 20) : PB (uf X (33 + p) v) np := by
  have := ngd_le hB; have := hB.2.1
  exact PB_uf hB (by omega) (fun _ _ _ => by omega) (fun _ _ _ => by omega) (fun _ _ _ => by omega) (fun _ _ _ => by omega) (fun _ _ _ => hv) (fun _ _ _ => by omega) (fun _ => by omega) (fun _ => by omega)
theorem PB_a (hB : PB X np) (hp : p < np) (hv : 0 ≤ v ∧ v ≤ 999) : PB (uf X (37 + p) v) np := by
  have := ngd_le hB; have := hB.2.1
  exact PB_uf hB (by omega) (fun _ _ _ => by omega) (fun _ _ _ => by omega) (fun _ _ _ => by omega) (fun _ _ _ => by omega) (fun _ _ _ => by omega) (fun _ _ _ => hv) (fun _ => by omega) (fun _ => by omega)
theorem PB_h (hB : PB X np) (hv : -2 ≤ v ∧ v ≤ 4) : PB (uf X 41 v) np := by
  have := ngd_le hB; have := hB.2.1
  exact PB_uf hB (by omega) (fun _ _ _ => by omega) (fun _ _ _ => by omega) (fun _ _ _ => by omega) (fun _ _ _ => by omega) (fun _ _ _ => by omega) (fun _ _ _ => by omega) (fun _ => hv) (fun _ => by omega)
theorem PB_b (hB : PB X np) (hv : -2 ≤ v ∧ v ≤ 6) : PB (uf X 42 v) np := by
  have := ngd_le hB; have := hB.2.1
  exact PB_uf hB (by omega) (fun _ _ _ => by omega) (fun _ _ _ => by omega) (fun _ _ _ => by omega) (fun _ _ _ => by omega) (fun _ _ _ => by omega) (fun _ _ _ => by omega) (fun _ => by omega) (fun _ => hv)
end
/-- a good of a page, anew -/
def ugd (X : Nat → Int) (g : Nat) (k w v : Int) : Nat → Int := fun j => if j = g then k else if j = 8 + g then w else if j = 16 + g then v else X j
section
variable {M M' : JM} {u np : Nat} {X : Nat → Int}
theorem ugd_lo {g j : Nat} {k w v : Int} (h : ¬ j = g) (h2 : ¬ j = 8 + g) (h3 : ¬ j = 16 + g) : ugd X g k w v j = X j := by
  unfold ugd
  rw [if_neg h, if_neg h2, if_neg h3]
theorem VC_good {g : Nat} {k w v : Int} (hB : PB X np) (hg : g < ngd X) (hV : VC M u X np) (hv : M' 1 (8 * u + g) 0 = k ∧ M' 1 (8 * u + g) 1 = w ∧ M' 1 (8 * u + g) 2 = v ∧ M' 1 (8 * u + g) 3 = hfv k w ∧ M' 1 (8 * u + g) 4 = pyv k v) (hn : ∀ t j a, ¬ (t = 1 ∧ j = 8 * u + g ∧ a < 5) → M' t j a = M t j a) : VC M' u (ugd X g k w v) np := by
  have h8 := ngd_le hB
  have h4 := hB.2.1
  have f : fra u M M' := fun t i k q => hn t i k (by omega)
  have e : ngd (ugd X g k w v) = ngd X := by unfold ngd; rw [ugd_lo (by omega) (by omega) (by omega)]
  refine ⟨?_, fun j hj => ?_, fun p hp => ?_, fra_pm f hV.2.2.2⟩
  · rw [ugd_lo (by omega) (by omega) (by omega), ugd_lo (by omega) (by omega) (by omega), ugd_lo (by omega) (by omega) (by omega), ugd_lo (by omega) (by omega) (by omega), hn 3 _ _ (by omega), hn 3 _ _ (by omega), hn 3 _ _ (by omega), hn 3 _ _ (by omega), hn 3 _ _ (by omega)]
    exact hV.1
  · rw [e] at hj
    rw [ugd_lo (j := 24 + j) (by omega) (by omega) (by omega), hn 1 _ 5 (by omega)]
    by_cases hjg : j = g
    · subst hjg
      obtain ⟨a, b, c, d, ee⟩ := hv
      have q0 : ugd X j k w v j = k := if_pos rfl
      have q1 : ugd X j k w v (8 + j) = w := by unfold ugd; rw [if_neg (by omega), if_pos rfl]
      have q2 : ugd X j k w v (16 + j) = v := by unfold ugd; rw [if_neg (by omega), if_neg (by omega), if_pos rfl]
      unfold heft pays
      rw [q0, q1, q2]
      exact ⟨a, b, c, d, ee, (hV.2.1 j hj).2.2.2.2.2⟩
    · unfold heft pays
      rw [ugd_lo (j := j) (by omega) (by omega) (by omega), ugd_lo (j := 8 + j) (by omega) (by omega) (by omega), ugd_lo (j := 16 + j) (by omega) (by omega) (by omega), hn 1 _ 0 (by omega), hn 1 _ 1 (by omega), hn 1 _ 2 (by omega), hn 1 _ 3 (by omega), hn 1 _ 4 (by omega)]
      exact hV.2.1 j hj
  · have ho := on_in hV.2.2.2 (p := p) (by omega)
    rw [fra_on f, ugd_lo (by omega) (by omega) (by omega), ugd_lo (by omega) (by omega) (by omega), hn 2 _ 0 (by omega), hn 2 _ 1 (by omega)]
    exact hV.2.2.1 p hp
theorem VC_kind {g : Nat} {v : Int} (h8 : ngd X ≤ 8) (h4 : np ≤ 4) (hg : g < 8) (hV : VC M u (ugd X g v (X (8 + g)) (X (16 + g))) np) : VC M u (uf X g v) np := by
  refine VC_c hV (by unfold ngd; rw [ugd_lo (by omega) (by omega) (by omega)]; exact h8) h4 (fun j hj => ?_)
  unfold uf ugd
  split
  · rfl
  · split
    · rename_i h; rw [h]
    · split
      · rename_i h; rw [h]
      · rfl
theorem VC_weight {g : Nat} {v : Int} (h8 : ngd X ≤ 8) (h4 : np ≤ 4) (hg : g < 8) (hV : VC M u (ugd X g (X g) v (X (16 + g))) np) : VC M u (uf X (8 + g) v) np := by
  refine VC_c hV (by unfold ngd; rw [ugd_lo (by omega) (by omega) (by omega)]; exact h8) h4 (fun j hj => ?_)
  unfold uf ugd
  by_cases h1 : j = g
  · rw [if_neg (by omega), if_pos h1, h1]
  · by_cases h2 : j = 8 + g
    · rw [if_pos h2, if_neg h1, if_pos h2]
    · rw [if_neg h2, if_neg h1, if_neg h2]
      split
      · rename_i h; rw [h]
      · rfl
theorem VC_worth {g : Nat} {v : Int} (h8 : ngd X ≤ 8) (h4 : np ≤ 4) (hg : g < 8) (hV : VC M u (ugd X g (X g) (X (8 + g)) v) np) : VC M u (uf X (16 + g) v) np := by
  refine VC_c hV (by unfold ngd; rw [ugd_lo (by omega) (by omega) (by omega)]; exact h8) h4 (fun j hj => ?_)
  unfold uf ugd
  by_cases h1 : j = g
  · rw [if_neg (by omega), if_pos h1, h1]
  · by_cases h2 : j = 8 + g
    · rw [if_neg (by omega), if_neg h1, if_pos h2, h2]
    · by_cases h3 : j = 16 + g
      · rw [if_pos h3, if_neg h1, if_neg h2]
      · rw [if_neg h3, if_neg h1, if_neg h2]
theorem VC_taken {g : Nat} {v : Int} (hB : PB X np) (hg : g < ngd X) (hV : VC M u X np) (e : M' = pt M 1 (8 * u + g) 5 v) : VC M' u (uf X (24 + g) v) np := by
  have h8 := ngd_le hB
  have h4 := hB.2.1
  have f : fra u M M' := by rw [e]; exact fra_pt (by omega)
  have hn : ∀ t j a, ¬ (t = 1 ∧ j = 8 * u + g ∧ a = 5) → M' t j a = M t j a := fun t j a q => by rw [e, pt_ne (by omega)]
  refine ⟨?_, fun j hj => ?_, fun p hp => ?_, fra_pm f hV.2.2.2⟩
  · rw [uf_n (by omega), uf_n (by omega), uf_n (by omega), uf_n (by omega), hn 3 _ _ (by omega), hn 3 _ _ (by omega), hn 3 _ _ (by omega), hn 3 _ _ (by omega), hn 3 _ _ (by omega)]; exact hV.1
  · rw [uf_ng (by omega)] at hj
    unfold heft pays
    rw [uf_n (j := j) (by omega), uf_n (j := 8 + j) (by omega), uf_n (j := 16 + j) (by omega), hn 1 _ 0 (by omega), hn 1 _ 1 (by omega), hn 1 _ 2 (by omega), hn 1 _ 3 (by omega), hn 1 _ 4 (by omega)]
    obtain ⟨z0, z1, z2, z3, z4, z5⟩ := hV.2.1 j hj
    refine ⟨z0, z1, z2, z3, z4, ?_⟩
    by_cases hjg : j = g
    · subst hjg; rw [uf_s, e, pt_eq]
    · rw [uf_n (by omega), hn 1 _ 5 (by omega)]; exact z5
  · have ho := on_in hV.2.2.2 (p := p) (by omega)
    rw [fra_on f, uf_n (by omega), uf_n (by omega), hn 2 _ 0 (by omega), hn 2 _ 1 (by omega)]
    exact hV.2.2.1 p hp
theorem VC_one {p k : Nat} {v : Int} (hk : k < 2) (hB : PB X np) (hp : p < np) (hV : VC M u X np) (e : M' = pt M 2 (on M u p) k v) : VC M' u (uf X (33 + 4 * k + p) v) np := by
  have h8 := ngd_le hB
  have h4 := hB.2.1
  have ho := on_in hV.2.2.2 (p := p) (by omega)
  have f : fra u M M' := by rw [e]; exact fra_pt (by omega)
  have hn : ∀ t j a, ¬ (t = 2 ∧ j = on M u p ∧ a = k) → M' t j a = M t j a := fun t j a q => by rw [e, pt_ne (by omega)]
  refine ⟨?_, fun j hj => ?_, fun q hq => ?_, fra_pm f hV.2.2.2⟩
  · rw [uf_n (by omega), uf_n (by omega), uf_n (by omega), uf_n (by omega), hn 3 _ _ (by omega), hn 3 _ _ (by omega), hn 3 _ _ (by omega), hn 3 _ _ (by omega), hn 3 _ _ (by omega)]; exact hV.1
  · rw [uf_ng (by omega)] at hj
    unfold heft pays
    rw [uf_n (j := j) (by omega), uf_n (j := 8 + j) (by omega), uf_n (j := 16 + j) (by omega), uf_n (j := 24 + j) (by omega), hn 1 _ 0 (by omega), hn 1 _ 1 (by omega), hn 1 _ 2 (by omega), hn 1 _ 3 (by omega), hn 1 _ 4 (by omega), hn 1 _ 5 (by omega)]
    exact hV.2.1 j hj
  · rw [fra_on f]
    obtain ⟨z0, z1⟩ := hV.2.2.1 q hq
    by_cases hqp : q = p
    · subst hqp
      rcases (show k = 0 ∨ k = 1 by omega) with h | h <;> subst h
      · show _ = uf X (33 + q) v (33 + q) ∧ _ = uf X (33 + q) v (37 + q)
        rw [uf_s, uf_n (by omega), hn 2 _ 1 (by omega), e, pt_eq]
        exact ⟨rfl, z1⟩
      · show _ = uf X (37 + q) v (33 + q) ∧ _ = uf X (37 + q) v (37 + q)
        rw [uf_s, uf_n (by omega), hn 2 _ 0 (by omega), e, pt_eq]
        exact ⟨z0, rfl⟩
    · have hne : on M u q ≠ on M u p := fun z => hqp (on_inj hV.2.2.2 (by omega) (by omega) z)
      rw [hn 2 _ 0 (by omega), hn 2 _ 1 (by omega), uf_n (by omega), uf_n (by omega)]
      exact ⟨z0, z1⟩
theorem VC_set {k : Nat} {v : Int} (hk : k < 2) (hB : PB X np) (hV : VC M u X np) (e : M' = pt M 3 u (4 + k) v) : VC M' u (uf X (41 + k) (v - 2)) np := by
  have h8 := ngd_le hB
  have h4 := hB.2.1
  have f : fra u M M' := by rw [e]; exact fra_pt (by omega)
  have hn : ∀ t j a, ¬ (t = 3 ∧ j = u ∧ a = 4 + k) → M' t j a = M t j a := fun t j a q => by rw [e, pt_ne (by omega)]
  refine ⟨?_, fun j hj => ?_, fun q hq => ?_, fra_pm f hV.2.2.2⟩
  · obtain ⟨c1, c2, c3, c4, c5⟩ := hV.1
    rw [uf_n (j := 32) (by omega), uf_n (j := 43) (by omega), hn 3 _ 2 (by omega), hn 3 _ 3 (by omega), hn 3 _ 6 (by omega)]
    rcases (show k = 0 ∨ k = 1 by omega) with h | h <;> subst h
    · rw [uf_n (j := 42) (by omega), hn 3 _ 5 (by omega)]
      refine ⟨c1, c2, ?_, c4, c5⟩
      rw [show uf X (41 + 0) (v - 2) 41 = v - 2 from uf_s _ _ _, e, pt_eq]; omega
    · rw [uf_n (j := 41) (by omega), hn 3 _ 4 (by omega)]
      refine ⟨c1, c2, c3, ?_, c5⟩
      rw [show uf X (41 + 1) (v - 2) 42 = v - 2 from uf_s _ _ _, e, pt_eq]; omega
  · rw [uf_ng (by omega)] at hj
    unfold heft pays
    rw [uf_n (j := j) (by omega), uf_n (j := 8 + j) (by omega), uf_n (j := 16 + j) (by omega), uf_n (j := 24 + j) (by omega), hn 1 _ 0 (by omega), hn 1 _ 1 (by omega), hn 1 _ 2 (by omega), hn 1 _ 3 (by omega), hn 1 _ 4 (by omega), hn 1 _ 5 (by omega)]
    exact hV.2.1 j hj
  · have ho := on_in hV.2.2.2 (p := q) (by omega)
    rw [fra_on f, uf_n (by omega), uf_n (by omega), hn 2 _ 0 (by omega), hn 2 _ 1 (by omega)]
    exact hV.2.2.1 q hq
/-- a place of a page of the reference -/
theorem VR_uf {b k : Nat} {v : Int} (hV : VR M b X np) (hk : k < 44) (e : M' = pt M 21 0 (b + k) v) : VR M' b (uf X k v) np := by
  refine ⟨fun j hj => ?_, by rw [e, pt_ne (by omega)]; exact hV.2⟩
  by_cases h : j = k
  · subst h; rw [uf_s, e, pt_eq]
  · rw [uf_n h, e, pt_ne (by omega)]; exact hV.1 j hj
/-- a good more -/
def addg (X : Nat → Int) (k w v : Int) : Nat → Int := fun j => if j = ngd X then k else if j = 8 + ngd X then w else if j = 16 + ngd X then v else if j = 24 + ngd X then 0 else if j = 32 then X 32 + 1 else X j
theorem addg_n {k w v : Int} {j : Nat} (h : ¬ j = ngd X) (h2 : ¬ j = 8 + ngd X) (h3 : ¬ j = 16 + ngd X) (h4 : ¬ j = 24 + ngd X) (h5 : ¬ j = 32) : addg X k w v j = X j := by
  unfold addg
  rw [if_neg h, if_neg h2, if_neg h3, if_neg h4, if_neg h5]
theorem addg_0 {k w v : Int} : addg X k w v (ngd X) = k := if_pos rfl
theorem addg_1 {k w v : Int} : addg X k w v (8 + ngd X) = w := by unfold addg; rw [if_neg (by omega), if_pos rfl]
theorem addg_2 {k w v : Int} : addg X k w v (16 + ngd X) = v := by unfold addg; rw [if_neg (by omega), if_neg (by omega), if_pos rfl]
theorem addg_3 {k w v : Int} : addg X k w v (24 + ngd X) = 0 := by unfold addg; rw [if_neg (by omega), if_neg (by omega), if_neg (by omega), if_pos rfl]
theorem addg_32 {k w v : Int} (h8 : ngd X < 8) : addg X k w v 32 = X 32 + 1 := by unfold addg; rw [if_neg (by omega), if_neg (by omega), if_neg (by omega), if_neg (by omega), if_pos rfl]
theorem addg_ng {k w v : Int} (hB : PB X np) (h8 : ngd X < 8) : ngd (addg X k w v) = ngd X + 1 := by
  have := hB.1
  unfold ngd at h8
  show (addg X k w v 32).toNat = (X 32).toNat + 1
  rw [addg_32 h8]
  omega
theorem addg_PB {k w v : Int} (hB : PB X np) (h8 : ngd X < 8) (hk : 0 ≤ k ∧ k ≤ 3) (hw : 1 ≤ w ∧ w ≤ 9) (hv : 0 ≤ v ∧ v ≤ 9) : PB (addg X k w v) np := by
  have h4 := hB.2.1
  have hn := ngd_int hB
  refine ⟨by rw [addg_32 h8]; omega, h4, fun g hg => ?_, fun p hp => ?_, ?_, ?_⟩
  · rw [addg_ng hB h8] at hg
    by_cases hge : g = ngd X
    · subst hge
      rw [addg_0, addg_1, addg_2, addg_3]
      exact ⟨hk, hw, hv, Or.inl rfl⟩
    · rw [addg_n (j := g) (by omega) (by omega) (by omega) (by omega) (by omega), addg_n (j := 8 + g) (by omega) (by omega) (by omega) (by omega) (by omega), addg_n (j := 16 + g) (by omega) (by omega) (by omega) (by omega) (by omega), addg_n (j := 24 + g) (by omega) (by omega) (by omega) (by omega) (by omega)]
      exact hB.2.2.1 g (by omega)
  · rw [addg_n (by omega) (by omega) (by omega) (by omega) (by omega), addg_n (by omega) (by omega) (by omega) (by omega) (by omega)]; exact hB.2.2.2.1 p hp
  · rw [addg_n (by omega) (by omega) (by omega) (by omega) (by omega)]; exact hB.2.2.2.2.1
  · rw [addg_n (by omega) (by omega) (by omega) (by omega) (by omega)]; exact hB.2.2.2.2.2
theorem T_addGood {E : EE} {Q : Int → JM → Prop} {k w v : Int} (hB : PB X np) (h8 : ngd X < 8) (hk : 0 ≤ k ∧ k ≤ 3) (hw : 1 ≤ w ∧ w ≤ 9) (hv : 0 ≤ v ∧ v ≤ 9) (hV : VC M u X np) (hQ : ∀ M' : JM, VC M' u (addg X k w v) np → fra u M M' → Q 0 M') : JC E mm_T_addGood [vR 3 u, vI k, vI w, vI v] M Q := by
  have h4 := hB.2.1
  have hn := ngd_int hB
  have e2 := hV.1.1
  refine vc_T_addGood _ _ _ _ _ ⟨fun h => by omega, fun _ => ⟨by omega, ?_⟩⟩
  rw [e2, ← hn, Int.toNat_natCast]
  refine G_become hk hw hv (fun M1 hv1 hn1 => ?_)
  have q1 : M1 3 u 2 = X 32 := by rw [hn1 3 _ _ (by omega)]; exact e2
  rw [q1, ← hn, Int.toNat_natCast]
  refine ⟨by omega, fun M3 e3 M4 e4 => ?_⟩
  have q3 : M3 3 u 2 = X 32 := by rw [e3, pt_ne (by omega)]; exact q1
  rw [q3, w32_id (by omega) (by omega)] at e4
  have n4 : ∀ t j a, ¬ (t = 1 ∧ j = 8 * u + ngd X) → ¬ (t = 3 ∧ j = u ∧ a = 2) → M4 t j a = M t j a := fun t j a z1 z2 => by rw [e4, pt_ne (by omega), e3, pt_ne (by omega)]; exact hn1 t j a (by omega)
  have f : fra u M M4 := fun t i k q => n4 t i k (by omega) (by omega)
  refine hQ M4 ⟨?_, fun j hj => ?_, fun p hp => ?_, fra_pm f hV.2.2.2⟩ f
  · rw [addg_32 h8, addg_n (j := 41) (by omega) (by omega) (by omega) (by omega) (by omega), addg_n (j := 42) (by omega) (by omega) (by omega) (by omega) (by omega), addg_n (j := 43) (by omega) (by omega) (by omega) (by omega) (by omega), n4 3 u 3 (by omega) (by omega), n4 3 u 4 (by omega) (by omega), n4 3 u 5 (by omega) (by omega), n4 3 u 6 (by omega) (by omega), e4, pt_eq]
    exact ⟨rfl, hV.1.2⟩
  · rw [addg_ng hB h8] at hj
    by_cases hje : j = ngd X
    · subst hje
      unfold heft pays
      rw [addg_0, addg_1, addg_2, addg_3]
      obtain ⟨a, b, c, d, ee⟩ := hv1
      have m4 : ∀ a, a < 5 → M4 1 (8 * u + ngd X) a = M1 1 (8 * u + ngd X) a := fun a ha => by rw [e4, pt_ne (by omega), e3, pt_ne (by omega)]
      rw [m4 0 (by omega), m4 1 (by omega), m4 2 (by omega), m4 3 (by omega), m4 4 (by omega), e4, pt_ne (by omega), e3, pt_eq]
      exact ⟨a, b, c, d, ee, rfl⟩
    · unfold heft pays
      rw [addg_n (j := j) (by omega) (by omega) (by omega) (by omega) (by omega), addg_n (j := 8 + j) (by omega) (by omega) (by omega) (by omega) (by omega), addg_n (j := 16 + j) (by omega) (by omega) (by omega) (by omega) (by omega), addg_n (j := 24 + j) (by omega) (by omega) (by omega) (by omega) (by omega), n4 1 _ 0 (by omega) (by omega), n4 1 _ 1 (by omega) (by omega), n4 1 _ 2 (by omega) (by omega), n4 1 _ 3 (by omega) (by omega), n4 1 _ 4 (by omega) (by omega), n4 1 _ 5 (by omega) (by omega)]
      exact hV.2.1 j (by omega)
  · have ho := on_in hV.2.2.2 (p := p) (by omega)
    rw [fra_on f, addg_n (by omega) (by omega) (by omega) (by omega) (by omega), addg_n (by omega) (by omega) (by omega) (by omega) (by omega), n4 2 _ 0 (by omega) (by omega), n4 2 _ 1 (by omega) (by omega)]
    exact hV.2.2.1 p hp
end

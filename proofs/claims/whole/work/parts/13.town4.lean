/-! the class's weeks -/
section
variable {X : Nat → Int} {np p : Nat}
theorem pay1_n {j : Nat} (h : ¬ j = 37 + p) (h2 : ¬ j = 33 + p) (h3 : ¬ j = 58) : pay1 X p j = X j := by
  unfold pay1
  rw [if_neg h, if_neg (fun q => h2 q.1), if_neg (fun q => h3 q.1)]
theorem payN_lo (X : Nat → Int) : ∀ (k : Nat), k ≤ 4 → ∀ j, (j < 33 ∨ (41 ≤ j ∧ j < 58) ∨ 58 < j) → payN X k j = X j
  | 0, _, _, _ => rfl
  | k + 1, hk, j, h => by
    show pay1 (payN X k) k j = X j
    unfold pay1
    rw [if_neg (by omega), if_neg (by omega), if_neg (by omega)]
    exact payN_lo X k (by omega) j h
theorem payN_w (X : Nat → Int) : ∀ (k : Nat), k ≤ 4 → ∀ q, q < 4 → payN X k (37 + q) = (if q < k then min 999 (X (37 + q) + X (52 + q)) else X (37 + q)) ∧ payN X k (33 + q) = (if q < k ∧ X (48 + q) = X (33 + q) then max 1 (X (33 + q) - 1) else X (33 + q))
  | 0, _, q, _ => by rw [if_neg (by omega), if_neg (by omega)]; exact ⟨rfl, rfl⟩
  | k + 1, hk, q, hq => by
    obtain ⟨h1, h2⟩ := payN_w X k (by omega) q hq
    have e52 := payN_lo X k (by omega) (52 + k) (by omega)
    have e48 := payN_lo X k (by omega) (48 + k) (by omega)
    show pay1 (payN X k) k (37 + q) = _ ∧ pay1 (payN X k) k (33 + q) = _
    unfold pay1
    rw [e52, e48]
    by_cases hqk : q = k
    · subst hqk
      rw [if_neg (by omega)] at h1
      rw [if_neg (by omega)] at h2
      rw [if_pos rfl, h1, h2, if_pos (by omega), if_neg (by omega)]
      refine ⟨rfl, ?_⟩
      by_cases hz : X (48 + q) = X (33 + q)
      · rw [if_pos ⟨rfl, hz⟩, if_pos ⟨by omega, hz⟩]
      · rw [if_neg (fun z => hz z.2), if_neg (by omega), if_neg (fun z => hz z.2)]
    · have q1 := pay1_n (X := payN X k) (p := k) (j := 37 + q) (by omega) (by omega) (by omega)
      have q2 := pay1_n (X := payN X k) (p := k) (j := 33 + q) (by omega) (by omega) (by omega)
      unfold pay1 at q1 q2
      rw [e52, e48] at q1 q2
      rw [q1, q2, h1, h2]
      constructor
      · by_cases hl : q < k
        · rw [if_pos hl, if_pos (by omega)]
        · rw [if_neg hl, if_neg (by omega)]
      · by_cases hl : q < k ∧ X (48 + q) = X (33 + q)
        · rw [if_pos hl, if_pos (by omega)]
        · rw [if_neg hl, if_neg (by omega)]
theorem payN_PB (hB : PB X np) (hA : AI X np) : PB (payN X np) np := by
  have h4 := hB.2.1
  have h8 := ngd_le hB
  have lo := payN_lo X np h4
  have e : ngd (payN X np) = ngd X := by unfold ngd; rw [lo 32 (by omega)]
  refine ⟨by rw [lo 32 (by omega)]; exact hB.1, h4, fun g hg => ?_, fun p hp => ?_, by rw [lo 41 (by omega)]; exact hB.2.2.2.2.1, by rw [lo 42 (by omega)]; exact hB.2.2.2.2.2⟩
  · rw [e] at hg
    rw [lo g (by omega), lo (8 + g) (by omega), lo (16 + g) (by omega), lo (24 + g) (by omega)]
    exact hB.2.2.1 g hg
  · obtain ⟨h1, h2⟩ := payN_w X np h4 p (by omega)
    have hb := hB.2.2.2.1 p hp
    have hy := pay_b hB hA hp
    rw [h1, h2, if_pos hp]
    refine ⟨?_, by omega⟩
    split <;> omega
theorem brg_n (m : Int) (X : Nat → Int) : ∀ k : Nat, 0 ≤ (brg m X k).1 ∧ (brg m X k).1 ≤ k
  | 0 => by simp [brg]
  | k + 1 => by
    have ih := brg_n m X k
    unfold brg
    split
    · simp only; omega
    · omega
theorem brg_lo (m : Int) (X : Nat → Int) : ∀ (k : Nat) (j : Nat), (j < 24 ∨ 24 + k ≤ j) → (brg m X k).2 j = X j
  | 0, _, _ => rfl
  | k + 1, j, h => by
    have ih := brg_lo m X k j (by omega)
    unfold brg
    split
    · simp only
      rw [uf_n (by omega)]
      exact ih
    · exact ih
theorem brg_01 (m : Int) (X : Nat → Int) : ∀ (k : Nat) (j : Nat), j < k → (X (24 + j) = 0 ∨ X (24 + j) = 1) → ((brg m X k).2 (24 + j) = 0 ∨ (brg m X k).2 (24 + j) = 1)
  | 0, j, h, _ => absurd h (Nat.not_lt_zero j)
  | k + 1, j, h, h2 => by
    unfold brg
    by_cases hj : j = k
    · subst hj
      split
      · simp only; rw [uf_s]; exact Or.inl rfl
      · rw [brg_lo m X j (24 + j) (by omega)]; exact h2
    · have ih := brg_01 m X k j (by omega) h2
      split
      · simp only; rw [uf_n (by omega)]; exact ih
      · exact ih
theorem brg_PB {m : Int} (hB : PB X np) {k : Nat} (hk : k ≤ ngd X) : PB (brg m X k).2 np := by
  have h4 := hB.2.1
  have h8 := ngd_le hB
  have lo := brg_lo m X k
  have e : ngd (brg m X k).2 = ngd X := by unfold ngd; rw [lo 32 (by omega)]
  refine ⟨by rw [lo 32 (by omega)]; exact hB.1, h4, fun g hg => ?_, fun p hp => ?_, by rw [lo 41 (by omega)]; exact hB.2.2.2.2.1, by rw [lo 42 (by omega)]; exact hB.2.2.2.2.2⟩
  · rw [e] at hg
    obtain ⟨a, b, c, d⟩ := hB.2.2.1 g hg
    rw [lo g (by omega), lo (8 + g) (by omega), lo (16 + g) (by omega)]
    refine ⟨a, b, c, ?_⟩
    by_cases hgk : g < k
    · exact brg_01 m X k g hgk d
    · rw [lo (24 + g) (by omega)]; exact d
  · rw [lo (33 + p) (by omega), lo (37 + p) (by omega)]
    exact hB.2.2.2.1 p hp
theorem wk_PB (hB : PB X np) (r : Nat) (ill : Int) : PB (wk np r ill X) np := by
  obtain ⟨h1, h2, h3, -⟩ := rnds_ok (ill := ill) (clr_PB hB) (clr_AI hB) r
  have h4 := payN_PB h1 h2
  have e : ngd (payN (rnds np ill (clr X) r) np) = ngd X := by
    rw [← clr_ngd X, ← h3]
    unfold ngd
    rw [payN_lo _ np hB.2.1 32 (by omega)]
  have h5 := brg_PB (m := X 42 + 2) h4 (k := ngd X) (by omega)
  exact PB_c h5 (fun j hj => uf_n (by omega))
theorem hoot_b (hB : PB X np) : hoot X ≤ 6 ∧ ((hoot X : Nat) : Int) = X 41 + 2 := by have := hB.2.2.2.2.1; unfold hoot; omega
theorem wks_PB (hB : PB X np) : ∀ n : Nat, PB (wks np X n) np
  | 0 => hB
  | n + 1 => wk_PB (wks_PB hB n) _ _
end

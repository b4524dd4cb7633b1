/-! weeks, on a page -/
def AI (X : Nat → Int) (np : Nat) : Prop := ∀ p, p < np → (0 ≤ X (48 + p) ∧ X (48 + p) ≤ X (33 + p)) ∧ (0 ≤ X (44 + p) ∧ X (44 + p) < 256) ∧ X (52 + p) = smB (pays X) (X (44 + p)) (ngd X) ∧ ∀ g : Nat, g < ngd X → hb (X (44 + p)) g → X (24 + g) = 1
theorem bst_c (X : Nat → Int) (fr : Int) : ∀ k : Nat, ((bst X fr k).1 = -1 ∧ (bst X fr k).2 = -1) ∨ ∃ g : Nat, g < k ∧ (bst X fr k).1 = g ∧ (bst X fr k).2 = pays X g ∧ X (24 + g) = 0 ∧ heft X g ≤ fr
  | 0 => Or.inl ⟨rfl, rfl⟩
  | k + 1 => by
    unfold bst
    split
    · rename_i h
      exact Or.inr ⟨k, by omega, rfl, rfl, h.1, h.2.1⟩
    · rcases bst_c X fr k with h | ⟨g, h1, h2⟩
      · exact Or.inl h
      · exact Or.inr ⟨g, by omega, h2⟩
theorem smB_c {f f' : Nat → Int} {x : Int} {n : Nat} (h : ∀ g, g < n → f g = f' g) : smB f x n = smB f' x n := sm_c n (fun k hk => by rw [h k hk])
theorem smB_add {f : Nat → Int} {x : Int} {g : Nat} (h0 : 0 ≤ x) (h1 : x < 256) (hg : g < 8) (hn : ¬ hb x g) : ∀ n : Nat, n ≤ 8 → smB f (or32 x (shl32 1 g)) n = smB f x n + (if g < n then f g else 0)
  | 0, _ => by simp [smB, sm]
  | n + 1, h => by
    have ih := smB_add (f := f) h0 h1 hg hn n (by omega)
    unfold smB at ih ⊢
    simp only [sm]
    rw [ih]
    have e := hb_or (x := x) (g := g) (k := n) h0 (by omega) (by omega) (by omega)
    by_cases hgn : n = g
    · subst hgn
      rw [if_pos (e.mpr (Or.inr rfl)), if_neg hn, if_neg (by omega), if_pos (by omega)]
      try omega
    · by_cases hx : hb x n
      · rw [if_pos (e.mpr (Or.inl hx)), if_pos hx]
        by_cases h2 : g < n
        · rw [if_pos h2, if_pos (by omega)]; omega
        · rw [if_neg h2, if_neg (by omega)]; omega
      · rw [if_neg (fun q => (e.mp q).elim hx hgn), if_neg hx]
        by_cases h2 : g < n
        · rw [if_pos h2, if_pos (by omega)]; omega
        · rw [if_neg h2, if_neg (by omega)]; try omega
section
variable {X : Nat → Int} {p g np : Nat} {py : Int}
theorem take_lo {j : Nat} (h : j < 24 ∨ (32 ≤ j ∧ j < 44) ∨ 58 ≤ j) (hp : p < 4) (hg : g < 8) : take X p g py j = X j := by
  unfold take
  rw [if_neg (by omega), if_neg (by omega), if_neg (by omega), if_neg (by omega), if_neg (by omega), if_neg (by omega)]
theorem take_24 {j : Nat} (hj : j < 8) (hp : p < 4) (hg : g < 8) : take X p g py (24 + j) = if j = g then 1 else X (24 + j) := by
  unfold take
  by_cases h : j = g
  · rw [if_pos (by omega), if_pos h]
  · rw [if_neg (by omega), if_neg (by omega), if_neg (by omega), if_neg (by omega), if_neg (by omega), if_neg (by omega), if_neg h]
theorem take_44 {q : Nat} (hq : q < 4) (hp : p < 4) (hg : g < 8) : take X p g py (44 + q) = if q = p then or32 (X (44 + p)) (shl32 1 g) else X (44 + q) := by
  unfold take
  by_cases h : q = p
  · rw [if_neg (by omega), if_pos (by omega), if_pos h]
  · rw [if_neg (by omega), if_neg (by omega), if_neg (by omega), if_neg (by omega), if_neg (by omega), if_neg (by omega), if_neg h]
theorem take_48 {q : Nat} (hq : q < 4) (hp : p < 4) (hg : g < 8) : take X p g py (48 + q) = if q = p then X (48 + p) + heft X g else X (48 + q) := by
  unfold take
  by_cases h : q = p
  · rw [if_neg (by omega), if_neg (by omega), if_pos (by omega), if_pos h]
  · rw [if_neg (by omega), if_neg (by omega), if_neg (by omega), if_neg (by omega), if_neg (by omega), if_neg (by omega), if_neg h]
theorem take_52 {q : Nat} (hq : q < 4) (hp : p < 4) (hg : g < 8) : take X p g py (52 + q) = if q = p then X (52 + p) + py else X (52 + q) := by
  unfold take
  by_cases h : q = p
  · rw [if_neg (by omega), if_neg (by omega), if_neg (by omega), if_pos (by omega), if_pos h]
  · rw [if_neg (by omega), if_neg (by omega), if_neg (by omega), if_neg (by omega), if_neg (by omega), if_neg (by omega), if_neg h]
theorem take_56 (hp : p < 4) (hg : g < 8) : take X p g py 56 = or32 (X 56) (shl32 1 g) := by
  unfold take
  rw [if_neg (by omega), if_neg (by omega), if_neg (by omega), if_neg (by omega), if_pos rfl]
theorem take_57 (hp : p < 4) (hg : g < 8) : take X p g py 57 = w32 (X 57 + 1) := by
  unfold take
  rw [if_neg (by omega), if_neg (by omega), if_neg (by omega), if_neg (by omega), if_neg (by omega), if_pos rfl]
theorem take_hp (hp : p < 4) (hg : g < 8) {j : Nat} (hj : j < 8) : heft (take X p g py) j = heft X j ∧ pays (take X p g py) j = pays X j := by
  unfold heft pays
  rw [take_lo (by omega) hp hg, take_lo (by omega) hp hg, take_lo (by omega) hp hg]
  exact ⟨rfl, rfl⟩
theorem take_ngd (hp : p < 4) (hg : g < 8) : ngd (take X p g py) = ngd X := by
  unfold ngd
  rw [take_lo (by omega) hp hg]
theorem take_PB (hB : PB X np) (hp : p < np) (hg : g < 8) : PB (take X p g py) np := by
  have h4 := hB.2.1
  have h8 := ngd_le hB
  have hp4 : p < 4 := by omega
  refine ⟨?_, h4, fun j hj => ?_, fun q hq => ?_, ?_, ?_⟩
  · rw [take_lo (by omega) hp4 hg]; exact hB.1
  · rw [take_ngd hp4 hg] at hj
    obtain ⟨a, b, c, d⟩ := hB.2.2.1 j hj
    rw [take_lo (by omega) hp4 hg, take_lo (by omega) hp4 hg, take_lo (by omega) hp4 hg, take_24 (by omega) hp4 hg]
    refine ⟨a, b, c, ?_⟩
    split
    · exact Or.inr rfl
    · exact d
  · rw [take_lo (by omega) hp4 hg, take_lo (by omega) hp4 hg]; exact hB.2.2.2.1 q hq
  · rw [take_lo (by omega) hp4 hg]; exact hB.2.2.2.2.1
  · rw [take_lo (by omega) hp4 hg]; exact hB.2.2.2.2.2
theorem take_AI (hB : PB X np) (hA : AI X np) (hp : p < np) (hg : g < ngd X) (h0 : X (24 + g) = 0) (hf : heft X g ≤ X (33 + p) - X (48 + p)) (hy : py = pays X g) : AI (take X p g py) np := by
  have h4 := hB.2.1
  have h8 := ngd_le hB
  have hp4 : p < 4 := by omega
  have hg8 : g < 8 := by omega
  have hh := heft_b hB hg
  intro q hq
  obtain ⟨a, b, c, d⟩ := hA q hq
  rw [take_lo (j := 33 + q) (by omega) hp4 hg8, take_44 (by omega) hp4 hg8, take_48 (by omega) hp4 hg8, take_52 (by omega) hp4 hg8, take_ngd hp4 hg8]
  rw [smB_c (f' := pays X) (fun j hj => (take_hp hp4 hg8 (by omega)).2)]
  by_cases hqp : q = p
  · subst hqp
    rw [if_pos rfl, if_pos rfl, if_pos rfl]
    have hnb : ¬ hb (X (44 + q)) g := fun z => by have := d g hg z; omega
    refine ⟨by omega, or_small (n := 8) b.1 b.2 hg8 (by omega), ?_, fun j hj hbj => ?_⟩
    · rw [smB_add b.1 b.2 hg8 hnb _ h8, if_pos hg, ← c, hy]
    · rw [take_24 (by omega) hp4 hg8]
      split
      · rfl
      · rename_i hjg
        rcases (hb_or b.1 (by omega) (by omega) (by omega)).mp hbj with z | z
        · exact d j hj z
        · exact absurd z hjg
  · rw [if_neg hqp, if_neg hqp, if_neg hqp]
    refine ⟨a, b, c, fun j hj hbj => ?_⟩
    rw [take_24 (by omega) hp4 hg8]
    split
    · rfl
    · exact d j hj hbj
/-- a turn: nothing, or a good -/
theorem turn_c (X : Nat → Int) (p : Nat) : turn X p = X ∧ (bst X (X (33 + p) - X (48 + p)) (ngd X)).1 = -1 ∨ ∃ g : Nat, g < ngd X ∧ turn X p = take X p g (pays X g) ∧ (bst X (X (33 + p) - X (48 + p)) (ngd X)).1 = g ∧ (bst X (X (33 + p) - X (48 + p)) (ngd X)).2 = pays X g ∧ X (24 + g) = 0 ∧ heft X g ≤ X (33 + p) - X (48 + p) := by
  unfold turn
  rcases bst_c X (X (33 + p) - X (48 + p)) (ngd X) with h | ⟨g, h1, h2, h3, h4, h5⟩
  · left
    rw [if_pos (by omega)]
    exact ⟨rfl, h.1⟩
  · right
    refine ⟨g, h1, ?_, h2, h3, h4, h5⟩
    rw [if_neg (by omega), h2, h3, Int.toNat_natCast]
theorem turn_PB (hB : PB X np) (hp : p < np) : PB (turn X p) np := by
  have h8 := ngd_le hB
  rcases turn_c X p with h | ⟨g, h1, h2, -⟩
  · rw [h.1]; exact hB
  · rw [h2]; exact take_PB hB hp (by omega)
theorem turn_AI (hB : PB X np) (hA : AI X np) (hp : p < np) : AI (turn X p) np := by
  rcases turn_c X p with h | ⟨g, h1, h2, -, -, h3, h4⟩
  · rw [h.1]; exact hA
  · rw [h2]; exact take_AI hB hA hp h1 h3 h4 rfl
theorem turn_ngd (hB : PB X np) (hp : p < np) : ngd (turn X p) = ngd X := by
  have h8 := ngd_le hB
  have h4 := hB.2.1
  rcases turn_c X p with h | ⟨g, h1, h2, -⟩
  · rw [h.1]
  · rw [h2]; exact take_ngd (by omega) (by omega)
theorem turn_lo (hB : PB X np) (hp : p < np) {j : Nat} (h : j < 24 ∨ (32 ≤ j ∧ j < 44) ∨ 58 ≤ j) : turn X p j = X j := by
  have h8 := ngd_le hB
  have h4 := hB.2.1
  rcases turn_c X p with h1 | ⟨g, h1, h2, -⟩
  · rw [h1.1]
  · rw [h2]; exact take_lo h (by omega) (by omega)
end
theorem rnd_ok {X : Nat → Int} {np : Nat} {ill : Int} (hB : PB X np) (hA : AI X np) : ∀ p : Nat, p ≤ np → PB (rnd ill X p) np ∧ AI (rnd ill X p) np ∧ ngd (rnd ill X p) = ngd X ∧ ∀ j, (j < 24 ∨ (32 ≤ j ∧ j < 44) ∨ 58 ≤ j) → rnd ill X p j = X j
  | 0, _ => ⟨hB, hA, rfl, fun _ _ => rfl⟩
  | p + 1, h => by
    obtain ⟨h1, h2, h3, h4⟩ := rnd_ok (ill := ill) hB hA p (by omega)
    unfold rnd
    split
    · exact ⟨h1, h2, h3, h4⟩
    · exact ⟨turn_PB h1 (by omega), turn_AI h1 h2 (by omega), (turn_ngd h1 (by omega)).trans h3, fun j hj => (turn_lo h1 (by omega) hj).trans (h4 j hj)⟩
theorem rnds_ok {X : Nat → Int} {np : Nat} {ill : Int} (hB : PB X np) (hA : AI X np) : ∀ r : Nat, PB (rnds np ill X r) np ∧ AI (rnds np ill X r) np ∧ ngd (rnds np ill X r) = ngd X ∧ ∀ j, (j < 24 ∨ (32 ≤ j ∧ j < 44) ∨ 58 ≤ j) → rnds np ill X r j = X j
  | 0 => ⟨hB, hA, rfl, fun _ _ => rfl⟩
  | r + 1 => by
    obtain ⟨h1, h2, h3, h4⟩ := rnds_ok (ill := ill) hB hA r
    obtain ⟨g1, g2, g3, g4⟩ := rnd_ok (ill := ill) h1 h2 np (Nat.le_refl _)
    exact ⟨g1, g2, g3.trans h3, fun j hj => (g4 j hj).trans (h4 j hj)⟩
/-- a round in which nobody takes anything: later ones are as it -/
theorem rnds_fix {X : Nat → Int} {np : Nat} {ill : Int} {r : Nat} (h : rnd ill (rnds np ill X r) np = rnds np ill X r) : ∀ k : Nat, rnds np ill X (r + k) = rnds np ill X r
  | 0 => rfl
  | k + 1 => by
    show rnd ill (rnds np ill X (r + k)) np = _
    rw [rnds_fix h k]
    exact h
theorem clr_lo {X : Nat → Int} {j : Nat} (h : j < 44 ∨ 57 ≤ j) : clr X j = X j := if_neg (by omega)
theorem clr_hi {X : Nat → Int} {j : Nat} (h : 44 ≤ j ∧ j < 57) : clr X j = 0 := if_pos h
theorem PB_c {X Y : Nat → Int} {np : Nat} (hB : PB X np) (h : ∀ j, j < 43 → Y j = X j) : PB Y np := by
  have h4 := hB.2.1
  have h8 := ngd_le hB
  have e : ngd Y = ngd X := by unfold ngd; rw [h 32 (by omega)]
  refine ⟨by rw [h 32 (by omega)]; exact hB.1, h4, fun g hg => ?_, fun p hp => ?_, by rw [h 41 (by omega)]; exact hB.2.2.2.2.1, by rw [h 42 (by omega)]; exact hB.2.2.2.2.2⟩
  · rw [e] at hg
    rw [h g (by omega), h (8 + g) (by omega), h (16 + g) (by omega), h (24 + g) (by omega)]
    exact hB.2.2.1 g hg
  · rw [h (33 + p) (by omega), h (37 + p) (by omega)]
    exact hB.2.2.2.1 p hp
theorem clr_PB {X : Nat → Int} {np : Nat} (hB : PB X np) : PB (clr X) np := PB_c hB (fun j hj => clr_lo (by omega))
theorem clr_ngd (X : Nat → Int) : ngd (clr X) = ngd X := by unfold ngd; rw [clr_lo (by omega)]
theorem smB_0 (f : Nat → Int) : ∀ n : Nat, n ≤ 31 → smB f 0 n = 0
  | 0, _ => rfl
  | n + 1, h => by
    have ih := smB_0 f n (by omega)
    unfold smB at ih ⊢
    simp only [sm]
    rw [ih, if_neg (hb_0 (by omega))]
    rfl
theorem clr_AI {X : Nat → Int} {np : Nat} (hB : PB X np) : AI (clr X) np := by
  have h4 := hB.2.1
  have h8 := ngd_le hB
  intro p hp
  have := (hB.2.2.2.1 p hp).1
  rw [clr_hi (j := 48 + p) (by omega), clr_hi (j := 44 + p) (by omega), clr_hi (j := 52 + p) (by omega), clr_lo (j := 33 + p) (by omega), clr_ngd]
  refine ⟨by omega, by omega, (smB_0 _ _ (by omega)).symm, fun g hg h => absurd h (hb_0 (by omega))⟩
theorem pay_b {X : Nat → Int} {np p : Nat} (hB : PB X np) (hA : AI X np) (hp : p < np) : 0 ≤ X (52 + p) ∧ X (52 + p) ≤ 144 := by
  have h8 := ngd_le hB
  rw [(hA p hp).2.2.1]
  have := sm_b (f := fun g => if hb (X (44 + p)) g then pays X g else 0) (c := 18) (ngd X) (fun k hk => by have := pays_b hB hk; split <;> omega)
  unfold smB
  omega

/-! sums, and the lowest terms -/
theorem sm_0 {f : Nat → Int} : ∀ n : Nat, (∀ k, k < n → f k = 0) → sm f n = 0
  | 0, _ => rfl
  | n + 1, h => by simp only [sm]; rw [sm_0 n (fun k hk => h k (by omega)), h n (by omega)]; rfl
theorem sm_add {f g : Nat → Int} : ∀ n : Nat, sm (fun i => f i + g i) n = sm f n + sm g n
  | 0 => rfl
  | n + 1 => by simp only [sm]; rw [sm_add n]; omega
theorem sm_mul {f : Nat → Int} (c : Int) : ∀ n : Nat, sm (fun i => c * f i) n = c * sm f n
  | 0 => by simp [sm]
  | n + 1 => by simp only [sm]; rw [sm_mul c n, Int.mul_add]
theorem sm_cat {f : Nat → Int} (m : Nat) : ∀ n : Nat, sm f (m + n) = sm f m + sm (fun i => f (m + i)) n
  | 0 => by simp [sm]
  | n + 1 => by
    show sm f ((m + n) + 1) = _
    simp only [sm]
    rw [sm_cat m n]
    omega
theorem sm_flat {f : Nat → Int} (m : Nat) : ∀ n : Nat, sm f (m * n) = sm (fun b => sm (fun a => f (m * b + a)) m) n
  | 0 => rfl
  | n + 1 => by
    rw [Nat.mul_succ, sm_cat, sm_flat m n]
    rfl
theorem sm_swap {f : Nat → Nat → Int} (m : Nat) : ∀ n : Nat, sm (fun b => sm (fun a => f a b) m) n = sm (fun a => sm (fun b => f a b) n) m
  | 0 => (sm_0 (f := fun a => sm (fun b => f a b) 0) m (fun _ _ => rfl)).symm
  | n + 1 => by
    simp only [sm]
    rw [sm_swap m n, ← sm_add]
/-- Euclid, so many steps -/
def eu : Nat → Nat → Nat → Nat
  | 0, a, _ => a
  | n + 1, a, b => if b = 0 then a else eu n b (a % b)
theorem eu_gcd : ∀ (k n a b : Nat), 2 * k + 1 ≤ n → b < 2 ^ k → eu n a b = Nat.gcd a b
  | 0, n, a, b, hn, hb0 => by
    obtain ⟨m, rfl⟩ : ∃ m, n = m + 1 := ⟨n - 1, by omega⟩
    have : b = 0 := by omega
    subst this
    show (if (0 : Nat) = 0 then a else _) = _
    rw [if_pos rfl, Nat.gcd_zero_right]
  | k + 1, n, a, b, hn, hb0 => by
    obtain ⟨m, rfl⟩ : ∃ m, n = (m + 1) + 1 := ⟨n - 2, by omega⟩
    by_cases h : b = 0
    · subst h
      show (if (0 : Nat) = 0 then a else _) = _
      rw [if_pos rfl, Nat.gcd_zero_right]
    · have e1 : eu ((m + 1) + 1) a b = eu (m + 1) b (a % b) := if_neg h
      have g1 : Nat.gcd a b = Nat.gcd b (a % b) := by rw [Nat.gcd_comm a b, Nat.gcd_rec b a, Nat.gcd_comm]
      rw [e1, g1]
      have hr : a % b < b := Nat.mod_lt _ (by omega)
      by_cases h2 : a % b = 0
      · rw [h2]
        show (if (0 : Nat) = 0 then b else _) = _
        rw [if_pos rfl, Nat.gcd_zero_right]
      · have e2 : eu (m + 1) b (a % b) = eu m (a % b) (b % (a % b)) := if_neg h2
        have g2 : Nat.gcd b (a % b) = Nat.gcd (a % b) (b % (a % b)) := by rw [Nat.gcd_comm b (a % b), Nat.gcd_rec (a % b) b, Nat.gcd_comm]
        rw [e2, g2]
        refine eu_gcd k m _ _ (by omega) ?_
        have hlt : b % (a % b) < a % b := Nat.mod_lt _ (by omega)
        have hd := Nat.mod_add_div b (a % b)
        have hq : 1 ≤ b / (a % b) := Nat.div_pos (by omega) (by omega)
        have hm : a % b ≤ (a % b) * (b / (a % b)) := Nat.le_mul_of_pos_right _ hq
        have hp : 2 ^ (k + 1) = 2 * 2 ^ k := by rw [Nat.pow_succ]; omega
        omega
theorem cmp_0 {x : Int} : cmpL x 0 = 0 ↔ x = 0 := by
  unfold cmpL
  constructor
  · intro h
    by_cases q : x = 0
    · exact q
    · rw [if_neg q] at h
      split at h <;> omega
  · intro h
    rw [if_pos h]
def frc (u d : Nat) (w : Int) : Int := if w = 0 then ((u / Nat.gcd u d : Nat) : Int) else ((d / Nat.gcd u d : Nat) : Int)
section
variable {E : EE} {Q : Int → JM → Prop} {M : JM}
theorem tm_nat {a b : Nat} (ha : a < 2 ^ 62) : w64 (Int.tmod (a : Int) (b : Int)) = ((a % b : Nat) : Int) := by
  have h : a % b ≤ a := Nat.mod_le _ _
  rw [← Int.ofNat_tmod, w64_id (by omega) (by omega)]
theorem td_nat {a b : Nat} (ha : a < 2 ^ 62) : w64 (Int.tdiv (a : Int) (b : Int)) = ((a / b : Nat) : Int) := by
  have h : a / b ≤ a := Nat.div_le_self _ _
  rw [← Int.ofNat_tdiv]
  generalize a / b = c at h
  rw [w64_id (by omega) (by omega)]
theorem H_commonDivisor {a b : Nat} (ha : a < 2 ^ 62) (hb0 : b < 2 ^ 49) (hQ : Q ((Nat.gcd a b : Nat) : Int) M) : JC E mm_H_commonDivisor [vL (a : Int), vL (b : Int)] M Q := by
  refine vc_H_commonDivisor _ _ _ ?_
  rw [← eu_gcd 49 100 a b (by omega) hb0] at hQ
  have loop : ∀ (n i a b : Nat), i + n = 100 → a < 2 ^ 62 → b < 2 ^ 62 → Q ((eu n a b : Nat) : Int) M → JG E mm_H_commonDivisor Q 9 [(4, vL (a : Int)), (6, vL (b : Int)), (8, vI (i : Int))] [] M := by
    intro n
    induction n with
    | zero =>
      intro i a b hi ha hb1 q
      exact vc_H_commonDivisor_9 _ _ _ _ ⟨fun _ => q, fun z => by omega⟩
    | succ n ih =>
      intro i a b hi ha hb1 q
      refine vc_H_commonDivisor_9 _ _ _ _ ⟨fun z => by omega, fun _ => ⟨fun z => ?_, fun z => ?_⟩⟩
      · have e : b = 0 := by have := cmp_0.mp z; omega
        rw [show eu (n + 1) a b = a from if_pos e] at q
        exact q
      · have e : ¬ b = 0 := fun y => z (cmp_0.mpr (by omega))
        rw [show eu (n + 1) a b = eu n b (a % b) from if_neg e] at q
        refine ⟨by omega, fun a1 e1 a2 e2 => ?_⟩
        have hm : a % b ≤ a := Nat.mod_le _ _
        rw [e1, e2, tm_nat ha, w32_s (by omega)]
        exact ih (i + 1) b (a % b) (by omega) hb1 (by omega) q
  exact loop 100 0 a b (by omega) ha (by omega) hQ
theorem H_partOfFraction {u d : Nat} {w : Int} (hu : u < 2 ^ 62) (hd : 0 < d) (hd2 : d < 2 ^ 49) (hQ : Q (frc u d w) M) : JC E mm_H_partOfFraction [vL (u : Int), vL (d : Int), vI w] M Q := by
  have hg : 0 < Nat.gcd u d := Nat.gcd_pos_of_pos_right _ hd
  refine vc_H_partOfFraction _ _ _ _ (H_commonDivisor hu hd2 ⟨fun z => ⟨fun y => ⟨by omega, ?_⟩, fun y => ⟨by omega, ?_⟩⟩, fun z => ?_⟩)
  · unfold frc at hQ
    rw [if_neg y] at hQ
    rw [td_nat (by omega)]; exact hQ
  · unfold frc at hQ
    rw [if_pos y] at hQ
    rw [td_nat hu]; exact hQ
  · have := cmp_0.mp z; omega
theorem M_lowest {u d : Nat} {w : Int} (hu : u < 2 ^ 62) (hd : 0 < d) (hd2 : d < 2 ^ 49) (hQ : Q (frc u d w) M) : JC E mm_M_lowest [vL (u : Int), vL (d : Int), vI w] M Q := by
  have hg : 0 < Nat.gcd u d := Nat.gcd_pos_of_pos_right _ hd
  refine vc_M_lowest _ _ _ _ ?_
  have loop : ∀ (b a : Nat), a < 2 ^ 62 → b < 2 ^ 62 → Nat.gcd a b = Nat.gcd u d → JG E mm_M_lowest Q 6 [(0, vL (u : Int)), (2, vL (d : Int)), (4, vI w), (5, vL (a : Int)), (7, vL (b : Int))] [] M := by
    intro b
    induction b using Nat.strongRecOn with
    | ind b ih =>
      intro a ha hb1 e
      refine vc_M_lowest_6 _ _ _ _ _ _ ⟨fun z => ?_, fun z => ?_⟩
      · have eb : b = 0 := by have := cmp_0.mp z; omega
        rw [eb, Nat.gcd_zero_right] at e
        unfold frc at hQ
        rw [e]
        refine ⟨fun y => ⟨by omega, ?_⟩, fun y => ⟨by omega, ?_⟩⟩
        · rw [if_neg y] at hQ
          rw [td_nat (by omega)]; exact hQ
        · rw [if_pos y] at hQ
          rw [td_nat hu]; exact hQ
      · have eb : ¬ b = 0 := fun y => z (cmp_0.mpr (by omega))
        refine ⟨by omega, fun a1 e1 => ?_⟩
        have hm : a % b ≤ a := Nat.mod_le _ _
        rw [e1, tm_nat ha]
        refine ih (a % b) (Nat.mod_lt _ (by omega)) b hb1 (by omega) ?_
        rw [← e, Nat.gcd_comm a b, Nat.gcd_rec b a, Nat.gcd_comm]
  exact loop d u hu (by omega) rfl
end
/-! the ways of illness -/
def waysI (v : Int) (ill : Nat) : Nat → Int
  | 0 => 1
  | p + 1 => waysI v ill p * (if hb (ill : Int) (p : Int) then v else 10 - v)
def pw10 : Nat → Int
  | 0 => 1
  | n + 1 => pw10 n * 10
theorem pw10_b : ∀ n : Nat, n ≤ 8 → 1 ≤ pw10 n ∧ pw10 n ≤ 100000000 := by decide
theorem waysI_b {v : Int} {ill : Nat} (hv : 0 ≤ v ∧ v ≤ 10) : ∀ n : Nat, 0 ≤ waysI v ill n ∧ waysI v ill n ≤ pw10 n
  | 0 => ⟨by show (0 : Int) ≤ 1; decide, Int.le_refl _⟩
  | n + 1 => by
    have ih := waysI_b (v := v) (ill := ill) hv n
    have h : ∀ x : Int, 0 ≤ x ∧ x ≤ 10 → 0 ≤ waysI v ill n * x ∧ waysI v ill n * x ≤ pw10 n * 10 := fun x hx => ⟨Int.mul_nonneg ih.1 hx.1, Int.le_trans (Int.mul_le_mul_of_nonneg_right ih.2 hx.1) (Int.mul_le_mul_of_nonneg_left hx.2 (by omega))⟩
    show 0 ≤ waysI v ill n * _ ∧ waysI v ill n * _ ≤ pw10 n * 10
    exact h _ (by split <;> omega)
theorem hb_add {s a j : Nat} (hs : s < 2 ^ 31) (h : a + j < 32) : hb (s : Int) ((a + j : Nat) : Int) ↔ hb ((s / 2 ^ a : Nat) : Int) (j : Int) := by
  have h2 : s / 2 ^ a ≤ s := Nat.div_le_self _ _
  rw [hb_nat hs h, hb_nat (by omega) (by omega), Nat.testBit_div_two_pow, Nat.add_comm]
theorem hb_mod {s a j : Nat} (hs : s < 2 ^ 31) (hj : j < a) (ha : a < 32) : hb (s : Int) (j : Int) ↔ hb ((s % 2 ^ a : Nat) : Int) (j : Int) := by
  have h2 : s % 2 ^ a ≤ s := Nat.mod_le _ _
  rw [hb_nat hs (by omega), hb_nat (by omega) (by omega), Nat.testBit_mod_two_pow]
  simp [hj]
theorem waysI_m {v : Int} {s a : Nat} (hs : s < 2 ^ 31) (ha : a < 32) : ∀ n : Nat, n ≤ a → waysI v s n = waysI v (s % 2 ^ a) n
  | 0, _ => rfl
  | n + 1, h => by
    unfold waysI
    rw [waysI_m hs ha n (by omega)]
    by_cases q : hb (s : Int) (n : Int)
    · rw [if_pos q, if_pos ((hb_mod hs (by omega) ha).mp q)]
    · rw [if_neg q, if_neg (fun z => q ((hb_mod hs (by omega) ha).mpr z))]
theorem waysI_a {v : Int} {s a : Nat} (hs : s < 2 ^ 31) : ∀ n : Nat, a + n < 32 → waysI v s (a + n) = waysI v s a * waysI v (s / 2 ^ a) n
  | 0, _ => by simp [waysI]
  | n + 1, h => by
    show waysI v s ((a + n) + 1) = _
    rw [waysI, waysI_a hs n (by omega), waysI]
    by_cases q : hb (s : Int) ((a + n : Nat) : Int)
    · rw [if_pos q, if_pos ((hb_add hs (by omega)).mp q), Int.mul_assoc]
    · rw [if_neg q, if_neg (fun z => q ((hb_add hs (by omega)).mpr z)), Int.mul_assoc]

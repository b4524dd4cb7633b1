/-! bits of small whole numbers -/
theorem i32_nat (n : Nat) : i32 (n : Int) = nI n := by
  apply Int32.toBitVec_inj.1
  show BitVec.ofInt 32 (n : Int) = BitVec.ofNat 32 n
  simp
theorem bi_or (a b : Nat) : nI a ||| nI b = nI (a ||| b) := by
  apply Int32.toBitVec_inj.1
  show BitVec.ofNat 32 a ||| BitVec.ofNat 32 b = BitVec.ofNat 32 (a ||| b)
  apply BitVec.eq_of_getLsbD_eq
  intro i hi
  simp [hi]
theorem bi_and (a b : Nat) : nI a &&& nI b = nI (a &&& b) := by
  apply Int32.toBitVec_inj.1
  show BitVec.ofNat 32 a &&& BitVec.ofNat 32 b = BitVec.ofNat 32 (a &&& b)
  apply BitVec.eq_of_getLsbD_eq
  intro i hi
  simp [hi]
theorem bi_sl : ∀ n, n < 32 → ((nI n &&& 31).toBitVec.smod 32).toNat = n := by decide +kernel
theorem bi_one : ∀ l, l < 31 → ((1 : Int32) <<< (nI l &&& 31)) = nI (2 ^ l) := by decide +kernel
theorem shl1 {g : Nat} (h : g < 31) : shl32 1 (g : Int) = ((2 ^ g : Nat) : Int) := by
  unfold shl32
  rw [i32_nat g, show i32 1 = (1 : Int32) from rfl, bi_one g h]
  exact nI_toInt (Nat.pow_lt_pow_right (by decide) h)
theorem or_nat {a b : Nat} (ha : a < 2 ^ 31) (hb : b < 2 ^ 31) : or32 (a : Int) (b : Int) = ((a ||| b : Nat) : Int) := by
  unfold or32
  rw [i32_nat, i32_nat, bi_or]
  exact nI_toInt (Nat.or_lt_two_pow ha hb)
theorem and_nat {a b : Nat} (ha : a < 2 ^ 31) : and32 (a : Int) (b : Int) = ((a &&& b : Nat) : Int) := by
  unfold and32
  rw [i32_nat, i32_nat, bi_and]
  exact nI_toInt (Nat.lt_of_le_of_lt Nat.and_le_left ha)
theorem shr_nat {a k : Nat} (ha : a < 2 ^ 31) (hk : k < 32) : shr32 (a : Int) (k : Int) = ((a / 2 ^ k : Nat) : Int) := by
  unfold shr32
  rw [i32_nat, i32_nat, pk_shrN ha _ k (bi_sl k hk)]
  exact nI_toInt (Nat.lt_of_le_of_lt (Nat.div_le_self _ _) ha)
/-- the bit i of x -/
abbrev hb (x i : Int) : Prop := and32 (shr32 x i) 1 = 1
theorem hb_nat {a k : Nat} (ha : a < 2 ^ 31) (hk : k < 32) : hb (a : Int) (k : Int) ↔ a.testBit k = true := by
  unfold hb
  rw [shr_nat ha hk, show (1 : Int) = ((1 : Nat) : Int) from rfl, and_nat (Nat.lt_of_le_of_lt (Nat.div_le_self _ _) ha)]
  rw [Nat.and_one_is_mod]
  rw [Nat.testBit_eq_decide_div_mod_eq, decide_eq_true_iff]
  constructor
  · intro h
    exact_mod_cast h
  · intro h
    exact_mod_cast h
theorem hb_0 {k : Nat} (hk : k < 32) : ¬ hb 0 (k : Int) := by
  intro h
  have := (hb_nat (a := 0) (by decide) hk).mp h
  simp at this
/-- one bit more -/
theorem hb_or {x : Int} {g k : Nat} (h0 : 0 ≤ x) (h1 : x < 2 ^ 31) (hg : g < 31) (hk : k < 32) : hb (or32 x (shl32 1 g)) k ↔ hb x k ∨ k = g := by
  obtain ⟨a, rfl⟩ : ∃ a : Nat, x = a := ⟨x.toNat, by omega⟩
  have ha : a < 2 ^ 31 := by omega
  have hp : 2 ^ g < 2 ^ 31 := Nat.pow_lt_pow_right (by decide) hg
  rw [shl1 hg, or_nat ha hp, hb_nat (Nat.or_lt_two_pow ha hp) hk, hb_nat ha hk, Nat.testBit_or, Nat.testBit_two_pow]
  simp
  constructor
  · rintro (h | h)
    · exact Or.inl h
    · exact Or.inr h.symm
  · rintro (h | h)
    · exact Or.inl h
    · exact Or.inr h.symm
theorem or_small {x : Int} {g n : Nat} (h0 : 0 ≤ x) (h1 : x < 2 ^ n) (hg : g < n) (hn : n ≤ 31) : 0 ≤ or32 x (shl32 1 g) ∧ or32 x (shl32 1 g) < 2 ^ n := by
  obtain ⟨a, rfl⟩ : ∃ a : Nat, x = a := ⟨x.toNat, by omega⟩
  have ha0 : a < 2 ^ n := by exact_mod_cast h1
  have hp0 : 2 ^ g < 2 ^ n := Nat.pow_lt_pow_right (by decide) hg
  have hle : 2 ^ n ≤ 2 ^ 31 := Nat.pow_le_pow_right (by decide) hn
  rw [shl1 (by omega), or_nat (by omega) (by omega)]
  have := Nat.or_lt_two_pow ha0 hp0
  constructor
  · omega
  · exact_mod_cast this
theorem or_0 {x : Int} (h : inR x) : or32 x 0 = x := by
  unfold or32
  rw [show i32 0 = (0 : Int32) from rfl]
  simp
  exact i32_toInt h
/-! a page: goods (kind 0.., weight 8.., worth 16.., taken 24..), 32 how many, people (strength 33.., wages 37..), 41 hooter less 2, 42 brings less 2, 43 week; behind it 44.. arms, 48.. their heft, 52.. what they pay, 56 grabbed, 57 takings, 58 bent -/
def uf (f : Nat → Int) (k : Nat) (v : Int) : Nat → Int := fun j => if j = k then v else f j
theorem uf_s (f : Nat → Int) (k : Nat) (v : Int) : uf f k v k = v := if_pos rfl
theorem uf_n {f : Nat → Int} {k j : Nat} {v : Int} (h : ¬ j = k) : uf f k v j = f j := if_neg h
def ngd (X : Nat → Int) : Nat := (X 32).toNat
def hfv (k w : Int) : Int := if k = 0 then w else if k = 1 then 2 * w else if k = 2 then (w + 1) / 2 else 2 * w - 1
def pyv (k v : Int) : Int := if k = 2 then max 0 (v - 2) else if k = 3 then 2 * v else v
def heft (X : Nat → Int) (g : Nat) : Int := hfv (X g) (X (8 + g))
def pays (X : Nat → Int) (g : Nat) : Int := pyv (X g) (X (16 + g))
def PB (X : Nat → Int) (np : Nat) : Prop := (0 ≤ X 32 ∧ X 32 ≤ 8) ∧ np ≤ 4 ∧ (∀ g, g < ngd X → (0 ≤ X g ∧ X g ≤ 3) ∧ (1 ≤ X (8 + g) ∧ X (8 + g) ≤ 9) ∧ (0 ≤ X (16 + g) ∧ X (16 + g) ≤ 9) ∧ (X (24 + g) = 0 ∨ X (24 + g) = 1)) ∧ (∀ p, p < np → (1 ≤ X (33 + p) ∧ X (33 + p) ≤ 20) ∧ (0 ≤ X (37 + p) ∧ X (37 + p) ≤ 999)) ∧ (-2 ≤ X 41 ∧ X 41 ≤ 4) ∧ (-2 ≤ X 42 ∧ X 42 ≤ 6)
theorem heft_b {X : Nat → Int} {np g : Nat} (h : PB X np) (hg : g < ngd X) : 1 ≤ heft X g ∧ heft X g ≤ 18 := by
  obtain ⟨h1, h2, -, -⟩ := h.2.2.1 g hg
  unfold heft hfv
  split
  · omega
  · split
    · omega
    · split <;> omega
theorem pays_b {X : Nat → Int} {np g : Nat} (h : PB X np) (hg : g < ngd X) : 0 ≤ pays X g ∧ pays X g ≤ 18 := by
  obtain ⟨h1, -, h2, -⟩ := h.2.2.1 g hg
  unfold pays pyv
  split
  · omega
  · split <;> omega
theorem ngd_le {X : Nat → Int} {np : Nat} (h : PB X np) : ngd X ≤ 8 := by have := h.1; unfold ngd; omega
theorem ngd_int {X : Nat → Int} {np : Nat} (h : PB X np) : ((ngd X : Nat) : Int) = X 32 := by have := h.1; unfold ngd; omega
/-- which one of the first k goods is taken, and what it pays -/
def bst (X : Nat → Int) (fr : Int) : Nat → Int × Int
  | 0 => (-1, -1)
  | k + 1 => if X (24 + k) = 0 ∧ heft X k ≤ fr ∧ (bst X fr k).2 < pays X k then ((k : Int), pays X k) else bst X fr k
def take (X : Nat → Int) (p g : Nat) (py : Int) : Nat → Int := fun j =>
  if j = 24 + g then 1 else if j = 44 + p then or32 (X (44 + p)) (shl32 1 g) else if j = 48 + p then X (48 + p) + heft X g else if j = 52 + p then X (52 + p) + py else if j = 56 then or32 (X 56) (shl32 1 g) else if j = 57 then w32 (X 57 + 1) else X j
def turn (X : Nat → Int) (p : Nat) : Nat → Int := if (bst X (X (33 + p) - X (48 + p)) (ngd X)).1 < 0 then X else take X p (bst X (X (33 + p) - X (48 + p)) (ngd X)).1.toNat (bst X (X (33 + p) - X (48 + p)) (ngd X)).2
def rnd (ill : Int) (X : Nat → Int) : Nat → Nat → Int
  | 0 => X
  | p + 1 => if hb ill p then rnd ill X p else turn (rnd ill X p) p
def rnds (np : Nat) (ill : Int) (X : Nat → Int) : Nat → Nat → Int
  | 0 => X
  | r + 1 => rnd ill (rnds np ill X r) np
def clr (X : Nat → Int) : Nat → Int := fun j => if 44 ≤ j ∧ j < 57 then 0 else X j
def pay1 (X : Nat → Int) (p : Nat) : Nat → Int := fun j => if j = 37 + p then min 999 (X (37 + p) + X (52 + p)) else if j = 33 + p ∧ X (48 + p) = X (33 + p) then max 1 (X (33 + p) - 1) else if j = 58 ∧ X (48 + p) = X (33 + p) then w32 (X 58 + 1) else X j
def payN (X : Nat → Int) : Nat → Nat → Int
  | 0 => X
  | p + 1 => pay1 (payN X p) p
/-- how many are brought back of the first g, and the page then -/
def brg (m : Int) (X : Nat → Int) : Nat → Int × (Nat → Int)
  | 0 => (0, X)
  | g + 1 => if (brg m X g).1 < m ∧ X (24 + g) ≠ 0 then ((brg m X g).1 + 1, uf (brg m X g).2 (24 + g) 0) else brg m X g
/-- a week: so many rounds, these are ill -/
def wk (np r : Nat) (ill : Int) (X : Nat → Int) : Nat → Int := uf (brg (X 42 + 2) (payN (rnds np ill (clr X) r) np) (ngd X)).2 43 (w32 (X 43 + 1))
def hoot (X : Nat → Int) : Nat := (X 41 + 2).toNat
def wks (np : Nat) (X : Nat → Int) : Nat → Nat → Int
  | 0 => X
  | n + 1 => wk np (hoot (wks np X n)) 0 (wks np X n)
/-- a copy: nothing grabbed, taken, bent yet -/
def cpy (X : Nat → Int) : Nat → Int := fun j => if j = 56 ∨ j = 57 ∨ j = 58 then 0 else X j
def sm (f : Nat → Int) : Nat → Int
  | 0 => 0
  | n + 1 => sm f n + f n
def wag (np : Nat) (X : Nat → Int) : Int := sm (fun p => X (37 + p)) np
def stb (X : Nat → Int) : Nat → Int
  | 0 => 0
  | g + 1 => if X (24 + g) = 0 then or32 (stb X g) (shl32 1 g) else stb X g
/-- least wages of the first p of people, at most 999 -/
def lst (X : Nat → Int) : Nat → Int
  | 0 => 999
  | p + 1 => min (lst X p) (X (37 + p))
theorem sm_b {f : Nat → Int} {c : Int} : ∀ n : Nat, (∀ k, k < n → 0 ≤ f k ∧ f k ≤ c) → 0 ≤ sm f n ∧ sm f n ≤ n * c
  | 0, _ => by simp [sm]
  | n + 1, h => by
    have ih := sm_b n (fun k hk => h k (by omega))
    have h1 := h n (by omega)
    simp only [sm]
    rw [Int.natCast_add, Int.add_mul]
    omega
theorem sm_c {f g : Nat → Int} : ∀ n : Nat, (∀ k, k < n → f k = g k) → sm f n = sm g n
  | 0, _ => rfl
  | n + 1, h => by
    simp only [sm]
    rw [sm_c n (fun k hk => h k (by omega)), h n (by omega)]
theorem wag_b {X : Nat → Int} {np : Nat} (h : PB X np) : 0 ≤ wag np X ∧ wag np X ≤ 3996 := by
  have := sm_b (f := fun p => X (37 + p)) (c := 999) np (fun k hk => (h.2.2.2.1 k hk).2)
  have h4 := h.2.1
  unfold wag
  omega
/-- from the loop's end back to its beginning -/
theorem up_ind {P : Nat → Prop} (n : Nat) (hn : P n) (hs : ∀ i, i < n → P (i + 1) → P i) : P 0 := by
  have key : ∀ k, k ≤ n → P (n - k) := by
    intro k
    induction k with
    | zero => intro _; simpa using hn
    | succ k ih =>
      intro hk
      have h1 := ih (by omega)
      have e : n - k = (n - (k + 1)) + 1 := by omega
      rw [e] at h1
      exact hs _ (by omega) h1
  have := key n (Nat.le_refl n)
  simpa using this

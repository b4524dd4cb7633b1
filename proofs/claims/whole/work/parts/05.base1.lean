/-! numbers: ints and longs as whole numbers within their range -/
def inR (x : Int) : Prop := -2147483648 ≤ x ∧ x ≤ 2147483647
def inL (x : Int) : Prop := -9223372036854775808 ≤ x ∧ x ≤ 9223372036854775807
def i32 (x : Int) : Int32 := Int32.ofInt x
def i64 (x : Int) : Int64 := Int64.ofInt x
def w32 (x : Int) : Int := (Int32.ofInt x).toInt
def w64 (x : Int) : Int := (Int64.ofInt x).toInt
theorem t32_in (z : Int32) : inR z.toInt := by
  have h1 := Int32.toInt_lt z
  have h2 := Int32.le_toInt z
  unfold inR
  omega
theorem t64_in (z : Int64) : inL z.toInt := by
  have h1 := Int64.toInt_lt z
  have h2 := Int64.le_toInt z
  unfold inL
  omega
theorem w32_in (x : Int) : inR (w32 x) := t32_in _
theorem w64_in (x : Int) : inL (w64 x) := t64_in _
theorem w32_id {x : Int} (h : -2147483648 ≤ x) (h2 : x ≤ 2147483647) : w32 x = x := Int32.toInt_ofInt_of_le (by omega) (by omega)
theorem w64_id {x : Int} (h : -9223372036854775808 ≤ x) (h2 : x ≤ 9223372036854775807) : w64 x = x := Int64.toInt_ofInt_of_le (by omega) (by omega)
theorem i32_w (x : Int) : i32 (w32 x) = i32 x := Int32.ofInt_toInt _
theorem i64_w (x : Int) : i64 (w64 x) = i64 x := Int64.ofInt_toInt _
theorem i32_t (z : Int32) : i32 z.toInt = z := Int32.ofInt_toInt _
theorem i64_t (z : Int64) : i64 z.toInt = z := Int64.ofInt_toInt _
theorem i32_toInt {x : Int} (h : inR x) : (i32 x).toInt = x := w32_id h.1 h.2
theorem i64_toInt {x : Int} (h : inL x) : (i64 x).toInt = x := w64_id h.1 h.2
theorem i32_lt {x y : Int} (hx : inR x) (hy : inR y) : i32 x < i32 y ↔ x < y := by rw [Int32.lt_iff_toInt_lt, i32_toInt hx, i32_toInt hy]
theorem i32_le {x y : Int} (hx : inR x) (hy : inR y) : i32 x ≤ i32 y ↔ x ≤ y := by rw [Int32.le_iff_toInt_le, i32_toInt hx, i32_toInt hy]
theorem i32_eq {x y : Int} (hx : inR x) (hy : inR y) : i32 x = i32 y ↔ x = y := by rw [← Int32.toInt_inj, i32_toInt hx, i32_toInt hy]
theorem in0 : inR 0 := ⟨by decide, by decide⟩
theorem i32_0 : i32 0 = 0 := rfl
theorem i32_add (x y : Int) : i32 x + i32 y = i32 (w32 (x + y)) := by rw [i32_w]; exact (Int32.ofInt_add x y).symm
theorem i32_sub (x y : Int) : i32 x - i32 y = i32 (w32 (x - y)) := by rw [i32_w]; exact (Int32.ofInt_sub x y).symm
theorem i32_mul (x y : Int) : i32 x * i32 y = i32 (w32 (x * y)) := by rw [i32_w]; exact (Int32.ofInt_mul x y).symm
theorem i64_add (x y : Int) : i64 x + i64 y = i64 (w64 (x + y)) := by rw [i64_w]; exact (Int64.ofInt_add x y).symm
theorem i64_sub (x y : Int) : i64 x - i64 y = i64 (w64 (x - y)) := by rw [i64_w]; exact (Int64.ofInt_sub x y).symm
theorem i64_mul (x y : Int) : i64 x * i64 y = i64 (w64 (x * y)) := by rw [i64_w]; exact (Int64.ofInt_mul x y).symm
theorem i32_div {x y : Int} (hx : inR x) (hy : inR y) : i32 x / i32 y = i32 (w32 (x.tdiv y)) := by
  apply Int32.toInt.inj
  rw [Int32.toInt_div, i32_toInt hx, i32_toInt hy, i32_toInt (w32_in _)]
  show _ = (Int32.ofInt _).toInt
  rw [Int32.toInt_ofInt]
theorem i64_div {x y : Int} (hx : inL x) (hy : inL y) : i64 x / i64 y = i64 (w64 (x.tdiv y)) := by
  apply Int64.toInt.inj
  rw [Int64.toInt_div, i64_toInt hx, i64_toInt hy, i64_toInt (w64_in _)]
  show _ = (Int64.ofInt _).toInt
  rw [Int64.toInt_ofInt]
theorem tmod_mul (x y : Int) : x - x.tdiv y * y = x.tmod y := by
  have := Int.mul_tdiv_add_tmod x y
  rw [Int.mul_comm] at this
  omega
theorem i32_rem {x y : Int} (hx : inR x) (hy : inR y) : i32 x - i32 x / i32 y * i32 y = i32 (w32 (x.tmod y)) := by
  rw [i32_div hx hy, i32_w, i32_w]
  show Int32.ofInt x - Int32.ofInt _ * Int32.ofInt y = Int32.ofInt _
  rw [← Int32.ofInt_mul, ← Int32.ofInt_sub, tmod_mul]
theorem i64_rem {x y : Int} (hx : inL x) (hy : inL y) : i64 x - i64 x / i64 y * i64 y = i64 (w64 (x.tmod y)) := by
  rw [i64_div hx hy, i64_w, i64_w]
  show Int64.ofInt x - Int64.ofInt _ * Int64.ofInt y = Int64.ofInt _
  rw [← Int64.ofInt_mul, ← Int64.ofInt_sub, tmod_mul]
theorem i32_clamp {x : Int} (hx : inR x) : (i32 x).toNatClampNeg = x.toNat := by
  show (i32 x).toInt.toNat = _
  rw [i32_toInt hx]
theorem i32_vin {x : Int} (hx : inR x) {n : Nat} (h0 : 0 ≤ x) (h : x < n) : vp_in (i32 x) n := by
  rw [vp_in_iff, i32_toInt hx]
  exact ⟨h0, h⟩
theorem i32_long {x : Int} (hx : inR x) : (i32 x).toInt64 = i64 x := by
  apply Int64.toInt.inj
  rw [Int32.toInt_toInt64, i32_toInt hx, i64_toInt (by unfold inR at hx; unfold inL; omega)]
theorem inR_L {x : Int} (h : inR x) : inL x := by unfold inR at h; unfold inL; omega
def shl32 (x y : Int) : Int := (i32 x <<< (i32 y &&& 31)).toInt
def shr32 (x y : Int) : Int := (i32 x >>> (i32 y &&& 31)).toInt
def ush32 (x y : Int) : Int := ((i32 x).toUInt32 >>> ((i32 y).toUInt32 &&& Int32.toUInt32 31)).toInt32.toInt
def and32 (x y : Int) : Int := (i32 x &&& i32 y).toInt
def or32 (x y : Int) : Int := (i32 x ||| i32 y).toInt
def xor32 (x y : Int) : Int := (i32 x ^^^ i32 y).toInt
def by32 (x : Int) : Int := (i32 x).toInt8.toInt32.toInt
def sh16 (x : Int) : Int := (i32 x).toInt16.toInt32.toInt
def cmpL (x y : Int) : Int := if x = y then 0 else if x < y then -1 else 1
/-! the memory: a kind of cell, which of them, which place -/
abbrev JM : Type := Nat → Nat → Nat → Int
def pt (M : JM) (t i k : Nat) (x : Int) : JM := fun t' i' k' => if t' = t ∧ i' = i ∧ k' = k then x else M t' i' k'
theorem pt_eq (M : JM) (t i k : Nat) (x : Int) : pt M t i k x t i k = x := if_pos ⟨rfl, rfl, rfl⟩
theorem pt_ne {M : JM} {t i k t' i' k' : Nat} {x : Int} (h : ¬ (t' = t ∧ i' = i ∧ k' = k)) : pt M t i k x t' i' k' = M t' i' k' := if_neg h
theorem pt_at (M : JM) (t i k : Nat) (x : Int) (t' i' k' : Nat) : pt M t i k x t' i' k' = if t' = t ∧ i' = i ∧ k' = k then x else M t' i' k' := rfl
theorem pt_off {M : JM} {t i k t' i' : Nat} {x : Int} (h : ¬ (t' = t ∧ i' = i)) : pt M t i k x t' i' = M t' i' := funext fun k' => if_neg fun q => h ⟨q.1, q.2.1⟩
theorem pt_row (M : JM) (t i k : Nat) (x : Int) : pt M t i k x t i = fun k' => if k' = k then x else M t i k' := by
  funext k'
  by_cases h : k' = k
  · simp [pt, h]
  · simp [pt, h]
/-! values -/
abbrev JV : Type := Int ⊕ (Int ⊕ (Nat × Nat))
abbrev vI (x : Int) : JV := .inl x
abbrev vL (x : Int) : JV := .inr (.inl x)
abbrev vR (t i : Nat) : JV := .inr (.inr (t, i))
/-- how many there are of a kind -/
def cnt : Nat → Nat
  | 0 => 1 | 1 => 40 | 2 => 20 | 3 => 5 | 4 => 5 | 5 => 5 | 6 => 4 | 7 => 4 | 8 => 6 | 9 => 1 | 10 => 1 | 11 => 1 | 12 => 1 | 13 => 1 | 14 => 1 | 15 => 1 | 16 => 21
  | 20 => 1 | 21 => 1 | 22 => 1 | 23 => 1 | 24 => 1 | 25 => 1 | 26 => 1 | 27 => 1 | 28 => 1 | 29 => 1 | 30 => 1 | 31 => 1 | 32 => 1 | 33 => 1
  | 40 => 7 | 41 => 7 | 42 => 1
  | _ => 0
def okV : JV → Prop
  | .inl x => inR x
  | .inr (.inl x) => inL x
  | .inr (.inr q) => q.2 < cnt q.1
def okS (st : List JV) : Prop := ∀ v ∈ st, okV v
theorem okS_c {v : JV} {st : List JV} (h : okV v) (h2 : okS st) : okS (v :: st) := List.forall_mem_cons.mpr ⟨h, h2⟩
theorem okS_h {v : JV} {st : List JV} (h : okS (v :: st)) : okV v := (List.forall_mem_cons.mp h).1
theorem okS_t {v : JV} {st : List JV} (h : okS (v :: st)) : okS st := (List.forall_mem_cons.mp h).2
theorem okS_0 : okS [] := fun _ h => absurd h List.not_mem_nil
theorem okS_app {a b : List JV} (ha : okS a) (hb : okS b) : okS (a ++ b) := fun v h => (List.mem_append.mp h).elim (ha v) (hb v)
theorem okS_l {a b : List JV} (h : okS (a ++ b)) : okS a := fun v hv => h v (List.mem_append_left _ hv)
theorem okS_r {a b : List JV} (h : okS (a ++ b)) : okS b := fun v hv => h v (List.mem_append_right _ hv)
theorem okS_rev {a : List JV} (h : okS a.reverse) : okS a := fun v hv => h v (List.mem_reverse.mpr hv)
def mok (M : JM) : Prop := (∀ t i k, inR (M t i k)) ∧ ∀ i k, (M 5 i k).toNat < 4
theorem mok_pt {M : JM} {t i k : Nat} {x : Int} (h : mok M) (ht : t ≠ 5) (hx : inR x) : mok (pt M t i k x) := by
  refine ⟨fun t' i' k' => ?_, fun i' k' => ?_⟩
  · rw [pt_at]
    split
    · exact hx
    · exact h.1 _ _ _
  · rw [pt_ne (fun q => ht q.1.symm)]
    exact h.2 _ _
theorem mok_pt5 {M : JM} {i k : Nat} {x : Int} (h : mok M) (hx : inR x) (h4 : x.toNat < 4) : mok (pt M 5 i k x) := by
  refine ⟨fun t' i' k' => ?_, fun i' k' => ?_⟩
  · rw [pt_at]
    split
    · exact hx
    · exact h.1 _ _ _
  · rw [pt_at]
    split
    · exact h4
    · exact h.2 _ _

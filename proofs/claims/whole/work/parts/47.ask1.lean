/-! how many bits -/
theorem and_sp {x y m n : Nat} (hx : x < 256) (hm : m < 256) : (x + 256 * y) &&& (m + 256 * n) = (x &&& m) + 256 * (y &&& n) := by
  have hxm : x &&& m < 2 ^ 8 := Nat.lt_of_le_of_lt Nat.and_le_left hx
  rw [show x + 256 * y = 2 ^ 8 * y + x by omega, show m + 256 * n = 2 ^ 8 * n + m by omega, show (x &&& m) + 256 * (y &&& n) = 2 ^ 8 * (y &&& n) + (x &&& m) by omega]
  apply Nat.eq_of_testBit_eq
  intro i
  rw [Nat.testBit_and, Nat.testBit_two_pow_mul_add _ (show x < 2 ^ 8 from hx), Nat.testBit_two_pow_mul_add _ (show m < 2 ^ 8 from hm), Nat.testBit_two_pow_mul_add _ hxm]
  by_cases h : i < 8
  · rw [if_pos h, if_pos h, if_pos h, Nat.testBit_and]
  · rw [if_neg h, if_neg h, if_neg h, Nat.testBit_and]
theorem and_3 {x y z m : Nat} (hx : x < 256) (hy : y < 256) (hz : z < 256) (hm : m < 256) : (x + 256 * (y + 256 * z)) &&& (m + 256 * (m + 256 * (m + 256 * m))) = (x &&& m) + 256 * ((y &&& m) + 256 * (z &&& m)) := by
  rw [and_sp hx hm, and_sp hy hm]
  have : z &&& (m + 256 * m) = z &&& m := by
    have := and_sp (x := z) (y := 0) (m := m) (n := m) hz hm
    rw [Nat.mul_zero, Nat.add_zero, Nat.zero_and, Nat.mul_zero, Nat.add_zero] at this
    exact this
  rw [this]
def q1 (z : Nat) : Nat := z - (z / 2 &&& 85)
def q2 (z : Nat) : Nat := (q1 z &&& 51) + (q1 z / 4 &&& 51)
def pcb (z : Nat) : Nat := z % 2 + z / 2 % 2 + z / 4 % 2 + z / 8 % 2 + z / 16 % 2 + z / 32 % 2 + z / 64 % 2 + z / 128 % 2
theorem qb1 : ∀ z, z < 256 → (z / 2 &&& 85) ≤ z ∧ q1 z < 256 ∧ q2 z ≤ 68 ∧ q2 z % 16 ≤ 4 ∧ pcb z ≤ 8 := by decide +kernel
theorem qb2 : ∀ z, z < 256 → ∀ e, e < 5 → (q2 z + q2 z / 16 + 16 * e) &&& 15 = pcb z := by decide +kernel
theorem qb3 : ∀ z, z < 256 → ∀ e, e < 2 → (z / 2 + 128 * e) &&& 85 = z / 2 &&& 85 := by decide +kernel
theorem qb4 : ∀ z, z < 256 → ∀ e, e < 4 → (z / 4 + 64 * e) &&& 51 = z / 4 &&& 51 := by decide +kernel
def bc1 (c : Nat) : Nat := c - (c / 2 &&& 1431655765)
def bc2 (a : Nat) : Nat := (a &&& 858993459) + (a / 4 &&& 858993459)
def bc3 (a : Nat) : Nat := (a + a / 16) &&& 252645135
def bc4 (a : Nat) : Nat := a + a / 256
def bc5 (a : Nat) : Nat := a + a / 65536
theorem bc_e {x y z : Nat} (hx : x < 256) (hy : y < 256) (hz : z < 256) : (bc5 (bc4 (bc3 (bc2 (bc1 (x + 256 * (y + 256 * z))))))) &&& 63 = pcb x + pcb y + pcb z := by
  obtain ⟨x1, x2, x3, x4, x5⟩ := qb1 x hx
  obtain ⟨y1, y2, y3, y4, y5⟩ := qb1 y hy
  obtain ⟨z1, z2, z3, z4, z5⟩ := qb1 z hz
  have e1 : bc1 (x + 256 * (y + 256 * z)) = q1 x + 256 * (q1 y + 256 * q1 z) := by
    unfold bc1
    have a : (x + 256 * (y + 256 * z)) / 2 = (x / 2 + 128 * (y % 2)) + 256 * ((y / 2 + 128 * (z % 2)) + 256 * (z / 2)) := by omega
    rw [a, show (1431655765 : Nat) = 85 + 256 * (85 + 256 * (85 + 256 * 85)) from rfl, and_3 (by omega) (by omega) (by omega) (by omega), qb3 x hx _ (by omega), qb3 y hy _ (by omega)]
    unfold q1
    omega
  have e2 : bc2 (q1 x + 256 * (q1 y + 256 * q1 z)) = q2 x + 256 * (q2 y + 256 * q2 z) := by
    unfold bc2
    have a : (q1 x + 256 * (q1 y + 256 * q1 z)) / 4 = (q1 x / 4 + 64 * (q1 y % 4)) + 256 * ((q1 y / 4 + 64 * (q1 z % 4)) + 256 * (q1 z / 4)) := by omega
    rw [a, show (858993459 : Nat) = 51 + 256 * (51 + 256 * (51 + 256 * 51)) from rfl, and_3 x2 y2 z2 (by omega), and_3 (by omega) (by omega) (by omega) (by omega), qb4 _ x2 _ (by omega), qb4 _ y2 _ (by omega)]
    unfold q2
    omega
  have e3 : bc3 (q2 x + 256 * (q2 y + 256 * q2 z)) = pcb x + 256 * (pcb y + 256 * pcb z) := by
    unfold bc3
    have a : q2 x + 256 * (q2 y + 256 * q2 z) + (q2 x + 256 * (q2 y + 256 * q2 z)) / 16 = (q2 x + q2 x / 16 + 16 * (q2 y % 16)) + 256 * ((q2 y + q2 y / 16 + 16 * (q2 z % 16)) + 256 * (q2 z + q2 z / 16 + 16 * 0)) := by omega
    rw [a, show (252645135 : Nat) = 15 + 256 * (15 + 256 * (15 + 256 * 15)) from rfl, and_3 (by omega) (by omega) (by omega) (by omega), qb2 x hx _ (by omega), qb2 y hy _ (by omega), qb2 z hz _ (by omega)]
  rw [e1, e2, e3]
  have h4 : bc4 (pcb x + 256 * (pcb y + 256 * pcb z)) = (pcb x + pcb y) + 256 * (pcb y + pcb z) + 65536 * pcb z := by unfold bc4; omega
  have h5 : bc5 ((pcb x + pcb y) + 256 * (pcb y + pcb z) + 65536 * pcb z) = (pcb x + pcb y + pcb z) + 256 * (pcb y + pcb z) + 65536 * pcb z := by unfold bc5; omega
  rw [h4, h5, show (63 : Nat) = 2 ^ 6 - 1 from rfl, Nat.and_two_pow_sub_one_eq_mod]
  omega
def pcn (c : Nat) : Nat → Nat
  | 0 => 0
  | i + 1 => pcn c i + c / 2 ^ (i + 1) % 2
theorem pcn_e (c : Nat) : pcn c 20 = 0 + c / 2 % 2 + c / 4 % 2 + c / 8 % 2 + c / 16 % 2 + c / 32 % 2 + c / 64 % 2 + c / 128 % 2 + c / 256 % 2 + c / 512 % 2 + c / 1024 % 2 + c / 2048 % 2 + c / 4096 % 2 + c / 8192 % 2 + c / 16384 % 2 + c / 32768 % 2 + c / 65536 % 2 + c / 131072 % 2 + c / 262144 % 2 + c / 524288 % 2 + c / 1048576 % 2 := rfl
theorem lo7 (c : Nat) : c / 2 % 2 = c % 256 / 2 % 2 ∧ c / 4 % 2 = c % 256 / 4 % 2 ∧ c / 8 % 2 = c % 256 / 8 % 2 ∧ c / 16 % 2 = c % 256 / 16 % 2 ∧ c / 32 % 2 = c % 256 / 32 % 2 ∧ c / 64 % 2 = c % 256 / 64 % 2 ∧ c / 128 % 2 = c % 256 / 128 % 2 := ⟨by omega, by omega, by omega, by omega, by omega, by omega, by omega⟩
theorem pc_lo (c : Nat) (h0 : c % 2 = 0) : 0 + c / 2 % 2 + c / 4 % 2 + c / 8 % 2 + c / 16 % 2 + c / 32 % 2 + c / 64 % 2 + c / 128 % 2 = pcb (c % 256) := by
  obtain ⟨a1, a2, a3, a4, a5, a6, a7⟩ := lo7 c
  unfold pcb
  rw [a1, a2, a3, a4, a5, a6, a7, show c % 256 % 2 = 0 by omega]
theorem pc_mid (d : Nat) : d % 2 + d / 2 % 2 + d / 4 % 2 + d / 8 % 2 + d / 16 % 2 + d / 32 % 2 + d / 64 % 2 + d / 128 % 2 = pcb (d % 256) := by
  obtain ⟨a1, a2, a3, a4, a5, a6, a7⟩ := lo7 d
  unfold pcb
  rw [a1, a2, a3, a4, a5, a6, a7, show d % 256 % 2 = d % 2 by omega]
theorem pc_hi (e : Nat) (h : e < 32) : e % 2 + e / 2 % 2 + e / 4 % 2 + e / 8 % 2 + e / 16 % 2 = pcb e := by
  have a : e / 32 % 2 = 0 := by omega
  have b : e / 64 % 2 = 0 := by omega
  have d : e / 128 % 2 = 0 := by omega
  unfold pcb
  rw [a, b, d]
  rfl
theorem pcn_b {c : Nat} (hc : c < 2097152) (h0 : c % 2 = 0) : pcn c 20 = pcb (c % 256) + pcb (c / 256 % 256) + pcb (c / 65536) := by
  rw [← pc_lo c h0, ← pc_mid (c / 256), ← pc_hi (c / 65536) (by omega), pcn_e]
  rw [Nat.div_div_eq_div_mul, Nat.div_div_eq_div_mul, Nat.div_div_eq_div_mul, Nat.div_div_eq_div_mul, Nat.div_div_eq_div_mul, Nat.div_div_eq_div_mul, Nat.div_div_eq_div_mul, Nat.div_div_eq_div_mul, Nat.div_div_eq_div_mul, Nat.div_div_eq_div_mul, Nat.div_div_eq_div_mul]
  simp only [Nat.add_assoc, Nat.reduceMul]
theorem ush_nat {a : Nat} (ha : a < 2 ^ 31) {k : Nat} (u : UInt32) (hu : (i32 (k : Int)).toUInt32 &&& Int32.toUInt32 31 = u) (hu2 : (u.toBitVec % 32).toNat = k) : ush32 (a : Int) (k : Int) = ((a / 2 ^ k : Nat) : Int) := by
  unfold ush32
  rw [hu]
  have e : (((i32 (a : Int)).toUInt32 >>> u).toInt32).toBitVec = BitVec.ofNat 32 a >>> (u.toBitVec % 32) := by rw [i32_nat]; rfl
  have e2 : (((i32 (a : Int)).toUInt32 >>> u).toInt32).toBitVec.toNat = a / 2 ^ k := by
    rw [e, BitVec.ushiftRight_eq', hu2, BitVec.toNat_ushiftRight, BitVec.toNat_ofNat, Nat.mod_eq_of_lt (by omega), Nat.shiftRight_eq_div_pow]
  have h2 : a / 2 ^ k ≤ a := Nat.div_le_self _ _
  show BitVec.toInt _ = _
  rw [BitVec.toInt_eq_toNat_of_lt (by rw [e2]; omega), e2]
theorem N_bitCount {E : EE} {Q : Int → JM → Prop} {M : JM} {c : Nat} (hc : c < 2 ^ 21) (h0 : c % 2 = 0) (hQ : Q (pcn c 20 : Nat) M) : JC E mm_N_bitCount [vI (c : Int)] M Q := by
  have l1 : (c / 2 &&& 1431655765) ≤ c / 2 := Nat.and_le_left
  have l2 : (bc1 c &&& 858993459) ≤ bc1 c := Nat.and_le_left
  have l3 : (bc1 c / 4 &&& 858993459) ≤ bc1 c / 4 := Nat.and_le_left
  have m1 : bc1 c ≤ c := Nat.sub_le _ _
  have m2 : bc2 (bc1 c) ≤ 2 * c := by unfold bc2; omega
  have l4 : bc3 (bc2 (bc1 c)) ≤ bc2 (bc1 c) + bc2 (bc1 c) / 16 := Nat.and_le_left
  have m4 : bc4 (bc3 (bc2 (bc1 c))) ≤ 8 * c := by unfold bc4; omega
  have m5 : bc5 (bc4 (bc3 (bc2 (bc1 c)))) ≤ 16 * c := by unfold bc5; omega
  refine vc_N_bitCount _ _ (fun a1 e1 a2 e2 a3 e3 a4 e4 a5 e5 => ?_)
  have s1 : ush32 (c : Int) 1 = ((c / 2 : Nat) : Int) := ush_nat (k := 1) (by omega) 1 (by decide) (by decide)
  have t1 : a1 = ((bc1 c : Nat) : Int) := by
    rw [e1, s1, show (1431655765 : Int) = ((1431655765 : Nat) : Int) from rfl, and_nat (by omega), w32_id (by omega) (by omega)]
    unfold bc1
    omega
  subst t1
  have s2 : ush32 ((bc1 c : Nat) : Int) 2 = ((bc1 c / 4 : Nat) : Int) := ush_nat (k := 2) (by omega) 2 (by decide) (by decide)
  have t2 : a2 = ((bc2 (bc1 c) : Nat) : Int) := by
    rw [e2, s2, show (858993459 : Int) = ((858993459 : Nat) : Int) from rfl, and_nat (by omega), and_nat (by omega), w32_id (by omega) (by omega)]
    unfold bc2
    omega
  subst t2
  have s3 : ush32 ((bc2 (bc1 c) : Nat) : Int) 4 = ((bc2 (bc1 c) / 16 : Nat) : Int) := ush_nat (k := 4) (by omega) 4 (by decide) (by decide)
  have t3 : a3 = ((bc3 (bc2 (bc1 c)) : Nat) : Int) := by
    rw [e3, s3, w32_id (by omega) (by omega), show (252645135 : Int) = ((252645135 : Nat) : Int) from rfl, ← Int.natCast_add, and_nat (by omega)]
    rfl
  subst t3
  have s4 : ush32 ((bc3 (bc2 (bc1 c)) : Nat) : Int) 8 = ((bc3 (bc2 (bc1 c)) / 256 : Nat) : Int) := ush_nat (k := 8) (by omega) 8 (by decide) (by decide)
  have t4 : a4 = ((bc4 (bc3 (bc2 (bc1 c))) : Nat) : Int) := by
    rw [e4, s4, w32_id (by omega) (by omega)]
    unfold bc4
    omega
  subst t4
  have s5 : ush32 ((bc4 (bc3 (bc2 (bc1 c))) : Nat) : Int) 16 = ((bc4 (bc3 (bc2 (bc1 c))) / 65536 : Nat) : Int) := ush_nat (k := 16) (by omega) 16 (by decide) (by decide)
  have t5 : a5 = ((bc5 (bc4 (bc3 (bc2 (bc1 c)))) : Nat) : Int) := by
    rw [e5, s5, w32_id (by omega) (by omega)]
    unfold bc5
    omega
  subst t5
  rw [show (63 : Int) = ((63 : Nat) : Int) from rfl, and_nat (by omega)]
  have dec : c = c % 256 + 256 * (c / 256 % 256 + 256 * (c / 65536)) := by omega
  have q := bc_e (x := c % 256) (y := c / 256 % 256) (z := c / 65536) (by omega) (by omega) (by omega)
  have p := pcn_b (c := c) (by omega) h0
  rw [← dec] at q
  rw [q, ← p]
  exact hQ
/-! alike -/
def alk (c : Int) (f : Nat → Int) (a : Nat) : Nat → Int
  | 0 => 0
  | b + 1 => alk c f a b + (if hb c ((b + 1 : Nat) : Int) ∧ f a = f (b + 1) then 1 else 0)
def alh (c : Int) (f : Nat → Int) (a : Nat) : Nat → Int
  | 0 => 0
  | b + 1 => alh c f a b + (if a ≤ b + 1 ∧ hb c ((b + 1 : Nat) : Int) ∧ f (b + 1) = f a then 1 else 0)
def wr (c : Int) (f : Nat → Int) : Nat → Int
  | 0 => 0
  | a + 1 => if hb c ((a + 1 : Nat) : Int) then max (wr c f a) (alk c f (a + 1) 20) else wr c f a
def wc1 (c : Int) (f : Nat → Int) : Nat → Int
  | 0 => 0
  | a + 1 => if hb c ((a + 1 : Nat) : Int) then max (wc1 c f a) (alh c f (a + 1) 20) else wc1 c f a
section
variable {c : Int} {f : Nat → Int}
theorem alh_le (a : Nat) : ∀ n : Nat, alh c f a n ≤ alk c f a n
  | 0 => Int.le_refl _
  | n + 1 => by
    have ih := alh_le a n
    unfold alh alk
    by_cases h : a ≤ n + 1 ∧ hb c ((n + 1 : Nat) : Int) ∧ f (n + 1) = f a
    · rw [if_pos h, if_pos ⟨h.2.1, h.2.2.symm⟩]; omega
    · rw [if_neg h]
      split <;> omega
theorem alh_eq {a : Nat} (hm : ∀ t, 1 ≤ t → t < a → hb c (t : Int) → f t ≠ f a) : ∀ n : Nat, alh c f a n = alk c f a n
  | 0 => rfl
  | n + 1 => by
    have ih := alh_eq hm n
    unfold alh alk
    rw [ih]
    by_cases h : hb c ((n + 1 : Nat) : Int) ∧ f a = f (n + 1)
    · rw [if_pos h]
      by_cases q : a ≤ n + 1
      · rw [if_pos ⟨q, h.1, h.2.symm⟩]
      · exact absurd h.2.symm (hm (n + 1) (by omega) (by omega) h.1)
    · rw [if_neg h, if_neg (fun z => h ⟨z.2.1, z.2.2.symm⟩)]
theorem alk_c {a s : Nat} (h : f s = f a) : ∀ n : Nat, alk c f s n = alk c f a n
  | 0 => rfl
  | n + 1 => by
    unfold alk
    rw [alk_c h n, h]
theorem wc1_ge {s : Nat} (hs : 1 ≤ s) (h : hb c (s : Int)) : ∀ n : Nat, s ≤ n → alh c f s 20 ≤ wc1 c f n
  | 0, hn => by omega
  | n + 1, hn => by
    unfold wc1
    by_cases q : s = n + 1
    · subst q
      rw [if_pos h]
      exact Int.le_max_right _ _
    · have ih := wc1_ge hs h n (by omega)
      split
      · exact Int.le_trans ih (Int.le_max_left _ _)
      · exact ih
theorem wc1_le : ∀ n : Nat, wc1 c f n ≤ wr c f n
  | 0 => Int.le_refl _
  | n + 1 => by
    have ih := wc1_le n
    have l := alh_le (c := c) (f := f) (n + 1) 20
    unfold wc1 wr
    split
    · omega
    · exact ih
theorem least : ∀ a : Nat, 1 ≤ a → hb c (a : Int) → ∃ s, 1 ≤ s ∧ s ≤ a ∧ hb c (s : Int) ∧ f s = f a ∧ ∀ t, 1 ≤ t → t < s → hb c (t : Int) → f t ≠ f s := by
  intro a
  induction a using Nat.strongRecOn with
  | ind a ih =>
    intro h1 h2
    by_cases q : ∃ t, 1 ≤ t ∧ t < a ∧ hb c (t : Int) ∧ f t = f a
    · obtain ⟨t, t1, t2, t3, t4⟩ := q
      obtain ⟨s, s1, s2, s3, s4, s5⟩ := ih t t2 t1 t3
      exact ⟨s, s1, by omega, s3, s4.trans t4, s5⟩
    · exact ⟨a, h1, Nat.le_refl _, h2, rfl, fun t t1 t2 t3 t4 => q ⟨t, t1, t2, t3, t4⟩⟩
theorem wr_le : ∀ n : Nat, n ≤ 20 → wr c f n ≤ wc1 c f 20
  | 0, _ => by
    show (0 : Int) ≤ _
    have k : ∀ n : Nat, 0 ≤ wc1 c f n := by
      intro n
      induction n with
      | zero => exact Int.le_refl _
      | succ n ih => unfold wc1; split <;> omega
    exact k 20
  | n + 1, h => by
    have ih := wr_le n (by omega)
    unfold wr
    split
    · rename_i q
      obtain ⟨s, s1, s2, s3, s4, s5⟩ := least (c := c) (f := f) (n + 1) (by omega) q
      have a1 := wc1_ge (f := f) s1 s3 20 (by omega)
      rw [alh_eq s5 20, alk_c s4 20] at a1
      omega
    · exact ih
theorem wc1_wr : wc1 c f 20 = wr c f 20 := Int.le_antisymm (wc1_le 20) (wr_le 20 (Nat.le_refl _))
end

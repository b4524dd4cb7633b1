/-! arms -/
theorem bvn (x y : BitVec 32) : x &&& (y ^^^ BitVec.allOnes 32) = 0#32 ↔ x &&& y = x := by
  rw [BitVec.xor_allOnes]
  constructor
  · intro h
    apply BitVec.eq_of_getLsbD_eq
    intro i hi
    have q := congrArg (fun z => BitVec.getLsbD z i) h
    simp [hi] at q ⊢
    rcases hx : x.getLsbD i <;> rcases hy : y.getLsbD i <;> simp_all
  · intro h
    apply BitVec.eq_of_getLsbD_eq
    intro i hi
    have q := congrArg (fun z => BitVec.getLsbD z i) h
    simp [hi] at q ⊢
    rcases hx : x.getLsbD i <;> rcases hy : y.getLsbD i <;> simp_all
theorem andn {a b : Int} (ha : inR a) : and32 a (xor32 b (-1)) = 0 ↔ and32 a b = a := by
  have k := bvn (i32 a).toBitVec (i32 b).toBitVec
  unfold and32 xor32
  rw [i32_t]
  constructor
  · intro h
    have h1 : i32 a &&& (i32 b ^^^ i32 (-1)) = 0 := Int32.toInt_inj.1 (h.trans (by decide))
    have h2 : (i32 a).toBitVec &&& ((i32 b).toBitVec ^^^ BitVec.allOnes 32) = 0#32 := congrArg Int32.toBitVec h1
    have h3 : i32 a &&& i32 b = i32 a := Int32.toBitVec_inj.1 (k.mp h2)
    rw [h3]
    exact i32_toInt ha
  · intro h
    have h3 : i32 a &&& i32 b = i32 a := Int32.toInt_inj.1 (h.trans (i32_toInt ha).symm)
    have h2 := k.mpr (congrArg Int32.toBitVec h3)
    have h1 : i32 a &&& (i32 b ^^^ i32 (-1)) = 0 := Int32.toBitVec_inj.1 h2
    rw [h1]
    decide
theorem stb_b (X : Nat → Int) : ∀ k : Nat, k ≤ 31 → 0 ≤ stb X k ∧ stb X k < 2 ^ k
  | 0, _ => by simp [stb]
  | k + 1, h => by
    have ih := stb_b X k (by omega)
    have hp : (2 : Int) ^ k < 2 ^ (k + 1) := by
      have : 2 ^ k < 2 ^ (k + 1) := Nat.pow_lt_pow_right (by decide) (by omega)
      exact_mod_cast this
    unfold stb
    split
    · exact or_small ih.1 (by omega) (by omega) h
    · omega
theorem mx_stop {c : Nat → Prop} [∀ k, Decidable (c k)] {f lab : Nat → Int} {b m : Int} {a : Nat} : ∀ n : Nat, (∀ k, a ≤ k → k < a + n → ¬ c k) → mx c f lab b m (a + n) = mx c f lab b m a
  | 0, _ => rfl
  | n + 1, h => by
    rw [show a + (n + 1) = (a + n) + 1 from rfl, mx_n (fun z => h (a + n) (by omega) (by omega) z.1)]
    exact mx_stop n (fun k hk hk2 => h k hk (by omega))
section
variable {E : EE} {Q : Int → JM → Prop} {M : JM} {Z : ZZ}
def stoZ (Z : ZZ) : Int := stb (Z 0) (ngd (Z 0))
def armF (Z : ZZ) (k : Nat) : Int := smB (pays (Z 0)) k (ngd (Z 0))
def armH (Z : ZZ) (k : Int) : Int := smB (heft (Z 0)) k (ngd (Z 0))
def armR (Z : ZZ) (p : Nat) (k : Nat) : Int × Int := mx (fun b => and32 (b : Int) (stoZ Z) = b ∧ armH Z b ≤ Z 0 (33 + p)) (armF Z) (fun b => (b : Int)) 0 0 k
def sp_arms (Z : ZZ) (p w : Int) : Int := if (0 ≤ p ∧ p < Z 3 0) ∧ (0 ≤ w ∧ w ≤ 2) then (if w = 0 then (armR Z p.toNat ((stoZ Z).toNat + 1)).1 else if w = 1 then (armR Z p.toNat ((stoZ Z).toNat + 1)).2 else armH Z (armR Z p.toNat ((stoZ Z).toNat + 1)).1) else -1
theorem stoZ_b (hZ : ZB Z) : 0 ≤ stoZ Z ∧ stoZ Z < 2 ^ ngd (Z 0) ∧ (2 : Nat) ^ ngd (Z 0) ≤ 256 := by
  have h8 := ngd_le hZ.1
  have := stb_b (Z 0) (ngd (Z 0)) (by omega)
  have h2 : (2 : Nat) ^ ngd (Z 0) ≤ 2 ^ 8 := Nat.pow_le_pow_right (by decide) h8
  exact ⟨this.1, this.2, h2⟩
theorem armR_1 (hZ : ZB Z) (p : Nat) : armR Z p 1 = (0, 0) := by
  have h8 := ngd_le hZ.1
  refine mx_n (fun z => ?_)
  have e : armF Z 0 = 0 := smB_0 _ _ (by omega)
  have q : (0 : Int) < armF Z 0 := z.2
  rw [e] at q
  exact absurd q (by decide)
theorem H_arms {p w : Int} (hZ : ZB Z) (hR : RepC Z M) (hQ : ∀ M' : JM, RepC Z M' → keepR M M' → Q (sp_arms Z p w) M') : JC E mm_H_arms [vR 0 0, vI p, vI w] M Q := by
  unfold sp_arms at hQ
  refine vc_H_arms _ _ _ (H_isOne hZ hR (fun h => c10 (H_within (fun h2 => d10 (T_storeBits hR.1 hZ.1 ?_)) (fun h2 => d00 ?_))) (fun h => c00 ?_))
  · rw [if_pos ⟨h, h2⟩] at hQ
    obtain ⟨o1, o2⟩ := oN hZ h
    have h4 := np4 hZ
    obtain ⟨s1, s2, s3⟩ := stoZ_b hZ
    have e2 : ((2 ^ ngd (Z 0) : Nat) : Int) = (2 : Int) ^ ngd (Z 0) := by rw [Int.natCast_pow]; rfl
    have s4 : stoZ Z < 256 := by omega
    obtain ⟨S, hS⟩ : ∃ S : Nat, stoZ Z = S := ⟨(stoZ Z).toNat, by omega⟩
    rw [hS, Int.toNat_natCast] at hQ
    have key := up_ind (P := fun i => JG E mm_H_arms Q 36 [(0, vR 0 0), (1, vI p), (2, vI w), (3, vI (stoZ Z)), (4, vI (armR Z p.toNat (i + 1)).1), (5, vI (armR Z p.toNat (i + 1)).2), (6, vI ((i + 1 : Nat) : Int))] [] M) S ?_ ?_
    · rw [show armR Z p.toNat (0 + 1) = (0, 0) from armR_1 hZ _] at key
      exact key
    · have q := hQ M hR (keepR_rf M)
      refine vc_H_arms_36 _ _ _ _ _ _ _ ⟨fun _ => ⟨fun z => ?_, fun z => ?_, fun z => ?_⟩, fun z => by omega⟩
      · rw [if_neg z.1, if_neg z.2] at q
        exact T_heftOf hR.1 hZ.1 q
      · rw [if_pos z] at q; exact q
      · rw [if_neg (by omega), if_pos z] at q; exact q
    · intro i hi ih
      have no : ¬ ((and32 ((i + 1 : Nat) : Int) (stoZ Z) = ((i + 1 : Nat) : Int) ∧ armH Z ((i + 1 : Nat) : Int) ≤ Z 0 (33 + p.toNat)) ∧ (armR Z p.toNat (i + 1)).2 < armF Z (i + 1)) → ∀ a : Int, a = w32 (((i + 1 : Nat) : Int) + 1) → JG E mm_H_arms Q 36 [(0, vR 0 0), (1, vI p), (2, vI w), (3, vI (stoZ Z)), (4, vI (armR Z p.toNat (i + 1)).1), (5, vI (armR Z p.toNat (i + 1)).2), (6, vI a)] [] M := by
        intro z a ea
        have e : armR Z p.toNat (i + 1 + 1) = armR Z p.toNat (i + 1) := mx_n z
        rw [e] at ih
        rw [ea, w32_s (by omega)]
        exact ih
      refine vc_H_arms_36 _ _ _ _ _ _ _ ⟨fun z => by omega, fun _ => ⟨fun z => no (fun y => z ((andn (by unfold inR; omega)).mpr y.1.1)), fun z => T_heftOf hR.1 hZ.1 ⟨by omega, ?_⟩⟩⟩
      rw [show M 2 (4 * 0 + (M 5 0 p.toNat).toNat) 0 = Z 0 (33 + p.toNat) from (hR.1.2.2.1 p.toNat o1).1]
      refine ⟨fun z2 => no (fun y => Int.not_le.mpr z2 y.1.2), fun z2 => T_paysOf hR.1 hZ.1 ⟨fun z3 => no (fun y => Int.not_lt.mpr z3 y.2), fun z3 => T_paysOf hR.1 hZ.1 (fun a ea => ?_)⟩⟩
      have e : armR Z p.toNat (i + 1 + 1) = (((i + 1 : Nat) : Int), armF Z (i + 1)) := mx_y ⟨(andn (by unfold inR; omega)).mp z, z2⟩ z3
      rw [e] at ih
      rw [ea, w32_s (by omega)]
      exact ih
  · rw [if_neg (fun z => h2 z.2)] at hQ; exact hQ M hR (keepR_rf M)
  · rw [if_neg (fun z => h z.1)] at hQ; exact hQ M hR (keepR_rf M)
theorem M_arms {p w : Int} (hZ : ZB Z) (hR : RepR Z M) (hQ : ∀ M' : JM, RepR Z M' → keepC M M' → Q (sp_arms Z p w) M') : JC E mm_M_arms [vR 20 0, vI p, vI w] M Q := by
  unfold sp_arms at hQ
  refine vc_M_arms _ _ _ (M_isOne hZ hR (fun h => c10 (M_in (fun h2 => d10 (M_storeOn (b := 0) (by omega) hZ.1 hR.1 ?_)) (fun h2 => d00 ?_))) (fun h => c00 ?_))
  · rw [if_pos ⟨h, h2⟩] at hQ
    obtain ⟨o1, o2⟩ := oN hZ h
    have h4 := np4 hZ
    have h8 := ngd_le hZ.1
    have hn := ngd_int hZ.1
    obtain ⟨s1, s2, s3⟩ := stoZ_b hZ
    have e32 : M 21 0 32 = ((ngd (Z 0) : Nat) : Int) := by rw [hn]; exact hR.1.1 32 (by omega)
    have e33 : M 21 0 (33 + p.toNat) = Z 0 (33 + p.toNat) := by have := hR.1.1 (33 + p.toNat) (by omega); rw [Nat.zero_add] at this; exact this
    obtain ⟨S, hS⟩ : ∃ S : Nat, stoZ Z = S := ⟨(stoZ Z).toNat, by omega⟩
    rw [hS, Int.toNat_natCast] at hQ
    have hSn : S < 2 ^ ngd (Z 0) := by rw [hS] at s2; exact_mod_cast s2
    have h0 : armH Z 0 = 0 := smB_0 _ _ (by omega)
    have key := up_ind (P := fun i => JG E mm_M_arms Q 40 [(0, vR 20 0), (1, vI p), (2, vI w), (3, vI (stoZ Z)), (4, vI (armR Z p.toNat i).1), (5, vI (armR Z p.toNat i).2), (6, vI (armH Z (armR Z p.toNat i).1)), (7, vI (i : Int))] [] M) (2 ^ ngd (Z 0)) ?_ ?_
    · rw [show armR Z p.toNat 0 = (0, 0) from rfl, h0] at key
      exact key
    · have e : armR Z p.toNat (2 ^ ngd (Z 0)) = armR Z p.toNat (S + 1) := by
        rw [show 2 ^ ngd (Z 0) = (S + 1) + (2 ^ ngd (Z 0) - (S + 1)) by omega]
        refine mx_stop _ (fun k hk hk2 z => ?_)
        have z1 := z.1
        rw [hS, and_nat (by omega)] at z1
        have z2 : k &&& S ≤ S := Nat.and_le_right
        omega
      have q := hQ M hR (keepC_rf M)
      rw [e]
      rw [show vI (((2 ^ ngd (Z 0) : Nat)) : Int) = vI (((2 ^ ngd (Z 0) : Nat)) : Int) from rfl]
      refine vc_M_arms_40 _ _ _ _ _ _ _ _ ⟨fun _ => ⟨fun z => ⟨fun z2 => ?_, fun z2 => ?_⟩, fun z => ?_⟩, fun z => ?_⟩
      · rw [if_neg z, if_neg z2] at q; exact q
      · rw [if_neg z, if_pos z2] at q; exact q
      · rw [if_pos z] at q; exact q
      · rw [e32, shl1 (by omega)] at z; omega
    · intro k hk ih
      refine vc_M_arms_40 _ _ _ _ _ _ _ _ ⟨fun z => by rw [e32, shl1 (by omega)] at z; omega, fun _ => ?_⟩
      have no : ¬ ((and32 (k : Int) (stoZ Z) = (k : Int) ∧ armH Z (k : Int) ≤ Z 0 (33 + p.toNat)) ∧ (armR Z p.toNat k).2 < armF Z k) → ∀ a : Int, a = w32 ((k : Int) + 1) → JG E mm_M_arms Q 40 [(0, vR 20 0), (1, vI p), (2, vI w), (3, vI (stoZ Z)), (4, vI (armR Z p.toNat k).1), (5, vI (armR Z p.toNat k).2), (6, vI (armH Z (armR Z p.toNat k).1)), (7, vI a)] [] M := by
        intro z a ea
        have e : armR Z p.toNat (k + 1) = armR Z p.toNat k := mx_n z
        rw [e] at ih
        rw [ea, w32_s (by omega)]
        exact ih
      refine up_ind (P := fun i => JG E mm_M_arms Q 60 [(0, vR 20 0), (1, vI p), (2, vI w), (3, vI (stoZ Z)), (4, vI (armR Z p.toNat k).1), (5, vI (armR Z p.toNat k).2), (6, vI (armH Z (armR Z p.toNat k).1)), (7, vI (k : Int)), (8, vI (smB (heft (Z 0)) k i)), (9, vI (i : Int))] [] M) (ngd (Z 0)) ?_ ?_
      · refine vc_M_arms_60 _ _ _ _ _ _ _ _ _ _ ⟨fun _ => ⟨fun z => no (fun y => z y.1.1), fun z => ?_⟩, fun z => by rw [e32] at z; omega⟩
        rw [w32_id (x := 33 + p) (by omega) (by omega), show (33 + p).toNat = 33 + p.toNat by omega, e33]
        refine ⟨by omega, fun z2 => no (fun y => Int.not_le.mpr z2 y.1.2), fun z2 => M_paysAll (b := 0) (by omega) hZ.1 hR.1 ⟨fun z3 => no (fun y => Int.not_lt.mpr z3 y.2), fun z3 => M_paysAll (b := 0) (by omega) hZ.1 hR.1 (fun a ea => ?_)⟩⟩
        have e : armR Z p.toNat (k + 1) = ((k : Int), armF Z k) := mx_y ⟨z, z2⟩ z3
        rw [e] at ih
        rw [ea, w32_s (by omega)]
        exact ih
      · intro i hi ih2
        have hs := sm_b (f := fun g => if hb (k : Int) g then heft (Z 0) g else 0) (c := 18) (i + 1) (fun j hj => by have := heft_b hZ.1 (g := j) (by omega); split <;> omega)
        unfold smB at ih2 ⊢
        simp only [sm] at ih2 hs
        refine vc_M_arms_60 _ _ _ _ _ _ _ _ _ _ ⟨fun z => by rw [e32] at z; omega, fun _ => ⟨fun z => ?_, fun z => M_heftOn (b := 0) (by omega) hZ.1 hR.1 hi ?_⟩⟩
        · rw [if_neg z] at ih2 hs
          refine vc_M_arms_96 _ _ _ _ _ _ _ _ _ _ _ (fun a1 e1 a2 e2 => ?_)
          rw [e1, e2, w32_s (by omega), w32_id (by omega) (by omega)]
          exact ih2
        · rw [if_pos z] at ih2 hs
          refine vc_M_arms_96 _ _ _ _ _ _ _ _ _ _ _ (fun a1 e1 a2 e2 => ?_)
          rw [e1, e2, w32_s (by omega), w32_id (by omega) (by omega)]
          exact ih2
  · rw [if_neg (fun z => h2 z.2)] at hQ; exact hQ M hR (keepC_rf M)
  · rw [if_neg (fun z => h z.1)] at hQ; exact hQ M hR (keepC_rf M)
end

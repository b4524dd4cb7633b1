/-! luck and mean, in the reference -/
theorem and1_b (x : Int) : and32 x 1 = 0 ∨ and32 x 1 = 1 := by
  have e : (i32 x &&& i32 1).toBitVec.toNat = (i32 x).toBitVec.toNat &&& 1 := by
    rw [Int32.toBitVec_and, BitVec.toNat_and]
    rfl
  have h1 : (i32 x).toBitVec.toNat &&& 1 ≤ 1 := Nat.and_le_right
  have h2 : (i32 x &&& i32 1).toInt = ((i32 x &&& i32 1).toBitVec.toNat : Int) := by
    show BitVec.toInt _ = _
    rw [BitVec.toInt_eq_toNat_of_lt]
    rw [e]
    omega
  unfold and32
  rw [h2, e]
  omega
def illk (np s k : Nat) : Nat := s / 2 ^ (k * np) % 2 ^ np
def pgI (Z : ZZ) (s : Nat) : Nat → Nat → Int
  | 0 => cpy (Z 0)
  | k + 1 => wk (npz Z) (hoot (pgI Z s k)) (illk (npz Z) s k : Nat) (pgI Z s k)
def valI (Z : ZZ) (g : Int) (m s : Nat) : Int := if g = -4 then wag (npz Z) (pgI Z s m) - wag (npz Z) (Z 0) else and32 (shr32 (pgI Z s m 56) g) 1
def upT (Z : ZZ) (v g : Int) (m s : Nat) : Int := waysI v s (m * npz Z) * valI Z g m s
def upR (Z : ZZ) (v g : Int) (m k : Nat) : Int := sm (upT Z v g m) k
section
variable {E : EE} {Q : Int → JM → Prop} {M : JM} {Z : ZZ} {X : Nat → Int}
theorem R_weekOn {r : Nat} {ill : Int} (hr : r < 1000) (hR : RepR Z M) (hB : PB X (npz Z)) (hV : VR M 176 X (npz Z)) (hQ : ∀ M' : JM, RepR Z M' → VR M' 176 (wk (npz Z) r ill X) (npz Z) → M' 20 0 18 = wk (npz Z) r ill X 56 → fro M M' → Q 0 M') : JC E mm_M_weekOn [vR 20 0, vI 176, vI (r : Int), vI ill] M Q := by
  have q := eqv_wk2 (X := wct M X) (Y := X) (fun j hj => wct_lo (by omega)) r ill (wct_PB hB)
  refine M_weekOn (b := 176) hr (by omega) (wct_PB hB) (wct_V hV) wct_T (fun M' hV' _ h18 f => ?_)
  have f' := frb_fro (b := 176) (by omega) f
  exact hQ M' (fro_R f' hR) (VR_c hV' (fun j hj => (q j (by omega)).symm)) (h18.trans (q 56 (by omega))) f'
theorem pgI_up (hZ : ZB Z) (s : Nat) : ∀ k : Nat, upZ Z (pgI Z s k)
  | 0 => ⟨cpy_PB hZ.1, by show _ ≤ wag (npz Z) (cpy (Z 0)); rw [wag_cpy hZ.1.2.1]; exact Int.le_refl _⟩
  | k + 1 => by
    have ih := pgI_up hZ s k
    exact ⟨wk_PB ih.1 _ _, Int.le_trans ih.2 (wag_wk ih.1 _ _)⟩
theorem valI_b (hZ : ZB Z) (g : Int) (m s : Nat) : 0 ≤ valI Z g m s ∧ valI Z g m s ≤ 3996 := by
  have a := pgI_up hZ s m
  have b := wag_b a.1
  have c := wag_b hZ.1
  have d := a.2
  have e := and1_b (shr32 (pgI Z s m 56) g)
  unfold valI
  split <;> omega
theorem upT_b {v g : Int} {m s : Nat} (hm : m ≤ 2) (hv : 0 ≤ v ∧ v ≤ 10) (hZ : ZB Z) : 0 ≤ upT Z v g m s ∧ upT Z v g m s ≤ 100000000 * 3996 := by
  have hk : m * npz Z ≤ 2 * 4 := Nat.mul_le_mul hm hZ.1.2.1
  have a := waysI_b (ill := s) hv (m * npz Z)
  have b := pw10_b (m * npz Z) hk
  exact mul_b (A := 100000000) (B := 3996) (by omega) (valI_b hZ g m s)
theorem upR_b {v g : Int} {m : Nat} (hm : m ≤ 2) (hv : 0 ≤ v ∧ v ≤ 10) (hZ : ZB Z) (k : Nat) : 0 ≤ upR Z v g m k ∧ upR Z v g m k ≤ k * (100000000 * 3996) := sm_b k (fun _ _ => upT_b hm hv hZ)
theorem M_byIllness {v g w : Int} {m : Nat} (hm : m ≤ 2) (hg : g = -4 ∨ 1 ≤ m) (hv : 0 ≤ v ∧ v ≤ 10) (hZ : ZB Z) (hR : RepR Z M) (hQ : ∀ M' : JM, RepR Z M' → keepC M M' → Q (frc (upR Z v g m (2 ^ (m * npz Z))).toNat (pw10 (m * npz Z)).toNat w) M') : JC E mm_M_byIllness [vR 20 0, vI v, vI g, vI (m : Int), vI w] M Q := by
  have h4 := hZ.1.2.1
  have hk : m * npz Z ≤ 2 * 4 := Nat.mul_le_mul hm h4
  have hK : w32 ((m : Int) * ((npz Z : Nat) : Int)) = ((m * npz Z : Nat) : Int) := by rw [← Int.natCast_mul, w32_id (by omega) (by omega)]
  have h2K : 2 ^ (m * npz Z) ≤ 256 := (Nat.pow_le_pow_right (by decide) hk : 2 ^ (m * npz Z) ≤ 2 ^ (2 * 4))
  have h2n : 2 ^ npz Z ≤ 16 := pow_b hZ
  have h2p : 1 ≤ 2 ^ npz Z := Nat.one_le_two_pow
  have tb := pw10_b (m * npz Z) hk
  refine vc_M_byIllness _ _ _ _ _ ?_
  refine up_ind (P := fun i => JG E mm_M_byIllness Q 9 [(0, vR 20 0), (1, vI v), (2, vI g), (3, vI (m : Int)), (4, vI w), (5, vL 0), (7, vL (pw10 i)), (9, vI (i : Int))] [] M) (m * npz Z) ?_ ?_
  · refine vc_M_byIllness_9 _ _ _ _ _ _ _ _ ⟨fun _ => ?_, fun z => by rw [hR.1.2, hK] at z; omega⟩
    refine up_ind (P := fun s => ∀ M' : JM, RepR Z M' → fro M M' → JG E mm_M_byIllness Q 37 [(0, vR 20 0), (1, vI v), (2, vI g), (3, vI (m : Int)), (4, vI w), (5, vL (upR Z v g m s)), (7, vL (pw10 (m * npz Z))), (9, vI (s : Int))] [] M') (2 ^ (m * npz Z)) ?_ ?_ M hR (fro_rf M)
    · intro M' r f
      have ub := upR_b (g := g) hm hv hZ (2 ^ (m * npz Z))
      refine vc_M_byIllness_37 _ _ _ _ _ _ _ _ ⟨fun _ => ?_, fun z => by rw [r.1.2, hK, shl1 (by omega)] at z; omega⟩
      rw [show upR Z v g m (2 ^ (m * npz Z)) = (((upR Z v g m (2 ^ (m * npz Z))).toNat : Nat) : Int) by omega, show pw10 (m * npz Z) = (((pw10 (m * npz Z)).toNat : Nat) : Int) by omega]
      exact M_lowest (by omega) (by omega) (by omega) (hQ M' r (fro_keepC f))
    · intro s hs ih M' r f
      have ub := upR_b (g := g) hm hv hZ s
      have ub2 := upT_b (g := g) (s := s) hm hv hZ
      refine vc_M_byIllness_37 _ _ _ _ _ _ _ _ ⟨fun z => by rw [r.1.2, hK, shl1 (by omega)] at z; omega, fun _ => R_copy (c := 176) (by omega) r (fun M1 r1 v1 f1 => ?_)⟩
      have ff := fro_tr f f1
      refine up_ind (P := fun p => JG E mm_M_byIllness Q 64 [(0, vR 20 0), (1, vI v), (2, vI g), (3, vI (m : Int)), (4, vI w), (5, vL (upR Z v g m s)), (7, vL (pw10 (m * npz Z))), (9, vI (s : Int)), (10, vL (waysI v s p)), (12, vI (p : Int))] [] M1) (m * npz Z) ?_ ?_
      · refine vc_M_byIllness_64 _ _ _ _ _ _ _ _ _ _ ⟨fun _ => ?_, fun z => by rw [r1.1.2, hK] at z; omega⟩
        refine up_ind (P := fun k => ∀ M' : JM, RepR Z M' → VR M' 176 (pgI Z s k) (npz Z) → (1 ≤ k → M' 20 0 18 = pgI Z s k 56) → fro M M' → JG E mm_M_byIllness Q 110 [(0, vR 20 0), (1, vI v), (2, vI g), (3, vI (m : Int)), (4, vI w), (5, vL (upR Z v g m s)), (7, vL (pw10 (m * npz Z))), (9, vI (s : Int)), (10, vL (waysI v s (m * npz Z))), (12, vI (k : Int))] [] M') m ?_ ?_ M1 r1 v1 (fun z => by omega) ff
        · intro M2 r2 v2 g2 f2
          have pu := pgI_up hZ s m
          have wb := wag_b pu.1
          have wb2 := wag_b hZ.1
          have q := ih M2 r2 f2
          rw [show upR Z v g m (s + 1) = upR Z v g m s + upT Z v g m s from rfl] at q
          have last : ∀ x : Int, x = valI Z g m s → JG E mm_M_byIllness Q 192 [(0, vR 20 0), (1, vI v), (2, vI g), (3, vI (m : Int)), (4, vI w), (7, vL (pw10 (m * npz Z))), (9, vI (s : Int))] [vI x, vL (waysI v s (m * npz Z)), vL (upR Z v g m s)] M2 := by
            intro x hx
            refine vc_M_byIllness_192 _ _ _ _ _ _ _ _ _ _ (fun a1 e1 a2 e2 => ?_)
            unfold upT at q ub2
            rw [hx, w64_id (x := waysI v s (m * npz Z) * _) (by omega) (by omega), w64_id (by omega) (by omega)] at e1
            rw [e1, e2, w32_s (by omega)]
            exact q
          refine vc_M_byIllness_110 _ _ _ _ _ _ _ _ _ _ ⟨fun _ => ⟨fun y => last _ ?_, fun y => M_wagesOn (b := 176) (by omega) pu.1 v2 (M_wagesOn (b := 0) (by omega) hZ.1 r2.1 (last _ ?_))⟩, fun z => by omega⟩
          · unfold valI
            rw [if_neg y, g2 (by omega)]
          · unfold valI
            rw [if_pos y, w32_id (by omega) (by omega)]
        · intro k hkm ih2 M2 r2 v2 g2 f2
          have pu := pgI_up hZ s k
          obtain ⟨h6, hh⟩ := hoot_b pu.1
          have hkn : k * npz Z ≤ 2 * 4 := Nat.mul_le_mul (by omega) h4
          have hK2 : w32 ((k : Int) * ((npz Z : Nat) : Int)) = ((k * npz Z : Nat) : Int) := by rw [← Int.natCast_mul, w32_id (by omega) (by omega)]
          have e41 : M2 21 0 217 = pgI Z s k 41 := v2.1 41 (by omega)
          have hdl : s / 2 ^ (k * npz Z) ≤ s := Nat.div_le_self _ _
          refine vc_M_byIllness_110 _ _ _ _ _ _ _ _ _ _ ⟨fun z => by omega, fun _ => ?_⟩
          rw [e41, w32_id (x := pgI Z s k 41 + 2) (by omega) (by omega), ← hh, r2.1.2, hK2, shr_nat (by omega) (by omega), shl1 (by omega), show ((2 ^ npz Z : Nat) : Int) - 1 = ((2 ^ npz Z - 1 : Nat) : Int) by omega, w32_id (by omega) (by omega), and_nat (by omega), Nat.and_two_pow_sub_one_eq_mod]
          refine R_weekOn (by omega) r2 pu.1 v2 (fun M3 r3 v3 g3 f3 a ea => ?_)
          rw [ea, w32_s (by omega)]
          exact ih2 M3 r3 v3 (fun _ => g3) (fro_tr f2 f3)
      · intro p hp ih2
        have wb := waysI_b (ill := s) hv p
        have wb2 := waysI_b (ill := s) hv (p + 1)
        have pb := pw10_b p (by omega)
        have pb2 := pw10_b (p + 1) (by omega)
        refine vc_M_byIllness_64 _ _ _ _ _ _ _ _ _ _ ⟨fun z => by rw [r1.1.2, hK] at z; omega, fun _ => ⟨fun y => ?_, fun y => ?_⟩⟩
        · rw [show waysI v s (p + 1) = waysI v s p * (10 - v) by rw [waysI, if_neg y]] at ih2 wb2
          refine vc_M_byIllness_98 _ _ _ _ _ _ _ _ _ _ _ (fun a1 e1 a2 e2 => ?_)
          rw [w32_id (x := 10 - v) (by omega) (by omega)] at e1
          rw [e1, e2, w32_s (by omega), w64_id (by omega) (by omega)]
          exact ih2
        · rw [show waysI v s (p + 1) = waysI v s p * v by rw [waysI, if_pos y]] at ih2 wb2
          refine vc_M_byIllness_98 _ _ _ _ _ _ _ _ _ _ _ (fun a1 e1 a2 e2 => ?_)
          rw [e1, e2, w32_s (by omega), w64_id (by omega) (by omega)]
          exact ih2
  · intro i hi ih
    have pb := pw10_b i (by omega)
    refine vc_M_byIllness_9 _ _ _ _ _ _ _ _ ⟨fun z => by rw [hR.1.2, hK] at z; omega, fun _ a1 e1 a2 e2 => ?_⟩
    rw [show pw10 (i + 1) = pw10 i * 10 from rfl] at ih
    rw [e1, e2, w32_s (by omega), w64_id (by omega) (by omega)]
    exact ih
theorem illk_0 {np s : Nat} (h : s < 2 ^ np) : illk np s 0 = s := by
  unfold illk
  rw [Nat.zero_mul, Nat.pow_zero, Nat.div_one, Nat.mod_eq_of_lt h]
theorem wk_56 (hB : PB X (npz Z)) (r : Nat) (ill : Int) : wk (npz Z) r ill X 56 = rnds (npz Z) ill (clr X) r 56 := by
  rw [wk_57 hB r ill (by omega), payN_lo _ _ hB.2.1 _ (by omega)]
theorem up_luck {v g : Int} (hg : 0 ≤ g) (hZ : ZB Z) : upR Z v g 1 (2 ^ (1 * npz Z)) = luckU Z v g (2 ^ npz Z) := by
  rw [Nat.one_mul]
  refine sm_c _ (fun s hs => ?_)
  unfold upT valI luckT wyZ
  rw [Nat.one_mul, if_neg (by omega)]
  show waysI v s (npz Z) * and32 (shr32 (wk (npz Z) (hoot (cpy (Z 0))) (illk (npz Z) s 0 : Nat) (cpy (Z 0)) 56) g) 1 = _
  rw [illk_0 hs, wk_56 (cpy_PB hZ.1)]
  by_cases q : hb (rnds (npz Z) (s : Int) (clr (cpy (Z 0))) (hoot (cpy (Z 0))) 56) g
  · rw [if_pos q]
    have q' : and32 (shr32 (rnds (npz Z) (s : Int) (clr (cpy (Z 0))) (hoot (cpy (Z 0))) 56) g) 1 = 1 := q
    rw [q', Int.mul_one]
  · rw [if_neg q]
    have q' : and32 (shr32 (rnds (npz Z) (s : Int) (clr (cpy (Z 0))) (hoot (cpy (Z 0))) 56) g) 1 = 0 := (and1_b _).resolve_right q
    rw [q', Int.mul_zero]
theorem up_mean1 {v : Int} (hZ : ZB Z) : upR Z v (-4) 1 (2 ^ (1 * npz Z)) = gain1 Z v (Z 0) (2 ^ npz Z) := by
  rw [Nat.one_mul]
  refine sm_c _ (fun s hs => ?_)
  unfold upT valI gainT wyZ
  rw [Nat.one_mul, if_pos rfl]
  show waysI v s (npz Z) * (wag (npz Z) (wk (npz Z) (hoot (cpy (Z 0))) (illk (npz Z) s 0 : Nat) (cpy (Z 0))) - wag (npz Z) (Z 0)) = _
  rw [illk_0 hs]
theorem up_mean0 {v : Int} (hZ : ZB Z) : upR Z v (-4) 0 (2 ^ (0 * npz Z)) = 0 := by
  rw [Nat.zero_mul]
  show (0 : Int) + waysI v 0 (0 * npz Z) * (wag (npz Z) (cpy (Z 0)) - wag (npz Z) (Z 0)) = 0
  rw [wag_cpy hZ.1.2.1, Int.sub_self, Int.mul_zero]
  rfl
theorem up_mean2 {v : Int} (hZ : ZB Z) : upR Z v (-4) 2 (2 ^ (2 * npz Z)) = gain2 Z v (2 ^ npz Z) := by
  have h4 := hZ.1.2.1
  have h2n := pow_b hZ
  unfold upR
  rw [show 2 ^ (2 * npz Z) = 2 ^ npz Z * 2 ^ npz Z by rw [Nat.two_mul, Nat.pow_add], sm_flat]
  have term : ∀ b a : Nat, b < 2 ^ npz Z → a < 2 ^ npz Z → upT Z v (-4) 2 (2 ^ npz Z * b + a) = wyZ Z v a * gainT Z v (halfX Z a) b := by
    intro b a hb0 ha
    have hs : 2 ^ npz Z * b + a < 2 ^ 31 := by
      have : 2 ^ npz Z * b ≤ 16 * 16 := Nat.mul_le_mul h2n (by omega)
      omega
    have d1 : (2 ^ npz Z * b + a) / 2 ^ npz Z = b := by rw [Nat.mul_add_div (by omega), Nat.div_eq_of_lt ha, Nat.add_zero]
    have d2 : (2 ^ npz Z * b + a) % 2 ^ npz Z = a := by rw [Nat.mul_add_mod, Nat.mod_eq_of_lt ha]
    have i0 : illk (npz Z) (2 ^ npz Z * b + a) 0 = a := by unfold illk; rw [Nat.zero_mul, Nat.pow_zero, Nat.div_one, d2]
    have i1 : illk (npz Z) (2 ^ npz Z * b + a) 1 = b := by unfold illk; rw [Nat.one_mul, d1, Nat.mod_eq_of_lt hb0]
    have p1 : pgI Z (2 ^ npz Z * b + a) 1 = halfX Z a := by
      show wk (npz Z) (hoot (cpy (Z 0))) (illk (npz Z) (2 ^ npz Z * b + a) 0 : Nat) (cpy (Z 0)) = _
      rw [i0]; rfl
    have p2 : pgI Z (2 ^ npz Z * b + a) 2 = wk (npz Z) (hoot (halfX Z a)) b (halfX Z a) := by
      show wk (npz Z) (hoot (pgI Z (2 ^ npz Z * b + a) 1)) (illk (npz Z) (2 ^ npz Z * b + a) 1 : Nat) (pgI Z (2 ^ npz Z * b + a) 1) = _
      rw [p1, i1]
    have eh : hoot (cpy (halfX Z a)) = hoot (halfX Z a) := by unfold hoot; rw [cpy_lo (by omega)]
    have ew : wag (npz Z) (wk (npz Z) (hoot (halfX Z a)) b (cpy (halfX Z a))) = wag (npz Z) (wk (npz Z) (hoot (halfX Z a)) b (halfX Z a)) := sm_c _ (fun p hp => eqv_wk2 (X := cpy (halfX Z a)) (Y := halfX Z a) (fun j hj => cpy_lo (by omega)) _ _ (cpy_PB (upZ_h hZ a).1) (37 + p) (by omega))
    unfold upT valI gainT wyZ
    rw [if_pos rfl, p2, eh, ew, Nat.two_mul, waysI_a hs (npz Z) (by omega), waysI_m hs (a := npz Z) (by omega) (npz Z) (Nat.le_refl _), d1, d2, Int.mul_assoc]
  rw [sm_c (g := fun b => sm (fun a => wyZ Z v a * gainT Z v (halfX Z a) b) (2 ^ npz Z)) _ (fun b hb0 => sm_c _ (fun a ha => term b a hb0 ha)), sm_swap]
  refine sm_c _ (fun a ha => ?_)
  rw [sm_mul]
  rfl
theorem M_luck {v g w : Int} (hZ : ZB Z) (hR : RepR Z M) (hQ : ∀ M' : JM, RepR Z M' → keepC M M' → Q (sp_luck Z v g w) M') : JC E mm_M_luck [vR 20 0, vI v, vI g, vI w] M Q := by
  unfold sp_luck at hQ
  refine vc_M_luck _ _ _ _ (M_in (fun h => c10 (M_isGoods hZ hR (fun hg => c10 (M_in (fun h2 => c10 ?_) (fun h2 => c00 ?_))) (fun hg => c00 ?_))) (fun h => c00 ?_))
  · rw [if_pos ⟨h, hg, h2⟩] at hQ
    refine M_byIllness (m := 1) (by omega) (by omega) h hZ hR ?_
    rw [up_luck hg.1 hZ, Nat.one_mul]
    exact hQ
  · rw [if_neg (fun z => h2 z.2.2)] at hQ; exact hQ M hR (keepC_rf M)
  · rw [if_neg (fun z => hg z.2.1)] at hQ; exact hQ M hR (keepC_rf M)
  · rw [if_neg (fun z => h z.1)] at hQ; exact hQ M hR (keepC_rf M)
theorem M_mean {v n w : Int} (hZ : ZB Z) (hR : RepR Z M) (hQ : ∀ M' : JM, RepR Z M' → keepC M M' → Q (sp_mean Z v n w) M') : JC E mm_M_mean [vR 20 0, vI v, vI n, vI w] M Q := by
  unfold sp_mean at hQ
  refine vc_M_mean _ _ _ _ (M_in (fun h => c10 (M_in (fun hg => c10 (M_in (fun h2 => c10 ?_) (fun h2 => c00 ?_))) (fun hg => c00 ?_))) (fun h => c00 ?_))
  · rw [if_pos ⟨h, hg, h2⟩] at hQ
    rcases (show n = 0 ∨ n = 1 ∨ n = 2 by omega) with y | y | y <;> subst y
    · rw [if_pos rfl] at hQ
      refine M_byIllness (m := 0) (by omega) (Or.inl rfl) h hZ hR ?_
      rw [up_mean0 hZ, Nat.zero_mul]
      exact hQ
    · rw [if_neg (by decide), if_pos rfl] at hQ
      refine M_byIllness (m := 1) (by omega) (Or.inl rfl) h hZ hR ?_
      rw [up_mean1 hZ, Nat.one_mul]
      exact hQ
    · rw [if_neg (by decide), if_neg (by decide)] at hQ
      refine M_byIllness (m := 2) (by omega) (Or.inl rfl) h hZ hR ?_
      rw [up_mean2 hZ]
      exact hQ
  · rw [if_neg (fun z => h2 z.2.2)] at hQ; exact hQ M hR (keepC_rf M)
  · rw [if_neg (fun z => hg z.2.1)] at hQ; exact hQ M hR (keepC_rf M)
  · rw [if_neg (fun z => h z.1)] at hQ; exact hQ M hR (keepC_rf M)
end

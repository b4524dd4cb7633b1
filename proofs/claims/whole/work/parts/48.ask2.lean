/-! ask -/
def mn (f lab : Nat → Int) (r : Int × Int) : Nat → Int × Int
  | 0 => r
  | k + 1 => if f k < (mn f lab r k).2 then (lab k, f k) else mn f lab r k
def askF (Z : ZZ) (p w q : Nat) (t : Nat) : Int := wks (npz Z) (chg Z (33 + p) t) w (37 + q)
def askW (Z : ZZ) (p w q : Nat) : Int := wr (strZ Z p) (askF Z p w q) 20
def askI (Z : ZZ) (p w : Nat) (r : Int × Int) (k : Nat) : Int × Int := mn (fun q => askW Z p w q) (fun q => 10 * (w : Int) + q) r k
def askR (Z : ZZ) (p : Nat) : Nat → Int × Int
  | 0 => (-4, ((pcn (strZ Z p).toNat 20 : Nat) : Int))
  | w + 1 => askI Z p w (askR Z p w) (npz Z)
def sp_ask (Z : ZZ) (p w : Int) : Int := if (0 ≤ p ∧ p < Z 3 0) ∧ (0 ≤ w ∧ w ≤ 1) then (if (askR Z p.toNat 21).1 = -4 then -4 else if w = 0 then (askR Z p.toNat 21).1 else (askR Z p.toNat 21).2) else -1
section
variable {E : EE} {Q : Int → JM → Prop} {M : JM} {Z : ZZ} {X : Nat → Int}
theorem strZ_b (Z : ZZ) (p : Nat) : 0 ≤ strZ Z p ∧ strZ Z p < 2097152 := by
  have := nmb_b (f := fun v => okZ Z (chg Z (33 + p) v)) (lo := 1) 20 (by omega)
  exact this
theorem nmb_0 {f : Nat → Int} : ∀ i : Nat, i ≤ 29 → ¬ hb (nmb f 1 i) 0
  | 0, _ => hb_0 (k := 0) (by omega)
  | i + 1, h => by
    have ih := nmb_0 (f := f) i (by omega)
    have b := nmb_b (f := f) (lo := 1) i (by omega)
    have hr := nmb_R (f := f) (lo := 1) (i := i) (by omega)
    unfold inR at hr
    unfold nmb
    split
    · exact ih
    · intro q
      rcases (hb_or (x := nmb f 1 i) (g := 1 + i) (k := 0) b.1 (by omega) (by omega) (by omega)).mp q with z | z
      · exact ih z
      · omega
theorem strZ_0 (Z : ZZ) (p : Nat) : (strZ Z p).toNat % 2 = 0 := by
  have b := strZ_b Z p
  have h : ¬ hb (strZ Z p) 0 := nmb_0 20 (by omega)
  have e : strZ Z p = (((strZ Z p).toNat : Nat) : Int) := by omega
  rw [e] at h
  rw [show (0 : Int) = ((0 : Nat) : Int) from rfl, hb_nat (by omega) (by omega)] at h
  rw [Nat.testBit_zero] at h
  simp at h
  omega
/-- the rows that are foretold, alone -/
def fr16 (M M' : JM) : Prop := ∀ t i k, ¬ (t = 16) → M' t i k = M t i k
theorem fr16_R {M' : JM} (h : fr16 M M') (hR : RepC Z M) : RepC Z M' := by
  obtain ⟨r4, r5, r6, r7⟩ := hR.2.2.2
  refine RepC_gen hR (fun t i k q => h t i k (by omega)) ⟨rfl, rfl, rfl, rfl, rfl, rfl⟩ ⟨?_, fun j hj => ?_⟩ ⟨?_, fun i j hi hj => ?_⟩ ⟨?_, ?_⟩ (fun i hi => ⟨?_, ?_, fun j hj => ?_⟩)
  · rw [h 9 _ _ (by omega)]; exact r4.1
  · rw [h 10 _ _ (by omega)]; exact r4.2 j hj
  · rw [h 0 _ _ (by omega)]; exact r5.1
  · rw [h 8 _ _ (by omega)]; exact r5.2 i j hi hj
  · rw [h 0 _ _ (by omega)]; exact r6.1
  · rw [h 0 _ _ (by omega)]; exact r6.2
  · rw [h 6 _ _ (by omega)]; exact (r7 i hi).1
  · rw [h 6 _ _ (by omega)]; exact (r7 i hi).2.1
  · rw [h 7 _ _ (by omega)]; exact (r7 i hi).2.2 j hj
theorem H_foretellRow {s : Nat} (hs : s < 21) (hZ : ZB Z) (hR : RepC Z M) (hB : PB X (npz Z)) (hV : VC M 1 X (npz Z)) (hT : VT M 1 X) (hQ : ∀ M' : JM, RepC Z M' → keepR M M' → (∀ k p, k < 21 → p < npz Z → M' 16 s (4 * k + p) = wks (npz Z) X k (37 + p)) → (∀ i k, ¬ i = s → M' 16 i k = M 16 i k) → Q 0 M') : JC E mm_H_foretellRow [vR 0 0, vI (s : Int)] M Q := by
  have h4 := hZ.1.2.1
  refine vc_H_foretellRow _ _ ?_
  refine up_ind (P := fun i => ∀ M' : JM, RepC Z M' → VC M' 1 (wks (npz Z) X i) (npz Z) → VT M' 1 (wks (npz Z) X i) → keepR M M' → (∀ k p, k < i → p < npz Z → M' 16 s (4 * k + p) = wks (npz Z) X k (37 + p)) → (∀ i k, ¬ i = s → M' 16 i k = M 16 i k) → JG E mm_H_foretellRow Q 2 [(0, vR 0 0), (1, vI (s : Int)), (2, vI (i : Int))] [] M') 21 ?_ ?_ M hR hV hT (keepR_rf M) (fun k p hk => by omega) (fun _ _ _ => rfl)
  · intro M' r v t k w o
    exact vc_H_foretellRow_2 _ _ _ ⟨fun _ => hQ M' r k w o, fun z => by omega⟩
  · intro i hi ih M' r v t k w o
    refine vc_H_foretellRow_2 _ _ _ ⟨fun z => by omega, fun _ => ?_⟩
    refine up_ind (P := fun p => ∀ M' : JM, RepC Z M' → VC M' 1 (wks (npz Z) X i) (npz Z) → VT M' 1 (wks (npz Z) X i) → keepR M M' → (∀ k p, k < i → p < npz Z → M' 16 s (4 * k + p) = wks (npz Z) X k (37 + p)) → (∀ q, q < p → M' 16 s (4 * i + q) = wks (npz Z) X i (37 + q)) → (∀ i k, ¬ i = s → M' 16 i k = M 16 i k) → JG E mm_H_foretellRow Q 10 [(0, vR 0 0), (1, vI (s : Int)), (2, vI (i : Int)), (3, vI (p : Int))] [] M') (npz Z) ?_ ?_ M' r v t k w (fun q hq => by omega) o
    · intro M2 r2 v2 t2 k2 w2 x2 o2
      refine vc_H_foretellRow_10 _ _ _ _ ⟨fun _ => T_passWeek (wks_PB hB i) v2 t2 (fun M3 v3 t3 _ f3 a ea => ?_), fun z => by rw [r2.1.1.2.1] at z; omega⟩
      rw [ea, w32_s (by omega)]
      refine ih M3 (RepC_fra (Or.inl rfl) hZ f3 r2) v3 t3 (keepR_tr k2 (fra_keepR f3)) (fun k p hk hp => ?_) (fun i' k q => by rw [f3 16 _ _ (by omega)]; exact o2 i' k q)
      rw [f3 16 _ _ (by omega)]
      by_cases q : k = i
      · rw [q]; exact x2 p hp
      · exact w2 k p (by omega) hp
    · intro p hp ih2 M2 r2 v2 t2 k2 w2 x2 o2
      refine vc_H_foretellRow_10 _ _ _ _ ⟨fun z => by rw [r2.1.1.2.1] at z; omega, fun _ => ?_⟩
      rw [w32_id (x := (i : Int) * 4) (by omega) (by omega), w32_id (x := (i : Int) * 4 + (p : Int)) (by omega) (by omega), show ((i : Int) * 4 + (p : Int)).toNat = 4 * i + p by omega, Int.toNat_natCast, Int.toNat_natCast]
      refine ⟨by omega, by omega, by omega, fun M4 e4 a ea => ?_⟩
      rw [show M2 2 (4 * 1 + (M2 5 1 p).toNat) 1 = wks (npz Z) X i (37 + p) from (v2.2.2.1 p hp).2] at e4
      have f4 : fr16 M2 M4 := fun t i k q => by rw [e4, pt_ne (by omega)]
      rw [ea, w32_s (by omega)]
      refine ih2 M4 (fr16_R f4 r2) (VC_eq5 (fun t i k q => f4 t i k (by omega)) v2) ⟨by rw [f4 3 _ _ (by omega)]; exact t2.1, by rw [f4 3 _ _ (by omega)]; exact t2.2⟩ (keepR_tr k2 (by rw [e4]; exact keepR_pt (by omega))) (fun k q hk hq => by rw [e4, pt_ne (by omega)]; exact w2 k q hk hq) (fun q hq => ?_) (fun i' k q => by rw [e4, pt_ne (by omega)]; exact o2 i' k q)
      by_cases y : q = p
      · rw [y, e4, pt_eq]
      · rw [e4, pt_ne (by omega)]; exact x2 q (by omega)
theorem H_foretell {p : Int} {c : Int} (hZ : ZB Z) (hR : RepC Z M) (h : 0 ≤ p ∧ p < Z 3 0) (hQ : ∀ M' : JM, RepC Z M' → keepR M M' → (∀ t w q : Nat, 1 ≤ t → t < 21 → hb c (t : Int) → w < 21 → q < npz Z → M' 16 t (4 * w + q) = askF Z p.toNat w q t) → Q 0 M') : JC E mm_H_foretell [vR 0 0, vI p, vI c] M Q := by
  obtain ⟨o1, o2⟩ := oN hZ h
  have h4 := np4 hZ
  refine vc_H_foretell _ _ _ ?_
  refine up_ind (P := fun i => ∀ M' : JM, RepC Z M' → keepR M M' → (∀ t w q : Nat, 1 ≤ t → t < 1 + i → hb c (t : Int) → w < 21 → q < npz Z → M' 16 t (4 * w + q) = askF Z p.toNat w q t) → JG E mm_H_foretell Q 2 [(0, vR 0 0), (1, vI p), (2, vI c), (3, vI ((1 + i : Nat) : Int))] [] M') 20 ?_ ?_ M hR (keepR_rf M) (fun t w q h1 h2 => by omega)
  · intro M' r k w
    exact vc_H_foretell_2 _ _ _ _ ⟨fun _ => hQ M' r k (fun t ww q a b => w t ww q a (by omega)), fun z => by omega⟩
  · intro i hi ih M' r k w
    refine vc_H_foretell_2 _ _ _ _ ⟨fun z => by omega, fun _ => H_hasBit (fun y => c10 ?_) (fun y => c00 (fun a ea => ?_))⟩
    · refine T_copyFrom (by decide) hZ.1 r.1 (r.2.1 1 (by omega)) (fun M1 v1 t1 f1 => ⟨by omega, fun M3 e3 => ?_⟩)
      have r1 := RepC_fra (Or.inl rfl) hZ f1 r
      obtain ⟨r3, v3, t3, k3⟩ := C_str hZ r1 o1 v1 t1 e3
      refine H_foretellRow (by omega) hZ r3 (chg_str hZ o1 (by omega)) v3 t3 (fun M4 r4 k4 w4 o4 a ea => ?_)
      rw [ea, w32_s (by omega)]
      refine ih M4 r4 (keepR_tr k (keepR_tr (fra_keepR f1) (keepR_tr k3 k4))) (fun t ww q a b hbt hw hq => ?_)
      by_cases z : t = 1 + i
      · rw [z]; exact w4 ww q hw hq
      · rw [o4 t _ z, e3, pt_ne (by omega), f1 16 _ _ (by omega)]
        exact w t ww q a (by omega) hbt hw hq
    · rw [ea, w32_s (by omega)]
      refine ih M' r k (fun t ww q a b hbt hw hq => ?_)
      by_cases z : t = 1 + i
      · rw [z] at hbt; exact absurd hbt y
      · exact w t ww q a (by omega) hbt hw hq
theorem alh_0 {c : Int} {f : Nat → Int} {s : Nat} : ∀ n : Nat, n < s → alh c f s n = 0
  | 0, _ => rfl
  | n + 1, h => by
    unfold alh
    rw [alh_0 n (by omega), if_neg (fun z => by omega)]
    rfl
theorem alh_b {c : Int} {f : Nat → Int} {s : Nat} : ∀ n : Nat, 0 ≤ alh c f s n ∧ alh c f s n ≤ n
  | 0 => ⟨Int.le_refl _, Int.le_refl _⟩
  | n + 1 => by
    have := alh_b (c := c) (f := f) (s := s) n
    unfold alh
    split <;> omega
theorem H_alikeFrom {s col : Nat} {c : Int} {f : Nat → Int} (hs : 1 ≤ s ∧ s < 21) (hcol : col < 84) (hc : hb c (s : Int)) (hf : ∀ t : Nat, 1 ≤ t → t < 21 → hb c (t : Int) → M 16 t col = f t) (hQ : Q (alh c f s 20) M) : JC E mm_H_alikeFrom [vR 0 0, vI (s : Int), vI c, vI (col : Int)] M Q := by
  refine vc_H_alikeFrom _ _ _ _ ?_
  have key := up_ind (P := fun i => JG E mm_H_alikeFrom Q 6 [(0, vR 0 0), (1, vI (s : Int)), (2, vI c), (3, vI (col : Int)), (4, vI (alh c f s (s - 1 + i))), (5, vI ((s + i : Nat) : Int))] [] M) (21 - s) ?_ ?_
  · rw [alh_0 _ (by omega)] at key
    exact key
  · rw [show s - 1 + (21 - s) = 20 by omega]
    exact vc_H_alikeFrom_6 _ _ _ _ _ _ ⟨fun _ => hQ, fun z => by omega⟩
  · intro i hi ih
    have ab := alh_b (c := c) (f := f) (s := s) (s - 1 + i)
    have e1 : s - 1 + (i + 1) = (s - 1 + i) + 1 := by omega
    have e2 : s - 1 + i + 1 = s + i := by omega
    rw [e1] at ih
    refine vc_H_alikeFrom_6 _ _ _ _ _ _ ⟨fun z => by omega, fun _ => H_hasBit (fun y => c10 ?_) (fun y => c00 (fun a ea => ?_))⟩
    · rw [Int.toNat_natCast, Int.toNat_natCast, Int.toNat_natCast, hf (s + i) (by omega) (by omega) y, hf s hs.1 hs.2 hc]
      refine ⟨by omega, by omega, by omega, by omega, fun z a ea => ?_, fun z a ea a2 ea2 => ?_⟩
      · rw [ea, w32_s (by omega)]
        rw [show alh c f s (s - 1 + i + 1) = alh c f s (s - 1 + i) by rw [alh, if_neg (fun q => z (by rw [e2] at q; exact q.2.2)), Int.add_zero]] at ih
        exact ih
      · rw [ea, ea2, w32_s (by omega), w32_id (by omega) (by omega)]
        rw [show alh c f s (s - 1 + i + 1) = alh c f s (s - 1 + i) + 1 by
          rw [alh, if_pos (by rw [e2]; exact ⟨by omega, y, z⟩)]] at ih
        exact ih
    · rw [ea, w32_s (by omega)]
      rw [show alh c f s (s - 1 + i + 1) = alh c f s (s - 1 + i) by rw [alh, if_neg (fun q => y (by rw [e2] at q; exact q.2.1)), Int.add_zero]] at ih
      exact ih
theorem H_mostAlike {col : Nat} {c : Int} {f : Nat → Int} (hcol : col < 84) (hf : ∀ t : Nat, 1 ≤ t → t < 21 → hb c (t : Int) → M 16 t col = f t) (hQ : Q (wr c f 20) M) : JC E mm_H_mostAlike [vR 0 0, vI c, vI (col : Int)] M Q := by
  rw [← wc1_wr] at hQ
  refine vc_H_mostAlike _ _ _ ?_
  refine up_ind (P := fun i => JG E mm_H_mostAlike Q 5 [(0, vR 0 0), (1, vI c), (2, vI (col : Int)), (3, vI (wc1 c f i)), (4, vI ((i + 1 : Nat) : Int))] [] M) 20 ?_ ?_
  · exact vc_H_mostAlike_5 _ _ _ _ _ ⟨fun _ => hQ, fun z => by omega⟩
  · intro i hi ih
    refine vc_H_mostAlike_5 _ _ _ _ _ ⟨fun z => by omega, fun _ => H_hasBit (fun y => c10 ?_) (fun y => c00 (fun a ea => ?_))⟩
    · refine H_alikeFrom (by omega) hcol y hf (fun a ea a2 ea2 => ?_)
      rw [ea, ea2, w32_s (by omega)]
      rw [show wc1 c f (i + 1) = max (wc1 c f i) (alh c f (i + 1) 20) from if_pos y] at ih
      exact ih
    · rw [ea, w32_s (by omega)]
      rw [show wc1 c f (i + 1) = wc1 c f i from if_neg y] at ih
      exact ih
theorem H_ask {p w : Int} (hZ : ZB Z) (hR : RepC Z M) (hQ : ∀ M' : JM, RepC Z M' → keepR M M' → Q (sp_ask Z p w) M') : JC E mm_H_ask [vR 0 0, vI p, vI w] M Q := by
  unfold sp_ask at hQ
  refine vc_H_ask _ _ _ (H_isOne hZ hR (fun h => c10 (H_within (fun h2 => d10 ?_) (fun h2 => d00 ?_))) (fun h => c00 ?_))
  · rw [if_pos ⟨h, h2⟩] at hQ
    have sb := strZ_b Z p.toNat
    have h4 := hZ.1.2.1
    refine H_strengthsAsSeen hZ hR h (fun M1 r1 k1 => H_foretell hZ r1 h (fun M2 r2 k2 w2 => ?_))
    have kk := keepR_tr k1 k2
    have bc : JC E mm_N_bitCount [vI (strZ Z p.toNat)] M2 (fun a10 M9 => JG E mm_H_ask Q 44 [(0, vR 0 0), (2, vI w), (3, vI (strZ Z p.toNat)), (4, vI (-4)), (5, vI a10), (6, vI 0)] [] M9) := by
      have e : strZ Z p.toNat = (((strZ Z p.toNat).toNat : Nat) : Int) := by omega
      have q := N_bitCount (E := E) (M := M2) (Q := fun a10 M9 => JG E mm_H_ask Q 44 [(0, vR 0 0), (2, vI w), (3, vI (strZ Z p.toNat)), (4, vI (-4)), (5, vI a10), (6, vI 0)] [] M9) (c := (strZ Z p.toNat).toNat) (by omega) (strZ_0 Z p.toNat) ?_
      · rw [← e] at q; exact q
      · refine up_ind (P := fun i => JG E mm_H_ask Q 44 [(0, vR 0 0), (2, vI w), (3, vI (strZ Z p.toNat)), (4, vI (askR Z p.toNat i).1), (5, vI (askR Z p.toNat i).2), (6, vI (i : Int))] [] M2) 21 ?_ ?_
        · have q := hQ M2 r2 kk
          refine vc_H_ask_44 _ _ _ _ _ _ ⟨fun _ => ⟨fun y => ⟨fun z => ?_, fun z => ?_⟩, fun y => ?_⟩, fun z => by omega⟩
          · rw [if_neg y, if_neg z] at q; exact q
          · rw [if_neg y, if_pos z] at q; exact q
          · rw [if_pos y] at q; exact q
        · intro i hi ih
          refine vc_H_ask_44 _ _ _ _ _ _ ⟨fun z => by omega, fun _ => ?_⟩
          refine up_ind (P := fun j => JG E mm_H_ask Q 54 [(0, vR 0 0), (2, vI w), (3, vI (strZ Z p.toNat)), (4, vI (askI Z p.toNat i (askR Z p.toNat i) j).1), (5, vI (askI Z p.toNat i (askR Z p.toNat i) j).2), (6, vI (i : Int)), (7, vI (j : Int))] [] M2) (npz Z) ?_ ?_
          · refine vc_H_ask_54 _ _ _ _ _ _ _ ⟨fun _ a ea => ?_, fun z => by rw [r2.1.1.2.1] at z; omega⟩
            rw [ea, w32_s (by omega)]
            exact ih
          · intro j hj ih2
            refine vc_H_ask_54 _ _ _ _ _ _ _ ⟨fun z => by rw [r2.1.1.2.1] at z; omega, fun _ => ?_⟩
            rw [w32_id (x := (i : Int) * 4) (by omega) (by omega), w32_id (x := (i : Int) * 4 + (j : Int)) (by omega) (by omega), show (i : Int) * 4 + (j : Int) = ((4 * i + j : Nat) : Int) by omega]
            refine H_mostAlike (f := askF Z p.toNat i j) (by omega) (fun t a b y => w2 t i j a b y hi hj) ⟨fun y a ea => ?_, fun y a ea a2 ea2 => ?_⟩
            · rw [show askI Z p.toNat i (askR Z p.toNat i) (j + 1) = askI Z p.toNat i (askR Z p.toNat i) j from if_neg (Int.not_lt.mpr y)] at ih2
              rw [ea, w32_s (by omega)]
              exact ih2
            · rw [show askI Z p.toNat i (askR Z p.toNat i) (j + 1) = (10 * (i : Int) + j, askW Z p.toNat i j) from if_pos y] at ih2
              rw [ea, ea2, w32_s (by omega), w32_id (x := 10 * (i : Int)) (by omega) (by omega), w32_id (by omega) (by omega)]
              exact ih2
    exact bc
  · rw [if_neg (fun z => h2 z.2)] at hQ; exact hQ M hR (keepR_rf M)
  · rw [if_neg (fun z => h z.1)] at hQ; exact hQ M hR (keepR_rf M)
theorem alk_b {c : Int} {f : Nat → Int} {s : Nat} : ∀ n : Nat, 0 ≤ alk c f s n ∧ alk c f s n ≤ n
  | 0 => ⟨Int.le_refl _, Int.le_refl _⟩
  | n + 1 => by
    have := alk_b (c := c) (f := f) (s := s) n
    unfold alk
    split <;> omega
theorem wr_n {c : Int} {f : Nat → Int} : ∀ n : Nat, 0 ≤ wr c f n
  | 0 => Int.le_refl _
  | n + 1 => by
    have := wr_n (c := c) (f := f) n
    unfold wr
    split <;> omega
theorem M_worstAt {col : Nat} {c : Int} {f : Nat → Int} (hcol : col < 84) (hf : ∀ t : Nat, 1 ≤ t → t < 21 → M 29 0 (84 * t + col) = f t) (hQ : Q (wr c f 20) M) : JC E mm_M_worstAt [vR 20 0, vI c, vI (col : Int)] M Q := by
  refine vc_M_worstAt _ _ _ ?_
  refine up_ind (P := fun i => JG E mm_M_worstAt Q 5 [(0, vR 20 0), (1, vI c), (2, vI (col : Int)), (3, vI (wr c f i)), (4, vI ((i + 1 : Nat) : Int))] [] M) 20 ?_ ?_
  · exact vc_M_worstAt_5 _ _ _ _ _ ⟨fun _ => hQ, fun z => by omega⟩
  · intro i hi ih
    have wn := wr_n (c := c) (f := f) i
    refine vc_M_worstAt_5 _ _ _ _ _ ⟨fun z => by omega, fun _ => ?_⟩
    by_cases y : hb c ((i + 1 : Nat) : Int)
    · rw [show wr c f (i + 1) = max (wr c f i) (alk c f (i + 1) 20) from if_pos y] at ih
      refine up_ind (P := fun b => JG E mm_M_worstAt Q 18 [(0, vR 20 0), (1, vI c), (2, vI (col : Int)), (3, vI (wr c f i)), (4, vI ((i + 1 : Nat) : Int)), (5, vI (alk c f (i + 1) b)), (6, vI ((b + 1 : Nat) : Int))] [] M) 20 ?_ ?_
      · refine vc_M_worstAt_18 _ _ _ _ _ _ _ ⟨fun _ => vc_M_worstAt_88 _ _ _ _ _ _ ⟨fun z a ea => ?_, fun z a ea => ?_⟩, fun z => by omega⟩
        · rw [Int.max_eq_left z] at ih
          rw [ea, w32_s (by omega)]; exact ih
        · rw [Int.max_eq_right (by omega)] at ih
          rw [ea, w32_s (by omega)]; exact ih
      · intro b hbl ih2
        have ab := alk_b (c := c) (f := f) (s := i + 1) b
        have step : ∀ s1 : Int, 0 ≤ s1 ∧ s1 ≤ 1 → alk c f (i + 1) (b + 1) = alk c f (i + 1) b + s1 → JG E mm_M_worstAt Q 79 [(0, vR 20 0), (1, vI c), (2, vI (col : Int)), (3, vI (wr c f i)), (4, vI ((i + 1 : Nat) : Int)), (6, vI ((b + 1 : Nat) : Int))] [vI s1, vI (alk c f (i + 1) b)] M := by
          intro s1 hs1 e
          refine vc_M_worstAt_79 _ _ _ _ _ _ _ _ (fun a1 e1 a2 e2 => ?_)
          rw [e] at ih2
          rw [e1, e2, w32_s (by omega), w32_id (by omega) (by omega)]
          exact ih2
        refine vc_M_worstAt_18 _ _ _ _ _ _ _ ⟨fun z => by omega, fun _ => ⟨fun z => absurd y z, fun _ => ⟨fun z => vc_M_worstAt_78 _ _ _ _ _ _ _ (step 0 (by omega) ?_), fun z => ?_⟩⟩⟩
        · rw [alk, if_neg (fun q => z q.1)]
        · rw [w32_id (x := 84 * ((i + 1 : Nat) : Int)) (by omega) (by omega), w32_id (x := 84 * ((b + 1 : Nat) : Int)) (by omega) (by omega), w32_id (x := 84 * ((i + 1 : Nat) : Int) + (col : Int)) (by omega) (by omega), w32_id (x := 84 * ((b + 1 : Nat) : Int) + (col : Int)) (by omega) (by omega), show (84 * ((i + 1 : Nat) : Int) + (col : Int)).toNat = 84 * (i + 1) + col by omega, show (84 * ((b + 1 : Nat) : Int) + (col : Int)).toNat = 84 * (b + 1) + col by omega, hf (i + 1) (by omega) (by omega), hf (b + 1) (by omega) (by omega)]
          refine ⟨by omega, by omega, fun z2 => vc_M_worstAt_78 _ _ _ _ _ _ _ (step 0 (by omega) ?_), fun z2 => step 1 (by omega) ?_⟩
          · rw [alk, if_neg (fun q => z2 q.2)]
          · rw [alk, if_pos ⟨z, z2⟩]
    · rw [show wr c f (i + 1) = wr c f i from if_neg y] at ih
      refine vc_M_worstAt_18 _ _ _ _ _ _ _ ⟨fun z => by omega, fun _ => ⟨fun _ => vc_M_worstAt_88 _ _ _ _ _ _ ⟨fun z a ea => ?_, fun z => by omega⟩, fun z => absurd z y⟩⟩
      rw [ea, w32_s (by omega)]
      exact ih
theorem M_ask {p w : Int} (hZ : ZB Z) (hR : RepR Z M) (hQ : ∀ M' : JM, RepR Z M' → keepC M M' → Q (sp_ask Z p w) M') : JC E mm_M_ask [vR 20 0, vI p, vI w] M Q := by
  unfold sp_ask at hQ
  refine vc_M_ask _ _ _ (M_isOne hZ hR (fun h => c10 (M_in (fun h2 => d10 ?_) (fun h2 => d00 ?_))) (fun h => c00 ?_))
  · rw [if_pos ⟨h, h2⟩] at hQ
    have sb := strZ_b Z p.toNat
    have h4 := hZ.1.2.1
    refine M_strs hZ hR h (fun M2 r2 k2 w2 => ?_)
    have e : strZ Z p.toNat = (((strZ Z p.toNat).toNat : Nat) : Int) := by omega
    have pb : ∀ i : Nat, pcn (strZ Z p.toNat).toNat i ≤ i := by
      intro i
      induction i with
      | zero => exact Nat.le_refl _
      | succ i ih => unfold pcn; omega
    refine up_ind (P := fun i => JG E mm_M_ask Q 38 [(0, vR 20 0), (2, vI w), (3, vI (strZ Z p.toNat)), (4, vI ((pcn (strZ Z p.toNat).toNat i : Nat) : Int)), (5, vI ((i + 1 : Nat) : Int))] [] M2) 20 ?_ ?_
    · refine vc_M_ask_38 _ _ _ _ _ ⟨fun _ => ?_, fun z => by omega⟩
      refine up_ind (P := fun i => JG E mm_M_ask Q 69 [(0, vR 20 0), (2, vI w), (3, vI (strZ Z p.toNat)), (4, vI (askR Z p.toNat i).2), (5, vI (askR Z p.toNat i).1), (6, vI (i : Int))] [] M2) 21 ?_ ?_
      · have q := hQ M2 r2 k2
        refine vc_M_ask_69 _ _ _ _ _ _ ⟨fun _ => ⟨fun y => ?_, fun y => ⟨fun z => ?_, fun z => ?_⟩⟩, fun z => by omega⟩
        · rw [if_pos y] at q; rw [y]; exact q
        · rw [if_neg y, if_neg z] at q; exact q
        · rw [if_neg y, if_pos z] at q; exact q
      · intro i hi ih
        refine vc_M_ask_69 _ _ _ _ _ _ ⟨fun z => by omega, fun _ => ?_⟩
        refine up_ind (P := fun j => JG E mm_M_ask Q 79 [(0, vR 20 0), (2, vI w), (3, vI (strZ Z p.toNat)), (4, vI (askI Z p.toNat i (askR Z p.toNat i) j).2), (5, vI (askI Z p.toNat i (askR Z p.toNat i) j).1), (6, vI (i : Int)), (7, vI (j : Int))] [] M2) (npz Z) ?_ ?_
        · refine vc_M_ask_79 _ _ _ _ _ _ _ ⟨fun _ a ea => ?_, fun z => by rw [r2.1.2] at z; omega⟩
          rw [ea, w32_s (by omega)]
          exact ih
        · intro j hj ih2
          refine vc_M_ask_79 _ _ _ _ _ _ _ ⟨fun z => by rw [r2.1.2] at z; omega, fun _ => ?_⟩
          rw [w32_id (x := 4 * (i : Int)) (by omega) (by omega), w32_id (x := 4 * (i : Int) + (j : Int)) (by omega) (by omega), show 4 * (i : Int) + (j : Int) = ((4 * i + j : Nat) : Int) by omega]
          refine M_worstAt (f := askF Z p.toNat i j) (by omega) (fun t a b => by have := w2 t a b i j hi hj; rw [Nat.add_assoc] at this; exact this) ⟨fun y => ?_, fun y => ?_⟩
          · rw [show askI Z p.toNat i (askR Z p.toNat i) (j + 1) = askI Z p.toNat i (askR Z p.toNat i) j from if_neg (Int.not_lt.mpr y)] at ih2
            refine vc_M_ask_122 _ _ _ _ _ _ _ _ ⟨fun _ a ea => ?_, fun z => absurd y (Int.not_le.mpr z)⟩
            rw [ea, w32_s (by omega)]
            exact ih2
          · rw [show askI Z p.toNat i (askR Z p.toNat i) (j + 1) = (10 * (i : Int) + j, askW Z p.toNat i j) from if_pos y] at ih2
            refine vc_M_ask_122 _ _ _ _ _ _ _ _ ⟨fun z => absurd y (Int.not_lt.mpr z), fun _ a ea => ?_⟩
            rw [ea, w32_s (by omega), w32_id (x := 10 * (i : Int)) (by omega) (by omega), w32_id (by omega) (by omega)]
            exact ih2
    · intro i hi ih
      have pbi := pb i
      refine vc_M_ask_38 _ _ _ _ _ ⟨fun z => by omega, fun _ a ea a2 ea2 => ?_⟩
      have hdl : (strZ Z p.toNat).toNat / 2 ^ (i + 1) ≤ (strZ Z p.toNat).toNat := Nat.div_le_self _ _
      have eb : and32 (shr32 (strZ Z p.toNat) ((i + 1 : Nat) : Int)) 1 = (((strZ Z p.toNat).toNat / 2 ^ (i + 1) % 2 : Nat) : Int) := by
        rw [e, shr_nat (by omega) (by omega), show (1 : Int) = ((1 : Nat) : Int) from rfl, and_nat (by omega), Nat.and_one_is_mod, Int.toNat_natCast]
      rw [eb] at ea
      rw [ea, ea2, w32_s (by omega), w32_id (by omega) (by omega), ← Int.natCast_add]
      exact ih
  · rw [if_neg (fun z => h2 z.2)] at hQ; exact hQ M hR (keepC_rf M)
  · rw [if_neg (fun z => h z.1)] at hQ; exact hQ M hR (keepC_rf M)
end

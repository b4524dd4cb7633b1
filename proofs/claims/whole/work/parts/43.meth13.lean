/-! read -/
theorem w32_bm (x : Int) : w32 x = if x % 4294967296 < 2147483648 then x % 4294967296 else x % 4294967296 - 4294967296 := by
  unfold w32
  rw [Int32.toInt_ofInt]
  rfl
theorem JC_ok {E : EE} {mm : MM} {args : List JV} {M : JM} {Q : Int → JM → Prop} (h : okS args → JC E mm args M Q) : JC E mm args M Q := fun hA ho => h ho hA ho
/-- the goods of Y begin with those of X, all else is alike -/
def agP (X Y : Nat → Int) : Prop := ngd X ≤ ngd Y ∧ (∀ g, g < ngd X → Y g = X g ∧ Y (8 + g) = X (8 + g) ∧ Y (16 + g) = X (16 + g) ∧ Y (24 + g) = X (24 + g)) ∧ ∀ j, 33 ≤ j → Y j = X j
theorem agP_add {X Y : Nat → Int} {np : Nat} {k w v : Int} (hB : PB Y np) (h8 : ngd Y < 8) (hBX : PB X np) (h : agP X Y) : agP X (addg Y k w v) := by
  obtain ⟨a, b, c⟩ := h
  have e := addg_ng (k := k) (w := w) (v := v) hB h8
  refine ⟨by omega, fun g hg => ?_, fun j hj => ?_⟩
  · rw [addg_n (by omega) (by omega) (by omega) (by omega) (by omega), addg_n (by omega) (by omega) (by omega) (by omega) (by omega), addg_n (by omega) (by omega) (by omega) (by omega) (by omega), addg_n (by omega) (by omega) (by omega) (by omega) (by omega)]
    exact b g hg
  · rw [addg_n (by omega) (by omega) (by omega) (by omega) (by omega)]; exact c j hj
theorem agP_VC {M M' : JM} {X Y : Nat → Int} {np : Nat} (hBX : PB X np) (h : agP X Y) (hV : VC M 0 Y np) (e : M' = pt M 3 0 2 (X 32)) : VC M' 0 X np := by
  obtain ⟨a, b, c⟩ := h
  have h8 := ngd_le hBX
  have hn : ∀ t i k, ¬ (t = 3 ∧ i = 0 ∧ k = 2) → M' t i k = M t i k := fun t i k q => by rw [e, pt_ne q]
  have eo : ∀ r, on M' 0 r = on M 0 r := fun r => by unfold on; rw [hn 5 0 r (by omega)]
  refine ⟨⟨by rw [e, pt_eq], ?_, ?_, ?_, ?_⟩, fun g hg => ?_, fun r hr => ?_, fun i hi => ?_, fun i j hi hj => ?_⟩
  · rw [hn 3 _ _ (by omega)]; exact hV.1.2.1
  · rw [hn 3 _ _ (by omega), ← c 41 (by omega)]; exact hV.1.2.2.1
  · rw [hn 3 _ _ (by omega), ← c 42 (by omega)]; exact hV.1.2.2.2.1
  · rw [hn 3 _ _ (by omega), ← c 43 (by omega)]; exact hV.1.2.2.2.2
  · have v := hV.2.1 g (by omega)
    obtain ⟨b0, b1, b2, b3⟩ := b g hg
    unfold heft pays at v ⊢
    rw [b0, b1, b2, b3] at v
    rw [hn 1 _ 0 (by omega), hn 1 _ 1 (by omega), hn 1 _ 2 (by omega), hn 1 _ 3 (by omega), hn 1 _ 4 (by omega), hn 1 _ 5 (by omega)]
    exact v
  · rw [eo, hn 2 _ 0 (by omega), hn 2 _ 1 (by omega), ← c (33 + r) (by omega), ← c (37 + r) (by omega)]; exact hV.2.2.1 r hr
  · rw [hn 5 0 i (by omega)]; exact hV.2.2.2.1 i hi
  · rw [hn 5 0 i (by omega), hn 5 0 j (by omega)]; exact hV.2.2.2.2 i j hi hj
section
variable {E : EE} {Q : Int → JM → Prop} {M : JM} {Z : ZZ}
def cel (Z : ZZ) (k : Nat) (f : Int) (t j : Nat) : Int := Z 7 (40 * k + ((f + 3 * (t : Int)).toNat + j))
def rd (Z0 : ZZ) (k : Nat) (l f : Int) : Nat → Nat → ZZ → Int × ZZ
  | 0, t, Z => ((t : Int), zu Z 3 4 0)
  | m + 1, t, Z => if Z 5 k = -1 then ((t : Int), zu Z 3 4 1) else if Z 5 k ≠ l then ((t : Int), zu Z 3 4 3) else if ¬ (0 ≤ f + 3 * (t : Int) ∧ f + 3 * (t : Int) ≤ Z 6 k - 3) then ((t : Int), zu Z 3 4 2) else if (sp_stock Z (cel Z k f t 0) (cel Z k f t 1) (cel Z k f t 2)).1 < 0 then (-20 - (t : Int), Z0) else rd Z0 k l f m (t + 1) (sp_stock Z (cel Z k f t 0) (cel Z k f t 1) (cel Z k f t 2)).2
def sp_read (Z : ZZ) (k l f n : Int) : Int × ZZ := if (0 ≤ k ∧ k ≤ 3) ∧ (0 ≤ l ∧ l ≤ 2) ∧ (0 ≤ n ∧ n ≤ 13) then rd Z k.toNat l f n.toNat 0 Z else (-1, Z)
theorem ZB_torn {v : Int} (hZ : ZB Z) : ZB (zu Z 3 4 v) := by
  obtain ⟨z1, z2, z3, z4, z5, z6, z7, z8⟩ := hZ
  refine ⟨z1, z2, z3, z4, fun j hj => ?_, z6, z7, z8⟩
  rw [zu_n (by omega), zu_r (by omega)]; exact z5 j hj
theorem rd_ZB {Z0 : ZZ} {k : Nat} {l f : Int} (hZ0 : ZB Z0) : ∀ (m t : Nat) (Z : ZZ), ZB Z → ZB (rd Z0 k l f m t Z).2
  | 0, t, Z, hZ => ZB_torn hZ
  | m + 1, t, Z, hZ => by
    unfold rd
    split
    · exact ZB_torn hZ
    · split
      · exact ZB_torn hZ
      · split
        · exact ZB_torn hZ
        · split
          · exact hZ0
          · exact rd_ZB hZ0 m (t + 1) _ (ZB_stock hZ)
theorem ZB_read {k l f n : Int} (hZ : ZB Z) : ZB (sp_read Z k l f n).2 := by
  unfold sp_read
  split
  · exact rd_ZB hZ _ _ _ hZ
  · exact hZ
theorem RepC_torn {v : Int} {M' : JM} (hR : RepC Z M) (e : M' = pt M 0 0 11 v) : RepC (zu Z 3 4 v) M' := by
  have hn : ∀ t i k, ¬ (t = 0 ∧ k = 11) → M' t i k = M t i k := fun t i k q => by rw [e, pt_ne (by omega)]
  obtain ⟨r4, r5, r6, r7⟩ := hR.2.2.2
  refine RepC_gen hR (fun t i j q => hn t i j (by omega)) ⟨rfl, rfl, rfl, rfl, rfl, rfl⟩ ⟨?_, fun j hj => ?_⟩ ⟨?_, fun i j hi hj => ?_⟩ ⟨?_, ?_⟩ (fun i hi => ⟨?_, ?_, fun j' hj' => ?_⟩)
  · rw [hn 9 _ _ (by omega)]; exact r4.1
  · rw [hn 10 _ _ (by omega)]; exact r4.2 j hj
  · rw [hn 0 _ _ (by omega)]; exact r5.1
  · rw [hn 8 _ _ (by omega)]; exact r5.2 i j hi hj
  · rw [hn 0 _ _ (by omega)]; exact r6.1
  · rw [zu_s, e, pt_eq]
  · rw [hn 6 _ _ (by omega)]; exact (r7 i hi).1
  · rw [hn 6 _ _ (by omega)]; exact (r7 i hi).2.1
  · rw [hn 7 _ _ (by omega)]; exact (r7 i hi).2.2 j' hj'
theorem RepR_torn {v : Int} {M' : JM} (hR : RepR Z M) (e : M' = pt M 20 0 28 v) : RepR (zu Z 3 4 v) M' := by
  have hn : ∀ t i k, ¬ (t = 20 ∧ k = 28) → M' t i k = M t i k := fun t i k q => by rw [e, pt_ne (by omega)]
  obtain ⟨r4, r5, r6, r7, -⟩ := hR.2.2
  refine RepR_gen hR (fun t i j q => hn t i j (by omega)) ⟨rfl, rfl, rfl, rfl, rfl, rfl⟩ ⟨?_, fun j hj => ?_⟩ ⟨?_, fun i j hi hj => ?_⟩ ⟨?_, ?_⟩ (fun i hi => ⟨?_, ?_, fun j' hj' => ?_⟩)
  · rw [hn 20 _ _ (by omega)]; exact r4.1
  · rw [hn 23 _ _ (by omega)]; exact r4.2 j hj
  · rw [hn 20 _ _ (by omega)]; exact r5.1
  · rw [hn 28 _ _ (by omega)]; exact r5.2 i j hi hj
  · rw [hn 20 _ _ (by omega)]; exact r6.1
  · rw [zu_s, e, pt_eq]
  · rw [hn 31 _ _ (by omega)]; exact (r7 i hi).1
  · rw [hn 32 _ _ (by omega)]; exact (r7 i hi).2.1
  · rw [hn 33 _ _ (by omega)]; exact (r7 i hi).2.2 j' hj'
/-- what stocking leaves -/
theorem stock_ag {Z' : ZZ} {a b c : Int} (hZ : ZB Z) (hZ' : ZB Z') (h1 : ∀ a, ¬ a = 0 → Z' a = Z a) (h2 : agP (Z 0) (Z' 0)) : (∀ d, ¬ d = 0 → (sp_stock Z' a b c).2 d = Z d) ∧ agP (Z 0) ((sp_stock Z' a b c).2 0) := by
  have en : npz Z' = npz Z := npz_c (by rw [h1 3 (by omega)])
  have hB := hZ'.1
  rw [en] at hB
  unfold sp_stock
  split
  · split
    · split
      · split
        · exact ⟨h1, h2⟩
        · refine ⟨fun d hd => by dsimp only; rw [zp_n hd]; exact h1 d hd, ?_⟩
          show agP (Z 0) (zp Z' 0 _ 0)
          rw [zp_s]
          have := ngd_int hB
          have := ngd_le hB
          exact agP_add hB (by omega) hZ.1 h2
      · exact ⟨h1, h2⟩
    · exact ⟨h1, h2⟩
  · exact ⟨h1, h2⟩
/-- one that is refused leaves all as it was -/
theorem stock_no {a b c : Int} (hZ : ZB Z) (h : (sp_stock Z a b c).1 < 0) : (sp_stock Z a b c).2 = Z := by
  have h32 := hZ.1.1
  unfold sp_stock at h ⊢
  by_cases h1 : 0 ≤ a ∧ a ≤ 3
  · rw [if_pos h1] at h ⊢
    by_cases h2 : 1 ≤ b ∧ b ≤ 9
    · rw [if_pos h2] at h ⊢
      by_cases h3 : 0 ≤ c ∧ c ≤ 9
      · rw [if_pos h3] at h ⊢
        by_cases h4 : Z 0 32 = 8
        · rw [if_pos h4]
        · rw [if_neg h4] at h
          dsimp only at h
          omega
      · rw [if_neg h3]
    · rw [if_neg h2]
  · rw [if_neg h1]
theorem H_read {k l f n : Int} (hZ : ZB Z) (hR : RepC Z M) (hQ : ∀ M' : JM, RepC (sp_read Z k l f n).2 M' → keepR M M' → Q (sp_read Z k l f n).1 M') : JC E mm_H_read [vR 0 0, vI k, vI l, vI f, vI n] M Q := by
  refine JC_ok (fun hok => ?_)
  have hf : inR f := hok (vI f) (by simp)
  unfold inR at hf
  unfold sp_read at hQ
  refine vc_H_read _ _ _ _ _ (H_isSheet (fun h1 => c10 (H_isLane (fun h2 => c10 (H_within (fun h3 => d10 ⟨by omega, fun a ea => ?_⟩) (fun h3 => d00 ?_))) (fun h2 => c00 ?_))) (fun h1 => c00 ?_))
  · rw [if_pos ⟨h1, h2, h3⟩] at hQ
    obtain ⟨N, rfl⟩ : ∃ N : Nat, n = N := ⟨n.toNat, by omega⟩
    rw [Int.toNat_natCast] at hQ
    have hk : k.toNat < 4 := by omega
    rw [hR.1.1.1] at ea
    subst ea
    have loop : ∀ (m t : Nat) (Z' : ZZ) (M' : JM), t + m = N → ZB Z' → RepC Z' M' → keepR M M' → (∀ a, ¬ a = 0 → Z' a = Z a) → agP (Z 0) (Z' 0) → (∀ M'' : JM, RepC (rd Z k.toNat l f m t Z').2 M'' → keepR M M'' → Q (rd Z k.toNat l f m t Z').1 M'') → JG E mm_H_read Q 47 [(0, vR 0 0), (2, vI l), (3, vI f), (4, vI (N : Int)), (5, vR 6 k.toNat), (6, vI (Z 0 32)), (7, vI (t : Int))] [] M' := by
      intro m
      induction m with
      | zero =>
        intro t Z' M' ht hZ' r kk g1 g2 hq
        refine vc_H_read_47 _ _ _ _ _ _ _ ⟨fun _ M1 e1 => ?_, fun z => by omega⟩
        rw [show (N : Int) = (t : Int) by omega]
        exact hq M1 (RepC_torn r e1) (keepR_tr kk (by rw [e1]; exact keepR_pt (by omega)))
      | succ m ih =>
        intro t Z' M' ht hZ' r kk g1 g2 hq
        unfold rd at hq
        obtain ⟨x1, x2, x3⟩ := r.2.2.2.2.2.2 k.toNat hk
        obtain ⟨b1, b2⟩ := hZ'.2.2.2.2.2.1 k.toNat hk
        refine vc_H_read_47 _ _ _ _ _ _ _ ⟨fun z => by omega, fun _ a ea => ?_⟩
        rw [w32_id (x := 3 * (t : Int)) (by omega) (by omega)] at ea
        have ends : ∀ v : Int, v ≠ 0 → (∀ M'' : JM, RepC (zu Z' 3 4 v) M'' → keepR M M'' → Q (t : Int) M'') → ∀ M9 : JM, M9 = pt M' 0 0 11 v → Q (t : Int) M9 := fun v _ hh M9 e9 => hh M9 (RepC_torn r e9) (keepR_tr kk (by rw [e9]; exact keepR_pt (by omega)))
        refine S_faultOfCells (fun q => ?_) (fun q q2 => ?_) (fun q q2 q3 => ?_) (fun q q2 q3 => c00 ?_)
        · rw [x1] at q
          rw [if_pos q] at hq
          exact ⟨fun z => by omega, fun _ => ends 1 (by omega) hq⟩
        · rw [x1] at q q2
          rw [if_neg q, if_pos q2] at hq
          exact ⟨fun z => by omega, fun _ => ends 3 (by omega) hq⟩
        · rw [x1] at q q2
          rw [x2, w32_id (by omega) (by omega)] at q3
          have q4 : ¬ (0 ≤ f + 3 * (t : Int) ∧ f + 3 * (t : Int) ≤ Z' 6 k.toNat - 3) := by
            by_cases y : f + 3 * (t : Int) ≤ 2147483647
            · rw [w32_id (by omega) y] at ea; omega
            · omega
          rw [if_neg q, if_neg (fun y => y q2), if_pos q4] at hq
          exact ⟨fun z => by omega, fun _ => ends 2 (by omega) hq⟩
        · rw [x1] at q q2
          rw [x2, w32_id (by omega) (by omega)] at q3
          have q4 : a = f + 3 * (t : Int) := by
            by_cases y : f + 3 * (t : Int) ≤ 2147483647
            · rw [w32_id (by omega) y] at ea; exact ea
            · rw [w32_bm] at ea
              split at ea <;> omega
          rw [if_neg q, if_neg (fun y => y q2), if_neg (fun y => y (by omega))] at hq
          rw [w32_id (x := a + 1) (by omega) (by omega), w32_id (x := a + 2) (by omega) (by omega)]
          refine ⟨by omega, by omega, by omega, ?_⟩
          have c0 : M' 7 k.toNat a.toNat = cel Z' k.toNat f t 0 := by unfold cel; rw [← q4, Nat.add_zero]; exact x3 _ (by omega)
          have c1 : M' 7 k.toNat (a + 1).toNat = cel Z' k.toNat f t 1 := by unfold cel; rw [← q4, show (a + 1).toNat = a.toNat + 1 by omega]; exact x3 _ (by omega)
          have c2 : M' 7 k.toNat (a + 2).toNat = cel Z' k.toNat f t 2 := by unfold cel; rw [← q4, show (a + 2).toNat = a.toNat + 2 by omega]; exact x3 _ (by omega)
          rw [c0, c1, c2]
          obtain ⟨s1, s2⟩ := stock_ag (a := cel Z' k.toNat f t 0) (b := cel Z' k.toNat f t 1) (c := cel Z' k.toNat f t 2) hZ hZ' g1 g2
          refine H_stock hZ' r (fun M5 r5 k5 => ⟨fun y a7 e7 => ?_, fun y M8 e8 => ?_⟩)
          · rw [if_neg (Int.not_lt.mpr y)] at hq
            rw [e7, w32_s (by omega)]
            exact ih (t + 1) _ M5 (by omega) (ZB_stock hZ') r5 (keepR_tr kk k5) s1 s2 hq
          · rw [if_pos y] at hq
            rw [w32_id (by omega) (by omega)]
            refine hq M8 ?_ (keepR_tr kk (keepR_tr k5 (by rw [e8]; exact keepR_pt (by omega))))
            rw [stock_no hZ' y] at r5 s2
            have en : npz Z' = npz Z := npz_c (by rw [g1 3 (by omega)])
            have v5 := r5.1
            rw [en] at v5
            have v8 := agP_VC hZ.1 g2 v5 e8
            have f8 : fra 0 M5 M8 := by rw [e8]; exact fra_pt (by omega)
            have r8 := RepC_now (X := Z 0) hZ' f8 r5 (by rw [en]; exact v8)
            have ez : zp Z' 0 (Z 0) = Z := by
              funext d
              by_cases hd : d = 0
              · rw [hd, zp_s]
              · rw [zp_n hd]; exact g1 d hd
            rw [ez] at r8
            exact r8
    exact loop N 0 Z M (by omega) hZ hR (keepR_rf M) (fun _ _ => rfl) ⟨Nat.le_refl _, fun _ _ => ⟨rfl, rfl, rfl, rfl⟩, fun _ _ => rfl⟩ hQ
  · rw [if_neg (fun z => h3 z.2.2)] at hQ; exact hQ M hR (keepR_rf M)
  · rw [if_neg (fun z => h2 z.2.1)] at hQ; exact hQ M hR (keepR_rf M)
  · rw [if_neg (fun z => h1 z.1)] at hQ; exact hQ M hR (keepR_rf M)
theorem M_read {k l f n : Int} (hZ : ZB Z) (hR : RepR Z M) (hQ : ∀ M' : JM, RepR (sp_read Z k l f n).2 M' → keepC M M' → Q (sp_read Z k l f n).1 M') : JC E mm_M_read [vR 20 0, vI k, vI l, vI f, vI n] M Q := by
  refine JC_ok (fun hok => ?_)
  have hf : inR f := hok (vI f) (by simp)
  unfold inR at hf
  unfold sp_read at hQ
  refine vc_M_read _ _ _ _ _ (M_in (fun h1 => c10 (M_in (fun h2 => c10 (M_in (fun h3 => d10 (M_copies (b := 0) (c := 132) (by omega) (by omega) (by omega) hR.1 (fun M1 v1 n1 => ?_))) (fun h3 => d00 ?_))) (fun h2 => c00 ?_))) (fun h1 => c00 ?_))
  · rw [if_pos ⟨h1, h2, h3⟩] at hQ
    obtain ⟨N, rfl⟩ : ∃ N : Nat, n = N := ⟨n.toNat, by omega⟩
    rw [Int.toNat_natCast] at hQ
    have hk : k.toNat < 4 := by omega
    have r1 : RepR Z M1 := RepR_frb (fun t i j q => n1 t i j (by omega)) hR
    have k1 : keepC M M1 := fun t i j q => n1 t i j (by omega)
    have w3 : w32 (3 * (N : Int)) = 3 * (N : Int) := w32_id (by omega) (by omega)
    have fin : ∀ (s c i : Int) (Z' : ZZ) (M' : JM), s ≠ 0 → (0 ≤ i ∧ i < 1000) → RepR Z' M' → keepC M M' → (∀ M'' : JM, RepR (zu Z' 3 4 s) M'' → keepC M M'' → Q c M'') → JG E mm_M_read Q 126 [(0, vR 20 0), (1, vI k), (2, vI l), (3, vI f), (4, vI (N : Int)), (6, vI c), (7, vI i)] [vI s] M' := by
      intro s c i Z' M' hs hi r kk hq
      refine vc_M_read_126 _ _ _ _ _ _ _ _ ⟨fun _ a ea => ?_, fun z => absurd z hs⟩
      have e : ∀ M2 : JM, M2 = pt M' 20 0 28 s → Q c M2 := fun M2 e2 => hq M2 (RepR_torn r e2) (keepC_tr kk (by rw [e2]; exact keepC_pt (by omega)))
      exact vc_M_read_56 _ _ _ _ _ _ _ _ ⟨fun _ => e, fun _ => ⟨fun _ => e, fun z => absurd z hs⟩⟩
    have loop : ∀ (m t : Nat) (Z' : ZZ) (M' : JM), t + m = N → ZB Z' → RepR Z' M' → VR M' 132 (Z 0) (npz Z) → keepC M M' → (∀ a, ¬ a = 0 → Z' a = Z a) → agP (Z 0) (Z' 0) → (∀ M'' : JM, RepR (rd Z k.toNat l f m t Z').2 M'' → keepC M M'' → Q (rd Z k.toNat l f m t Z').1 M'') → JG E mm_M_read Q 56 [(0, vR 20 0), (1, vI k), (2, vI l), (3, vI f), (4, vI (N : Int)), (5, vI 0), (6, vI (t : Int)), (7, vI ((3 * t : Nat) : Int))] [] M' := by
      intro m
      induction m with
      | zero =>
        intro t Z' M' ht hZ' r v kk g1 g2 hq
        refine vc_M_read_56 _ _ _ _ _ _ _ _ ⟨fun _ M2 e2 => ?_, fun z => by rw [w3] at z; omega⟩
        exact hq M2 (RepR_torn r e2) (keepC_tr kk (by rw [e2]; exact keepC_pt (by omega)))
      | succ m ih =>
        intro t Z' M' ht hZ' r v kk g1 g2 hq
        unfold rd at hq
        obtain ⟨x1, x2, x3⟩ := r.2.2.2.2.2.1 k.toNat hk
        obtain ⟨b1, b2⟩ := hZ'.2.2.2.2.2.1 k.toNat hk
        have cell : ∀ j : Nat, j < 3 → (Z' 5 k.toNat ≠ -1 → Z' 5 k.toNat = l → (¬ (0 ≤ f + ((3 * t + j : Nat) : Int) ∧ f + ((3 * t + j : Nat) : Int) ≤ Z' 6 k.toNat - 1)) → ∀ M'' : JM, RepR (zu Z' 3 4 2) M'' → keepC M M'' → Q (t : Int) M'') → (Z' 5 k.toNat = -1 → ∀ M'' : JM, RepR (zu Z' 3 4 1) M'' → keepC M M'' → Q (t : Int) M'') → (Z' 5 k.toNat ≠ -1 → Z' 5 k.toNat ≠ l → ∀ M'' : JM, RepR (zu Z' 3 4 3) M'' → keepC M M'' → Q (t : Int) M'') → ((0 ≤ f + ((3 * t + j : Nat) : Int) ∧ f + ((3 * t + j : Nat) : Int) ≤ Z' 6 k.toNat - 1) → Z' 5 k.toNat ≠ -1 → Z' 5 k.toNat = l → JG E mm_M_read Q 126 [(0, vR 20 0), (1, vI k), (2, vI l), (3, vI f), (4, vI (N : Int)), (6, vI (t : Int)), (7, vI ((3 * t + j : Nat) : Int))] [vI 0] M') → JG E mm_M_read Q 56 [(0, vR 20 0), (1, vI k), (2, vI l), (3, vI f), (4, vI (N : Int)), (5, vI 0), (6, vI (t : Int)), (7, vI ((3 * t + j : Nat) : Int))] [] M' := by
          intro j hj p2 p1 p3 p0
          refine vc_M_read_56 _ _ _ _ _ _ _ _ ⟨fun z => by rw [w3] at z; omega, fun _ => ⟨fun z => absurd rfl z, fun _ => ⟨by omega, ?_⟩⟩⟩
          rw [x1, x2, w32_id (x := Z' 6 k.toNat - 1) (by omega) (by omega), w64_id (x := f + ((3 * t + j : Nat) : Int)) (by omega) (by omega)]
          by_cases y : Z' 5 k.toNat = -1
          · rw [if_pos y]
            exact ⟨fun z => absurd rfl z, fun _ => fin 1 _ _ Z' M' (by omega) (by omega) r kk (p1 y)⟩
          · rw [if_neg y]
            refine ⟨fun _ => ⟨by omega, fun y2 => ⟨by omega, M_in (fun y3 => d10 (p0 y3 y y2)) (fun y3 => d00 (fin 2 _ _ Z' M' (by omega) (by omega) r kk (p2 y y2 y3)))⟩, fun y2 => fin 3 _ _ Z' M' (by omega) (by omega) r kk (p3 y y2)⟩, fun z => by omega⟩
        have tm : ∀ j : Nat, j < 3 → w32 (Int.tmod ((3 * t + j : Nat) : Int) 3) = (j : Int) := by
          intro j hj
          rw [Int.tmod_eq_emod_of_nonneg (by omega), w32_id (by omega) (by omega)]
          omega
        have p1 : Z' 5 k.toNat = -1 → ∀ M'' : JM, RepR (zu Z' 3 4 1) M'' → keepC M M'' → Q (t : Int) M'' := fun y => by rw [if_pos y] at hq; exact hq
        have p3 : Z' 5 k.toNat ≠ -1 → Z' 5 k.toNat ≠ l → ∀ M'' : JM, RepR (zu Z' 3 4 3) M'' → keepC M M'' → Q (t : Int) M'' := fun y y2 => by rw [if_neg y, if_pos y2] at hq; exact hq
        have p2 : Z' 5 k.toNat ≠ -1 → Z' 5 k.toNat = l → ¬ (0 ≤ f + 3 * (t : Int) ∧ f + 3 * (t : Int) ≤ Z' 6 k.toNat - 3) → ∀ M'' : JM, RepR (zu Z' 3 4 2) M'' → keepC M M'' → Q (t : Int) M'' := fun y y2 y3 => by rw [if_neg y, if_neg (fun z => z y2), if_pos y3] at hq; exact hq
        refine cell 0 (by omega) (fun y y2 y3 => p2 y y2 (by omega)) p1 p3 (fun c0 y y2 => ?_)
        refine vc_M_read_126 _ _ _ _ _ _ _ _ ⟨fun z => absurd rfl z, fun _ => ⟨fun _ a ea => ?_, fun z => by rw [tm 0 (by omega)] at z; omega⟩⟩
        rw [ea, w32_s (by omega)]
        refine cell 1 (by omega) (fun y y2 y3 => p2 y y2 (by omega)) p1 p3 (fun c1 y y2 => ?_)
        refine vc_M_read_126 _ _ _ _ _ _ _ _ ⟨fun z => absurd rfl z, fun _ => ⟨fun _ a ea => ?_, fun z => by rw [tm 1 (by omega)] at z; omega⟩⟩
        rw [ea, w32_s (by omega)]
        refine cell 2 (by omega) (fun y y2 y3 => p2 y y2 (by omega)) p1 p3 (fun c2 y y2 => ?_)
        refine vc_M_read_126 _ _ _ _ _ _ _ _ ⟨fun z => absurd rfl z, fun _ => ⟨fun z => absurd (tm 2 (by omega)) z, fun _ a ea => ?_⟩⟩
        rw [if_neg y, if_neg (fun z => z y2), if_neg (fun z => z (by omega))] at hq
        rw [w32_id (x := 40 * k) (by omega) (by omega), w32_id (x := 40 * k + f) (by omega) (by omega), w32_id (by omega) (by omega)] at ea
        rw [w32_id (x := a - 2) (by omega) (by omega), w32_id (x := a - 1) (by omega) (by omega)]
        refine ⟨by omega, by omega, by omega, ?_⟩
        have d0 : M' 33 0 (a - 2).toNat = cel Z' k.toNat f t 0 := by unfold cel; rw [show (a - 2).toNat = 40 * k.toNat + ((f + 3 * (t : Int)).toNat + 0) by omega]; exact x3 _ (by omega)
        have d1 : M' 33 0 (a - 1).toNat = cel Z' k.toNat f t 1 := by unfold cel; rw [show (a - 1).toNat = 40 * k.toNat + ((f + 3 * (t : Int)).toNat + 1) by omega]; exact x3 _ (by omega)
        have d2 : M' 33 0 a.toNat = cel Z' k.toNat f t 2 := by unfold cel; rw [show a.toNat = 40 * k.toNat + ((f + 3 * (t : Int)).toNat + 2) by omega]; exact x3 _ (by omega)
        rw [d0, d1, d2]
        obtain ⟨s1, s2⟩ := stock_ag (a := cel Z' k.toNat f t 0) (b := cel Z' k.toNat f t 1) (c := cel Z' k.toNat f t 2) hZ hZ' g1 g2
        refine M_stocks hZ' r (fun M5 r5 f5 => ?_)
        have v5 : VR M5 132 (Z 0) (npz Z) := ⟨fun j hj => by rw [f5 21 0 _ (by omega)]; exact v.1 j hj, by rw [f5 20 0 1 (by omega)]; exact v.2⟩
        have k5 : keepC M M5 := keepC_tr kk (fun t i j q => f5 t i j (by omega))
        refine ⟨fun z a6 e6 a7 e7 => ?_, fun z => ?_⟩
        · rw [if_neg (Int.not_lt.mpr z)] at hq
          rw [e6, e7, w32_s (by omega), w32_s (by omega)]
          exact ih (t + 1) _ M5 (by omega) (ZB_stock hZ') r5 v5 k5 s1 s2 hq
        · rw [if_pos z] at hq
          rw [w32_id (by omega) (by omega)]
          refine M_copies (b := 132) (c := 0) (by omega) (by omega) (by omega) v5 (fun M8 v8 n8 => ?_)
          refine hq M8 ?_ (keepC_tr k5 (fun t i j q => n8 t i j (by omega)))
          rw [stock_no hZ' z] at r5
          have en : npz Z' = npz Z := npz_c (by rw [g1 3 (by omega)])
          have r8 := RepR_now (X := Z 0) (fun t i j q => n8 t i j (by omega)) r5 (by rw [en]; exact v8)
          have ez : zp Z' 0 (Z 0) = Z := by
            funext d
            by_cases hd : d = 0
            · rw [hd, zp_s]
            · rw [zp_n hd]; exact g1 d hd
          rw [ez] at r8
          exact r8
    exact loop N 0 Z M1 (by omega) hZ r1 v1 k1 (fun _ _ => rfl) ⟨Nat.le_refl _, fun _ _ => ⟨rfl, rfl, rfl, rfl⟩, fun _ _ => rfl⟩ hQ
  · rw [if_neg (fun z => h3 z.2.2)] at hQ; exact hQ M hR (keepC_rf M)
  · rw [if_neg (fun z => h2 z.2.1)] at hQ; exact hQ M hR (keepC_rf M)
  · rw [if_neg (fun z => h1 z.1)] at hQ; exact hQ M hR (keepC_rf M)
end

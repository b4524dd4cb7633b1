/-! the class's goods, people, towns: what their methods change -/
theorem VC_c {M : JM} {u np : Nat} {X Y : Nat → Int} (hV : VC M u X np) (h8 : ngd X ≤ 8) (h4 : np ≤ 4) (h : ∀ j, j < 44 → Y j = X j) : VC M u Y np := by
  have e : ngd Y = ngd X := by unfold ngd; rw [h 32 (by omega)]
  refine ⟨by rw [h 32 (by omega), h 41 (by omega), h 42 (by omega), h 43 (by omega)]; exact hV.1, fun g hg => ?_, fun p hp => ?_, hV.2.2.2⟩
  · rw [e] at hg
    unfold heft pays
    rw [h g (by omega), h (8 + g) (by omega), h (16 + g) (by omega), h (24 + g) (by omega)]
    exact hV.2.1 g hg
  · rw [h (33 + p) (by omega), h (37 + p) (by omega)]
    exact hV.2.2.1 p hp
section
variable {E : EE} {Q : Int → JM → Prop} {M : JM} {u np : Nat} {X : Nat → Int}
theorem G_heft {i : Nat} (h0 : 0 ≤ M 1 i 0 ∧ M 1 i 0 ≤ 3) (h1 : 1 ≤ M 1 i 1 ∧ M 1 i 1 ≤ 9) (hQ : Q (hfv (M 1 i 0) (M 1 i 1)) M) : JC E mm_G_heftByKind [vR 1 i] M Q := by
  unfold hfv at hQ
  refine vc_G_heftByKind i M ⟨fun h => ?_, fun h => ?_, fun h => ?_, fun h => ?_⟩
  · rw [if_pos (by omega)] at hQ; exact hQ
  · rw [if_neg (by omega), if_pos h] at hQ
    rw [w32_id (by omega) (by omega)]; exact hQ
  · rw [if_neg (by omega), if_neg (by omega), if_pos h] at hQ
    rw [w32_id (x := M 1 i 1 + 1) (by omega) (by omega), Int.tdiv_eq_ediv_of_nonneg (by omega), w32_id (by omega) (by omega)]; exact hQ
  · rw [if_neg (by omega), if_neg (by omega), if_neg (by omega)] at hQ
    rw [w32_id (x := 2 * M 1 i 1) (by omega) (by omega), w32_id (by omega) (by omega)]; exact hQ
theorem G_pays {i : Nat} (h0 : 0 ≤ M 1 i 0 ∧ M 1 i 0 ≤ 3) (h1 : 0 ≤ M 1 i 2 ∧ M 1 i 2 ≤ 9) (hQ : Q (pyv (M 1 i 0) (M 1 i 2)) M) : JC E mm_G_paysByKind [vR 1 i] M Q := by
  unfold pyv at hQ
  refine vc_G_paysByKind i M ⟨fun h => ?_, fun h => ?_, fun h => ?_⟩
  · rw [if_neg h.1, if_neg h.2] at hQ; exact hQ
  · rw [if_pos h] at hQ
    rw [w32_id (by omega) (by omega)]; exact hQ
  · rw [if_neg (by omega), if_pos h] at hQ
    rw [w32_id (by omega) (by omega)]; exact hQ
theorem G_become {i : Nat} {k w v : Int} (hk : 0 ≤ k ∧ k ≤ 3) (hw : 1 ≤ w ∧ w ≤ 9) (hv : 0 ≤ v ∧ v ≤ 9) (hQ : ∀ M' : JM, (M' 1 i 0 = k ∧ M' 1 i 1 = w ∧ M' 1 i 2 = v ∧ M' 1 i 3 = hfv k w ∧ M' 1 i 4 = pyv k v) → (∀ t j a, ¬ (t = 1 ∧ j = i ∧ a < 5) → M' t j a = M t j a) → Q 0 M') : JC E mm_G_become [vR 1 i, vI k, vI w, vI v] M Q := by
  refine vc_G_become i k w v M (fun M1 e1 M2 e2 M3 e3 => ?_)
  have r0 : M3 1 i 0 = k := by rw [e3, pt_ne (by omega), e2, pt_ne (by omega), e1, pt_eq]
  have r1 : M3 1 i 1 = w := by rw [e3, pt_ne (by omega), e2, pt_eq]
  have r2 : M3 1 i 2 = v := by rw [e3, pt_eq]
  refine G_heft (by rw [r0]; exact hk) (by rw [r1]; exact hw) (fun M4 e4 => ?_)
  have s0 : M4 1 i 0 = k := by rw [e4, pt_ne (by omega), r0]
  have s1 : M4 1 i 1 = w := by rw [e4, pt_ne (by omega), r1]
  have s2 : M4 1 i 2 = v := by rw [e4, pt_ne (by omega), r2]
  refine G_pays (by rw [s0]; exact hk) (by rw [s2]; exact hv) (fun M5 e5 => ?_)
  refine hQ M5 ⟨by rw [e5, pt_ne (by omega), s0], by rw [e5, pt_ne (by omega), s1], by rw [e5, pt_ne (by omega), s2], by rw [e5, pt_ne (by omega), e4, pt_eq, r0, r1], by rw [e5, pt_eq, s0, s2]⟩ (fun t j a hn => ?_)
  rw [e5, pt_ne (by omega), e4, pt_ne (by omega), e3, pt_ne (by omega), e2, pt_ne (by omega), e1, pt_ne (by omega)]
theorem G_copyFrom {i j : Nat} (hij : i ≠ j) (h01 : M 1 j 5 = 0 ∨ M 1 j 5 = 1) (hQ : ∀ M' : JM, (∀ k, k < 6 → M' 1 i k = M 1 j k) → (∀ t a k, ¬ (t = 1 ∧ a = i) → M' t a k = M t a k) → Q 0 M') : JC E mm_G_copyFrom [vR 1 i, vR 1 j] M Q := by
  refine vc_G_copyFrom i j M (fun M1 e1 M2 e2 M3 e3 M4 e4 M5 e5 => ?_)
  have f1 : ∀ k, M1 1 j k = M 1 j k := fun k => by rw [e1, pt_ne (by omega)]
  have f2 : ∀ k, M2 1 j k = M 1 j k := fun k => by rw [e2, pt_ne (by omega), f1]
  have f3 : ∀ k, M3 1 j k = M 1 j k := fun k => by rw [e3, pt_ne (by omega), f2]
  have f4 : ∀ k, M4 1 j k = M 1 j k := fun k => by rw [e4, pt_ne (by omega), f3]
  have f5 : ∀ k, M5 1 j k = M 1 j k := fun k => by rw [e5, pt_ne (by omega), f4]
  rw [f5]
  refine ⟨h01, fun M6 e6 => hQ M6 (fun k hk => ?_) (fun t a k hn => ?_)⟩
  · rw [f1] at e2; rw [f2] at e3; rw [f3] at e4; rw [f4] at e5
    rcases (show k = 0 ∨ k = 1 ∨ k = 2 ∨ k = 3 ∨ k = 4 ∨ k = 5 by omega) with h | h | h | h | h | h <;> subst h
    · rw [e6, pt_ne (by omega), e5, pt_ne (by omega), e4, pt_ne (by omega), e3, pt_ne (by omega), e2, pt_ne (by omega), e1, pt_eq]
    · rw [e6, pt_ne (by omega), e5, pt_ne (by omega), e4, pt_ne (by omega), e3, pt_ne (by omega), e2, pt_eq]
    · rw [e6, pt_ne (by omega), e5, pt_ne (by omega), e4, pt_ne (by omega), e3, pt_eq]
    · rw [e6, pt_ne (by omega), e5, pt_ne (by omega), e4, pt_eq]
    · rw [e6, pt_ne (by omega), e5, pt_eq]
    · rw [e6, pt_eq]
  · rw [e6, pt_ne (by omega), e5, pt_ne (by omega), e4, pt_ne (by omega), e3, pt_ne (by omega), e2, pt_ne (by omega), e1, pt_ne (by omega)]
theorem O_copyFrom {i j : Nat} (hij : i ≠ j) (hQ : ∀ M' : JM, M' 2 i 0 = M 2 j 0 → M' 2 i 1 = M 2 j 1 → (∀ t a k, ¬ (t = 2 ∧ a = i) → M' t a k = M t a k) → Q 0 M') : JC E mm_O_copyFrom [vR 2 i, vR 2 j] M Q := by
  refine vc_O_copyFrom i j M (fun M1 e1 M2 e2 => hQ M2 ?_ ?_ (fun t a k hn => ?_))
  · rw [e2, pt_ne (by omega), e1, pt_eq]
  · rw [e2, pt_eq, e1, pt_ne (by omega)]
  · rw [e2, pt_ne (by omega), e1, pt_ne (by omega)]
theorem O_emptyArms {i : Nat} (hQ : ∀ M' : JM, M' 2 i 2 = 0 → M' 2 i 3 = 0 → M' 2 i 4 = 0 → (∀ t a k, ¬ (t = 2 ∧ a = i ∧ 2 ≤ k) → M' t a k = M t a k) → Q 0 M') : JC E mm_O_emptyArms [vR 2 i] M Q := by
  refine vc_O_emptyArms i M (fun M1 e1 M2 e2 M3 e3 => hQ M3 ?_ ?_ ?_ (fun t a k hn => ?_))
  · rw [e3, pt_ne (by omega), e2, pt_ne (by omega), e1, pt_eq]
  · rw [e3, pt_ne (by omega), e2, pt_eq]
  · rw [e3, pt_eq]
  · rw [e3, pt_ne (by omega), e2, pt_ne (by omega), e1, pt_ne (by omega)]
/-- a town becomes as another -/
theorem T_copyFrom {r : Nat} (hur : u ≠ r) (hB : PB X np) (hV : VC M r X np) (hm : permOk M u) (hQ : ∀ M' : JM, VC M' u (cpy X) np → VT M' u (cpy X) → fra u M M' → Q 0 M') : JC E mm_T_copyFrom [vR 3 u, vR 3 r] M Q := by
  have h8 := ngd_le hB
  have hn := ngd_int hB
  have h4 := hB.2.1
  refine vc_T_copyFrom u r M (fun M1 e1 M2 e2 M3 e3 M4 e4 M5 e5 => ?_)
  obtain ⟨c1, c2, c3, c4, c5⟩ := hV.1
  have f5 : fra u M M5 := by
    rw [e5, e4, e3, e2, e1]
    exact fra_tr (fra_tr (fra_tr (fra_tr (fra_pt (by omega)) (fra_pt (by omega))) (fra_pt (by omega))) (fra_pt (by omega))) (fra_pt (by omega))
  have g1 : M1 3 r 3 = np := by rw [e1, pt_ne (by omega), c2]
  have g2 : M2 3 r 4 = X 41 + 2 := by rw [e2, pt_ne (by omega), e1, pt_ne (by omega), c3]
  have g3 : M3 3 r 5 = X 42 + 2 := by rw [e3, pt_ne (by omega), e2, pt_ne (by omega), e1, pt_ne (by omega), c4]
  have g4 : M4 3 r 6 = X 43 := by rw [e4, pt_ne (by omega), e3, pt_ne (by omega), e2, pt_ne (by omega), e1, pt_ne (by omega), c5]
  rw [c1] at e1; rw [g1] at e2; rw [g2] at e3; rw [g3] at e4; rw [g4] at e5
  have hd : M5 3 u 2 = X 32 ∧ M5 3 u 3 = np ∧ M5 3 u 4 = X 41 + 2 ∧ M5 3 u 5 = X 42 + 2 ∧ M5 3 u 6 = X 43 := by
    refine ⟨?_, ?_, ?_, ?_, ?_⟩
    · rw [e5, pt_ne (by omega), e4, pt_ne (by omega), e3, pt_ne (by omega), e2, pt_ne (by omega), e1, pt_eq]
    · rw [e5, pt_ne (by omega), e4, pt_ne (by omega), e3, pt_ne (by omega), e2, pt_eq]
    · rw [e5, pt_ne (by omega), e4, pt_ne (by omega), e3, pt_eq]
    · rw [e5, pt_ne (by omega), e4, pt_eq]
    · rw [e5, pt_eq]
  -- the people
  have people : ∀ M6 : JM, fra u M M6 → (M6 3 u 2 = X 32 ∧ M6 3 u 3 = np ∧ M6 3 u 4 = X 41 + 2 ∧ M6 3 u 5 = X 42 + 2 ∧ M6 3 u 6 = X 43) → (∀ g, g < ngd X → ∀ k, k < 6 → M6 1 (8 * u + g) k = M 1 (8 * r + g) k) → JG E mm_T_copyFrom Q 73 [(0, vR 3 u), (1, vR 3 r), (2, vI 0)] [] M6 := by
    intro M6 f6 hd6 hg6
    refine up_ind (P := fun i => ∀ M' : JM, fra u M M' → (M' 3 u 2 = X 32 ∧ M' 3 u 3 = np ∧ M' 3 u 4 = X 41 + 2 ∧ M' 3 u 5 = X 42 + 2 ∧ M' 3 u 6 = X 43) → (∀ g, g < ngd X → ∀ k, k < 6 → M' 1 (8 * u + g) k = M 1 (8 * r + g) k) → (∀ p, p < i → M' 2 (on M u p) 0 = X (33 + p) ∧ M' 2 (on M u p) 1 = X (37 + p)) → JG E mm_T_copyFrom Q 73 [(0, vR 3 u), (1, vR 3 r), (2, vI (i : Int))] [] M') np ?_ ?_ M6 f6 hd6 hg6 (fun p hp => absurd hp (Nat.not_lt_zero p))
    · intro M' f hd' hg' hp'
      refine vc_T_copyFrom_73 _ _ _ _ ⟨fun _ Ma ea Mb eb Mc ec => ?_, fun h => by rw [hd'.2.1] at h; omega⟩
      have fc : fra u M' Mc := by
        rw [ec, eb, ea]
        exact fra_tr (fra_tr (fra_pt (by omega)) (fra_pt (by omega))) (fra_pt (by omega))
      have n1 : ∀ t i k, ¬ (t = 3 ∧ i = u ∧ (k = 7 ∨ k = 8 ∨ k = 9)) → Mc t i k = M' t i k := fun t i k hn => by
        rw [ec, pt_ne (by omega), eb, pt_ne (by omega), ea, pt_ne (by omega)]
      refine hQ Mc (VC_c (X := X) ⟨?_, fun g hg => ?_, fun p hp => ?_, fra_pm (fra_tr f fc) hm⟩ h8 h4 (fun j hj => if_neg (by omega))) ⟨?_, ?_⟩ (fra_tr f fc)
      · rw [n1 3 u 2 (by omega), n1 3 u 3 (by omega), n1 3 u 4 (by omega), n1 3 u 5 (by omega), n1 3 u 6 (by omega)]; exact hd'
      · have q := hg' g hg
        rw [n1 _ _ 0 (by omega), n1 _ _ 1 (by omega), n1 _ _ 2 (by omega), n1 _ _ 3 (by omega), n1 _ _ 4 (by omega), n1 _ _ 5 (by omega), q 0 (by omega), q 1 (by omega), q 2 (by omega), q 3 (by omega), q 4 (by omega), q 5 (by omega)]
        exact hV.2.1 g hg
      · rw [fra_on (fra_tr f fc), n1 _ _ 0 (by omega), n1 _ _ 1 (by omega)]
        exact hp' p hp
      · rw [ec, pt_ne (by omega), eb, pt_eq]; rfl
      · rw [ec, pt_eq]; rfl
    · intro i hi ih M' f hd' hg' hp'
      refine vc_T_copyFrom_73 _ _ _ _ ⟨fun h => by rw [hd'.2.1] at h; omega, fun _ => ⟨by omega, by omega, ?_⟩⟩
      rw [Int.toNat_natCast]
      have eo : 4 * u + (M' 5 u i).toNat = on M u i := by rw [fra_5 f]; rfl
      have er : 4 * r + (M' 5 r i).toNat = on M r i := by rw [fra_5 f]; rfl
      rw [eo, er]
      have iu := on_in hm (p := i) (by omega)
      have ir := on_in hV.2.2.2 (p := i) (by omega)
      refine O_copyFrom (by omega) (fun M7 k0 k1 kf a2 e2 => ?_)
      have f7 : fra u M' M7 := fun t a k hn => kf t a k (by omega)
      rw [e2, w32_s (by omega)]
      refine ih M7 (fra_tr f f7) ?_ (fun g hg k hk => ?_) (fun p hp => ?_)
      · rw [kf 3 u 2 (by omega), kf 3 u 3 (by omega), kf 3 u 4 (by omega), kf 3 u 5 (by omega), kf 3 u 6 (by omega)]; exact hd'
      · rw [kf 1 _ k (by omega)]; exact hg' g hg k hk
      · by_cases hpi : p = i
        · subst hpi
          rw [k0, k1, f 2 (on M r p) 0 (by omega), f 2 (on M r p) 1 (by omega)]
          exact hV.2.2.1 p hi
        · have hne : on M u p ≠ on M u i := fun q => hpi (on_inj hm (by omega) (by omega) q)
          rw [kf 2 _ 0 (by omega), kf 2 _ 1 (by omega)]
          exact hp' p (by omega)
  -- the goods
  refine up_ind (P := fun i => ∀ M' : JM, fra u M M' → (M' 3 u 2 = X 32 ∧ M' 3 u 3 = np ∧ M' 3 u 4 = X 41 + 2 ∧ M' 3 u 5 = X 42 + 2 ∧ M' 3 u 6 = X 43) → (∀ g, g < i → ∀ k, k < 6 → M' 1 (8 * u + g) k = M 1 (8 * r + g) k) → JG E mm_T_copyFrom Q 42 [(0, vR 3 u), (1, vR 3 r), (2, vI (i : Int))] [] M') (ngd X) ?_ ?_ M5 f5 hd (fun g hg => absurd hg (Nat.not_lt_zero g))
  · intro M' f hd' hg'
    exact vc_T_copyFrom_42 _ _ _ _ ⟨fun _ => people M' f hd' hg', fun h => by rw [hd'.1] at h; omega⟩
  · intro i hi ih M' f hd' hg'
    refine vc_T_copyFrom_42 _ _ _ _ ⟨fun h => by rw [hd'.1] at h; omega, fun _ => ⟨by omega, by omega, ?_⟩⟩
    rw [Int.toNat_natCast]
    have hb := (hV.2.1 i hi).2.2.2.2.2
    have hb2 := (hB.2.2.1 i hi).2.2.2
    refine G_copyFrom (by omega) (by rw [f 1 _ 5 (by omega), hb]; exact hb2) (fun M7 k0 kf a2 e2 => ?_)
    have f7 : fra u M' M7 := fun t a k hn => kf t a k (by omega)
    rw [e2, w32_s (by omega)]
    refine ih M7 (fra_tr f f7) ?_ (fun g hg k hk => ?_)
    · rw [kf 3 u 2 (by omega), kf 3 u 3 (by omega), kf 3 u 4 (by omega), kf 3 u 5 (by omega), kf 3 u 6 (by omega)]; exact hd'
    · by_cases hgi : g = i
      · subst hgi
        rw [k0 k hk, f 1 (8 * r + g) k (by omega)]
      · rw [kf 1 _ k (by omega)]
        exact hg' g (by omega) k hk
end

/-! behind both constructors the heap holds the first memory -/
theorem twE_g {ca : Nat → ClassId} {n0 b j : Nat} (h1 : 3 ≤ j) (h2 : j < 11) : twE ca n0 b j = goodE := by
  unfold twE
  rw [if_neg (by omega), if_neg (by omega), if_neg (by omega), if_pos h2]
theorem twE_o {ca : Nat → ClassId} {n0 b j : Nat} (h1 : 11 ≤ j) : twE ca n0 b j = oneE := by
  unfold twE
  rw [if_neg (by omega), if_neg (by omega), if_neg (by omega), if_neg (by omega)]
theorem tb_c : ∀ u, u < 5 → (tbL.getD u 0 = 1 ∨ tbL.getD u 0 = 16 ∨ tbL.getD u 0 = 31 ∨ tbL.getD u 0 = 74 ∨ tbL.getD u 0 = 89) := by decide +kernel
theorem cnt_c : ∀ t, t < 40 → ¬ t ≤ 16 → ¬ (20 ≤ t ∧ t ≤ 33) → cnt t = 0 := by decide +kernel
theorem wC_0 {D : va_G} {ca : Nat → ClassId} {n0 : Nat} {adK adV : Nat → Nat} {cl clx : Nat → va_E} {H : Heap} (hC : CHp D n0 132 cl H) (h0 : clx 0 = .inr (6, fin_H n0)) (hH : ∀ j, j < 118 → j ≠ 0 → clx j = TGH ca n0 j) (hm : cl 118 = .inr (7, fin_M n0 118)) (hM : ∀ j, j < 132 → j ≠ 118 → cl j = TG_M ca clx 118 j) : wC (E0 D ca n0 adK adV) H M0 := by
  have hlow : ∀ j, j < 118 → cl j = clx j := fun j hj => by
    rw [hM j (by omega) (by omega)]
    unfold TG_M
    rw [if_pos (by omega)]
  have hcl : ∀ j, j < 118 → j ≠ 0 → va_at D vcl (n0 + j, TGH ca n0 j) H := fun j h1 h2 => by
    have h := hC.2 j (by omega)
    rw [hlow j h1, hH j h1 h2] at h
    exact h
  have cT : ∀ u, u < 5 → ∀ j, j < 15 → va_at D vcl (n0 + (tbL.getD u 0 + j), twE ca n0 (tbL.getD u 0) j) H := fun u hu j hj => by
    have hb := tb_c u hu
    rw [← TGH_t hb j hj]
    exact hcl _ (by omega) (by omega)
  have o1 : ∀ u g, g < 8 → offs 1 (8 * u + g) = tbL.getD u 0 + (3 + g) := fun u g hg => by
    show tbL.getD ((8 * u + g) / 8) 0 + (3 + (8 * u + g) % 8) = _
    rw [show (8 * u + g) / 8 = u by omega, show (8 * u + g) % 8 = g by omega]
  have o2 : ∀ u g, g < 4 → offs 2 (4 * u + g) = tbL.getD u 0 + (11 + g) := fun u g hg => by
    show tbL.getD ((4 * u + g) / 4) 0 + (11 + (4 * u + g) % 4) = _
    rw [show (4 * u + g) / 4 = u by omega, show (4 * u + g) % 4 = g by omega]
  have W1 : isW 1 := by unfold isW; omega
  have W2 : isW 2 := by unfold isW; omega
  have W3 : isW 3 := by unfold isW; omega
  have W6 : isW 6 := by unfold isW; omega
  have W8 : isW 8 := by unfold isW; omega
  have W16 : isW 16 := by unfold isW; omega
  refine ⟨fun t i hw hi => ?_, mok_0⟩
  show va_at D vcl (ad0 n0 adK adV t i, cellF ca (ad0 n0 adK adV) t i (M0 t i)) H
  rw [ad0_w hw]
  have h40 : t < 40 := hw
  by_cases e0 : t = 0
  · subst e0
    have h := hC.2 0 (by omega)
    rw [hlow 0 (by omega), h0] at h
    exact h
  by_cases e1 : t = 1
  · subst e1
    have hi : i < 40 := hi
    have h := cT (i / 8) (by omega) (3 + i % 8) (by omega)
    rw [twE_g (by omega) (by omega)] at h
    exact h
  by_cases e2 : t = 2
  · subst e2
    have hi : i < 20 := hi
    have h := cT (i / 4) (by omega) (11 + i % 4) (by omega)
    rw [twE_o (by omega)] at h
    exact h
  by_cases e3 : t = 3
  · subst e3
    have hi : i < 5 := hi
    have h := cT i hi 0 (by omega)
    exact h
  by_cases e4 : t = 4
  · subst e4
    have hi : i < 5 := hi
    have h := cT i hi 1 (by omega)
    have h : va_at D vcl (n0 + (tbL.getD i 0 + 1), .inl (ca 2, 8, refs (gf n0 (tbL.getD i 0 + 3) 8))) H := h
    refine at_refs h (fun j hj => ?_)
    unfold gf
    rw [if_pos hj, ad0_w W1, o1 i j hj, Nat.add_assoc]
  by_cases e5 : t = 5
  · subst e5
    have hi : i < 5 := hi
    have h := cT i hi 2 (by omega)
    have h : va_at D vcl (n0 + (tbL.getD i 0 + 2), .inl (ca 3, 4, refs (gf n0 (tbL.getD i 0 + 11) 4))) H := h
    refine at_refs h (fun j hj => ?_)
    have e : (M0 5 i j).toNat = j := by
      show (if j < 4 then (j : Int) else 0).toNat = j
      rw [if_pos hj]
      omega
    unfold gf
    rw [if_pos hj, e, ad0_w W2, o2 i j hj, Nat.add_assoc]
  by_cases e6 : t = 6
  · subst e6
    have hi : i < 4 := hi
    have h := hcl (104 + 2 * i) (by omega) (by omega)
    rw [(TGH_s i hi).1] at h
    exact h
  by_cases e7 : t = 7
  · subst e7
    have hi : i < 4 := hi
    have h := hcl (104 + 2 * i + 1) (by omega) (by omega)
    rw [(TGH_s i hi).2] at h
    exact at_ints h (fun j hj => rfl)
  by_cases e8 : t = 8
  · subst e8
    have hi : i < 6 := hi
    have h := hcl (112 + 1 * i) (by omega) (by omega)
    rw [TGH_i i hi] at h
    exact h
  by_cases e9 : t = 9
  · subst e9
    exact hcl 48 (by omega) (by omega)
  by_cases e10 : t = 10
  · subst e10
    have h : va_at D vcl (n0 + 49, .inl (ca 0, 160, .inl (fun _ => 0))) H := hcl 49 (by omega) (by omega)
    exact at_ints h (fun j hj => rfl)
  by_cases e11 : t = 11
  · subst e11
    have h : va_at D vcl (n0 + 46, .inl (ca 4, 2, refs (af n0 74 15 2))) H := hcl 46 (by omega) (by omega)
    refine at_refs h (fun j hj => ?_)
    unfold af
    rw [if_pos hj, ad0_w W3]
    have hj2 : j = 0 ∨ j = 1 := by omega
    rcases hj2 with rfl | rfl <;> rfl
  by_cases e12 : t = 12
  · subst e12
    have h : va_at D vcl (n0 + 47, .inl (ca 1, 2, .inl (fun _ => 0))) H := hcl 47 (by omega) (by omega)
    exact at_ints h (fun j hj => rfl)
  by_cases e13 : t = 13
  · subst e13
    have h : va_at D vcl (n0 + 50, .inl (ca 5, 4, refs (af n0 104 2 4))) H := hcl 50 (by omega) (by omega)
    refine at_refs h (fun j hj => ?_)
    unfold af
    rw [if_pos hj, ad0_w W6]
    rfl
  by_cases e14 : t = 14
  · subst e14
    have h : va_at D vcl (n0 + 51, .inl (ca 6, 6, refs (af n0 112 1 6))) H := hcl 51 (by omega) (by omega)
    refine at_refs h (fun j hj => ?_)
    unfold af
    rw [if_pos hj, ad0_w W8]
    rfl
  by_cases e15 : t = 15
  · subst e15
    have h : va_at D vcl (n0 + 52, .inl (ca 7, 21, refs (gf n0 53 21))) H := hcl 52 (by omega) (by omega)
    refine at_refs h (fun j hj => ?_)
    unfold gf
    rw [if_pos hj, ad0_w W16]
    rfl
  by_cases e16 : t = 16
  · subst e16
    have hi : i < 21 := hi
    have h := hcl (53 + i) (by omega) (by omega)
    rw [TGH_r (53 + i) (by omega) (by omega)] at h
    exact at_ints h (fun j hj => rfl)
  by_cases e20 : t = 20
  · subst e20
    have h := hC.2 118 (by omega)
    rw [hm] at h
    exact h
  by_cases e21 : t = 21
  · subst e21
    have h := hC.2 (118 + 1) (by omega)
    rw [hM (118 + 1) (by omega) (by omega), TGv_M_1] at h
    exact at_ints h (fun j hj => rfl)
  by_cases e22 : t = 22
  · subst e22
    have h := hC.2 (118 + 2) (by omega)
    rw [hM (118 + 2) (by omega) (by omega), TGv_M_2] at h
    exact at_ints h (fun j hj => rfl)
  by_cases e23 : t = 23
  · subst e23
    have h := hC.2 (118 + 3) (by omega)
    rw [hM (118 + 3) (by omega) (by omega), TGv_M_3] at h
    exact at_ints h (fun j hj => rfl)
  by_cases e24 : t = 24
  · subst e24
    have h := hC.2 (118 + 4) (by omega)
    rw [hM (118 + 4) (by omega) (by omega), TGv_M_4] at h
    have hi : i < 1 := hi
    have ei : i = 0 := by omega
    subst ei
    exact at_ints h (by decide +kernel)
  by_cases e25 : t = 25
  · subst e25
    have h := hC.2 (118 + 5) (by omega)
    rw [hM (118 + 5) (by omega) (by omega), TGv_M_5] at h
    have hi : i < 1 := hi
    have ei : i = 0 := by omega
    subst ei
    exact at_ints h (by decide +kernel)
  by_cases e26 : t = 26
  · subst e26
    have h := hC.2 (118 + 6) (by omega)
    rw [hM (118 + 6) (by omega) (by omega), TGv_M_6] at h
    exact at_ints h (fun j hj => rfl)
  by_cases e27 : t = 27
  · subst e27
    have h := hC.2 (118 + 7) (by omega)
    rw [hM (118 + 7) (by omega) (by omega), TGv_M_7] at h
    exact at_ints h (fun j hj => rfl)
  by_cases e28 : t = 28
  · subst e28
    have h := hC.2 (118 + 8) (by omega)
    rw [hM (118 + 8) (by omega) (by omega), TGv_M_8] at h
    exact at_ints h (fun j hj => rfl)
  by_cases e29 : t = 29
  · subst e29
    have h := hC.2 (118 + 9) (by omega)
    rw [hM (118 + 9) (by omega) (by omega), TGv_M_9] at h
    exact at_ints h (fun j hj => rfl)
  by_cases e30 : t = 30
  · subst e30
    have h := hC.2 (118 + 10) (by omega)
    rw [hM (118 + 10) (by omega) (by omega), TGv_M_10] at h
    exact at_ints h (fun j hj => rfl)
  by_cases e31 : t = 31
  · subst e31
    have h := hC.2 (118 + 11) (by omega)
    rw [hM (118 + 11) (by omega) (by omega), TGv_M_11] at h
    have hi : i < 1 := hi
    have ei : i = 0 := by omega
    subst ei
    exact at_ints h (by decide +kernel)
  by_cases e32 : t = 32
  · subst e32
    have h := hC.2 (118 + 12) (by omega)
    rw [hM (118 + 12) (by omega) (by omega), TGv_M_12] at h
    exact at_ints h (fun j hj => rfl)
  by_cases e33 : t = 33
  · subst e33
    have h := hC.2 (118 + 13) (by omega)
    rw [hM (118 + 13) (by omega) (by omega), TGv_M_13] at h
    exact at_ints h (fun j hj => rfl)
  have hz := cnt_c t h40 (by omega) (by omega)
  omega

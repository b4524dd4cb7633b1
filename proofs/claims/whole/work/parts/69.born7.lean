/-! the constructor of HaulWages -/
def af (n0 c d g : Nat) : Nat → Option Nat := fun j => if j < g then some (n0 + (c + d * j)) else none
theorem af_s (n0 c d g : Nat) : va_up (af n0 c d g) g (some (n0 + (c + d * g))) = af n0 c d (g + 1) := by
  funext j
  unfold va_up af
  by_cases h : j = g
  · subst h
    simp
  · by_cases h2 : j < g
    · simp [h, h2, show j < g + 1 by omega]
    · simp [h, h2, show ¬ j < g + 1 by omega]
theorem af_0 (n0 c d : Nat) : (fun _ => none) = af n0 c d 0 := by
  funext j
  unfold af
  simp
/-- what every cell is in the end (0 apart) -/
def TGH (ca : Nat → ClassId) (n0 j : Nat) : va_E :=
  if j < 16 then twE ca n0 1 (j - 1) else if j < 31 then twE ca n0 16 (j - 16) else if j < 46 then twE ca n0 31 (j - 31)
  else if j = 46 then .inl (ca 4, 2, refs (af n0 74 15 2)) else if j = 47 then .inl (ca 1, 2, .inl (fun _ => 0)) else if j = 48 then .inr (4, fin_P n0 48) else if j = 49 then .inl (ca 0, 160, .inl (fun _ => 0))
  else if j = 50 then .inl (ca 5, 4, refs (af n0 104 2 4)) else if j = 51 then .inl (ca 6, 6, refs (af n0 112 1 6)) else if j = 52 then .inl (ca 7, 21, refs (gf n0 53 21)) else if j < 74 then .inl (ca 0, 84, .inl (fun _ => 0))
  else if j < 89 then twE ca n0 74 (j - 74) else if j < 104 then twE ca n0 89 (j - 89) else if j < 112 then (if j % 2 = 0 then .inr (2, fin_S n0 j) else .inl (ca 0, 40, .inl (fun _ => 0))) else .inr (3, fin_I n0 j)
def HF (ca : Nat → ClassId) (n0 K : Nat) (cl : Nat → va_E) (fs : List Value) (f1 f2 f3 : Nat → Option Nat) : Prop := cl 0 = .inr (6, fs) ∧ (46 < K → cl 46 = .inl (ca 4, 2, refs f1)) ∧ (50 < K → cl 50 = .inl (ca 5, 4, refs f2)) ∧ (51 < K → cl 51 = .inl (ca 6, 6, refs f3)) ∧ ∀ j, j < K → j ≠ 0 → j ≠ 46 → j ≠ 50 → j ≠ 51 → cl j = TGH ca n0 j
section
variable {ca : Nat → ClassId} {n0 K K' : Nat} {cl cl1 : Nat → va_E} {fs fs' : List Value} {f1 f2 f3 g1 : Nat → Option Nat}
theorem hf_put (h : HF ca n0 K cl fs f1 f2 f3) : HF ca n0 K (upE cl 0 (.inr (6, fs'))) fs' f1 f2 f3 :=
  ⟨upE_eq _ _ _, fun q => by rw [upE_ne (by omega)]; exact h.2.1 q, fun q => by rw [upE_ne (by omega)]; exact h.2.2.1 q, fun q => by rw [upE_ne (by omega)]; exact h.2.2.2.1 q, fun j q1 q2 q3 q4 q5 => by rw [upE_ne q2]; exact h.2.2.2.2 j q1 q2 q3 q4 q5⟩
theorem hf_1 (h : HF ca n0 K cl fs f1 f2 f3) : HF ca n0 K (upE cl 46 (.inl (ca 4, 2, refs g1))) fs g1 f2 f3 :=
  ⟨by rw [upE_ne (by omega)]; exact h.1, fun q => upE_eq _ _ _, fun q => by rw [upE_ne (by omega)]; exact h.2.2.1 q, fun q => by rw [upE_ne (by omega)]; exact h.2.2.2.1 q, fun j q1 q2 q3 q4 q5 => by rw [upE_ne q3]; exact h.2.2.2.2 j q1 q2 q3 q4 q5⟩
theorem hf_2 (h : HF ca n0 K cl fs f1 f2 f3) : HF ca n0 K (upE cl 50 (.inl (ca 5, 4, refs g1))) fs f1 g1 f3 :=
  ⟨by rw [upE_ne (by omega)]; exact h.1, fun q => by rw [upE_ne (by omega)]; exact h.2.1 q, fun q => upE_eq _ _ _, fun q => by rw [upE_ne (by omega)]; exact h.2.2.2.1 q, fun j q1 q2 q3 q4 q5 => by rw [upE_ne q4]; exact h.2.2.2.2 j q1 q2 q3 q4 q5⟩
theorem hf_3 (h : HF ca n0 K cl fs f1 f2 f3) : HF ca n0 K (upE cl 51 (.inl (ca 6, 6, refs g1))) fs f1 f2 g1 :=
  ⟨by rw [upE_ne (by omega)]; exact h.1, fun q => by rw [upE_ne (by omega)]; exact h.2.1 q, fun q => by rw [upE_ne (by omega)]; exact h.2.2.1 q, fun q => upE_eq _ _ _, fun j q1 q2 q3 q4 q5 => by rw [upE_ne q5]; exact h.2.2.2.2 j q1 q2 q3 q4 q5⟩
theorem hf_ext (h : HF ca n0 K cl fs f1 f2 f3) (hK : 0 < K) (hk : ∀ j, j < K → cl1 j = cl j) (h1 : K ≤ 46 → 46 < K' → cl1 46 = .inl (ca 4, 2, refs f1)) (h2 : K ≤ 50 → 50 < K' → cl1 50 = .inl (ca 5, 4, refs f2)) (h3 : K ≤ 51 → 51 < K' → cl1 51 = .inl (ca 6, 6, refs f3)) (hn : ∀ j, K ≤ j → j < K' → j ≠ 46 → j ≠ 50 → j ≠ 51 → cl1 j = TGH ca n0 j) : HF ca n0 K' cl1 fs f1 f2 f3 := by
  refine ⟨by rw [hk 0 hK]; exact h.1, fun q => ?_, fun q => ?_, fun q => ?_, fun j q1 q2 q3 q4 q5 => ?_⟩
  · by_cases z : 46 < K
    · rw [hk _ z]; exact h.2.1 z
    · exact h1 (by omega) q
  · by_cases z : 50 < K
    · rw [hk _ z]; exact h.2.2.1 z
    · exact h2 (by omega) q
  · by_cases z : 51 < K
    · rw [hk _ z]; exact h.2.2.2.1 z
    · exact h3 (by omega) q
  · by_cases z : j < K
    · rw [hk _ z]; exact h.2.2.2.2 j z q2 q3 q4 q5
    · exact hn j (by omega) q1 q3 q4 q5
theorem hf_town (h : HF ca n0 K cl fs f1 f2 f3) (hK : 0 < K) (hx : K + 15 ≤ 46 ∨ 51 < K) {v : va_E} (hT : ∀ j, j < K + 15 → cl1 j = TG_T ca n0 (upE cl K v) K j) (hv : ∀ j, j < 15 → TGH ca n0 (K + j) = twE ca n0 K j) : HF ca n0 (K + 15) cl1 fs f1 f2 f3 := by
  refine hf_ext h hK (fun j hj => ?_) (fun a b => by omega) (fun a b => by omega) (fun a b => by omega) (fun j q1 q2 q3 q4 q5 => ?_)
  · rw [hT j (by omega)]
    unfold TG_T
    rw [if_pos hj, upE_ne (by omega)]
  · rw [hT j q2]
    unfold TG_T
    rw [if_neg (by omega), ← hv (j - K) (by omega), show K + (j - K) = j by omega]
theorem hf_new (h : HF ca n0 K cl fs f1 f2 f3) (hK : 0 < K) (hx : K ≠ 46 ∧ K ≠ 50 ∧ K ≠ 51) {v : va_E} (hv : TGH ca n0 K = v) : HF ca n0 (K + 1) (upE cl K v) fs f1 f2 f3 := by
  refine hf_ext h hK (fun j hj => upE_ne (by omega)) (fun a b => by omega) (fun a b => by omega) (fun a b => by omega) (fun j q1 q2 q3 q4 q5 => ?_)
  have e : j = K := by omega
  subst e
  rw [upE_eq, hv]
theorem TGH_t {K : Nat} (hK : K = 1 ∨ K = 16 ∨ K = 31 ∨ K = 74 ∨ K = 89) : ∀ j, j < 15 → TGH ca n0 (K + j) = twE ca n0 K j := by
  intro j hj
  have e : K + j - K = j := by omega
  rcases hK with rfl | rfl | rfl | rfl | rfl
  · unfold TGH
    rw [if_pos (by omega), e]
  · unfold TGH
    rw [if_neg (by omega), if_pos (by omega), e]
  · unfold TGH
    rw [if_neg (by omega), if_neg (by omega), if_pos (by omega), e]
  · unfold TGH
    rw [if_neg (by omega), if_neg (by omega), if_neg (by omega), if_neg (by omega), if_neg (by omega), if_neg (by omega), if_neg (by omega), if_neg (by omega), if_neg (by omega), if_neg (by omega), if_neg (by omega), if_pos (by omega), e]
  · unfold TGH
    rw [if_neg (by omega), if_neg (by omega), if_neg (by omega), if_neg (by omega), if_neg (by omega), if_neg (by omega), if_neg (by omega), if_neg (by omega), if_neg (by omega), if_neg (by omega), if_neg (by omega), if_neg (by omega), if_pos (by omega), e]
theorem TGH_r : ∀ j, 53 ≤ j → j < 74 → TGH ca n0 j = .inl (ca 0, 84, .inl (fun _ => 0)) := by
  intro j h1 h2
  unfold TGH
  rw [if_neg (by omega), if_neg (by omega), if_neg (by omega), if_neg (by omega), if_neg (by omega), if_neg (by omega), if_neg (by omega), if_neg (by omega), if_neg (by omega), if_neg (by omega), if_pos (by omega)]
theorem TGH_s : ∀ g, g < 4 → TGH ca n0 (104 + 2 * g) = .inr (2, fin_S n0 (104 + 2 * g)) ∧ TGH ca n0 (104 + 2 * g + 1) = .inl (ca 0, 40, .inl (fun _ => 0)) := by
  intro j h1
  unfold TGH
  constructor
  · rw [if_neg (by omega), if_neg (by omega), if_neg (by omega), if_neg (by omega), if_neg (by omega), if_neg (by omega), if_neg (by omega), if_neg (by omega), if_neg (by omega), if_neg (by omega), if_neg (by omega), if_neg (by omega), if_neg (by omega), if_pos (by omega), if_pos (by omega)]
  · rw [if_neg (by omega), if_neg (by omega), if_neg (by omega), if_neg (by omega), if_neg (by omega), if_neg (by omega), if_neg (by omega), if_neg (by omega), if_neg (by omega), if_neg (by omega), if_neg (by omega), if_neg (by omega), if_neg (by omega), if_pos (by omega), if_neg (by omega)]
theorem TGH_i : ∀ g, g < 6 → TGH ca n0 (112 + 1 * g) = .inr (3, fin_I n0 (112 + 1 * g)) := by
  intro j h1
  unfold TGH
  rw [if_neg (by omega), if_neg (by omega), if_neg (by omega), if_neg (by omega), if_neg (by omega), if_neg (by omega), if_neg (by omega), if_neg (by omega), if_neg (by omega), if_neg (by omega), if_neg (by omega), if_neg (by omega), if_neg (by omega), if_neg (by omega)]
theorem hf_end {fs : List Value} (h : HF ca n0 118 cl fs (af n0 74 15 2) (af n0 104 2 4) (af n0 112 1 6)) : cl 0 = .inr (6, fs) ∧ ∀ j, j < 118 → j ≠ 0 → cl j = TGH ca n0 j := by
  refine ⟨h.1, fun j h1 h2 => ?_⟩
  by_cases e1 : j = 46
  · subst e1; exact h.2.1 (by omega)
  by_cases e2 : j = 50
  · subst e2; exact h.2.2.1 (by omega)
  by_cases e3 : j = 51
  · subst e3; exact h.2.2.2.1 (by omega)
  exact h.2.2.2.2 j h1 h2 e1 e2 e3
end
abbrev dfl_H : List Value := [.null, .null, .null, .null, .null, .null, .null, .null, .null, .int 0, .int 0, .int 0]
abbrev fin_H (n0 : Nat) : List Value := [.ref (n0 + 1), .ref (n0 + 16), .ref (n0 + 31), .ref (n0 + 46), .ref (n0 + 47), .ref (n0 + 48), .ref (n0 + 50), .ref (n0 + 51), .ref (n0 + 52), .int (i32 0), .int (i32 0), .int (i32 0)]
theorem i_H {D : va_G} {ca : Nat → ClassId} {n0 : Nat} {cl0 : Nat → va_E} (h0 : cl0 0 = .inr (6, dfl_H)) : NI D ca n0 mm_H_init 0 1 118 cl0 (fun cl1 => cl1 0 = .inr (6, fin_H n0) ∧ ∀ j, j < 118 → j ≠ 0 → cl1 j = TGH ca n0 j) := by
  refine n_entry pn_H rfl (Nat.le_of_ble_eq_true rfl) ?_
  intro p l e s m args below meth c ls hx hb hown hts hr hlk hin hK hC hl hml
  have hS : va_S (frN n0) s.heap s.heap [] := va_S.rf
  have hF : HF ca n0 1 cl0 dfl_H (af n0 74 15 0) (af n0 104 2 0) (af n0 112 1 0) := ⟨h0, fun q => by omega, fun q => by omega, fun q => by omega, fun j q1 q2 => by omega⟩
  refine lv_aload_n hx hb dd_H_init_0 rfl (lv_at hl 0 rfl) ?_
  refine n_obj hx hb hown hts wd_82 hml hl.1 dd_H_init_1 (Nat.le_of_ble_eq_true rfl) (Nat.le_of_ble_eq_true rfl) ?_
  refine lv_aload_n hx hb dd_H_init_4 rfl (lv_at hl 0 rfl) ?_
  refine n_new (C := "HaulWages$Town") (N := 10) (ci := 5) (fs := dfl_T) ty_T hx hb hts hown hK in_T tyk_T rfl (by decide +kernel) wo_85 wo_86 wd_64 (Nat.le_of_ble_eq_true rfl) (Nat.le_of_ble_eq_true rfl) dd_H_init_5 hC hS (fun H hC hS => ?_)
  refine lv_dup hx hb dd_H_init_8 rfl ?_
  refine n_call (mm' := mm_T_init) (i_T (upE_eq _ _ _)) hx hb hml hown hts hl.1 hK (ws4 wd_87 wd_88 wd_64 wd_89) nki_T rfl ⟨Nat.le_of_ble_eq_true rfl, Nat.le_of_ble_eq_true rfl⟩ (Nat.le_of_ble_eq_true rfl) ⟨Nat.le_of_ble_eq_true rfl, Nat.le_of_ble_eq_true rfl⟩ dd_H_init_9 hC hS (fun cl1 H locs hP hC hS => ?_)
  have hF : HF ca n0 16 cl1 [.null, .null, .null, .null, .null, .null, .null, .null, .null, .int 0, .int 0, .int 0] (af n0 74 15 0) (af n0 104 2 0) (af n0 112 1 0) := hf_town hF (by omega) (by omega) hP (TGH_t (by omega))
  refine W.widen (k := 15) (n := 90) (Nat.le_of_ble_eq_true rfl) (Nat.le_of_ble_eq_true rfl) ?_
  refine n_putF (ci := 6) (f := 0) (ft := .object "HaulWages$Town") ty_H hx hb hts hown hK in_H tyk_H nm_H rfl (by omega) hF.1 (by decide) (Nat.le_of_ble_eq_true rfl) rfl hin rfl (by decide +kernel) rfl rfl wd_287 dd_H_init_12 hC hS (fun H locs hC hS => ?_)
  obtain ⟨cl, hC, hF⟩ : ∃ cl1 : Nat → va_E, CHp D n0 16 cl1 H ∧ HF ca n0 16 cl1 [.ref (n0 + 1), .null, .null, .null, .null, .null, .null, .null, .null, .int 0, .int 0, .int 0] (af n0 74 15 0) (af n0 104 2 0) (af n0 112 1 0) := ⟨_, hC, hf_put hF⟩
  refine lv_aload_n hx hb dd_H_init_15 rfl (lv_at hl 0 rfl) ?_
  refine n_new (C := "HaulWages$Town") (N := 10) (ci := 5) (fs := dfl_T) ty_T hx hb hts hown hK in_T tyk_T rfl (by decide +kernel) wo_85 wo_86 wd_64 (Nat.le_of_ble_eq_true rfl) (Nat.le_of_ble_eq_true rfl) dd_H_init_16 hC hS (fun H hC hS => ?_)
  refine lv_dup hx hb dd_H_init_19 rfl ?_
  refine n_call (mm' := mm_T_init) (i_T (upE_eq _ _ _)) hx hb hml hown hts hl.1 hK (ws4 wd_87 wd_88 wd_64 wd_89) nki_T rfl ⟨Nat.le_of_ble_eq_true rfl, Nat.le_of_ble_eq_true rfl⟩ (Nat.le_of_ble_eq_true rfl) ⟨Nat.le_of_ble_eq_true rfl, Nat.le_of_ble_eq_true rfl⟩ dd_H_init_20 hC hS (fun cl1 H locs hP hC hS => ?_)
  have hF : HF ca n0 31 cl1 [.ref (n0 + 1), .null, .null, .null, .null, .null, .null, .null, .null, .int 0, .int 0, .int 0] (af n0 74 15 0) (af n0 104 2 0) (af n0 112 1 0) := hf_town hF (by omega) (by omega) hP (TGH_t (by omega))
  refine W.widen (k := 30) (n := 180) (Nat.le_of_ble_eq_true rfl) (Nat.le_of_ble_eq_true rfl) ?_
  refine n_putF (ci := 6) (f := 1) (ft := .object "HaulWages$Town") ty_H hx hb hts hown hK in_H tyk_H nm_H rfl (by omega) hF.1 (by decide) (Nat.le_of_ble_eq_true rfl) rfl hin rfl (by decide +kernel) rfl rfl wd_288 dd_H_init_23 hC hS (fun H locs hC hS => ?_)
  obtain ⟨cl, hC, hF⟩ : ∃ cl1 : Nat → va_E, CHp D n0 31 cl1 H ∧ HF ca n0 31 cl1 [.ref (n0 + 1), .ref (n0 + 16), .null, .null, .null, .null, .null, .null, .null, .int 0, .int 0, .int 0] (af n0 74 15 0) (af n0 104 2 0) (af n0 112 1 0) := ⟨_, hC, hf_put hF⟩
  refine lv_aload_n hx hb dd_H_init_26 rfl (lv_at hl 0 rfl) ?_
  refine n_new (C := "HaulWages$Town") (N := 10) (ci := 5) (fs := dfl_T) ty_T hx hb hts hown hK in_T tyk_T rfl (by decide +kernel) wo_85 wo_86 wd_64 (Nat.le_of_ble_eq_true rfl) (Nat.le_of_ble_eq_true rfl) dd_H_init_27 hC hS (fun H hC hS => ?_)
  refine lv_dup hx hb dd_H_init_30 rfl ?_
  refine n_call (mm' := mm_T_init) (i_T (upE_eq _ _ _)) hx hb hml hown hts hl.1 hK (ws4 wd_87 wd_88 wd_64 wd_89) nki_T rfl ⟨Nat.le_of_ble_eq_true rfl, Nat.le_of_ble_eq_true rfl⟩ (Nat.le_of_ble_eq_true rfl) ⟨Nat.le_of_ble_eq_true rfl, Nat.le_of_ble_eq_true rfl⟩ dd_H_init_31 hC hS (fun cl1 H locs hP hC hS => ?_)
  have hF : HF ca n0 46 cl1 [.ref (n0 + 1), .ref (n0 + 16), .null, .null, .null, .null, .null, .null, .null, .int 0, .int 0, .int 0] (af n0 74 15 0) (af n0 104 2 0) (af n0 112 1 0) := hf_town hF (by omega) (by omega) hP (TGH_t (by omega))
  refine W.widen (k := 45) (n := 270) (Nat.le_of_ble_eq_true rfl) (Nat.le_of_ble_eq_true rfl) ?_
  refine n_putF (ci := 6) (f := 2) (ft := .object "HaulWages$Town") ty_H hx hb hts hown hK in_H tyk_H nm_H rfl (by omega) hF.1 (by decide) (Nat.le_of_ble_eq_true rfl) rfl hin rfl (by decide +kernel) rfl rfl wd_289 dd_H_init_34 hC hS (fun H locs hC hS => ?_)
  obtain ⟨cl, hC, hF⟩ : ∃ cl1 : Nat → va_E, CHp D n0 46 cl1 H ∧ HF ca n0 46 cl1 [.ref (n0 + 1), .ref (n0 + 16), .ref (n0 + 31), .null, .null, .null, .null, .null, .null, .int 0, .int 0, .int 0] (af n0 74 15 0) (af n0 104 2 0) (af n0 112 1 0) := ⟨_, hC, hf_put hF⟩
  refine lv_aload_n hx hb dd_H_init_37 rfl (lv_at hl 0 rfl) ?_
  refine lv_iconst (v := i32 2) hx hb dd_H_init_38 rfl ?_
  refine n_anew (C := "HaulWages$Town") (t0 := 4) (N := 2) hx hb hts hown hK (by decide +kernel) rfl wo_85 (by decide +kernel) (by decide +kernel) (by decide +kernel) (Nat.le_of_ble_eq_true rfl) (Nat.le_of_ble_eq_true rfl) dd_H_init_39 hC hS (fun H hC hS => ?_)
  have hF := hf_ext (K' := 47) hF (by omega) (fun j hj => upE_ne (v := .inl (ca 4, 2, refs (fun _ => none))) (show j ≠ 46 by omega)) (fun a b => by rw [upE_eq, af_0 n0 74 15]) (fun a b => by omega) (fun a b => by omega) (fun j q1 q2 q3 q4 q5 => by omega)
  refine W.widen (k := 46) (n := 272) (Nat.le_of_ble_eq_true rfl) (Nat.le_of_ble_eq_true rfl) ?_
  refine n_putF (ci := 6) (f := 3) (ft := .array (.object "HaulWages$Town")) ty_H hx hb hts hown hK in_H tyk_H nm_H rfl (by omega) hF.1 (by decide) (Nat.le_of_ble_eq_true rfl) rfl hin rfl (by decide +kernel) rfl rfl wd_290 dd_H_init_42 hC hS (fun H locs hC hS => ?_)
  obtain ⟨cl, hC, hF⟩ : ∃ cl1 : Nat → va_E, CHp D n0 47 cl1 H ∧ HF ca n0 47 cl1 [.ref (n0 + 1), .ref (n0 + 16), .ref (n0 + 31), .ref (n0 + 46), .null, .null, .null, .null, .null, .int 0, .int 0, .int 0] (af n0 74 15 0) (af n0 104 2 0) (af n0 112 1 0) := ⟨_, hC, hf_put hF⟩
  refine lv_aload_n hx hb dd_H_init_45 rfl (lv_at hl 0 rfl) ?_
  refine lv_iconst (v := i32 2) hx hb dd_H_init_46 rfl ?_
  refine n_newz (N := 2) hx hb hts hK wo_243 (by decide +kernel) (by decide +kernel) (by decide +kernel) (Nat.le_of_ble_eq_true rfl) (Nat.le_of_ble_eq_true rfl) dd_H_init_47 hC hS (fun H hC hS => ?_)
  have hF := hf_new (v := .inl (ca 1, 2, .inl (fun _ => 0))) hF (by omega) (by omega) rfl
  refine W.widen (k := 47) (n := 274) (Nat.le_of_ble_eq_true rfl) (Nat.le_of_ble_eq_true rfl) ?_
  refine n_putF (ci := 6) (f := 4) (ft := .array .boolean) ty_H hx hb hts hown hK in_H tyk_H nm_H rfl (by omega) hF.1 (by decide) (Nat.le_of_ble_eq_true rfl) rfl hin rfl (by decide +kernel) rfl rfl wd_291 dd_H_init_49 hC hS (fun H locs hC hS => ?_)
  obtain ⟨cl, hC, hF⟩ : ∃ cl1 : Nat → va_E, CHp D n0 48 cl1 H ∧ HF ca n0 48 cl1 [.ref (n0 + 1), .ref (n0 + 16), .ref (n0 + 31), .ref (n0 + 46), .ref (n0 + 47), .null, .null, .null, .null, .int 0, .int 0, .int 0] (af n0 74 15 0) (af n0 104 2 0) (af n0 112 1 0) := ⟨_, hC, hf_put hF⟩
  refine lv_aload_n hx hb dd_H_init_52 rfl (lv_at hl 0 rfl) ?_
  refine n_new (C := "HaulWages$Tape") (N := 9) (ci := 4) (fs := [.null, .int 0, .int 0, .int 0, .int 0, .int 0, .int 0, .int 0, .int 0]) ty_P hx hb hts hown hK in_P tyk_P rfl (by decide +kernel) wo_205 wo_206 wd_67 (Nat.le_of_ble_eq_true rfl) (Nat.le_of_ble_eq_true rfl) dd_H_init_53 hC hS (fun H hC hS => ?_)
  refine lv_dup hx hb dd_H_init_56 rfl ?_
  refine n_callN (mm' := mm_P_init) (i_P (upE_eq _ _ _)) hx hb hml hown hts hl.1 hK (by decide +kernel) (ws3 wd_208 wd_67 wd_209) nki_P rfl ⟨Nat.le_of_ble_eq_true rfl, Nat.le_of_ble_eq_true rfl⟩ (Nat.le_of_ble_eq_true rfl) ⟨Nat.le_of_ble_eq_true rfl, Nat.le_of_ble_eq_true rfl⟩ dd_H_init_57 hC hS (fun cl1 H locs hP hC hS => ?_)
  have hF : HF ca n0 50 cl1 [.ref (n0 + 1), .ref (n0 + 16), .ref (n0 + 31), .ref (n0 + 46), .ref (n0 + 47), .null, .null, .null, .null, .int 0, .int 0, .int 0] (af n0 74 15 0) (af n0 104 2 0) (af n0 112 1 0) := by
    refine hf_ext hF (by omega) (fun j hj => ?_) (fun a b => by omega) (fun a b => by omega) (fun a b => by omega) (fun j q1 q2 q3 q4 q5 => ?_)
    · rw [hP.2 j (by omega) (by omega)]
      unfold TG_P
      rw [if_pos (by omega), upE_ne (by omega)]
    · by_cases e1 : j = 48
      · subst e1; exact hP.1
      · have e2 : j = 49 := by omega
        subst e2
        rw [hP.2 49 (by omega) (by omega)]
        rfl
  refine W.widen (k := 49) (n := 443) (Nat.le_of_ble_eq_true rfl) (Nat.le_of_ble_eq_true rfl) ?_
  refine n_putF (ci := 6) (f := 5) (ft := .object "HaulWages$Tape") ty_H hx hb hts hown hK in_H tyk_H nm_H rfl (by omega) hF.1 (by decide) (Nat.le_of_ble_eq_true rfl) rfl hin rfl (by decide +kernel) rfl rfl wd_292 dd_H_init_60 hC hS (fun H locs hC hS => ?_)
  obtain ⟨cl, hC, hF⟩ : ∃ cl1 : Nat → va_E, CHp D n0 50 cl1 H ∧ HF ca n0 50 cl1 [.ref (n0 + 1), .ref (n0 + 16), .ref (n0 + 31), .ref (n0 + 46), .ref (n0 + 47), .ref (n0 + 48), .null, .null, .null, .int 0, .int 0, .int 0] (af n0 74 15 0) (af n0 104 2 0) (af n0 112 1 0) := ⟨_, hC, hf_put hF⟩
  refine lv_aload_n hx hb dd_H_init_63 rfl (lv_at hl 0 rfl) ?_
  refine lv_iconst (v := i32 4) hx hb dd_H_init_64 rfl ?_
  refine n_anew (C := "HaulWages$Sheet") (t0 := 5) (N := 4) hx hb hts hown hK (by decide +kernel) rfl wo_245 (by decide +kernel) (by decide +kernel) (by decide +kernel) (Nat.le_of_ble_eq_true rfl) (Nat.le_of_ble_eq_true rfl) dd_H_init_65 hC hS (fun H hC hS => ?_)
  have hF := hf_ext (K' := 51) hF (by omega) (fun j hj => upE_ne (v := .inl (ca 5, 4, refs (fun _ => none))) (show j ≠ 50 by omega)) (fun a b => by omega) (fun a b => by rw [upE_eq, af_0 n0 104 2]) (fun a b => by omega) (fun j q1 q2 q3 q4 q5 => by omega)
  refine W.widen (k := 50) (n := 447) (Nat.le_of_ble_eq_true rfl) (Nat.le_of_ble_eq_true rfl) ?_
  refine n_putF (ci := 6) (f := 6) (ft := .array (.object "HaulWages$Sheet")) ty_H hx hb hts hown hK in_H tyk_H nm_H rfl (by omega) hF.1 (by decide) (Nat.le_of_ble_eq_true rfl) rfl hin rfl (by decide +kernel) rfl rfl wd_293 dd_H_init_68 hC hS (fun H locs hC hS => ?_)
  obtain ⟨cl, hC, hF⟩ : ∃ cl1 : Nat → va_E, CHp D n0 51 cl1 H ∧ HF ca n0 51 cl1 [.ref (n0 + 1), .ref (n0 + 16), .ref (n0 + 31), .ref (n0 + 46), .ref (n0 + 47), .ref (n0 + 48), .ref (n0 + 50), .null, .null, .int 0, .int 0, .int 0] (af n0 74 15 0) (af n0 104 2 0) (af n0 112 1 0) := ⟨_, hC, hf_put hF⟩
  refine lv_aload_n hx hb dd_H_init_71 rfl (lv_at hl 0 rfl) ?_
  refine lv_bipush (v := i32 6) hx hb dd_H_init_72 (by decide +kernel) ?_
  refine n_anew (C := "HaulWages$Sight") (t0 := 6) (N := 6) hx hb hts hown hK (by decide +kernel) rfl wo_247 (by decide +kernel) (by decide +kernel) (by decide +kernel) (Nat.le_of_ble_eq_true rfl) (Nat.le_of_ble_eq_true rfl) dd_H_init_74 hC hS (fun H hC hS => ?_)
  have hF := hf_ext (K' := 52) hF (by omega) (fun j hj => upE_ne (v := .inl (ca 6, 6, refs (fun _ => none))) (show j ≠ 51 by omega)) (fun a b => by omega) (fun a b => by omega) (fun a b => by rw [upE_eq, af_0 n0 112 1]) (fun j q1 q2 q3 q4 q5 => by omega)
  refine W.widen (k := 51) (n := 453) (Nat.le_of_ble_eq_true rfl) (Nat.le_of_ble_eq_true rfl) ?_
  refine n_putF (ci := 6) (f := 7) (ft := .array (.object "HaulWages$Sight")) ty_H hx hb hts hown hK in_H tyk_H nm_H rfl (by omega) hF.1 (by decide) (Nat.le_of_ble_eq_true rfl) rfl hin rfl (by decide +kernel) rfl rfl wd_294 dd_H_init_77 hC hS (fun H locs hC hS => ?_)
  obtain ⟨cl, hC, hF⟩ : ∃ cl1 : Nat → va_E, CHp D n0 52 cl1 H ∧ HF ca n0 52 cl1 [.ref (n0 + 1), .ref (n0 + 16), .ref (n0 + 31), .ref (n0 + 46), .ref (n0 + 47), .ref (n0 + 48), .ref (n0 + 50), .ref (n0 + 51), .null, .int 0, .int 0, .int 0] (af n0 74 15 0) (af n0 104 2 0) (af n0 112 1 0) := ⟨_, hC, hf_put hF⟩
  refine lv_aload_n hx hb dd_H_init_80 rfl (lv_at hl 0 rfl) ?_
  refine lv_bipush (v := i32 21) hx hb dd_H_init_81 (by decide +kernel) ?_
  refine lv_bipush (v := i32 84) hx hb dd_H_init_83 (by decide +kernel) ?_
  refine n_multi hx hb hts hown hK wo_249 (Nat.le_of_ble_eq_true rfl) (Nat.le_of_ble_eq_true rfl) dd_H_init_85 hC hS (fun cl1 H locs hP1 hP2 hP3 hC hS => ?_)
  have hF : HF ca n0 74 cl1 [.ref (n0 + 1), .ref (n0 + 16), .ref (n0 + 31), .ref (n0 + 46), .ref (n0 + 47), .ref (n0 + 48), .ref (n0 + 50), .ref (n0 + 51), .null, .int 0, .int 0, .int 0] (af n0 74 15 0) (af n0 104 2 0) (af n0 112 1 0) := by
    refine hf_ext hF (by omega) hP1 (fun a b => by omega) (fun a b => by omega) (fun a b => by omega) (fun j q1 q2 q3 q4 q5 => ?_)
    by_cases e1 : j = 52
    · subst e1; exact hP2
    · rw [TGH_r j (by omega) q2, ← hP3 (j - 53) (by omega), show 52 + 1 + (j - 53) = j by omega]
  refine W.widen (k := 73) (n := 2238) (Nat.le_of_ble_eq_true rfl) (Nat.le_of_ble_eq_true rfl) ?_
  refine n_putF (ci := 6) (f := 8) (ft := .array (.array .int)) ty_H hx hb hts hown hK in_H tyk_H nm_H rfl (by omega) hF.1 (by decide) (Nat.le_of_ble_eq_true rfl) rfl hin rfl (by decide +kernel) rfl rfl wd_295 dd_H_init_89 hC hS (fun H locs hC hS => ?_)
  obtain ⟨cl, hC, hF⟩ : ∃ cl1 : Nat → va_E, CHp D n0 74 cl1 H ∧ HF ca n0 74 cl1 [.ref (n0 + 1), .ref (n0 + 16), .ref (n0 + 31), .ref (n0 + 46), .ref (n0 + 47), .ref (n0 + 48), .ref (n0 + 50), .ref (n0 + 51), .ref (n0 + 52), .int 0, .int 0, .int 0] (af n0 74 15 0) (af n0 104 2 0) (af n0 112 1 0) := ⟨_, hC, hf_put hF⟩
  refine lv_aload_n hx hb dd_H_init_92 rfl (lv_at hl 0 rfl) ?_
  refine lv_iconst (v := i32 0) hx hb dd_H_init_93 rfl ?_
  refine n_put (ci := 6) (f := 9) (ft := .int) ty_H hx hb hts hown hK in_H tyk_H nm_H rfl (by omega) hF.1 (by decide) (Nat.le_of_ble_eq_true rfl) rfl (by decide +kernel) rfl rfl wd_296 dd_H_init_94 hC hS (fun H locs hC hS => ?_)
  obtain ⟨cl, hC, hF⟩ : ∃ cl1 : Nat → va_E, CHp D n0 74 cl1 H ∧ HF ca n0 74 cl1 [.ref (n0 + 1), .ref (n0 + 16), .ref (n0 + 31), .ref (n0 + 46), .ref (n0 + 47), .ref (n0 + 48), .ref (n0 + 50), .ref (n0 + 51), .ref (n0 + 52), .int (i32 0), .int 0, .int 0] (af n0 74 15 0) (af n0 104 2 0) (af n0 112 1 0) := ⟨_, hC, hf_put hF⟩
  refine lv_aload_n hx hb dd_H_init_97 rfl (lv_at hl 0 rfl) ?_
  refine lv_iconst (v := i32 0) hx hb dd_H_init_98 rfl ?_
  refine n_put (ci := 6) (f := 10) (ft := .int) ty_H hx hb hts hown hK in_H tyk_H nm_H rfl (by omega) hF.1 (by decide) (Nat.le_of_ble_eq_true rfl) rfl (by decide +kernel) rfl rfl wd_297 dd_H_init_99 hC hS (fun H locs hC hS => ?_)
  obtain ⟨cl, hC, hF⟩ : ∃ cl1 : Nat → va_E, CHp D n0 74 cl1 H ∧ HF ca n0 74 cl1 [.ref (n0 + 1), .ref (n0 + 16), .ref (n0 + 31), .ref (n0 + 46), .ref (n0 + 47), .ref (n0 + 48), .ref (n0 + 50), .ref (n0 + 51), .ref (n0 + 52), .int (i32 0), .int (i32 0), .int 0] (af n0 74 15 0) (af n0 104 2 0) (af n0 112 1 0) := ⟨_, hC, hf_put hF⟩
  refine lv_aload_n hx hb dd_H_init_102 rfl (lv_at hl 0 rfl) ?_
  refine lv_iconst (v := i32 0) hx hb dd_H_init_103 rfl ?_
  refine n_put (ci := 6) (f := 11) (ft := .int) ty_H hx hb hts hown hK in_H tyk_H nm_H rfl (by omega) hF.1 (by decide) (Nat.le_of_ble_eq_true rfl) rfl (by decide +kernel) rfl rfl wd_298 dd_H_init_104 hC hS (fun H locs hC hS => ?_)
  obtain ⟨cl, hC, hF⟩ : ∃ cl1 : Nat → va_E, CHp D n0 74 cl1 H ∧ HF ca n0 74 cl1 [.ref (n0 + 1), .ref (n0 + 16), .ref (n0 + 31), .ref (n0 + 46), .ref (n0 + 47), .ref (n0 + 48), .ref (n0 + 50), .ref (n0 + 51), .ref (n0 + 52), .int (i32 0), .int (i32 0), .int (i32 0)] (af n0 74 15 0) (af n0 104 2 0) (af n0 112 1 0) := ⟨_, hC, hf_put hF⟩
  have sights : ∀ (cl : Nat → va_E) (H : Heap) (locs : List Loc) (ls : Array Slot), HF ca n0 (112 + 1 * 0) cl (fin_H n0) (af n0 74 15 2) (af n0 104 2 4) (af n0 112 1 0) → CHp D n0 (112 + 1 * 0) cl H → va_S (frN n0) s.heap H locs → lv_has ls 2 [(1, .int (i32 ((0 : Nat) : Int))), (0, .ref (n0 + 0))] → W p l e mm_H_init.2.2.2.2 s m args below meth c H locs (111 + 1 * 0) (2590 + 3 * 0) (MQ below (qn D n0 118 (fun cl1 => cl1 0 = .inr (6, fin_H n0) ∧ ∀ j, j < 118 → j ≠ 0 → cl1 j = TGH ca n0 j)) args s 117 2608 (frN n0)) (F0 m 161 ls []) := by
    refine up_ind (P := fun g => ∀ (cl : Nat → va_E) (H : Heap) (locs : List Loc) (ls : Array Slot), HF ca n0 (112 + 1 * g) cl (fin_H n0) (af n0 74 15 2) (af n0 104 2 4) (af n0 112 1 g) → CHp D n0 (112 + 1 * g) cl H → va_S (frN n0) s.heap H locs → lv_has ls 2 [(1, .int (i32 ((g : Nat) : Int))), (0, .ref (n0 + 0))] → W p l e mm_H_init.2.2.2.2 s m args below meth c H locs (111 + 1 * g) (2590 + 3 * g) (MQ below (qn D n0 118 (fun cl1 => cl1 0 = .inr (6, fin_H n0) ∧ ∀ j, j < 118 → j ≠ 0 → cl1 j = TGH ca n0 j)) args s 117 2608 (frN n0)) (F0 m 161 ls [])) 6 ?_ ?_
    · intro cl H locs ls hF hC hS hl
      refine lv_iload_n hx hb dd_H_init_161 (i := 1) rfl (lv_at hl 0 rfl) ?_
      refine lv_bipush (v := i32 6) hx hb dd_H_init_162 (by decide +kernel) ?_
      refine lv_icmp_ge (tgt := 186) hx hb dd_H_init_164 rfl (fun _ => ?_) (fun q => absurd (by decide +kernel) q)
      exact n_vret hx hb hr hlk (hf_end hF) hC hS dd_H_init_186
    · intro g hg ih cl H locs ls hF hC hS hl
      refine lv_iload_n hx hb dd_H_init_161 (i := 1) rfl (lv_at hl 0 rfl) ?_
      refine lv_bipush (v := i32 ((6 : Nat) : Int)) hx hb dd_H_init_162 (by decide +kernel) ?_
      refine lv_icmp_ge (tgt := 186) hx hb dd_H_init_164 rfl (fun q => absurd ((i32n_le (by omega) (by omega)).mp q) (by omega)) (fun _ => ?_)
      refine lv_aload_n hx hb dd_H_init_167 (i := 0) rfl (lv_at hl 1 rfl) ?_
      refine n_get (ci := 6) (f := 7) (v := .ref (n0 + 51)) hx hb hts hown hK in_H rfl (by omega) hF.1 (by decide) rfl wd_294 dd_H_init_168 hC ?_
      refine lv_iload_n hx hb dd_H_init_171 (i := 1) rfl (lv_at hl 0 rfl) ?_
      refine n_new (C := "HaulWages$Sight") (N := 3) (ci := 3) (fs := [.int 0, .int 0, .int 0]) ty_I hx hb hts hown hK in_I tyk_I rfl (by decide +kernel) wo_247 wo_269 wd_69 (by show 111 + 1 * g + 1 ≤ 117; omega) (by show 2590 + 3 * g + 3 ≤ 2608; omega) dd_H_init_172 hC hS (fun H hC hS => ?_)
      refine lv_dup hx hb dd_H_init_175 rfl ?_
      refine n_callN (mm' := mm_I_init) (i_I (upE_eq _ _ _)) hx hb hml hown hts hl.1 hK (by decide +kernel) (ws3 wd_271 wd_69 wd_272) nki_I rfl ⟨Nat.le_of_ble_eq_true rfl, Nat.le_of_ble_eq_true rfl⟩ (Nat.le_of_ble_eq_true rfl) ⟨by show 111 + 1 * g + 1 + 0 ≤ 117; omega, by show 2590 + 3 * g + 3 + 0 ≤ 2608; omega⟩ dd_H_init_176 hC hS (fun cl1 H locs hP hC hS => ?_)
      have hF1 : HF ca n0 (112 + 1 * g + 1) cl1 (fin_H n0) (af n0 74 15 2) (af n0 104 2 4) (af n0 112 1 g) := by
        refine hf_ext hF (by omega) (fun j hj => ?_) (fun a b => by omega) (fun a b => by omega) (fun a b => by omega) (fun j q1 q2 q3 q4 q5 => ?_)
        · rw [hP.2 j (by omega) (by omega), upE_ne (by omega)]
        · have e1 : j = 112 + 1 * g := by omega
          subst e1
          rw [TGH_i g hg]
          exact hP.1
      have hw := hP.1
      refine n_aast (t0 := 6) (ci := 3) (i := g) (r := ("HaulWages$Sight", TT_I, 3)) hx hb hK (j := 51) (by omega) (hF1.2.2.2.1 (by omega)) rfl (by omega) hw rfl (by omega) (by omega) dd_H_init_179 hC hS (fun H locs hC hS => ?_)
      have hF2 := hf_3 (g1 := va_up (af n0 112 1 g) g (some (n0 + (112 + 1 * g)))) hF1
      rw [af_s] at hF2 hC
      refine W.widen (k := 111 + 1 * (g + 1)) (n := 2590 + 3 * (g + 1)) (by show 111 + 1 * g + 1 + 0 ≤ _; omega) (by show 2590 + 3 * g + 3 + 0 ≤ _; omega) ?_
      refine lv_iinc (k := 0) (x := i32 (g : Int)) (v := i32 ((g + 1 : Nat) : Int)) (lv' := [(1, .int (i32 ((g + 1 : Nat) : Int))), (0, .ref (n0 + 0))]) hx hb dd_H_init_180 hl rfl (i32n_s (by omega)) (by decide) rfl (fun ls hl => ?_)
      refine lv_goto (tgt := 161) hx hb dd_H_init_183 rfl ?_
      have eK : 112 + 1 * g + 1 = 112 + 1 * (g + 1) := by omega
      rw [eK] at hF2 hC
      exact ih _ H locs ls hF2 hC hS hl
  have sheetsL : ∀ (cl : Nat → va_E) (H : Heap) (locs : List Loc) (ls : Array Slot), HF ca n0 (104 + 2 * 0) cl (fin_H n0) (af n0 74 15 2) (af n0 104 2 0) (af n0 112 1 0) → CHp D n0 (104 + 2 * 0) cl H → va_S (frN n0) s.heap H locs → lv_has ls 2 [(1, .int (i32 ((0 : Nat) : Int))), (0, .ref (n0 + 0))] → W p l e mm_H_init.2.2.2.2 s m args below meth c H locs (103 + 2 * 0) (2418 + 43 * 0) (MQ below (qn D n0 118 (fun cl1 => cl1 0 = .inr (6, fin_H n0) ∧ ∀ j, j < 118 → j ≠ 0 → cl1 j = TGH ca n0 j)) args s 117 2608 (frN n0)) (F0 m 135 ls []) := by
    refine up_ind (P := fun g => ∀ (cl : Nat → va_E) (H : Heap) (locs : List Loc) (ls : Array Slot), HF ca n0 (104 + 2 * g) cl (fin_H n0) (af n0 74 15 2) (af n0 104 2 g) (af n0 112 1 0) → CHp D n0 (104 + 2 * g) cl H → va_S (frN n0) s.heap H locs → lv_has ls 2 [(1, .int (i32 ((g : Nat) : Int))), (0, .ref (n0 + 0))] → W p l e mm_H_init.2.2.2.2 s m args below meth c H locs (103 + 2 * g) (2418 + 43 * g) (MQ below (qn D n0 118 (fun cl1 => cl1 0 = .inr (6, fin_H n0) ∧ ∀ j, j < 118 → j ≠ 0 → cl1 j = TGH ca n0 j)) args s 117 2608 (frN n0)) (F0 m 135 ls [])) 4 ?_ ?_
    · intro cl H locs ls hF hC hS hl
      refine lv_iload_n hx hb dd_H_init_135 (i := 1) rfl (lv_at hl 0 rfl) ?_
      refine lv_iconst (v := i32 4) hx hb dd_H_init_136 rfl ?_
      refine lv_icmp_ge (tgt := 159) hx hb dd_H_init_137 rfl (fun _ => ?_) (fun q => absurd (by decide +kernel) q)
      refine lv_iconst (v := i32 ((0 : Nat) : Int)) hx hb dd_H_init_159 rfl ?_
      refine lv_istore_n (lv' := [(1, .int (i32 ((0 : Nat) : Int))), (0, .ref (n0 + 0))]) hx hb dd_H_init_160 rfl hl (by decide) rfl (fun ls hl => ?_)
      exact sights cl H locs ls hF hC hS hl
    · intro g hg ih cl H locs ls hF hC hS hl
      refine lv_iload_n hx hb dd_H_init_135 (i := 1) rfl (lv_at hl 0 rfl) ?_
      refine lv_iconst (v := i32 ((4 : Nat) : Int)) hx hb dd_H_init_136 rfl ?_
      refine lv_icmp_ge (tgt := 159) hx hb dd_H_init_137 rfl (fun q => absurd ((i32n_le (by omega) (by omega)).mp q) (by omega)) (fun _ => ?_)
      refine lv_aload_n hx hb dd_H_init_140 (i := 0) rfl (lv_at hl 1 rfl) ?_
      refine n_get (ci := 6) (f := 6) (v := .ref (n0 + 50)) hx hb hts hown hK in_H rfl (by omega) hF.1 (by decide) rfl wd_293 dd_H_init_141 hC ?_
      refine lv_iload_n hx hb dd_H_init_144 (i := 1) rfl (lv_at hl 0 rfl) ?_
      refine n_new (C := "HaulWages$Sheet") (N := 3) (ci := 2) (fs := [.null, .int 0, .int 0]) ty_S hx hb hts hown hK in_S tyk_S rfl (by decide +kernel) wo_245 wo_251 wd_68 (by show 103 + 2 * g + 1 ≤ 117; omega) (by show 2418 + 43 * g + 3 ≤ 2608; omega) dd_H_init_145 hC hS (fun H hC hS => ?_)
      refine lv_dup hx hb dd_H_init_148 rfl ?_
      refine n_callN (mm' := mm_S_init) (i_S (upE_eq _ _ _)) hx hb hml hown hts hl.1 hK (by decide +kernel) (ws3 wd_253 wd_68 wd_254) nki_S rfl ⟨Nat.le_of_ble_eq_true rfl, Nat.le_of_ble_eq_true rfl⟩ (Nat.le_of_ble_eq_true rfl) ⟨by show 103 + 2 * g + 1 + 1 ≤ 117; omega, by show 2418 + 43 * g + 3 + 40 ≤ 2608; omega⟩ dd_H_init_149 hC hS (fun cl1 H locs hP hC hS => ?_)
      have hF1 : HF ca n0 (104 + 2 * g + 2) cl1 (fin_H n0) (af n0 74 15 2) (af n0 104 2 g) (af n0 112 1 0) := by
        refine hf_ext hF (by omega) (fun j hj => ?_) (fun a b => by omega) (fun a b => by omega) (fun a b => by omega) (fun j q1 q2 q3 q4 q5 => ?_)
        · rw [hP.2 j (by omega) (by omega)]
          unfold TG_S
          rw [if_pos (by omega), upE_ne (by omega)]
        · by_cases e1 : j = 104 + 2 * g
          · subst e1; rw [(TGH_s g hg).1]; exact hP.1
          · have e2 : j = 104 + 2 * g + 1 := by omega
            subst e2
            rw [(TGH_s g hg).2, hP.2 _ (by omega) (by omega), TGv_S_1]
      have hw := hP.1
      refine n_aast (t0 := 5) (ci := 2) (i := g) (r := ("HaulWages$Sheet", TT_S, 3)) hx hb hK (j := 50) (by omega) (hF1.2.2.1 (by omega)) rfl (by omega) hw rfl (by omega) (by omega) dd_H_init_152 hC hS (fun H locs hC hS => ?_)
      have hF2 := hf_2 (g1 := va_up (af n0 104 2 g) g (some (n0 + (104 + 2 * g)))) hF1
      rw [af_s] at hF2 hC
      refine W.widen (k := 103 + 2 * (g + 1)) (n := 2418 + 43 * (g + 1)) (by show 103 + 2 * g + 1 + 1 ≤ _; omega) (by show 2418 + 43 * g + 3 + 40 ≤ _; omega) ?_
      refine lv_iinc (k := 0) (x := i32 (g : Int)) (v := i32 ((g + 1 : Nat) : Int)) (lv' := [(1, .int (i32 ((g + 1 : Nat) : Int))), (0, .ref (n0 + 0))]) hx hb dd_H_init_153 hl rfl (i32n_s (by omega)) (by decide) rfl (fun ls hl => ?_)
      refine lv_goto (tgt := 135) hx hb dd_H_init_156 rfl ?_
      have eK : 104 + 2 * g + 2 = 104 + 2 * (g + 1) := by omega
      rw [eK] at hF2 hC
      exact ih _ H locs ls hF2 hC hS hl
  have imagesL : ∀ (cl : Nat → va_E) (H : Heap) (locs : List Loc) (ls : Array Slot), HF ca n0 (74 + 15 * 0) cl (fin_H n0) (af n0 74 15 0) (af n0 104 2 0) (af n0 112 1 0) → CHp D n0 (74 + 15 * 0) cl H → va_S (frN n0) s.heap H locs → lv_has ls 2 [(1, .int (i32 ((0 : Nat) : Int))), (0, .ref (n0 + 0))] → W p l e mm_H_init.2.2.2.2 s m args below meth c H locs (73 + 15 * 0) (2238 + 90 * 0) (MQ below (qn D n0 118 (fun cl1 => cl1 0 = .inr (6, fin_H n0) ∧ ∀ j, j < 118 → j ≠ 0 → cl1 j = TGH ca n0 j)) args s 117 2608 (frN n0)) (F0 m 109 ls []) := by
    refine up_ind (P := fun g => ∀ (cl : Nat → va_E) (H : Heap) (locs : List Loc) (ls : Array Slot), HF ca n0 (74 + 15 * g) cl (fin_H n0) (af n0 74 15 g) (af n0 104 2 0) (af n0 112 1 0) → CHp D n0 (74 + 15 * g) cl H → va_S (frN n0) s.heap H locs → lv_has ls 2 [(1, .int (i32 ((g : Nat) : Int))), (0, .ref (n0 + 0))] → W p l e mm_H_init.2.2.2.2 s m args below meth c H locs (73 + 15 * g) (2238 + 90 * g) (MQ below (qn D n0 118 (fun cl1 => cl1 0 = .inr (6, fin_H n0) ∧ ∀ j, j < 118 → j ≠ 0 → cl1 j = TGH ca n0 j)) args s 117 2608 (frN n0)) (F0 m 109 ls [])) 2 ?_ ?_
    · intro cl H locs ls hF hC hS hl
      refine lv_iload_n hx hb dd_H_init_109 (i := 1) rfl (lv_at hl 0 rfl) ?_
      refine lv_iconst (v := i32 2) hx hb dd_H_init_110 rfl ?_
      refine lv_icmp_ge (tgt := 133) hx hb dd_H_init_111 rfl (fun _ => ?_) (fun q => absurd (by decide +kernel) q)
      refine lv_iconst (v := i32 ((0 : Nat) : Int)) hx hb dd_H_init_133 rfl ?_
      refine lv_istore_n (lv' := [(1, .int (i32 ((0 : Nat) : Int))), (0, .ref (n0 + 0))]) hx hb dd_H_init_134 rfl hl (by decide) rfl (fun ls hl => ?_)
      exact sheetsL cl H locs ls hF hC hS hl
    · intro g hg ih cl H locs ls hF hC hS hl
      refine lv_iload_n hx hb dd_H_init_109 (i := 1) rfl (lv_at hl 0 rfl) ?_
      refine lv_iconst (v := i32 ((2 : Nat) : Int)) hx hb dd_H_init_110 rfl ?_
      refine lv_icmp_ge (tgt := 133) hx hb dd_H_init_111 rfl (fun q => absurd ((i32n_le (by omega) (by omega)).mp q) (by omega)) (fun _ => ?_)
      refine lv_aload_n hx hb dd_H_init_114 (i := 0) rfl (lv_at hl 1 rfl) ?_
      refine n_get (ci := 6) (f := 3) (v := .ref (n0 + 46)) hx hb hts hown hK in_H rfl (by omega) hF.1 (by decide) rfl wd_290 dd_H_init_115 hC ?_
      refine lv_iload_n hx hb dd_H_init_118 (i := 1) rfl (lv_at hl 0 rfl) ?_
      refine n_new (C := "HaulWages$Town") (N := 10) (ci := 5) (fs := dfl_T) ty_T hx hb hts hown hK in_T tyk_T rfl (by decide +kernel) wo_85 wo_86 wd_64 (by show 73 + 15 * g + 1 ≤ 117; omega) (by show 2238 + 90 * g + 10 ≤ 2608; omega) dd_H_init_119 hC hS (fun H hC hS => ?_)
      refine lv_dup hx hb dd_H_init_122 rfl ?_
      refine n_call (mm' := mm_T_init) (i_T (upE_eq _ _ _)) hx hb hml hown hts hl.1 hK (ws4 wd_87 wd_88 wd_64 wd_89) nki_T rfl ⟨Nat.le_of_ble_eq_true rfl, Nat.le_of_ble_eq_true rfl⟩ (Nat.le_of_ble_eq_true rfl) ⟨by show 73 + 15 * g + 1 + 14 ≤ 117; omega, by show 2238 + 90 * g + 10 + 80 ≤ 2608; omega⟩ dd_H_init_123 hC hS (fun cl1 H locs hP hC hS => ?_)
      have hF1 := hf_town hF (by omega) (by omega) hP (TGH_t (by omega))
      have hw : cl1 (74 + 15 * g) = .inr (5, fin_T n0 (74 + 15 * g)) := by
        rw [hP _ (by omega)]
        unfold TG_T twE
        rw [if_neg (by omega), if_pos (by omega)]
      refine n_aast (t0 := 4) (ci := 5) (i := g) (r := ("HaulWages$Town", TT_T, 10)) hx hb hK (j := 46) (by omega) (hF1.2.1 (by omega)) rfl (by omega) hw rfl (by omega) (by omega) dd_H_init_126 hC hS (fun H locs hC hS => ?_)
      have hF2 := hf_1 (g1 := va_up (af n0 74 15 g) g (some (n0 + (74 + 15 * g)))) hF1
      rw [af_s] at hF2 hC
      refine W.widen (k := 73 + 15 * (g + 1)) (n := 2238 + 90 * (g + 1)) (by show 73 + 15 * g + 1 + 14 ≤ _; omega) (by show 2238 + 90 * g + 10 + 80 ≤ _; omega) ?_
      refine lv_iinc (k := 0) (x := i32 (g : Int)) (v := i32 ((g + 1 : Nat) : Int)) (lv' := [(1, .int (i32 ((g + 1 : Nat) : Int))), (0, .ref (n0 + 0))]) hx hb dd_H_init_127 hl rfl (i32n_s (by omega)) (by decide) rfl (fun ls hl => ?_)
      refine lv_goto (tgt := 109) hx hb dd_H_init_130 rfl ?_
      have eK : 74 + 15 * g + 15 = 74 + 15 * (g + 1) := by omega
      rw [eK] at hF2 hC
      exact ih _ H locs ls hF2 hC hS hl
  refine lv_iconst (v := i32 ((0 : Nat) : Int)) hx hb dd_H_init_107 rfl ?_
  refine lv_istore_n (lv' := [(1, .int (i32 ((0 : Nat) : Int))), (0, .ref (n0 + 0))]) hx hb dd_H_init_108 rfl hl (by decide) rfl (fun ls hl => ?_)
  exact imagesL cl H locs ls hF hC hS hl

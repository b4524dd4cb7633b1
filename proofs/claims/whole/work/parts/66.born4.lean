/-! the constructor of a town -/
abbrev refs (f : Nat → Option Nat) : (Nat → Int32) ⊕ (Nat → Int64) ⊕ (Nat → UInt32) ⊕ (Nat → UInt64) ⊕ (Nat → Option Nat) := .inr (.inr (.inr (.inr f)))
def gf (n0 c g : Nat) : Nat → Option Nat := fun j => if j < g then some (n0 + (c + j)) else none
theorem gf_s (n0 c g : Nat) : va_up (gf n0 c g) g (some (n0 + (c + g))) = gf n0 c (g + 1) := by
  funext j
  unfold va_up gf
  by_cases h : j = g
  · subst h
    simp
  · by_cases h2 : j < g
    · simp [h, h2, show j < g + 1 by omega]
    · simp [h, h2, show ¬ j < g + 1 by omega]
theorem gf_0 (n0 c : Nat) : (fun _ => none) = gf n0 c 0 := by
  funext j
  unfold gf
  simp
abbrev goodE : va_E := .inr (0, [.int (i32 0), .int (i32 1), .int (i32 0), .int (i32 1), .int (i32 0), .int (i32 0)])
abbrev oneE : va_E := .inr (1, [.int (i32 1), .int (i32 0), .int (i32 0), .int (i32 0), .int (i32 0)])
abbrev fin_T (n0 b : Nat) : List Value := [.ref (n0 + (b + 1)), .ref (n0 + (b + 2)), .int (i32 0), .int (i32 0), .int (i32 2), .int (i32 2), .int (i32 0), .int (i32 0), .int (i32 0), .int (i32 0)]
def twE (ca : Nat → ClassId) (n0 b j : Nat) : va_E := if j = 0 then .inr (5, fin_T n0 b) else if j = 1 then .inl (ca 2, 8, refs (gf n0 (b + 3) 8)) else if j = 2 then .inl (ca 3, 4, refs (gf n0 (b + 11) 4)) else if j < 11 then goodE else oneE
def TG_T (ca : Nat → ClassId) (n0 : Nat) (cl0 : Nat → va_E) (b : Nat) : Nat → va_E := fun j => if j < b then cl0 j else twE ca n0 b (j - b)
/-- what is carried along -/
def TF (ca : Nat → ClassId) (n0 b K : Nat) (cl0 cl : Nat → va_E) (fs : List Value) (f1 f2 : Nat → Option Nat) : Prop := cl b = .inr (5, fs) ∧ cl (b + 1) = .inl (ca 2, 8, refs f1) ∧ cl (b + 2) = .inl (ca 3, 4, refs f2) ∧ ∀ j, j < K → j ≠ b → j ≠ b + 1 → j ≠ b + 2 → cl j = TG_T ca n0 cl0 b j
section
variable {ca : Nat → ClassId} {n0 b K : Nat} {cl0 cl : Nat → va_E} {fs fs' : List Value} {f1 f2 : Nat → Option Nat}
theorem tf_put (h : TF ca n0 b K cl0 cl fs f1 f2) : TF ca n0 b K cl0 (upE cl b (.inr (5, fs'))) fs' f1 f2 := by
  refine ⟨upE_eq _ _ _, ?_, ?_, fun j h1 h2 h3 h4 => ?_⟩
  · rw [upE_ne (by omega)]; exact h.2.1
  · rw [upE_ne (by omega)]; exact h.2.2.1
  · rw [upE_ne h2]; exact h.2.2.2 j h1 h2 h3 h4
theorem tf_g {cl1 : Nat → va_E} {g : Nat} (hg : g < 8) (h : TF ca n0 b (b + 3 + g) cl0 cl fs (gf n0 (b + 3) g) f2) (h1 : cl1 (b + 3 + g) = goodE) (hk : ∀ j, j < b + 3 + g → cl1 j = cl j) : TF ca n0 b (b + 3 + (g + 1)) cl0 (upE cl1 (b + 1) (.inl (ca 2, 8, refs (va_up (gf n0 (b + 3) g) g (some (n0 + (b + 3 + g))))))) fs (gf n0 (b + 3) (g + 1)) f2 := by
  refine ⟨?_, ?_, ?_, fun j q1 q2 q3 q4 => ?_⟩
  · rw [upE_ne (by omega), hk _ (by omega)]; exact h.1
  · rw [upE_eq, gf_s]
  · rw [upE_ne (by omega), hk _ (by omega)]; exact h.2.2.1
  · rw [upE_ne q3]
    by_cases hj : j = b + 3 + g
    · subst hj
      rw [h1]
      unfold TG_T twE
      rw [if_neg (by omega), if_neg (by omega), if_neg (by omega), if_neg (by omega), if_pos (by omega)]
    · rw [hk j (by omega)]
      exact h.2.2.2 j (by omega) q2 q3 q4
theorem tf_o {cl1 : Nat → va_E} {g : Nat} (hg : g < 4) (h : TF ca n0 b (b + 11 + g) cl0 cl fs f1 (gf n0 (b + 11) g)) (h1 : cl1 (b + 11 + g) = oneE) (hk : ∀ j, j < b + 11 + g → cl1 j = cl j) : TF ca n0 b (b + 11 + (g + 1)) cl0 (upE cl1 (b + 2) (.inl (ca 3, 4, refs (va_up (gf n0 (b + 11) g) g (some (n0 + (b + 11 + g))))))) fs f1 (gf n0 (b + 11) (g + 1)) := by
  refine ⟨?_, ?_, ?_, fun j q1 q2 q3 q4 => ?_⟩
  · rw [upE_ne (by omega), hk _ (by omega)]; exact h.1
  · rw [upE_ne (by omega), hk _ (by omega)]; exact h.2.1
  · rw [upE_eq, gf_s]
  · rw [upE_ne q4]
    by_cases hj : j = b + 11 + g
    · subst hj
      rw [h1]
      unfold TG_T twE
      rw [if_neg (by omega), if_neg (by omega), if_neg (by omega), if_neg (by omega), if_neg (by omega)]
    · rw [hk j (by omega)]
      exact h.2.2.2 j (by omega) q2 q3 q4
theorem tf_end (h : TF ca n0 b (b + 11 + 4) cl0 cl (fin_T n0 b) (gf n0 (b + 3) 8) (gf n0 (b + 11) 4)) : ∀ j, j < b + 15 → cl j = TG_T ca n0 cl0 b j := by
  intro j hj
  by_cases e0 : j = b
  · subst e0
    rw [h.1]
    unfold TG_T twE
    rw [if_neg (by omega), if_pos (by omega)]
  by_cases e1 : j = b + 1
  · subst e1
    rw [h.2.1]
    unfold TG_T twE
    rw [if_neg (by omega), if_neg (by omega), if_pos (by omega)]
  by_cases e2 : j = b + 2
  · subst e2
    rw [h.2.2.1]
    unfold TG_T twE
    rw [if_neg (by omega), if_neg (by omega), if_neg (by omega), if_pos (by omega)]
  exact h.2.2.2 j (by omega) e0 e1 e2
end
theorem i32n_le {x y : Nat} (hx : x < 1000) (hy : y < 1000) : i32 (x : Int) ≤ i32 (y : Int) ↔ x ≤ y := by
  rw [i32_le (by unfold inR; omega) (by unfold inR; omega)]
  omega
theorem i32n_s {x : Nat} (hx : x < 1000) : i32 (x : Int) + Int32.ofInt 1 = i32 ((x + 1 : Nat) : Int) := by
  show i32 (x : Int) + i32 1 = _
  rw [i32_add, w32_id (by omega) (by omega)]
  rfl
abbrev dfl_T : List Value := [.null, .null, .int 0, .int 0, .int 0, .int 0, .int 0, .int 0, .int 0, .int 0]
theorem i_T {D : va_G} {ca : Nat → ClassId} {n0 b : Nat} {cl0 : Nat → va_E} (h0 : cl0 b = .inr (5, dfl_T)) : NI D ca n0 mm_T_init b (b + 1) (b + 15) cl0 (fun cl1 => ∀ j, j < b + 15 → cl1 j = TG_T ca n0 cl0 b j) := by
  refine n_entry pn_T rfl (Nat.le_of_ble_eq_true rfl) ?_
  intro p l e s m args below meth c ls hx hb hown hts hr hlk hin hK hC hl hml
  have hS : va_S (frN n0) s.heap s.heap [] := va_S.rf
  refine lv_aload_n hx hb dd_T_init_0 rfl (lv_at hl 0 rfl) ?_
  refine n_obj hx hb hown hts wd_90 hml hl.1 dd_T_init_1 (Nat.le_of_ble_eq_true rfl) (Nat.le_of_ble_eq_true rfl) ?_
  refine lv_aload_n hx hb dd_T_init_4 rfl (lv_at hl 0 rfl) ?_
  refine lv_bipush (v := i32 8) hx hb dd_T_init_5 (by decide +kernel) ?_
  refine n_anew (C := "HaulWages$Good") (t0 := 2) (N := 8) hx hb hts hown hK (by decide +kernel) rfl wo_91 (by decide +kernel) (by decide +kernel) (by decide +kernel) (Nat.le_of_ble_eq_true rfl) (Nat.le_of_ble_eq_true rfl) dd_T_init_7 hC hS (fun H hC hS => ?_)
  refine W.widen (k := 1) (n := 8) (Nat.le_of_ble_eq_true rfl) (Nat.le_of_ble_eq_true rfl) ?_
  refine n_putF (ci := 5) (f := 0) (ft := .array (.object "HaulWages$Good")) ty_T hx hb hts hown hK in_T tyk_T nm_T rfl (by omega) ((upE_ne (by omega)).trans h0) (by decide) (Nat.le_of_ble_eq_true rfl) rfl hin rfl (by decide +kernel) rfl rfl wd_159 dd_T_init_10 hC hS (fun H locs hC hS => ?_)
  refine lv_aload_n hx hb dd_T_init_13 rfl (lv_at hl 0 rfl) ?_
  refine lv_iconst (v := i32 4) hx hb dd_T_init_14 rfl ?_
  refine n_anew (C := "HaulWages$One") (t0 := 3) (N := 4) hx hb hts hown hK (by decide +kernel) rfl wo_93 (by decide +kernel) (by decide +kernel) (by decide +kernel) (Nat.le_of_ble_eq_true rfl) (Nat.le_of_ble_eq_true rfl) dd_T_init_15 hC hS (fun H hC hS => ?_)
  refine W.widen (k := 2) (n := 12) (Nat.le_of_ble_eq_true rfl) (Nat.le_of_ble_eq_true rfl) ?_
  refine n_putF (ci := 5) (f := 1) (ft := .array (.object "HaulWages$One")) ty_T hx hb hts hown hK in_T tyk_T nm_T rfl (by omega) ((upE_ne (by omega)).trans (upE_eq _ _ _)) (by decide) (Nat.le_of_ble_eq_true rfl) rfl hin rfl (by decide +kernel) rfl rfl wd_161 dd_T_init_18 hC hS (fun H locs hC hS => ?_)
  obtain ⟨cl, hC, hF⟩ : ∃ cl1 : Nat → va_E, CHp D n0 (b + 3 + 0) cl1 H ∧ TF ca n0 b (b + 3 + 0) cl0 cl1 [.ref (n0 + (b + 1)), .ref (n0 + (b + 2)), .int 0, .int 0, .int 0, .int 0, .int 0, .int 0, .int 0, .int 0] (gf n0 (b + 3) 0) (gf n0 (b + 11) 0) := by
    refine ⟨_, hC, upE_eq _ _ _, ?_, ?_, fun j q1 q2 q3 q4 => ?_⟩
    · rw [upE_ne (by omega), upE_ne (by omega), upE_ne (by omega), upE_eq, gf_0]
    · rw [upE_ne (by omega), upE_eq, gf_0]
    · rw [upE_ne q2, upE_ne (by omega), upE_ne q2, upE_ne q3]
      unfold TG_T
      rw [if_pos (by omega)]
  refine lv_aload_n hx hb dd_T_init_21 rfl (lv_at hl 0 rfl) ?_
  refine lv_iconst (v := i32 0) hx hb dd_T_init_22 rfl ?_
  refine n_put (ci := 5) (f := 2) (ft := .int) ty_T hx hb hts hown hK in_T tyk_T nm_T rfl (by omega) hF.1 (by decide) (Nat.le_of_ble_eq_true rfl) rfl (by decide +kernel) rfl rfl wd_163 dd_T_init_23 hC hS (fun H locs hC hS => ?_)
  obtain ⟨cl, hC, hF⟩ : ∃ cl1 : Nat → va_E, CHp D n0 (b + 3 + 0) cl1 H ∧ TF ca n0 b (b + 3 + 0) cl0 cl1 [.ref (n0 + (b + 1)), .ref (n0 + (b + 2)), .int (i32 0), .int 0, .int 0, .int 0, .int 0, .int 0, .int 0, .int 0] (gf n0 (b + 3) 0) (gf n0 (b + 11) 0) := ⟨_, hC, tf_put hF⟩
  refine lv_aload_n hx hb dd_T_init_26 rfl (lv_at hl 0 rfl) ?_
  refine lv_iconst (v := i32 0) hx hb dd_T_init_27 rfl ?_
  refine n_put (ci := 5) (f := 3) (ft := .int) ty_T hx hb hts hown hK in_T tyk_T nm_T rfl (by omega) hF.1 (by decide) (Nat.le_of_ble_eq_true rfl) rfl (by decide +kernel) rfl rfl wd_166 dd_T_init_28 hC hS (fun H locs hC hS => ?_)
  obtain ⟨cl, hC, hF⟩ : ∃ cl1 : Nat → va_E, CHp D n0 (b + 3 + 0) cl1 H ∧ TF ca n0 b (b + 3 + 0) cl0 cl1 [.ref (n0 + (b + 1)), .ref (n0 + (b + 2)), .int (i32 0), .int (i32 0), .int 0, .int 0, .int 0, .int 0, .int 0, .int 0] (gf n0 (b + 3) 0) (gf n0 (b + 11) 0) := ⟨_, hC, tf_put hF⟩
  refine lv_aload_n hx hb dd_T_init_31 rfl (lv_at hl 0 rfl) ?_
  refine lv_iconst (v := i32 2) hx hb dd_T_init_32 rfl ?_
  refine n_put (ci := 5) (f := 4) (ft := .int) ty_T hx hb hts hown hK in_T tyk_T nm_T rfl (by omega) hF.1 (by decide) (Nat.le_of_ble_eq_true rfl) rfl (by decide +kernel) rfl rfl wd_169 dd_T_init_33 hC hS (fun H locs hC hS => ?_)
  obtain ⟨cl, hC, hF⟩ : ∃ cl1 : Nat → va_E, CHp D n0 (b + 3 + 0) cl1 H ∧ TF ca n0 b (b + 3 + 0) cl0 cl1 [.ref (n0 + (b + 1)), .ref (n0 + (b + 2)), .int (i32 0), .int (i32 0), .int (i32 2), .int 0, .int 0, .int 0, .int 0, .int 0] (gf n0 (b + 3) 0) (gf n0 (b + 11) 0) := ⟨_, hC, tf_put hF⟩
  refine lv_aload_n hx hb dd_T_init_36 rfl (lv_at hl 0 rfl) ?_
  refine lv_iconst (v := i32 2) hx hb dd_T_init_37 rfl ?_
  refine n_put (ci := 5) (f := 5) (ft := .int) ty_T hx hb hts hown hK in_T tyk_T nm_T rfl (by omega) hF.1 (by decide) (Nat.le_of_ble_eq_true rfl) rfl (by decide +kernel) rfl rfl wd_172 dd_T_init_38 hC hS (fun H locs hC hS => ?_)
  obtain ⟨cl, hC, hF⟩ : ∃ cl1 : Nat → va_E, CHp D n0 (b + 3 + 0) cl1 H ∧ TF ca n0 b (b + 3 + 0) cl0 cl1 [.ref (n0 + (b + 1)), .ref (n0 + (b + 2)), .int (i32 0), .int (i32 0), .int (i32 2), .int (i32 2), .int 0, .int 0, .int 0, .int 0] (gf n0 (b + 3) 0) (gf n0 (b + 11) 0) := ⟨_, hC, tf_put hF⟩
  refine lv_aload_n hx hb dd_T_init_41 rfl (lv_at hl 0 rfl) ?_
  refine lv_iconst (v := i32 0) hx hb dd_T_init_42 rfl ?_
  refine n_put (ci := 5) (f := 6) (ft := .int) ty_T hx hb hts hown hK in_T tyk_T nm_T rfl (by omega) hF.1 (by decide) (Nat.le_of_ble_eq_true rfl) rfl (by decide +kernel) rfl rfl wd_175 dd_T_init_43 hC hS (fun H locs hC hS => ?_)
  obtain ⟨cl, hC, hF⟩ : ∃ cl1 : Nat → va_E, CHp D n0 (b + 3 + 0) cl1 H ∧ TF ca n0 b (b + 3 + 0) cl0 cl1 [.ref (n0 + (b + 1)), .ref (n0 + (b + 2)), .int (i32 0), .int (i32 0), .int (i32 2), .int (i32 2), .int (i32 0), .int 0, .int 0, .int 0] (gf n0 (b + 3) 0) (gf n0 (b + 11) 0) := ⟨_, hC, tf_put hF⟩
  refine lv_aload_n hx hb dd_T_init_46 rfl (lv_at hl 0 rfl) ?_
  refine lv_iconst (v := i32 0) hx hb dd_T_init_47 rfl ?_
  refine n_put (ci := 5) (f := 7) (ft := .int) ty_T hx hb hts hown hK in_T tyk_T nm_T rfl (by omega) hF.1 (by decide) (Nat.le_of_ble_eq_true rfl) rfl (by decide +kernel) rfl rfl wd_177 dd_T_init_48 hC hS (fun H locs hC hS => ?_)
  obtain ⟨cl, hC, hF⟩ : ∃ cl1 : Nat → va_E, CHp D n0 (b + 3 + 0) cl1 H ∧ TF ca n0 b (b + 3 + 0) cl0 cl1 [.ref (n0 + (b + 1)), .ref (n0 + (b + 2)), .int (i32 0), .int (i32 0), .int (i32 2), .int (i32 2), .int (i32 0), .int (i32 0), .int 0, .int 0] (gf n0 (b + 3) 0) (gf n0 (b + 11) 0) := ⟨_, hC, tf_put hF⟩
  refine lv_aload_n hx hb dd_T_init_51 rfl (lv_at hl 0 rfl) ?_
  refine lv_iconst (v := i32 0) hx hb dd_T_init_52 rfl ?_
  refine n_put (ci := 5) (f := 8) (ft := .int) ty_T hx hb hts hown hK in_T tyk_T nm_T rfl (by omega) hF.1 (by decide) (Nat.le_of_ble_eq_true rfl) rfl (by decide +kernel) rfl rfl wd_179 dd_T_init_53 hC hS (fun H locs hC hS => ?_)
  obtain ⟨cl, hC, hF⟩ : ∃ cl1 : Nat → va_E, CHp D n0 (b + 3 + 0) cl1 H ∧ TF ca n0 b (b + 3 + 0) cl0 cl1 [.ref (n0 + (b + 1)), .ref (n0 + (b + 2)), .int (i32 0), .int (i32 0), .int (i32 2), .int (i32 2), .int (i32 0), .int (i32 0), .int (i32 0), .int 0] (gf n0 (b + 3) 0) (gf n0 (b + 11) 0) := ⟨_, hC, tf_put hF⟩
  refine lv_aload_n hx hb dd_T_init_56 rfl (lv_at hl 0 rfl) ?_
  refine lv_iconst (v := i32 0) hx hb dd_T_init_57 rfl ?_
  refine n_put (ci := 5) (f := 9) (ft := .int) ty_T hx hb hts hown hK in_T tyk_T nm_T rfl (by omega) hF.1 (by decide) (Nat.le_of_ble_eq_true rfl) rfl (by decide +kernel) rfl rfl wd_181 dd_T_init_58 hC hS (fun H locs hC hS => ?_)
  obtain ⟨cl, hC, hF⟩ : ∃ cl1 : Nat → va_E, CHp D n0 (b + 3 + 0) cl1 H ∧ TF ca n0 b (b + 3 + 0) cl0 cl1 [.ref (n0 + (b + 1)), .ref (n0 + (b + 2)), .int (i32 0), .int (i32 0), .int (i32 2), .int (i32 2), .int (i32 0), .int (i32 0), .int (i32 0), .int (i32 0)] (gf n0 (b + 3) 0) (gf n0 (b + 11) 0) := ⟨_, hC, tf_put hF⟩
  have hF : TF ca n0 b (b + 3 + 0) cl0 cl (fin_T n0 b) (gf n0 (b + 3) 0) (gf n0 (b + 11) 0) := hF
  -- people
  have ones : ∀ (cl : Nat → va_E) (H : Heap) (locs : List Loc) (ls : Array Slot), TF ca n0 b (b + 11 + 0) cl0 cl (fin_T n0 b) (gf n0 (b + 3) 8) (gf n0 (b + 11) 0) → CHp D n0 (b + 11 + 0) cl H → va_S (frN n0) s.heap H locs → lv_has ls 2 [(1, .int (i32 ((0 : Nat) : Int))), (0, .ref (n0 + b))] → W p l e mm_T_init.2.2.2.2 s m args below meth c H locs (10 + 0) (60 + 5 * 0) (MQ below (qn D n0 (b + 15) (fun cl1 => ∀ j, j < b + 15 → cl1 j = TG_T ca n0 cl0 b j)) args s 14 80 (frN n0)) (F0 m 90 ls []) := by
    refine up_ind (P := fun g => ∀ (cl : Nat → va_E) (H : Heap) (locs : List Loc) (ls : Array Slot), TF ca n0 b (b + 11 + g) cl0 cl (fin_T n0 b) (gf n0 (b + 3) 8) (gf n0 (b + 11) g) → CHp D n0 (b + 11 + g) cl H → va_S (frN n0) s.heap H locs → lv_has ls 2 [(1, .int (i32 (g : Int))), (0, .ref (n0 + b))] → W p l e mm_T_init.2.2.2.2 s m args below meth c H locs (10 + g) (60 + 5 * g) (MQ below (qn D n0 (b + 15) (fun cl1 => ∀ j, j < b + 15 → cl1 j = TG_T ca n0 cl0 b j)) args s 14 80 (frN n0)) (F0 m 90 ls [])) 4 ?_ ?_
    · intro cl H locs ls hF hC hS hl
      refine lv_iload_n hx hb dd_T_init_90 (i := 1) rfl (lv_at hl 0 rfl) ?_
      refine lv_iconst (v := i32 4) hx hb dd_T_init_91 rfl ?_
      refine lv_icmp_ge (tgt := 114) hx hb dd_T_init_92 rfl (fun _ => ?_) (fun q => absurd (by decide +kernel) q)
      exact n_vret hx hb hr hlk (tf_end hF) hC hS dd_T_init_114
    · intro g hg ih cl H locs ls hF hC hS hl
      refine lv_iload_n hx hb dd_T_init_90 (i := 1) rfl (lv_at hl 0 rfl) ?_
      refine lv_iconst (v := i32 ((4 : Nat) : Int)) hx hb dd_T_init_91 rfl ?_
      refine lv_icmp_ge (tgt := 114) hx hb dd_T_init_92 rfl (fun q => absurd ((i32n_le (by omega) (by omega)).mp q) (by omega)) (fun _ => ?_)
      refine lv_aload_n hx hb dd_T_init_95 (i := 0) rfl (lv_at hl 1 rfl) ?_
      refine n_get (ci := 5) (f := 1) (v := .ref (n0 + (b + 2))) hx hb hts hown hK in_T rfl (by omega) hF.1 (by decide) rfl wd_161 dd_T_init_96 hC ?_
      refine lv_iload_n hx hb dd_T_init_99 (i := 1) rfl (lv_at hl 0 rfl) ?_
      refine n_new (C := "HaulWages$One") (N := 5) (ci := 1) (fs := [.int 0, .int 0, .int 0, .int 0, .int 0]) ty_O hx hb hts hown hK in_O tyk_O rfl (by decide +kernel) wo_93 wo_129 wd_66 (by show 10 + g + 1 ≤ 14; omega) (by show 60 + 5 * g + 5 ≤ 80; omega) dd_T_init_100 hC hS (fun H hC hS => ?_)
      refine lv_dup hx hb dd_T_init_103 rfl ?_
      refine n_callN (mm' := mm_O_init) (i_O (upE_eq _ _ _)) hx hb hml hown hts hl.1 hK (by decide +kernel) (ws3 wd_131 wd_66 wd_132) nki_O rfl ⟨Nat.le_of_ble_eq_true rfl, Nat.le_of_ble_eq_true rfl⟩ (Nat.le_of_ble_eq_true rfl) ⟨by show 10 + g + 1 + 0 ≤ 14; omega, by show 60 + 5 * g + 5 + 0 ≤ 80; omega⟩ dd_T_init_104 hC hS (fun cl1 H locs hP hC hS => ?_)
      have hk : ∀ j, j < b + 11 + g → cl1 j = cl j := fun j hj => (hP.2 j (by omega) (by omega)).trans (upE_ne (by omega))
      refine n_aast (t0 := 3) (ci := 1) (i := g) (r := ("HaulWages$One", TT_O, 5)) hx hb hK (by omega) ((hk _ (by omega)).trans hF.2.2.1) rfl (by omega) hP.1 rfl (by omega) (by omega) dd_T_init_107 hC hS (fun H locs hC hS => ?_)
      refine W.widen (k := 10 + (g + 1)) (n := 60 + 5 * (g + 1)) (by show 10 + g + 1 + 0 ≤ _; omega) (by show 60 + 5 * g + 5 + 0 ≤ _; omega) ?_
      refine lv_iinc (k := 0) (x := i32 (g : Int)) (v := i32 ((g + 1 : Nat) : Int)) (lv' := [(1, .int (i32 ((g + 1 : Nat) : Int))), (0, .ref (n0 + b))]) hx hb dd_T_init_108 hl rfl (i32n_s (by omega)) (by decide) rfl (fun ls hl => ?_)
      refine lv_goto (tgt := 90) hx hb dd_T_init_111 rfl ?_
      exact ih _ H locs ls (tf_o hg hF hP.1 hk) hC hS hl
  have goods : ∀ (cl : Nat → va_E) (H : Heap) (locs : List Loc) (ls : Array Slot), TF ca n0 b (b + 3 + 0) cl0 cl (fin_T n0 b) (gf n0 (b + 3) 0) (gf n0 (b + 11) 0) → CHp D n0 (b + 3 + 0) cl H → va_S (frN n0) s.heap H locs → lv_has ls 2 [(1, .int (i32 ((0 : Nat) : Int))), (0, .ref (n0 + b))] → W p l e mm_T_init.2.2.2.2 s m args below meth c H locs (2 + 0) (12 + 6 * 0) (MQ below (qn D n0 (b + 15) (fun cl1 => ∀ j, j < b + 15 → cl1 j = TG_T ca n0 cl0 b j)) args s 14 80 (frN n0)) (F0 m 63 ls []) := by
    refine up_ind (P := fun g => ∀ (cl : Nat → va_E) (H : Heap) (locs : List Loc) (ls : Array Slot), TF ca n0 b (b + 3 + g) cl0 cl (fin_T n0 b) (gf n0 (b + 3) g) (gf n0 (b + 11) 0) → CHp D n0 (b + 3 + g) cl H → va_S (frN n0) s.heap H locs → lv_has ls 2 [(1, .int (i32 (g : Int))), (0, .ref (n0 + b))] → W p l e mm_T_init.2.2.2.2 s m args below meth c H locs (2 + g) (12 + 6 * g) (MQ below (qn D n0 (b + 15) (fun cl1 => ∀ j, j < b + 15 → cl1 j = TG_T ca n0 cl0 b j)) args s 14 80 (frN n0)) (F0 m 63 ls [])) 8 ?_ ?_
    · intro cl H locs ls hF hC hS hl
      refine lv_iload_n hx hb dd_T_init_63 (i := 1) rfl (lv_at hl 0 rfl) ?_
      refine lv_bipush (v := i32 8) hx hb dd_T_init_64 (by decide +kernel) ?_
      refine lv_icmp_ge (tgt := 88) hx hb dd_T_init_66 rfl (fun _ => ?_) (fun q => absurd (by decide +kernel) q)
      refine lv_iconst (v := i32 ((0 : Nat) : Int)) hx hb dd_T_init_88 rfl ?_
      refine lv_istore_n (lv' := [(1, .int (i32 ((0 : Nat) : Int))), (0, .ref (n0 + b))]) hx hb dd_T_init_89 rfl hl (by decide) rfl (fun ls hl => ?_)
      exact ones cl H locs ls hF hC hS hl
    · intro g hg ih cl H locs ls hF hC hS hl
      refine lv_iload_n hx hb dd_T_init_63 (i := 1) rfl (lv_at hl 0 rfl) ?_
      refine lv_bipush (v := i32 ((8 : Nat) : Int)) hx hb dd_T_init_64 (by decide +kernel) ?_
      refine lv_icmp_ge (tgt := 88) hx hb dd_T_init_66 rfl (fun q => absurd ((i32n_le (by omega) (by omega)).mp q) (by omega)) (fun _ => ?_)
      refine lv_aload_n hx hb dd_T_init_69 (i := 0) rfl (lv_at hl 1 rfl) ?_
      refine n_get (ci := 5) (f := 0) (v := .ref (n0 + (b + 1))) hx hb hts hown hK in_T rfl (by omega) hF.1 (by decide) rfl wd_159 dd_T_init_70 hC ?_
      refine lv_iload_n hx hb dd_T_init_73 (i := 1) rfl (lv_at hl 0 rfl) ?_
      refine n_new (C := "HaulWages$Good") (N := 6) (ci := 0) (fs := [.int 0, .int 0, .int 0, .int 0, .int 0, .int 0]) ty_G hx hb hts hown hK in_G tyk_G rfl (by decide +kernel) wo_91 wo_95 wd_65 (by show 2 + g + 1 ≤ 14; omega) (by show 12 + 6 * g + 6 ≤ 80; omega) dd_T_init_74 hC hS (fun H hC hS => ?_)
      refine lv_dup hx hb dd_T_init_77 rfl ?_
      refine n_callN (mm' := mm_G_init) (i_G (upE_eq _ _ _)) hx hb hml hown hts hl.1 hK (by decide +kernel) (ws3 wd_97 wd_65 wd_98) nki_G rfl ⟨Nat.le_of_ble_eq_true rfl, Nat.le_of_ble_eq_true rfl⟩ (Nat.le_of_ble_eq_true rfl) ⟨by show 2 + g + 1 + 0 ≤ 14; omega, by show 12 + 6 * g + 6 + 0 ≤ 80; omega⟩ dd_T_init_78 hC hS (fun cl1 H locs hP hC hS => ?_)
      have hk : ∀ j, j < b + 3 + g → cl1 j = cl j := fun j hj => (hP.2 j (by omega) (by omega)).trans (upE_ne (by omega))
      refine n_aast (t0 := 2) (ci := 0) (i := g) (r := ("HaulWages$Good", TT_G, 6)) hx hb hK (by omega) ((hk _ (by omega)).trans hF.2.1) rfl (by omega) hP.1 rfl (by omega) (by omega) dd_T_init_81 hC hS (fun H locs hC hS => ?_)
      refine W.widen (k := 2 + (g + 1)) (n := 12 + 6 * (g + 1)) (by show 2 + g + 1 + 0 ≤ _; omega) (by show 12 + 6 * g + 6 + 0 ≤ _; omega) ?_
      refine lv_iinc (k := 0) (x := i32 (g : Int)) (v := i32 ((g + 1 : Nat) : Int)) (lv' := [(1, .int (i32 ((g + 1 : Nat) : Int))), (0, .ref (n0 + b))]) hx hb dd_T_init_82 hl rfl (i32n_s (by omega)) (by decide) rfl (fun ls hl => ?_)
      refine lv_goto (tgt := 63) hx hb dd_T_init_85 rfl ?_
      exact ih _ H locs ls (tf_g hg hF hP.1 hk) hC hS hl
  refine lv_iconst (v := i32 ((0 : Nat) : Int)) hx hb dd_T_init_61 rfl ?_
  refine lv_istore_n (lv' := [(1, .int (i32 ((0 : Nat) : Int))), (0, .ref (n0 + b))]) hx hb dd_T_init_62 rfl hl (by decide) rfl (fun ls hl => ?_)
  exact goods cl H locs ls hF hC hS hl

/-! the constructors that are straight code -/
theorem upE_upE (cl : Nat → va_E) (j : Nat) (v w : va_E) : upE (upE cl j v) j w = upE cl j w := by
  funext i
  unfold upE
  split
  · rfl
  · rfl
theorem nki_G : nameOk mm_G_init 0 := ⟨by decide +kernel, by decide +kernel, by decide +kernel⟩
theorem nki_O : nameOk mm_O_init 0 := ⟨by decide +kernel, by decide +kernel, by decide +kernel⟩
theorem nki_I : nameOk mm_I_init 0 := ⟨by decide +kernel, by decide +kernel, by decide +kernel⟩
theorem nki_S : nameOk mm_S_init 0 := ⟨by decide +kernel, by decide +kernel, by decide +kernel⟩
theorem nki_P : nameOk mm_P_init 0 := ⟨by decide +kernel, by decide +kernel, by decide +kernel⟩
theorem nki_T : nameOk mm_T_init 0 := ⟨by decide +kernel, by decide +kernel, by decide +kernel⟩
theorem nki_H : nameOk mm_H_init 0 := ⟨by decide +kernel, by decide +kernel, by decide +kernel⟩
theorem nki_M : nameOk mm_M_init 0 := ⟨by decide +kernel, by decide +kernel, by decide +kernel⟩
abbrev fin_G (n0 b : Nat) : List Value := [.int (i32 0), .int (i32 1), .int (i32 0), .int (i32 1), .int (i32 0), .int (i32 0)]
theorem i_G {D : va_G} {ca : Nat → ClassId} {n0 b : Nat} {cl0 : Nat → va_E} (h0 : cl0 b = .inr (0, [.int 0, .int 0, .int 0, .int 0, .int 0, .int 0])) : NI D ca n0 mm_G_init b (b + 1) (b + 1) cl0 (fun cl1 => cl1 b = .inr (0, fin_G n0 b) ∧ ∀ j, j < b + 1 → j ≠ b → cl1 j = cl0 j) := by
  refine n_entry pn_G rfl (Nat.le_of_ble_eq_true rfl) ?_
  intro p l e s m args below meth c ls hx hb hown hts hr hlk hin hK hC hl hml
  have hS : va_S (frN n0) s.heap s.heap [] := va_S.rf
  have hT : ∀ j, j < b + 1 → j ≠ b → cl0 j = cl0 j := fun _ _ _ => rfl
  refine lv_aload_n hx hb dd_G_init_0 rfl (lv_at hl 0 rfl) ?_
  refine n_obj hx hb hown hts wd_99 hml hl.1 dd_G_init_1 (Nat.le_of_ble_eq_true rfl) (Nat.le_of_ble_eq_true rfl) ?_
  refine lv_aload_n hx hb dd_G_init_4 rfl (lv_at hl 0 rfl) ?_
  refine lv_iconst (v := i32 0) hx hb dd_G_init_5 rfl ?_
  refine n_put (ci := 0) (f := 0) (ft := .int) ty_G hx hb hts hown hK in_G tyk_G nm_G rfl (by omega) h0 (by decide) (Nat.le_of_ble_eq_true rfl) rfl (by decide +kernel) rfl rfl wd_100 dd_G_init_6 hC hS (fun H locs hC hS => ?_)
  obtain ⟨cl, hC, h0, hT⟩ : ∃ cl1 : Nat → va_E, CHp D n0 (b + 1) cl1 H ∧ cl1 b = .inr (0, [.int (i32 0), .int 0, .int 0, .int 0, .int 0, .int 0]) ∧ ∀ j, j < b + 1 → j ≠ b → cl1 j = cl0 j := ⟨_, hC, mk_put hT⟩
  refine lv_aload_n hx hb dd_G_init_9 rfl (lv_at hl 0 rfl) ?_
  refine lv_iconst (v := i32 1) hx hb dd_G_init_10 rfl ?_
  refine n_put (ci := 0) (f := 1) (ft := .int) ty_G hx hb hts hown hK in_G tyk_G nm_G rfl (by omega) h0 (by decide) (Nat.le_of_ble_eq_true rfl) rfl (by decide +kernel) rfl rfl wd_102 dd_G_init_11 hC hS (fun H locs hC hS => ?_)
  obtain ⟨cl, hC, h0, hT⟩ : ∃ cl1 : Nat → va_E, CHp D n0 (b + 1) cl1 H ∧ cl1 b = .inr (0, [.int (i32 0), .int (i32 1), .int 0, .int 0, .int 0, .int 0]) ∧ ∀ j, j < b + 1 → j ≠ b → cl1 j = cl0 j := ⟨_, hC, mk_put hT⟩
  refine lv_aload_n hx hb dd_G_init_14 rfl (lv_at hl 0 rfl) ?_
  refine lv_iconst (v := i32 0) hx hb dd_G_init_15 rfl ?_
  refine n_put (ci := 0) (f := 2) (ft := .int) ty_G hx hb hts hown hK in_G tyk_G nm_G rfl (by omega) h0 (by decide) (Nat.le_of_ble_eq_true rfl) rfl (by decide +kernel) rfl rfl wd_104 dd_G_init_16 hC hS (fun H locs hC hS => ?_)
  obtain ⟨cl, hC, h0, hT⟩ : ∃ cl1 : Nat → va_E, CHp D n0 (b + 1) cl1 H ∧ cl1 b = .inr (0, [.int (i32 0), .int (i32 1), .int (i32 0), .int 0, .int 0, .int 0]) ∧ ∀ j, j < b + 1 → j ≠ b → cl1 j = cl0 j := ⟨_, hC, mk_put hT⟩
  refine lv_aload_n hx hb dd_G_init_19 rfl (lv_at hl 0 rfl) ?_
  refine lv_iconst (v := i32 1) hx hb dd_G_init_20 rfl ?_
  refine n_put (ci := 0) (f := 3) (ft := .int) ty_G hx hb hts hown hK in_G tyk_G nm_G rfl (by omega) h0 (by decide) (Nat.le_of_ble_eq_true rfl) rfl (by decide +kernel) rfl rfl wd_107 dd_G_init_21 hC hS (fun H locs hC hS => ?_)
  obtain ⟨cl, hC, h0, hT⟩ : ∃ cl1 : Nat → va_E, CHp D n0 (b + 1) cl1 H ∧ cl1 b = .inr (0, [.int (i32 0), .int (i32 1), .int (i32 0), .int (i32 1), .int 0, .int 0]) ∧ ∀ j, j < b + 1 → j ≠ b → cl1 j = cl0 j := ⟨_, hC, mk_put hT⟩
  refine lv_aload_n hx hb dd_G_init_24 rfl (lv_at hl 0 rfl) ?_
  refine lv_iconst (v := i32 0) hx hb dd_G_init_25 rfl ?_
  refine n_put (ci := 0) (f := 4) (ft := .int) ty_G hx hb hts hown hK in_G tyk_G nm_G rfl (by omega) h0 (by decide) (Nat.le_of_ble_eq_true rfl) rfl (by decide +kernel) rfl rfl wd_110 dd_G_init_26 hC hS (fun H locs hC hS => ?_)
  obtain ⟨cl, hC, h0, hT⟩ : ∃ cl1 : Nat → va_E, CHp D n0 (b + 1) cl1 H ∧ cl1 b = .inr (0, [.int (i32 0), .int (i32 1), .int (i32 0), .int (i32 1), .int (i32 0), .int 0]) ∧ ∀ j, j < b + 1 → j ≠ b → cl1 j = cl0 j := ⟨_, hC, mk_put hT⟩
  refine lv_aload_n hx hb dd_G_init_29 rfl (lv_at hl 0 rfl) ?_
  refine lv_iconst (v := i32 0) hx hb dd_G_init_30 rfl ?_
  refine n_put (ci := 0) (f := 5) (ft := .boolean) ty_G hx hb hts hown hK in_G tyk_G nm_G rfl (by omega) h0 (by decide) (Nat.le_of_ble_eq_true rfl) rfl (by decide +kernel) rfl rfl wd_113 dd_G_init_31 hC hS (fun H locs hC hS => ?_)
  obtain ⟨cl, hC, h0, hT⟩ : ∃ cl1 : Nat → va_E, CHp D n0 (b + 1) cl1 H ∧ cl1 b = .inr (0, [.int (i32 0), .int (i32 1), .int (i32 0), .int (i32 1), .int (i32 0), .int (i32 0)]) ∧ ∀ j, j < b + 1 → j ≠ b → cl1 j = cl0 j := ⟨_, hC, mk_put hT⟩
  exact n_vret hx hb hr hlk ⟨h0, hT⟩ hC hS dd_G_init_34
abbrev fin_O (n0 b : Nat) : List Value := [.int (i32 1), .int (i32 0), .int (i32 0), .int (i32 0), .int (i32 0)]
theorem i_O {D : va_G} {ca : Nat → ClassId} {n0 b : Nat} {cl0 : Nat → va_E} (h0 : cl0 b = .inr (1, [.int 0, .int 0, .int 0, .int 0, .int 0])) : NI D ca n0 mm_O_init b (b + 1) (b + 1) cl0 (fun cl1 => cl1 b = .inr (1, fin_O n0 b) ∧ ∀ j, j < b + 1 → j ≠ b → cl1 j = cl0 j) := by
  refine n_entry pn_O rfl (Nat.le_of_ble_eq_true rfl) ?_
  intro p l e s m args below meth c ls hx hb hown hts hr hlk hin hK hC hl hml
  have hS : va_S (frN n0) s.heap s.heap [] := va_S.rf
  have hT : ∀ j, j < b + 1 → j ≠ b → cl0 j = cl0 j := fun _ _ _ => rfl
  refine lv_aload_n hx hb dd_O_init_0 rfl (lv_at hl 0 rfl) ?_
  refine n_obj hx hb hown hts wd_133 hml hl.1 dd_O_init_1 (Nat.le_of_ble_eq_true rfl) (Nat.le_of_ble_eq_true rfl) ?_
  refine lv_aload_n hx hb dd_O_init_4 rfl (lv_at hl 0 rfl) ?_
  refine lv_iconst (v := i32 1) hx hb dd_O_init_5 rfl ?_
  refine n_put (ci := 1) (f := 0) (ft := .int) ty_O hx hb hts hown hK in_O tyk_O nm_O rfl (by omega) h0 (by decide) (Nat.le_of_ble_eq_true rfl) rfl (by decide +kernel) rfl rfl wd_134 dd_O_init_6 hC hS (fun H locs hC hS => ?_)
  obtain ⟨cl, hC, h0, hT⟩ : ∃ cl1 : Nat → va_E, CHp D n0 (b + 1) cl1 H ∧ cl1 b = .inr (1, [.int (i32 1), .int 0, .int 0, .int 0, .int 0]) ∧ ∀ j, j < b + 1 → j ≠ b → cl1 j = cl0 j := ⟨_, hC, mk_put hT⟩
  refine lv_aload_n hx hb dd_O_init_9 rfl (lv_at hl 0 rfl) ?_
  refine lv_iconst (v := i32 0) hx hb dd_O_init_10 rfl ?_
  refine n_put (ci := 1) (f := 1) (ft := .int) ty_O hx hb hts hown hK in_O tyk_O nm_O rfl (by omega) h0 (by decide) (Nat.le_of_ble_eq_true rfl) rfl (by decide +kernel) rfl rfl wd_137 dd_O_init_11 hC hS (fun H locs hC hS => ?_)
  obtain ⟨cl, hC, h0, hT⟩ : ∃ cl1 : Nat → va_E, CHp D n0 (b + 1) cl1 H ∧ cl1 b = .inr (1, [.int (i32 1), .int (i32 0), .int 0, .int 0, .int 0]) ∧ ∀ j, j < b + 1 → j ≠ b → cl1 j = cl0 j := ⟨_, hC, mk_put hT⟩
  refine lv_aload_n hx hb dd_O_init_14 rfl (lv_at hl 0 rfl) ?_
  refine lv_iconst (v := i32 0) hx hb dd_O_init_15 rfl ?_
  refine n_put (ci := 1) (f := 2) (ft := .int) ty_O hx hb hts hown hK in_O tyk_O nm_O rfl (by omega) h0 (by decide) (Nat.le_of_ble_eq_true rfl) rfl (by decide +kernel) rfl rfl wd_140 dd_O_init_16 hC hS (fun H locs hC hS => ?_)
  obtain ⟨cl, hC, h0, hT⟩ : ∃ cl1 : Nat → va_E, CHp D n0 (b + 1) cl1 H ∧ cl1 b = .inr (1, [.int (i32 1), .int (i32 0), .int (i32 0), .int 0, .int 0]) ∧ ∀ j, j < b + 1 → j ≠ b → cl1 j = cl0 j := ⟨_, hC, mk_put hT⟩
  refine lv_aload_n hx hb dd_O_init_19 rfl (lv_at hl 0 rfl) ?_
  refine lv_iconst (v := i32 0) hx hb dd_O_init_20 rfl ?_
  refine n_put (ci := 1) (f := 3) (ft := .int) ty_O hx hb hts hown hK in_O tyk_O nm_O rfl (by omega) h0 (by decide) (Nat.le_of_ble_eq_true rfl) rfl (by decide +kernel) rfl rfl wd_143 dd_O_init_21 hC hS (fun H locs hC hS => ?_)
  obtain ⟨cl, hC, h0, hT⟩ : ∃ cl1 : Nat → va_E, CHp D n0 (b + 1) cl1 H ∧ cl1 b = .inr (1, [.int (i32 1), .int (i32 0), .int (i32 0), .int (i32 0), .int 0]) ∧ ∀ j, j < b + 1 → j ≠ b → cl1 j = cl0 j := ⟨_, hC, mk_put hT⟩
  refine lv_aload_n hx hb dd_O_init_24 rfl (lv_at hl 0 rfl) ?_
  refine lv_iconst (v := i32 0) hx hb dd_O_init_25 rfl ?_
  refine n_put (ci := 1) (f := 4) (ft := .int) ty_O hx hb hts hown hK in_O tyk_O nm_O rfl (by omega) h0 (by decide) (Nat.le_of_ble_eq_true rfl) rfl (by decide +kernel) rfl rfl wd_146 dd_O_init_26 hC hS (fun H locs hC hS => ?_)
  obtain ⟨cl, hC, h0, hT⟩ : ∃ cl1 : Nat → va_E, CHp D n0 (b + 1) cl1 H ∧ cl1 b = .inr (1, [.int (i32 1), .int (i32 0), .int (i32 0), .int (i32 0), .int (i32 0)]) ∧ ∀ j, j < b + 1 → j ≠ b → cl1 j = cl0 j := ⟨_, hC, mk_put hT⟩
  exact n_vret hx hb hr hlk ⟨h0, hT⟩ hC hS dd_O_init_29
abbrev fin_I (n0 b : Nat) : List Value := [.int (i32 0), .int (i32 0), .int (i32 0)]
theorem i_I {D : va_G} {ca : Nat → ClassId} {n0 b : Nat} {cl0 : Nat → va_E} (h0 : cl0 b = .inr (3, [.int 0, .int 0, .int 0])) : NI D ca n0 mm_I_init b (b + 1) (b + 1) cl0 (fun cl1 => cl1 b = .inr (3, fin_I n0 b) ∧ ∀ j, j < b + 1 → j ≠ b → cl1 j = cl0 j) := by
  refine n_entry pn_I rfl (Nat.le_of_ble_eq_true rfl) ?_
  intro p l e s m args below meth c ls hx hb hown hts hr hlk hin hK hC hl hml
  have hS : va_S (frN n0) s.heap s.heap [] := va_S.rf
  have hT : ∀ j, j < b + 1 → j ≠ b → cl0 j = cl0 j := fun _ _ _ => rfl
  refine lv_aload_n hx hb dd_I_init_0 rfl (lv_at hl 0 rfl) ?_
  refine n_obj hx hb hown hts wd_273 hml hl.1 dd_I_init_1 (Nat.le_of_ble_eq_true rfl) (Nat.le_of_ble_eq_true rfl) ?_
  refine lv_aload_n hx hb dd_I_init_4 rfl (lv_at hl 0 rfl) ?_
  refine lv_iconst (v := i32 0) hx hb dd_I_init_5 rfl ?_
  refine n_put (ci := 3) (f := 0) (ft := .int) ty_I hx hb hts hown hK in_I tyk_I nm_I rfl (by omega) h0 (by decide) (Nat.le_of_ble_eq_true rfl) rfl (by decide +kernel) rfl rfl wd_274 dd_I_init_6 hC hS (fun H locs hC hS => ?_)
  obtain ⟨cl, hC, h0, hT⟩ : ∃ cl1 : Nat → va_E, CHp D n0 (b + 1) cl1 H ∧ cl1 b = .inr (3, [.int (i32 0), .int 0, .int 0]) ∧ ∀ j, j < b + 1 → j ≠ b → cl1 j = cl0 j := ⟨_, hC, mk_put hT⟩
  refine lv_aload_n hx hb dd_I_init_9 rfl (lv_at hl 0 rfl) ?_
  refine lv_iconst (v := i32 0) hx hb dd_I_init_10 rfl ?_
  refine n_put (ci := 3) (f := 1) (ft := .int) ty_I hx hb hts hown hK in_I tyk_I nm_I rfl (by omega) h0 (by decide) (Nat.le_of_ble_eq_true rfl) rfl (by decide +kernel) rfl rfl wd_276 dd_I_init_11 hC hS (fun H locs hC hS => ?_)
  obtain ⟨cl, hC, h0, hT⟩ : ∃ cl1 : Nat → va_E, CHp D n0 (b + 1) cl1 H ∧ cl1 b = .inr (3, [.int (i32 0), .int (i32 0), .int 0]) ∧ ∀ j, j < b + 1 → j ≠ b → cl1 j = cl0 j := ⟨_, hC, mk_put hT⟩
  refine lv_aload_n hx hb dd_I_init_14 rfl (lv_at hl 0 rfl) ?_
  refine lv_iconst (v := i32 0) hx hb dd_I_init_15 rfl ?_
  refine n_put (ci := 3) (f := 2) (ft := .int) ty_I hx hb hts hown hK in_I tyk_I nm_I rfl (by omega) h0 (by decide) (Nat.le_of_ble_eq_true rfl) rfl (by decide +kernel) rfl rfl wd_278 dd_I_init_16 hC hS (fun H locs hC hS => ?_)
  obtain ⟨cl, hC, h0, hT⟩ : ∃ cl1 : Nat → va_E, CHp D n0 (b + 1) cl1 H ∧ cl1 b = .inr (3, [.int (i32 0), .int (i32 0), .int (i32 0)]) ∧ ∀ j, j < b + 1 → j ≠ b → cl1 j = cl0 j := ⟨_, hC, mk_put hT⟩
  exact n_vret hx hb hr hlk ⟨h0, hT⟩ hC hS dd_I_init_19
def TG_S (ca : Nat → ClassId) (cl0 : Nat → va_E) (b : Nat) : Nat → va_E := fun j => if j ≤ b then cl0 j else match j - b with
  | 1 => .inl (ca 0, 40, .inl (fun _ => 0))
  | _ => cl0 j
theorem TGv_S_1 (ca : Nat → ClassId) (cl0 : Nat → va_E) (b : Nat) : TG_S ca cl0 b (b + 1) = .inl (ca 0, 40, .inl (fun _ => 0)) := by
  unfold TG_S
  rw [if_neg (by omega), show b + 1 - b = 1 by omega]
  rfl
abbrev fin_S (n0 b : Nat) : List Value := [.ref (n0 + (b + 1)), .int (i32 (-1)), .int (i32 0)]
theorem i_S {D : va_G} {ca : Nat → ClassId} {n0 b : Nat} {cl0 : Nat → va_E} (h0 : cl0 b = .inr (2, [.null, .int 0, .int 0])) : NI D ca n0 mm_S_init b (b + 1) (b + 2) cl0 (fun cl1 => cl1 b = .inr (2, fin_S n0 b) ∧ ∀ j, j < b + 2 → j ≠ b → cl1 j = (TG_S ca cl0 b) j) := by
  refine n_entry pn_S rfl (Nat.le_of_ble_eq_true rfl) ?_
  intro p l e s m args below meth c ls hx hb hown hts hr hlk hin hK hC hl hml
  have hS : va_S (frN n0) s.heap s.heap [] := va_S.rf
  have hT : ∀ j, j < b + 1 → j ≠ b → cl0 j = TG_S ca cl0 b j := fun j h1 _ => by unfold TG_S; rw [if_pos (by omega)]
  refine lv_aload_n hx hb dd_S_init_0 rfl (lv_at hl 0 rfl) ?_
  refine n_obj hx hb hown hts wd_255 hml hl.1 dd_S_init_1 (Nat.le_of_ble_eq_true rfl) (Nat.le_of_ble_eq_true rfl) ?_
  refine lv_aload_n hx hb dd_S_init_4 rfl (lv_at hl 0 rfl) ?_
  refine lv_bipush (v := i32 40) hx hb dd_S_init_5 (by decide +kernel) ?_
  refine n_newi (N := 40) hx hb hts hK wo_244 (by decide +kernel) (by decide +kernel) (by decide +kernel) (Nat.le_of_ble_eq_true rfl) (Nat.le_of_ble_eq_true rfl) dd_S_init_7 hC hS (fun H hC hS => ?_)
  refine W.widen (k := 1) (n := 40) (Nat.le_of_ble_eq_true rfl) (Nat.le_of_ble_eq_true rfl) ?_
  obtain ⟨cl, hC, h0, hT⟩ : ∃ cl1 : Nat → va_E, CHp D n0 (b + 2) cl1 H ∧ cl1 b = .inr (2, [.null, .int 0, .int 0]) ∧ ∀ j, j < b + 2 → j ≠ b → cl1 j = (TG_S ca cl0 b) j := ⟨_, hC, mk_arr h0 hT (by omega) (TGv_S_1 ca cl0 b)⟩
  refine n_putF (ci := 2) (f := 0) (ft := (.array .int)) ty_S hx hb hts hown hK in_S tyk_S nm_S rfl (by omega) h0 (by decide) (Nat.le_of_ble_eq_true rfl) rfl hin rfl (by decide +kernel) rfl rfl wd_256 dd_S_init_9 hC hS (fun H locs hC hS => ?_)
  obtain ⟨cl, hC, h0, hT⟩ : ∃ cl1 : Nat → va_E, CHp D n0 (b + 2) cl1 H ∧ cl1 b = .inr (2, [.ref (n0 + (b + 1)), .int 0, .int 0]) ∧ ∀ j, j < b + 2 → j ≠ b → cl1 j = (TG_S ca cl0 b) j := ⟨_, hC, mk_put hT⟩
  refine lv_aload_n hx hb dd_S_init_12 rfl (lv_at hl 0 rfl) ?_
  refine lv_iconst (v := i32 (-1)) hx hb dd_S_init_13 rfl ?_
  refine n_put (ci := 2) (f := 1) (ft := .int) ty_S hx hb hts hown hK in_S tyk_S nm_S rfl (by omega) h0 (by decide) (Nat.le_of_ble_eq_true rfl) rfl (by decide +kernel) rfl rfl wd_258 dd_S_init_14 hC hS (fun H locs hC hS => ?_)
  obtain ⟨cl, hC, h0, hT⟩ : ∃ cl1 : Nat → va_E, CHp D n0 (b + 2) cl1 H ∧ cl1 b = .inr (2, [.ref (n0 + (b + 1)), .int (i32 (-1)), .int 0]) ∧ ∀ j, j < b + 2 → j ≠ b → cl1 j = (TG_S ca cl0 b) j := ⟨_, hC, mk_put hT⟩
  refine lv_aload_n hx hb dd_S_init_17 rfl (lv_at hl 0 rfl) ?_
  refine lv_iconst (v := i32 0) hx hb dd_S_init_18 rfl ?_
  refine n_put (ci := 2) (f := 2) (ft := .int) ty_S hx hb hts hown hK in_S tyk_S nm_S rfl (by omega) h0 (by decide) (Nat.le_of_ble_eq_true rfl) rfl (by decide +kernel) rfl rfl wd_260 dd_S_init_19 hC hS (fun H locs hC hS => ?_)
  obtain ⟨cl, hC, h0, hT⟩ : ∃ cl1 : Nat → va_E, CHp D n0 (b + 2) cl1 H ∧ cl1 b = .inr (2, [.ref (n0 + (b + 1)), .int (i32 (-1)), .int (i32 0)]) ∧ ∀ j, j < b + 2 → j ≠ b → cl1 j = (TG_S ca cl0 b) j := ⟨_, hC, mk_put hT⟩
  exact n_vret hx hb hr hlk ⟨h0, hT⟩ hC hS dd_S_init_22
def TG_P (ca : Nat → ClassId) (cl0 : Nat → va_E) (b : Nat) : Nat → va_E := fun j => if j ≤ b then cl0 j else match j - b with
  | 1 => .inl (ca 0, 160, .inl (fun _ => 0))
  | _ => cl0 j
theorem TGv_P_1 (ca : Nat → ClassId) (cl0 : Nat → va_E) (b : Nat) : TG_P ca cl0 b (b + 1) = .inl (ca 0, 160, .inl (fun _ => 0)) := by
  unfold TG_P
  rw [if_neg (by omega), show b + 1 - b = 1 by omega]
  rfl
abbrev fin_P (n0 b : Nat) : List Value := [.ref (n0 + (b + 1)), .int (i32 0), .int (i32 0), .int (i32 0), .int (i32 0), .int (i32 0), .int (i32 0), .int (i32 0), .int (i32 0)]
theorem i_P {D : va_G} {ca : Nat → ClassId} {n0 b : Nat} {cl0 : Nat → va_E} (h0 : cl0 b = .inr (4, [.null, .int 0, .int 0, .int 0, .int 0, .int 0, .int 0, .int 0, .int 0])) : NI D ca n0 mm_P_init b (b + 1) (b + 2) cl0 (fun cl1 => cl1 b = .inr (4, fin_P n0 b) ∧ ∀ j, j < b + 2 → j ≠ b → cl1 j = (TG_P ca cl0 b) j) := by
  refine n_entry pn_P rfl (Nat.le_of_ble_eq_true rfl) ?_
  intro p l e s m args below meth c ls hx hb hown hts hr hlk hin hK hC hl hml
  have hS : va_S (frN n0) s.heap s.heap [] := va_S.rf
  have hT : ∀ j, j < b + 1 → j ≠ b → cl0 j = TG_P ca cl0 b j := fun j h1 _ => by unfold TG_P; rw [if_pos (by omega)]
  refine lv_aload_n hx hb dd_P_init_0 rfl (lv_at hl 0 rfl) ?_
  refine n_obj hx hb hown hts wd_210 hml hl.1 dd_P_init_1 (Nat.le_of_ble_eq_true rfl) (Nat.le_of_ble_eq_true rfl) ?_
  refine lv_aload_n hx hb dd_P_init_4 rfl (lv_at hl 0 rfl) ?_
  refine lv_sipush (v := i32 160) hx hb dd_P_init_5 (by decide +kernel) ?_
  refine n_newi (N := 160) hx hb hts hK wo_244 (by decide +kernel) (by decide +kernel) (by decide +kernel) (Nat.le_of_ble_eq_true rfl) (Nat.le_of_ble_eq_true rfl) dd_P_init_8 hC hS (fun H hC hS => ?_)
  refine W.widen (k := 1) (n := 160) (Nat.le_of_ble_eq_true rfl) (Nat.le_of_ble_eq_true rfl) ?_
  obtain ⟨cl, hC, h0, hT⟩ : ∃ cl1 : Nat → va_E, CHp D n0 (b + 2) cl1 H ∧ cl1 b = .inr (4, [.null, .int 0, .int 0, .int 0, .int 0, .int 0, .int 0, .int 0, .int 0]) ∧ ∀ j, j < b + 2 → j ≠ b → cl1 j = (TG_P ca cl0 b) j := ⟨_, hC, mk_arr h0 hT (by omega) (TGv_P_1 ca cl0 b)⟩
  refine n_putF (ci := 4) (f := 0) (ft := (.array .int)) ty_P hx hb hts hown hK in_P tyk_P nm_P rfl (by omega) h0 (by decide) (Nat.le_of_ble_eq_true rfl) rfl hin rfl (by decide +kernel) rfl rfl wd_211 dd_P_init_10 hC hS (fun H locs hC hS => ?_)
  obtain ⟨cl, hC, h0, hT⟩ : ∃ cl1 : Nat → va_E, CHp D n0 (b + 2) cl1 H ∧ cl1 b = .inr (4, [.ref (n0 + (b + 1)), .int 0, .int 0, .int 0, .int 0, .int 0, .int 0, .int 0, .int 0]) ∧ ∀ j, j < b + 2 → j ≠ b → cl1 j = (TG_P ca cl0 b) j := ⟨_, hC, mk_put hT⟩
  refine lv_aload_n hx hb dd_P_init_13 rfl (lv_at hl 0 rfl) ?_
  refine lv_iconst (v := i32 0) hx hb dd_P_init_14 rfl ?_
  refine n_put (ci := 4) (f := 1) (ft := .int) ty_P hx hb hts hown hK in_P tyk_P nm_P rfl (by omega) h0 (by decide) (Nat.le_of_ble_eq_true rfl) rfl (by decide +kernel) rfl rfl wd_213 dd_P_init_15 hC hS (fun H locs hC hS => ?_)
  obtain ⟨cl, hC, h0, hT⟩ : ∃ cl1 : Nat → va_E, CHp D n0 (b + 2) cl1 H ∧ cl1 b = .inr (4, [.ref (n0 + (b + 1)), .int (i32 0), .int 0, .int 0, .int 0, .int 0, .int 0, .int 0, .int 0]) ∧ ∀ j, j < b + 2 → j ≠ b → cl1 j = (TG_P ca cl0 b) j := ⟨_, hC, mk_put hT⟩
  refine lv_aload_n hx hb dd_P_init_18 rfl (lv_at hl 0 rfl) ?_
  refine lv_iconst (v := i32 0) hx hb dd_P_init_19 rfl ?_
  refine n_put (ci := 4) (f := 2) (ft := .int) ty_P hx hb hts hown hK in_P tyk_P nm_P rfl (by omega) h0 (by decide) (Nat.le_of_ble_eq_true rfl) rfl (by decide +kernel) rfl rfl wd_215 dd_P_init_20 hC hS (fun H locs hC hS => ?_)
  obtain ⟨cl, hC, h0, hT⟩ : ∃ cl1 : Nat → va_E, CHp D n0 (b + 2) cl1 H ∧ cl1 b = .inr (4, [.ref (n0 + (b + 1)), .int (i32 0), .int (i32 0), .int 0, .int 0, .int 0, .int 0, .int 0, .int 0]) ∧ ∀ j, j < b + 2 → j ≠ b → cl1 j = (TG_P ca cl0 b) j := ⟨_, hC, mk_put hT⟩
  refine lv_aload_n hx hb dd_P_init_23 rfl (lv_at hl 0 rfl) ?_
  refine lv_iconst (v := i32 0) hx hb dd_P_init_24 rfl ?_
  refine n_put (ci := 4) (f := 3) (ft := .int) ty_P hx hb hts hown hK in_P tyk_P nm_P rfl (by omega) h0 (by decide) (Nat.le_of_ble_eq_true rfl) rfl (by decide +kernel) rfl rfl wd_216 dd_P_init_25 hC hS (fun H locs hC hS => ?_)
  obtain ⟨cl, hC, h0, hT⟩ : ∃ cl1 : Nat → va_E, CHp D n0 (b + 2) cl1 H ∧ cl1 b = .inr (4, [.ref (n0 + (b + 1)), .int (i32 0), .int (i32 0), .int (i32 0), .int 0, .int 0, .int 0, .int 0, .int 0]) ∧ ∀ j, j < b + 2 → j ≠ b → cl1 j = (TG_P ca cl0 b) j := ⟨_, hC, mk_put hT⟩
  refine lv_aload_n hx hb dd_P_init_28 rfl (lv_at hl 0 rfl) ?_
  refine lv_iconst (v := i32 0) hx hb dd_P_init_29 rfl ?_
  refine n_put (ci := 4) (f := 4) (ft := .int) ty_P hx hb hts hown hK in_P tyk_P nm_P rfl (by omega) h0 (by decide) (Nat.le_of_ble_eq_true rfl) rfl (by decide +kernel) rfl rfl wd_217 dd_P_init_30 hC hS (fun H locs hC hS => ?_)
  obtain ⟨cl, hC, h0, hT⟩ : ∃ cl1 : Nat → va_E, CHp D n0 (b + 2) cl1 H ∧ cl1 b = .inr (4, [.ref (n0 + (b + 1)), .int (i32 0), .int (i32 0), .int (i32 0), .int (i32 0), .int 0, .int 0, .int 0, .int 0]) ∧ ∀ j, j < b + 2 → j ≠ b → cl1 j = (TG_P ca cl0 b) j := ⟨_, hC, mk_put hT⟩
  refine lv_aload_n hx hb dd_P_init_33 rfl (lv_at hl 0 rfl) ?_
  refine lv_iconst (v := i32 0) hx hb dd_P_init_34 rfl ?_
  refine n_put (ci := 4) (f := 5) (ft := .boolean) ty_P hx hb hts hown hK in_P tyk_P nm_P rfl (by omega) h0 (by decide) (Nat.le_of_ble_eq_true rfl) rfl (by decide +kernel) rfl rfl wd_218 dd_P_init_35 hC hS (fun H locs hC hS => ?_)
  obtain ⟨cl, hC, h0, hT⟩ : ∃ cl1 : Nat → va_E, CHp D n0 (b + 2) cl1 H ∧ cl1 b = .inr (4, [.ref (n0 + (b + 1)), .int (i32 0), .int (i32 0), .int (i32 0), .int (i32 0), .int (i32 0), .int 0, .int 0, .int 0]) ∧ ∀ j, j < b + 2 → j ≠ b → cl1 j = (TG_P ca cl0 b) j := ⟨_, hC, mk_put hT⟩
  refine lv_aload_n hx hb dd_P_init_38 rfl (lv_at hl 0 rfl) ?_
  refine lv_iconst (v := i32 0) hx hb dd_P_init_39 rfl ?_
  refine n_put (ci := 4) (f := 6) (ft := .boolean) ty_P hx hb hts hown hK in_P tyk_P nm_P rfl (by omega) h0 (by decide) (Nat.le_of_ble_eq_true rfl) rfl (by decide +kernel) rfl rfl wd_219 dd_P_init_40 hC hS (fun H locs hC hS => ?_)
  obtain ⟨cl, hC, h0, hT⟩ : ∃ cl1 : Nat → va_E, CHp D n0 (b + 2) cl1 H ∧ cl1 b = .inr (4, [.ref (n0 + (b + 1)), .int (i32 0), .int (i32 0), .int (i32 0), .int (i32 0), .int (i32 0), .int (i32 0), .int 0, .int 0]) ∧ ∀ j, j < b + 2 → j ≠ b → cl1 j = (TG_P ca cl0 b) j := ⟨_, hC, mk_put hT⟩
  refine lv_aload_n hx hb dd_P_init_43 rfl (lv_at hl 0 rfl) ?_
  refine lv_iconst (v := i32 0) hx hb dd_P_init_44 rfl ?_
  refine n_put (ci := 4) (f := 7) (ft := .int) ty_P hx hb hts hown hK in_P tyk_P nm_P rfl (by omega) h0 (by decide) (Nat.le_of_ble_eq_true rfl) rfl (by decide +kernel) rfl rfl wd_220 dd_P_init_45 hC hS (fun H locs hC hS => ?_)
  obtain ⟨cl, hC, h0, hT⟩ : ∃ cl1 : Nat → va_E, CHp D n0 (b + 2) cl1 H ∧ cl1 b = .inr (4, [.ref (n0 + (b + 1)), .int (i32 0), .int (i32 0), .int (i32 0), .int (i32 0), .int (i32 0), .int (i32 0), .int (i32 0), .int 0]) ∧ ∀ j, j < b + 2 → j ≠ b → cl1 j = (TG_P ca cl0 b) j := ⟨_, hC, mk_put hT⟩
  refine lv_aload_n hx hb dd_P_init_48 rfl (lv_at hl 0 rfl) ?_
  refine lv_iconst (v := i32 0) hx hb dd_P_init_49 rfl ?_
  refine n_put (ci := 4) (f := 8) (ft := .int) ty_P hx hb hts hown hK in_P tyk_P nm_P rfl (by omega) h0 (by decide) (Nat.le_of_ble_eq_true rfl) rfl (by decide +kernel) rfl rfl wd_222 dd_P_init_50 hC hS (fun H locs hC hS => ?_)
  obtain ⟨cl, hC, h0, hT⟩ : ∃ cl1 : Nat → va_E, CHp D n0 (b + 2) cl1 H ∧ cl1 b = .inr (4, [.ref (n0 + (b + 1)), .int (i32 0), .int (i32 0), .int (i32 0), .int (i32 0), .int (i32 0), .int (i32 0), .int (i32 0), .int (i32 0)]) ∧ ∀ j, j < b + 2 → j ≠ b → cl1 j = (TG_P ca cl0 b) j := ⟨_, hC, mk_put hT⟩
  exact n_vret hx hb hr hlk ⟨h0, hT⟩ hC hS dd_P_init_53
def TG_M (ca : Nat → ClassId) (cl0 : Nat → va_E) (b : Nat) : Nat → va_E := fun j => if j ≤ b then cl0 j else match j - b with
  | 1 => .inl (ca 0, 264, .inl (fun _ => 0))
  | 2 => .inl (ca 0, 44, .inl (fun _ => 0))
  | 3 => .inl (ca 0, 160, .inl (fun _ => 0))
  | 4 => .inl (ca 0, 8, .inl (va_up (va_up (va_up (va_up (va_up (va_up (va_up (va_up (fun _ => 0) 0 (i32 0)) 1 (i32 5)) 2 (i32 12)) 3 (i32 19)) 4 (i32 24)) 5 (i32 27)) 6 (i32 33)) 7 (i32 39)))
  | 5 => .inl (ca 0, 39, .inl (va_up (va_up (va_up (va_up (va_up (va_up (va_up (va_up (va_up (va_up (va_up (va_up (va_up (va_up (va_up (va_up (va_up (va_up (va_up (va_up (va_up (va_up (va_up (va_up (va_up (va_up (va_up (va_up (va_up (va_up (va_up (va_up (va_up (va_up (va_up (va_up (va_up (va_up (va_up (fun _ => 0) 0 (i32 112)) 1 (i32 108)) 2 (i32 97)) 3 (i32 105)) 4 (i32 110)) 5 (i32 97)) 6 (i32 119)) 7 (i32 107)) 8 (i32 119)) 9 (i32 97)) 10 (i32 114)) 11 (i32 100)) 12 (i32 102)) 13 (i32 101)) 14 (i32 97)) 15 (i32 116)) 16 (i32 104)) 17 (i32 101)) 18 (i32 114)) 19 (i32 99)) 20 (i32 114)) 21 (i32 97)) 22 (i32 116)) 23 (i32 101)) 24 (i32 111)) 25 (i32 110)) 26 (i32 101)) 27 (i32 104)) 28 (i32 111)) 29 (i32 111)) 30 (i32 116)) 31 (i32 101)) 32 (i32 114)) 33 (i32 98)) 34 (i32 114)) 35 (i32 105)) 36 (i32 110)) 37 (i32 103)) 38 (i32 115)))
  | 6 => .inl (ca 0, 4, .inl (fun _ => 0))
  | 7 => .inl (ca 0, 4, .inl (fun _ => 0))
  | 8 => .inl (ca 0, 18, .inl (fun _ => 0))
  | 9 => .inl (ca 0, 1764, .inl (fun _ => 0))
  | 10 => .inl (ca 1, 2, .inl (fun _ => 0))
  | 11 => .inl (ca 0, 4, .inl (va_up (va_up (va_up (va_up (fun _ => 0) 0 (i32 (-4))) 1 (i32 (-4))) 2 (i32 (-4))) 3 (i32 (-4))))
  | 12 => .inl (ca 0, 4, .inl (fun _ => 0))
  | 13 => .inl (ca 0, 160, .inl (fun _ => 0))
  | _ => cl0 j
theorem TGv_M_1 (ca : Nat → ClassId) (cl0 : Nat → va_E) (b : Nat) : TG_M ca cl0 b (b + 1) = .inl (ca 0, 264, .inl (fun _ => 0)) := by
  unfold TG_M
  rw [if_neg (by omega), show b + 1 - b = 1 by omega]
  rfl
theorem TGv_M_2 (ca : Nat → ClassId) (cl0 : Nat → va_E) (b : Nat) : TG_M ca cl0 b (b + 2) = .inl (ca 0, 44, .inl (fun _ => 0)) := by
  unfold TG_M
  rw [if_neg (by omega), show b + 2 - b = 2 by omega]
  rfl
theorem TGv_M_3 (ca : Nat → ClassId) (cl0 : Nat → va_E) (b : Nat) : TG_M ca cl0 b (b + 3) = .inl (ca 0, 160, .inl (fun _ => 0)) := by
  unfold TG_M
  rw [if_neg (by omega), show b + 3 - b = 3 by omega]
  rfl
theorem TGv_M_4 (ca : Nat → ClassId) (cl0 : Nat → va_E) (b : Nat) : TG_M ca cl0 b (b + 4) = .inl (ca 0, 8, .inl (va_up (va_up (va_up (va_up (va_up (va_up (va_up (va_up (fun _ => 0) 0 (i32 0)) 1 (i32 5)) 2 (i32 12)) 3 (i32 19)) 4 (i32 24)) 5 (i32 27)) 6 (i32 33)) 7 (i32 39))) := by
  unfold TG_M
  rw [if_neg (by omega), show b + 4 - b = 4 by omega]
  rfl
theorem TGv_M_5 (ca : Nat → ClassId) (cl0 : Nat → va_E) (b : Nat) : TG_M ca cl0 b (b + 5) = .inl (ca 0, 39, .inl (va_up (va_up (va_up (va_up (va_up (va_up (va_up (va_up (va_up (va_up (va_up (va_up (va_up (va_up (va_up (va_up (va_up (va_up (va_up (va_up (va_up (va_up (va_up (va_up (va_up (va_up (va_up (va_up (va_up (va_up (va_up (va_up (va_up (va_up (va_up (va_up (va_up (va_up (va_up (fun _ => 0) 0 (i32 112)) 1 (i32 108)) 2 (i32 97)) 3 (i32 105)) 4 (i32 110)) 5 (i32 97)) 6 (i32 119)) 7 (i32 107)) 8 (i32 119)) 9 (i32 97)) 10 (i32 114)) 11 (i32 100)) 12 (i32 102)) 13 (i32 101)) 14 (i32 97)) 15 (i32 116)) 16 (i32 104)) 17 (i32 101)) 18 (i32 114)) 19 (i32 99)) 20 (i32 114)) 21 (i32 97)) 22 (i32 116)) 23 (i32 101)) 24 (i32 111)) 25 (i32 110)) 26 (i32 101)) 27 (i32 104)) 28 (i32 111)) 29 (i32 111)) 30 (i32 116)) 31 (i32 101)) 32 (i32 114)) 33 (i32 98)) 34 (i32 114)) 35 (i32 105)) 36 (i32 110)) 37 (i32 103)) 38 (i32 115))) := by
  unfold TG_M
  rw [if_neg (by omega), show b + 5 - b = 5 by omega]
  rfl
theorem TGv_M_6 (ca : Nat → ClassId) (cl0 : Nat → va_E) (b : Nat) : TG_M ca cl0 b (b + 6) = .inl (ca 0, 4, .inl (fun _ => 0)) := by
  unfold TG_M
  rw [if_neg (by omega), show b + 6 - b = 6 by omega]
  rfl
theorem TGv_M_7 (ca : Nat → ClassId) (cl0 : Nat → va_E) (b : Nat) : TG_M ca cl0 b (b + 7) = .inl (ca 0, 4, .inl (fun _ => 0)) := by
  unfold TG_M
  rw [if_neg (by omega), show b + 7 - b = 7 by omega]
  rfl
theorem TGv_M_8 (ca : Nat → ClassId) (cl0 : Nat → va_E) (b : Nat) : TG_M ca cl0 b (b + 8) = .inl (ca 0, 18, .inl (fun _ => 0)) := by
  unfold TG_M
  rw [if_neg (by omega), show b + 8 - b = 8 by omega]
  rfl
theorem TGv_M_9 (ca : Nat → ClassId) (cl0 : Nat → va_E) (b : Nat) : TG_M ca cl0 b (b + 9) = .inl (ca 0, 1764, .inl (fun _ => 0)) := by
  unfold TG_M
  rw [if_neg (by omega), show b + 9 - b = 9 by omega]
  rfl
theorem TGv_M_10 (ca : Nat → ClassId) (cl0 : Nat → va_E) (b : Nat) : TG_M ca cl0 b (b + 10) = .inl (ca 1, 2, .inl (fun _ => 0)) := by
  unfold TG_M
  rw [if_neg (by omega), show b + 10 - b = 10 by omega]
  rfl
theorem TGv_M_11 (ca : Nat → ClassId) (cl0 : Nat → va_E) (b : Nat) : TG_M ca cl0 b (b + 11) = .inl (ca 0, 4, .inl (va_up (va_up (va_up (va_up (fun _ => 0) 0 (i32 (-4))) 1 (i32 (-4))) 2 (i32 (-4))) 3 (i32 (-4)))) := by
  unfold TG_M
  rw [if_neg (by omega), show b + 11 - b = 11 by omega]
  rfl
theorem TGv_M_12 (ca : Nat → ClassId) (cl0 : Nat → va_E) (b : Nat) : TG_M ca cl0 b (b + 12) = .inl (ca 0, 4, .inl (fun _ => 0)) := by
  unfold TG_M
  rw [if_neg (by omega), show b + 12 - b = 12 by omega]
  rfl
theorem TGv_M_13 (ca : Nat → ClassId) (cl0 : Nat → va_E) (b : Nat) : TG_M ca cl0 b (b + 13) = .inl (ca 0, 160, .inl (fun _ => 0)) := by
  unfold TG_M
  rw [if_neg (by omega), show b + 13 - b = 13 by omega]
  rfl
abbrev fin_M (n0 b : Nat) : List Value := [.ref (n0 + (b + 1)), .int 0, .ref (n0 + (b + 2)), .int 0, .int 0, .ref (n0 + (b + 3)), .int 0, .int 0, .int 0, .int 0, .int 0, .int 0, .int 0, .int 0, .ref (n0 + (b + 4)), .ref (n0 + (b + 5)), .ref (n0 + (b + 6)), .ref (n0 + (b + 7)), .int 0, .int 0, .int 0, .ref (n0 + (b + 8)), .int 0, .ref (n0 + (b + 9)), .ref (n0 + (b + 10)), .ref (n0 + (b + 11)), .ref (n0 + (b + 12)), .ref (n0 + (b + 13)), .int 0]
theorem i_M {D : va_G} {ca : Nat → ClassId} {n0 b : Nat} {cl0 : Nat → va_E} (h0 : cl0 b = .inr (7, [.null, .int 0, .null, .int 0, .int 0, .null, .int 0, .int 0, .int 0, .int 0, .int 0, .int 0, .int 0, .int 0, .null, .null, .null, .null, .int 0, .int 0, .int 0, .null, .int 0, .null, .null, .null, .null, .null, .int 0])) : NI D ca n0 mm_M_init b (b + 1) (b + 14) cl0 (fun cl1 => cl1 b = .inr (7, fin_M n0 b) ∧ ∀ j, j < b + 14 → j ≠ b → cl1 j = (TG_M ca cl0 b) j) := by
  refine n_entry pn_M rfl (Nat.le_of_ble_eq_true rfl) ?_
  intro p l e s m args below meth c ls hx hb hown hts hr hlk hin hK hC hl hml
  have hS : va_S (frN n0) s.heap s.heap [] := va_S.rf
  have hT : ∀ j, j < b + 1 → j ≠ b → cl0 j = TG_M ca cl0 b j := fun j h1 _ => by unfold TG_M; rw [if_pos (by omega)]
  refine lv_aload_n hx hb dd_M_init_0 rfl (lv_at hl 0 rfl) ?_
  refine n_obj hx hb hown hts wd_847 hml hl.1 dd_M_init_1 (Nat.le_of_ble_eq_true rfl) (Nat.le_of_ble_eq_true rfl) ?_
  refine lv_aload_n hx hb dd_M_init_4 rfl (lv_at hl 0 rfl) ?_
  refine lv_sipush (v := i32 264) hx hb dd_M_init_5 (by decide +kernel) ?_
  refine n_newi (N := 264) hx hb hts hK wo_244 (by decide +kernel) (by decide +kernel) (by decide +kernel) (Nat.le_of_ble_eq_true rfl) (Nat.le_of_ble_eq_true rfl) dd_M_init_8 hC hS (fun H hC hS => ?_)
  refine W.widen (k := 1) (n := 264) (Nat.le_of_ble_eq_true rfl) (Nat.le_of_ble_eq_true rfl) ?_
  obtain ⟨cl, hC, h0, hT⟩ : ∃ cl1 : Nat → va_E, CHp D n0 (b + 2) cl1 H ∧ cl1 b = .inr (7, [.null, .int 0, .null, .int 0, .int 0, .null, .int 0, .int 0, .int 0, .int 0, .int 0, .int 0, .int 0, .int 0, .null, .null, .null, .null, .int 0, .int 0, .int 0, .null, .int 0, .null, .null, .null, .null, .null, .int 0]) ∧ ∀ j, j < b + 2 → j ≠ b → cl1 j = (TG_M ca cl0 b) j := ⟨_, hC, mk_arr h0 hT (by omega) (TGv_M_1 ca cl0 b)⟩
  refine n_putF (ci := 7) (f := 0) (ft := (.array .int)) ty_M hx hb hts hown hK in_M tyk_M nm_M rfl (by omega) h0 (by decide) (Nat.le_of_ble_eq_true rfl) rfl hin rfl (by decide +kernel) rfl rfl wd_848 dd_M_init_10 hC hS (fun H locs hC hS => ?_)
  obtain ⟨cl, hC, h0, hT⟩ : ∃ cl1 : Nat → va_E, CHp D n0 (b + 2) cl1 H ∧ cl1 b = .inr (7, [.ref (n0 + (b + 1)), .int 0, .null, .int 0, .int 0, .null, .int 0, .int 0, .int 0, .int 0, .int 0, .int 0, .int 0, .int 0, .null, .null, .null, .null, .int 0, .int 0, .int 0, .null, .int 0, .null, .null, .null, .null, .null, .int 0]) ∧ ∀ j, j < b + 2 → j ≠ b → cl1 j = (TG_M ca cl0 b) j := ⟨_, hC, mk_put hT⟩
  refine lv_aload_n hx hb dd_M_init_13 rfl (lv_at hl 0 rfl) ?_
  refine lv_bipush (v := i32 44) hx hb dd_M_init_14 (by decide +kernel) ?_
  refine n_newi (N := 44) hx hb hts hK wo_244 (by decide +kernel) (by decide +kernel) (by decide +kernel) (Nat.le_of_ble_eq_true rfl) (Nat.le_of_ble_eq_true rfl) dd_M_init_16 hC hS (fun H hC hS => ?_)
  refine W.widen (k := 2) (n := 308) (Nat.le_of_ble_eq_true rfl) (Nat.le_of_ble_eq_true rfl) ?_
  obtain ⟨cl, hC, h0, hT⟩ : ∃ cl1 : Nat → va_E, CHp D n0 (b + 3) cl1 H ∧ cl1 b = .inr (7, [.ref (n0 + (b + 1)), .int 0, .null, .int 0, .int 0, .null, .int 0, .int 0, .int 0, .int 0, .int 0, .int 0, .int 0, .int 0, .null, .null, .null, .null, .int 0, .int 0, .int 0, .null, .int 0, .null, .null, .null, .null, .null, .int 0]) ∧ ∀ j, j < b + 3 → j ≠ b → cl1 j = (TG_M ca cl0 b) j := ⟨_, hC, mk_arr h0 hT (by omega) (TGv_M_2 ca cl0 b)⟩
  refine n_putF (ci := 7) (f := 2) (ft := (.array .int)) ty_M hx hb hts hown hK in_M tyk_M nm_M rfl (by omega) h0 (by decide) (Nat.le_of_ble_eq_true rfl) rfl hin rfl (by decide +kernel) rfl rfl wd_850 dd_M_init_18 hC hS (fun H locs hC hS => ?_)
  obtain ⟨cl, hC, h0, hT⟩ : ∃ cl1 : Nat → va_E, CHp D n0 (b + 3) cl1 H ∧ cl1 b = .inr (7, [.ref (n0 + (b + 1)), .int 0, .ref (n0 + (b + 2)), .int 0, .int 0, .null, .int 0, .int 0, .int 0, .int 0, .int 0, .int 0, .int 0, .int 0, .null, .null, .null, .null, .int 0, .int 0, .int 0, .null, .int 0, .null, .null, .null, .null, .null, .int 0]) ∧ ∀ j, j < b + 3 → j ≠ b → cl1 j = (TG_M ca cl0 b) j := ⟨_, hC, mk_put hT⟩
  refine lv_aload_n hx hb dd_M_init_21 rfl (lv_at hl 0 rfl) ?_
  refine lv_sipush (v := i32 160) hx hb dd_M_init_22 (by decide +kernel) ?_
  refine n_newi (N := 160) hx hb hts hK wo_244 (by decide +kernel) (by decide +kernel) (by decide +kernel) (Nat.le_of_ble_eq_true rfl) (Nat.le_of_ble_eq_true rfl) dd_M_init_25 hC hS (fun H hC hS => ?_)
  refine W.widen (k := 3) (n := 468) (Nat.le_of_ble_eq_true rfl) (Nat.le_of_ble_eq_true rfl) ?_
  obtain ⟨cl, hC, h0, hT⟩ : ∃ cl1 : Nat → va_E, CHp D n0 (b + 4) cl1 H ∧ cl1 b = .inr (7, [.ref (n0 + (b + 1)), .int 0, .ref (n0 + (b + 2)), .int 0, .int 0, .null, .int 0, .int 0, .int 0, .int 0, .int 0, .int 0, .int 0, .int 0, .null, .null, .null, .null, .int 0, .int 0, .int 0, .null, .int 0, .null, .null, .null, .null, .null, .int 0]) ∧ ∀ j, j < b + 4 → j ≠ b → cl1 j = (TG_M ca cl0 b) j := ⟨_, hC, mk_arr h0 hT (by omega) (TGv_M_3 ca cl0 b)⟩
  refine n_putF (ci := 7) (f := 5) (ft := (.array .int)) ty_M hx hb hts hown hK in_M tyk_M nm_M rfl (by omega) h0 (by decide) (Nat.le_of_ble_eq_true rfl) rfl hin rfl (by decide +kernel) rfl rfl wd_853 dd_M_init_27 hC hS (fun H locs hC hS => ?_)
  obtain ⟨cl, hC, h0, hT⟩ : ∃ cl1 : Nat → va_E, CHp D n0 (b + 4) cl1 H ∧ cl1 b = .inr (7, [.ref (n0 + (b + 1)), .int 0, .ref (n0 + (b + 2)), .int 0, .int 0, .ref (n0 + (b + 3)), .int 0, .int 0, .int 0, .int 0, .int 0, .int 0, .int 0, .int 0, .null, .null, .null, .null, .int 0, .int 0, .int 0, .null, .int 0, .null, .null, .null, .null, .null, .int 0]) ∧ ∀ j, j < b + 4 → j ≠ b → cl1 j = (TG_M ca cl0 b) j := ⟨_, hC, mk_put hT⟩
  refine lv_aload_n hx hb dd_M_init_30 rfl (lv_at hl 0 rfl) ?_
  refine lv_bipush (v := i32 8) hx hb dd_M_init_31 (by decide +kernel) ?_
  refine n_newi (N := 8) hx hb hts hK wo_244 (by decide +kernel) (by decide +kernel) (by decide +kernel) (Nat.le_of_ble_eq_true rfl) (Nat.le_of_ble_eq_true rfl) dd_M_init_33 hC hS (fun H hC hS => ?_)
  refine W.widen (k := 4) (n := 476) (Nat.le_of_ble_eq_true rfl) (Nat.le_of_ble_eq_true rfl) ?_
  refine lv_dup hx hb dd_M_init_35 rfl ?_
  refine lv_iconst (v := i32 0) hx hb dd_M_init_36 rfl ?_
  refine lv_iconst (v := i32 0) hx hb dd_M_init_37 rfl ?_
  refine n_iast (x := 0) (i := 0) hx hb hK (j := b + 4) (by omega) (upE_eq _ _ _) (by decide) (by decide) dd_M_init_38 hC hS (fun H locs hC hS => ?_)
  rw [upE_upE] at hC
  refine lv_dup hx hb dd_M_init_39 rfl ?_
  refine lv_iconst (v := i32 1) hx hb dd_M_init_40 rfl ?_
  refine lv_iconst (v := i32 5) hx hb dd_M_init_41 rfl ?_
  refine n_iast (x := 5) (i := 1) hx hb hK (j := b + 4) (by omega) (upE_eq _ _ _) (by decide) (by decide) dd_M_init_42 hC hS (fun H locs hC hS => ?_)
  rw [upE_upE] at hC
  refine lv_dup hx hb dd_M_init_43 rfl ?_
  refine lv_iconst (v := i32 2) hx hb dd_M_init_44 rfl ?_
  refine lv_bipush (v := i32 12) hx hb dd_M_init_45 (by decide +kernel) ?_
  refine n_iast (x := 12) (i := 2) hx hb hK (j := b + 4) (by omega) (upE_eq _ _ _) (by decide) (by decide) dd_M_init_47 hC hS (fun H locs hC hS => ?_)
  rw [upE_upE] at hC
  refine lv_dup hx hb dd_M_init_48 rfl ?_
  refine lv_iconst (v := i32 3) hx hb dd_M_init_49 rfl ?_
  refine lv_bipush (v := i32 19) hx hb dd_M_init_50 (by decide +kernel) ?_
  refine n_iast (x := 19) (i := 3) hx hb hK (j := b + 4) (by omega) (upE_eq _ _ _) (by decide) (by decide) dd_M_init_52 hC hS (fun H locs hC hS => ?_)
  rw [upE_upE] at hC
  refine lv_dup hx hb dd_M_init_53 rfl ?_
  refine lv_iconst (v := i32 4) hx hb dd_M_init_54 rfl ?_
  refine lv_bipush (v := i32 24) hx hb dd_M_init_55 (by decide +kernel) ?_
  refine n_iast (x := 24) (i := 4) hx hb hK (j := b + 4) (by omega) (upE_eq _ _ _) (by decide) (by decide) dd_M_init_57 hC hS (fun H locs hC hS => ?_)
  rw [upE_upE] at hC
  refine lv_dup hx hb dd_M_init_58 rfl ?_
  refine lv_iconst (v := i32 5) hx hb dd_M_init_59 rfl ?_
  refine lv_bipush (v := i32 27) hx hb dd_M_init_60 (by decide +kernel) ?_
  refine n_iast (x := 27) (i := 5) hx hb hK (j := b + 4) (by omega) (upE_eq _ _ _) (by decide) (by decide) dd_M_init_62 hC hS (fun H locs hC hS => ?_)
  rw [upE_upE] at hC
  refine lv_dup hx hb dd_M_init_63 rfl ?_
  refine lv_bipush (v := i32 6) hx hb dd_M_init_64 (by decide +kernel) ?_
  refine lv_bipush (v := i32 33) hx hb dd_M_init_66 (by decide +kernel) ?_
  refine n_iast (x := 33) (i := 6) hx hb hK (j := b + 4) (by omega) (upE_eq _ _ _) (by decide) (by decide) dd_M_init_68 hC hS (fun H locs hC hS => ?_)
  rw [upE_upE] at hC
  refine lv_dup hx hb dd_M_init_69 rfl ?_
  refine lv_bipush (v := i32 7) hx hb dd_M_init_70 (by decide +kernel) ?_
  refine lv_bipush (v := i32 39) hx hb dd_M_init_72 (by decide +kernel) ?_
  refine n_iast (x := 39) (i := 7) hx hb hK (j := b + 4) (by omega) (upE_eq _ _ _) (by decide) (by decide) dd_M_init_74 hC hS (fun H locs hC hS => ?_)
  rw [upE_upE] at hC
  obtain ⟨cl, hC, h0, hT⟩ : ∃ cl1 : Nat → va_E, CHp D n0 (b + 5) cl1 H ∧ cl1 b = .inr (7, [.ref (n0 + (b + 1)), .int 0, .ref (n0 + (b + 2)), .int 0, .int 0, .ref (n0 + (b + 3)), .int 0, .int 0, .int 0, .int 0, .int 0, .int 0, .int 0, .int 0, .null, .null, .null, .null, .int 0, .int 0, .int 0, .null, .int 0, .null, .null, .null, .null, .null, .int 0]) ∧ ∀ j, j < b + 5 → j ≠ b → cl1 j = (TG_M ca cl0 b) j := ⟨_, hC, mk_arr h0 hT (by omega) (TGv_M_4 ca cl0 b)⟩
  refine n_putF (ci := 7) (f := 14) (ft := (.array .int)) ty_M hx hb hts hown hK in_M tyk_M nm_M rfl (by omega) h0 (by decide) (Nat.le_of_ble_eq_true rfl) rfl hin rfl (by decide +kernel) rfl rfl wd_862 dd_M_init_75 hC hS (fun H locs hC hS => ?_)
  obtain ⟨cl, hC, h0, hT⟩ : ∃ cl1 : Nat → va_E, CHp D n0 (b + 5) cl1 H ∧ cl1 b = .inr (7, [.ref (n0 + (b + 1)), .int 0, .ref (n0 + (b + 2)), .int 0, .int 0, .ref (n0 + (b + 3)), .int 0, .int 0, .int 0, .int 0, .int 0, .int 0, .int 0, .int 0, .ref (n0 + (b + 4)), .null, .null, .null, .int 0, .int 0, .int 0, .null, .int 0, .null, .null, .null, .null, .null, .int 0]) ∧ ∀ j, j < b + 5 → j ≠ b → cl1 j = (TG_M ca cl0 b) j := ⟨_, hC, mk_put hT⟩
  refine lv_aload_n hx hb dd_M_init_78 rfl (lv_at hl 0 rfl) ?_
  refine lv_bipush (v := i32 39) hx hb dd_M_init_79 (by decide +kernel) ?_
  refine n_newi (N := 39) hx hb hts hK wo_244 (by decide +kernel) (by decide +kernel) (by decide +kernel) (Nat.le_of_ble_eq_true rfl) (Nat.le_of_ble_eq_true rfl) dd_M_init_81 hC hS (fun H hC hS => ?_)
  refine W.widen (k := 5) (n := 515) (Nat.le_of_ble_eq_true rfl) (Nat.le_of_ble_eq_true rfl) ?_
  refine lv_dup hx hb dd_M_init_83 rfl ?_
  refine lv_iconst (v := i32 0) hx hb dd_M_init_84 rfl ?_
  refine lv_bipush (v := i32 112) hx hb dd_M_init_85 (by decide +kernel) ?_
  refine n_iast (x := 112) (i := 0) hx hb hK (j := b + 5) (by omega) (upE_eq _ _ _) (by decide) (by decide) dd_M_init_87 hC hS (fun H locs hC hS => ?_)
  rw [upE_upE] at hC
  refine lv_dup hx hb dd_M_init_88 rfl ?_
  refine lv_iconst (v := i32 1) hx hb dd_M_init_89 rfl ?_
  refine lv_bipush (v := i32 108) hx hb dd_M_init_90 (by decide +kernel) ?_
  refine n_iast (x := 108) (i := 1) hx hb hK (j := b + 5) (by omega) (upE_eq _ _ _) (by decide) (by decide) dd_M_init_92 hC hS (fun H locs hC hS => ?_)
  rw [upE_upE] at hC
  refine lv_dup hx hb dd_M_init_93 rfl ?_
  refine lv_iconst (v := i32 2) hx hb dd_M_init_94 rfl ?_
  refine lv_bipush (v := i32 97) hx hb dd_M_init_95 (by decide +kernel) ?_
  refine n_iast (x := 97) (i := 2) hx hb hK (j := b + 5) (by omega) (upE_eq _ _ _) (by decide) (by decide) dd_M_init_97 hC hS (fun H locs hC hS => ?_)
  rw [upE_upE] at hC
  refine lv_dup hx hb dd_M_init_98 rfl ?_
  refine lv_iconst (v := i32 3) hx hb dd_M_init_99 rfl ?_
  refine lv_bipush (v := i32 105) hx hb dd_M_init_100 (by decide +kernel) ?_
  refine n_iast (x := 105) (i := 3) hx hb hK (j := b + 5) (by omega) (upE_eq _ _ _) (by decide) (by decide) dd_M_init_102 hC hS (fun H locs hC hS => ?_)
  rw [upE_upE] at hC
  refine lv_dup hx hb dd_M_init_103 rfl ?_
  refine lv_iconst (v := i32 4) hx hb dd_M_init_104 rfl ?_
  refine lv_bipush (v := i32 110) hx hb dd_M_init_105 (by decide +kernel) ?_
  refine n_iast (x := 110) (i := 4) hx hb hK (j := b + 5) (by omega) (upE_eq _ _ _) (by decide) (by decide) dd_M_init_107 hC hS (fun H locs hC hS => ?_)
  rw [upE_upE] at hC
  refine lv_dup hx hb dd_M_init_108 rfl ?_
  refine lv_iconst (v := i32 5) hx hb dd_M_init_109 rfl ?_
  refine lv_bipush (v := i32 97) hx hb dd_M_init_110 (by decide +kernel) ?_
  refine n_iast (x := 97) (i := 5) hx hb hK (j := b + 5) (by omega) (upE_eq _ _ _) (by decide) (by decide) dd_M_init_112 hC hS (fun H locs hC hS => ?_)
  rw [upE_upE] at hC
  refine lv_dup hx hb dd_M_init_113 rfl ?_
  refine lv_bipush (v := i32 6) hx hb dd_M_init_114 (by decide +kernel) ?_
  refine lv_bipush (v := i32 119) hx hb dd_M_init_116 (by decide +kernel) ?_
  refine n_iast (x := 119) (i := 6) hx hb hK (j := b + 5) (by omega) (upE_eq _ _ _) (by decide) (by decide) dd_M_init_118 hC hS (fun H locs hC hS => ?_)
  rw [upE_upE] at hC
  refine lv_dup hx hb dd_M_init_119 rfl ?_
  refine lv_bipush (v := i32 7) hx hb dd_M_init_120 (by decide +kernel) ?_
  refine lv_bipush (v := i32 107) hx hb dd_M_init_122 (by decide +kernel) ?_
  refine n_iast (x := 107) (i := 7) hx hb hK (j := b + 5) (by omega) (upE_eq _ _ _) (by decide) (by decide) dd_M_init_124 hC hS (fun H locs hC hS => ?_)
  rw [upE_upE] at hC
  refine lv_dup hx hb dd_M_init_125 rfl ?_
  refine lv_bipush (v := i32 8) hx hb dd_M_init_126 (by decide +kernel) ?_
  refine lv_bipush (v := i32 119) hx hb dd_M_init_128 (by decide +kernel) ?_
  refine n_iast (x := 119) (i := 8) hx hb hK (j := b + 5) (by omega) (upE_eq _ _ _) (by decide) (by decide) dd_M_init_130 hC hS (fun H locs hC hS => ?_)
  rw [upE_upE] at hC
  refine lv_dup hx hb dd_M_init_131 rfl ?_
  refine lv_bipush (v := i32 9) hx hb dd_M_init_132 (by decide +kernel) ?_
  refine lv_bipush (v := i32 97) hx hb dd_M_init_134 (by decide +kernel) ?_
  refine n_iast (x := 97) (i := 9) hx hb hK (j := b + 5) (by omega) (upE_eq _ _ _) (by decide) (by decide) dd_M_init_136 hC hS (fun H locs hC hS => ?_)
  rw [upE_upE] at hC
  refine lv_dup hx hb dd_M_init_137 rfl ?_
  refine lv_bipush (v := i32 10) hx hb dd_M_init_138 (by decide +kernel) ?_
  refine lv_bipush (v := i32 114) hx hb dd_M_init_140 (by decide +kernel) ?_
  refine n_iast (x := 114) (i := 10) hx hb hK (j := b + 5) (by omega) (upE_eq _ _ _) (by decide) (by decide) dd_M_init_142 hC hS (fun H locs hC hS => ?_)
  rw [upE_upE] at hC
  refine lv_dup hx hb dd_M_init_143 rfl ?_
  refine lv_bipush (v := i32 11) hx hb dd_M_init_144 (by decide +kernel) ?_
  refine lv_bipush (v := i32 100) hx hb dd_M_init_146 (by decide +kernel) ?_
  refine n_iast (x := 100) (i := 11) hx hb hK (j := b + 5) (by omega) (upE_eq _ _ _) (by decide) (by decide) dd_M_init_148 hC hS (fun H locs hC hS => ?_)
  rw [upE_upE] at hC
  refine lv_dup hx hb dd_M_init_149 rfl ?_
  refine lv_bipush (v := i32 12) hx hb dd_M_init_150 (by decide +kernel) ?_
  refine lv_bipush (v := i32 102) hx hb dd_M_init_152 (by decide +kernel) ?_
  refine n_iast (x := 102) (i := 12) hx hb hK (j := b + 5) (by omega) (upE_eq _ _ _) (by decide) (by decide) dd_M_init_154 hC hS (fun H locs hC hS => ?_)
  rw [upE_upE] at hC
  refine lv_dup hx hb dd_M_init_155 rfl ?_
  refine lv_bipush (v := i32 13) hx hb dd_M_init_156 (by decide +kernel) ?_
  refine lv_bipush (v := i32 101) hx hb dd_M_init_158 (by decide +kernel) ?_
  refine n_iast (x := 101) (i := 13) hx hb hK (j := b + 5) (by omega) (upE_eq _ _ _) (by decide) (by decide) dd_M_init_160 hC hS (fun H locs hC hS => ?_)
  rw [upE_upE] at hC
  refine lv_dup hx hb dd_M_init_161 rfl ?_
  refine lv_bipush (v := i32 14) hx hb dd_M_init_162 (by decide +kernel) ?_
  refine lv_bipush (v := i32 97) hx hb dd_M_init_164 (by decide +kernel) ?_
  refine n_iast (x := 97) (i := 14) hx hb hK (j := b + 5) (by omega) (upE_eq _ _ _) (by decide) (by decide) dd_M_init_166 hC hS (fun H locs hC hS => ?_)
  rw [upE_upE] at hC
  refine lv_dup hx hb dd_M_init_167 rfl ?_
  refine lv_bipush (v := i32 15) hx hb dd_M_init_168 (by decide +kernel) ?_
  refine lv_bipush (v := i32 116) hx hb dd_M_init_170 (by decide +kernel) ?_
  refine n_iast (x := 116) (i := 15) hx hb hK (j := b + 5) (by omega) (upE_eq _ _ _) (by decide) (by decide) dd_M_init_172 hC hS (fun H locs hC hS => ?_)
  rw [upE_upE] at hC
  refine lv_dup hx hb dd_M_init_173 rfl ?_
  refine lv_bipush (v := i32 16) hx hb dd_M_init_174 (by decide +kernel) ?_
  refine lv_bipush (v := i32 104) hx hb dd_M_init_176 (by decide +kernel) ?_
  refine n_iast (x := 104) (i := 16) hx hb hK (j := b + 5) (by omega) (upE_eq _ _ _) (by decide) (by decide) dd_M_init_178 hC hS (fun H locs hC hS => ?_)
  rw [upE_upE] at hC
  refine lv_dup hx hb dd_M_init_179 rfl ?_
  refine lv_bipush (v := i32 17) hx hb dd_M_init_180 (by decide +kernel) ?_
  refine lv_bipush (v := i32 101) hx hb dd_M_init_182 (by decide +kernel) ?_
  refine n_iast (x := 101) (i := 17) hx hb hK (j := b + 5) (by omega) (upE_eq _ _ _) (by decide) (by decide) dd_M_init_184 hC hS (fun H locs hC hS => ?_)
  rw [upE_upE] at hC
  refine lv_dup hx hb dd_M_init_185 rfl ?_
  refine lv_bipush (v := i32 18) hx hb dd_M_init_186 (by decide +kernel) ?_
  refine lv_bipush (v := i32 114) hx hb dd_M_init_188 (by decide +kernel) ?_
  refine n_iast (x := 114) (i := 18) hx hb hK (j := b + 5) (by omega) (upE_eq _ _ _) (by decide) (by decide) dd_M_init_190 hC hS (fun H locs hC hS => ?_)
  rw [upE_upE] at hC
  refine lv_dup hx hb dd_M_init_191 rfl ?_
  refine lv_bipush (v := i32 19) hx hb dd_M_init_192 (by decide +kernel) ?_
  refine lv_bipush (v := i32 99) hx hb dd_M_init_194 (by decide +kernel) ?_
  refine n_iast (x := 99) (i := 19) hx hb hK (j := b + 5) (by omega) (upE_eq _ _ _) (by decide) (by decide) dd_M_init_196 hC hS (fun H locs hC hS => ?_)
  rw [upE_upE] at hC
  refine lv_dup hx hb dd_M_init_197 rfl ?_
  refine lv_bipush (v := i32 20) hx hb dd_M_init_198 (by decide +kernel) ?_
  refine lv_bipush (v := i32 114) hx hb dd_M_init_200 (by decide +kernel) ?_
  refine n_iast (x := 114) (i := 20) hx hb hK (j := b + 5) (by omega) (upE_eq _ _ _) (by decide) (by decide) dd_M_init_202 hC hS (fun H locs hC hS => ?_)
  rw [upE_upE] at hC
  refine lv_dup hx hb dd_M_init_203 rfl ?_
  refine lv_bipush (v := i32 21) hx hb dd_M_init_204 (by decide +kernel) ?_
  refine lv_bipush (v := i32 97) hx hb dd_M_init_206 (by decide +kernel) ?_
  refine n_iast (x := 97) (i := 21) hx hb hK (j := b + 5) (by omega) (upE_eq _ _ _) (by decide) (by decide) dd_M_init_208 hC hS (fun H locs hC hS => ?_)
  rw [upE_upE] at hC
  refine lv_dup hx hb dd_M_init_209 rfl ?_
  refine lv_bipush (v := i32 22) hx hb dd_M_init_210 (by decide +kernel) ?_
  refine lv_bipush (v := i32 116) hx hb dd_M_init_212 (by decide +kernel) ?_
  refine n_iast (x := 116) (i := 22) hx hb hK (j := b + 5) (by omega) (upE_eq _ _ _) (by decide) (by decide) dd_M_init_214 hC hS (fun H locs hC hS => ?_)
  rw [upE_upE] at hC
  refine lv_dup hx hb dd_M_init_215 rfl ?_
  refine lv_bipush (v := i32 23) hx hb dd_M_init_216 (by decide +kernel) ?_
  refine lv_bipush (v := i32 101) hx hb dd_M_init_218 (by decide +kernel) ?_
  refine n_iast (x := 101) (i := 23) hx hb hK (j := b + 5) (by omega) (upE_eq _ _ _) (by decide) (by decide) dd_M_init_220 hC hS (fun H locs hC hS => ?_)
  rw [upE_upE] at hC
  refine lv_dup hx hb dd_M_init_221 rfl ?_
  refine lv_bipush (v := i32 24) hx hb dd_M_init_222 (by decide +kernel) ?_
  refine lv_bipush (v := i32 111) hx hb dd_M_init_224 (by decide +kernel) ?_
  refine n_iast (x := 111) (i := 24) hx hb hK (j := b + 5) (by omega) (upE_eq _ _ _) (by decide) (by decide) dd_M_init_226 hC hS (fun H locs hC hS => ?_)
  rw [upE_upE] at hC
  refine lv_dup hx hb dd_M_init_227 rfl ?_
  refine lv_bipush (v := i32 25) hx hb dd_M_init_228 (by decide +kernel) ?_
  refine lv_bipush (v := i32 110) hx hb dd_M_init_230 (by decide +kernel) ?_
  refine n_iast (x := 110) (i := 25) hx hb hK (j := b + 5) (by omega) (upE_eq _ _ _) (by decide) (by decide) dd_M_init_232 hC hS (fun H locs hC hS => ?_)
  rw [upE_upE] at hC
  refine lv_dup hx hb dd_M_init_233 rfl ?_
  refine lv_bipush (v := i32 26) hx hb dd_M_init_234 (by decide +kernel) ?_
  refine lv_bipush (v := i32 101) hx hb dd_M_init_236 (by decide +kernel) ?_
  refine n_iast (x := 101) (i := 26) hx hb hK (j := b + 5) (by omega) (upE_eq _ _ _) (by decide) (by decide) dd_M_init_238 hC hS (fun H locs hC hS => ?_)
  rw [upE_upE] at hC
  refine lv_dup hx hb dd_M_init_239 rfl ?_
  refine lv_bipush (v := i32 27) hx hb dd_M_init_240 (by decide +kernel) ?_
  refine lv_bipush (v := i32 104) hx hb dd_M_init_242 (by decide +kernel) ?_
  refine n_iast (x := 104) (i := 27) hx hb hK (j := b + 5) (by omega) (upE_eq _ _ _) (by decide) (by decide) dd_M_init_244 hC hS (fun H locs hC hS => ?_)
  rw [upE_upE] at hC
  refine lv_dup hx hb dd_M_init_245 rfl ?_
  refine lv_bipush (v := i32 28) hx hb dd_M_init_246 (by decide +kernel) ?_
  refine lv_bipush (v := i32 111) hx hb dd_M_init_248 (by decide +kernel) ?_
  refine n_iast (x := 111) (i := 28) hx hb hK (j := b + 5) (by omega) (upE_eq _ _ _) (by decide) (by decide) dd_M_init_250 hC hS (fun H locs hC hS => ?_)
  rw [upE_upE] at hC
  refine lv_dup hx hb dd_M_init_251 rfl ?_
  refine lv_bipush (v := i32 29) hx hb dd_M_init_252 (by decide +kernel) ?_
  refine lv_bipush (v := i32 111) hx hb dd_M_init_254 (by decide +kernel) ?_
  refine n_iast (x := 111) (i := 29) hx hb hK (j := b + 5) (by omega) (upE_eq _ _ _) (by decide) (by decide) dd_M_init_256 hC hS (fun H locs hC hS => ?_)
  rw [upE_upE] at hC
  refine lv_dup hx hb dd_M_init_257 rfl ?_
  refine lv_bipush (v := i32 30) hx hb dd_M_init_258 (by decide +kernel) ?_
  refine lv_bipush (v := i32 116) hx hb dd_M_init_260 (by decide +kernel) ?_
  refine n_iast (x := 116) (i := 30) hx hb hK (j := b + 5) (by omega) (upE_eq _ _ _) (by decide) (by decide) dd_M_init_262 hC hS (fun H locs hC hS => ?_)
  rw [upE_upE] at hC
  refine lv_dup hx hb dd_M_init_263 rfl ?_
  refine lv_bipush (v := i32 31) hx hb dd_M_init_264 (by decide +kernel) ?_
  refine lv_bipush (v := i32 101) hx hb dd_M_init_266 (by decide +kernel) ?_
  refine n_iast (x := 101) (i := 31) hx hb hK (j := b + 5) (by omega) (upE_eq _ _ _) (by decide) (by decide) dd_M_init_268 hC hS (fun H locs hC hS => ?_)
  rw [upE_upE] at hC
  refine lv_dup hx hb dd_M_init_269 rfl ?_
  refine lv_bipush (v := i32 32) hx hb dd_M_init_270 (by decide +kernel) ?_
  refine lv_bipush (v := i32 114) hx hb dd_M_init_272 (by decide +kernel) ?_
  refine n_iast (x := 114) (i := 32) hx hb hK (j := b + 5) (by omega) (upE_eq _ _ _) (by decide) (by decide) dd_M_init_274 hC hS (fun H locs hC hS => ?_)
  rw [upE_upE] at hC
  refine lv_dup hx hb dd_M_init_275 rfl ?_
  refine lv_bipush (v := i32 33) hx hb dd_M_init_276 (by decide +kernel) ?_
  refine lv_bipush (v := i32 98) hx hb dd_M_init_278 (by decide +kernel) ?_
  refine n_iast (x := 98) (i := 33) hx hb hK (j := b + 5) (by omega) (upE_eq _ _ _) (by decide) (by decide) dd_M_init_280 hC hS (fun H locs hC hS => ?_)
  rw [upE_upE] at hC
  refine lv_dup hx hb dd_M_init_281 rfl ?_
  refine lv_bipush (v := i32 34) hx hb dd_M_init_282 (by decide +kernel) ?_
  refine lv_bipush (v := i32 114) hx hb dd_M_init_284 (by decide +kernel) ?_
  refine n_iast (x := 114) (i := 34) hx hb hK (j := b + 5) (by omega) (upE_eq _ _ _) (by decide) (by decide) dd_M_init_286 hC hS (fun H locs hC hS => ?_)
  rw [upE_upE] at hC
  refine lv_dup hx hb dd_M_init_287 rfl ?_
  refine lv_bipush (v := i32 35) hx hb dd_M_init_288 (by decide +kernel) ?_
  refine lv_bipush (v := i32 105) hx hb dd_M_init_290 (by decide +kernel) ?_
  refine n_iast (x := 105) (i := 35) hx hb hK (j := b + 5) (by omega) (upE_eq _ _ _) (by decide) (by decide) dd_M_init_292 hC hS (fun H locs hC hS => ?_)
  rw [upE_upE] at hC
  refine lv_dup hx hb dd_M_init_293 rfl ?_
  refine lv_bipush (v := i32 36) hx hb dd_M_init_294 (by decide +kernel) ?_
  refine lv_bipush (v := i32 110) hx hb dd_M_init_296 (by decide +kernel) ?_
  refine n_iast (x := 110) (i := 36) hx hb hK (j := b + 5) (by omega) (upE_eq _ _ _) (by decide) (by decide) dd_M_init_298 hC hS (fun H locs hC hS => ?_)
  rw [upE_upE] at hC
  refine lv_dup hx hb dd_M_init_299 rfl ?_
  refine lv_bipush (v := i32 37) hx hb dd_M_init_300 (by decide +kernel) ?_
  refine lv_bipush (v := i32 103) hx hb dd_M_init_302 (by decide +kernel) ?_
  refine n_iast (x := 103) (i := 37) hx hb hK (j := b + 5) (by omega) (upE_eq _ _ _) (by decide) (by decide) dd_M_init_304 hC hS (fun H locs hC hS => ?_)
  rw [upE_upE] at hC
  refine lv_dup hx hb dd_M_init_305 rfl ?_
  refine lv_bipush (v := i32 38) hx hb dd_M_init_306 (by decide +kernel) ?_
  refine lv_bipush (v := i32 115) hx hb dd_M_init_308 (by decide +kernel) ?_
  refine n_iast (x := 115) (i := 38) hx hb hK (j := b + 5) (by omega) (upE_eq _ _ _) (by decide) (by decide) dd_M_init_310 hC hS (fun H locs hC hS => ?_)
  rw [upE_upE] at hC
  obtain ⟨cl, hC, h0, hT⟩ : ∃ cl1 : Nat → va_E, CHp D n0 (b + 6) cl1 H ∧ cl1 b = .inr (7, [.ref (n0 + (b + 1)), .int 0, .ref (n0 + (b + 2)), .int 0, .int 0, .ref (n0 + (b + 3)), .int 0, .int 0, .int 0, .int 0, .int 0, .int 0, .int 0, .int 0, .ref (n0 + (b + 4)), .null, .null, .null, .int 0, .int 0, .int 0, .null, .int 0, .null, .null, .null, .null, .null, .int 0]) ∧ ∀ j, j < b + 6 → j ≠ b → cl1 j = (TG_M ca cl0 b) j := ⟨_, hC, mk_arr h0 hT (by omega) (TGv_M_5 ca cl0 b)⟩
  refine n_putF (ci := 7) (f := 15) (ft := (.array .int)) ty_M hx hb hts hown hK in_M tyk_M nm_M rfl (by omega) h0 (by decide) (Nat.le_of_ble_eq_true rfl) rfl hin rfl (by decide +kernel) rfl rfl wd_863 dd_M_init_311 hC hS (fun H locs hC hS => ?_)
  obtain ⟨cl, hC, h0, hT⟩ : ∃ cl1 : Nat → va_E, CHp D n0 (b + 6) cl1 H ∧ cl1 b = .inr (7, [.ref (n0 + (b + 1)), .int 0, .ref (n0 + (b + 2)), .int 0, .int 0, .ref (n0 + (b + 3)), .int 0, .int 0, .int 0, .int 0, .int 0, .int 0, .int 0, .int 0, .ref (n0 + (b + 4)), .ref (n0 + (b + 5)), .null, .null, .int 0, .int 0, .int 0, .null, .int 0, .null, .null, .null, .null, .null, .int 0]) ∧ ∀ j, j < b + 6 → j ≠ b → cl1 j = (TG_M ca cl0 b) j := ⟨_, hC, mk_put hT⟩
  refine lv_aload_n hx hb dd_M_init_314 rfl (lv_at hl 0 rfl) ?_
  refine lv_iconst (v := i32 4) hx hb dd_M_init_315 rfl ?_
  refine n_newi (N := 4) hx hb hts hK wo_244 (by decide +kernel) (by decide +kernel) (by decide +kernel) (Nat.le_of_ble_eq_true rfl) (Nat.le_of_ble_eq_true rfl) dd_M_init_316 hC hS (fun H hC hS => ?_)
  refine W.widen (k := 6) (n := 519) (Nat.le_of_ble_eq_true rfl) (Nat.le_of_ble_eq_true rfl) ?_
  obtain ⟨cl, hC, h0, hT⟩ : ∃ cl1 : Nat → va_E, CHp D n0 (b + 7) cl1 H ∧ cl1 b = .inr (7, [.ref (n0 + (b + 1)), .int 0, .ref (n0 + (b + 2)), .int 0, .int 0, .ref (n0 + (b + 3)), .int 0, .int 0, .int 0, .int 0, .int 0, .int 0, .int 0, .int 0, .ref (n0 + (b + 4)), .ref (n0 + (b + 5)), .null, .null, .int 0, .int 0, .int 0, .null, .int 0, .null, .null, .null, .null, .null, .int 0]) ∧ ∀ j, j < b + 7 → j ≠ b → cl1 j = (TG_M ca cl0 b) j := ⟨_, hC, mk_arr h0 hT (by omega) (TGv_M_6 ca cl0 b)⟩
  refine n_putF (ci := 7) (f := 16) (ft := (.array .int)) ty_M hx hb hts hown hK in_M tyk_M nm_M rfl (by omega) h0 (by decide) (Nat.le_of_ble_eq_true rfl) rfl hin rfl (by decide +kernel) rfl rfl wd_864 dd_M_init_318 hC hS (fun H locs hC hS => ?_)
  obtain ⟨cl, hC, h0, hT⟩ : ∃ cl1 : Nat → va_E, CHp D n0 (b + 7) cl1 H ∧ cl1 b = .inr (7, [.ref (n0 + (b + 1)), .int 0, .ref (n0 + (b + 2)), .int 0, .int 0, .ref (n0 + (b + 3)), .int 0, .int 0, .int 0, .int 0, .int 0, .int 0, .int 0, .int 0, .ref (n0 + (b + 4)), .ref (n0 + (b + 5)), .ref (n0 + (b + 6)), .null, .int 0, .int 0, .int 0, .null, .int 0, .null, .null, .null, .null, .null, .int 0]) ∧ ∀ j, j < b + 7 → j ≠ b → cl1 j = (TG_M ca cl0 b) j := ⟨_, hC, mk_put hT⟩
  refine lv_aload_n hx hb dd_M_init_321 rfl (lv_at hl 0 rfl) ?_
  refine lv_iconst (v := i32 4) hx hb dd_M_init_322 rfl ?_
  refine n_newi (N := 4) hx hb hts hK wo_244 (by decide +kernel) (by decide +kernel) (by decide +kernel) (Nat.le_of_ble_eq_true rfl) (Nat.le_of_ble_eq_true rfl) dd_M_init_323 hC hS (fun H hC hS => ?_)
  refine W.widen (k := 7) (n := 523) (Nat.le_of_ble_eq_true rfl) (Nat.le_of_ble_eq_true rfl) ?_
  obtain ⟨cl, hC, h0, hT⟩ : ∃ cl1 : Nat → va_E, CHp D n0 (b + 8) cl1 H ∧ cl1 b = .inr (7, [.ref (n0 + (b + 1)), .int 0, .ref (n0 + (b + 2)), .int 0, .int 0, .ref (n0 + (b + 3)), .int 0, .int 0, .int 0, .int 0, .int 0, .int 0, .int 0, .int 0, .ref (n0 + (b + 4)), .ref (n0 + (b + 5)), .ref (n0 + (b + 6)), .null, .int 0, .int 0, .int 0, .null, .int 0, .null, .null, .null, .null, .null, .int 0]) ∧ ∀ j, j < b + 8 → j ≠ b → cl1 j = (TG_M ca cl0 b) j := ⟨_, hC, mk_arr h0 hT (by omega) (TGv_M_7 ca cl0 b)⟩
  refine n_putF (ci := 7) (f := 17) (ft := (.array .int)) ty_M hx hb hts hown hK in_M tyk_M nm_M rfl (by omega) h0 (by decide) (Nat.le_of_ble_eq_true rfl) rfl hin rfl (by decide +kernel) rfl rfl wd_865 dd_M_init_325 hC hS (fun H locs hC hS => ?_)
  obtain ⟨cl, hC, h0, hT⟩ : ∃ cl1 : Nat → va_E, CHp D n0 (b + 8) cl1 H ∧ cl1 b = .inr (7, [.ref (n0 + (b + 1)), .int 0, .ref (n0 + (b + 2)), .int 0, .int 0, .ref (n0 + (b + 3)), .int 0, .int 0, .int 0, .int 0, .int 0, .int 0, .int 0, .int 0, .ref (n0 + (b + 4)), .ref (n0 + (b + 5)), .ref (n0 + (b + 6)), .ref (n0 + (b + 7)), .int 0, .int 0, .int 0, .null, .int 0, .null, .null, .null, .null, .null, .int 0]) ∧ ∀ j, j < b + 8 → j ≠ b → cl1 j = (TG_M ca cl0 b) j := ⟨_, hC, mk_put hT⟩
  refine lv_aload_n hx hb dd_M_init_328 rfl (lv_at hl 0 rfl) ?_
  refine lv_bipush (v := i32 18) hx hb dd_M_init_329 (by decide +kernel) ?_
  refine n_newi (N := 18) hx hb hts hK wo_244 (by decide +kernel) (by decide +kernel) (by decide +kernel) (Nat.le_of_ble_eq_true rfl) (Nat.le_of_ble_eq_true rfl) dd_M_init_331 hC hS (fun H hC hS => ?_)
  refine W.widen (k := 8) (n := 541) (Nat.le_of_ble_eq_true rfl) (Nat.le_of_ble_eq_true rfl) ?_
  obtain ⟨cl, hC, h0, hT⟩ : ∃ cl1 : Nat → va_E, CHp D n0 (b + 9) cl1 H ∧ cl1 b = .inr (7, [.ref (n0 + (b + 1)), .int 0, .ref (n0 + (b + 2)), .int 0, .int 0, .ref (n0 + (b + 3)), .int 0, .int 0, .int 0, .int 0, .int 0, .int 0, .int 0, .int 0, .ref (n0 + (b + 4)), .ref (n0 + (b + 5)), .ref (n0 + (b + 6)), .ref (n0 + (b + 7)), .int 0, .int 0, .int 0, .null, .int 0, .null, .null, .null, .null, .null, .int 0]) ∧ ∀ j, j < b + 9 → j ≠ b → cl1 j = (TG_M ca cl0 b) j := ⟨_, hC, mk_arr h0 hT (by omega) (TGv_M_8 ca cl0 b)⟩
  refine n_putF (ci := 7) (f := 21) (ft := (.array .int)) ty_M hx hb hts hown hK in_M tyk_M nm_M rfl (by omega) h0 (by decide) (Nat.le_of_ble_eq_true rfl) rfl hin rfl (by decide +kernel) rfl rfl wd_869 dd_M_init_333 hC hS (fun H locs hC hS => ?_)
  obtain ⟨cl, hC, h0, hT⟩ : ∃ cl1 : Nat → va_E, CHp D n0 (b + 9) cl1 H ∧ cl1 b = .inr (7, [.ref (n0 + (b + 1)), .int 0, .ref (n0 + (b + 2)), .int 0, .int 0, .ref (n0 + (b + 3)), .int 0, .int 0, .int 0, .int 0, .int 0, .int 0, .int 0, .int 0, .ref (n0 + (b + 4)), .ref (n0 + (b + 5)), .ref (n0 + (b + 6)), .ref (n0 + (b + 7)), .int 0, .int 0, .int 0, .ref (n0 + (b + 8)), .int 0, .null, .null, .null, .null, .null, .int 0]) ∧ ∀ j, j < b + 9 → j ≠ b → cl1 j = (TG_M ca cl0 b) j := ⟨_, hC, mk_put hT⟩
  refine lv_aload_n hx hb dd_M_init_336 rfl (lv_at hl 0 rfl) ?_
  refine lv_sipush (v := i32 1764) hx hb dd_M_init_337 (by decide +kernel) ?_
  refine n_newi (N := 1764) hx hb hts hK wo_244 (by decide +kernel) (by decide +kernel) (by decide +kernel) (Nat.le_of_ble_eq_true rfl) (Nat.le_of_ble_eq_true rfl) dd_M_init_340 hC hS (fun H hC hS => ?_)
  refine W.widen (k := 9) (n := 2305) (Nat.le_of_ble_eq_true rfl) (Nat.le_of_ble_eq_true rfl) ?_
  obtain ⟨cl, hC, h0, hT⟩ : ∃ cl1 : Nat → va_E, CHp D n0 (b + 10) cl1 H ∧ cl1 b = .inr (7, [.ref (n0 + (b + 1)), .int 0, .ref (n0 + (b + 2)), .int 0, .int 0, .ref (n0 + (b + 3)), .int 0, .int 0, .int 0, .int 0, .int 0, .int 0, .int 0, .int 0, .ref (n0 + (b + 4)), .ref (n0 + (b + 5)), .ref (n0 + (b + 6)), .ref (n0 + (b + 7)), .int 0, .int 0, .int 0, .ref (n0 + (b + 8)), .int 0, .null, .null, .null, .null, .null, .int 0]) ∧ ∀ j, j < b + 10 → j ≠ b → cl1 j = (TG_M ca cl0 b) j := ⟨_, hC, mk_arr h0 hT (by omega) (TGv_M_9 ca cl0 b)⟩
  refine n_putF (ci := 7) (f := 23) (ft := (.array .int)) ty_M hx hb hts hown hK in_M tyk_M nm_M rfl (by omega) h0 (by decide) (Nat.le_of_ble_eq_true rfl) rfl hin rfl (by decide +kernel) rfl rfl wd_871 dd_M_init_342 hC hS (fun H locs hC hS => ?_)
  obtain ⟨cl, hC, h0, hT⟩ : ∃ cl1 : Nat → va_E, CHp D n0 (b + 10) cl1 H ∧ cl1 b = .inr (7, [.ref (n0 + (b + 1)), .int 0, .ref (n0 + (b + 2)), .int 0, .int 0, .ref (n0 + (b + 3)), .int 0, .int 0, .int 0, .int 0, .int 0, .int 0, .int 0, .int 0, .ref (n0 + (b + 4)), .ref (n0 + (b + 5)), .ref (n0 + (b + 6)), .ref (n0 + (b + 7)), .int 0, .int 0, .int 0, .ref (n0 + (b + 8)), .int 0, .ref (n0 + (b + 9)), .null, .null, .null, .null, .int 0]) ∧ ∀ j, j < b + 10 → j ≠ b → cl1 j = (TG_M ca cl0 b) j := ⟨_, hC, mk_put hT⟩
  refine lv_aload_n hx hb dd_M_init_345 rfl (lv_at hl 0 rfl) ?_
  refine lv_iconst (v := i32 2) hx hb dd_M_init_346 rfl ?_
  refine n_newz (N := 2) hx hb hts hK wo_243 (by decide +kernel) (by decide +kernel) (by decide +kernel) (Nat.le_of_ble_eq_true rfl) (Nat.le_of_ble_eq_true rfl) dd_M_init_347 hC hS (fun H hC hS => ?_)
  refine W.widen (k := 10) (n := 2307) (Nat.le_of_ble_eq_true rfl) (Nat.le_of_ble_eq_true rfl) ?_
  obtain ⟨cl, hC, h0, hT⟩ : ∃ cl1 : Nat → va_E, CHp D n0 (b + 11) cl1 H ∧ cl1 b = .inr (7, [.ref (n0 + (b + 1)), .int 0, .ref (n0 + (b + 2)), .int 0, .int 0, .ref (n0 + (b + 3)), .int 0, .int 0, .int 0, .int 0, .int 0, .int 0, .int 0, .int 0, .ref (n0 + (b + 4)), .ref (n0 + (b + 5)), .ref (n0 + (b + 6)), .ref (n0 + (b + 7)), .int 0, .int 0, .int 0, .ref (n0 + (b + 8)), .int 0, .ref (n0 + (b + 9)), .null, .null, .null, .null, .int 0]) ∧ ∀ j, j < b + 11 → j ≠ b → cl1 j = (TG_M ca cl0 b) j := ⟨_, hC, mk_arr h0 hT (by omega) (TGv_M_10 ca cl0 b)⟩
  refine n_putF (ci := 7) (f := 24) (ft := (.array .boolean)) ty_M hx hb hts hown hK in_M tyk_M nm_M rfl (by omega) h0 (by decide) (Nat.le_of_ble_eq_true rfl) rfl hin rfl (by decide +kernel) rfl rfl wd_872 dd_M_init_349 hC hS (fun H locs hC hS => ?_)
  obtain ⟨cl, hC, h0, hT⟩ : ∃ cl1 : Nat → va_E, CHp D n0 (b + 11) cl1 H ∧ cl1 b = .inr (7, [.ref (n0 + (b + 1)), .int 0, .ref (n0 + (b + 2)), .int 0, .int 0, .ref (n0 + (b + 3)), .int 0, .int 0, .int 0, .int 0, .int 0, .int 0, .int 0, .int 0, .ref (n0 + (b + 4)), .ref (n0 + (b + 5)), .ref (n0 + (b + 6)), .ref (n0 + (b + 7)), .int 0, .int 0, .int 0, .ref (n0 + (b + 8)), .int 0, .ref (n0 + (b + 9)), .ref (n0 + (b + 10)), .null, .null, .null, .int 0]) ∧ ∀ j, j < b + 11 → j ≠ b → cl1 j = (TG_M ca cl0 b) j := ⟨_, hC, mk_put hT⟩
  refine lv_aload_n hx hb dd_M_init_352 rfl (lv_at hl 0 rfl) ?_
  refine lv_iconst (v := i32 4) hx hb dd_M_init_353 rfl ?_
  refine n_newi (N := 4) hx hb hts hK wo_244 (by decide +kernel) (by decide +kernel) (by decide +kernel) (Nat.le_of_ble_eq_true rfl) (Nat.le_of_ble_eq_true rfl) dd_M_init_354 hC hS (fun H hC hS => ?_)
  refine W.widen (k := 11) (n := 2311) (Nat.le_of_ble_eq_true rfl) (Nat.le_of_ble_eq_true rfl) ?_
  refine lv_dup hx hb dd_M_init_356 rfl ?_
  refine lv_iconst (v := i32 0) hx hb dd_M_init_357 rfl ?_
  refine lv_bipush (v := i32 (-4)) hx hb dd_M_init_358 (by decide +kernel) ?_
  refine n_iast (x := (-4)) (i := 0) hx hb hK (j := b + 11) (by omega) (upE_eq _ _ _) (by decide) (by decide) dd_M_init_360 hC hS (fun H locs hC hS => ?_)
  rw [upE_upE] at hC
  refine lv_dup hx hb dd_M_init_361 rfl ?_
  refine lv_iconst (v := i32 1) hx hb dd_M_init_362 rfl ?_
  refine lv_bipush (v := i32 (-4)) hx hb dd_M_init_363 (by decide +kernel) ?_
  refine n_iast (x := (-4)) (i := 1) hx hb hK (j := b + 11) (by omega) (upE_eq _ _ _) (by decide) (by decide) dd_M_init_365 hC hS (fun H locs hC hS => ?_)
  rw [upE_upE] at hC
  refine lv_dup hx hb dd_M_init_366 rfl ?_
  refine lv_iconst (v := i32 2) hx hb dd_M_init_367 rfl ?_
  refine lv_bipush (v := i32 (-4)) hx hb dd_M_init_368 (by decide +kernel) ?_
  refine n_iast (x := (-4)) (i := 2) hx hb hK (j := b + 11) (by omega) (upE_eq _ _ _) (by decide) (by decide) dd_M_init_370 hC hS (fun H locs hC hS => ?_)
  rw [upE_upE] at hC
  refine lv_dup hx hb dd_M_init_371 rfl ?_
  refine lv_iconst (v := i32 3) hx hb dd_M_init_372 rfl ?_
  refine lv_bipush (v := i32 (-4)) hx hb dd_M_init_373 (by decide +kernel) ?_
  refine n_iast (x := (-4)) (i := 3) hx hb hK (j := b + 11) (by omega) (upE_eq _ _ _) (by decide) (by decide) dd_M_init_375 hC hS (fun H locs hC hS => ?_)
  rw [upE_upE] at hC
  obtain ⟨cl, hC, h0, hT⟩ : ∃ cl1 : Nat → va_E, CHp D n0 (b + 12) cl1 H ∧ cl1 b = .inr (7, [.ref (n0 + (b + 1)), .int 0, .ref (n0 + (b + 2)), .int 0, .int 0, .ref (n0 + (b + 3)), .int 0, .int 0, .int 0, .int 0, .int 0, .int 0, .int 0, .int 0, .ref (n0 + (b + 4)), .ref (n0 + (b + 5)), .ref (n0 + (b + 6)), .ref (n0 + (b + 7)), .int 0, .int 0, .int 0, .ref (n0 + (b + 8)), .int 0, .ref (n0 + (b + 9)), .ref (n0 + (b + 10)), .null, .null, .null, .int 0]) ∧ ∀ j, j < b + 12 → j ≠ b → cl1 j = (TG_M ca cl0 b) j := ⟨_, hC, mk_arr h0 hT (by omega) (TGv_M_11 ca cl0 b)⟩
  refine n_putF (ci := 7) (f := 25) (ft := (.array .int)) ty_M hx hb hts hown hK in_M tyk_M nm_M rfl (by omega) h0 (by decide) (Nat.le_of_ble_eq_true rfl) rfl hin rfl (by decide +kernel) rfl rfl wd_873 dd_M_init_376 hC hS (fun H locs hC hS => ?_)
  obtain ⟨cl, hC, h0, hT⟩ : ∃ cl1 : Nat → va_E, CHp D n0 (b + 12) cl1 H ∧ cl1 b = .inr (7, [.ref (n0 + (b + 1)), .int 0, .ref (n0 + (b + 2)), .int 0, .int 0, .ref (n0 + (b + 3)), .int 0, .int 0, .int 0, .int 0, .int 0, .int 0, .int 0, .int 0, .ref (n0 + (b + 4)), .ref (n0 + (b + 5)), .ref (n0 + (b + 6)), .ref (n0 + (b + 7)), .int 0, .int 0, .int 0, .ref (n0 + (b + 8)), .int 0, .ref (n0 + (b + 9)), .ref (n0 + (b + 10)), .ref (n0 + (b + 11)), .null, .null, .int 0]) ∧ ∀ j, j < b + 12 → j ≠ b → cl1 j = (TG_M ca cl0 b) j := ⟨_, hC, mk_put hT⟩
  refine lv_aload_n hx hb dd_M_init_379 rfl (lv_at hl 0 rfl) ?_
  refine lv_iconst (v := i32 4) hx hb dd_M_init_380 rfl ?_
  refine n_newi (N := 4) hx hb hts hK wo_244 (by decide +kernel) (by decide +kernel) (by decide +kernel) (Nat.le_of_ble_eq_true rfl) (Nat.le_of_ble_eq_true rfl) dd_M_init_381 hC hS (fun H hC hS => ?_)
  refine W.widen (k := 12) (n := 2315) (Nat.le_of_ble_eq_true rfl) (Nat.le_of_ble_eq_true rfl) ?_
  obtain ⟨cl, hC, h0, hT⟩ : ∃ cl1 : Nat → va_E, CHp D n0 (b + 13) cl1 H ∧ cl1 b = .inr (7, [.ref (n0 + (b + 1)), .int 0, .ref (n0 + (b + 2)), .int 0, .int 0, .ref (n0 + (b + 3)), .int 0, .int 0, .int 0, .int 0, .int 0, .int 0, .int 0, .int 0, .ref (n0 + (b + 4)), .ref (n0 + (b + 5)), .ref (n0 + (b + 6)), .ref (n0 + (b + 7)), .int 0, .int 0, .int 0, .ref (n0 + (b + 8)), .int 0, .ref (n0 + (b + 9)), .ref (n0 + (b + 10)), .ref (n0 + (b + 11)), .null, .null, .int 0]) ∧ ∀ j, j < b + 13 → j ≠ b → cl1 j = (TG_M ca cl0 b) j := ⟨_, hC, mk_arr h0 hT (by omega) (TGv_M_12 ca cl0 b)⟩
  refine n_putF (ci := 7) (f := 26) (ft := (.array .int)) ty_M hx hb hts hown hK in_M tyk_M nm_M rfl (by omega) h0 (by decide) (Nat.le_of_ble_eq_true rfl) rfl hin rfl (by decide +kernel) rfl rfl wd_874 dd_M_init_383 hC hS (fun H locs hC hS => ?_)
  obtain ⟨cl, hC, h0, hT⟩ : ∃ cl1 : Nat → va_E, CHp D n0 (b + 13) cl1 H ∧ cl1 b = .inr (7, [.ref (n0 + (b + 1)), .int 0, .ref (n0 + (b + 2)), .int 0, .int 0, .ref (n0 + (b + 3)), .int 0, .int 0, .int 0, .int 0, .int 0, .int 0, .int 0, .int 0, .ref (n0 + (b + 4)), .ref (n0 + (b + 5)), .ref (n0 + (b + 6)), .ref (n0 + (b + 7)), .int 0, .int 0, .int 0, .ref (n0 + (b + 8)), .int 0, .ref (n0 + (b + 9)), .ref (n0 + (b + 10)), .ref (n0 + (b + 11)), .ref (n0 + (b + 12)), .null, .int 0]) ∧ ∀ j, j < b + 13 → j ≠ b → cl1 j = (TG_M ca cl0 b) j := ⟨_, hC, mk_put hT⟩
  refine lv_aload_n hx hb dd_M_init_386 rfl (lv_at hl 0 rfl) ?_
  refine lv_sipush (v := i32 160) hx hb dd_M_init_387 (by decide +kernel) ?_
  refine n_newi (N := 160) hx hb hts hK wo_244 (by decide +kernel) (by decide +kernel) (by decide +kernel) (Nat.le_of_ble_eq_true rfl) (Nat.le_of_ble_eq_true rfl) dd_M_init_390 hC hS (fun H hC hS => ?_)
  refine W.widen (k := 13) (n := 2475) (Nat.le_of_ble_eq_true rfl) (Nat.le_of_ble_eq_true rfl) ?_
  obtain ⟨cl, hC, h0, hT⟩ : ∃ cl1 : Nat → va_E, CHp D n0 (b + 14) cl1 H ∧ cl1 b = .inr (7, [.ref (n0 + (b + 1)), .int 0, .ref (n0 + (b + 2)), .int 0, .int 0, .ref (n0 + (b + 3)), .int 0, .int 0, .int 0, .int 0, .int 0, .int 0, .int 0, .int 0, .ref (n0 + (b + 4)), .ref (n0 + (b + 5)), .ref (n0 + (b + 6)), .ref (n0 + (b + 7)), .int 0, .int 0, .int 0, .ref (n0 + (b + 8)), .int 0, .ref (n0 + (b + 9)), .ref (n0 + (b + 10)), .ref (n0 + (b + 11)), .ref (n0 + (b + 12)), .null, .int 0]) ∧ ∀ j, j < b + 14 → j ≠ b → cl1 j = (TG_M ca cl0 b) j := ⟨_, hC, mk_arr h0 hT (by omega) (TGv_M_13 ca cl0 b)⟩
  refine n_putF (ci := 7) (f := 27) (ft := (.array .int)) ty_M hx hb hts hown hK in_M tyk_M nm_M rfl (by omega) h0 (by decide) (Nat.le_of_ble_eq_true rfl) rfl hin rfl (by decide +kernel) rfl rfl wd_875 dd_M_init_392 hC hS (fun H locs hC hS => ?_)
  obtain ⟨cl, hC, h0, hT⟩ : ∃ cl1 : Nat → va_E, CHp D n0 (b + 14) cl1 H ∧ cl1 b = .inr (7, [.ref (n0 + (b + 1)), .int 0, .ref (n0 + (b + 2)), .int 0, .int 0, .ref (n0 + (b + 3)), .int 0, .int 0, .int 0, .int 0, .int 0, .int 0, .int 0, .int 0, .ref (n0 + (b + 4)), .ref (n0 + (b + 5)), .ref (n0 + (b + 6)), .ref (n0 + (b + 7)), .int 0, .int 0, .int 0, .ref (n0 + (b + 8)), .int 0, .ref (n0 + (b + 9)), .ref (n0 + (b + 10)), .ref (n0 + (b + 11)), .ref (n0 + (b + 12)), .ref (n0 + (b + 13)), .int 0]) ∧ ∀ j, j < b + 14 → j ≠ b → cl1 j = (TG_M ca cl0 b) j := ⟨_, hC, mk_put hT⟩
  exact n_vret hx hb hr hlk ⟨h0, hT⟩ hC hS dd_M_init_395

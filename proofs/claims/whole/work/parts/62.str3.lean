/-! the class' names: spelling, tokenSpells, wordOfToken -/
section
variable {E : EE} {Q : Int → JM → Prop} {M : JM} {L : List (Nat × JV)}
/-- what spelling answers -/
def qcS (E : EE) (M : JM) (k : Nat) : Array Value → State → Outcome → State → Prop := fun _ st oc t => (oc = .returned (some (.ref (E.2.2.1 40 k))) ∧ wC E t.heap M) ∧ va_F (fre E) st t
theorem p_spelling {k : Nat} (hk : k < 7) (hA : wA E) (l : Launch) : Met l yy_P_spelling (Cond.code yy_P_spelling mm_P_spelling.2.1 1 (some (.object "java/lang/String")) :: gw) mm_P_spelling.2.2.2.2 (va_Pc [.int (i32 (k : Int))] (fun U => wK E U ∧ wC E U.heap M ∧ wS E U U.heap)) (qcS E M k) 0 0 (fre E) := by
  refine Met.ofW (cc := mm_P_spelling.2.1) (maxL := 1) (ret := some (.object "java/lang/String")) pn_P rfl ?_
  intro p e s m ar below meth c s₁ B hml hv
  obtain ⟨rfl, hK, hC, hS0⟩ := hv
  have hl := lv_entry [Value.int (i32 (k : Int))] (n := 1) (Nat.le_of_ble_eq_true rfl)
  rw [lg_entry_eq]
  generalize (lg_sl [Value.int (i32 (k : Int))] ++ List.replicate (1 - (lg_sl [Value.int (i32 (k : Int))]).length) Slot.unset).toArray = ls at hl ⊢
  have h0 : ls[0]? = some (.val (.int (i32 (k : Int)))) := hl.2.2 (0, .int (i32 (k : Int))) List.mem_cons_self
  have hx := B.exec
  have hb := B.bytes
  have hr := B.returns
  have hlocks := B.notSynchronized
  have hown : s.vm.findClass "HaulWages$Tape" = some m.cls := findClass_of_methodNamed B.named
  have hkk : (i32 (k : Int)).toInt = k := i32_toInt (inR7 (by omega))
  have fin : ∀ pc2 : Nat, decode mm_P_spelling.2.1 pc2 = .ok (.ldc (idxS.getD k 0), 2) → decode mm_P_spelling.2.1 (pc2 + 2) = .ok (.areturn, 1) → W p l e mm_P_spelling.2.2.2.2 s m #[Value.int (i32 (k : Int))] below meth c s.heap [] 0 0 (MQ below (qcS E M k) #[Value.int (i32 (k : Int))] s 0 0 (fre E)) (F0 m pc2 ls []) := by
    intro pc2 d1 d2
    refine va_ldcS hx hb hown (hK.2.1 k hk) d1 ?_
    refine W.aret hx hb hr (Or.inl ⟨_, rfl⟩) (Or.inr ⟨_, rfl⟩) (fun t ht hW => ?_) (fun q hq => absurd hq List.not_mem_nil) d2
    exact ⟨⟨by rw [(hA.2 k hk).1], by rw [ht]; exact hC⟩, (va_S.rf (A := fre E) (H0 := s.heap)).F ht⟩
  refine lv_iload_n hx hb dd_P_spelling_0 (i := 0) rfl h0 ?_
  have h7 : k = 0 ∨ k = 1 ∨ k = 2 ∨ k = 3 ∨ k = 4 ∨ k = 5 ∨ k = 6 := by omega
  rcases h7 with rfl | rfl | rfl | rfl | rfl | rfl | rfl
  · exact lv_tableIn (off := 39) (tgt := 40) hx hb dd_P_spelling_1 (by rw [hkk]; decide) (by rw [hkk]; decide) (by rw [hkk]; rfl) rfl (fin 40 dd_P_spelling_40 dd_P_spelling_42)
  · exact lv_tableIn (off := 42) (tgt := 43) hx hb dd_P_spelling_1 (by rw [hkk]; decide) (by rw [hkk]; decide) (by rw [hkk]; rfl) rfl (fin 43 dd_P_spelling_43 dd_P_spelling_45)
  · exact lv_tableIn (off := 45) (tgt := 46) hx hb dd_P_spelling_1 (by rw [hkk]; decide) (by rw [hkk]; decide) (by rw [hkk]; rfl) rfl (fin 46 dd_P_spelling_46 dd_P_spelling_48)
  · exact lv_tableIn (off := 48) (tgt := 49) hx hb dd_P_spelling_1 (by rw [hkk]; decide) (by rw [hkk]; decide) (by rw [hkk]; rfl) rfl (fin 49 dd_P_spelling_49 dd_P_spelling_51)
  · exact lv_tableIn (off := 51) (tgt := 52) hx hb dd_P_spelling_1 (by rw [hkk]; decide) (by rw [hkk]; decide) (by rw [hkk]; rfl) rfl (fin 52 dd_P_spelling_52 dd_P_spelling_54)
  · exact lv_tableIn (off := 54) (tgt := 55) hx hb dd_P_spelling_1 (by rw [hkk]; decide) (by rw [hkk]; decide) (by rw [hkk]; rfl) rfl (fin 55 dd_P_spelling_55 dd_P_spelling_57)
  · exact lv_tableOut (tgt := 58) hx hb dd_P_spelling_1 (by rw [hkk]; decide) rfl (fin 58 dd_P_spelling_58 dd_P_spelling_60)
theorem k_spell {k : Nat} (hk : k < 7) {rest : List JV} (hW : (rest.map (fun v => if isLg v then 2 else 1)).sum ≤ 8) (kk : JG E mm_P_wordOfToken Q 13 L (vR 40 k :: rest) M) : JG E mm_P_wordOfToken Q 10 L (vI (k : Nat) :: rest) M := by
  intro p l e s m args below meth c H locs ls X
  obtain ⟨hx, hb, hml, hown, hts, hr, hlk, hA, hK, hS0, hC, hS, hl, hL, hst⟩ := id X
  have hM := p_spelling (M := M) hk hA l
  have hG : GoodIn gw (Cond.code yy_P_spelling mm_P_spelling.2.1 1 (some (.object "java/lang/String")) :: gw) := gin (fun w hw => by
    simp only [List.mem_cons] at hw
    rcases hw with h | h
    · rw [h]; exact wd_379
    · exact h)
  have run : va_Run p l e mm_P_wordOfToken.2.2.2.2 s m args below meth c H locs 0 0 0 0 (F0 m 10 ls (.int (i32 (k : Int)) :: rest.map (cv E))) (rest.map (cv E)) (qcS E M k [Value.int (i32 (k : Int))].toArray) (fre E) := by
    refine va_runS (As := [.int (i32 (k : Int))]) (rest := rest.map (cv E)) ⟨hx, hb, hml, hown, hts⟩ hM ⟨callB_of 1 hts hG rfl rfl rfl (hts _ wd_67) (hts _ wd_377) nk_P_spelling ⟨Nat.le_of_ble_eq_true rfl, Nat.le_of_ble_eq_true rfl⟩, hts _ wd_378⟩ ⟨?_, ?_⟩ rfl rfl hl.1 rfl ?_ dd_P_wordOfToken_10 ⟨Nat.zero_le _, Nat.zero_le _⟩
    · intro a U g mk q
      obtain ⟨q0, q1, q2, q3⟩ := q
      exact ⟨q0, wK_same (s := U) (U := U.calling g mk a) rfl q1, q2, wS_moved (s := U) (U := U.calling g mk a) (Vm.Alike.refl U.vm) q3⟩
    · intro U hU hW
      exact ⟨rfl, wK_warm hW hK, by rw [hU]; exact hC, by rw [hU]; exact wS_moved hW.alike (wS_kept hS0 hS.2.1)⟩
    · exact lv_room (by rw [cat_sum]; exact hW)
  intro T0 hT X0
  obtain ⟨v, st₀, t, T', L', h0, X', hL', e1, e2, ⟨⟨hv, hC'⟩, hz, hkk⟩, stp⟩ := run T0 hT X0
  have hv2 : v = some (.ref (E.2.2.1 40 k)) := by injection hv
  subst hv2
  rw [h0] at hz hkk
  have kq := kk p l e s m args below meth c T'.heap (locs ++ L') ls ⟨hx, hb, hml, hown, hts, hr, hlk, hA, hK, hS0, by rw [e1]; exact hC', ⟨Nat.le_trans hS.1 (by rw [e1]; exact hz), fun q h1 h2 => by rw [e1, hkk q (Nat.lt_of_lt_of_le h1 hS.1) h2]; exact hS.2.1 q h1 h2, fun q hq => by
      rcases List.mem_append.mp hq with h | h
      · exact hS.2.2 q h
      · exact hL' q h⟩, hl, hL, okS_c (v := vR 40 k) hk (okS_t hst)⟩
  obtain ⟨t2, a1, b1⟩ := kq T' rfl X'
  exact ⟨t2, stp t2 a1, b1⟩
theorem k_lett : ∀ w, w < 7 → ∀ j, j < lenS.getD w 0 → chS w j = lettT.getD (wOff.getD w 0 + j) 0 := by decide +kernel
theorem k_wlen : ∀ w, w < 7 → wLen.getD w 0 = lenS.getD w 0 := by decide +kernel
theorem p_tokenSpells {T : Nat → Int} {n i s w : Nat} {k f fp : Int} (hw : w < 7) (hP : PC T n M i s k f fp) (h1 : mtc T s i w → Q 1 M) (h0 : ¬ mtc T s i w → Q 0 M) : JC E mm_P_tokenSpells [vR 9 0, vR 40 w] M Q := by
  obtain ⟨⟨p1, p2⟩, p3, p4, p5, p6, p7, p8, p9, p10⟩ := hP
  have hl7 := k_lenR w hw
  refine j_entry (L0 := [(0, vR 9 0), (1, vR 40 w)]) pn_P (Nat.le_of_ble_eq_true rfl) rfl ?_
  refine j_aload_n (j := 0) dd_P_tokenSpells_0 rfl rfl ?_
  refine gf_9_2 dd_P_tokenSpells_1 wd_215 ?_
  refine j_aload_n (j := 0) dd_P_tokenSpells_4 rfl rfl ?_
  refine gf_9_4 dd_P_tokenSpells_5 wd_217 ?_
  rw [p3, p5]
  refine j_isub dd_P_tokenSpells_8 ?_
  rw [show w32 ((i : Int) - (s : Int)) = ((i - s : Nat) : Int) by rw [w32_id (by omega) (by omega)]; omega]
  refine j_aload_n (j := 1) dd_P_tokenSpells_9 rfl rfl ?_
  refine k_callV (mm' := mm_JS_length) (i := w) (As := []) (rest := [vI ((i - s : Nat) : Int)]) (Q' := fun x M' => x = (lenS.getD w 0 : Nat) ∧ M' = M) (js_length hw ⟨rfl, rfl⟩) rfl dd_P_tokenSpells_10 (ws5 wm_P_119 wi_JS_length wx_JS_length wi_S wc_JS_length) nk_JS_length (rok rfl) (Nat.le_of_ble_eq_true rfl) (fun _ => rfl) (fun x M' h => ?_)
  obtain ⟨e1, e2⟩ := h
  rw [e1, e2]
  refine j_icmp_eq (tgt := 18) dd_P_tokenSpells_13 rfl (fun hlen => ?_) (fun hlen => ?_)
  · have key := up_ind (P := fun j => (∀ j', j' < j → T (s + j') = lettT.getD (wOff.getD w 0 + j') 0) → JG E mm_P_tokenSpells Q 20 [(0, vR 9 0), (1, vR 40 w), (2, vI (j : Int))] [] M) (lenS.getD w 0) ?_ ?_ (fun j' h => by omega)
    · refine j_iconst dd_P_tokenSpells_18 (inRd rfl) ?_
      refine j_istore_n (j := 2) dd_P_tokenSpells_19 rfl (by decide) rfl ?_
      exact j_jump key (jsub_c rfl (jsub_c rfl (jsub_c rfl jsub_0)))
    · intro hall
      refine j_iload_n (j := 2) dd_P_tokenSpells_20 rfl rfl ?_
      refine j_aload_n (j := 1) dd_P_tokenSpells_21 rfl rfl ?_
      refine k_callV (mm' := mm_JS_length) (i := w) (As := []) (rest := [vI ((lenS.getD w 0 : Nat) : Int)]) (Q' := fun x M' => x = (lenS.getD w 0 : Nat) ∧ M' = M) (js_length hw ⟨rfl, rfl⟩) rfl dd_P_tokenSpells_22 (ws5 wm_P_119 wi_JS_length wx_JS_length wi_S wc_JS_length) nk_JS_length (rok rfl) (Nat.le_of_ble_eq_true rfl) (fun _ => rfl) (fun x M' h => ?_)
      obtain ⟨e1, e2⟩ := h
      rw [e1, e2]
      refine j_icmp_ge (tgt := 55) dd_P_tokenSpells_25 rfl (fun _ => ?_) (fun h => absurd h (by omega))
      refine j_iconst dd_P_tokenSpells_55 (inRd rfl) ?_
      exact j_zret dd_P_tokenSpells_56 rfl (Or.inr rfl) (h1 ⟨by rw [k_wlen w hw]; omega, by rw [k_wlen w hw]; exact hall⟩)
    · intro j hj ih hall
      refine j_iload_n (j := 2) dd_P_tokenSpells_20 rfl rfl ?_
      refine j_aload_n (j := 1) dd_P_tokenSpells_21 rfl rfl ?_
      refine k_callV (mm' := mm_JS_length) (i := w) (As := []) (rest := [vI (j : Int)]) (Q' := fun x M' => x = (lenS.getD w 0 : Nat) ∧ M' = M) (js_length hw ⟨rfl, rfl⟩) rfl dd_P_tokenSpells_22 (ws5 wm_P_119 wi_JS_length wx_JS_length wi_S wc_JS_length) nk_JS_length (rok rfl) (Nat.le_of_ble_eq_true rfl) (fun _ => rfl) (fun x M' h => ?_)
      obtain ⟨e1, e2⟩ := h
      rw [e1, e2]
      refine j_icmp_ge (tgt := 55) dd_P_tokenSpells_25 rfl (fun h => absurd h (by omega)) (fun _ => ?_)
      refine j_aload_n (j := 0) dd_P_tokenSpells_28 rfl rfl ?_
      refine gf_9_0 dd_P_tokenSpells_29 wd_211 ?_
      refine j_aload_n (j := 0) dd_P_tokenSpells_32 rfl rfl ?_
      refine gf_9_4 dd_P_tokenSpells_33 wd_217 ?_
      rw [p5]
      refine j_iload_n (j := 2) dd_P_tokenSpells_36 rfl rfl ?_
      refine j_iadd dd_P_tokenSpells_37 ?_
      rw [show w32 ((s : Int) + (j : Int)) = ((s + j : Nat) : Int) by rw [w32_id (by omega) (by omega)]; omega]
      refine ld_10 dd_P_tokenSpells_38 (by omega) ?_
      rw [Int.toNat_natCast, p2 (s + j) (by omega)]
      refine j_aload_n (j := 1) dd_P_tokenSpells_39 rfl rfl ?_
      refine j_iload_n (j := 2) dd_P_tokenSpells_40 rfl rfl ?_
      refine k_callV (mm' := mm_JS_charAt) (i := w) (As := [vI (j : Int)]) (rest := [vI (T (s + j))]) (Q' := fun x M' => x = chS w j ∧ M' = M) (js_charAt hw hj ⟨rfl, rfl⟩) rfl dd_P_tokenSpells_41 (ws5 wm_P_123 wi_JS_charAt wx_JS_charAt wi_S wc_JS_charAt) nk_JS_charAt (rok rfl) (Nat.le_of_ble_eq_true rfl) (fun _ => rfl) (fun x M' h => ?_)
      obtain ⟨e3, e4⟩ := h
      rw [e3, e4, k_lett w hw j hj]
      refine j_icmp_eq (tgt := 49) dd_P_tokenSpells_44 rfl (fun he => ?_) (fun he => ?_)
      · refine j_iincN dd_P_tokenSpells_49 rfl rfl (fun y ey => ?_)
        rw [w32_s (by omega)] at ey
        rw [ey]
        refine j_goto (tgt := 20) dd_P_tokenSpells_52 rfl ?_
        refine j_jump (ih (fun j' h => ?_)) (jsub_c rfl (jsub_c rfl (jsub_c rfl jsub_0)))
        by_cases z : j' = j
        · rw [z]; exact he
        · exact hall j' (by omega)
      · refine j_iconst dd_P_tokenSpells_47 (inRd rfl) ?_
        exact j_zret dd_P_tokenSpells_48 rfl (Or.inl rfl) (h0 (fun hm => he (hm.2 j (by rw [k_wlen w hw]; exact hj))))
  · refine j_iconst dd_P_tokenSpells_16 (inRd rfl) ?_
    exact j_zret dd_P_tokenSpells_17 rfl (Or.inl rfl) (h0 (fun hm => hlen (by have := hm.1; rw [k_wlen w hw] at this; rw [this])))
theorem ce_9x : ∃ fsF : (Nat → ClassId) → (Nat → Nat → Nat) → (Nat → Int) → List Value, ∀ ca ad m, cellF ca ad 9 0 m = .inr (4, fsF ca ad m) := ⟨_, ce_9 0⟩
theorem WOK_all : WOK E := by
  intro Q M T n i s k f fp hP hQ
  refine j_entry (L0 := [(0, vR 9 0)]) pn_P (Nat.le_of_ble_eq_true rfl) rfl ?_
  refine j_iconst dd_P_wordOfToken_0 (inRd rfl) ?_
  refine j_istore_n (j := 1) dd_P_wordOfToken_1 rfl (by decide) rfl ?_
  have key : ∀ d w : Nat, w + d = 7 → @fnd (mtc T s i) (mtcD T s i) w d = wdR T s i → JG E mm_P_wordOfToken Q 2 [(0, vR 9 0), (1, vI (w : Int))] [] M := by
    intro d
    induction d with
    | zero =>
      intro w hw hf
      have hw7 : w = 7 := by omega
      subst hw7
      have hf4 : wdR T s i = -4 := hf.symm
      refine j_iload_n (j := 1) dd_P_wordOfToken_2 rfl rfl ?_
      refine j_bipush dd_P_wordOfToken_3 (by decide +kernel) (inRd rfl) ?_
      refine j_icmp_ge (tgt := 27) dd_P_wordOfToken_5 rfl (fun _ => ?_) (fun h => absurd h (by omega))
      refine j_bipush dd_P_wordOfToken_27 (by decide +kernel) (inRd rfl) ?_
      refine j_iret dd_P_wordOfToken_29 rfl ?_
      unfold wd at hQ
      rw [if_pos hf4] at hQ
      exact hQ
    | succ d ih =>
      intro w hw hf
      refine j_iload_n (j := 1) dd_P_wordOfToken_2 rfl rfl ?_
      refine j_bipush dd_P_wordOfToken_3 (by decide +kernel) (inRd rfl) ?_
      refine j_icmp_ge (tgt := 27) dd_P_wordOfToken_5 rfl (fun h => absurd h (by omega)) (fun _ => ?_)
      refine j_aload_n (j := 0) dd_P_wordOfToken_8 rfl rfl ?_
      refine j_iload_n (j := 1) dd_P_wordOfToken_9 rfl rfl ?_
      refine k_spell (by omega) (Nat.le_of_ble_eq_true rfl) ?_
      unfold fnd at hf
      refine j_cVI (mm' := mm_P_tokenSpells) (t := 9) (i := 0) (As := [vR 40 w]) (rest := []) (Q' := fun x M' => ((x = 1 ∧ mtc T s i w) ∨ (x = 0 ∧ ¬ mtc T s i w)) ∧ M' = M) (p_tokenSpells (by omega) hP (fun h => ⟨Or.inl ⟨rfl, h⟩, rfl⟩) (fun h => ⟨Or.inr ⟨rfl, h⟩, rfl⟩)) dd_P_wordOfToken_13 (ws5 wd_387 wd_389 wd_6 wd_67 wd_390) nk_P_tokenSpells (rok rfl) (by unfold isW; omega) ce_9x rfl (Nat.le_of_ble_eq_true rfl) (fun _ => rfl) (fun x M' h => ?_)
      obtain ⟨hx, hM⟩ := h
      rw [hM]
      rcases hx with ⟨hx, hm⟩ | ⟨hx, hm⟩
      · rw [hx]
        refine j_if_eq (tgt := 21) dd_P_wordOfToken_16 rfl (fun h => absurd h (by decide)) (fun _ => ?_)
        refine j_iload_n (j := 1) dd_P_wordOfToken_19 rfl rfl ?_
        refine j_iret dd_P_wordOfToken_20 rfl ?_
        rw [if_pos hm] at hf
        unfold wd at hQ
        rw [← hf, if_neg (by omega)] at hQ
        exact hQ
      · rw [hx]
        refine j_if_eq (tgt := 21) dd_P_wordOfToken_16 rfl (fun _ => ?_) (fun h => absurd rfl h)
        refine j_iincN dd_P_wordOfToken_21 rfl rfl (fun y ey => ?_)
        rw [w32_s (by omega)] at ey
        rw [ey]
        refine j_goto (tgt := 2) dd_P_wordOfToken_24 rfl ?_
        rw [if_neg hm] at hf
        exact j_jump (ih (w + 1) (by omega) hf) (jsub_c rfl (jsub_c rfl jsub_0))
  exact j_jump (key 7 0 rfl rfl) (jsub_c rfl (jsub_c rfl jsub_0))
end

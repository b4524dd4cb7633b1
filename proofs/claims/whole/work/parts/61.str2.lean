/-! rows over the text constants -/
section
variable {E : EE} {mm : MM} {Q : Int → JM → Prop} {pc : Nat} {L : List (Nat × JV)} {st : List JV} {M : JM}
def chS (i j : Nat) : Int := ((bytS.getD i []).getD j 0).toInt
def ch16 (x : Int) : Int := ((i32 x).toUInt32 % 65536).toInt32.toInt
theorem k_value {i idx : Nat} (hlink : Cond.fieldLink mm.1.cls idx "java/lang/String" "value" "[B" ∈ gw) (hd : decode mm.2.1 pc = .ok (.getfield idx, 3)) (kk : JG E mm Q (pc + 3) L (vR 41 i :: st) M) : JG E mm Q pc L (vR 40 i :: st) M := by
  intro p l e s m args below meth c H locs ls X
  obtain ⟨hx, hb, hml, hown, hts, hr, hlk, hA, hK, hS0, hC, hS, hl, hL, hst⟩ := X
  have hi : i < 7 := okS_h hst
  have hv := (hS0.1.1 i hi).2.2.1
  rw [← (hA.2 i hi).1, ← (hA.2 i hi).2] at hv
  refine vk_getf (v := cv E (vR 41 i)) hx hb hv hS hown (hts _ hlink) (fun _ h => h) hd ?_
  exact kk p l e s m args below meth c H locs ls ⟨hx, hb, hml, hown, hts, hr, hlk, hA, hK, hS0, hC, hS, hl, hL, okS_c (v := vR 41 i) hi (okS_t hst)⟩
theorem k_coder {i idx : Nat} (hlink : Cond.fieldLink mm.1.cls idx "java/lang/String" "coder" "B" ∈ gw) (hd : decode mm.2.1 pc = .ok (.getfield idx, 3)) (kk : JG E mm Q (pc + 3) L (vI 0 :: st) M) : JG E mm Q pc L (vR 40 i :: st) M := by
  intro p l e s m args below meth c H locs ls X
  obtain ⟨hx, hb, hml, hown, hts, hr, hlk, hA, hK, hS0, hC, hS, hl, hL, hst⟩ := X
  have hi : i < 7 := okS_h hst
  have hv := (hS0.1.1 i hi).2.1
  rw [← (hA.2 i hi).1] at hv
  refine vk_getf (v := cv E (vI 0)) hx hb hv hS hown (hts _ hlink) (fun _ h => h) hd ?_
  exact kk p l e s m args below meth c H locs ls ⟨hx, hb, hml, hown, hts, hr, hlk, hA, hK, hS0, hC, hS, hl, hL, okS_c (v := vI 0) in0 (okS_t hst)⟩
theorem k_compact {idx : Nat} (hlink : Cond.fieldLink mm.1.cls idx "java/lang/String" "COMPACT_STRINGS" "Z" ∈ gw) (hd : decode mm.2.1 pc = .ok (.getstatic idx, 3)) (kk : JG E mm Q (pc + 3) L (vI 1 :: st) M) : JG E mm Q pc L st M := by
  intro p l e s m args below meth c H locs ls X
  obtain ⟨hx, hb, hml, hown, hts, hr, hlk, hA, hK, hS0, hC, hS, hl, hL, hst⟩ := X
  refine va_gets (v := cv E (vI 1)) hx hb hS0.2.1 hS hown (hts _ hlink) (fun _ h => h) hd ?_
  exact kk p l e s m args below meth c H locs ls ⟨hx, hb, hml, hown, hts, hr, hlk, hA, hK, hS0, hC, hS, hl, hL, okS_c (v := vI 1) (inRd rfl) hst⟩
theorem k_lens : ∀ i, i < 7 → Int32.ofNat (lenS.getD i 0) = i32 (lenS.getD i 0 : Nat) := by decide +kernel
theorem k_lenR : ∀ i, i < 7 → lenS.getD i 0 ≤ 7 := by decide +kernel
theorem inR7 {n : Nat} (h : n ≤ 7) : inR (n : Int) := by unfold inR; omega
theorem k_len {i : Nat} (hd : decode mm.2.1 pc = .ok (.arraylength, 1)) (kk : JG E mm Q (pc + 1) L (vI (lenS.getD i 0 : Nat) :: st) M) : JG E mm Q pc L (vR 41 i :: st) M := by
  intro p l e s m args below meth c H locs ls X
  obtain ⟨hx, hb, hml, hown, hts, hr, hlk, hA, hK, hS0, hC, hS, hl, hL, hst⟩ := X
  have hi : i < 7 := okS_h hst
  have hv := (hS0.1.1 i hi).2.2.2
  rw [← (hA.2 i hi).2] at hv
  refine va_tlen hx hb hv hS (k_lens i hi) hd ?_
  exact kk p l e s m args below meth c H locs ls ⟨hx, hb, hml, hown, hts, hr, hlk, hA, hK, hS0, hC, hS, hl, hL, okS_c (v := vI (lenS.getD i 0 : Nat)) (inR7 (k_lenR i hi)) (okS_t hst)⟩
theorem k_bald {i j : Nat} (hj : j < lenS.getD i 0) (hd : decode mm.2.1 pc = .ok (.baload, 1)) (kk : JG E mm Q (pc + 1) L (vI (chS i j) :: st) M) : JG E mm Q pc L (vI (j : Nat) :: vR 41 i :: st) M := by
  intro p l e s m args below meth c H locs ls X
  obtain ⟨hx, hb, hml, hown, hts, hr, hlk, hA, hK, hS0, hC, hS, hl, hL, hst⟩ := X
  have hi : i < 7 := okS_h (okS_t hst)
  have hj7 := k_lenR i hi
  have hjr : inR (j : Int) := okS_h hst
  have hv := (hS0.1.1 i hi).2.2.2
  rw [← (hA.2 i hi).2] at hv
  refine va_tb (v := cv E (vI (chS i j))) hx hb hv hS (i32_vin hjr (by omega) (by omega)) ?_ hd ?_
  · show Value.int ((bytS.getD i []).getD (i32 (j : Int)).toNatClampNeg 0) = Value.int (i32 (chS i j))
    rw [i32_clamp hjr, Int.toNat_natCast]
    unfold chS
    rw [i32_t]
  · exact kk p l e s m args below meth c H locs ls ⟨hx, hb, hml, hown, hts, hr, hlk, hA, hK, hS0, hC, hS, hl, hL, okS_c (v := vI (chS i j)) (t32_in _) (okS_t (okS_t hst))⟩
theorem k_i2c {x : Int} (hd : decode mm.2.1 pc = .ok (.i2c, 1)) (k : JG E mm Q (pc + 1) L (vI (ch16 x) :: st) M) : JG E mm Q pc L (vI x :: st) M := by
  intro p l e s m args below meth c H locs ls X
  obtain ⟨hx, hb, hml, hown, hts, hr, hlk, hA, hK, hS0, hC, hS, hl, hL, hst⟩ := X
  refine lv_i2c hx hb hd (v := i32 (ch16 x)) (i32_t _).symm ?_
  exact k p l e s m args below meth c H locs ls ⟨hx, hb, hml, hown, hts, hr, hlk, hA, hK, hS0, hC, hS, hl, hL, okS_c (v := vI (ch16 x)) (t32_in _) (okS_t hst)⟩
theorem k_bret {x : Int} (hd : decode mm.2.1 pc = .ok (.ireturn, 1)) (hret : mm.2.2.2.1 = some .byte) (hn : narrow .byte (.int (i32 x)) = .int (i32 x)) (hQ : Q x M) : JG E mm Q pc L [vI x] M := by
  intro p l e s m args below meth c H locs ls X
  obtain ⟨hx, hb, hml, hown, hts, hr, hlk, hA, hK, hS0, hC, hS, hl, hL, hst⟩ := X
  refine W.zret hx hb (hr.trans hret) hn (fun t ht hW => ?_) hS.2.2 hd
  rw [hret]
  exact ⟨⟨x, M, rfl, okS_h hst, hQ, by rw [ht]; exact hC⟩, hS.F ht⟩
theorem k_cret {x : Int} (hd : decode mm.2.1 pc = .ok (.ireturn, 1)) (hret : mm.2.2.2.1 = some .char) (hn : narrow .char (.int (i32 x)) = .int (i32 x)) (hQ : Q x M) : JG E mm Q pc L [vI x] M := by
  intro p l e s m args below meth c H locs ls X
  obtain ⟨hx, hb, hml, hown, hts, hr, hlk, hA, hK, hS0, hC, hS, hl, hL, hst⟩ := X
  refine W.zret hx hb (hr.trans hret) hn (fun t ht hW => ?_) hS.2.2 hd
  rw [hret]
  exact ⟨⟨x, M, rfl, okS_h hst, hQ, by rw [ht]; exact hC⟩, hS.F ht⟩
/-- a call on a text constant -/
theorem k_callV {mm' : MM} {i idx : Nat} {As rest : List JV} {Q' : Int → JM → Prop} (hC' : JC E mm' (vR 40 i :: As) M Q') (hcl : mm'.1.cls = "java/lang/String") (hd : decode mm.2.1 pc = .ok (.invokevirtual idx, 3)) (hws : ∀ w ∈ ([.methodLink mm.1.cls idx mm'.1, .instanceMethod mm'.1, .selects mm'.1.cls mm'.1 mm'.1, .initialized mm'.1.cls, .code mm'.1 mm'.2.1 mm'.2.2.1 mm'.2.2.2.1] : List Cond), w ∈ gw) (hnm : nameOk mm' As.length) (hroom : roomOk mm mm') (hW : (rest.map (fun v => if isLg v then 2 else 1)).sum ≤ 8) (hp : ∀ x, push mm'.2.2.2.1 x rest = vI x :: rest) (kk : ∀ (x : Int) (M' : JM), Q' x M' → JG E mm Q (pc + 3) L (vI x :: rest) M') : JG E mm Q pc L (As.reverse ++ vR 40 i :: rest) M := by
  intro p l e s m args below meth c H locs ls X
  obtain ⟨hx, hb, hml, hown, hts, hr, hlk, hA, hK, hS0, hC, hS, hl, hL, hst⟩ := id X
  have hi : i < 7 := okS_h (okS_r hst)
  have hargs : okS (vR 40 i :: As) := okS_c (v := vR 40 i) hi (okS_rev (okS_l hst))
  have hM := hC' hA hargs l
  have hrec := vk_recv hS0.1 hi hS
  rw [← (hA.2 i hi).1, ← hcl] at hrec
  have hG : GoodIn gw (wsV mm.1.cls idx mm'.1.cls mm'.1 (Cond.code mm'.1 mm'.2.1 mm'.2.2.1 mm'.2.2.2.1 :: gw)) := gin (fun w hw => by
    simp only [wsV, List.mem_append, List.mem_cons, List.not_mem_nil, or_false] at hw
    rcases hw with (h | h | h | h) | h | h
    · exact hws w (by simp [h])
    · exact hws w (by simp [h])
    · exact hws w (by simp [h])
    · exact hws w (by simp [h])
    · exact hws w (by simp [h])
    · exact h)
  refine jc_go (mm' := mm') (n := 0) (args := args.toList.map (fun _ => vI 0)) ⟨hx, hb, hml, hown, hts, hr, hlk, hA, hK, hS0, hC, hS, hl, hL, okS_t (okS_r hst)⟩ (va_runV (As := As.map (cv E)) (rest := rest.map (cv E)) ⟨hx, hb, hml, hown, hts⟩ hM (cwV As.length hts hG rfl hroom.1 hroom.2.1 ⟨rfl, hnm⟩ hroom.2.2) ⟨jc_blind, hrec, jc_pre (args := vR 40 i :: As) hK hS0 hC hS⟩ rfl (List.length_map ..) hl.1 ?_ ?_ hd ⟨Nat.zero_le _, Nat.zero_le _⟩) (fun x M' h => by rw [hp]; exact kk x M' h)
  · show List.map (cv E) (As.reverse ++ vR 40 i :: rest) = _
    rw [List.map_append, List.map_reverse]
    rfl
  · exact lv_room (by rw [cat_sum]; exact hW)
end
/-! the JDK's methods -/
section
variable {E : EE} {Q : Int → JM → Prop} {M : JM}
theorem pn_JS : plainName "java/lang/String" = true := by decide +kernel
theorem pn_JL : plainName "java/lang/StringLatin1" = true := by decide +kernel
theorem pn_JP : plainName "jdk/internal/util/Preconditions" = true := by decide +kernel
theorem js_coder {i : Nat} (hQ : Q 0 M) : JC E mm_JS_coder [vR 40 i] M Q := by
  refine j_entry (L0 := [(0, vR 40 i)]) pn_JS (Nat.le_of_ble_eq_true rfl) rfl ?_
  refine k_compact wf_38 dd_JS_coder_0 ?_
  refine j_if_eq (tgt := 13) dd_JS_coder_3 rfl (fun h => absurd h (by decide)) (fun _ => ?_)
  refine j_aload_n (j := 0) dd_JS_coder_6 rfl rfl ?_
  refine k_coder wf_15 dd_JS_coder_7 ?_
  refine j_goto (tgt := 14) dd_JS_coder_10 rfl ?_
  exact k_bret dd_JS_coder_14 rfl (by decide +kernel) hQ
theorem js_isLatin1 {i : Nat} (hQ : Q 1 M) : JC E mm_JS_isLatin1 [vR 40 i] M Q := by
  refine j_entry (L0 := [(0, vR 40 i)]) pn_JS (Nat.le_of_ble_eq_true rfl) rfl ?_
  refine k_compact wf_38 dd_JS_isLatin1_0 ?_
  refine j_if_eq (tgt := 17) dd_JS_isLatin1_3 rfl (fun h => absurd h (by decide)) (fun _ => ?_)
  refine j_aload_n (j := 0) dd_JS_isLatin1_6 rfl rfl ?_
  refine k_coder wf_15 dd_JS_isLatin1_7 ?_
  refine j_if_ne (tgt := 17) dd_JS_isLatin1_10 rfl (fun h => absurd rfl h) (fun _ => ?_)
  refine j_iconst dd_JS_isLatin1_13 (inRd rfl) ?_
  refine j_goto (tgt := 18) dd_JS_isLatin1_14 rfl ?_
  exact j_zret dd_JS_isLatin1_18 rfl (Or.inr rfl) hQ
theorem k_shr : ∀ i, i < 7 → shr32 (lenS.getD i 0 : Nat) 0 = (lenS.getD i 0 : Nat) := by decide +kernel
theorem js_length {i : Nat} (hi : i < 7) (hQ : Q (lenS.getD i 0 : Nat) M) : JC E mm_JS_length [vR 40 i] M Q := by
  refine j_entry (L0 := [(0, vR 40 i)]) pn_JS (Nat.le_of_ble_eq_true rfl) rfl ?_
  refine j_aload_n (j := 0) dd_JS_length_0 rfl rfl ?_
  refine k_value wf_9 dd_JS_length_1 ?_
  refine k_len dd_JS_length_4 ?_
  refine j_aload_n (j := 0) dd_JS_length_5 rfl rfl ?_
  refine k_callV (mm' := mm_JS_coder) (i := i) (As := []) (rest := [vI (lenS.getD i 0 : Nat)]) (Q' := fun x M' => x = 0 ∧ M' = M) (js_coder ⟨rfl, rfl⟩) rfl dd_JS_length_6 (ws5 wm_S_335 wi_JS_coder wx_JS_coder wi_S wc_JS_coder) nk_JS_coder (rok rfl) (Nat.le_of_ble_eq_true rfl) (fun _ => rfl) (fun x M' h => ?_)
  obtain ⟨rfl, rfl⟩ := h
  refine j_ishr dd_JS_length_9 ?_
  rw [k_shr i hi]
  exact j_iret dd_JS_length_10 rfl hQ
/-- Preconditions.checkIndex, whatever its third argument is -/
theorem jp_check {x n : Int} {v : Value} (hv : v = .null ∨ ∃ t, v = .ref t) (hA : wA E) (hx0 : 0 ≤ x) (hxn : x < n) (hr : inR x) (hr2 : inR n) (hQ : Q x M) (l : Launch) : Met l yy_JP_checkIndex (Cond.code yy_JP_checkIndex mm_JP_checkIndex.2.1 3 (some .int) :: gw) mm_JP_checkIndex.2.2.2.2 (va_Pc [.int (i32 x), .int (i32 n), v] (fun U => wK E U ∧ wC E U.heap M ∧ wS E U U.heap)) (qc E (some .int) Q) 0 0 (fre E) := by
  have body : JG E mm_JP_checkIndex Q 0 [(0, vI x), (1, vI n)] [] M := by
    refine j_iload_n (j := 0) dd_JP_checkIndex_0 rfl rfl ?_
    refine j_if_lt (tgt := 9) dd_JP_checkIndex_1 rfl (fun h => absurd h (by omega)) (fun _ => ?_)
    refine j_iload_n (j := 0) dd_JP_checkIndex_4 rfl rfl ?_
    refine j_iload_n (j := 1) dd_JP_checkIndex_5 rfl rfl ?_
    refine j_icmp_lt (tgt := 16) dd_JP_checkIndex_6 rfl (fun _ => ?_) (fun h => absurd h (by omega))
    refine j_iload_n (j := 0) dd_JP_checkIndex_16 rfl rfl ?_
    exact j_iret dd_JP_checkIndex_17 rfl hQ
  refine Met.ofW (cc := mm_JP_checkIndex.2.1) (maxL := 3) (ret := some .int) pn_JP rfl ?_
  intro p e s m ar below meth c s₁ B hml hv2
  obtain ⟨rfl, hK, hC, hS0⟩ := hv2
  have hts := atoms_spec (ws := Cond.code yy_JP_checkIndex mm_JP_checkIndex.2.1 3 (some .int) :: gw) B.pre
  have hl : lv_has (lg_sl [Value.int (i32 x), .int (i32 n), v] ++ List.replicate (3 - (lg_sl [Value.int (i32 x), .int (i32 n), v]).length) Slot.unset).toArray 3 [(0, .int (i32 x)), (1, .int (i32 n)), (2, v)] := by
    rcases hv with rfl | ⟨t, rfl⟩
    · exact lv_entry [Value.int (i32 x), .int (i32 n), .null] (n := 3) (Nat.le_of_ble_eq_true rfl)
    · exact lv_entry [Value.int (i32 x), .int (i32 n), .ref t] (n := 3) (Nat.le_of_ble_eq_true rfl)
  rw [lg_entry_eq]
  generalize (lg_sl [Value.int (i32 x), .int (i32 n), v] ++ List.replicate (3 - (lg_sl [Value.int (i32 x), .int (i32 n), v]).length) Slot.unset).toArray = ls at hl ⊢
  have hj : ∀ (i : Nat) (w : JV), jl [(0, vI x), (1, vI n)] i = some w → ls[i]? = some (.val (cv E w)) ∧ okV w := by
    intro i w h
    unfold jl at h
    split at h
    · rename_i e0
      cases h
      cases e0
      exact ⟨hl.2.2 (0, .int (i32 x)) List.mem_cons_self, hr⟩
    · unfold jl at h
      split at h
      · rename_i e0
        cases h
        cases e0
        exact ⟨hl.2.2 (1, .int (i32 n)) (List.mem_cons_of_mem _ List.mem_cons_self), hr2⟩
      · cases h
  exact body p l e s m _ below meth c s.heap [] ls ⟨B.exec, B.bytes, hml, findClass_of_methodNamed B.named, fun w hw => hts w (List.mem_cons_of_mem _ hw), B.returns, B.notSynchronized, hA, hK, hS0, hC, va_S.rf, ⟨hl.1, hl.2.1, fun i w h => (hj i w h).1⟩, fun i w h => (hj i w h).2, okS_0⟩
theorem js_check {x n : Int} (hx0 : 0 ≤ x) (hxn : x < n) (hQ : Q 0 M) : JC E mm_JS_checkIndex [vI x, vI n] M Q := by
  refine j_entry (L0 := [(0, vI x), (1, vI n)]) pn_JS (Nat.le_of_ble_eq_true rfl) rfl ?_
  refine j_iload_n (j := 0) dd_JS_checkIndex_0 rfl rfl ?_
  refine j_iload_n (j := 1) dd_JS_checkIndex_1 rfl rfl ?_
  have kend : ∀ (y : Int) (M' : JM), (y = x ∧ M' = M) → JG E mm_JS_checkIndex Q 8 [(0, vI x), (1, vI n)] [vI y] M' := by
    intro y M' h
    obtain ⟨rfl, rfl⟩ := h
    refine j_pop dd_JS_checkIndex_8 rfl ?_
    exact j_vret dd_JS_checkIndex_9 rfl hQ
  intro p l e s m args below meth c H locs ls X
  obtain ⟨hx, hb, hml, hown, hts, hr, hlk, hA, hK, hS0, hC, hS, hl, hL, hst⟩ := id X
  have hrn : inR n := okS_h hst
  have hrx : inR x := okS_h (okS_t hst)
  have go : ∀ v : Value, (v = .null ∨ ∃ t, v = .ref t) → W p l e mm_JS_checkIndex.2.2.2.2 s m args below meth c H locs 0 0 (MQ below (qc E mm_JS_checkIndex.2.2.2.1 Q) args s 0 0 (fre E)) (F0 m 5 ls (v :: [.int (i32 n), .int (i32 x)])) := by
    intro v hv
    have hM := jp_check (E := E) (M := M) (Q := fun y M' => y = x ∧ M' = M) hv hA hx0 hxn hrx hrn ⟨rfl, rfl⟩ l
    have hG : GoodIn gw (Cond.code yy_JP_checkIndex mm_JP_checkIndex.2.1 3 (some .int) :: gw) := gin (fun w hw => by
      simp only [List.mem_cons] at hw
      rcases hw with h | h
      · rw [h]; exact wc_JP_checkIndex
      · exact h)
    refine jc_go (mm' := mm_JP_checkIndex) (n := 0) (args := []) (rest := []) ⟨hx, hb, hml, hown, hts, hr, hlk, hA, hK, hS0, hC, hS, hl, hL, okS_0⟩ (va_runS (As := [.int (i32 x), .int (i32 n), v]) (rest := []) ⟨hx, hb, hml, hown, hts⟩ hM ⟨callB_of 3 hts hG rfl rfl rfl (hts _ wi_P) (hts _ wm_S_1059) nk_JP_checkIndex ⟨Nat.le_of_ble_eq_true rfl, Nat.le_of_ble_eq_true rfl⟩, hts _ ws_JP_checkIndex⟩ ⟨?_, ?_⟩ rfl rfl hl.1 rfl ?_ dd_JS_checkIndex_5 ⟨Nat.zero_le _, Nat.zero_le _⟩) kend
    · intro a U g mk q
      obtain ⟨q0, q1, q2, q3⟩ := q
      exact ⟨q0, wK_same (s := U) (U := U.calling g mk a) rfl q1, q2, wS_moved (s := U) (U := U.calling g mk a) (Vm.Alike.refl U.vm) q3⟩
    · intro U hU hW
      exact ⟨rfl, wK_warm hW hK, by rw [hU]; exact hC, by rw [hU]; exact wS_moved hW.alike (wS_kept hS0 hS.2.1)⟩
    · exact Nat.le_of_ble_eq_true rfl
  rcases hS0.2.2 with h | ⟨t, h⟩
  · exact va_gets (v := .null) hx hb h hS hown (hts _ wf_1053) (fun _ h => h) dd_JS_checkIndex_2 (go .null (Or.inl rfl))
  · exact va_gets (v := .ref t) hx hb h hS hown (hts _ wf_1053) (fun _ h => h) dd_JS_checkIndex_2 (go (.ref t) (Or.inr ⟨t, rfl⟩))
theorem k_chr : ∀ i, i < 7 → ∀ j, j < lenS.getD i 0 → ch16 (and32 (chS i j) 255) = chS i j ∧ narrow .char (.int (i32 (chS i j))) = .int (i32 (chS i j)) := by decide +kernel
theorem jl_charAt {i j : Nat} (hi : i < 7) (hj : j < lenS.getD i 0) (hQ : Q (chS i j) M) : JC E mm_JL_charAt [vR 41 i, vI (j : Nat)] M Q := by
  refine j_entry (L0 := [(0, vR 41 i), (1, vI (j : Nat))]) pn_JL (Nat.le_of_ble_eq_true rfl) rfl ?_
  refine j_iload_n (j := 1) dd_JL_charAt_0 rfl rfl ?_
  refine j_aload_n (j := 0) dd_JL_charAt_1 rfl rfl ?_
  refine k_len dd_JL_charAt_2 ?_
  refine j_callS (mm' := mm_JS_checkIndex) (As := [vI (j : Nat), vI (lenS.getD i 0 : Nat)]) (rest := []) (Q' := fun _ M' => M' = M) (js_check (by omega) (by omega) rfl) dd_JL_charAt_3 (ws4 wm_L_9 ws_JS_checkIndex wi_S wc_JS_checkIndex) nk_JS_checkIndex (rok rfl) (Nat.le_of_ble_eq_true rfl) (fun y M' h => ?_)
  have h : M' = M := h
  subst h
  show JG E mm_JL_charAt Q 6 _ [] _
  refine j_aload_n (j := 0) dd_JL_charAt_6 rfl rfl ?_
  refine j_iload_n (j := 1) dd_JL_charAt_7 rfl rfl ?_
  refine k_bald hj dd_JL_charAt_8 ?_
  refine j_sipush dd_JL_charAt_9 (by decide +kernel) (inRd rfl) ?_
  refine j_iand dd_JL_charAt_12 ?_
  refine k_i2c dd_JL_charAt_13 ?_
  rw [(k_chr i hi j hj).1]
  exact k_cret dd_JL_charAt_14 rfl (k_chr i hi j hj).2 hQ
theorem js_charAt {i j : Nat} (hi : i < 7) (hj : j < lenS.getD i 0) (hQ : Q (chS i j) M) : JC E mm_JS_charAt [vR 40 i, vI (j : Nat)] M Q := by
  refine j_entry (L0 := [(0, vR 40 i), (1, vI (j : Nat))]) pn_JS (Nat.le_of_ble_eq_true rfl) rfl ?_
  refine j_aload_n (j := 0) dd_JS_charAt_0 rfl rfl ?_
  refine k_callV (mm' := mm_JS_isLatin1) (i := i) (As := []) (rest := []) (Q' := fun x M' => x = 1 ∧ M' = M) (js_isLatin1 ⟨rfl, rfl⟩) rfl dd_JS_charAt_1 (ws5 wm_S_492 wi_JS_isLatin1 wx_JS_isLatin1 wi_S wc_JS_isLatin1) nk_JS_isLatin1 (rok rfl) (Nat.le_of_ble_eq_true rfl) (fun _ => rfl) (fun x M' h => ?_)
  obtain ⟨h1, h2⟩ := h
  rw [h1, h2]
  refine j_if_eq (tgt := 16) dd_JS_charAt_4 rfl (fun h => absurd h (by decide)) (fun _ => ?_)
  refine j_aload_n (j := 0) dd_JS_charAt_7 rfl rfl ?_
  refine k_value wf_9 dd_JS_charAt_8 ?_
  refine j_iload_n (j := 1) dd_JS_charAt_11 rfl rfl ?_
  refine j_cSI (mm' := mm_JL_charAt) (As := [vR 41 i, vI (j : Nat)]) (rest := []) (Q' := fun x M' => x = chS i j ∧ M' = M) (jl_charAt hi hj ⟨rfl, rfl⟩) dd_JS_charAt_12 (ws4 wm_S_495 ws_JL_charAt wi_L wc_JL_charAt) nk_JL_charAt (rok rfl) (Nat.le_of_ble_eq_true rfl) (fun _ => rfl) (fun x M' h => ?_)
  obtain ⟨h1, h2⟩ := h
  rw [h1, h2]
  exact k_cret dd_JS_charAt_15 rfl (k_chr i hi j hj).2 hQ
end

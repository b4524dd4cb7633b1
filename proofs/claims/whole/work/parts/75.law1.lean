/-! the law: what stands at its loop's head; arguments, calls, the way back -/
def ag (xs : Nat → Int32) (i j : Nat) : Int := (xs (i + j)).toInt
theorem ag_ok (xs : Nat → Int32) (i j : Nat) : inR (ag xs i j) := t32_in _
abbrev lvl (b : Nat) (E : EE) (i : Nat) : List (Nat × Value) := [(0, .ref b), (1, .ref (E.2.2.1 0 0)), (2, .ref (E.2.2.1 20 0)), (3, .int (i32 (i : Int)))]
def LF (p : Program) (s : State) (m : MethodId) (meth : Method) (c : Code) (b Lx : Nat) (xs : Nat → Int32) (E : EE) : Prop := p.tables.exec = Jvm.exec ∧ c.code = code ∧ c.maxLocals = 4 ∧ s.vm.findClass "HaulWagesLaw" = some m.cls ∧ (∀ w ∈ gw, w.before #[Value.ref b] s = true) ∧ meth.sig.returnType = ret ∧ meth.locks = false ∧ wA E ∧ wK E s ∧ wS E s s.heap ∧ va_X b Lx xs s s.heap ∧ b < s.heap.size ∧ (∀ q, fre E q → s.heap.size ≤ q) ∧ Lx ≤ 2560
/-- the loop's head, with the next place i -/
def Lhead (p : Program) (l : Launch) (e : Env) (s : State) (m : MethodId) (below : List Frame) (meth : Method) (c : Code) (b : Nat) (E : EE) (i : Nat) : Prop := ∀ (Z : ZZ) (M : JM) (H : Heap) (locs : List Loc) (ls : Array Slot), ZB Z → RepC Z M → RepR Z M → wC E H M → va_S (fre E) s.heap H locs → lv_has ls 4 (lvl b E i) → W p l e room_1 s m #[Value.ref b] below meth c H locs 600000 7302250 (lw_Z below #[Value.ref b] s) (F0 m 18 ls [])
section
variable {p : Program} {l : Launch} {e : Env} {s : State} {m : MethodId} {below : List Frame} {meth : Method} {c : Code} {b Lx : Nat} {xs : Nat → Int32} {E : EE} {Z : ZZ} {M : JM} {H : Heap} {locs : List Loc} {ls : Array Slot} {i : Nat}
theorem l_arg {pc j : Nat} {rest : List Value} (F : LF p s m meth c b Lx xs E) (hS : va_S (fre E) s.heap H locs) (hl : lv_has ls 4 (lvl b E i)) (hi : i + 4 < Lx) (hj : j ≤ 4) (d0 : decode code pc = .ok (.aload_n 0, 1)) (d1 : decode code (pc + 1) = .ok (.iload_n 3, 1)) (d2 : decode code (pc + 2) = .ok (.iconst (j : Int), 1)) (d3 : decode code (pc + 3) = .ok (.iadd, 1)) (d4 : decode code (pc + 4) = .ok (.iaload, 1)) (kk : W p l e room_1 s m #[Value.ref b] below meth c H locs 600000 7302250 (lw_Z below #[Value.ref b] s) (F0 m (pc + 5) ls (.int (i32 (ag xs i j)) :: rest))) : W p l e room_1 s m #[Value.ref b] below meth c H locs 600000 7302250 (lw_Z below #[Value.ref b] s) (F0 m pc ls rest) := by
  obtain ⟨hx, hb, hml, hown, hts, hr, hlk, hA, hK, hS0, hX, hbl, hfr, hLx⟩ := F
  have hbA : ¬ fre E b := fun q => absurd (hfr b q) (by omega)
  refine lv_aload_n hx hb d0 (i := 0) rfl (lv_at hl 0 rfl) ?_
  refine lv_iload_n hx hb d1 (i := 3) rfl (lv_at hl 3 rfl) ?_
  refine lv_iconst (v := i32 (j : Int)) hx hb d2 rfl ?_
  refine lv_iadd hx hb d3 ?_
  rw [show i32 (i : Int) + i32 (j : Int) = i32 ((i + j : Nat) : Int) by rw [i32_add, w32_id (by omega) (by omega)]; rfl]
  have hr2 : inR ((i + j : Nat) : Int) := by unfold inR; omega
  refine va_sld hx hb hX hbl hbA hS (i32_vin hr2 (by omega) (by omega)) d4 ?_
  rw [i32_clamp hr2, Int.toNat_natCast, ← i32_t (xs (i + j))]
  exact kk
theorem l_call {pc : Nat} (F : LF p s m meth c b Lx xs E) (hC : wC E H M) (hS : va_S (fre E) s.heap H locs) (hl : lv_has ls 4 (lvl b E i)) {mm' : MM} {t k idx ci : Nat} {T : u_T} {N : Nat} {As rest : List JV} {Q' : Int → JM → Prop} (hC' : JC E mm' (vR t k :: As) M Q') (hd : decode code pc = .ok (.invokevirtual idx, 3)) (hws : ∀ w ∈ ([.methodLink "HaulWagesLaw" idx mm'.1, .instanceMethod mm'.1, .selects mm'.1.cls mm'.1 mm'.1, .initialized mm'.1.cls, .code mm'.1 mm'.2.1 mm'.2.2.1 mm'.2.2.2.1] : List Cond), w ∈ gw) (hnm : nameOk mm' As.length) (hroom : mm'.2.2.2.2.cells = 0 ∧ mm'.2.2.2.2.slots = 0 ∧ mm'.2.2.2.2.frames + 1 ≤ room_1.frames ∧ 8 + (mm'.2.2.1 + 11) + mm'.2.2.2.2.locals ≤ room_1.locals) (hw : isW t) (hob : ∃ fsF : (Nat → ClassId) → (Nat → Nat → Nat) → (Nat → Int) → List Value, ∀ ca ad m, cellF ca ad t k m = .inr (ci, fsF ca ad m)) (hc : vcl[ci]? = some (mm'.1.cls, T, N)) (hW : (rest.map (fun v => if isLg v then 2 else 1)).sum ≤ 8) (hok : okS As) (hk0 : k < cnt t) (kk : ∀ (x : Int) (M' : JM) (H' : Heap) (locs' : List Loc), Q' x M' → wC E H' M' → va_S (fre E) s.heap H' locs' → W p l e room_1 s m #[Value.ref b] below meth c H' locs' 600000 7302250 (lw_Z below #[Value.ref b] s) (F0 m (pc + 3) ls ((push mm'.2.2.2.1 x rest).map (cv E)))) : W p l e room_1 s m #[Value.ref b] below meth c H locs 600000 7302250 (lw_Z below #[Value.ref b] s) (F0 m pc ls ((As.reverse ++ vR t k :: rest).map (cv E))) := by
  obtain ⟨hx, hb, hml, hown, hts, hr, hlk, hA, hK, hS0, hX, hbl, hfr, hLx⟩ := F
  have hM := hC' hA (okS_c (v := vR t k) hk0 hok) l
  obtain ⟨fsF, hcell⟩ := hob
  have hat := hC.1 t k hw hk0
  rw [hcell] at hat
  have hrec := va_recv hK.1 (vaP1 hat) (ci := ci) (q0 := 0) hc rfl
  have hG : GoodIn gw (wsV "HaulWagesLaw" idx mm'.1.cls mm'.1 (Cond.code mm'.1 mm'.2.1 mm'.2.2.1 mm'.2.2.2.1 :: gw)) := gin (fun w hw => by
    simp only [wsV, List.mem_append, List.mem_cons, List.not_mem_nil, or_false] at hw
    rcases hw with (h | h | h | h) | h | h
    · exact hws w (by simp [h])
    · exact hws w (by simp [h])
    · exact hws w (by simp [h])
    · exact hws w (by simp [h])
    · exact hws w (by simp [h])
    · exact h)
  have run : va_Run p l e room_1 s m #[Value.ref b] below meth c H locs 600000 7302250 0 0 (F0 m pc ls ((As.reverse ++ vR t k :: rest).map (cv E))) (rest.map (cv E)) (qc E mm'.2.2.2.1 Q' (Value.ref (E.2.2.1 t k) :: As.map (cv E)).toArray) (fre E) := by
    refine va_runV (As := As.map (cv E)) (rest := rest.map (cv E)) ⟨hx, hb, hml, hown, hts⟩ hM (cwV As.length hts hG rfl hroom.1 hroom.2.1 ⟨rfl, hnm⟩ hroom.2.2) ⟨jc_blind, hrec, jc_pre (args := vR t k :: As) hK hS0 hC hS⟩ rfl (List.length_map ..) hl.1 ?_ ?_ hd ⟨Nat.le_refl _, Nat.le_refl _⟩
    · show List.map (cv E) (As.reverse ++ vR t k :: rest) = _
      rw [List.map_append, List.map_reverse]
      rfl
    · exact lv_room (by rw [cat_sum]; exact hW)
  intro T0 hT X0
  obtain ⟨v, st₀, t', T', L', h0, X', hL', e1, e2, ⟨⟨x, M', hv, hokr, hq, hC2⟩, hz, hk⟩, stp⟩ := run T0 hT X0
  have hv2 : v = rv mm'.2.2.2.1 x := by injection hv
  subst hv2
  rw [h0] at hz hk
  have kq := kk x M' T'.heap (locs ++ L') hq (by rw [e1]; exact hC2) ⟨Nat.le_trans hS.1 (by rw [e1]; exact hz), fun q h1 h2 => by rw [e1, hk q (Nat.lt_of_lt_of_le h1 hS.1) h2]; exact hS.2.1 q h1 h2, fun q hq => by
      rcases List.mem_append.mp hq with h | h
      · exact hS.2.2 q h
      · exact hL' q h⟩
  rw [← push_cv] at kq
  obtain ⟨t2, a1, b1⟩ := kq T' rfl X'
  exact ⟨t2, stp t2 a1, b1⟩
theorem l_back (F : LF p s m meth c b Lx xs E) (hl : lv_has ls 4 (lvl b E i)) (hi : i + 4 < Lx) (hh : Lhead p l e s m below meth c b E (i + 5)) (hZ : ZB Z) (hR : RepC Z M) (hRR : RepR Z M) (hC : wC E H M) (hS : va_S (fre E) s.heap H locs) : W p l e room_1 s m #[Value.ref b] below meth c H locs 600000 7302250 (lw_Z below #[Value.ref b] s) (F0 m 1477 ls []) := by
  obtain ⟨hx, hb, hml, hown, hts, hr, hlk, hA, hK, hS0, hX, hbl, hfr, hLx⟩ := F
  refine lv_iinc (k := 3) (x := i32 (i : Int)) (v := i32 ((i + 5 : Nat) : Int)) (lv' := [(3, .int (i32 ((i + 5 : Nat) : Int))), (0, .ref b), (1, .ref (E.2.2.1 0 0)), (2, .ref (E.2.2.1 20 0))]) hx hb dl_1477 hl rfl ?_ (by decide) rfl (fun ls2 h2 => ?_)
  · show i32 (i : Int) + i32 5 = _
    rw [i32_add, w32_id (by omega) (by omega)]
    rfl
  refine lv_goto (tgt := 18) hx hb dl_1480 rfl ?_
  exact hh Z M H locs ls2 hZ hR hRR hC hS (lv_sub h2 [1, 2, 3, 0] rfl)
theorem l_lcmp0 {pc tgt : Nat} {off : Int} {x : Int64} (F : LF p s m meth c b Lx xs E) (d0 : decode code pc = .ok (.lcmp, 1)) (d1 : decode code (pc + 1) = .ok (.ifCond .eq off, 3)) (ht : ((pc + 1 : Nat) : Int) + off = (tgt : Int)) (kk : W p l e room_1 s m #[Value.ref b] below meth c H locs 600000 7302250 (lw_Z below #[Value.ref b] s) (F0 m tgt ls [])) : W p l e room_1 s m #[Value.ref b] below meth c H locs 600000 7302250 (lw_Z below #[Value.ref b] s) (F0 m pc ls [.long x, .long x]) := by
  refine W.lcmp F.1 F.2.1 d0 ?_
  refine lv_if_eq F.1 F.2.1 d1 ht (fun _ => kk) (fun q => absurd ?_ q)
  simp [lg_cmp]
theorem and63 (z : Int32) : 0 ≤ (z &&& 63).toInt ∧ (z &&& 63).toInt ≤ 63 := by
  have h1 : (z &&& 63).toBitVec.toNat ≤ 63 := by
    rw [Int32.toBitVec_and, BitVec.toNat_and]
    exact Nat.and_le_right
  have h2 : (z &&& 63).toInt = ((z &&& 63).toBitVec.toNat : Int) := by
    show (z &&& 63).toBitVec.toInt = _
    rw [BitVec.toInt_eq_toNat_cond]
    omega
  omega
end

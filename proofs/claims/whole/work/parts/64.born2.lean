/-! making: the contract of a constructor, calls of one, the facts that are carried along -/
theorem wo_83 : Cond.instanceMethod ⟨"java/lang/Object", "<init>", "()V"⟩ ∈ gw := gwi 83 (by decide +kernel) (by decide +kernel)
theorem wo_84 : Cond.code ⟨"java/lang/Object", "<init>", "()V"⟩ object_method_1_code 1 none ∈ gw := gwi 84 (by decide +kernel) (by decide +kernel)
theorem wo_243 : Cond.arrayClass .boolean ∈ gw := gwi 243 (by decide +kernel) (by decide +kernel)
theorem wo_244 : Cond.arrayClass .int ∈ gw := gwi 244 (by decide +kernel) (by decide +kernel)
theorem wo_77 : Cond.classLink "HaulWagesLaw" 7 "HaulWages" ∈ gw := gwi 77 (by decide +kernel) (by decide +kernel)
theorem wo_78 : Cond.instantiable "HaulWages" 12 ∈ gw := gwi 78 (by decide +kernel) (by decide +kernel)
theorem wo_85 : Cond.classLink "HaulWages" 7 "HaulWages$Town" ∈ gw := gwi 85 (by decide +kernel) (by decide +kernel)
theorem wo_86 : Cond.instantiable "HaulWages$Town" 10 ∈ gw := gwi 86 (by decide +kernel) (by decide +kernel)
theorem wo_91 : Cond.classLink "HaulWages$Town" 9 "HaulWages$Good" ∈ gw := gwi 91 (by decide +kernel) (by decide +kernel)
theorem wo_93 : Cond.classLink "HaulWages$Town" 17 "HaulWages$One" ∈ gw := gwi 93 (by decide +kernel) (by decide +kernel)
theorem wo_95 : Cond.instantiable "HaulWages$Good" 6 ∈ gw := gwi 95 (by decide +kernel) (by decide +kernel)
theorem wo_129 : Cond.instantiable "HaulWages$One" 5 ∈ gw := gwi 129 (by decide +kernel) (by decide +kernel)
theorem wo_205 : Cond.classLink "HaulWages" 30 "HaulWages$Tape" ∈ gw := gwi 205 (by decide +kernel) (by decide +kernel)
theorem wo_206 : Cond.instantiable "HaulWages$Tape" 9 ∈ gw := gwi 206 (by decide +kernel) (by decide +kernel)
theorem wo_245 : Cond.classLink "HaulWages" 37 "HaulWages$Sheet" ∈ gw := gwi 245 (by decide +kernel) (by decide +kernel)
theorem wo_247 : Cond.classLink "HaulWages" 43 "HaulWages$Sight" ∈ gw := gwi 247 (by decide +kernel) (by decide +kernel)
theorem wo_249 : Cond.classLink "HaulWages" 49 "[[I" ∈ gw := gwi 249 (by decide +kernel) (by decide +kernel)
theorem wo_251 : Cond.instantiable "HaulWages$Sheet" 3 ∈ gw := gwi 251 (by decide +kernel) (by decide +kernel)
theorem wo_269 : Cond.instantiable "HaulWages$Sight" 3 ∈ gw := gwi 269 (by decide +kernel) (by decide +kernel)
theorem wo_842 : Cond.classLink "HaulWagesLaw" 10 "HaulWagesModel" ∈ gw := gwi 842 (by decide +kernel) (by decide +kernel)
theorem wo_843 : Cond.instantiable "HaulWagesModel" 29 ∈ gw := gwi 843 (by decide +kernel) (by decide +kernel)
abbrev mm_G_init : MM := (yy_G_init, prog_2_method_1_code, 1, none, { frames := 1, cells := 0, slots := 0, locals := 20 })
abbrev mm_O_init : MM := (yy_O_init, prog_3_method_1_code, 1, none, { frames := 1, cells := 0, slots := 0, locals := 20 })
abbrev mm_S_init : MM := (yy_S_init, prog_4_method_1_code, 1, none, { frames := 1, cells := 1, slots := 40, locals := 20 })
abbrev mm_I_init : MM := (yy_I_init, prog_5_method_1_code, 1, none, { frames := 1, cells := 0, slots := 0, locals := 20 })
abbrev mm_P_init : MM := (yy_P_init, prog_6_method_1_code, 1, none, { frames := 1, cells := 1, slots := 160, locals := 20 })
abbrev mm_T_init : MM := (yy_T_init, prog_7_method_1_code, 2, none, { frames := 2, cells := 14, slots := 80, locals := 40 })
abbrev mm_H_init : MM := (yy_H_init, prog_1_method_1_code, 2, none, { frames := 3, cells := 117, slots := 2608, locals := 61 })
abbrev mm_M_init : MM := (yy_M_init, prog_9_method_1_code, 1, none, { frames := 1, cells := 13, slots := 2475, locals := 20 })
def qn (D : va_G) (n0 k : Nat) (P : (Nat → va_E) → Prop) : Array Value → State → Outcome → State → Prop := fun _ st oc t => (oc = .returned none ∧ ∃ cl : Nat → va_E, P cl ∧ CHp D n0 k cl t.heap) ∧ va_F (frN n0) st t
/-- the constructor of the cell o, where k cells stand: behind it k' stand, with P -/
def NI (D : va_G) (ca : Nat → ClassId) (n0 : Nat) (mm : MM) (o k k' : Nat) (cl : Nat → va_E) (P : (Nat → va_E) → Prop) : Prop := ∀ l : Launch, Met l mm.1 (Cond.code mm.1 mm.2.1 mm.2.2.1 none :: gw) mm.2.2.2.2 (va_Pc [.ref (n0 + o)] (fun U => nK D ca U ∧ CHp D n0 k cl U.heap)) (qn D n0 k' P) mm.2.2.2.2.cells mm.2.2.2.2.slots (frN n0)
section
variable {D : va_G} {ca : Nat → ClassId} {n0 k k' o : Nat} {cl : Nat → va_E} {P : (Nat → va_E) → Prop} {mm : MM}
theorem n_entry (hy : plainName mm.1.cls = true) (hnm : mm.1.name = "<init>") (hmax : 1 ≤ mm.2.2.1)
    (body : ∀ (p : Program) (l : Launch) (e : Env) (s : State) (m : MethodId) (args : Array Value) (below : List Frame) (meth : Method) (c : Code) (ls : Array Slot), p.tables.exec = Jvm.exec → c.code = mm.2.1 → s.vm.findClass mm.1.cls = some m.cls → (∀ w ∈ gw, w.before args s = true) → meth.sig.returnType = none → meth.locks = false → meth.name = "<init>" → nK D ca s → CHp D n0 k cl s.heap → lv_has ls mm.2.2.1 [(0, .ref (n0 + o))] → c.maxLocals = mm.2.2.1 → W p l e mm.2.2.2.2 s m args below meth c s.heap [] 0 0 (MQ below (qn D n0 k' P) args s mm.2.2.2.2.cells mm.2.2.2.2.slots (frN n0)) (F0 m 0 ls [])) : NI D ca n0 mm o k k' cl P := by
  intro l
  refine Met.ofW (cc := mm.2.1) (maxL := mm.2.2.1) (ret := none) hy rfl ?_
  intro p e s m ar below meth c s₁ B hml hv
  obtain ⟨rfl, hK, hC⟩ := hv
  have hts := atoms_spec (ws := Cond.code mm.1 mm.2.1 mm.2.2.1 none :: gw) B.pre
  have hl := lv_entry [Value.ref (n0 + o)] (n := mm.2.2.1) hmax
  have hin : meth.name = "<init>" := ((name_of_methodNamed B.named B.method).1).trans hnm
  rw [lg_entry_eq]
  generalize (lg_sl [Value.ref (n0 + o)] ++ List.replicate (mm.2.2.1 - (lg_sl [Value.ref (n0 + o)]).length) Slot.unset).toArray = ls at hl ⊢
  exact body p l e s m _ below meth c ls B.exec B.bytes (findClass_of_methodNamed B.named) (fun w hw => hts w (List.mem_cons_of_mem _ hw)) B.returns B.notSynchronized hin hK hC hl hml
variable {p : Program} {l : Launch} {e : Env} {R : Room} {s : State} {m : MethodId} {args : Array Value} {below : List Frame} {meth : Method} {c : Code} {H : Heap} {locs : List Loc} {cells slots : Nat} {Q : State → Prop} {cc : ByteArray} {pc : Nat} {ls : Array Slot} {rest : List Value} {own : String}
theorem n_vret (hx : p.tables.exec = Jvm.exec) (hb : c.code = cc) (hr : meth.sig.returnType = none) (hlk : meth.locks = false) (hP : P cl) (hC : CHp D n0 k cl H) (hS : va_S (frN n0) s.heap H locs) (hd : decode cc pc = .ok (.return_, 1)) : W p l e R s m args below meth c H locs cells slots (MQ below (qn D n0 k P) args s cells slots (frN n0)) (F0 m pc ls []) :=
  W.vret hx hb hr (fun t ht hW => ⟨⟨rfl, cl, hP, by rw [ht]; exact hC⟩, hS.F ht⟩) hS.2.2 hd
theorem n_obj {nL : Nat} {idx a : Nat} (hx : p.tables.exec = Jvm.exec) (hb : c.code = cc) (hown : s.vm.findClass own = some m.cls) (hts : ∀ w ∈ gw, w.before args s = true) (hw : Cond.methodLink own idx ⟨"java/lang/Object", "<init>", "()V"⟩ ∈ gw) (hml : c.maxLocals = nL) (hsz : ls.size = nL) (hd : decode cc pc = .ok (.invokespecial idx, 3)) (hf : 1 ≤ R.frames) (hlo : 12 ≤ R.locals) (kk : W p l e R s m args below meth c H locs cells slots Q (F0 m (pc + 3) ls [])) : W p l e R s m args below meth c H locs cells slots Q (F0 m pc ls [.ref a]) := by
  refine W.objInit hx hb hown (hts _ hw) (hts _ wo_83) (hts _ wo_84) rfl (by rw [hml]; exact hsz) rfl hd hf (by show 2 * 0 + 0 + 12 ≤ _; omega) ?_
  exact W.eq (g2 := F0 m (pc + 3) ls []) rfl kk
theorem n_goR {mm' : MM} {a : Array Value} (hS : va_S (frN n0) s.heap H locs) (run : va_Run p l e R s m args below meth c H locs cells slots mm'.2.2.2.2.cells mm'.2.2.2.2.slots (F0 m pc ls (.ref (n0 + o) :: rest)) rest (qn D n0 k' P a) (frN n0))
    (kk : ∀ (cl1 : Nat → va_E) (H1 : Heap) (locs1 : List Loc), P cl1 → CHp D n0 k' cl1 H1 → va_S (frN n0) s.heap H1 locs1 → W p l e R s m args below meth c H1 locs1 (cells + mm'.2.2.2.2.cells) (slots + mm'.2.2.2.2.slots) Q (F0 m (pc + 3) ls rest)) : W p l e R s m args below meth c H locs cells slots Q (F0 m pc ls (.ref (n0 + o) :: rest)) := by
  intro T0 hT X0
  obtain ⟨v, st₀, t, T', L', h0, X', hL', e1, e2, ⟨⟨hv, cl1, hP, hC1⟩, hz, hk⟩, stp⟩ := run T0 hT X0
  have hv2 : v = none := by injection hv
  subst hv2
  rw [h0] at hz hk
  obtain ⟨t2, a1, b1⟩ := kk cl1 T'.heap (locs ++ L') hP (by rw [e1]; exact hC1) ⟨Nat.le_trans hS.1 (by rw [e1]; exact hz), fun q h1 h2 => by rw [e1, hk q (Nat.lt_of_lt_of_le h1 hS.1) h2]; exact hS.2.1 q h1 h2, fun q hq => by
      rcases List.mem_append.mp hq with h | h
      · exact hS.2.2 q h
      · exact hL' q h⟩ T' rfl X'
  exact ⟨t2, stp t2 a1, b1⟩
theorem nc_blind : FrameBlind (va_Pc [.ref (n0 + o)] (fun U => nK D ca U ∧ CHp D n0 k cl U.heap)) := by
  intro a U g mk q
  obtain ⟨q0, q1, q2⟩ := q
  exact ⟨q0, nK_same (s := U) (U := U.calling g mk a) rfl q1, q2⟩
/-- a call of a constructor -/
theorem n_call {mm' : MM} {idx nL : Nat} (hN : NI D ca n0 mm' o k k' cl P) (hx : p.tables.exec = Jvm.exec) (hb : c.code = cc) (hml : c.maxLocals = nL) (hown : s.vm.findClass own = some m.cls) (hts : ∀ w ∈ gw, w.before args s = true) (hsz : ls.size = nL) (hK : nK D ca s) (hws : ∀ w ∈ ([.methodLink own idx mm'.1, .instanceMethod mm'.1, .initialized mm'.1.cls, .code mm'.1 mm'.2.1 mm'.2.2.1 none] : List Cond), w ∈ gw) (hnm : nameOk mm' 0) (hni : mm'.1.name = "<init>") (hroom : mm'.2.2.2.2.frames + 1 ≤ R.frames ∧ 8 + (mm'.2.2.1 + 11) + mm'.2.2.2.2.locals ≤ R.locals) (hW : (rest.map fun v => v.category).sum ≤ 8) (hcs : cells + mm'.2.2.2.2.cells ≤ R.cells ∧ slots + mm'.2.2.2.2.slots ≤ R.slots) (hd : decode cc pc = .ok (.invokespecial idx, 3)) (hC : CHp D n0 k cl H) (hS : va_S (frN n0) s.heap H locs)
    (kk : ∀ (cl1 : Nat → va_E) (H1 : Heap) (locs1 : List Loc), P cl1 → CHp D n0 k' cl1 H1 → va_S (frN n0) s.heap H1 locs1 → W p l e R s m args below meth c H1 locs1 (cells + mm'.2.2.2.2.cells) (slots + mm'.2.2.2.2.slots) Q (F0 m (pc + 3) ls rest)) : W p l e R s m args below meth c H locs cells slots Q (F0 m pc ls (.ref (n0 + o) :: rest)) := by
  have hG : GoodIn gw (Cond.code mm'.1 mm'.2.1 mm'.2.2.1 none :: gw) := gin (fun w hw => by
    simp only [List.mem_cons] at hw
    rcases hw with h | h
    · exact hws w (by simp [h])
    · exact h)
  refine n_goR (mm' := mm') (a := [Value.ref (n0 + o)].toArray) hS (va_runI (As := []) (rest := rest) ⟨hx, hb, hml, hown, hts⟩ (hN l) (cwI 0 hts hG rfl rfl rfl (hts _ (hws _ (by simp))) (hts _ (hws _ (by simp))) (hts _ (hws _ (by simp))) hni hnm hroom) ⟨nc_blind, fun U hU hWm => ⟨rfl, nK_warm hWm hK, by rw [hU]; exact hC⟩⟩ rfl rfl hsz rfl (by show 2 * 0 + _ ≤ 8; omega) hd hcs) kk
theorem n_callN {mm' : MM} {idx nL : Nat} (hN : NI D ca n0 mm' o k k' cl P) (hx : p.tables.exec = Jvm.exec) (hb : c.code = cc) (hml : c.maxLocals = nL) (hown : s.vm.findClass own = some m.cls) (hts : ∀ w ∈ gw, w.before args s = true) (hsz : ls.size = nL) (hK : nK D ca s) (hnest : (own, idx, mm'.1) ∈ nesI) (hws : ∀ w ∈ ([.instanceMethod mm'.1, .initialized mm'.1.cls, .code mm'.1 mm'.2.1 mm'.2.2.1 none] : List Cond), w ∈ gw) (hnm : nameOk mm' 0) (hni : mm'.1.name = "<init>") (hroom : mm'.2.2.2.2.frames + 1 ≤ R.frames ∧ 8 + (mm'.2.2.1 + 11) + mm'.2.2.2.2.locals ≤ R.locals) (hW : (rest.map fun v => v.category).sum ≤ 8) (hcs : cells + mm'.2.2.2.2.cells ≤ R.cells ∧ slots + mm'.2.2.2.2.slots ≤ R.slots) (hd : decode cc pc = .ok (.invokespecial idx, 3)) (hC : CHp D n0 k cl H) (hS : va_S (frN n0) s.heap H locs)
    (kk : ∀ (cl1 : Nat → va_E) (H1 : Heap) (locs1 : List Loc), P cl1 → CHp D n0 k' cl1 H1 → va_S (frN n0) s.heap H1 locs1 → W p l e R s m args below meth c H1 locs1 (cells + mm'.2.2.2.2.cells) (slots + mm'.2.2.2.2.slots) Q (F0 m (pc + 3) ls rest)) : W p l e R s m args below meth c H locs cells slots Q (F0 m pc ls (.ref (n0 + o) :: rest)) := by
  have hG : GoodIn gw (Cond.code mm'.1 mm'.2.1 mm'.2.2.1 none :: gw) := gin (fun w hw => by
    simp only [List.mem_cons] at hw
    rcases hw with h | h
    · exact hws w (by simp [h])
    · exact h)
  refine n_goR (mm' := mm') (a := [Value.ref (n0 + o)].toArray) hS (va_runIN (As := []) (rest := rest) ⟨hx, hb, hml, hown, hts⟩ (hN l) ⟨va_cnB 0 hts hG rfl rfl rfl (hK.2.2.1 _ hnest) (hts _ (hws _ (by simp))) hnm hroom, hni, hts _ (hws _ (by simp))⟩ ⟨nc_blind, fun U hU hWm => ⟨rfl, nK_warm hWm hK, by rw [hU]; exact hC⟩⟩ rfl rfl hsz rfl (by show 2 * 0 + _ ≤ 8; omega) hd hcs) kk
end
/-! facts carried along: the cell b, and all others but b -/
theorem mk_put {cl TG : Nat → va_E} {b K : Nat} {F : va_E} (hT : ∀ j, j < K → j ≠ b → cl j = TG j) : upE cl b F b = F ∧ ∀ j, j < K → j ≠ b → upE cl b F j = TG j := ⟨upE_eq _ _ _, fun j h1 h2 => by rw [upE_ne h2]; exact hT j h1 h2⟩
theorem mk_arr {cl TG : Nat → va_E} {b K : Nat} {F v : va_E} (h0 : cl b = F) (hT : ∀ j, j < K → j ≠ b → cl j = TG j) (hbK : b < K) (hv : TG K = v) : upE cl K v b = F ∧ ∀ j, j < K + 1 → j ≠ b → upE cl K v j = TG j := by
  refine ⟨by rw [upE_ne (by omega)]; exact h0, fun j h1 h2 => ?_⟩
  by_cases h : j = K
  · subst h
    rw [upE_eq, hv]
  · rw [upE_ne h]
    exact hT j (by omega) h2

/-! helpers for the folded steps -/
section
variable {E : EE} {mm : MM} {Q : Int → JM → Prop} {pc : Nat} {L : List (Nat × JV)} {st : List JV} {M : JM}
theorem j_topI {x : Int} (k : ∀ y : Int, y = x → JG E mm Q pc L (vI y :: st) M) : JG E mm Q pc L (vI x :: st) M := k x rfl
theorem j_topL {x : Int} (k : ∀ y : Int, y = x → JG E mm Q pc L (vL y :: st) M) : JG E mm Q pc L (vL x :: st) M := k x rfl
theorem j_iincN {j : Nat} {n x : Int} (hd : decode mm.2.1 pc = .ok (.iinc j n, 3)) (hj : jl L j = some (vI x)) (hno : noL L j = true) (k : ∀ y : Int, y = w32 (x + n) → JG E mm Q (pc + 3) ((j, vI y) :: L) st M) : JG E mm Q pc L st M := j_iinc hd hj hno (k _ rfl)
theorem jsub_0 {L : List (Nat × JV)} : jsub [] L := trivial
theorem jsub_c {i : Nat} {v : JV} {r L : List (Nat × JV)} (h : jl L i = some v) (h2 : jsub r L) : jsub ((i, v) :: r) L := ⟨h, h2⟩
theorem j_jump {L' : List (Nat × JV)} (k : JG E mm Q pc L' st M) (hs : jsub L' L) : JG E mm Q pc L st M := j_loc hs k
theorem ws5 {a b c d e : Cond} (h1 : a ∈ gw) (h2 : b ∈ gw) (h3 : c ∈ gw) (h4 : d ∈ gw) (h5 : e ∈ gw) : ∀ w ∈ [a, b, c, d, e], w ∈ gw := List.forall_mem_cons.mpr ⟨h1, List.forall_mem_cons.mpr ⟨h2, List.forall_mem_cons.mpr ⟨h3, List.forall_mem_cons.mpr ⟨h4, List.forall_mem_cons.mpr ⟨h5, fun _ h => absurd h List.not_mem_nil⟩⟩⟩⟩⟩
theorem ws4 {a b c d : Cond} (h1 : a ∈ gw) (h2 : b ∈ gw) (h3 : c ∈ gw) (h4 : d ∈ gw) : ∀ w ∈ [a, b, c, d], w ∈ gw := List.forall_mem_cons.mpr ⟨h1, List.forall_mem_cons.mpr ⟨h2, List.forall_mem_cons.mpr ⟨h3, List.forall_mem_cons.mpr ⟨h4, fun _ h => absurd h List.not_mem_nil⟩⟩⟩⟩
theorem ws3 {a b c : Cond} (h1 : a ∈ gw) (h2 : b ∈ gw) (h3 : c ∈ gw) : ∀ w ∈ [a, b, c], w ∈ gw := List.forall_mem_cons.mpr ⟨h1, List.forall_mem_cons.mpr ⟨h2, List.forall_mem_cons.mpr ⟨h3, fun _ h => absurd h List.not_mem_nil⟩⟩⟩
theorem rok {mm mm' : MM} (h : decide (mm'.2.2.2.2.cells = 0 ∧ mm'.2.2.2.2.slots = 0 ∧ mm'.2.2.2.2.frames + 1 ≤ mm.2.2.2.2.frames ∧ 8 + (mm'.2.2.1 + 11) + mm'.2.2.2.2.locals ≤ mm.2.2.2.2.locals) = true) : roomOk mm mm' := of_decide_eq_true (p := mm'.2.2.2.2.cells = 0 ∧ mm'.2.2.2.2.slots = 0 ∧ mm'.2.2.2.2.frames + 1 ≤ mm.2.2.2.2.frames ∧ 8 + (mm'.2.2.1 + 11) + mm'.2.2.2.2.locals ≤ mm.2.2.2.2.locals) h
theorem j_cVI {mm' : MM} {t i idx ci : Nat} {T : u_T} {N : Nat} {As rest : List JV} {Q' : Int → JM → Prop} (hC' : JC E mm' (vR t i :: As) M Q') (hd : decode mm.2.1 pc = .ok (.invokevirtual idx, 3)) (hws : ∀ w ∈ ([.methodLink mm.1.cls idx mm'.1, .instanceMethod mm'.1, .selects mm'.1.cls mm'.1 mm'.1, .initialized mm'.1.cls, .code mm'.1 mm'.2.1 mm'.2.2.1 mm'.2.2.2.1] : List Cond), w ∈ gw) (hnm : nameOk mm' As.length) (hroom : roomOk mm mm') (hw : isW t) (hob : ∃ fsF : (Nat → ClassId) → (Nat → Nat → Nat) → (Nat → Int) → List Value, ∀ ca ad m, cellF ca ad t i m = .inr (ci, fsF ca ad m)) (hc : vcl[ci]? = some (mm'.1.cls, T, N)) (hW : (rest.map (fun v => if isLg v then 2 else 1)).sum ≤ 8) (hp : ∀ x, push mm'.2.2.2.1 x rest = vI x :: rest) (kk : ∀ (x : Int) (M' : JM), Q' x M' → JG E mm Q (pc + 3) L (vI x :: rest) M') : JG E mm Q pc L (As.reverse ++ vR t i :: rest) M := j_callV hC' hd hws hnm hroom hw hob hc hW (fun x M' h => by rw [hp]; exact kk x M' h)
theorem j_cSI {mm' : MM} {idx : Nat} {As rest : List JV} {Q' : Int → JM → Prop} (hC' : JC E mm' As M Q') (hd : decode mm.2.1 pc = .ok (.invokestatic idx, 3)) (hws : ∀ w ∈ ([.methodLink mm.1.cls idx mm'.1, .static mm'.1, .initialized mm'.1.cls, .code mm'.1 mm'.2.1 mm'.2.2.1 mm'.2.2.2.1] : List Cond), w ∈ gw) (hnm : nameOk mm' As.length) (hroom : roomOk mm mm') (hW : (rest.map (fun v => if isLg v then 2 else 1)).sum ≤ 8) (hp : ∀ x, push mm'.2.2.2.1 x rest = vI x :: rest) (kk : ∀ (x : Int) (M' : JM), Q' x M' → JG E mm Q (pc + 3) L (vI x :: rest) M') : JG E mm Q pc L (As.reverse ++ rest) M := j_callS hC' hd hws hnm hroom hW (fun x M' h => by rw [hp]; exact kk x M' h)
theorem j_cNI {mm' : MM} {idx : Nat} {As rest : List JV} {Q' : Int → JM → Prop} (hC' : JC E mm' As M Q') (hd : decode mm.2.1 pc = .ok (.invokestatic idx, 3)) (hnest : (mm.1.cls, idx, mm'.1) ∈ nestL) (hws : ∀ w ∈ ([.static mm'.1, .initialized mm'.1.cls, .code mm'.1 mm'.2.1 mm'.2.2.1 mm'.2.2.2.1] : List Cond), w ∈ gw) (hnm : nameOk mm' As.length) (hroom : roomOk mm mm') (hW : (rest.map (fun v => if isLg v then 2 else 1)).sum ≤ 8) (hp : ∀ x, push mm'.2.2.2.1 x rest = vI x :: rest) (kk : ∀ (x : Int) (M' : JM), Q' x M' → JG E mm Q (pc + 3) L (vI x :: rest) M') : JG E mm Q pc L (As.reverse ++ rest) M := j_callN hC' hd hnest hws hnm hroom hW (fun x M' h => by rw [hp]; exact kk x M' h)
theorem j_cVL {mm' : MM} {t i idx ci : Nat} {T : u_T} {N : Nat} {As rest : List JV} {Q' : Int → JM → Prop} (hC' : JC E mm' (vR t i :: As) M Q') (hd : decode mm.2.1 pc = .ok (.invokevirtual idx, 3)) (hws : ∀ w ∈ ([.methodLink mm.1.cls idx mm'.1, .instanceMethod mm'.1, .selects mm'.1.cls mm'.1 mm'.1, .initialized mm'.1.cls, .code mm'.1 mm'.2.1 mm'.2.2.1 mm'.2.2.2.1] : List Cond), w ∈ gw) (hnm : nameOk mm' As.length) (hroom : roomOk mm mm') (hw : isW t) (hob : ∃ fsF : (Nat → ClassId) → (Nat → Nat → Nat) → (Nat → Int) → List Value, ∀ ca ad m, cellF ca ad t i m = .inr (ci, fsF ca ad m)) (hc : vcl[ci]? = some (mm'.1.cls, T, N)) (hW : (rest.map (fun v => if isLg v then 2 else 1)).sum ≤ 8) (hp : ∀ x, push mm'.2.2.2.1 x rest = vL x :: rest) (kk : ∀ (x : Int) (M' : JM), Q' x M' → JG E mm Q (pc + 3) L (vL x :: rest) M') : JG E mm Q pc L (As.reverse ++ vR t i :: rest) M := j_callV hC' hd hws hnm hroom hw hob hc hW (fun x M' h => by rw [hp]; exact kk x M' h)
theorem j_cSL {mm' : MM} {idx : Nat} {As rest : List JV} {Q' : Int → JM → Prop} (hC' : JC E mm' As M Q') (hd : decode mm.2.1 pc = .ok (.invokestatic idx, 3)) (hws : ∀ w ∈ ([.methodLink mm.1.cls idx mm'.1, .static mm'.1, .initialized mm'.1.cls, .code mm'.1 mm'.2.1 mm'.2.2.1 mm'.2.2.2.1] : List Cond), w ∈ gw) (hnm : nameOk mm' As.length) (hroom : roomOk mm mm') (hW : (rest.map (fun v => if isLg v then 2 else 1)).sum ≤ 8) (hp : ∀ x, push mm'.2.2.2.1 x rest = vL x :: rest) (kk : ∀ (x : Int) (M' : JM), Q' x M' → JG E mm Q (pc + 3) L (vL x :: rest) M') : JG E mm Q pc L (As.reverse ++ rest) M := j_callS hC' hd hws hnm hroom hW (fun x M' h => by rw [hp]; exact kk x M' h)
theorem j_cNL {mm' : MM} {idx : Nat} {As rest : List JV} {Q' : Int → JM → Prop} (hC' : JC E mm' As M Q') (hd : decode mm.2.1 pc = .ok (.invokestatic idx, 3)) (hnest : (mm.1.cls, idx, mm'.1) ∈ nestL) (hws : ∀ w ∈ ([.static mm'.1, .initialized mm'.1.cls, .code mm'.1 mm'.2.1 mm'.2.2.1 mm'.2.2.2.1] : List Cond), w ∈ gw) (hnm : nameOk mm' As.length) (hroom : roomOk mm mm') (hW : (rest.map (fun v => if isLg v then 2 else 1)).sum ≤ 8) (hp : ∀ x, push mm'.2.2.2.1 x rest = vL x :: rest) (kk : ∀ (x : Int) (M' : JM), Q' x M' → JG E mm Q (pc + 3) L (vL x :: rest) M') : JG E mm Q pc L (As.reverse ++ rest) M := j_callN hC' hd hnest hws hnm hroom hW (fun x M' h => by rw [hp]; exact kk x M' h)
theorem j_cVV {mm' : MM} {t i idx ci : Nat} {T : u_T} {N : Nat} {As rest : List JV} {Q' : Int → JM → Prop} (hC' : JC E mm' (vR t i :: As) M Q') (hd : decode mm.2.1 pc = .ok (.invokevirtual idx, 3)) (hws : ∀ w ∈ ([.methodLink mm.1.cls idx mm'.1, .instanceMethod mm'.1, .selects mm'.1.cls mm'.1 mm'.1, .initialized mm'.1.cls, .code mm'.1 mm'.2.1 mm'.2.2.1 mm'.2.2.2.1] : List Cond), w ∈ gw) (hnm : nameOk mm' As.length) (hroom : roomOk mm mm') (hw : isW t) (hob : ∃ fsF : (Nat → ClassId) → (Nat → Nat → Nat) → (Nat → Int) → List Value, ∀ ca ad m, cellF ca ad t i m = .inr (ci, fsF ca ad m)) (hc : vcl[ci]? = some (mm'.1.cls, T, N)) (hW : (rest.map (fun v => if isLg v then 2 else 1)).sum ≤ 8) (hp : ∀ x, push mm'.2.2.2.1 x rest = rest) (kk : ∀ (x : Int) (M' : JM), Q' x M' → JG E mm Q (pc + 3) L (rest) M') : JG E mm Q pc L (As.reverse ++ vR t i :: rest) M := j_callV hC' hd hws hnm hroom hw hob hc hW (fun x M' h => by rw [hp]; exact kk x M' h)
theorem j_cSV {mm' : MM} {idx : Nat} {As rest : List JV} {Q' : Int → JM → Prop} (hC' : JC E mm' As M Q') (hd : decode mm.2.1 pc = .ok (.invokestatic idx, 3)) (hws : ∀ w ∈ ([.methodLink mm.1.cls idx mm'.1, .static mm'.1, .initialized mm'.1.cls, .code mm'.1 mm'.2.1 mm'.2.2.1 mm'.2.2.2.1] : List Cond), w ∈ gw) (hnm : nameOk mm' As.length) (hroom : roomOk mm mm') (hW : (rest.map (fun v => if isLg v then 2 else 1)).sum ≤ 8) (hp : ∀ x, push mm'.2.2.2.1 x rest = rest) (kk : ∀ (x : Int) (M' : JM), Q' x M' → JG E mm Q (pc + 3) L (rest) M') : JG E mm Q pc L (As.reverse ++ rest) M := j_callS hC' hd hws hnm hroom hW (fun x M' h => by rw [hp]; exact kk x M' h)
theorem j_cNV {mm' : MM} {idx : Nat} {As rest : List JV} {Q' : Int → JM → Prop} (hC' : JC E mm' As M Q') (hd : decode mm.2.1 pc = .ok (.invokestatic idx, 3)) (hnest : (mm.1.cls, idx, mm'.1) ∈ nestL) (hws : ∀ w ∈ ([.static mm'.1, .initialized mm'.1.cls, .code mm'.1 mm'.2.1 mm'.2.2.1 mm'.2.2.2.1] : List Cond), w ∈ gw) (hnm : nameOk mm' As.length) (hroom : roomOk mm mm') (hW : (rest.map (fun v => if isLg v then 2 else 1)).sum ≤ 8) (hp : ∀ x, push mm'.2.2.2.1 x rest = rest) (kk : ∀ (x : Int) (M' : JM), Q' x M' → JG E mm Q (pc + 3) L (rest) M') : JG E mm Q pc L (As.reverse ++ rest) M := j_callN hC' hd hnest hws hnm hroom hW (fun x M' h => by rw [hp]; exact kk x M' h)
end

theorem pn_G : plainName "HaulWages$Good" = true := by decide +kernel
theorem pn_O : plainName "HaulWages$One" = true := by decide +kernel
theorem pn_S : plainName "HaulWages$Sheet" = true := by decide +kernel
theorem pn_I : plainName "HaulWages$Sight" = true := by decide +kernel
theorem pn_P : plainName "HaulWages$Tape" = true := by decide +kernel
theorem pn_T : plainName "HaulWages$Town" = true := by decide +kernel
theorem pn_H : plainName "HaulWages" = true := by decide +kernel
theorem pn_M : plainName "HaulWagesModel" = true := by decide +kernel
theorem pn_N : plainName "java/lang/Integer" = true := by decide +kernel
abbrev mm_G_become : MM := (yy_G_become, prog_2_method_2_code, 4, none, { frames := 2, cells := 0, slots := 0, locals := 41 })
theorem nk_G_become : nameOk mm_G_become 3 := ⟨by decide +kernel, by decide +kernel, by decide +kernel⟩
abbrev mm_G_copyFrom : MM := (yy_G_copyFrom, prog_2_method_3_code, 2, none, { frames := 0, cells := 0, slots := 0, locals := 0 })
theorem nk_G_copyFrom : nameOk mm_G_copyFrom 1 := ⟨by decide +kernel, by decide +kernel, by decide +kernel⟩
abbrev mm_G_heftByKind : MM := (yy_G_heftByKind, prog_2_method_4_code, 1, (some .int), { frames := 0, cells := 0, slots := 0, locals := 0 })
theorem nk_G_heftByKind : nameOk mm_G_heftByKind 0 := ⟨by decide +kernel, by decide +kernel, by decide +kernel⟩
abbrev mm_G_paysByKind : MM := (yy_G_paysByKind, prog_2_method_5_code, 1, (some .int), { frames := 1, cells := 0, slots := 0, locals := 21 })
theorem nk_G_paysByKind : nameOk mm_G_paysByKind 0 := ⟨by decide +kernel, by decide +kernel, by decide +kernel⟩
abbrev mm_O_copyFrom : MM := (yy_O_copyFrom, prog_3_method_2_code, 2, none, { frames := 0, cells := 0, slots := 0, locals := 0 })
theorem nk_O_copyFrom : nameOk mm_O_copyFrom 1 := ⟨by decide +kernel, by decide +kernel, by decide +kernel⟩
abbrev mm_O_emptyArms : MM := (yy_O_emptyArms, prog_3_method_3_code, 1, none, { frames := 0, cells := 0, slots := 0, locals := 0 })
theorem nk_O_emptyArms : nameOk mm_O_emptyArms 0 := ⟨by decide +kernel, by decide +kernel, by decide +kernel⟩
abbrev mm_O_isBent : MM := (yy_O_isBent, prog_3_method_4_code, 1, (some .boolean), { frames := 0, cells := 0, slots := 0, locals := 0 })
theorem nk_O_isBent : nameOk mm_O_isBent 0 := ⟨by decide +kernel, by decide +kernel, by decide +kernel⟩
abbrev mm_S_becomeRow : MM := (yy_S_becomeRow, prog_4_method_2_code, 4, none, { frames := 0, cells := 0, slots := 0, locals := 0 })
theorem nk_S_becomeRow : nameOk mm_S_becomeRow 2 := ⟨by decide +kernel, by decide +kernel, by decide +kernel⟩
abbrev mm_S_faultOfCells : MM := (yy_S_faultOfCells, prog_4_method_3_code, 4, (some .int), { frames := 1, cells := 0, slots := 0, locals := 22 })
theorem nk_S_faultOfCells : nameOk mm_S_faultOfCells 3 := ⟨by decide +kernel, by decide +kernel, by decide +kernel⟩
abbrev mm_S_putCell : MM := (yy_S_putCell, prog_4_method_4_code, 3, none, { frames := 0, cells := 0, slots := 0, locals := 0 })
theorem nk_S_putCell : nameOk mm_S_putCell 2 := ⟨by decide +kernel, by decide +kernel, by decide +kernel⟩
abbrev mm_P_tellAll : MM := (yy_P_tellAll, prog_6_method_2_code, 3, (some .int), { frames := 8, cells := 0, slots := 0, locals := 207 })
theorem nk_P_tellAll : nameOk mm_P_tellAll 1 := ⟨by decide +kernel, by decide +kernel, by decide +kernel⟩
abbrev mm_P_tellLine : MM := (yy_P_tellLine, prog_6_method_3_code, 5, none, { frames := 7, cells := 0, slots := 0, locals := 183 })
theorem nk_P_tellLine : nameOk mm_P_tellLine 1 := ⟨by decide +kernel, by decide +kernel, by decide +kernel⟩
abbrev mm_P_refuseWord : MM := (yy_P_refuseWord, prog_6_method_4_code, 3, none, { frames := 1, cells := 0, slots := 0, locals := 21 })
theorem nk_P_refuseWord : nameOk mm_P_refuseWord 2 := ⟨by decide +kernel, by decide +kernel, by decide +kernel⟩
abbrev mm_P_fail : MM := (yy_P_fail, prog_6_method_5_code, 2, none, { frames := 0, cells := 0, slots := 0, locals := 0 })
theorem nk_P_fail : nameOk mm_P_fail 1 := ⟨by decide +kernel, by decide +kernel, by decide +kernel⟩
abbrev mm_P_nextNumber : MM := (yy_P_nextNumber, prog_6_method_6_code, 4, (some .int), { frames := 3, cells := 0, slots := 0, locals := 60 })
theorem nk_P_nextNumber : nameOk mm_P_nextNumber 2 := ⟨by decide +kernel, by decide +kernel, by decide +kernel⟩
abbrev mm_P_nextSign : MM := (yy_P_nextSign, prog_6_method_7_code, 1, none, { frames := 3, cells := 0, slots := 0, locals := 60 })
theorem nk_P_nextSign : nameOk mm_P_nextSign 0 := ⟨by decide +kernel, by decide +kernel, by decide +kernel⟩
abbrev mm_P_nextToken : MM := (yy_P_nextToken, prog_6_method_8_code, 1, none, { frames := 2, cells := 0, slots := 0, locals := 40 })
theorem nk_P_nextToken : nameOk mm_P_nextToken 0 := ⟨by decide +kernel, by decide +kernel, by decide +kernel⟩
abbrev mm_P_skipLetters : MM := (yy_P_skipLetters, prog_6_method_9_code, 1, none, { frames := 1, cells := 0, slots := 0, locals := 20 })
theorem nk_P_skipLetters : nameOk mm_P_skipLetters 0 := ⟨by decide +kernel, by decide +kernel, by decide +kernel⟩
abbrev mm_P_skipFigures : MM := (yy_P_skipFigures, prog_6_method_10_code, 1, none, { frames := 1, cells := 0, slots := 0, locals := 20 })
theorem nk_P_skipFigures : nameOk mm_P_skipFigures 0 := ⟨by decide +kernel, by decide +kernel, by decide +kernel⟩
abbrev mm_P_isLetter : MM := (yy_P_isLetter, prog_6_method_11_code, 1, (some .boolean), { frames := 0, cells := 0, slots := 0, locals := 0 })
theorem nk_P_isLetter : nameOk mm_P_isLetter 1 := ⟨by decide +kernel, by decide +kernel, by decide +kernel⟩
abbrev mm_P_isFigure : MM := (yy_P_isFigure, prog_6_method_12_code, 1, (some .boolean), { frames := 0, cells := 0, slots := 0, locals := 0 })
theorem nk_P_isFigure : nameOk mm_P_isFigure 1 := ⟨by decide +kernel, by decide +kernel, by decide +kernel⟩
abbrev mm_P_numberOfToken : MM := (yy_P_numberOfToken, prog_6_method_13_code, 3, (some .int), { frames := 0, cells := 0, slots := 0, locals := 0 })
theorem nk_P_numberOfToken : nameOk mm_P_numberOfToken 0 := ⟨by decide +kernel, by decide +kernel, by decide +kernel⟩
abbrev mm_P_wordOfToken : MM := (yy_P_wordOfToken, prog_6_method_14_code, 2, (some .int), { frames := 6, cells := 0, slots := 0, locals := 162 })
theorem nk_P_wordOfToken : nameOk mm_P_wordOfToken 0 := ⟨by decide +kernel, by decide +kernel, by decide +kernel⟩
abbrev mm_P_tokenSpells : MM := (yy_P_tokenSpells, prog_6_method_15_code, 3, (some .boolean), { frames := 5, cells := 0, slots := 0, locals := 140 })
theorem nk_P_tokenSpells : nameOk mm_P_tokenSpells 1 := ⟨by decide +kernel, by decide +kernel, by decide +kernel⟩
abbrev mm_P_spelling : MM := (yy_P_spelling, prog_6_method_16_code, 1, (some (.object "java/lang/String")), { frames := 0, cells := 0, slots := 0, locals := 0 })
theorem nk_P_spelling : nameOk mm_P_spelling 1 := ⟨by decide +kernel, by decide +kernel, by decide +kernel⟩
abbrev mm_T_startAfresh : MM := (yy_T_startAfresh, prog_7_method_2_code, 1, none, { frames := 0, cells := 0, slots := 0, locals := 0 })
theorem nk_T_startAfresh : nameOk mm_T_startAfresh 0 := ⟨by decide +kernel, by decide +kernel, by decide +kernel⟩
abbrev mm_T_copyFrom : MM := (yy_T_copyFrom, prog_7_method_3_code, 3, none, { frames := 1, cells := 0, slots := 0, locals := 21 })
theorem nk_T_copyFrom : nameOk mm_T_copyFrom 1 := ⟨by decide +kernel, by decide +kernel, by decide +kernel⟩
abbrev mm_T_addGood : MM := (yy_T_addGood, prog_7_method_4_code, 4, none, { frames := 3, cells := 0, slots := 0, locals := 64 })
theorem nk_T_addGood : nameOk mm_T_addGood 3 := ⟨by decide +kernel, by decide +kernel, by decide +kernel⟩
abbrev mm_T_addOne : MM := (yy_T_addOne, prog_7_method_5_code, 2, none, { frames := 0, cells := 0, slots := 0, locals := 0 })
theorem nk_T_addOne : nameOk mm_T_addOne 1 := ⟨by decide +kernel, by decide +kernel, by decide +kernel⟩
abbrev mm_T_changePlaces : MM := (yy_T_changePlaces, prog_7_method_6_code, 4, none, { frames := 0, cells := 0, slots := 0, locals := 0 })
theorem nk_T_changePlaces : nameOk mm_T_changePlaces 2 := ⟨by decide +kernel, by decide +kernel, by decide +kernel⟩
abbrev mm_T_passWeeks : MM := (yy_T_passWeeks, prog_7_method_7_code, 3, none, { frames := 3, cells := 0, slots := 0, locals := 71 })
theorem nk_T_passWeeks : nameOk mm_T_passWeeks 1 := ⟨by decide +kernel, by decide +kernel, by decide +kernel⟩
abbrev mm_T_passWeek : MM := (yy_T_passWeek, prog_7_method_8_code, 2, none, { frames := 2, cells := 0, slots := 0, locals := 50 })
theorem nk_T_passWeek : nameOk mm_T_passWeek 1 := ⟨by decide +kernel, by decide +kernel, by decide +kernel⟩
abbrev mm_T_carryOut : MM := (yy_T_carryOut, prog_7_method_9_code, 5, none, { frames := 1, cells := 0, slots := 0, locals := 26 })
theorem nk_T_carryOut : nameOk mm_T_carryOut 1 := ⟨by decide +kernel, by decide +kernel, by decide +kernel⟩
abbrev mm_T_takesBest : MM := (yy_T_takesBest, prog_7_method_10_code, 7, (some .boolean), { frames := 0, cells := 0, slots := 0, locals := 0 })
theorem nk_T_takesBest : nameOk mm_T_takesBest 1 := ⟨by decide +kernel, by decide +kernel, by decide +kernel⟩
abbrev mm_T_payOut : MM := (yy_T_payOut, prog_7_method_11_code, 3, none, { frames := 1, cells := 0, slots := 0, locals := 21 })
theorem nk_T_payOut : nameOk mm_T_payOut 0 := ⟨by decide +kernel, by decide +kernel, by decide +kernel⟩
abbrev mm_T_bringBack : MM := (yy_T_bringBack, prog_7_method_12_code, 4, (some .int), { frames := 0, cells := 0, slots := 0, locals := 0 })
theorem nk_T_bringBack : nameOk mm_T_bringBack 1 := ⟨by decide +kernel, by decide +kernel, by decide +kernel⟩
abbrev mm_T_storeBits : MM := (yy_T_storeBits, prog_7_method_13_code, 3, (some .int), { frames := 0, cells := 0, slots := 0, locals := 0 })
theorem nk_T_storeBits : nameOk mm_T_storeBits 0 := ⟨by decide +kernel, by decide +kernel, by decide +kernel⟩
abbrev mm_T_heftOf : MM := (yy_T_heftOf, prog_7_method_14_code, 4, (some .int), { frames := 1, cells := 0, slots := 0, locals := 21 })
theorem nk_T_heftOf : nameOk mm_T_heftOf 1 := ⟨by decide +kernel, by decide +kernel, by decide +kernel⟩
abbrev mm_T_paysOf : MM := (yy_T_paysOf, prog_7_method_15_code, 4, (some .int), { frames := 1, cells := 0, slots := 0, locals := 21 })
theorem nk_T_paysOf : nameOk mm_T_paysOf 1 := ⟨by decide +kernel, by decide +kernel, by decide +kernel⟩
abbrev mm_T_worthOfAll : MM := (yy_T_worthOfAll, prog_7_method_16_code, 3, (some .int), { frames := 0, cells := 0, slots := 0, locals := 0 })
theorem nk_T_worthOfAll : nameOk mm_T_worthOfAll 0 := ⟨by decide +kernel, by decide +kernel, by decide +kernel⟩
abbrev mm_T_wagesOfAll : MM := (yy_T_wagesOfAll, prog_7_method_17_code, 3, (some .int), { frames := 0, cells := 0, slots := 0, locals := 0 })
theorem nk_T_wagesOfAll : nameOk mm_T_wagesOfAll 0 := ⟨by decide +kernel, by decide +kernel, by decide +kernel⟩
abbrev mm_T_strengthOfAll : MM := (yy_T_strengthOfAll, prog_7_method_18_code, 3, (some .int), { frames := 0, cells := 0, slots := 0, locals := 0 })
theorem nk_T_strengthOfAll : nameOk mm_T_strengthOfAll 0 := ⟨by decide +kernel, by decide +kernel, by decide +kernel⟩
abbrev mm_T_leastWages : MM := (yy_T_leastWages, prog_7_method_19_code, 3, (some .int), { frames := 1, cells := 0, slots := 0, locals := 21 })
theorem nk_T_leastWages : nameOk mm_T_leastWages 0 := ⟨by decide +kernel, by decide +kernel, by decide +kernel⟩
abbrev mm_H_feed : MM := (yy_H_feed, prog_1_method_2_code, 2, (some .int), { frames := 1, cells := 0, slots := 0, locals := 22 })
theorem nk_H_feed : nameOk mm_H_feed 1 := ⟨by decide +kernel, by decide +kernel, by decide +kernel⟩
abbrev mm_H_end : MM := (yy_H_end, prog_1_method_3_code, 3, (some .int), { frames := 1, cells := 0, slots := 0, locals := 22 })
theorem nk_H_end : nameOk mm_H_end 1 := ⟨by decide +kernel, by decide +kernel, by decide +kernel⟩
abbrev mm_H_text : MM := (yy_H_text, prog_1_method_4_code, 3, (some .int), { frames := 9, cells := 0, slots := 0, locals := 229 })
theorem nk_H_text : nameOk mm_H_text 0 := ⟨by decide +kernel, by decide +kernel, by decide +kernel⟩
abbrev mm_H_fault : MM := (yy_H_fault, prog_1_method_5_code, 1, (some .int), { frames := 0, cells := 0, slots := 0, locals := 0 })
theorem nk_H_fault : nameOk mm_H_fault 0 := ⟨by decide +kernel, by decide +kernel, by decide +kernel⟩
abbrev mm_H_rule : MM := (yy_H_rule, prog_1_method_6_code, 2, (some .int), { frames := 1, cells := 0, slots := 0, locals := 22 })
theorem nk_H_rule : nameOk mm_H_rule 1 := ⟨by decide +kernel, by decide +kernel, by decide +kernel⟩
abbrev mm_H_good : MM := (yy_H_good, prog_1_method_7_code, 4, (some .int), { frames := 2, cells := 0, slots := 0, locals := 43 })
theorem nk_H_good : nameOk mm_H_good 2 := ⟨by decide +kernel, by decide +kernel, by decide +kernel⟩
abbrev mm_H_one : MM := (yy_H_one, prog_1_method_8_code, 3, (some .int), { frames := 2, cells := 0, slots := 0, locals := 50 })
theorem nk_H_one : nameOk mm_H_one 2 := ⟨by decide +kernel, by decide +kernel, by decide +kernel⟩
abbrev mm_H_alter : MM := (yy_H_alter, prog_1_method_9_code, 6, (some .int), { frames := 3, cells := 0, slots := 0, locals := 64 })
theorem nk_H_alter : nameOk mm_H_alter 3 := ⟨by decide +kernel, by decide +kernel, by decide +kernel⟩
abbrev mm_H_train : MM := (yy_H_train, prog_1_method_10_code, 6, (some .int), { frames := 2, cells := 0, slots := 0, locals := 43 })
theorem nk_H_train : nameOk mm_H_train 3 := ⟨by decide +kernel, by decide +kernel, by decide +kernel⟩
abbrev mm_H_set : MM := (yy_H_set, prog_1_method_11_code, 4, (some .int), { frames := 1, cells := 0, slots := 0, locals := 22 })
theorem nk_H_set : nameOk mm_H_set 2 := ⟨by decide +kernel, by decide +kernel, by decide +kernel⟩
abbrev mm_H_stock : MM := (yy_H_stock, prog_1_method_12_code, 4, (some .int), { frames := 4, cells := 0, slots := 0, locals := 87 })
theorem nk_H_stock : nameOk mm_H_stock 3 := ⟨by decide +kernel, by decide +kernel, by decide +kernel⟩
abbrev mm_H_hide : MM := (yy_H_hide, prog_1_method_13_code, 2, (some .int), { frames := 2, cells := 0, slots := 0, locals := 43 })
theorem nk_H_hide : nameOk mm_H_hide 1 := ⟨by decide +kernel, by decide +kernel, by decide +kernel⟩
abbrev mm_H_fill : MM := (yy_H_fill, prog_1_method_14_code, 1, (some .int), { frames := 1, cells := 0, slots := 0, locals := 23 })
theorem nk_H_fill : nameOk mm_H_fill 0 := ⟨by decide +kernel, by decide +kernel, by decide +kernel⟩
abbrev mm_H_weeks : MM := (yy_H_weeks, prog_1_method_15_code, 3, (some .int), { frames := 4, cells := 0, slots := 0, locals := 93 })
theorem nk_H_weeks : nameOk mm_H_weeks 1 := ⟨by decide +kernel, by decide +kernel, by decide +kernel⟩
abbrev mm_H_runs : MM := (yy_H_runs, prog_1_method_16_code, 3, (some .int), { frames := 4, cells := 0, slots := 0, locals := 93 })
theorem nk_H_runs : nameOk mm_H_runs 2 := ⟨by decide +kernel, by decide +kernel, by decide +kernel⟩
abbrev mm_H_ahead : MM := (yy_H_ahead, prog_1_method_17_code, 4, (some .int), { frames := 4, cells := 0, slots := 0, locals := 93 })
theorem nk_H_ahead : nameOk mm_H_ahead 3 := ⟨by decide +kernel, by decide +kernel, by decide +kernel⟩
abbrev mm_H_gone : MM := (yy_H_gone, prog_1_method_18_code, 3, (some .int), { frames := 3, cells := 0, slots := 0, locals := 71 })
theorem nk_H_gone : nameOk mm_H_gone 1 := ⟨by decide +kernel, by decide +kernel, by decide +kernel⟩
abbrev mm_H_rich : MM := (yy_H_rich, prog_1_method_19_code, 4, (some .int), { frames := 3, cells := 0, slots := 0, locals := 71 })
theorem nk_H_rich : nameOk mm_H_rich 2 := ⟨by decide +kernel, by decide +kernel, by decide +kernel⟩
abbrev mm_H_arms : MM := (yy_H_arms, prog_1_method_20_code, 7, (some .int), { frames := 2, cells := 0, slots := 0, locals := 44 })
theorem nk_H_arms : nameOk mm_H_arms 2 := ⟨by decide +kernel, by decide +kernel, by decide +kernel⟩
abbrev mm_H_need : MM := (yy_H_need, prog_1_method_21_code, 4, (some .int), { frames := 2, cells := 0, slots := 0, locals := 50 })
theorem nk_H_need : nameOk mm_H_need 2 := ⟨by decide +kernel, by decide +kernel, by decide +kernel⟩
abbrev mm_H_fair : MM := (yy_H_fair, prog_1_method_22_code, 6, (some .int), { frames := 4, cells := 0, slots := 0, locals := 93 })
theorem nk_H_fair : nameOk mm_H_fair 2 := ⟨by decide +kernel, by decide +kernel, by decide +kernel⟩
abbrev mm_H_swap : MM := (yy_H_swap, prog_1_method_23_code, 7, (some .int), { frames := 5, cells := 0, slots := 0, locals := 114 })
theorem nk_H_swap : nameOk mm_H_swap 2 := ⟨by decide +kernel, by decide +kernel, by decide +kernel⟩
abbrev mm_H_lose : MM := (yy_H_lose, prog_1_method_24_code, 6, (some .int), { frames := 5, cells := 0, slots := 0, locals := 114 })
theorem nk_H_lose : nameOk mm_H_lose 2 := ⟨by decide +kernel, by decide +kernel, by decide +kernel⟩
abbrev mm_H_price : MM := (yy_H_price, prog_1_method_25_code, 3, (some .int), { frames := 3, cells := 0, slots := 0, locals := 64 })
theorem nk_H_price : nameOk mm_H_price 1 := ⟨by decide +kernel, by decide +kernel, by decide +kernel⟩
abbrev mm_H_kind : MM := (yy_H_kind, prog_1_method_26_code, 7, (some .int), { frames := 4, cells := 0, slots := 0, locals := 93 })
theorem nk_H_kind : nameOk mm_H_kind 3 := ⟨by decide +kernel, by decide +kernel, by decide +kernel⟩
abbrev mm_H_luck : MM := (yy_H_luck, prog_1_method_27_code, 7, (some .long), { frames := 2, cells := 0, slots := 0, locals := 56 })
theorem nk_H_luck : nameOk mm_H_luck 3 := ⟨by decide +kernel, by decide +kernel, by decide +kernel⟩
abbrev mm_H_mean : MM := (yy_H_mean, prog_1_method_28_code, 8, (some .long), { frames := 5, cells := 0, slots := 0, locals := 124 })
theorem nk_H_mean : nameOk mm_H_mean 3 := ⟨by decide +kernel, by decide +kernel, by decide +kernel⟩
abbrev mm_H_see : MM := (yy_H_see, prog_1_method_29_code, 4, (some .int), { frames := 2, cells := 0, slots := 0, locals := 43 })
theorem nk_H_see : nameOk mm_H_see 3 := ⟨by decide +kernel, by decide +kernel, by decide +kernel⟩
abbrev mm_H_forget : MM := (yy_H_forget, prog_1_method_30_code, 3, (some .int), { frames := 1, cells := 0, slots := 0, locals := 22 })
theorem nk_H_forget : nameOk mm_H_forget 1 := ⟨by decide +kernel, by decide +kernel, by decide +kernel⟩
abbrev mm_H_kinds : MM := (yy_H_kinds, prog_1_method_31_code, 4, (some .int), { frames := 4, cells := 0, slots := 0, locals := 93 })
theorem nk_H_kinds : nameOk mm_H_kinds 1 := ⟨by decide +kernel, by decide +kernel, by decide +kernel⟩
abbrev mm_H_weights : MM := (yy_H_weights, prog_1_method_32_code, 4, (some .int), { frames := 4, cells := 0, slots := 0, locals := 93 })
theorem nk_H_weights : nameOk mm_H_weights 1 := ⟨by decide +kernel, by decide +kernel, by decide +kernel⟩
abbrev mm_H_strengths : MM := (yy_H_strengths, prog_1_method_33_code, 2, (some .int), { frames := 5, cells := 0, slots := 0, locals := 116 })
theorem nk_H_strengths : nameOk mm_H_strengths 1 := ⟨by decide +kernel, by decide +kernel, by decide +kernel⟩
abbrev mm_H_ask : MM := (yy_H_ask, prog_1_method_34_code, 9, (some .int), { frames := 5, cells := 0, slots := 0, locals := 117 })
theorem nk_H_ask : nameOk mm_H_ask 2 := ⟨by decide +kernel, by decide +kernel, by decide +kernel⟩
abbrev mm_H_drift : MM := (yy_H_drift, prog_1_method_35_code, 8, (some .int), { frames := 3, cells := 0, slots := 0, locals := 71 })
theorem nk_H_drift : nameOk mm_H_drift 3 := ⟨by decide +kernel, by decide +kernel, by decide +kernel⟩
abbrev mm_H_keep : MM := (yy_H_keep, prog_1_method_36_code, 3, (some .int), { frames := 2, cells := 0, slots := 0, locals := 43 })
theorem nk_H_keep : nameOk mm_H_keep 1 := ⟨by decide +kernel, by decide +kernel, by decide +kernel⟩
abbrev mm_H_back : MM := (yy_H_back, prog_1_method_37_code, 2, (some .int), { frames := 2, cells := 0, slots := 0, locals := 43 })
theorem nk_H_back : nameOk mm_H_back 1 := ⟨by decide +kernel, by decide +kernel, by decide +kernel⟩
abbrev mm_H_sheet : MM := (yy_H_sheet, prog_1_method_38_code, 4, (some .int), { frames := 2, cells := 0, slots := 0, locals := 42 })
theorem nk_H_sheet : nameOk mm_H_sheet 3 := ⟨by decide +kernel, by decide +kernel, by decide +kernel⟩
abbrev mm_H_lay : MM := (yy_H_lay, prog_1_method_39_code, 5, (some .int), { frames := 2, cells := 0, slots := 0, locals := 45 })
theorem nk_H_lay : nameOk mm_H_lay 3 := ⟨by decide +kernel, by decide +kernel, by decide +kernel⟩
abbrev mm_H_read : MM := (yy_H_read, prog_1_method_40_code, 10, (some .int), { frames := 5, cells := 0, slots := 0, locals := 110 })
theorem nk_H_read : nameOk mm_H_read 4 := ⟨by decide +kernel, by decide +kernel, by decide +kernel⟩
abbrev mm_H_torn : MM := (yy_H_torn, prog_1_method_41_code, 1, (some .int), { frames := 0, cells := 0, slots := 0, locals := 0 })
theorem nk_H_torn : nameOk mm_H_torn 0 := ⟨by decide +kernel, by decide +kernel, by decide +kernel⟩
abbrev mm_H_count : MM := (yy_H_count, prog_1_method_42_code, 2, (some .int), { frames := 1, cells := 0, slots := 0, locals := 22 })
theorem nk_H_count : nameOk mm_H_count 1 := ⟨by decide +kernel, by decide +kernel, by decide +kernel⟩
abbrev mm_H_within : MM := (yy_H_within, prog_1_method_43_code, 3, (some .boolean), { frames := 0, cells := 0, slots := 0, locals := 0 })
theorem nk_H_within : nameOk mm_H_within 3 := ⟨by decide +kernel, by decide +kernel, by decide +kernel⟩
abbrev mm_H_hasBit : MM := (yy_H_hasBit, prog_1_method_44_code, 2, (some .boolean), { frames := 0, cells := 0, slots := 0, locals := 0 })
theorem nk_H_hasBit : nameOk mm_H_hasBit 2 := ⟨by decide +kernel, by decide +kernel, by decide +kernel⟩
abbrev mm_H_isKind : MM := (yy_H_isKind, prog_1_method_45_code, 1, (some .boolean), { frames := 1, cells := 0, slots := 0, locals := 22 })
theorem nk_H_isKind : nameOk mm_H_isKind 1 := ⟨by decide +kernel, by decide +kernel, by decide +kernel⟩
abbrev mm_H_isWeight : MM := (yy_H_isWeight, prog_1_method_46_code, 1, (some .boolean), { frames := 1, cells := 0, slots := 0, locals := 22 })
theorem nk_H_isWeight : nameOk mm_H_isWeight 1 := ⟨by decide +kernel, by decide +kernel, by decide +kernel⟩
abbrev mm_H_isWorth : MM := (yy_H_isWorth, prog_1_method_47_code, 1, (some .boolean), { frames := 1, cells := 0, slots := 0, locals := 22 })
theorem nk_H_isWorth : nameOk mm_H_isWorth 1 := ⟨by decide +kernel, by decide +kernel, by decide +kernel⟩
abbrev mm_H_isSheet : MM := (yy_H_isSheet, prog_1_method_48_code, 1, (some .boolean), { frames := 1, cells := 0, slots := 0, locals := 22 })
theorem nk_H_isSheet : nameOk mm_H_isSheet 1 := ⟨by decide +kernel, by decide +kernel, by decide +kernel⟩
abbrev mm_H_isLane : MM := (yy_H_isLane, prog_1_method_49_code, 1, (some .boolean), { frames := 1, cells := 0, slots := 0, locals := 22 })
theorem nk_H_isLane : nameOk mm_H_isLane 1 := ⟨by decide +kernel, by decide +kernel, by decide +kernel⟩
abbrev mm_H_isGood : MM := (yy_H_isGood, prog_1_method_50_code, 2, (some .boolean), { frames := 1, cells := 0, slots := 0, locals := 22 })
theorem nk_H_isGood : nameOk mm_H_isGood 1 := ⟨by decide +kernel, by decide +kernel, by decide +kernel⟩
abbrev mm_H_isOne : MM := (yy_H_isOne, prog_1_method_51_code, 2, (some .boolean), { frames := 1, cells := 0, slots := 0, locals := 22 })
theorem nk_H_isOne : nameOk mm_H_isOne 1 := ⟨by decide +kernel, by decide +kernel, by decide +kernel⟩
abbrev mm_H_keptImages : MM := (yy_H_keptImages, prog_1_method_52_code, 3, (some .int), { frames := 0, cells := 0, slots := 0, locals := 0 })
theorem nk_H_keptImages : nameOk mm_H_keptImages 0 := ⟨by decide +kernel, by decide +kernel, by decide +kernel⟩
abbrev mm_H_wagesAsItIs : MM := (yy_H_wagesAsItIs, prog_1_method_53_code, 2, (some .int), { frames := 4, cells := 0, slots := 0, locals := 93 })
theorem nk_H_wagesAsItIs : nameOk mm_H_wagesAsItIs 1 := ⟨by decide +kernel, by decide +kernel, by decide +kernel⟩
abbrev mm_H_bestOrMore : MM := (yy_H_bestOrMore, prog_1_method_54_code, 4, (some .int), { frames := 1, cells := 0, slots := 0, locals := 22 })
theorem nk_H_bestOrMore : nameOk mm_H_bestOrMore 3 := ⟨by decide +kernel, by decide +kernel, by decide +kernel⟩
abbrev mm_H_tryKind : MM := (yy_H_tryKind, prog_1_method_55_code, 3, none, { frames := 3, cells := 0, slots := 0, locals := 64 })
theorem nk_H_tryKind : nameOk mm_H_tryKind 2 := ⟨by decide +kernel, by decide +kernel, by decide +kernel⟩
abbrev mm_H_illnesses : MM := (yy_H_illnesses, prog_1_method_56_code, 1, (some .int), { frames := 0, cells := 0, slots := 0, locals := 0 })
theorem nk_H_illnesses : nameOk mm_H_illnesses 0 := ⟨by decide +kernel, by decide +kernel, by decide +kernel⟩
abbrev mm_H_waysOfIllness : MM := (yy_H_waysOfIllness, prog_1_method_57_code, 6, (some .long), { frames := 1, cells := 0, slots := 0, locals := 21 })
theorem nk_H_waysOfIllness : nameOk mm_H_waysOfIllness 2 := ⟨by decide +kernel, by decide +kernel, by decide +kernel⟩
abbrev mm_H_allWaysOfIllness : MM := (yy_H_allWaysOfIllness, prog_1_method_58_code, 4, (some .long), { frames := 0, cells := 0, slots := 0, locals := 0 })
theorem nk_H_allWaysOfIllness : nameOk mm_H_allWaysOfIllness 0 := ⟨by decide +kernel, by decide +kernel, by decide +kernel⟩
abbrev mm_H_gainsBehindWeek : MM := (yy_H_gainsBehindWeek, prog_1_method_59_code, 8, (some .long), { frames := 3, cells := 0, slots := 0, locals := 71 })
theorem nk_H_gainsBehindWeek : nameOk mm_H_gainsBehindWeek 2 := ⟨by decide +kernel, by decide +kernel, by decide +kernel⟩
abbrev mm_H_gainsBehindTwoWeeks : MM := (yy_H_gainsBehindTwoWeeks, prog_1_method_60_code, 7, (some .long), { frames := 4, cells := 0, slots := 0, locals := 98 })
theorem nk_H_gainsBehindTwoWeeks : nameOk mm_H_gainsBehindTwoWeeks 1 := ⟨by decide +kernel, by decide +kernel, by decide +kernel⟩
abbrev mm_H_partOfFraction : MM := (yy_H_partOfFraction, prog_1_method_61_code, 7, (some .long), { frames := 1, cells := 0, slots := 0, locals := 30 })
theorem nk_H_partOfFraction : nameOk mm_H_partOfFraction 3 := ⟨by decide +kernel, by decide +kernel, by decide +kernel⟩
abbrev mm_H_commonDivisor : MM := (yy_H_commonDivisor, prog_1_method_62_code, 11, (some .long), { frames := 0, cells := 0, slots := 0, locals := 0 })
theorem nk_H_commonDivisor : nameOk mm_H_commonDivisor 2 := ⟨by decide +kernel, by decide +kernel, by decide +kernel⟩
abbrev mm_H_trialGoesAsSeen : MM := (yy_H_trialGoesAsSeen, prog_1_method_63_code, 3, (some .boolean), { frames := 3, cells := 0, slots := 0, locals := 71 })
theorem nk_H_trialGoesAsSeen : nameOk mm_H_trialGoesAsSeen 0 := ⟨by decide +kernel, by decide +kernel, by decide +kernel⟩
abbrev mm_H_trialIsAsSeen : MM := (yy_H_trialIsAsSeen, prog_1_method_64_code, 4, (some .boolean), { frames := 0, cells := 0, slots := 0, locals := 0 })
theorem nk_H_trialIsAsSeen : nameOk mm_H_trialIsAsSeen 1 := ⟨by decide +kernel, by decide +kernel, by decide +kernel⟩
abbrev mm_H_lastWeekSeen : MM := (yy_H_lastWeekSeen, prog_1_method_65_code, 3, (some .int), { frames := 1, cells := 0, slots := 0, locals := 21 })
theorem nk_H_lastWeekSeen : nameOk mm_H_lastWeekSeen 0 := ⟨by decide +kernel, by decide +kernel, by decide +kernel⟩
abbrev mm_H_strengthsAsSeen : MM := (yy_H_strengthsAsSeen, prog_1_method_66_code, 4, (some .int), { frames := 4, cells := 0, slots := 0, locals := 93 })
theorem nk_H_strengthsAsSeen : nameOk mm_H_strengthsAsSeen 1 := ⟨by decide +kernel, by decide +kernel, by decide +kernel⟩
abbrev mm_H_foretell : MM := (yy_H_foretell, prog_1_method_67_code, 4, none, { frames := 4, cells := 0, slots := 0, locals := 94 })
theorem nk_H_foretell : nameOk mm_H_foretell 2 := ⟨by decide +kernel, by decide +kernel, by decide +kernel⟩
abbrev mm_H_foretellRow : MM := (yy_H_foretellRow, prog_1_method_68_code, 4, none, { frames := 3, cells := 0, slots := 0, locals := 71 })
theorem nk_H_foretellRow : nameOk mm_H_foretellRow 1 := ⟨by decide +kernel, by decide +kernel, by decide +kernel⟩
abbrev mm_H_mostAlike : MM := (yy_H_mostAlike, prog_1_method_69_code, 5, (some .int), { frames := 2, cells := 0, slots := 0, locals := 46 })
theorem nk_H_mostAlike : nameOk mm_H_mostAlike 2 := ⟨by decide +kernel, by decide +kernel, by decide +kernel⟩
abbrev mm_H_alikeFrom : MM := (yy_H_alikeFrom, prog_1_method_70_code, 6, (some .int), { frames := 1, cells := 0, slots := 0, locals := 21 })
theorem nk_H_alikeFrom : nameOk mm_H_alikeFrom 3 := ⟨by decide +kernel, by decide +kernel, by decide +kernel⟩
abbrev mm_M_in : MM := (yy_M_in, prog_9_method_3_code, 6, (some .boolean), { frames := 0, cells := 0, slots := 0, locals := 0 })
theorem nk_M_in : nameOk mm_M_in 3 := ⟨by decide +kernel, by decide +kernel, by decide +kernel⟩
abbrev mm_M_feed : MM := (yy_M_feed, prog_9_method_4_code, 2, (some .int), { frames := 1, cells := 0, slots := 0, locals := 25 })
theorem nk_M_feed : nameOk mm_M_feed 1 := ⟨by decide +kernel, by decide +kernel, by decide +kernel⟩
abbrev mm_M_end : MM := (yy_M_end, prog_9_method_5_code, 3, (some .int), { frames := 1, cells := 0, slots := 0, locals := 25 })
theorem nk_M_end : nameOk mm_M_end 1 := ⟨by decide +kernel, by decide +kernel, by decide +kernel⟩
abbrev mm_M_byteAt : MM := (yy_M_byteAt, prog_9_method_6_code, 2, (some .int), { frames := 0, cells := 0, slots := 0, locals := 0 })
theorem nk_M_byteAt : nameOk mm_M_byteAt 1 := ⟨by decide +kernel, by decide +kernel, by decide +kernel⟩
abbrev mm_M_fails : MM := (yy_M_fails, prog_9_method_7_code, 2, none, { frames := 0, cells := 0, slots := 0, locals := 0 })
theorem nk_M_fails : nameOk mm_M_fails 1 := ⟨by decide +kernel, by decide +kernel, by decide +kernel⟩
abbrev mm_M_nameHere : MM := (yy_M_nameHere, prog_9_method_8_code, 4, (some .int), { frames := 1, cells := 0, slots := 0, locals := 21 })
theorem nk_M_nameHere : nameOk mm_M_nameHere 0 := ⟨by decide +kernel, by decide +kernel, by decide +kernel⟩
abbrev mm_M_step : MM := (yy_M_step, prog_9_method_9_code, 2, none, { frames := 1, cells := 0, slots := 0, locals := 25 })
theorem nk_M_step : nameOk mm_M_step 0 := ⟨by decide +kernel, by decide +kernel, by decide +kernel⟩
abbrev mm_M_number : MM := (yy_M_number, prog_9_method_10_code, 4, (some .int), { frames := 2, cells := 0, slots := 0, locals := 46 })
theorem nk_M_number : nameOk mm_M_number 2 := ⟨by decide +kernel, by decide +kernel, by decide +kernel⟩
abbrev mm_M_readMore : MM := (yy_M_readMore, prog_9_method_11_code, 3, none, { frames := 3, cells := 0, slots := 0, locals := 69 })
theorem nk_M_readMore : nameOk mm_M_readMore 1 := ⟨by decide +kernel, by decide +kernel, by decide +kernel⟩
abbrev mm_M_readLine : MM := (yy_M_readLine, prog_9_method_12_code, 2, none, { frames := 4, cells := 0, slots := 0, locals := 91 })
theorem nk_M_readLine : nameOk mm_M_readLine 0 := ⟨by decide +kernel, by decide +kernel, by decide +kernel⟩
abbrev mm_M_text : MM := (yy_M_text, prog_9_method_13_code, 3, (some .int), { frames := 5, cells := 0, slots := 0, locals := 112 })
theorem nk_M_text : nameOk mm_M_text 0 := ⟨by decide +kernel, by decide +kernel, by decide +kernel⟩
abbrev mm_M_fault : MM := (yy_M_fault, prog_9_method_14_code, 1, (some .int), { frames := 0, cells := 0, slots := 0, locals := 0 })
theorem nk_M_fault : nameOk mm_M_fault 0 := ⟨by decide +kernel, by decide +kernel, by decide +kernel⟩
abbrev mm_M_isGoods : MM := (yy_M_isGoods, prog_9_method_15_code, 2, (some .boolean), { frames := 1, cells := 0, slots := 0, locals := 25 })
theorem nk_M_isGoods : nameOk mm_M_isGoods 1 := ⟨by decide +kernel, by decide +kernel, by decide +kernel⟩
abbrev mm_M_isOne : MM := (yy_M_isOne, prog_9_method_16_code, 2, (some .boolean), { frames := 1, cells := 0, slots := 0, locals := 25 })
theorem nk_M_isOne : nameOk mm_M_isOne 1 := ⟨by decide +kernel, by decide +kernel, by decide +kernel⟩
abbrev mm_M_heftOn : MM := (yy_M_heftOn, prog_9_method_17_code, 5, (some .int), { frames := 0, cells := 0, slots := 0, locals := 0 })
theorem nk_M_heftOn : nameOk mm_M_heftOn 2 := ⟨by decide +kernel, by decide +kernel, by decide +kernel⟩
abbrev mm_M_paysOn : MM := (yy_M_paysOn, prog_9_method_18_code, 5, (some .int), { frames := 0, cells := 0, slots := 0, locals := 0 })
theorem nk_M_paysOn : nameOk mm_M_paysOn 2 := ⟨by decide +kernel, by decide +kernel, by decide +kernel⟩
abbrev mm_M_bestFor : MM := (yy_M_bestFor, prog_9_method_19_code, 7, (some .int), { frames := 1, cells := 0, slots := 0, locals := 24 })
theorem nk_M_bestFor : nameOk mm_M_bestFor 2 := ⟨by decide +kernel, by decide +kernel, by decide +kernel⟩
abbrev mm_M_roundsOn : MM := (yy_M_roundsOn, prog_9_method_20_code, 7, none, { frames := 2, cells := 0, slots := 0, locals := 50 })
theorem nk_M_roundsOn : nameOk mm_M_roundsOn 3 := ⟨by decide +kernel, by decide +kernel, by decide +kernel⟩
abbrev mm_M_paysAll : MM := (yy_M_paysAll, prog_9_method_21_code, 5, (some .int), { frames := 1, cells := 0, slots := 0, locals := 24 })
theorem nk_M_paysAll : nameOk mm_M_paysAll 2 := ⟨by decide +kernel, by decide +kernel, by decide +kernel⟩
abbrev mm_M_weekOn : MM := (yy_M_weekOn, prog_9_method_22_code, 6, none, { frames := 3, cells := 0, slots := 0, locals := 76 })
theorem nk_M_weekOn : nameOk mm_M_weekOn 3 := ⟨by decide +kernel, by decide +kernel, by decide +kernel⟩
abbrev mm_M_goesOn : MM := (yy_M_goesOn, prog_9_method_23_code, 2, none, { frames := 4, cells := 0, slots := 0, locals := 101 })
theorem nk_M_goesOn : nameOk mm_M_goesOn 1 := ⟨by decide +kernel, by decide +kernel, by decide +kernel⟩
abbrev mm_M_storeOn : MM := (yy_M_storeOn, prog_9_method_24_code, 4, (some .int), { frames := 0, cells := 0, slots := 0, locals := 0 })
theorem nk_M_storeOn : nameOk mm_M_storeOn 1 := ⟨by decide +kernel, by decide +kernel, by decide +kernel⟩
abbrev mm_M_wagesOn : MM := (yy_M_wagesOn, prog_9_method_25_code, 4, (some .int), { frames := 0, cells := 0, slots := 0, locals := 0 })
theorem nk_M_wagesOn : nameOk mm_M_wagesOn 1 := ⟨by decide +kernel, by decide +kernel, by decide +kernel⟩
abbrev mm_M_leastOn : MM := (yy_M_leastOn, prog_9_method_26_code, 4, (some .int), { frames := 0, cells := 0, slots := 0, locals := 0 })
theorem nk_M_leastOn : nameOk mm_M_leastOn 1 := ⟨by decide +kernel, by decide +kernel, by decide +kernel⟩
abbrev mm_M_rule : MM := (yy_M_rule, prog_9_method_27_code, 2, (some .int), { frames := 1, cells := 0, slots := 0, locals := 23 })
theorem nk_M_rule : nameOk mm_M_rule 1 := ⟨by decide +kernel, by decide +kernel, by decide +kernel⟩
abbrev mm_M_good : MM := (yy_M_good, prog_9_method_28_code, 3, (some .int), { frames := 2, cells := 0, slots := 0, locals := 46 })
theorem nk_M_good : nameOk mm_M_good 2 := ⟨by decide +kernel, by decide +kernel, by decide +kernel⟩
abbrev mm_M_copies : MM := (yy_M_copies, prog_9_method_29_code, 4, none, { frames := 0, cells := 0, slots := 0, locals := 0 })
theorem nk_M_copies : nameOk mm_M_copies 2 := ⟨by decide +kernel, by decide +kernel, by decide +kernel⟩
abbrev mm_M_tries : MM := (yy_M_tries, prog_9_method_30_code, 2, none, { frames := 3, cells := 0, slots := 0, locals := 76 })
theorem nk_M_tries : nameOk mm_M_tries 1 := ⟨by decide +kernel, by decide +kernel, by decide +kernel⟩
abbrev mm_M_one : MM := (yy_M_one, prog_9_method_31_code, 3, (some .int), { frames := 4, cells := 0, slots := 0, locals := 97 })
theorem nk_M_one : nameOk mm_M_one 2 := ⟨by decide +kernel, by decide +kernel, by decide +kernel⟩
abbrev mm_M_puts : MM := (yy_M_puts, prog_9_method_32_code, 6, (some .int), { frames := 0, cells := 0, slots := 0, locals := 0 })
theorem nk_M_puts : nameOk mm_M_puts 4 := ⟨by decide +kernel, by decide +kernel, by decide +kernel⟩
abbrev mm_M_isRight : MM := (yy_M_isRight, prog_9_method_33_code, 2, (some .boolean), { frames := 1, cells := 0, slots := 0, locals := 25 })
theorem nk_M_isRight : nameOk mm_M_isRight 2 := ⟨by decide +kernel, by decide +kernel, by decide +kernel⟩
abbrev mm_M_alter : MM := (yy_M_alter, prog_9_method_34_code, 4, (some .int), { frames := 2, cells := 0, slots := 0, locals := 46 })
theorem nk_M_alter : nameOk mm_M_alter 3 := ⟨by decide +kernel, by decide +kernel, by decide +kernel⟩
abbrev mm_M_train : MM := (yy_M_train, prog_9_method_35_code, 5, (some .int), { frames := 2, cells := 0, slots := 0, locals := 46 })
theorem nk_M_train : nameOk mm_M_train 3 := ⟨by decide +kernel, by decide +kernel, by decide +kernel⟩
abbrev mm_M_set : MM := (yy_M_set, prog_9_method_36_code, 3, (some .int), { frames := 1, cells := 0, slots := 0, locals := 25 })
theorem nk_M_set : nameOk mm_M_set 2 := ⟨by decide +kernel, by decide +kernel, by decide +kernel⟩
abbrev mm_M_stocks : MM := (yy_M_stocks, prog_9_method_37_code, 5, (some .int), { frames := 2, cells := 0, slots := 0, locals := 46 })
theorem nk_M_stocks : nameOk mm_M_stocks 3 := ⟨by decide +kernel, by decide +kernel, by decide +kernel⟩
abbrev mm_M_stock : MM := (yy_M_stock, prog_9_method_38_code, 4, (some .int), { frames := 3, cells := 0, slots := 0, locals := 70 })
theorem nk_M_stock : nameOk mm_M_stock 3 := ⟨by decide +kernel, by decide +kernel, by decide +kernel⟩
abbrev mm_M_hide : MM := (yy_M_hide, prog_9_method_39_code, 2, (some .int), { frames := 2, cells := 0, slots := 0, locals := 46 })
theorem nk_M_hide : nameOk mm_M_hide 1 := ⟨by decide +kernel, by decide +kernel, by decide +kernel⟩
abbrev mm_M_fill : MM := (yy_M_fill, prog_9_method_40_code, 3, (some .int), { frames := 0, cells := 0, slots := 0, locals := 0 })
theorem nk_M_fill : nameOk mm_M_fill 0 := ⟨by decide +kernel, by decide +kernel, by decide +kernel⟩
abbrev mm_M_weeks : MM := (yy_M_weeks, prog_9_method_41_code, 4, (some .int), { frames := 5, cells := 0, slots := 0, locals := 122 })
theorem nk_M_weeks : nameOk mm_M_weeks 1 := ⟨by decide +kernel, by decide +kernel, by decide +kernel⟩
abbrev mm_M_weeksGo : MM := (yy_M_weeksGo, prog_9_method_42_code, 4, (some .int), { frames := 5, cells := 0, slots := 0, locals := 122 })
theorem nk_M_weeksGo : nameOk mm_M_weeksGo 2 := ⟨by decide +kernel, by decide +kernel, by decide +kernel⟩
abbrev mm_M_runs : MM := (yy_M_runs, prog_9_method_43_code, 4, (some .int), { frames := 6, cells := 0, slots := 0, locals := 145 })
theorem nk_M_runs : nameOk mm_M_runs 2 := ⟨by decide +kernel, by decide +kernel, by decide +kernel⟩
abbrev mm_M_ahead : MM := (yy_M_ahead, prog_9_method_44_code, 4, (some .int), { frames := 6, cells := 0, slots := 0, locals := 145 })
theorem nk_M_ahead : nameOk mm_M_ahead 3 := ⟨by decide +kernel, by decide +kernel, by decide +kernel⟩
abbrev mm_M_gone : MM := (yy_M_gone, prog_9_method_45_code, 3, (some .int), { frames := 5, cells := 0, slots := 0, locals := 122 })
theorem nk_M_gone : nameOk mm_M_gone 1 := ⟨by decide +kernel, by decide +kernel, by decide +kernel⟩
abbrev mm_M_rich : MM := (yy_M_rich, prog_9_method_46_code, 4, (some .int), { frames := 5, cells := 0, slots := 0, locals := 122 })
theorem nk_M_rich : nameOk mm_M_rich 2 := ⟨by decide +kernel, by decide +kernel, by decide +kernel⟩
abbrev mm_M_arms : MM := (yy_M_arms, prog_9_method_47_code, 10, (some .int), { frames := 2, cells := 0, slots := 0, locals := 48 })
theorem nk_M_arms : nameOk mm_M_arms 2 := ⟨by decide +kernel, by decide +kernel, by decide +kernel⟩
abbrev mm_M_need : MM := (yy_M_need, prog_9_method_48_code, 4, (some .int), { frames := 4, cells := 0, slots := 0, locals := 97 })
theorem nk_M_need : nameOk mm_M_need 2 := ⟨by decide +kernel, by decide +kernel, by decide +kernel⟩
abbrev mm_M_fair : MM := (yy_M_fair, prog_9_method_49_code, 7, (some .int), { frames := 6, cells := 0, slots := 0, locals := 145 })
theorem nk_M_fair : nameOk mm_M_fair 2 := ⟨by decide +kernel, by decide +kernel, by decide +kernel⟩
abbrev mm_M_swap : MM := (yy_M_swap, prog_9_method_50_code, 8, (some .int), { frames := 6, cells := 0, slots := 0, locals := 145 })
theorem nk_M_swap : nameOk mm_M_swap 2 := ⟨by decide +kernel, by decide +kernel, by decide +kernel⟩
abbrev mm_M_lose : MM := (yy_M_lose, prog_9_method_51_code, 7, (some .int), { frames := 6, cells := 0, slots := 0, locals := 145 })
theorem nk_M_lose : nameOk mm_M_lose 2 := ⟨by decide +kernel, by decide +kernel, by decide +kernel⟩
abbrev mm_M_price : MM := (yy_M_price, prog_9_method_52_code, 3, (some .int), { frames := 4, cells := 0, slots := 0, locals := 97 })
theorem nk_M_price : nameOk mm_M_price 1 := ⟨by decide +kernel, by decide +kernel, by decide +kernel⟩
abbrev mm_M_kind : MM := (yy_M_kind, prog_9_method_53_code, 8, (some .int), { frames := 6, cells := 0, slots := 0, locals := 145 })
theorem nk_M_kind : nameOk mm_M_kind 3 := ⟨by decide +kernel, by decide +kernel, by decide +kernel⟩
abbrev mm_M_lowest : MM := (yy_M_lowest, prog_9_method_54_code, 11, (some .long), { frames := 0, cells := 0, slots := 0, locals := 0 })
theorem nk_M_lowest : nameOk mm_M_lowest 3 := ⟨by decide +kernel, by decide +kernel, by decide +kernel⟩
abbrev mm_M_byIllness : MM := (yy_M_byIllness, prog_9_method_55_code, 13, (some .long), { frames := 4, cells := 0, slots := 0, locals := 101 })
theorem nk_M_byIllness : nameOk mm_M_byIllness 4 := ⟨by decide +kernel, by decide +kernel, by decide +kernel⟩
abbrev mm_M_luck : MM := (yy_M_luck, prog_9_method_56_code, 4, (some .long), { frames := 5, cells := 0, slots := 0, locals := 133 })
theorem nk_M_luck : nameOk mm_M_luck 3 := ⟨by decide +kernel, by decide +kernel, by decide +kernel⟩
abbrev mm_M_mean : MM := (yy_M_mean, prog_9_method_57_code, 4, (some .long), { frames := 5, cells := 0, slots := 0, locals := 133 })
theorem nk_M_mean : nameOk mm_M_mean 3 := ⟨by decide +kernel, by decide +kernel, by decide +kernel⟩
abbrev mm_M_see : MM := (yy_M_see, prog_9_method_58_code, 4, (some .int), { frames := 2, cells := 0, slots := 0, locals := 46 })
theorem nk_M_see : nameOk mm_M_see 3 := ⟨by decide +kernel, by decide +kernel, by decide +kernel⟩
abbrev mm_M_forget : MM := (yy_M_forget, prog_9_method_59_code, 3, (some .int), { frames := 1, cells := 0, slots := 0, locals := 25 })
theorem nk_M_forget : nameOk mm_M_forget 1 := ⟨by decide +kernel, by decide +kernel, by decide +kernel⟩
abbrev mm_M_isAsSeen : MM := (yy_M_isAsSeen, prog_9_method_60_code, 5, (some .boolean), { frames := 5, cells := 0, slots := 0, locals := 122 })
theorem nk_M_isAsSeen : nameOk mm_M_isAsSeen 1 := ⟨by decide +kernel, by decide +kernel, by decide +kernel⟩
abbrev mm_M_numbersAt : MM := (yy_M_numbersAt, prog_9_method_61_code, 7, (some .int), { frames := 6, cells := 0, slots := 0, locals := 146 })
theorem nk_M_numbersAt : nameOk mm_M_numbersAt 3 := ⟨by decide +kernel, by decide +kernel, by decide +kernel⟩
abbrev mm_M_kinds : MM := (yy_M_kinds, prog_9_method_62_code, 2, (some .int), { frames := 7, cells := 0, slots := 0, locals := 172 })
theorem nk_M_kinds : nameOk mm_M_kinds 1 := ⟨by decide +kernel, by decide +kernel, by decide +kernel⟩
abbrev mm_M_weights : MM := (yy_M_weights, prog_9_method_63_code, 2, (some .int), { frames := 7, cells := 0, slots := 0, locals := 172 })
theorem nk_M_weights : nameOk mm_M_weights 1 := ⟨by decide +kernel, by decide +kernel, by decide +kernel⟩
abbrev mm_M_strengths : MM := (yy_M_strengths, prog_9_method_64_code, 2, (some .int), { frames := 7, cells := 0, slots := 0, locals := 172 })
theorem nk_M_strengths : nameOk mm_M_strengths 1 := ⟨by decide +kernel, by decide +kernel, by decide +kernel⟩
abbrev mm_M_worstAt : MM := (yy_M_worstAt, prog_9_method_65_code, 7, (some .int), { frames := 0, cells := 0, slots := 0, locals := 0 })
theorem nk_M_worstAt : nameOk mm_M_worstAt 2 := ⟨by decide +kernel, by decide +kernel, by decide +kernel⟩
abbrev mm_M_ask : MM := (yy_M_ask, prog_9_method_66_code, 9, (some .int), { frames := 7, cells := 0, slots := 0, locals := 172 })
theorem nk_M_ask : nameOk mm_M_ask 2 := ⟨by decide +kernel, by decide +kernel, by decide +kernel⟩
abbrev mm_M_drift : MM := (yy_M_drift, prog_9_method_67_code, 7, (some .int), { frames := 4, cells := 0, slots := 0, locals := 101 })
theorem nk_M_drift : nameOk mm_M_drift 3 := ⟨by decide +kernel, by decide +kernel, by decide +kernel⟩
abbrev mm_M_keep : MM := (yy_M_keep, prog_9_method_68_code, 3, (some .int), { frames := 1, cells := 0, slots := 0, locals := 25 })
theorem nk_M_keep : nameOk mm_M_keep 1 := ⟨by decide +kernel, by decide +kernel, by decide +kernel⟩
abbrev mm_M_back : MM := (yy_M_back, prog_9_method_69_code, 2, (some .int), { frames := 1, cells := 0, slots := 0, locals := 25 })
theorem nk_M_back : nameOk mm_M_back 1 := ⟨by decide +kernel, by decide +kernel, by decide +kernel⟩
abbrev mm_M_sheet : MM := (yy_M_sheet, prog_9_method_70_code, 5, (some .int), { frames := 1, cells := 0, slots := 0, locals := 25 })
theorem nk_M_sheet : nameOk mm_M_sheet 3 := ⟨by decide +kernel, by decide +kernel, by decide +kernel⟩
abbrev mm_M_lay : MM := (yy_M_lay, prog_9_method_71_code, 4, (some .int), { frames := 1, cells := 0, slots := 0, locals := 25 })
theorem nk_M_lay : nameOk mm_M_lay 3 := ⟨by decide +kernel, by decide +kernel, by decide +kernel⟩
abbrev mm_M_read : MM := (yy_M_read, prog_9_method_72_code, 9, (some .int), { frames := 3, cells := 0, slots := 0, locals := 70 })
theorem nk_M_read : nameOk mm_M_read 4 := ⟨by decide +kernel, by decide +kernel, by decide +kernel⟩
abbrev mm_M_torn : MM := (yy_M_torn, prog_9_method_73_code, 1, (some .int), { frames := 0, cells := 0, slots := 0, locals := 0 })
theorem nk_M_torn : nameOk mm_M_torn 0 := ⟨by decide +kernel, by decide +kernel, by decide +kernel⟩
abbrev mm_M_count : MM := (yy_M_count, prog_9_method_74_code, 5, (some .int), { frames := 0, cells := 0, slots := 0, locals := 0 })
theorem nk_M_count : nameOk mm_M_count 1 := ⟨by decide +kernel, by decide +kernel, by decide +kernel⟩
abbrev mm_N_bitCount : MM := (yy_N_bitCount, prog_10_method_49_code, 1, (some .int), { frames := 0, cells := 0, slots := 0, locals := 0 })
theorem nk_N_bitCount : nameOk mm_N_bitCount 1 := ⟨by decide +kernel, by decide +kernel, by decide +kernel⟩

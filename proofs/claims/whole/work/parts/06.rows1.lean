/-! rows: an instruction each, over the memory -/
section
variable {E : EE} {mm : MM} {Q : Int → JM → Prop} {pc : Nat} {L : List (Nat × JV)} {st : List JV} {M : JM}
theorem inRd {n : Int} (h : decide (-2147483648 ≤ n ∧ n ≤ 2147483647) = true) : inR n := of_decide_eq_true (p := -2147483648 ≤ n ∧ n ≤ 2147483647) h
theorem inLd {n : Int} (h : decide (-9223372036854775808 ≤ n ∧ n ≤ 9223372036854775807) = true) : inL n := of_decide_eq_true (p := -9223372036854775808 ≤ n ∧ n ≤ 9223372036854775807) h
theorem jl_has {E : EE} {nL : Nat} {ls : Array Slot} {L : List (Nat × JV)} (h : lvOk E nL ls L) : lv_has ls nL ((List.range nL).filterMap (fun i => (jl L i).map (fun v => (i, cv E v)))) := by
  refine ⟨h.1, h.2.1, fun q hq => ?_⟩
  obtain ⟨i, -, hi⟩ := List.mem_filterMap.mp hq
  cases hv : jl L i with
  | none => rw [hv] at hi; cases hi
  | some v =>
    rw [hv] at hi
    cases hi
    exact h.2.2 i v hv
def isLg : JV → Bool
  | .inr (.inl _) => true
  | _ => false
/-- no long stands just ahead of the place -/
def noL (L : List (Nat × JV)) (i : Nat) : Bool := match i with
  | 0 => true
  | k + 1 => match jl L k with
    | some v => !isLg v
    | none => true
theorem cv_cat {E : EE} {v : JV} (h : isLg v = false) : (cv E v).category = 1 := by
  match v, h with
  | .inl x, _ => rfl
  | .inr (.inr q), _ => rfl
theorem cv_cat2 {E : EE} {v : JV} (h : isLg v = true) : (cv E v).category = 2 := by
  match v, h with
  | .inr (.inl q), _ => rfl
theorem jl_lt {E : EE} {nL : Nat} {ls : Array Slot} {L : List (Nat × JV)} (h : lvOk E nL ls L) {i : Nat} {v : JV} (hi : jl L i = some v) : i < nL := by
  have := h.2.2 i v hi
  rw [← h.1]
  exact (Array.getElem?_eq_some_iff.mp this).1
theorem jl_mem {E : EE} {nL : Nat} {ls : Array Slot} {L : List (Nat × JV)} (h : lvOk E nL ls L) {i : Nat} {v : JV} (hi : jl L i = some v) : (i, cv E v) ∈ (List.range nL).filterMap (fun i => (jl L i).map (fun v => (i, cv E v))) :=
  List.mem_filterMap.mpr ⟨i, List.mem_range.mpr (jl_lt h hi), by rw [hi]; rfl⟩
theorem jl_put1 {E : EE} {nL : Nat} {ls ls' : Array Slot} {L : List (Nat × JV)} {i : Nat} {v : JV} (h : lvOk E nL ls L) (hn : noL L i = true)
    (h' : lv_has ls' nL ((i, cv E v) :: ((List.range nL).filterMap (fun i => (jl L i).map (fun v => (i, cv E v)))).filter (fun q => !(q.1 == i) && !(q.1 + 1 == i && q.2.category == 2)))) : lvOk E nL ls' ((i, v) :: L) := by
  refine ⟨h'.1, h'.2.1, fun j w hj => ?_⟩
  unfold jl at hj
  split at hj
  · rename_i e
    cases hj
    dsimp only at e
    subst e
    exact h'.2.2 (i, cv E v) List.mem_cons_self
  · rename_i e
    dsimp only at e
    refine h'.2.2 (j, cv E w) (List.mem_cons_of_mem _ (List.mem_filter.mpr ⟨jl_mem h hj, ?_⟩))
    have e1 : (j == i) = false := by simp; exact fun q => e q.symm
    by_cases e2 : j + 1 = i
    · subst e2
      have hn : (match jl L j with | some v => !isLg v | none => true) = true := hn
      rw [hj] at hn
      have hg : isLg w = false := by simpa using hn
      simp [cv_cat (E := E) hg]
    · simp [e1, e2]
theorem jl_put2 {E : EE} {nL : Nat} {ls ls' : Array Slot} {L : List (Nat × JV)} {i : Nat} {v : JV} (h : lvOk E nL ls L) (hn : noL L i = true) (hf : jl L (i + 1) = none)
    (h' : lv_has ls' nL ((i, cv E v) :: ((List.range nL).filterMap (fun i => (jl L i).map (fun v => (i, cv E v)))).filter (fun q => !(q.1 == i) && (!(q.1 == i + 1) && !(q.1 + 1 == i && q.2.category == 2))))) : lvOk E nL ls' ((i, v) :: L) := by
  refine ⟨h'.1, h'.2.1, fun j w hj => ?_⟩
  unfold jl at hj
  split at hj
  · rename_i e
    cases hj
    dsimp only at e
    subst e
    exact h'.2.2 (i, cv E v) List.mem_cons_self
  · rename_i e
    dsimp only at e
    refine h'.2.2 (j, cv E w) (List.mem_cons_of_mem _ (List.mem_filter.mpr ⟨jl_mem h hj, ?_⟩))
    have e0 : ¬ j = i + 1 := fun q => by rw [q, hf] at hj; cases hj
    by_cases e2 : j + 1 = i
    · subst e2
      have hn : (match jl L j with | some v => !isLg v | none => true) = true := hn
      rw [hj] at hn
      have hg : isLg w = false := by simpa using hn
      simp [cv_cat (E := E) hg]
      omega
    · simp [e0, e2]
      exact fun q => e q.symm
theorem okL_c {L : List (Nat × JV)} {i : Nat} {v : JV} (h : okL L) (hv : okV v) : okL ((i, v) :: L) := by
  intro j w hj
  unfold jl at hj
  split at hj
  · cases hj; exact hv
  · exact h j w hj
/-- fewer locals, in another order -/
def jsub : List (Nat × JV) → List (Nat × JV) → Prop
  | [], _ => True
  | q :: r, L => jl L q.1 = some q.2 ∧ jsub r L
theorem jsub_jl {L : List (Nat × JV)} : ∀ {L' : List (Nat × JV)}, jsub L' L → ∀ {i : Nat} {v : JV}, jl L' i = some v → jl L i = some v
  | [], _, i, v, h => by cases h
  | q :: r, hs, i, v, h => by
    unfold jl at h
    split at h
    · rename_i e
      cases h
      rw [← e]
      exact hs.1
    · exact jsub_jl hs.2 h
theorem j_loc {L' : List (Nat × JV)} (hs : jsub L' L) (k : JG E mm Q pc L' st M) : JG E mm Q pc L st M := by
  intro p l e s m args below meth c H locs ls X
  obtain ⟨hx, hb, hml, hown, hts, hr, hlk, hA, hK, hS0, hC, hS, hl, hL, hst⟩ := X
  exact k p l e s m args below meth c H locs ls ⟨hx, hb, hml, hown, hts, hr, hlk, hA, hK, hS0, hC, hS, ⟨hl.1, hl.2.1, fun i v h => hl.2.2 i v (jsub_jl hs h)⟩, fun i v h => hL i v (jsub_jl hs h), hst⟩
/-- what is known of every value on the way -/
theorem j_ok (k : okL L → okS st → mok M → JG E mm Q pc L st M) : JG E mm Q pc L st M := by
  intro p l e s m args below meth c H locs ls X
  obtain ⟨hx, hb, hml, hown, hts, hr, hlk, hA, hK, hS0, hC, hS, hl, hL, hst⟩ := X
  exact k hL hst hC.2 p l e s m args below meth c H locs ls ⟨hx, hb, hml, hown, hts, hr, hlk, hA, hK, hS0, hC, hS, hl, hL, hst⟩
theorem j_iconst {n : Int} (hd : decode mm.2.1 pc = .ok (.iconst n, 1)) (hn : inR n) (k : JG E mm Q (pc + 1) L (vI n :: st) M) : JG E mm Q pc L (st) M := by
  intro p l e s m args below meth c H locs ls X
  obtain ⟨hx, hb, hml, hown, hts, hr, hlk, hA, hK, hS0, hC, hS, hl, hL, hst⟩ := X
  refine lv_iconst hx hb hd (v := i32 n) rfl ?_
  exact k p l e s m args below meth c H locs ls ⟨hx, hb, hml, hown, hts, hr, hlk, hA, hK, hS0, hC, hS, hl, hL, okS_c (v := vI n) hn hst⟩
theorem j_bipush {n : Int} (hd : decode mm.2.1 pc = .ok (.bipush n, 2)) (hv : (Int8.ofInt n).toInt32 = i32 n) (hn : inR n) (k : JG E mm Q (pc + 2) L (vI n :: st) M) : JG E mm Q pc L (st) M := by
  intro p l e s m args below meth c H locs ls X
  obtain ⟨hx, hb, hml, hown, hts, hr, hlk, hA, hK, hS0, hC, hS, hl, hL, hst⟩ := X
  refine lv_bipush hx hb hd hv ?_
  exact k p l e s m args below meth c H locs ls ⟨hx, hb, hml, hown, hts, hr, hlk, hA, hK, hS0, hC, hS, hl, hL, okS_c (v := vI n) hn hst⟩
theorem j_sipush {n : Int} (hd : decode mm.2.1 pc = .ok (.sipush n, 3)) (hv : (Int16.ofInt n).toInt32 = i32 n) (hn : inR n) (k : JG E mm Q (pc + 3) L (vI n :: st) M) : JG E mm Q pc L (st) M := by
  intro p l e s m args below meth c H locs ls X
  obtain ⟨hx, hb, hml, hown, hts, hr, hlk, hA, hK, hS0, hC, hS, hl, hL, hst⟩ := X
  refine lv_sipush hx hb hd hv ?_
  exact k p l e s m args below meth c H locs ls ⟨hx, hb, hml, hown, hts, hr, hlk, hA, hK, hS0, hC, hS, hl, hL, okS_c (v := vI n) hn hst⟩
theorem j_lconst {n : Fin 2} {x : Int} (hd : decode mm.2.1 pc = .ok (.lconst n, 1)) (hv : Int64.ofNat (n : Nat) = i64 x) (hn : inL x) (k : JG E mm Q (pc + 1) L (vL x :: st) M) : JG E mm Q pc L (st) M := by
  intro p l e s m args below meth c H locs ls X
  obtain ⟨hx, hb, hml, hown, hts, hr, hlk, hA, hK, hS0, hC, hS, hl, hL, hst⟩ := X
  refine lv_lconst hx hb hd hv ?_
  exact k p l e s m args below meth c H locs ls ⟨hx, hb, hml, hown, hts, hr, hlk, hA, hK, hS0, hC, hS, hl, hL, okS_c (v := vL x) hn hst⟩
theorem j_ldc {ix : Nat} {v : Int32} {x : Int} (hd : decode mm.2.1 pc = .ok (.ldc ix, 2)) (hw : Cond.constant mm.1.cls ix v ∈ gw) (hv : v = i32 x) (hn : inR x) (k : JG E mm Q (pc + 2) L (vI x :: st) M) : JG E mm Q pc L (st) M := by
  intro p l e s m args below meth c H locs ls X
  obtain ⟨hx, hb, hml, hown, hts, hr, hlk, hA, hK, hS0, hC, hS, hl, hL, hst⟩ := X
  subst hv
  refine lv_ldc hx hb hown (hts _ hw) hd ?_
  exact k p l e s m args below meth c H locs ls ⟨hx, hb, hml, hown, hts, hr, hlk, hA, hK, hS0, hC, hS, hl, hL, okS_c (v := vI x) hn hst⟩
theorem j_ldcw {ix : Nat} {v : Int32} {x : Int} (hd : decode mm.2.1 pc = .ok (.ldc_w ix, 3)) (hw : Cond.constant mm.1.cls ix v ∈ gw) (hv : v = i32 x) (hn : inR x) (k : JG E mm Q (pc + 3) L (vI x :: st) M) : JG E mm Q pc L (st) M := by
  intro p l e s m args below meth c H locs ls X
  obtain ⟨hx, hb, hml, hown, hts, hr, hlk, hA, hK, hS0, hC, hS, hl, hL, hst⟩ := X
  subst hv
  refine lv_ldcw hx hb hown (hts _ hw) hd ?_
  exact k p l e s m args below meth c H locs ls ⟨hx, hb, hml, hown, hts, hr, hlk, hA, hK, hS0, hC, hS, hl, hL, okS_c (v := vI x) hn hst⟩
theorem j_ldc2 {ix : Nat} {v : Int64} {x : Int} (hd : decode mm.2.1 pc = .ok (.ldc2_w ix, 3)) (hw : Cond.constantLong mm.1.cls ix v ∈ gw) (hv : v = i64 x) (hn : inL x) (k : JG E mm Q (pc + 3) L (vL x :: st) M) : JG E mm Q pc L (st) M := by
  intro p l e s m args below meth c H locs ls X
  obtain ⟨hx, hb, hml, hown, hts, hr, hlk, hA, hK, hS0, hC, hS, hl, hL, hst⟩ := X
  subst hv
  refine lv_ldc2 hx hb hown (hts _ hw) hd ?_
  exact k p l e s m args below meth c H locs ls ⟨hx, hb, hml, hown, hts, hr, hlk, hA, hK, hS0, hC, hS, hl, hL, okS_c (v := vL x) hn hst⟩
theorem j_iload_n {kf : Fin 4} {j : Nat} {x : Int} (hd : decode mm.2.1 pc = .ok (.iload_n kf, 1)) (hi : (kf : Nat) = j) (hj : jl L j = some (vI x)) (k : JG E mm Q (pc + 1) L (vI x :: st) M) : JG E mm Q pc L (st) M := by
  intro p l e s m args below meth c H locs ls X
  obtain ⟨hx, hb, hml, hown, hts, hr, hlk, hA, hK, hS0, hC, hS, hl, hL, hst⟩ := X
  refine lv_iload_n hx hb hd hi (hl.2.2 j _ hj) ?_
  exact k p l e s m args below meth c H locs ls ⟨hx, hb, hml, hown, hts, hr, hlk, hA, hK, hS0, hC, hS, hl, hL, okS_c (hL j _ hj) hst⟩
theorem j_iload {j : Nat} {x : Int} (hd : decode mm.2.1 pc = .ok (.iload j, 2)) (hj : jl L j = some (vI x)) (k : JG E mm Q (pc + 2) L (vI x :: st) M) : JG E mm Q pc L (st) M := by
  intro p l e s m args below meth c H locs ls X
  obtain ⟨hx, hb, hml, hown, hts, hr, hlk, hA, hK, hS0, hC, hS, hl, hL, hst⟩ := X
  refine lv_iload hx hb hd (hl.2.2 j _ hj) ?_
  exact k p l e s m args below meth c H locs ls ⟨hx, hb, hml, hown, hts, hr, hlk, hA, hK, hS0, hC, hS, hl, hL, okS_c (hL j _ hj) hst⟩
theorem j_istore_n {kf : Fin 4} {j : Nat} {x : Int} (hd : decode mm.2.1 pc = .ok (.istore_n kf, 1)) (hi : (kf : Nat) = j) (hn : j < mm.2.2.1) (hno : noL L j = true) (k : JG E mm Q (pc + 1) ((j, vI x) :: L) st M) : JG E mm Q pc L (vI x :: st) M := by
  intro p l e s m args below meth c H locs ls X
  obtain ⟨hx, hb, hml, hown, hts, hr, hlk, hA, hK, hS0, hC, hS, hl, hL, hst⟩ := X
  refine lv_istore_n hx hb hd hi (jl_has hl) hn rfl (fun ls2 h2 => ?_)
  exact k p l e s m args below meth c H locs ls2 ⟨hx, hb, hml, hown, hts, hr, hlk, hA, hK, hS0, hC, hS, jl_put1 (v := vI x) hl hno h2, okL_c (v := vI x) hL (okS_h hst), okS_t hst⟩
theorem j_istore {j : Nat} {x : Int} (hd : decode mm.2.1 pc = .ok (.istore j, 2)) (hn : j < mm.2.2.1) (hno : noL L j = true) (k : JG E mm Q (pc + 2) ((j, vI x) :: L) st M) : JG E mm Q pc L (vI x :: st) M := by
  intro p l e s m args below meth c H locs ls X
  obtain ⟨hx, hb, hml, hown, hts, hr, hlk, hA, hK, hS0, hC, hS, hl, hL, hst⟩ := X
  refine lv_istore hx hb hd (jl_has hl) hn rfl (fun ls2 h2 => ?_)
  exact k p l e s m args below meth c H locs ls2 ⟨hx, hb, hml, hown, hts, hr, hlk, hA, hK, hS0, hC, hS, jl_put1 (v := vI x) hl hno h2, okL_c (v := vI x) hL (okS_h hst), okS_t hst⟩
theorem j_lload_n {kf : Fin 4} {j : Nat} {x : Int} (hd : decode mm.2.1 pc = .ok (.lload_n kf, 1)) (hi : (kf : Nat) = j) (hj : jl L j = some (vL x)) (k : JG E mm Q (pc + 1) L (vL x :: st) M) : JG E mm Q pc L (st) M := by
  intro p l e s m args below meth c H locs ls X
  obtain ⟨hx, hb, hml, hown, hts, hr, hlk, hA, hK, hS0, hC, hS, hl, hL, hst⟩ := X
  refine lv_lload_n hx hb hd hi (hl.2.2 j _ hj) ?_
  exact k p l e s m args below meth c H locs ls ⟨hx, hb, hml, hown, hts, hr, hlk, hA, hK, hS0, hC, hS, hl, hL, okS_c (hL j _ hj) hst⟩
theorem j_lload {j : Nat} {x : Int} (hd : decode mm.2.1 pc = .ok (.lload j, 2)) (hj : jl L j = some (vL x)) (k : JG E mm Q (pc + 2) L (vL x :: st) M) : JG E mm Q pc L (st) M := by
  intro p l e s m args below meth c H locs ls X
  obtain ⟨hx, hb, hml, hown, hts, hr, hlk, hA, hK, hS0, hC, hS, hl, hL, hst⟩ := X
  refine lv_lload hx hb hd (hl.2.2 j _ hj) ?_
  exact k p l e s m args below meth c H locs ls ⟨hx, hb, hml, hown, hts, hr, hlk, hA, hK, hS0, hC, hS, hl, hL, okS_c (hL j _ hj) hst⟩
theorem j_lstore_n {kf : Fin 4} {j : Nat} {x : Int} (hd : decode mm.2.1 pc = .ok (.lstore_n kf, 1)) (hi : (kf : Nat) = j) (hn : j + 1 < mm.2.2.1) (hno : noL L j = true) (hf : jl L (j + 1) = none) (k : JG E mm Q (pc + 1) ((j, vL x) :: L) st M) : JG E mm Q pc L (vL x :: st) M := by
  intro p l e s m args below meth c H locs ls X
  obtain ⟨hx, hb, hml, hown, hts, hr, hlk, hA, hK, hS0, hC, hS, hl, hL, hst⟩ := X
  refine lv_lstore_n hx hb hd hi (jl_has hl) hn rfl (fun ls2 h2 => ?_)
  exact k p l e s m args below meth c H locs ls2 ⟨hx, hb, hml, hown, hts, hr, hlk, hA, hK, hS0, hC, hS, jl_put2 (v := vL x) hl hno hf h2, okL_c (v := vL x) hL (okS_h hst), okS_t hst⟩
theorem j_lstore {j : Nat} {x : Int} (hd : decode mm.2.1 pc = .ok (.lstore j, 2)) (hn : j + 1 < mm.2.2.1) (hno : noL L j = true) (hf : jl L (j + 1) = none) (k : JG E mm Q (pc + 2) ((j, vL x) :: L) st M) : JG E mm Q pc L (vL x :: st) M := by
  intro p l e s m args below meth c H locs ls X
  obtain ⟨hx, hb, hml, hown, hts, hr, hlk, hA, hK, hS0, hC, hS, hl, hL, hst⟩ := X
  refine lv_lstore hx hb hd (jl_has hl) hn rfl (fun ls2 h2 => ?_)
  exact k p l e s m args below meth c H locs ls2 ⟨hx, hb, hml, hown, hts, hr, hlk, hA, hK, hS0, hC, hS, jl_put2 (v := vL x) hl hno hf h2, okL_c (v := vL x) hL (okS_h hst), okS_t hst⟩
theorem j_aload_n {kf : Fin 4} {j : Nat} {t i : Nat} (hd : decode mm.2.1 pc = .ok (.aload_n kf, 1)) (hi : (kf : Nat) = j) (hj : jl L j = some (vR t i)) (k : JG E mm Q (pc + 1) L (vR t i :: st) M) : JG E mm Q pc L (st) M := by
  intro p l e s m args below meth c H locs ls X
  obtain ⟨hx, hb, hml, hown, hts, hr, hlk, hA, hK, hS0, hC, hS, hl, hL, hst⟩ := X
  refine lv_aload_n hx hb hd hi (hl.2.2 j _ hj) ?_
  exact k p l e s m args below meth c H locs ls ⟨hx, hb, hml, hown, hts, hr, hlk, hA, hK, hS0, hC, hS, hl, hL, okS_c (hL j _ hj) hst⟩
theorem j_aload {j : Nat} {t i : Nat} (hd : decode mm.2.1 pc = .ok (.aload j, 2)) (hj : jl L j = some (vR t i)) (k : JG E mm Q (pc + 2) L (vR t i :: st) M) : JG E mm Q pc L (st) M := by
  intro p l e s m args below meth c H locs ls X
  obtain ⟨hx, hb, hml, hown, hts, hr, hlk, hA, hK, hS0, hC, hS, hl, hL, hst⟩ := X
  refine lv_aload hx hb hd (hl.2.2 j _ hj) ?_
  exact k p l e s m args below meth c H locs ls ⟨hx, hb, hml, hown, hts, hr, hlk, hA, hK, hS0, hC, hS, hl, hL, okS_c (hL j _ hj) hst⟩
theorem j_astore_n {kf : Fin 4} {j : Nat} {t i : Nat} (hd : decode mm.2.1 pc = .ok (.astore_n kf, 1)) (hi : (kf : Nat) = j) (hn : j < mm.2.2.1) (hno : noL L j = true) (k : JG E mm Q (pc + 1) ((j, vR t i) :: L) st M) : JG E mm Q pc L (vR t i :: st) M := by
  intro p l e s m args below meth c H locs ls X
  obtain ⟨hx, hb, hml, hown, hts, hr, hlk, hA, hK, hS0, hC, hS, hl, hL, hst⟩ := X
  refine lv_astore_n hx hb hd hi (jl_has hl) hn rfl (fun ls2 h2 => ?_)
  exact k p l e s m args below meth c H locs ls2 ⟨hx, hb, hml, hown, hts, hr, hlk, hA, hK, hS0, hC, hS, jl_put1 (v := vR t i) hl hno h2, okL_c (v := vR t i) hL (okS_h hst), okS_t hst⟩
theorem j_astore {j : Nat} {t i : Nat} (hd : decode mm.2.1 pc = .ok (.astore j, 2)) (hn : j < mm.2.2.1) (hno : noL L j = true) (k : JG E mm Q (pc + 2) ((j, vR t i) :: L) st M) : JG E mm Q pc L (vR t i :: st) M := by
  intro p l e s m args below meth c H locs ls X
  obtain ⟨hx, hb, hml, hown, hts, hr, hlk, hA, hK, hS0, hC, hS, hl, hL, hst⟩ := X
  refine lv_astore hx hb hd (jl_has hl) hn rfl (fun ls2 h2 => ?_)
  exact k p l e s m args below meth c H locs ls2 ⟨hx, hb, hml, hown, hts, hr, hlk, hA, hK, hS0, hC, hS, jl_put1 (v := vR t i) hl hno h2, okL_c (v := vR t i) hL (okS_h hst), okS_t hst⟩
theorem j_iinc {j : Nat} {n x : Int} (hd : decode mm.2.1 pc = .ok (.iinc j n, 3)) (hj : jl L j = some (vI x)) (hno : noL L j = true) (k : JG E mm Q (pc + 3) ((j, vI (w32 (x + n))) :: L) st M) : JG E mm Q pc L st M := by
  intro p l e s m args below meth c H locs ls X
  obtain ⟨hx, hb, hml, hown, hts, hr, hlk, hA, hK, hS0, hC, hS, hl, hL, hst⟩ := X
  have hj2 := jl_mem hl hj
  obtain ⟨k0, hk0⟩ := List.getElem?_of_mem hj2
  refine lv_iinc (v := i32 (w32 (x + n))) hx hb hd (jl_has hl) hk0 (i32_add x n) (jl_lt hl hj) rfl (fun ls2 h2 => ?_)
  exact k p l e s m args below meth c H locs ls2 ⟨hx, hb, hml, hown, hts, hr, hlk, hA, hK, hS0, hC, hS, jl_put1 (v := vI (w32 (x + n))) hl hno h2, okL_c (v := vI (w32 (x + n))) hL (w32_in _), hst⟩
theorem j_dup {v : JV} (hd : decode mm.2.1 pc = .ok (.dup, 1)) (hg : isLg v = false) (k : JG E mm Q (pc + 1) L (v :: v :: st) M) : JG E mm Q pc L (v :: st) M := by
  intro p l e s m args below meth c H locs ls X
  obtain ⟨hx, hb, hml, hown, hts, hr, hlk, hA, hK, hS0, hC, hS, hl, hL, hst⟩ := X
  refine lv_dup hx hb hd (cv_cat hg) ?_
  exact k p l e s m args below meth c H locs ls ⟨hx, hb, hml, hown, hts, hr, hlk, hA, hK, hS0, hC, hS, hl, hL, okS_c (okS_h hst) hst⟩
theorem j_pop {v : JV} (hd : decode mm.2.1 pc = .ok (.pop, 1)) (hg : isLg v = false) (k : JG E mm Q (pc + 1) L (st) M) : JG E mm Q pc L (v :: st) M := by
  intro p l e s m args below meth c H locs ls X
  obtain ⟨hx, hb, hml, hown, hts, hr, hlk, hA, hK, hS0, hC, hS, hl, hL, hst⟩ := X
  refine lv_pop hx hb hd (cv_cat hg) ?_
  exact k p l e s m args below meth c H locs ls ⟨hx, hb, hml, hown, hts, hr, hlk, hA, hK, hS0, hC, hS, hl, hL, okS_t hst⟩
theorem j_dup2 {v w : JV} (hd : decode mm.2.1 pc = .ok (.dup2, 1)) (hg : isLg v = false) (hg2 : isLg w = false) (k : JG E mm Q (pc + 1) L (v :: w :: v :: w :: st) M) : JG E mm Q pc L (v :: w :: st) M := by
  intro p l e s m args below meth c H locs ls X
  obtain ⟨hx, hb, hml, hown, hts, hr, hlk, hA, hK, hS0, hC, hS, hl, hL, hst⟩ := X
  refine lv_dup2_11 hx hb hd (cv_cat hg) (cv_cat hg2) ?_
  exact k p l e s m args below meth c H locs ls ⟨hx, hb, hml, hown, hts, hr, hlk, hA, hK, hS0, hC, hS, hl, hL, okS_c (okS_h hst) (okS_c (okS_h (okS_t hst)) hst)⟩
theorem j_iadd {x y : Int} (hd : decode mm.2.1 pc = .ok (.iadd, 1)) (k : JG E mm Q (pc + 1) L (vI (w32 (x + y)) :: st) M) : JG E mm Q pc L (vI y :: vI x :: st) M := by
  intro p l e s m args below meth c H locs ls X
  obtain ⟨hx, hb, hml, hown, hts, hr, hlk, hA, hK, hS0, hC, hS, hl, hL, hst⟩ := X
  have hy : inR y := okS_h hst
  have hx2 : inR x := okS_h (okS_t hst)
  refine lv_iadd hx hb hd ?_
  rw [show i32 x + i32 y = i32 (w32 (x + y)) from i32_add x y]
  exact k p l e s m args below meth c H locs ls ⟨hx, hb, hml, hown, hts, hr, hlk, hA, hK, hS0, hC, hS, hl, hL, okS_c (v := vI (w32 (x + y))) (w32_in _) (okS_t (okS_t hst))⟩
theorem j_isub {x y : Int} (hd : decode mm.2.1 pc = .ok (.isub, 1)) (k : JG E mm Q (pc + 1) L (vI (w32 (x - y)) :: st) M) : JG E mm Q pc L (vI y :: vI x :: st) M := by
  intro p l e s m args below meth c H locs ls X
  obtain ⟨hx, hb, hml, hown, hts, hr, hlk, hA, hK, hS0, hC, hS, hl, hL, hst⟩ := X
  have hy : inR y := okS_h hst
  have hx2 : inR x := okS_h (okS_t hst)
  refine lv_isub hx hb hd ?_
  rw [show i32 x - i32 y = i32 (w32 (x - y)) from i32_sub x y]
  exact k p l e s m args below meth c H locs ls ⟨hx, hb, hml, hown, hts, hr, hlk, hA, hK, hS0, hC, hS, hl, hL, okS_c (v := vI (w32 (x - y))) (w32_in _) (okS_t (okS_t hst))⟩
theorem j_imul {x y : Int} (hd : decode mm.2.1 pc = .ok (.imul, 1)) (k : JG E mm Q (pc + 1) L (vI (w32 (x * y)) :: st) M) : JG E mm Q pc L (vI y :: vI x :: st) M := by
  intro p l e s m args below meth c H locs ls X
  obtain ⟨hx, hb, hml, hown, hts, hr, hlk, hA, hK, hS0, hC, hS, hl, hL, hst⟩ := X
  have hy : inR y := okS_h hst
  have hx2 : inR x := okS_h (okS_t hst)
  refine lv_imul hx hb hd ?_
  rw [show i32 x * i32 y = i32 (w32 (x * y)) from i32_mul x y]
  exact k p l e s m args below meth c H locs ls ⟨hx, hb, hml, hown, hts, hr, hlk, hA, hK, hS0, hC, hS, hl, hL, okS_c (v := vI (w32 (x * y))) (w32_in _) (okS_t (okS_t hst))⟩
theorem j_iand {x y : Int} (hd : decode mm.2.1 pc = .ok (.iand, 1)) (k : JG E mm Q (pc + 1) L (vI (and32 x y) :: st) M) : JG E mm Q pc L (vI y :: vI x :: st) M := by
  intro p l e s m args below meth c H locs ls X
  obtain ⟨hx, hb, hml, hown, hts, hr, hlk, hA, hK, hS0, hC, hS, hl, hL, hst⟩ := X
  have hy : inR y := okS_h hst
  have hx2 : inR x := okS_h (okS_t hst)
  refine lv_iand hx hb hd ?_
  rw [show i32 x &&& i32 y = i32 (and32 x y) from (i32_t _).symm]
  exact k p l e s m args below meth c H locs ls ⟨hx, hb, hml, hown, hts, hr, hlk, hA, hK, hS0, hC, hS, hl, hL, okS_c (v := vI (and32 x y)) (t32_in _) (okS_t (okS_t hst))⟩
theorem j_ior {x y : Int} (hd : decode mm.2.1 pc = .ok (.ior, 1)) (k : JG E mm Q (pc + 1) L (vI (or32 x y) :: st) M) : JG E mm Q pc L (vI y :: vI x :: st) M := by
  intro p l e s m args below meth c H locs ls X
  obtain ⟨hx, hb, hml, hown, hts, hr, hlk, hA, hK, hS0, hC, hS, hl, hL, hst⟩ := X
  have hy : inR y := okS_h hst
  have hx2 : inR x := okS_h (okS_t hst)
  refine lv_ior hx hb hd ?_
  rw [show i32 x ||| i32 y = i32 (or32 x y) from (i32_t _).symm]
  exact k p l e s m args below meth c H locs ls ⟨hx, hb, hml, hown, hts, hr, hlk, hA, hK, hS0, hC, hS, hl, hL, okS_c (v := vI (or32 x y)) (t32_in _) (okS_t (okS_t hst))⟩
theorem j_ixor {x y : Int} (hd : decode mm.2.1 pc = .ok (.ixor, 1)) (k : JG E mm Q (pc + 1) L (vI (xor32 x y) :: st) M) : JG E mm Q pc L (vI y :: vI x :: st) M := by
  intro p l e s m args below meth c H locs ls X
  obtain ⟨hx, hb, hml, hown, hts, hr, hlk, hA, hK, hS0, hC, hS, hl, hL, hst⟩ := X
  have hy : inR y := okS_h hst
  have hx2 : inR x := okS_h (okS_t hst)
  refine lv_ixor hx hb hd ?_
  rw [show i32 x ^^^ i32 y = i32 (xor32 x y) from (i32_t _).symm]
  exact k p l e s m args below meth c H locs ls ⟨hx, hb, hml, hown, hts, hr, hlk, hA, hK, hS0, hC, hS, hl, hL, okS_c (v := vI (xor32 x y)) (t32_in _) (okS_t (okS_t hst))⟩
theorem j_ishl {x y : Int} (hd : decode mm.2.1 pc = .ok (.ishl, 1)) (k : JG E mm Q (pc + 1) L (vI (shl32 x y) :: st) M) : JG E mm Q pc L (vI y :: vI x :: st) M := by
  intro p l e s m args below meth c H locs ls X
  obtain ⟨hx, hb, hml, hown, hts, hr, hlk, hA, hK, hS0, hC, hS, hl, hL, hst⟩ := X
  have hy : inR y := okS_h hst
  have hx2 : inR x := okS_h (okS_t hst)
  refine lv_ishl hx hb hd ?_
  rw [show i32 x <<< (i32 y &&& 31) = i32 (shl32 x y) from (i32_t _).symm]
  exact k p l e s m args below meth c H locs ls ⟨hx, hb, hml, hown, hts, hr, hlk, hA, hK, hS0, hC, hS, hl, hL, okS_c (v := vI (shl32 x y)) (t32_in _) (okS_t (okS_t hst))⟩
theorem j_ishr {x y : Int} (hd : decode mm.2.1 pc = .ok (.ishr, 1)) (k : JG E mm Q (pc + 1) L (vI (shr32 x y) :: st) M) : JG E mm Q pc L (vI y :: vI x :: st) M := by
  intro p l e s m args below meth c H locs ls X
  obtain ⟨hx, hb, hml, hown, hts, hr, hlk, hA, hK, hS0, hC, hS, hl, hL, hst⟩ := X
  have hy : inR y := okS_h hst
  have hx2 : inR x := okS_h (okS_t hst)
  refine lv_ishr hx hb hd ?_
  rw [show i32 x >>> (i32 y &&& 31) = i32 (shr32 x y) from (i32_t _).symm]
  exact k p l e s m args below meth c H locs ls ⟨hx, hb, hml, hown, hts, hr, hlk, hA, hK, hS0, hC, hS, hl, hL, okS_c (v := vI (shr32 x y)) (t32_in _) (okS_t (okS_t hst))⟩
theorem j_iushr {x y : Int} (hd : decode mm.2.1 pc = .ok (.iushr, 1)) (k : JG E mm Q (pc + 1) L (vI (ush32 x y) :: st) M) : JG E mm Q pc L (vI y :: vI x :: st) M := by
  intro p l e s m args below meth c H locs ls X
  obtain ⟨hx, hb, hml, hown, hts, hr, hlk, hA, hK, hS0, hC, hS, hl, hL, hst⟩ := X
  refine lv_iushr hx hb hd (v := i32 (ush32 x y)) (i32_t _).symm ?_
  exact k p l e s m args below meth c H locs ls ⟨hx, hb, hml, hown, hts, hr, hlk, hA, hK, hS0, hC, hS, hl, hL, okS_c (v := vI (ush32 x y)) (t32_in _) (okS_t (okS_t hst))⟩
theorem j_idiv {x y : Int} (hd : decode mm.2.1 pc = .ok (.idiv, 1)) (hne : y ≠ 0) (k : JG E mm Q (pc + 1) L (vI (w32 (x.tdiv y)) :: st) M) : JG E mm Q pc L (vI y :: vI x :: st) M := by
  intro p l e s m args below meth c H locs ls X
  obtain ⟨hx, hb, hml, hown, hts, hr, hlk, hA, hK, hS0, hC, hS, hl, hL, hst⟩ := X
  have hy : inR y := okS_h hst
  have hx2 : inR x := okS_h (okS_t hst)
  refine lv_idiv hx hb hd (fun q => hne ((i32_eq hy in0).mp q)) ?_
  rw [show i32 x / i32 y = i32 (w32 (x.tdiv y)) from i32_div hx2 hy]
  exact k p l e s m args below meth c H locs ls ⟨hx, hb, hml, hown, hts, hr, hlk, hA, hK, hS0, hC, hS, hl, hL, okS_c (v := vI (w32 (x.tdiv y))) (w32_in _) (okS_t (okS_t hst))⟩
theorem j_irem {x y : Int} (hd : decode mm.2.1 pc = .ok (.irem, 1)) (hne : y ≠ 0) (k : JG E mm Q (pc + 1) L (vI (w32 (x.tmod y)) :: st) M) : JG E mm Q pc L (vI y :: vI x :: st) M := by
  intro p l e s m args below meth c H locs ls X
  obtain ⟨hx, hb, hml, hown, hts, hr, hlk, hA, hK, hS0, hC, hS, hl, hL, hst⟩ := X
  have hy : inR y := okS_h hst
  have hx2 : inR x := okS_h (okS_t hst)
  refine lv_irem hx hb hd (fun q => hne ((i32_eq hy in0).mp q)) ?_
  rw [show i32 x - i32 x / i32 y * i32 y = i32 (w32 (x.tmod y)) from i32_rem hx2 hy]
  exact k p l e s m args below meth c H locs ls ⟨hx, hb, hml, hown, hts, hr, hlk, hA, hK, hS0, hC, hS, hl, hL, okS_c (v := vI (w32 (x.tmod y))) (w32_in _) (okS_t (okS_t hst))⟩
theorem j_ladd {x y : Int} (hd : decode mm.2.1 pc = .ok (.ladd, 1)) (k : JG E mm Q (pc + 1) L (vL (w64 (x + y)) :: st) M) : JG E mm Q pc L (vL y :: vL x :: st) M := by
  intro p l e s m args below meth c H locs ls X
  obtain ⟨hx, hb, hml, hown, hts, hr, hlk, hA, hK, hS0, hC, hS, hl, hL, hst⟩ := X
  have hy : inL y := okS_h hst
  have hx2 : inL x := okS_h (okS_t hst)
  refine lv_ladd hx hb hd ?_
  rw [show i64 x + i64 y = i64 (w64 (x + y)) from i64_add x y]
  exact k p l e s m args below meth c H locs ls ⟨hx, hb, hml, hown, hts, hr, hlk, hA, hK, hS0, hC, hS, hl, hL, okS_c (v := vL (w64 (x + y))) (w64_in _) (okS_t (okS_t hst))⟩
theorem j_lmul {x y : Int} (hd : decode mm.2.1 pc = .ok (.lmul, 1)) (k : JG E mm Q (pc + 1) L (vL (w64 (x * y)) :: st) M) : JG E mm Q pc L (vL y :: vL x :: st) M := by
  intro p l e s m args below meth c H locs ls X
  obtain ⟨hx, hb, hml, hown, hts, hr, hlk, hA, hK, hS0, hC, hS, hl, hL, hst⟩ := X
  have hy : inL y := okS_h hst
  have hx2 : inL x := okS_h (okS_t hst)
  refine lv_lmul hx hb hd ?_
  rw [show i64 x * i64 y = i64 (w64 (x * y)) from i64_mul x y]
  exact k p l e s m args below meth c H locs ls ⟨hx, hb, hml, hown, hts, hr, hlk, hA, hK, hS0, hC, hS, hl, hL, okS_c (v := vL (w64 (x * y))) (w64_in _) (okS_t (okS_t hst))⟩
theorem i64_0 : i64 0 = 0 := rfl
theorem i64_eq {x y : Int} (hx : inL x) (hy : inL y) : i64 x = i64 y ↔ x = y := by rw [← Int64.toInt_inj, i64_toInt hx, i64_toInt hy]
theorem i64_lt {x y : Int} (hx : inL x) (hy : inL y) : i64 x < i64 y ↔ x < y := by rw [Int64.lt_iff_toInt_lt, i64_toInt hx, i64_toInt hy]
theorem inL0 : inL 0 := ⟨by decide, by decide⟩
theorem j_ldiv {x y : Int} (hd : decode mm.2.1 pc = .ok (.ldiv, 1)) (hne : y ≠ 0) (k : JG E mm Q (pc + 1) L (vL (w64 (x.tdiv y)) :: st) M) : JG E mm Q pc L (vL y :: vL x :: st) M := by
  intro p l e s m args below meth c H locs ls X
  obtain ⟨hx, hb, hml, hown, hts, hr, hlk, hA, hK, hS0, hC, hS, hl, hL, hst⟩ := X
  have hy : inL y := okS_h hst
  have hx2 : inL x := okS_h (okS_t hst)
  refine lv_ldiv hx hb hd (fun q => hne ((i64_eq hy inL0).mp q)) ?_
  rw [show i64 x / i64 y = i64 (w64 (x.tdiv y)) from i64_div hx2 hy]
  exact k p l e s m args below meth c H locs ls ⟨hx, hb, hml, hown, hts, hr, hlk, hA, hK, hS0, hC, hS, hl, hL, okS_c (v := vL (w64 (x.tdiv y))) (w64_in _) (okS_t (okS_t hst))⟩
theorem j_lrem {x y : Int} (hd : decode mm.2.1 pc = .ok (.lrem, 1)) (hne : y ≠ 0) (k : JG E mm Q (pc + 1) L (vL (w64 (x.tmod y)) :: st) M) : JG E mm Q pc L (vL y :: vL x :: st) M := by
  intro p l e s m args below meth c H locs ls X
  obtain ⟨hx, hb, hml, hown, hts, hr, hlk, hA, hK, hS0, hC, hS, hl, hL, hst⟩ := X
  have hy : inL y := okS_h hst
  have hx2 : inL x := okS_h (okS_t hst)
  refine lv_lrem hx hb hd (fun q => hne ((i64_eq hy inL0).mp q)) ?_
  rw [show i64 x - i64 x / i64 y * i64 y = i64 (w64 (x.tmod y)) from i64_rem hx2 hy]
  exact k p l e s m args below meth c H locs ls ⟨hx, hb, hml, hown, hts, hr, hlk, hA, hK, hS0, hC, hS, hl, hL, okS_c (v := vL (w64 (x.tmod y))) (w64_in _) (okS_t (okS_t hst))⟩
theorem j_i2l {x : Int} (hd : decode mm.2.1 pc = .ok (.i2l, 1)) (k : JG E mm Q (pc + 1) L (vL x :: st) M) : JG E mm Q pc L (vI x :: st) M := by
  intro p l e s m args below meth c H locs ls X
  obtain ⟨hx, hb, hml, hown, hts, hr, hlk, hA, hK, hS0, hC, hS, hl, hL, hst⟩ := X
  have hy : inR x := okS_h hst
  refine lv_i2l hx hb hd (i32_long hy) ?_
  exact k p l e s m args below meth c H locs ls ⟨hx, hb, hml, hown, hts, hr, hlk, hA, hK, hS0, hC, hS, hl, hL, okS_c (v := vL x) (inR_L hy) (okS_t hst)⟩
theorem j_i2b {x : Int} (hd : decode mm.2.1 pc = .ok (.i2b, 1)) (k : JG E mm Q (pc + 1) L (vI (by32 x) :: st) M) : JG E mm Q pc L (vI x :: st) M := by
  intro p l e s m args below meth c H locs ls X
  obtain ⟨hx, hb, hml, hown, hts, hr, hlk, hA, hK, hS0, hC, hS, hl, hL, hst⟩ := X
  refine lv_i2b hx hb hd (v := i32 (by32 x)) (i32_t _).symm ?_
  exact k p l e s m args below meth c H locs ls ⟨hx, hb, hml, hown, hts, hr, hlk, hA, hK, hS0, hC, hS, hl, hL, okS_c (v := vI (by32 x)) (t32_in _) (okS_t hst)⟩
theorem j_i2s {x : Int} (hd : decode mm.2.1 pc = .ok (.i2s, 1)) (k : JG E mm Q (pc + 1) L (vI (sh16 x) :: st) M) : JG E mm Q pc L (vI x :: st) M := by
  intro p l e s m args below meth c H locs ls X
  obtain ⟨hx, hb, hml, hown, hts, hr, hlk, hA, hK, hS0, hC, hS, hl, hL, hst⟩ := X
  refine lv_i2s hx hb hd (v := i32 (sh16 x)) (i32_t _).symm ?_
  exact k p l e s m args below meth c H locs ls ⟨hx, hb, hml, hown, hts, hr, hlk, hA, hK, hS0, hC, hS, hl, hL, okS_c (v := vI (sh16 x)) (t32_in _) (okS_t hst)⟩
theorem cmpL_in (x y : Int) : inR (cmpL x y) := by unfold cmpL; split; exact inRd rfl; split; exact inRd rfl; exact inRd rfl
theorem cmpL_i {x y : Int} (hx : inL x) (hy : inL y) : lg_cmp (i64 x) (i64 y) = i32 (cmpL x y) := by
  unfold lg_cmp cmpL
  by_cases h1 : x = y
  · subst h1; simp; rfl
  · have h2 : ¬ i64 x = i64 y := fun q => h1 ((i64_eq hx hy).mp q)
    by_cases h3 : x < y
    · have h4 : i64 x < i64 y := (i64_lt hx hy).mpr h3
      have h5 : ¬ i64 y < i64 x := fun q => by have := (i64_lt hy hx).mp q; omega
      simp [h1, h2, h3, h4, h5]; try rfl
    · have h4 : ¬ i64 x < i64 y := fun q => h3 ((i64_lt hx hy).mp q)
      have h5 : i64 y < i64 x := (i64_lt hy hx).mpr (by omega)
      simp [h1, h2, h3, h4, h5]; try rfl
theorem j_lcmp {x y : Int} (hd : decode mm.2.1 pc = .ok (.lcmp, 1)) (k : JG E mm Q (pc + 1) L (vI (cmpL x y) :: st) M) : JG E mm Q pc L (vL y :: vL x :: st) M := by
  intro p l e s m args below meth c H locs ls X
  obtain ⟨hx, hb, hml, hown, hts, hr, hlk, hA, hK, hS0, hC, hS, hl, hL, hst⟩ := X
  have hy : inL y := okS_h hst
  have hx2 : inL x := okS_h (okS_t hst)
  refine W.lcmp hx hb hd ?_
  rw [show lg_cmp (i64 x) (i64 y) = i32 (cmpL x y) from cmpL_i hx2 hy]
  exact k p l e s m args below meth c H locs ls ⟨hx, hb, hml, hown, hts, hr, hlk, hA, hK, hS0, hC, hS, hl, hL, okS_c (v := vI (cmpL x y)) (cmpL_in x y) (okS_t (okS_t hst))⟩
theorem j_icmp_eq {x y off : Int} {tgt : Nat} (hd : decode mm.2.1 pc = .ok (.if_icmp .eq off, 3)) (ht : (pc : Int) + off = (tgt : Int)) (kt : x = y → JG E mm Q tgt L st M) (kf : x ≠ y → JG E mm Q (pc + 3) L st M) : JG E mm Q pc L (vI y :: vI x :: st) M := by
  intro p l e s m args below meth c H locs ls X
  obtain ⟨hx, hb, hml, hown, hts, hr, hlk, hA, hK, hS0, hC, hS, hl, hL, hst⟩ := X
  have hy : inR y := okS_h hst
  have hx2 : inR x := okS_h (okS_t hst)
  have hst := okS_t (okS_t hst)
  refine lv_icmp_eq hx hb hd ht (fun q => ?_) (fun q => ?_)
  · exact kt ((i32_eq hx2 hy).mp q) p l e s m args below meth c H locs ls ⟨hx, hb, hml, hown, hts, hr, hlk, hA, hK, hS0, hC, hS, hl, hL, hst⟩
  · exact kf (fun z => q ((i32_eq hx2 hy).mpr z)) p l e s m args below meth c H locs ls ⟨hx, hb, hml, hown, hts, hr, hlk, hA, hK, hS0, hC, hS, hl, hL, hst⟩
theorem j_if_eq {x off : Int} {tgt : Nat} (hd : decode mm.2.1 pc = .ok (.ifCond .eq off, 3)) (ht : (pc : Int) + off = (tgt : Int)) (kt : x = 0 → JG E mm Q tgt L st M) (kf : x ≠ 0 → JG E mm Q (pc + 3) L st M) : JG E mm Q pc L (vI x :: st) M := by
  intro p l e s m args below meth c H locs ls X
  obtain ⟨hx, hb, hml, hown, hts, hr, hlk, hA, hK, hS0, hC, hS, hl, hL, hst⟩ := X
  have hx2 : inR x := okS_h hst
  have hst := okS_t hst
  refine lv_if_eq hx hb hd ht (fun q => ?_) (fun q => ?_)
  · exact kt ((i32_eq hx2 in0).mp q) p l e s m args below meth c H locs ls ⟨hx, hb, hml, hown, hts, hr, hlk, hA, hK, hS0, hC, hS, hl, hL, hst⟩
  · exact kf (fun z => q ((i32_eq hx2 in0).mpr z)) p l e s m args below meth c H locs ls ⟨hx, hb, hml, hown, hts, hr, hlk, hA, hK, hS0, hC, hS, hl, hL, hst⟩
theorem j_icmp_ne {x y off : Int} {tgt : Nat} (hd : decode mm.2.1 pc = .ok (.if_icmp .ne off, 3)) (ht : (pc : Int) + off = (tgt : Int)) (kt : x ≠ y → JG E mm Q tgt L st M) (kf : x = y → JG E mm Q (pc + 3) L st M) : JG E mm Q pc L (vI y :: vI x :: st) M := by
  intro p l e s m args below meth c H locs ls X
  obtain ⟨hx, hb, hml, hown, hts, hr, hlk, hA, hK, hS0, hC, hS, hl, hL, hst⟩ := X
  have hy : inR y := okS_h hst
  have hx2 : inR x := okS_h (okS_t hst)
  have hst := okS_t (okS_t hst)
  refine lv_icmp_ne hx hb hd ht (fun q => ?_) (fun q => ?_)
  · exact kt (fun z => q ((i32_eq hx2 hy).mpr z)) p l e s m args below meth c H locs ls ⟨hx, hb, hml, hown, hts, hr, hlk, hA, hK, hS0, hC, hS, hl, hL, hst⟩
  · exact kf ((i32_eq hx2 hy).mp q) p l e s m args below meth c H locs ls ⟨hx, hb, hml, hown, hts, hr, hlk, hA, hK, hS0, hC, hS, hl, hL, hst⟩
theorem j_if_ne {x off : Int} {tgt : Nat} (hd : decode mm.2.1 pc = .ok (.ifCond .ne off, 3)) (ht : (pc : Int) + off = (tgt : Int)) (kt : x ≠ 0 → JG E mm Q tgt L st M) (kf : x = 0 → JG E mm Q (pc + 3) L st M) : JG E mm Q pc L (vI x :: st) M := by
  intro p l e s m args below meth c H locs ls X
  obtain ⟨hx, hb, hml, hown, hts, hr, hlk, hA, hK, hS0, hC, hS, hl, hL, hst⟩ := X
  have hx2 : inR x := okS_h hst
  have hst := okS_t hst
  refine lv_if_ne hx hb hd ht (fun q => ?_) (fun q => ?_)
  · exact kt (fun z => q ((i32_eq hx2 in0).mpr z)) p l e s m args below meth c H locs ls ⟨hx, hb, hml, hown, hts, hr, hlk, hA, hK, hS0, hC, hS, hl, hL, hst⟩
  · exact kf ((i32_eq hx2 in0).mp q) p l e s m args below meth c H locs ls ⟨hx, hb, hml, hown, hts, hr, hlk, hA, hK, hS0, hC, hS, hl, hL, hst⟩
theorem j_icmp_lt {x y off : Int} {tgt : Nat} (hd : decode mm.2.1 pc = .ok (.if_icmp .lt off, 3)) (ht : (pc : Int) + off = (tgt : Int)) (kt : x < y → JG E mm Q tgt L st M) (kf : y ≤ x → JG E mm Q (pc + 3) L st M) : JG E mm Q pc L (vI y :: vI x :: st) M := by
  intro p l e s m args below meth c H locs ls X
  obtain ⟨hx, hb, hml, hown, hts, hr, hlk, hA, hK, hS0, hC, hS, hl, hL, hst⟩ := X
  have hy : inR y := okS_h hst
  have hx2 : inR x := okS_h (okS_t hst)
  have hst := okS_t (okS_t hst)
  refine lv_icmp_lt hx hb hd ht (fun q => ?_) (fun q => ?_)
  · exact kt ((i32_lt hx2 hy).mp q) p l e s m args below meth c H locs ls ⟨hx, hb, hml, hown, hts, hr, hlk, hA, hK, hS0, hC, hS, hl, hL, hst⟩
  · exact kf (Int.not_lt.mp (fun z => q ((i32_lt hx2 hy).mpr z))) p l e s m args below meth c H locs ls ⟨hx, hb, hml, hown, hts, hr, hlk, hA, hK, hS0, hC, hS, hl, hL, hst⟩
theorem j_if_lt {x off : Int} {tgt : Nat} (hd : decode mm.2.1 pc = .ok (.ifCond .lt off, 3)) (ht : (pc : Int) + off = (tgt : Int)) (kt : x < 0 → JG E mm Q tgt L st M) (kf : 0 ≤ x → JG E mm Q (pc + 3) L st M) : JG E mm Q pc L (vI x :: st) M := by
  intro p l e s m args below meth c H locs ls X
  obtain ⟨hx, hb, hml, hown, hts, hr, hlk, hA, hK, hS0, hC, hS, hl, hL, hst⟩ := X
  have hx2 : inR x := okS_h hst
  have hst := okS_t hst
  refine lv_if_lt hx hb hd ht (fun q => ?_) (fun q => ?_)
  · exact kt ((i32_lt hx2 in0).mp q) p l e s m args below meth c H locs ls ⟨hx, hb, hml, hown, hts, hr, hlk, hA, hK, hS0, hC, hS, hl, hL, hst⟩
  · exact kf (Int.not_lt.mp (fun z => q ((i32_lt hx2 in0).mpr z))) p l e s m args below meth c H locs ls ⟨hx, hb, hml, hown, hts, hr, hlk, hA, hK, hS0, hC, hS, hl, hL, hst⟩
theorem j_icmp_ge {x y off : Int} {tgt : Nat} (hd : decode mm.2.1 pc = .ok (.if_icmp .ge off, 3)) (ht : (pc : Int) + off = (tgt : Int)) (kt : y ≤ x → JG E mm Q tgt L st M) (kf : x < y → JG E mm Q (pc + 3) L st M) : JG E mm Q pc L (vI y :: vI x :: st) M := by
  intro p l e s m args below meth c H locs ls X
  obtain ⟨hx, hb, hml, hown, hts, hr, hlk, hA, hK, hS0, hC, hS, hl, hL, hst⟩ := X
  have hy : inR y := okS_h hst
  have hx2 : inR x := okS_h (okS_t hst)
  have hst := okS_t (okS_t hst)
  refine lv_icmp_ge hx hb hd ht (fun q => ?_) (fun q => ?_)
  · exact kt ((i32_le hy hx2).mp q) p l e s m args below meth c H locs ls ⟨hx, hb, hml, hown, hts, hr, hlk, hA, hK, hS0, hC, hS, hl, hL, hst⟩
  · exact kf (Int.not_le.mp (fun z => q ((i32_le hy hx2).mpr z))) p l e s m args below meth c H locs ls ⟨hx, hb, hml, hown, hts, hr, hlk, hA, hK, hS0, hC, hS, hl, hL, hst⟩
theorem j_if_ge {x off : Int} {tgt : Nat} (hd : decode mm.2.1 pc = .ok (.ifCond .ge off, 3)) (ht : (pc : Int) + off = (tgt : Int)) (kt : 0 ≤ x → JG E mm Q tgt L st M) (kf : x < 0 → JG E mm Q (pc + 3) L st M) : JG E mm Q pc L (vI x :: st) M := by
  intro p l e s m args below meth c H locs ls X
  obtain ⟨hx, hb, hml, hown, hts, hr, hlk, hA, hK, hS0, hC, hS, hl, hL, hst⟩ := X
  have hx2 : inR x := okS_h hst
  have hst := okS_t hst
  refine lv_if_ge hx hb hd ht (fun q => ?_) (fun q => ?_)
  · exact kt ((i32_le in0 hx2).mp q) p l e s m args below meth c H locs ls ⟨hx, hb, hml, hown, hts, hr, hlk, hA, hK, hS0, hC, hS, hl, hL, hst⟩
  · exact kf (Int.not_le.mp (fun z => q ((i32_le in0 hx2).mpr z))) p l e s m args below meth c H locs ls ⟨hx, hb, hml, hown, hts, hr, hlk, hA, hK, hS0, hC, hS, hl, hL, hst⟩
theorem j_icmp_gt {x y off : Int} {tgt : Nat} (hd : decode mm.2.1 pc = .ok (.if_icmp .gt off, 3)) (ht : (pc : Int) + off = (tgt : Int)) (kt : y < x → JG E mm Q tgt L st M) (kf : x ≤ y → JG E mm Q (pc + 3) L st M) : JG E mm Q pc L (vI y :: vI x :: st) M := by
  intro p l e s m args below meth c H locs ls X
  obtain ⟨hx, hb, hml, hown, hts, hr, hlk, hA, hK, hS0, hC, hS, hl, hL, hst⟩ := X
  have hy : inR y := okS_h hst
  have hx2 : inR x := okS_h (okS_t hst)
  have hst := okS_t (okS_t hst)
  refine lv_icmp_gt hx hb hd ht (fun q => ?_) (fun q => ?_)
  · exact kt ((i32_lt hy hx2).mp q) p l e s m args below meth c H locs ls ⟨hx, hb, hml, hown, hts, hr, hlk, hA, hK, hS0, hC, hS, hl, hL, hst⟩
  · exact kf (Int.not_lt.mp (fun z => q ((i32_lt hy hx2).mpr z))) p l e s m args below meth c H locs ls ⟨hx, hb, hml, hown, hts, hr, hlk, hA, hK, hS0, hC, hS, hl, hL, hst⟩
theorem j_if_gt {x off : Int} {tgt : Nat} (hd : decode mm.2.1 pc = .ok (.ifCond .gt off, 3)) (ht : (pc : Int) + off = (tgt : Int)) (kt : 0 < x → JG E mm Q tgt L st M) (kf : x ≤ 0 → JG E mm Q (pc + 3) L st M) : JG E mm Q pc L (vI x :: st) M := by
  intro p l e s m args below meth c H locs ls X
  obtain ⟨hx, hb, hml, hown, hts, hr, hlk, hA, hK, hS0, hC, hS, hl, hL, hst⟩ := X
  have hx2 : inR x := okS_h hst
  have hst := okS_t hst
  refine lv_if_gt hx hb hd ht (fun q => ?_) (fun q => ?_)
  · exact kt ((i32_lt in0 hx2).mp q) p l e s m args below meth c H locs ls ⟨hx, hb, hml, hown, hts, hr, hlk, hA, hK, hS0, hC, hS, hl, hL, hst⟩
  · exact kf (Int.not_lt.mp (fun z => q ((i32_lt in0 hx2).mpr z))) p l e s m args below meth c H locs ls ⟨hx, hb, hml, hown, hts, hr, hlk, hA, hK, hS0, hC, hS, hl, hL, hst⟩
theorem j_icmp_le {x y off : Int} {tgt : Nat} (hd : decode mm.2.1 pc = .ok (.if_icmp .le off, 3)) (ht : (pc : Int) + off = (tgt : Int)) (kt : x ≤ y → JG E mm Q tgt L st M) (kf : y < x → JG E mm Q (pc + 3) L st M) : JG E mm Q pc L (vI y :: vI x :: st) M := by
  intro p l e s m args below meth c H locs ls X
  obtain ⟨hx, hb, hml, hown, hts, hr, hlk, hA, hK, hS0, hC, hS, hl, hL, hst⟩ := X
  have hy : inR y := okS_h hst
  have hx2 : inR x := okS_h (okS_t hst)
  have hst := okS_t (okS_t hst)
  refine lv_icmp_le hx hb hd ht (fun q => ?_) (fun q => ?_)
  · exact kt ((i32_le hx2 hy).mp q) p l e s m args below meth c H locs ls ⟨hx, hb, hml, hown, hts, hr, hlk, hA, hK, hS0, hC, hS, hl, hL, hst⟩
  · exact kf (Int.not_le.mp (fun z => q ((i32_le hx2 hy).mpr z))) p l e s m args below meth c H locs ls ⟨hx, hb, hml, hown, hts, hr, hlk, hA, hK, hS0, hC, hS, hl, hL, hst⟩
theorem j_if_le {x off : Int} {tgt : Nat} (hd : decode mm.2.1 pc = .ok (.ifCond .le off, 3)) (ht : (pc : Int) + off = (tgt : Int)) (kt : x ≤ 0 → JG E mm Q tgt L st M) (kf : 0 < x → JG E mm Q (pc + 3) L st M) : JG E mm Q pc L (vI x :: st) M := by
  intro p l e s m args below meth c H locs ls X
  obtain ⟨hx, hb, hml, hown, hts, hr, hlk, hA, hK, hS0, hC, hS, hl, hL, hst⟩ := X
  have hx2 : inR x := okS_h hst
  have hst := okS_t hst
  refine lv_if_le hx hb hd ht (fun q => ?_) (fun q => ?_)
  · exact kt ((i32_le hx2 in0).mp q) p l e s m args below meth c H locs ls ⟨hx, hb, hml, hown, hts, hr, hlk, hA, hK, hS0, hC, hS, hl, hL, hst⟩
  · exact kf (Int.not_le.mp (fun z => q ((i32_le hx2 in0).mpr z))) p l e s m args below meth c H locs ls ⟨hx, hb, hml, hown, hts, hr, hlk, hA, hK, hS0, hC, hS, hl, hL, hst⟩
theorem j_goto {off : Int} {tgt : Nat} (hd : decode mm.2.1 pc = .ok (.goto off, 3)) (ht : (pc : Int) + off = (tgt : Int)) (k : JG E mm Q tgt L st M) : JG E mm Q pc L (st) M := by
  intro p l e s m args below meth c H locs ls X
  obtain ⟨hx, hb, hml, hown, hts, hr, hlk, hA, hK, hS0, hC, hS, hl, hL, hst⟩ := X
  refine lv_goto hx hb hd ht ?_
  exact k p l e s m args below meth c H locs ls ⟨hx, hb, hml, hown, hts, hr, hlk, hA, hK, hS0, hC, hS, hl, hL, hst⟩
theorem j_tabIn {dflt lo hi off x : Int} {offs : Array Int} {len tgt : Nat} (hd : decode mm.2.1 pc = .ok (.tableswitch dflt lo hi offs, len)) (h1 : ¬ x < lo) (h2 : ¬ hi < x) (ho : offs[(x - lo).toNat]? = some off) (ht : (pc : Int) + off = (tgt : Int)) (k : JG E mm Q tgt L st M) : JG E mm Q pc L (vI x :: st) M := by
  intro p l e s m args below meth c H locs ls X
  obtain ⟨hx, hb, hml, hown, hts, hr, hlk, hA, hK, hS0, hC, hS, hl, hL, hst⟩ := X
  have hx2 : (i32 x).toInt = x := i32_toInt (okS_h hst)
  refine lv_tableIn hx hb hd (by rw [hx2]; exact h1) (by rw [hx2]; exact h2) (by rw [hx2]; exact ho) ht ?_
  exact k p l e s m args below meth c H locs ls ⟨hx, hb, hml, hown, hts, hr, hlk, hA, hK, hS0, hC, hS, hl, hL, okS_t hst⟩
theorem j_tabOut {dflt lo hi x : Int} {offs : Array Int} {len tgt : Nat} (hd : decode mm.2.1 pc = .ok (.tableswitch dflt lo hi offs, len)) (h1 : x < lo ∨ hi < x) (ht : (pc : Int) + dflt = (tgt : Int)) (k : JG E mm Q tgt L st M) : JG E mm Q pc L (vI x :: st) M := by
  intro p l e s m args below meth c H locs ls X
  obtain ⟨hx, hb, hml, hown, hts, hr, hlk, hA, hK, hS0, hC, hS, hl, hL, hst⟩ := X
  have hx2 : (i32 x).toInt = x := i32_toInt (okS_h hst)
  refine lv_tableOut hx hb hd (by rw [hx2]; exact h1) ht ?_
  exact k p l e s m args below meth c H locs ls ⟨hx, hb, hml, hown, hts, hr, hlk, hA, hK, hS0, hC, hS, hl, hL, okS_t hst⟩
theorem j_look {dflt off x : Int} {ps : Array (Int × Int)} {len tgt : Nat} (hd : decode mm.2.1 pc = .ok (.lookupswitch dflt ps, len)) (hp : (ps.toList.zip (ps.toList.drop 1)).all (fun (a, next) => a.1 < next.1) = true) (ho : Op.lookupswitch.offset ps.toList dflt x = off) (ht : (pc : Int) + off = (tgt : Int)) (k : JG E mm Q tgt L st M) : JG E mm Q pc L (vI x :: st) M := by
  intro p l e s m args below meth c H locs ls X
  obtain ⟨hx, hb, hml, hown, hts, hr, hlk, hA, hK, hS0, hC, hS, hl, hL, hst⟩ := X
  have hx2 : (i32 x).toInt = x := i32_toInt (okS_h hst)
  refine lv_lookup hx hb hd hp (by rw [hx2]; exact ho) ht ?_
  exact k p l e s m args below meth c H locs ls ⟨hx, hb, hml, hown, hts, hr, hlk, hA, hK, hS0, hC, hS, hl, hL, okS_t hst⟩
theorem j_iret {x : Int} (hd : decode mm.2.1 pc = .ok (.ireturn, 1)) (hret : mm.2.2.2.1 = some .int) (hQ : Q x M) : JG E mm Q pc L [vI x] M := by
  intro p l e s m args below meth c H locs ls X
  obtain ⟨hx, hb, hml, hown, hts, hr, hlk, hA, hK, hS0, hC, hS, hl, hL, hst⟩ := X
  refine W.iret hx hb (hr.trans hret) (fun t ht hW => ?_) hS.2.2 hd
  rw [hret]
  exact ⟨⟨x, M, rfl, okS_h hst, hQ, by rw [ht]; exact hC⟩, hS.F ht⟩
theorem j_zret {x : Int} (hd : decode mm.2.1 pc = .ok (.ireturn, 1)) (hret : mm.2.2.2.1 = some .boolean) (h01 : x = 0 ∨ x = 1) (hQ : Q x M) : JG E mm Q pc L [vI x] M := by
  intro p l e s m args below meth c H locs ls X
  obtain ⟨hx, hb, hml, hown, hts, hr, hlk, hA, hK, hS0, hC, hS, hl, hL, hst⟩ := X
  refine W.zret hx hb (hr.trans hret) (by rcases h01 with h | h <;> subst h <;> rfl) (fun t ht hW => ?_) hS.2.2 hd
  rw [hret]
  exact ⟨⟨x, M, rfl, okS_h hst, hQ, by rw [ht]; exact hC⟩, hS.F ht⟩
theorem j_lret {x : Int} (hd : decode mm.2.1 pc = .ok (.lreturn, 1)) (hret : mm.2.2.2.1 = some .long) (hQ : Q x M) : JG E mm Q pc L [vL x] M := by
  intro p l e s m args below meth c H locs ls X
  obtain ⟨hx, hb, hml, hown, hts, hr, hlk, hA, hK, hS0, hC, hS, hl, hL, hst⟩ := X
  refine W.lret hx hb (hr.trans hret) (fun t ht hW => ?_) hS.2.2 hd
  rw [hret]
  exact ⟨⟨x, M, rfl, okS_h hst, hQ, by rw [ht]; exact hC⟩, hS.F ht⟩
theorem j_vret (hd : decode mm.2.1 pc = .ok (.return_, 1)) (hret : mm.2.2.2.1 = none) (hQ : Q 0 M) : JG E mm Q pc L [] M := by
  intro p l e s m args below meth c H locs ls X
  obtain ⟨hx, hb, hml, hown, hts, hr, hlk, hA, hK, hS0, hC, hS, hl, hL, hst⟩ := X
  refine W.vret hx hb (hr.trans hret) (fun t ht hW => ?_) hS.2.2 hd
  rw [hret]
  exact ⟨⟨0, M, rfl, trivial, hQ, by rw [ht]; exact hC⟩, hS.F ht⟩
end

/-! an instruction whose end is chosen behind it: the state at the end need not be named beforehand -/
theorem go_some {p : Program} {e : Env} {below : List Frame} {T : State} {f : JFrame} {c : Code} {ins : Instr} {len : Nat} {Q : State → Prop} (h : At T f.method c below) (hd : decode c.code f.pc = .ok (ins, len))
    (hw : wp (p.tables.exec ins) (fun _ _ _ s1 => ∃ t, Steps p.tables e below (s1.modifyTopJava fun g => { g with pc := g.pc + len }) t ∧ Q t) (fun _ _ _ => False) e false [] (T.setTop f)) : ∃ t, Steps p.tables e below (T.setTop f) t ∧ Q t := by
  have h1 := (wpRun_iff_run (p.tables.exec ins) (fun _ s1 _ => ∃ t, Steps p.tables e below (s1.modifyTopJava fun g => { g with pc := g.pc + len }) t ∧ Q t) (fun _ _ _ => False) e (T.setTop f)).mp hw
  cases hr : (p.tables.exec ins).run e (T.setTop f) with
  | ok a s1 acts =>
    rw [hr] at h1
    obtain ⟨t, a1, a2⟩ := h1
    refine ⟨t, Steps.instr h ?_, a2⟩
    rw [hd]
    show wpRun _ _ _ _ _
    rw [wpRun_iff_run, hr]
    exact fun _ => a1
  | ctl x s1 acts =>
    rw [hr] at h1
    cases x <;> exact h1.elim
/-! twenty-one rows of eighty-four ints: what stands when i of them are there -/
theorem gf_up (n0 c i : Nat) : updV (fun j => va_rf (gf n0 c i j)) i (.ref (n0 + (c + i))) = fun j => va_rf (gf n0 c (i + 1) j) := by
  rw [← gf_s]
  funext j
  unfold updV va_up
  by_cases h : j = i
  · rw [if_pos h, if_pos h]
    rfl
  · rw [if_neg h, if_neg h]
def rowI (p : Program) (l : Launch) (e : Env) (R : Room) (s : State) (m : MethodId) (args : Array Value) (below : List Frame) (meth : Method) (c : Code) (cells slots : Nat) (D : va_G) (ca : Nat → ClassId) (n0 k : Nat) (cl : Nat → va_E) (i : Nat) (T : State) : Prop :=
  ∃ (locs1 : List Loc) (cl1 : Nat → va_E), Stand p l e R s m args below meth c T locs1 (cells + 1 + i) (slots + 21 + 84 * i) ∧ CHp D n0 (k + 1 + i) cl1 T.heap ∧ va_S (frN n0) s.heap T.heap locs1 ∧ (∀ j, j < k → cl1 j = cl j) ∧ cl1 k = .inl (ca 7, 21, refs (gf n0 (k + 1) i)) ∧ ∀ j, j < i → cl1 (k + 1 + j) = .inl (ca 0, 84, .inl (fun _ => 0))
section
variable {p : Program} {l : Launch} {e : Env} {R : Room} {s : State} {m : MethodId} {args : Array Value} {below : List Frame} {meth : Method} {c : Code} {T : State} {locs : List Loc} {cells slots : Nat}
variable {D : va_G} {ca : Nat → ClassId} {n0 k i : Nat} {cl : Nat → va_E}
/-- none yet: the row of rows alone -/
theorem rowI_0 (X : Stand p l e R s m args below meth c T locs cells slots) (hC : CHp D n0 k cl T.heap) (hS : va_S (frN n0) s.heap T.heap locs) : rowI p l e R s m args below meth c cells slots D ca n0 k cl 0 (T.pushCell (arrV (ca 7) 21 fun _ => .null)) := by
  have z : (T.pushCell (arrV (ca 7) 21 fun _ => .null)).heap.size = T.heap.size + 1 := State.heap_size_pushCell _ _
  have o : ∀ q, q < T.heap.size → (T.pushCell (arrV (ca 7) 21 fun _ => .null)).heap[q]? = T.heap[q]? := fun q hq => State.heap_pushCell_of_lt _ _ hq
  have hX := X.pushed (arrV (ca 7) 21 fun _ => .null)
  rw [arrV_size] at hX
  refine ⟨locs, upE cl k (.inl (ca 7, 21, refs (gf n0 (k + 1) 0))), hX, CH_push hC z o ?_, nS_push hS z o, fun j hj => upE_ne (Nat.ne_of_lt hj), upE_eq _ _ _, fun j hj => absurd hj (Nat.not_lt_zero j)⟩
  show (T.pushCell (arrV (ca 7) 21 fun _ => .null)).heap[n0 + k]? = some (arrV (ca 7) 21 fun j => va_rf (gf n0 (k + 1) 0 j))
  rw [← hC.1, ← gf_0]
  exact State.heap_pushCell_size _ _
/-- what lies at the row of rows, and one row more -/
theorem rowI_top (h : rowI p l e R s m args below meth c cells slots D ca n0 k cl i T) : T.heap.size = n0 + (k + 1 + i) ∧ T.heap[n0 + k]? = some (arrV (ca 7) 21 fun j => va_rf (gf n0 (k + 1) i j)) := by
  obtain ⟨locs1, cl1, X, hC, hS, q1, q2, q3⟩ := h
  have h0 := hC.2 k (by omega)
  rw [q2] at h0
  exact ⟨hC.1, h0⟩
theorem rowI_s (h : rowI p l e R s m args below meth c cells slots D ca n0 k cl i T) : rowI p l e R s m args below meth c cells slots D ca n0 k cl (i + 1) ((T.pushCell (arrV (ca 0) 84 fun _ => .int 0)).setCell (n0 + k) ((arrV (ca 7) 21 fun j => va_rf (gf n0 (k + 1) i j)).setSlot i (.ref (n0 + (k + 1 + i))))) := by
  obtain ⟨hz, h0⟩ := rowI_top h
  obtain ⟨locs1, cl1, X, hC, hS, q1, q2, q3⟩ := h
  have z1 : (T.pushCell (arrV (ca 0) 84 fun _ => .int 0)).heap.size = T.heap.size + 1 := State.heap_size_pushCell _ _
  have o1 : ∀ q, q < T.heap.size → (T.pushCell (arrV (ca 0) 84 fun _ => .int 0)).heap[q]? = T.heap[q]? := fun q hq => State.heap_pushCell_of_lt _ _ hq
  have v1 : (T.pushCell (arrV (ca 0) 84 fun _ => .int 0)).heap[n0 + (k + 1 + i)]? = some (arrV (ca 0) 84 fun _ => .int 0) := by
    rw [← hz]
    exact State.heap_pushCell_size _ _
  have X1 := X.pushed (arrV (ca 0) 84 fun _ => .int 0)
  rw [arrV_size] at X1
  have C1 := CH_push (v := .inl (ca 0, 84, .inl fun _ => 0)) hC z1 o1 v1
  have S1 := nS_push hS z1 o1
  have hU : (T.pushCell (arrV (ca 0) 84 fun _ => .int 0)).heap[n0 + k]? = some (arrV (ca 7) 21 fun j => va_rf (gf n0 (k + 1) i j)) := (o1 _ (by omega)).trans h0
  generalize T.pushCell (arrV (ca 0) 84 fun _ => .int 0) = U at z1 o1 v1 X1 C1 S1 hU ⊢
  have X2 := X1.stored hU i (.ref (n0 + (k + 1 + i)))
  have v2 := State.heap_setCell_self (x := (arrV (ca 7) 21 fun j => va_rf (gf n0 (k + 1) i j)).setSlot i (.ref (n0 + (k + 1 + i)))) hU
  rw [arrV_store, gf_up] at v2 X2 ⊢
  have z2 : (U.setCell (n0 + k) (arrV (ca 7) 21 fun j => va_rf (gf n0 (k + 1) (i + 1) j))).heap.size = U.heap.size := by simp [State.setCell]
  have o2 : ∀ q, q ≠ n0 + k → (U.setCell (n0 + k) (arrV (ca 7) 21 fun j => va_rf (gf n0 (k + 1) (i + 1) j))).heap[q]? = U.heap[q]? := fun q hq => State.heap_setCell_other (Ne.symm hq)
  refine ⟨_, _, X2, CH_set (j := k) (v := .inl (ca 7, 21, refs (gf n0 (k + 1) (i + 1)))) C1 z2 o2 v2, S1.put z2 o2 (Nat.le_add_right n0 k), fun j hj => ?_, upE_eq _ _ _, fun j hj => ?_⟩
  · rw [upE_ne (Nat.ne_of_lt hj), upE_ne (by omega)]
    exact q1 j hj
  · rw [upE_ne (by omega)]
    by_cases hji : j = i
    · rw [hji, upE_eq]
    · rw [upE_ne (by omega)]
      exact q3 j (by omega)
end

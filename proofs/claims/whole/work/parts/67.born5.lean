/-! twenty-one rows of eighty-four ints, made by one instruction -/
def topC (cA : ClassId) (h i : Nat) : Cell := arrV cA 21 (fun j => if j < i then .ref (h + 1 + j) else .null)
def rowC (c0 : ClassId) : Cell := arrV c0 84 (fun _ => .int 0)
def mkS (cA c0 : ClassId) (s : State) : Nat → State
  | 0 => s.pushCell (topC cA s.heap.size 0)
  | i + 1 => ((mkS cA c0 s i).pushCell (rowC c0)).setCell s.heap.size (topC cA s.heap.size (i + 1))
theorem topC_s (cA : ClassId) (h i : Nat) : (topC cA h i).setSlot i (.ref (h + 1 + i)) = topC cA h (i + 1) := by
  unfold topC
  rw [arrV_store]
  congr 1
  funext j
  unfold updV
  by_cases q : j = i
  · subst q
    simp
  · by_cases q2 : j < i
    · simp [q, q2, show j < i + 1 by omega]
    · simp [q, q2, show ¬ j < i + 1 by omega]
theorem topC_z (cA : ClassId) (h i : Nat) : (topC cA h i).slots.size = 21 := arrV_size _ _ _
theorem rowC_z (c0 : ClassId) : (rowC c0).slots.size = 84 := arrV_size _ _ _
theorem mkS_f (cA c0 : ClassId) (s : State) : ∀ i : Nat, (mkS cA c0 s i).heap.size = s.heap.size + 1 + i ∧ (mkS cA c0 s i).heap[s.heap.size]? = some (topC cA s.heap.size i) ∧ (mkS cA c0 s i).vm = s.vm ∧ (mkS cA c0 s i).slotsUsed = s.slotsUsed + 21 + i * 84 ∧ (∀ a : Nat, a < s.heap.size → (mkS cA c0 s i).heap[a]? = s.heap[a]?) ∧ ∀ j : Nat, j < i → (mkS cA c0 s i).heap[s.heap.size + 1 + j]? = some (rowC c0)
  | 0 => by
    refine ⟨by simp [mkS], by simp [mkS], rfl, by simp [mkS, topC_z], fun a ha => State.heap_pushCell_of_lt _ _ ha, fun j hj => by omega⟩
  | i + 1 => by
    obtain ⟨a1, a2, a3, a4, a5, a6⟩ := mkS_f cA c0 s i
    have hlt : s.heap.size < (mkS cA c0 s i).heap.size := by omega
    have hb : ((mkS cA c0 s i).pushCell (rowC c0)).heap[s.heap.size]? = some (topC cA s.heap.size i) := by
      rw [State.heap_pushCell_of_lt (h := hlt)]
      exact a2
    refine ⟨?_, State.heap_setCell_self hb, by simp [mkS, a3], ?_, fun a ha => ?_, fun j hj => ?_⟩
    · simp [mkS, State.setCell, a1]
      omega
    · simp [mkS, a4, rowC_z]
      omega
    · show (((mkS cA c0 s i).pushCell (rowC c0)).setCell s.heap.size _).heap[a]? = _
      have ha2 : a < (mkS cA c0 s i).heap.size := by omega
      rw [State.heap_setCell_other (Nat.ne_of_gt ha), State.heap_pushCell_of_lt (h := ha2)]
      exact a5 a ha
    · show (((mkS cA c0 s i).pushCell (rowC c0)).setCell s.heap.size _).heap[s.heap.size + 1 + j]? = _
      rw [State.heap_setCell_other (show s.heap.size ≠ s.heap.size + 1 + j by omega)]
      by_cases q : j < i
      · have hj2 : s.heap.size + 1 + j < (mkS cA c0 s i).heap.size := by omega
        rw [State.heap_pushCell_of_lt (h := hj2)]
        exact a6 j q
      · have q2 : s.heap.size + 1 + j = (mkS cA c0 s i).heap.size := by omega
        rw [q2]
        exact State.heap_pushCell_size _ _
theorem mkS_top (cA c0 : ClassId) (s : State) (f : JFrame) : ∀ i : Nat, mkS cA c0 (s.setTop f) i = (mkS cA c0 s i).setTop f
  | 0 => rfl
  | i + 1 => by simp only [mkS, mkS_top cA c0 s f i, State.heap_setTop, State.pushCell_setTop, State.setCell_setTop]
section
variable {E : CtlPost} {e : Env} {d : Bool} {acts : List Action} {s : State}
theorem mk_row {c0 cc : ClassId} {kc : Class} (hkc : s.vm.classes[c0]? = some kc) (hkindc : kc.kind = .array cc .int) (hl2 : ¬ 84 > e.platform.arrayLengthLimit) (hh2 : ¬ 84 * 4 > e.platform.maxHeapBytes) (h1 : s.heap.size < e.platform.maxCells) (h2 : s.slotsUsed + 84 ≤ e.platform.maxSlots) {Q : Addr → Pre} (hq : ∀ acts', Q s.heap.size d acts' (s.pushCell (rowC c0))) : wp (multianewarray.make c0 [i32 84]) Q E e d acts s := by
  have e84 : (i32 84).toNatClampNeg = 84 := by decide +kernel
  have hn : ¬ i32 84 < 0 := by decide +kernel
  rw [multianewarray.make]
  simp only [wp_bind', W.ite, hn, if_false, wp_pure', W.theClass, hkc, hkindc, Option.some.injEq, exists_eq_left', e84]
  refine W.newArray_of hkc hkindc hl2 hh2 h1 h2 rfl (fun acts' => ?_)
  have hr : ({ cls := c0, slots := Array.replicate 84 (defaultValue .int) } : Cell) = rowC c0 := arrV_new _ _ _
  rw [hr]
  exact hq acts'
theorem mk_all {cA c0 cc : ClassId} {k kc : Class} (hk : s.vm.classes[cA]? = some k) (hkind : k.kind = .array c0 (.array .int)) (hkc : s.vm.classes[c0]? = some kc) (hkindc : kc.kind = .array cc .int) (hl1 : ¬ 21 > e.platform.arrayLengthLimit) (hh1 : ¬ 21 * 4 > e.platform.maxHeapBytes) (hl2 : ¬ 84 > e.platform.arrayLengthLimit) (hh2 : ¬ 84 * 4 > e.platform.maxHeapBytes) (h1 : s.heap.size + 22 ≤ e.platform.maxCells) (h2 : s.slotsUsed + 1785 ≤ e.platform.maxSlots) {Q : Addr → Pre} (hq : ∀ d' acts', Q s.heap.size d' acts' (mkS cA c0 s 21)) : wp (multianewarray.make cA [i32 21, i32 84]) Q E e d acts s := by
  have e21 : (i32 21).toNatClampNeg = 21 := by decide +kernel
  have hn : ¬ i32 21 < 0 := by decide +kernel
  have hn2 : ¬ i32 84 < 0 := by decide +kernel
  have hz : (i32 21 == 0) = false := by decide +kernel
  rw [multianewarray.make]
  simp only [wp_bind', W.ite, hn, if_false, wp_pure', W.theClass, hk, hkind, Option.some.injEq, exists_eq_left', e21, hz, Bool.false_eq_true]
  refine W.newArray_of hk hkind hl1 hh1 (by omega) (by omega) rfl (fun acts1 => ?_)
  have hr : ({ cls := cA, slots := Array.replicate 21 .null } : Cell) = topC cA s.heap.size 0 := by
    rw [show ({ cls := cA, slots := Array.replicate 21 .null } : Cell) = arrV cA 21 (fun _ => .null) from arrV_new _ _ _]
    unfold topC
    congr 1
  rw [hr, wp_bind', Std.Legacy.Range.forIn_eq_forIn_range']
  show wp (forIn (List.range' 0 21 1) PUnit.unit _) _ E e _ _ _
  refine wp_forIn_inv (fun rest s' => ∃ i, i ≤ 21 ∧ rest = List.range' i (21 - i) ∧ s' = mkS cA c0 s i) _ _ ⟨0, by omega, rfl, rfl⟩ ?_ ?_
  · rintro x rest s' d' acts' Q' ⟨i, hi, hl, rfl⟩ hnext
    have hlt : i < 21 := by
      rcases Nat.lt_or_ge i 21 with h | h
      · exact h
      · rw [show 21 - i = 0 by omega] at hl
        cases hl
    rw [show 21 - i = (21 - (i + 1)) + 1 by omega, List.range'_succ] at hl
    obtain ⟨hx, hrest⟩ := List.cons.inj hl
    subst hx
    obtain ⟨a1, a2, a3, a4, a5, a6⟩ := mkS_f cA c0 s x
    have hlt0 : s.heap.size < (mkS cA c0 s x).heap.size := by omega
    simp only [wp_bind']
    refine mk_row (by rw [a3]; exact hkc) hkindc hl2 hh2 (by omega) (by omega) (fun acts2 => ?_)
    simp only [wp_bind', W.writeLoc, wp_pure']
    refine ⟨topC cA s.heap.size x, by rw [State.heap_pushCell_of_lt (h := hlt0)]; exact a2, (fun h => by cases h), by rw [topC_z]; exact hlt, ?_, ?_⟩
    · show State.fitsSlot _ cA .none x _ = true
      simp [State.fitsSlot, State.slotType?, a3, hk, hkind]
      rfl
    · refine hnext _ _ _ ⟨x + 1, hlt, hrest, ?_⟩
      rw [a1, topC_s]
      rfl
  · rintro s' d' acts' ⟨i, hi, hl, rfl⟩
    have hiN : i = 21 := by
      rcases Nat.lt_or_ge i 21 with h | h
      · rw [show 21 - i = (21 - (i + 1)) + 1 by omega, List.range'_succ] at hl
        cases hl
      · omega
    subst hiN
    simp only [wp_pure']
    exact hq _ _
end

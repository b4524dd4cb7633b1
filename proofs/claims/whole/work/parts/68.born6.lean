/-! the same as a row of the machine -/
theorem topC_gf (cA : ClassId) (n0 k : Nat) : topC cA (n0 + k) 21 = arrV cA 21 (fun i => va_rf (gf n0 (k + 1) 21 i)) := by
  have h : (fun j => if j < 21 then Value.ref (n0 + k + 1 + j) else .null) = (fun i => va_rf (gf n0 (k + 1) 21 i)) := by
    funext i
    unfold gf
    by_cases q : i < 21
    · rw [if_pos q, if_pos q, show n0 + k + 1 + i = n0 + (k + 1 + i) by omega]
      rfl
    · rw [if_neg q, if_neg q]
      rfl
  unfold topC
  rw [h]
section
variable {p : Program} {l : Launch} {e : Env} {R : Room} {s : State} {m : MethodId} {args : Array Value} {below : List Frame} {meth : Method} {c : Code} {T : State} {H : Heap} {locs : List Loc} {cells slots : Nat} {Q : State → Prop}
variable {cc : ByteArray} {pc : Nat} {ls : Array Slot} {rest : List Value} {D : va_G} {ca : Nat → ClassId} {n0 k : Nat} {cl : Nat → va_E} {own : String}
theorem mk_stand (X : Stand p l e R s m args below meth c T locs cells slots) (cA c0 : ClassId) : ∀ i : Nat, Stand p l e R s m args below meth c (mkS cA c0 T i) (locs ++ (List.range i).map fun j => ⟨T.heap.size, j⟩) (cells + 1 + i) (slots + 21 + i * 84)
  | 0 => by
    have h := X.pushed (topC cA T.heap.size 0)
    rw [topC_z] at h
    simpa [mkS] using h
  | i + 1 => by
    have Xi := mk_stand X cA c0 i
    obtain ⟨a1, a2, a3, a4, a5, a6⟩ := mkS_f cA c0 T i
    have hlt0 : T.heap.size < (mkS cA c0 T i).heap.size := by omega
    have hcell : ((mkS cA c0 T i).pushCell (rowC c0)).heap[T.heap.size]? = some (topC cA T.heap.size i) := by
      rw [State.heap_pushCell_of_lt (h := hlt0)]
      exact a2
    have h := (Xi.pushed (rowC c0)).stored hcell i (.ref (T.heap.size + 1 + i))
    rw [rowC_z, topC_s] at h
    have e2 : (locs ++ (List.range (i + 1)).map fun j => (⟨T.heap.size, j⟩ : Loc)) = (locs ++ (List.range i).map fun j => (⟨T.heap.size, j⟩ : Loc)) ++ [⟨T.heap.size, i⟩] := by simp [List.range_succ, List.append_assoc]
    have e3 : slots + 21 + (i + 1) * 84 = slots + 21 + i * 84 + 84 := by omega
    rw [e2, e3]
    exact h
theorem n_multi {index : Nat} (hx : p.tables.exec = Jvm.exec) (hb : c.code = cc) (hts : ∀ w ∈ gw, w.before args s = true) (hown : s.vm.findClass own = some m.cls) (hK : nK D ca s) (hcl : Cond.classLink own index "[[I" ∈ gw) (hcells : cells + 22 ≤ R.cells) (hslots : slots + 1785 ≤ R.slots) (hd : decode cc pc = .ok (.multianewarray index 2, 4)) (hC : CHp D n0 k cl H) (hS : va_S (frN n0) s.heap H locs)
    (kk : ∀ (cl1 : Nat → va_E) (H1 : Heap) (locs1 : List Loc), (∀ j, j < k → cl1 j = cl j) → cl1 k = .inl (ca 7, 21, refs (gf n0 (k + 1) 21)) → (∀ i, i < 21 → cl1 (k + 1 + i) = .inl (ca 0, 84, .inl (fun _ => 0))) → CHp D n0 (k + 22) cl1 H1 → va_S (frN n0) s.heap H1 locs1 → W p l e R s m args below meth c H1 locs1 (cells + 22) (slots + 1785) Q (F0 m (pc + 4) ls (.ref (n0 + k) :: rest))) : W p l e R s m args below meth c H locs cells slots Q (F0 m pc ls (.int (i32 84) :: .int (i32 21) :: rest)) := by
  intro T hT X
  subst hb
  have hpl : e.platform.magicAccessors = ({} : Platform).magicAccessors := by rw [X.admits.platform]
  obtain ⟨kA, hkA, hkindA⟩ := hK.2.2.2
  obtain ⟨-, kC, hkC, cc', hkindC⟩ := (hK.1.2 0 _ rfl).1 0 (fun _ => .null)
  have h7 : s.vm.findClass "[[I" = some (ca 7) := (hK.1.2 7 _ rfl).2
  obtain ⟨c7, hfc, hclk⟩ := Cond.classLink_spec hown (hts _ hcl) e.platform hpl
  have hc7 : c7 = ca 7 := Option.some.inj (hfc.symm.trans h7)
  subst hc7
  obtain ⟨hg₁, hwarm₁, hready₁⟩ := State.classEntry (e := e) X.warmed hclk
  generalize T.vm.noted m.cls index (.cls (ca 7)) = vm₁ at hg₁ hwarm₁ hready₁
  have hal : s.vm.Alike vm₁ := hwarm₁.alike
  obtain ⟨kA₁, hkA₁, heA⟩ := hal.2.2 _ _ hkA
  obtain ⟨kC₁, hkC₁, heC⟩ := hal.2.2 _ _ hkC
  have hkindA₁ : kA₁.kind = .array (ca 0) (.array .int) := by rw [heA]; exact hkindA
  have hkindC₁ : kC₁.kind = .array cc' .int := by rw [heC]; exact hkindC
  have X₁ := X.noted hwarm₁
  obtain ⟨hr1, hr2⟩ := X.roomAbove hcells hslots
  have hl1 : ¬ 21 > e.platform.arrayLengthLimit := by rw [Launch.admits_arrayLengthLimit X.admits]; decide
  have hh1 : ¬ 21 * 4 > e.platform.maxHeapBytes := by rw [Launch.admits_maxHeapBytes X.admits]; decide
  have hl2 : ¬ 84 > e.platform.arrayLengthLimit := by rw [Launch.admits_arrayLengthLimit X.admits]; decide
  have hh2 : ¬ 84 * 4 > e.platform.maxHeapBytes := by rw [Launch.admits_maxHeapBytes X.admits]; decide
  have XF := mk_stand X₁ (ca 7) (ca 0) 21
  obtain ⟨a1, a2, a3, a4, a5, a6⟩ := mkS_f (ca 7) (ca 0) (T.setVm vm₁) 21
  have hTs : (T.setVm vm₁).heap = H := hT
  rw [hTs] at a1 a2 a5 a6
  have hHs : H.size = n0 + k := hC.1
  have hk := kk (fun j => if j < k then cl j else if j = k then .inl (ca 7, 21, refs (gf n0 (k + 1) 21)) else .inl (ca 0, 84, .inl (fun _ => 0))) (mkS (ca 7) (ca 0) (T.setVm vm₁) 21).heap (locs ++ (List.range 21).map fun j => ⟨(T.setVm vm₁).heap.size, j⟩) (fun j hj => if_pos hj) (by simp) (fun i hi => by rw [if_neg (by omega), if_neg (by omega)]) ⟨by rw [a1]; omega, fun j hj => ?_⟩ ⟨?_, fun q h1 h2 => ?_, fun q hq => ?_⟩
  · obtain ⟨t, b1, b2⟩ := hk (mkS (ca 7) (ca 0) (T.setVm vm₁) 21) rfl XF
    refine ⟨t, ?_, b2⟩
    jvm_step X.here [hx, hd]
    simp only [multianewarray.sem, wp_bind', W.resolveClassAt_links (State.method?_setTop (F0 m pc ls (.int (i32 84) :: .int (i32 21) :: rest)) X.here.top) hg₁]
    rw [W.popN, if_neg (by decide)]
    refine ⟨F0 m pc ls (.int (i32 84) :: .int (i32 21) :: rest), State.topJava?_setTop' (s := T.setVm vm₁) _ X.here.top, [.int (i32 21), .int (i32 84)], rest, rfl, rfl, ?_⟩
    simp only [List.mapM_cons, List.mapM_nil, wp_bind', wp_pure']
    refine mk_all (k := kA₁) (kc := kC₁) (c0 := ca 0) (cc := cc') hkA₁ hkindA₁ hkC₁ hkindC₁ hl1 hh1 hl2 hh2 (by show T.heap.size + 22 ≤ _; omega) (by show T.slotsUsed + 1785 ≤ _; omega) (fun d' acts' => ?_)
    have eS : ((T.setTop (F0 m pc ls (.int (i32 84) :: .int (i32 21) :: rest))).setVm vm₁).setTop { F0 m pc ls (.int (i32 84) :: .int (i32 21) :: rest) with stack := rest } = (T.setVm vm₁).setTop { F0 m pc ls (.int (i32 84) :: .int (i32 21) :: rest) with stack := rest } := by
      show ((T.setVm vm₁).setTop _).setTop _ = _
      rw [State.setTop_setTop]
    rw [eS, mkS_top]
    simp only [wp_bind', W.mark, W.pushRef, State.topJava?_setTop' _ XF.here.top, Option.some.injEq, exists_eq_left', State.setTop_setTop, State.heap_setTop]
    intro acts2
    simp [jvm, XF.here.top]
    rw [← hHs, ← hT] at b1
    exact b1
  · dsimp only
    by_cases q1 : j < k
    · rw [if_pos q1]
      exact (hC.2 j q1).kept (a5 _ (by rw [hHs]; show n0 + j < _; omega))
    · rw [if_neg q1]
      by_cases q2 : j = k
      · rw [if_pos q2]
        subst q2
        show (mkS (ca 7) (ca 0) (T.setVm vm₁) 21).heap[n0 + j]? = some (arrV (ca 7) 21 (fun i => va_rf (gf n0 (j + 1) 21 i)))
        rw [← hHs, a2, hHs, topC_gf]
      · rw [if_neg q2]
        show (mkS (ca 7) (ca 0) (T.setVm vm₁) 21).heap[n0 + j]? = some (arrV (ca 0) 84 (fun i => .int 0))
        have h6 := a6 (j - (k + 1)) (by omega)
        rw [show H.size + 1 + (j - (k + 1)) = n0 + j by omega] at h6
        exact h6
  · exact Nat.le_trans hS.1 (by rw [a1]; omega)
  · rw [a5 q (Nat.lt_of_lt_of_le h1 hS.1)]
    exact hS.2.1 q h1 h2
  · rcases List.mem_append.mp hq with h | h
    · exact hS.2.2 q h
    · obtain ⟨z, -, hz⟩ := List.mem_map.mp h
      rw [← hz]
      show n0 ≤ (T.setVm vm₁).heap.size
      rw [hTs, hHs]
      omega
end

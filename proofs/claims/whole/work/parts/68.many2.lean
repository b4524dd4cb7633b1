/-! multianewarray as a row of the machine -/
section
variable {p : Program} {l : Launch} {e : Env} {R : Room} {s : State} {m : MethodId} {args : Array Value} {below : List Frame} {meth : Method} {c : Code} {T : State} {H : Heap} {locs : List Loc} {cells slots : Nat} {Q : State → Prop}
variable {cc : ByteArray} {pc : Nat} {ls : Array Slot} {rest : List Value} {D : va_G} {ca : Nat → ClassId} {n0 k : Nat} {cl : Nat → va_E} {own : String}
variable {E : CtlPost} {d : Bool} {acts : List Action} {f : JFrame} {cA comp : ClassId} {kA kC : Class} {ty : FieldType} {N : Nat} {v : Value}
/-- a small array of a class that was there when the method was called -/
theorem st_new (X : Stand p l e R s m args below meth c T locs cells slots) (hk : s.vm.classes[cA]? = some kA) (hkind : kA.kind = .array comp ty) (hN : N ≤ 84) (h4 : componentBytes ty = 4) (hv : fits ty v = true) (hcells : cells + 1 ≤ R.cells) (hslots : slots + N ≤ R.slots) {P : Addr → Pre} (hp : ∀ acts', P T.heap.size d acts' ((T.pushCell (arrV cA N fun _ => v)).setTop f)) : wp (Jvm.newArray cA N v) P E e d acts (T.setTop f) := by
  obtain ⟨k', hk', he⟩ := X.warmed.alike.2.2 _ _ hk
  obtain ⟨g1, g2⟩ := X.roomAbove hcells hslots
  have hkind' : k'.kind = .array comp ty := by
    rw [he]
    exact hkind
  have b1 := Launch.admits_arrayLengthLimit X.admits
  have b2 := Launch.admits_maxHeapBytes X.admits
  refine W.newArray_of (s := T.setTop f) hk' hkind' (by omega) (by rw [h4]; omega) (Nat.lt_of_succ_le g1) g2 hv fun acts' => ?_
  rw [arrV_new]
  exact hp acts'
/-- one row -/
theorem st_row (X : Stand p l e R s m args below meth c T locs cells slots) (hk : s.vm.classes[cA]? = some kA) (hkind : kA.kind = .array comp .int) (hcells : cells + 1 ≤ R.cells) (hslots : slots + 84 ≤ R.slots) {P : Addr → Pre} (hp : ∀ acts', P T.heap.size d acts' ((T.pushCell (arrV cA 84 fun _ => .int 0)).setTop f)) : wp (multianewarray.make cA [i32 84]) P E e d acts (T.setTop f) := by
  obtain ⟨k', hk', he⟩ := X.warmed.alike.2.2 _ _ hk
  have hkind' : k'.kind = .array comp .int := by
    rw [he]
    exact hkind
  unfold multianewarray.make
  rw [if_neg (show ¬ i32 84 < 0 by decide +kernel)]
  simp only [wp_bind', wp_pure', W.theClass]
  refine ⟨k', hk', ?_⟩
  simp only [hkind', show (i32 84).toNatClampNeg = 84 by decide +kernel]
  exact st_new X hk hkind (Nat.le_refl 84) rfl rfl hcells hslots hp
/-- all of them -/
theorem st_rows (X : Stand p l e R s m args below meth c T locs cells slots) (hC : CHp D n0 k cl T.heap) (hS : va_S (frN n0) s.heap T.heap locs) (hk : s.vm.classes[ca 7]? = some kA) (hkind : kA.kind = .array (ca 0) (.array .int)) (hk0 : s.vm.classes[ca 0]? = some kC) (hkind0 : kC.kind = .array comp .int) (hcells : cells + 22 ≤ R.cells) (hslots : slots + 1785 ≤ R.slots) {P : Addr → Pre} (hp : ∀ d' acts' T1, rowI p l e R s m args below meth c cells slots D ca n0 k cl 21 T1 → P (n0 + k) d' acts' (T1.setTop f)) : wp (multianewarray.make (ca 7) [i32 21, i32 84]) P E e d acts (T.setTop f) := by
  obtain ⟨k', hk', he⟩ := X.warmed.alike.2.2 _ _ hk
  have hkind' : k'.kind = .array (ca 0) (.array .int) := by
    rw [he]
    exact hkind
  have h21 : (i32 21).toNatClampNeg = 21 := by decide +kernel
  unfold multianewarray.make
  rw [if_neg (show ¬ i32 21 < 0 by decide +kernel)]
  simp only [wp_bind', wp_pure', W.theClass]
  refine ⟨k', hk', ?_⟩
  simp only [hkind', h21, wp_bind']
  refine st_new X hk hkind (by omega) rfl rfl (by omega) (by omega) fun acts1 => ?_
  rw [hC.1, if_neg (show ¬ (i32 21 == 0) = true by decide +kernel)]
  rw [wp_bind', Std.Legacy.Range.forIn_eq_forIn_range']
  show wp (forIn (List.range' 0 21) PUnit.unit _) _ _ _ _ _ _
  refine wp_forIn_inv (fun todo s1 => ∃ (i : Nat) (T1 : State), i + todo.length = 21 ∧ todo = List.range' i todo.length ∧ s1 = T1.setTop f ∧ rowI p l e R s m args below meth c cells slots D ca n0 k cl i T1) _ _ ⟨0, _, rfl, rfl, rfl, rowI_0 X hC hS⟩ ?_ ?_
  · intro x todo s1 d1 acts1 P1 h hnext
    obtain ⟨i, T1, h1, h2, h3, hI⟩ := h
    subst h3
    rw [List.length_cons] at h1 h2
    rw [List.range'_succ] at h2
    obtain ⟨hx, h2⟩ := List.cons.inj h2
    subst hx
    obtain ⟨hz, h0⟩ := rowI_top hI
    have hI2 := rowI_s hI
    obtain ⟨locs1, cl1, X1, -⟩ := hI
    simp only [wp_bind']
    refine st_row X1 hk0 hkind0 (by omega) (by omega) fun acts2 => ?_
    simp only [wp_bind', W.writeLoc, wp_pure']
    obtain ⟨k2, hk2, he2⟩ := X1.warmed.alike.2.2 _ _ hk
    have hkind2 : k2.kind = .array (ca 0) (.array .int) := by
      rw [he2]
      exact hkind
    have hlt : n0 + k < T1.heap.size := by omega
    refine ⟨_, (State.heap_pushCell_of_lt T1 _ hlt).trans h0, ?_, ?_, ?_, ?_⟩
    · exact fun h => by cases h
    · rw [arrV_size]
      omega
    · have ht : (T1.pushCell (arrV (ca 0) 84 fun _ => .int 0)).slotType? (ca 7) .none x = some (.array .int) := by
        unfold State.slotType?
        show (T1.vm.classes[ca 7]? >>= _) = _
        rw [hk2]
        show (match k2.kind with | .array _ type => some type | _ => k2.instanceTypes[x]?) = _
        rw [hkind2]
      show State.fitsSlot (T1.pushCell (arrV (ca 0) 84 fun _ => .int 0)) (ca 7) .none x _ = true
      unfold State.fitsSlot
      rw [ht]
      rfl
    · refine hnext _ _ _ ⟨x + 1, _, by omega, h2, ?_, hI2⟩
      rw [hz]
      rfl
  · intro s1 d1 acts1 h
    obtain ⟨i, T1, h1, h2, h3, hI⟩ := h
    subst h3
    have hi : i = 21 := h1
    subst hi
    exact hp _ _ _ hI
theorem n_multi {index : Nat} (hx : p.tables.exec = Jvm.exec) (hb : c.code = cc) (hts : ∀ w ∈ gw, w.before args s = true) (hown : s.vm.findClass own = some m.cls) (hK : nK D ca s) (hcl : Cond.classLink own index "[[I" ∈ gw) (hcells : cells + 22 ≤ R.cells) (hslots : slots + 1785 ≤ R.slots) (hd : decode cc pc = .ok (.multianewarray index 2, 4)) (hC : CHp D n0 k cl H) (hS : va_S (frN n0) s.heap H locs)
    (kk : ∀ (cl1 : Nat → va_E) (H1 : Heap) (locs1 : List Loc), (∀ j, j < k → cl1 j = cl j) → cl1 k = .inl (ca 7, 21, refs (gf n0 (k + 1) 21)) → (∀ i, i < 21 → cl1 (k + 1 + i) = .inl (ca 0, 84, .inl (fun _ => 0))) → CHp D n0 (k + 22) cl1 H1 → va_S (frN n0) s.heap H1 locs1 → W p l e R s m args below meth c H1 locs1 (cells + 22) (slots + 1785) Q (F0 m (pc + 4) ls (.ref (n0 + k) :: rest))) : W p l e R s m args below meth c H locs cells slots Q (F0 m pc ls (.int (i32 84) :: .int (i32 21) :: rest)) := by
  intro T hT X
  subst hb hT
  obtain ⟨kA, hkA, hkindA⟩ := hK.2.2.2
  obtain ⟨-, kC, hkC, comp, hkindC⟩ := (hK.1.2 0 _ rfl).1 0 (fun _ => .null)
  obtain ⟨c7, hc7, hlk⟩ := Cond.classLink_spec hown (hts _ hcl) e.platform (by rw [X.admits.platform])
  rw [show s.vm.findClass "[[I" = some (ca 7) from (hK.1.2 7 _ rfl).2] at hc7
  rw [← Option.some.inj hc7] at hlk
  obtain ⟨hgv, hwm, -⟩ := State.classEntry (e := e) X.warmed hlk
  have X1 := X.noted hwm
  generalize T.vm.noted m.cls index (.cls (ca 7)) = vm1 at hgv hwm X1
  refine go_some X.here hd ?_
  rw [hx]
  show wp (multianewarray.sem index 2) _ _ _ _ _ _
  unfold multianewarray.sem
  simp only [wp_bind']
  rw [W.resolveClassAt_links (State.method?_setTop _ X.here.top) hgv]
  rw [State.setVm_setTop]
  rw [wp_bind']
  refine (popN_top (f := F0 m pc ls (.int (i32 84) :: .int (i32 21) :: rest)) (args := [.int (i32 21), .int (i32 84)]) (rest := rest) X1.here.top rfl).mpr ?_
  simp only [List.mapM_cons, List.mapM_nil, wp_bind', wp_pure']
  refine st_rows X1 hC hS hkA hkindA hkC hkindC hcells hslots fun d1 acts1 T1 hI => ?_
  obtain ⟨locs1, cl1, XF, hCF, hSF, q1, q2, q3⟩ := hI
  obtain ⟨t, a1, a2⟩ := kk cl1 T1.heap locs1 q1 q2 q3 hCF hSF T1 rfl XF
  simp only [wp_bind', W.mark, W.pushRef]
  refine ⟨_, State.topJava?_setTop' _ XF.here.top, t, ?_, a2⟩
  rw [State.setTop_setTop, State.modifyTopJava_setTop]
  exact a1
end

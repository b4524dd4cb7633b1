/-! making: every new cell lies just behind the last one; rows for constructors -/
def frN (n0 : Nat) : Nat → Prop := fun q => n0 ≤ q
def upE (cl : Nat → va_E) (j : Nat) (v : va_E) : Nat → va_E := fun i => if i = j then v else cl i
theorem upE_eq (cl : Nat → va_E) (j : Nat) (v : va_E) : upE cl j v j = v := if_pos rfl
theorem upE_ne {cl : Nat → va_E} {j i : Nat} {v : va_E} (h : i ≠ j) : upE cl j v i = cl i := if_neg h
/-- from n0 on the heap holds just k cells, and what they are -/
def CHp (D : va_G) (n0 k : Nat) (cl : Nat → va_E) (H : Heap) : Prop := H.size = n0 + k ∧ ∀ j, j < k → va_at D vcl (n0 + j, cl j) H
theorem CH_push {D : va_G} {n0 k : Nat} {cl : Nat → va_E} {H H1 : Heap} {v : va_E} (hC : CHp D n0 k cl H) (z : H1.size = H.size + 1) (o : ∀ q, q < H.size → H1[q]? = H[q]?) (hv : va_at D vcl (n0 + k, v) H1) : CHp D n0 (k + 1) (upE cl k v) H1 := by
  refine ⟨by rw [z, hC.1]; omega, fun j hj => ?_⟩
  by_cases h : j = k
  · subst h
    rw [upE_eq]
    exact hv
  · rw [upE_ne h]
    exact (hC.2 j (by omega)).kept (o _ (by rw [hC.1]; show n0 + j < _; omega))
theorem CH_set {D : va_G} {n0 k j : Nat} {cl : Nat → va_E} {H H1 : Heap} {v : va_E} (hC : CHp D n0 k cl H) (z : H1.size = H.size) (o : ∀ q, q ≠ n0 + j → H1[q]? = H[q]?) (hv : va_at D vcl (n0 + j, v) H1) : CHp D n0 k (upE cl j v) H1 := by
  refine ⟨by rw [z, hC.1], fun i hi => ?_⟩
  by_cases h : i = j
  · subst h
    rw [upE_eq]
    exact hv
  · rw [upE_ne h]
    exact (hC.2 i hi).kept (o _ (by show n0 + i ≠ _; omega))
def aoL : List String := ["HaulWages$Good", "HaulWages$One", "HaulWages$Town", "HaulWages$Sheet", "HaulWages$Sight"]
def nesI : List (String × Nat × MethodName) := [("HaulWages$Town", 48, yy_G_init), ("HaulWages$Town", 49, yy_O_init), ("HaulWages", 32, yy_P_init), ("HaulWages", 64, yy_S_init), ("HaulWages", 65, yy_I_init)]
def k7 (ca : Nat → ClassId) (U : State) : Prop := ∃ kA : Class, U.vm.classes[ca 7]? = some kA ∧ kA.kind = .array (ca 0) (.array .int)
/-- what making needs of the tables -/
def nK (D : va_G) (ca : Nat → ClassId) (U : State) : Prop := va_K D vcl (tysL ca) U ∧ (∀ C ∈ aoL, va_AO C U) ∧ (∀ q ∈ nesI, va_Nw (.methodLinkNest q.1 q.2.1 q.2.2 "HaulWages") U) ∧ k7 ca U
theorem k7_moved {ca : Nat → ClassId} {u U : State} (hvm : u.vm.Alike U.vm) (h : k7 ca u) : k7 ca U := by
  obtain ⟨kA, h1, h2⟩ := h
  obtain ⟨k', h3, h4⟩ := hvm.2.2 _ _ h1
  exact ⟨k', h3, by rw [h4]; exact h2⟩
theorem nK_warm {D : va_G} {ca : Nat → ClassId} {s U : State} (hW : s.WarmedH U.vm) (h : nK D ca s) : nK D ca U := ⟨va_K.moved hW.alike h.1, fun C hC => va_AO.moved hW.alike (h.2.1 C hC), fun q hq => va_Nw.warmM hW (h.2.2.1 q hq), k7_moved hW.alike h.2.2.2⟩
theorem nK_same {D : va_G} {ca : Nat → ClassId} {s U : State} (hv : U.vm = s.vm) (h : nK D ca s) : nK D ca U := ⟨va_K.moved (by rw [hv]; exact Vm.Alike.refl _) h.1, fun C hC => va_AO.moved (by rw [hv]; exact Vm.Alike.refl _) (h.2.1 C hC), fun q hq => va_Nw.same rfl hv.symm (h.2.2.1 q hq), k7_moved (by rw [hv]; exact Vm.Alike.refl _) h.2.2.2⟩
section
variable {p : Program} {l : Launch} {e : Env} {R : Room} {s : State} {m : MethodId} {args : Array Value} {below : List Frame} {meth : Method} {c : Code} {H : Heap} {locs : List Loc} {cells slots : Nat} {Q : State → Prop}
variable {cc : ByteArray} {pc : Nat} {ls : Array Slot} {rest : List Value} {D : va_G} {ca : Nat → ClassId} {n0 k : Nat} {cl : Nat → va_E} {own : String}
theorem nS_push {H1 : Heap} (hS : va_S (frN n0) s.heap H locs) (z : H1.size = H.size + 1) (o : ∀ q, q < H.size → H1[q]? = H[q]?) : va_S (frN n0) s.heap H1 locs := ⟨Nat.le_trans hS.1 (by omega), fun x h1 h2 => (o x (Nat.lt_of_lt_of_le h1 hS.1)).trans (hS.2.1 x h1 h2), hS.2.2⟩
theorem n_new {C : String} {T : u_T} {N ci index : Nat} {fs : List Value} (ty : Nat → FieldType) (hx : p.tables.exec = Jvm.exec) (hb : c.code = cc) (hts : ∀ w ∈ gw, w.before args s = true) (hown : s.vm.findClass own = some m.cls) (hK : nK D ca s) (hin : ∀ w ∈ u_ws C T N, w ∈ gw) (hty : ∀ k, k < N → parseFieldDescriptor (T k).2.2.1 = some (ty k)) (hc : vcl[ci]? = some (C, T, N)) (hfs : ∀ j, j < N → defaultValue (ty j) = vp_V fs j) (hcl : Cond.classLink own index C ∈ gw) (hinst : Cond.instantiable C N ∈ gw) (hini : Cond.initialized C ∈ gw) (hcells : cells + 1 ≤ R.cells) (hslots : slots + N ≤ R.slots) (hd : decode cc pc = .ok (.new index, 3)) (hC : CHp D n0 k cl H) (hS : va_S (frN n0) s.heap H locs)
    (kk : ∀ H1 : Heap, CHp D n0 (k + 1) (upE cl k (.inr (ci, fs))) H1 → va_S (frN n0) s.heap H1 locs → W p l e R s m args below meth c H1 locs (cells + 1) (slots + N) Q (F0 m (pc + 3) ls (.ref (n0 + k) :: rest))) : W p l e R s m args below meth c H locs cells slots Q (F0 m pc ls rest) := by
  have hKn := hK.1.1 ci _ hc
  refine W.newcK (h := n0 + k) hx hb hown (hts _ hcl) (hts _ hinst) (hts _ hini) rfl hd hcells hslots hKn.2.1 hC.1 fun H1 kC hkC e1 z1 o1 => ?_
  have z2 : H1.size = H.size + 1 := by rw [z1, hC.1]
  have o2 : ∀ q, q < H.size → H1[q]? = H[q]? := fun q h => o1 q (by rw [← hC.1]; exact h)
  exact kk H1 (CH_push hC z2 o2 ⟨_, hc, (u_born ty hts hin hKn hkC e1 hty).to hfs⟩) (nS_push hS z2 o2)
theorem n_newi {n : Int32} {N : Nat} (hx : p.tables.exec = Jvm.exec) (hb : c.code = cc) (hts : ∀ w ∈ gw, w.before args s = true) (hK : nK D ca s) (harr : Cond.arrayClass .int ∈ gw) (hn : ¬ n < 0) (hN : n.toNatClampNeg = N) (hbytes : N * componentBytes .int ≤ 536870912) (hcells : cells + 1 ≤ R.cells) (hslots : slots + N ≤ R.slots) (hd : decode cc pc = .ok (.newarray .int, 2)) (hC : CHp D n0 k cl H) (hS : va_S (frN n0) s.heap H locs)
    (kk : ∀ H1 : Heap, CHp D n0 (k + 1) (upE cl k (.inl (ca 0, N, .inl (fun _ => 0)))) H1 → va_S (frN n0) s.heap H1 locs → W p l e R s m args below meth c H1 locs (cells + 1) (slots + N) Q (F0 m (pc + 2) ls (.ref (n0 + k) :: rest))) : W p l e R s m args below meth c H locs cells slots Q (F0 m pc ls (.int n :: rest)) := by
  refine va_newaK (atype := .int) (h := n0 + k) hx hb (hts _ harr) rfl hd rfl hn hN hbytes hcells hslots hC.1 fun H1 cA e1 z1 o1 hAr hNm => ?_
  have hA0 : s.vm.findClass ("[" ++ FieldType.int.toString) = some (ca 0) := (hK.1.2 0 _ rfl).2
  have hcA : cA = ca 0 := Option.some.inj (hNm.symm.trans hA0)
  subst hcA
  have z2 : H1.size = H.size + 1 := by rw [z1, hC.1]
  have o2 : ∀ q, q < H.size → H1[q]? = H[q]? := fun q h => o1 q (by rw [← hC.1]; exact h)
  exact kk H1 (CH_push hC z2 o2 e1) (nS_push hS z2 o2)
theorem n_newz {n : Int32} {N : Nat} (hx : p.tables.exec = Jvm.exec) (hb : c.code = cc) (hts : ∀ w ∈ gw, w.before args s = true) (hK : nK D ca s) (harr : Cond.arrayClass .boolean ∈ gw) (hn : ¬ n < 0) (hN : n.toNatClampNeg = N) (hbytes : N * componentBytes .boolean ≤ 536870912) (hcells : cells + 1 ≤ R.cells) (hslots : slots + N ≤ R.slots) (hd : decode cc pc = .ok (.newarray .boolean, 2)) (hC : CHp D n0 k cl H) (hS : va_S (frN n0) s.heap H locs)
    (kk : ∀ H1 : Heap, CHp D n0 (k + 1) (upE cl k (.inl (ca 1, N, .inl (fun _ => 0)))) H1 → va_S (frN n0) s.heap H1 locs → W p l e R s m args below meth c H1 locs (cells + 1) (slots + N) Q (F0 m (pc + 2) ls (.ref (n0 + k) :: rest))) : W p l e R s m args below meth c H locs cells slots Q (F0 m pc ls (.int n :: rest)) := by
  refine va_newaK (atype := .boolean) (h := n0 + k) hx hb (hts _ harr) rfl hd rfl hn hN hbytes hcells hslots hC.1 fun H1 cA e1 z1 o1 hAr hNm => ?_
  have hA0 : s.vm.findClass ("[" ++ FieldType.boolean.toString) = some (ca 1) := (hK.1.2 1 _ rfl).2
  have hcA : cA = ca 1 := Option.some.inj (hNm.symm.trans hA0)
  subst hcA
  have z2 : H1.size = H.size + 1 := by rw [z1, hC.1]
  have o2 : ∀ q, q < H.size → H1[q]? = H[q]? := fun q h => o1 q (by rw [← hC.1]; exact h)
  exact kk H1 (CH_push hC z2 o2 e1) (nS_push hS z2 o2)
theorem n_anew {C : String} {index t0 : Nat} {n : Int32} {N : Nat} (hx : p.tables.exec = Jvm.exec) (hb : c.code = cc) (hts : ∀ w ∈ gw, w.before args s = true) (hown : s.vm.findClass own = some m.cls) (hK : nK D ca s) (hao : C ∈ aoL) (ht : (tysL ca)[t0]? = some (ca t0, .object C)) (hcl : Cond.classLink own index C ∈ gw) (hn : ¬ n < 0) (hN : n.toNatClampNeg = N) (hbytes : N * 4 ≤ 536870912) (hcells : cells + 1 ≤ R.cells) (hslots : slots + N ≤ R.slots) (hd : decode cc pc = .ok (.anewarray index, 3)) (hC : CHp D n0 k cl H) (hS : va_S (frN n0) s.heap H locs)
    (kk : ∀ H1 : Heap, CHp D n0 (k + 1) (upE cl k (.inl (ca t0, N, .inr (.inr (.inr (.inr (fun _ => none))))))) H1 → va_S (frN n0) s.heap H1 locs → W p l e R s m args below meth c H1 locs (cells + 1) (slots + N) Q (F0 m (pc + 3) ls (.ref (n0 + k) :: rest))) : W p l e R s m args below meth c H locs cells slots Q (F0 m pc ls (.int n :: rest)) := by
  subst hN
  refine W.anew hx hb hown (hts _ hcl) (va_AO.use (hK.2.1 C hao)) rfl hd rfl hn hbytes hcells hslots fun cA kA comp f1 f2 f3 f4 => ?_
  obtain ⟨kA', comp', g1, g2, g3, g4⟩ := (hK.1.2 t0 _ ht).2
  have hcA : cA = ca t0 := Option.some.inj (f1.symm.trans g4)
  subst hcA
  generalize hH1 : H.push ({ cls := ca t0, slots := Array.replicate n.toNatClampNeg .null, vm := .none } : Cell) = H1
  have z1 : H1.size = H.size + 1 := by rw [← hH1, Array.size_push]
  have e1 : H1[n0 + k]? = some (arrV (ca t0) n.toNatClampNeg (fun _ => .null)) := by rw [← hH1, ← hC.1, Array.getElem?_push_size, ← arrV_new]
  have o1 : ∀ q : Nat, q < H.size → H1[q]? = H[q]? := fun q hq => by rw [← hH1, Array.getElem?_push, if_neg (Nat.ne_of_lt hq)]
  have hk := kk H1 (CH_push hC z1 o1 e1) (nS_push hS z1 o1)
  rw [← hC.1] at hk
  exact hk
theorem n_put {C : String} {T : u_T} {N ci index j f : Nat} {fs : List Value} {v : Value} {ft : FieldType} (ty : Nat → FieldType) (hx : p.tables.exec = Jvm.exec) (hb : c.code = cc) (hts : ∀ w ∈ gw, w.before args s = true) (hown : s.vm.findClass own = some m.cls) (hK : nK D ca s) (hin : ∀ w ∈ u_ws C T N, w ∈ gw) (hty : ∀ k, k < N → parseFieldDescriptor (T k).2.2.1 = some (ty k)) (hnm : ∀ a, a < N → ∀ b, b < N → a ≠ b → (T a).2.1 ≠ (T b).2.1) (hc : vcl[ci]? = some (C, T, N)) (hj : j < k) (he : cl j = .inr (ci, fs)) (hf : f < N) (hfl : f < fs.length) (hfin : (T f).2.2.2 = false) (hdsc : parseFieldDescriptor (T f).2.2.1 = some ft) (hn : narrow ft v = v) (hfit : fits ft v = true) (hlink : Cond.fieldLink own index (T f).1 (T f).2.1 (T f).2.2.1 ∈ gw) (hd : decode cc pc = .ok (.putfield index, 3)) (hC : CHp D n0 k cl H) (hS : va_S (frN n0) s.heap H locs)
    (kk : ∀ (H1 : Heap) (locs1 : List Loc), CHp D n0 k (upE cl j (.inr (ci, fs.set f v))) H1 → va_S (frN n0) s.heap H1 locs1 → W p l e R s m args below meth c H1 locs1 cells slots Q (F0 m (pc + 3) ls rest)) : W p l e R s m args below meth c H locs cells slots Q (F0 m pc ls (v :: .ref (n0 + j) :: rest)) := by
  have hat := hC.2 j hj
  rw [he] at hat
  obtain ⟨r, h1, cell, q1, q2, q3, q4⟩ := hat
  have hr2 : r = (C, T, N) := Option.some.inj (h1.symm.trans hc)
  subst hr2
  have hap := va_apart (own := own) hts hin ty hty hnm hK.1 hc
  obtain ⟨hSl, hfc, kC, hkC, hkind⟩ := hK.1.1 ci _ hc
  obtain ⟨cf, kf, fi, f', hif, hsl⟩ := hSl f hf
  have hlay := hts _ (hin _ (u_in_lay hf))
  unfold u_lay at hlay
  rw [if_neg (by rw [hfin]; decide)] at hlay
  have hstt := (u_facts hfc hkC (u_lays hts hin hf) hif).1
  have h6 := u_store hfc hkC hkind hlay hif hdsc hn hfit
  refine W.putK hx hb (f := f') ⟨hown, hts _ hlink, ⟨_, _, _, hif⟩, hstt⟩ (by rw [q2]; exact h6) q1 q3 (by rw [hsl]; exact k2_hasslot (q4 f hf)) rfl rfl hd fun H' e1 e2 e3 => ?_
  rw [hsl] at e1 ⊢
  exact kk H' _ (CH_set hC e2 e3 ⟨_, hc, t_OB.to (V := updV (vp_V fs) f v) ⟨_, e1, q2, q3, t_set q4 hap hf v⟩ (fun j _ => vp_updV_set hfl v j)⟩) (hS.put e2 e3 (show n0 ≤ n0 + j by omega))
theorem n_putF {C : String} {T : u_T} {N ci index j f : Nat} {fs : List Value} {v : Value} {ft : FieldType} (ty : Nat → FieldType) (hx : p.tables.exec = Jvm.exec) (hb : c.code = cc) (hts : ∀ w ∈ gw, w.before args s = true) (hown : s.vm.findClass own = some m.cls) (hK : nK D ca s) (hin : ∀ w ∈ u_ws C T N, w ∈ gw) (hty : ∀ k, k < N → parseFieldDescriptor (T k).2.2.1 = some (ty k)) (hnm : ∀ a, a < N → ∀ b, b < N → a ≠ b → (T a).2.1 ≠ (T b).2.1) (hc : vcl[ci]? = some (C, T, N)) (hj : j < k) (he : cl j = .inr (ci, fs)) (hf : f < N) (hfl : f < fs.length) (hfin : (T f).2.2.2 = true) (hin2 : meth.name = "<init>") (hdecl : (T f).1 = own) (hdsc : parseFieldDescriptor (T f).2.2.1 = some ft) (hn : narrow ft v = v) (hfit : fits ft v = true) (hlink : Cond.fieldLink own index (T f).1 (T f).2.1 (T f).2.2.1 ∈ gw) (hd : decode cc pc = .ok (.putfield index, 3)) (hC : CHp D n0 k cl H) (hS : va_S (frN n0) s.heap H locs)
    (kk : ∀ (H1 : Heap) (locs1 : List Loc), CHp D n0 k (upE cl j (.inr (ci, fs.set f v))) H1 → va_S (frN n0) s.heap H1 locs1 → W p l e R s m args below meth c H1 locs1 cells slots Q (F0 m (pc + 3) ls rest)) : W p l e R s m args below meth c H locs cells slots Q (F0 m pc ls (v :: .ref (n0 + j) :: rest)) := by
  have hat := hC.2 j hj
  rw [he] at hat
  obtain ⟨r, h1, cell, q1, q2, q3, q4⟩ := hat
  have hr2 : r = (C, T, N) := Option.some.inj (h1.symm.trans hc)
  subst hr2
  have hap := va_apart (own := own) hts hin ty hty hnm hK.1 hc
  obtain ⟨hSl, hfc, kC, hkC, hkind⟩ := hK.1.1 ci _ hc
  obtain ⟨cf, kf, fi, f', hif, hsl⟩ := hSl f hf
  have hlay := hts _ (hin _ (u_in_lay hf))
  unfold u_lay at hlay
  rw [if_pos hfin] at hlay
  have hstt := (u_facts hfc hkC (u_lays hts hin hf) hif).1
  have hcf : m.cls = cf := by
    obtain ⟨_, _, c', _, _, _, -, -, hf', -, -, -, hown2, -⟩ := Cond.laysFinal_spec hlay
    have e1 : c' = cf := by have := hif.symm.trans hf'; simp at this; exact this.1.symm
    rw [hdecl] at hown2
    rw [← e1]
    exact Option.some.inj (hown.symm.trans hown2)
  have h6 := u_fits hfc hkC hkind (Or.inr hlay) hif hdsc hn hfit
  refine W.putFinK hx hb hown (hts _ hlink) hif hstt hcf hin2 (by rw [q2]; exact h6) q1 q3 (by rw [hsl]; exact k2_hasslot (q4 f hf)) rfl rfl hd fun H' e1 e2 e3 => ?_
  rw [hsl] at e1 ⊢
  exact kk H' _ (CH_set hC e2 e3 ⟨_, hc, t_OB.to (V := updV (vp_V fs) f v) ⟨_, e1, q2, q3, t_set q4 hap hf v⟩ (fun j _ => vp_updV_set hfl v j)⟩) (hS.put e2 e3 (show n0 ≤ n0 + j by omega))
theorem n_get {C : String} {T : u_T} {N ci index j f : Nat} {fs : List Value} {v : Value} (hx : p.tables.exec = Jvm.exec) (hb : c.code = cc) (hts : ∀ w ∈ gw, w.before args s = true) (hown : s.vm.findClass own = some m.cls) (hK : nK D ca s) (hin : ∀ w ∈ u_ws C T N, w ∈ gw) (hc : vcl[ci]? = some (C, T, N)) (hj : j < k) (he : cl j = .inr (ci, fs)) (hf : f < N) (hv : fs[f]? = some v) (hlink : Cond.fieldLink own index (T f).1 (T f).2.1 (T f).2.2.1 ∈ gw) (hd : decode cc pc = .ok (.getfield index, 3)) (hC : CHp D n0 k cl H)
    (kk : W p l e R s m args below meth c H locs cells slots Q (F0 m (pc + 3) ls (v :: rest))) : W p l e R s m args below meth c H locs cells slots Q (F0 m pc ls (.ref (n0 + j) :: rest)) := by
  have hat := hC.2 j hj
  rw [he] at hat
  exact va_get (v := v) hx hb hts hin hown hK.1 (vaP1 hat) 0 rfl hc f hf (hts _ hlink) (fun _ h9 => h9) hv hd kk
theorem n_aast {j w ci t0 N i : Nat} {r : vw_C} {vs : List Value} {f : Nat → Option Nat} (hx : p.tables.exec = Jvm.exec) (hb : c.code = cc) (hK : nK D ca s) (hj : j < k) (he : cl j = .inl (ca t0, N, .inr (.inr (.inr (.inr f))))) (ht : (tysL ca)[t0]? = some (ca t0, .object r.1)) (hw : w < k) (hv : cl w = .inr (ci, vs)) (hc : vcl[ci]? = some r) (hi : i < N) (hi2 : i < 1000) (hd : decode cc pc = .ok (.aastore, 1)) (hC : CHp D n0 k cl H) (hS : va_S (frN n0) s.heap H locs)
    (kk : ∀ (H1 : Heap) (locs1 : List Loc), CHp D n0 k (upE cl j (.inl (ca t0, N, .inr (.inr (.inr (.inr (va_up f i (some (n0 + w))))))))) H1 → va_S (frN n0) s.heap H1 locs1 → W p l e R s m args below meth c H1 locs1 cells slots Q (F0 m (pc + 1) ls rest)) : W p l e R s m args below meth c H locs cells slots Q (F0 m pc ls (.ref (n0 + w) :: .int (i32 (i : Int)) :: .ref (n0 + j) :: rest)) := by
  have hir : inR (i : Int) := by unfold inR; omega
  have hcl : (i32 (i : Int)).toNatClampNeg = i := by rw [i32_clamp hir, Int.toNat_natCast]
  have h0 : ¬ i32 (i : Int) < 0 := by
    rw [show (0 : Int32) = i32 0 from rfl, i32_lt hir in0]
    omega
  have hat := hC.2 j hj
  rw [he] at hat
  have hatw := hC.2 w hw
  rw [hv] at hatw
  obtain ⟨r', hr', cellV, g1, g2, g3, -⟩ := hatw
  have hcls := (hK.1.1 ci r hc).2
  obtain ⟨kA, comp, k1, k2, k3, -⟩ := (hK.1.2 t0 _ ht).2
  have hcomp : comp = D.1 ci := Option.some.inj (k3.symm.trans hcls.1)
  subst hcomp
  obtain ⟨kC, hkC, -⟩ := hcls.2
  refine W.aast hx hb hat (fun q h => by cases h) (fun h => by cases h) k1 k2 rfl hkC ⟨h0, by show _ < (arrV _ _ _).slots.size; rw [arrV_size, hcl]; exact hi⟩ g1 (fun q h => by rw [g3] at h; cases h) (by rw [g2]; exact hkC) (by rw [g2]; exact va_assign hcls) rfl rfl hd fun H1 e1 z oq => ?_
  refine kk H1 _ (CH_set hC z oq ?_) (hS.put z oq (show n0 ≤ n0 + j by omega))
  show H1[n0 + j]? = some (vp_cell _ _)
  rw [e1, hcl, vp_cell_q, vp_cell_q, arrV_store]
  congr 2
  funext q
  by_cases hq : q = i
  · subst hq
    simp [updV, va_up, va_rf]
  · simp [updV, va_up, hq]
theorem n_iast {j N i : Nat} {x : Int} {f : Nat → Int32} (hx : p.tables.exec = Jvm.exec) (hb : c.code = cc) (hK : nK D ca s) (hj : j < k) (he : cl j = .inl (ca 0, N, .inl f)) (hi : i < N) (hi2 : i < 1000) (hd : decode cc pc = .ok (.iastore, 1)) (hC : CHp D n0 k cl H) (hS : va_S (frN n0) s.heap H locs)
    (kk : ∀ (H1 : Heap) (locs1 : List Loc), CHp D n0 k (upE cl j (.inl (ca 0, N, .inl (va_up f i (i32 x))))) H1 → va_S (frN n0) s.heap H1 locs1 → W p l e R s m args below meth c H1 locs1 cells slots Q (F0 m (pc + 1) ls rest)) : W p l e R s m args below meth c H locs cells slots Q (F0 m pc ls (.int (i32 x) :: .int (i32 (i : Int)) :: .ref (n0 + j) :: rest)) := by
  have hir : inR (i : Int) := by unfold inR; omega
  have hcl : (i32 (i : Int)).toNatClampNeg = i := by rw [i32_clamp hir, Int.toNat_natCast]
  have h0 : ¬ i32 (i : Int) < 0 := by
    rw [show (0 : Int32) = i32 0 from rfl, i32_lt hir in0]
    omega
  have hat := hC.2 j hj
  rw [he] at hat
  refine W.iast hx hb hat ((hK.1.2 0 _ rfl).1 N (fun j => .int (f j))) (fun h => by cases h) ?_ rfl rfl hd fun H1 e1 z oq => ?_
  · rintro (h | h)
    · exact h0 h
    · have h : (arrV (ca 0) N (fun j => .int (f j))).slots.size ≤ (i32 (i : Int)).toNatClampNeg := h
      rw [arrV_size, hcl] at h
      omega
  refine kk H1 _ (CH_set hC z oq ?_) (hS.put z oq (show n0 ≤ n0 + j by omega))
  show H1[n0 + j]? = some (arrV (ca 0) N (fun j => .int (va_up f i (i32 x) j)))
  rw [e1, hcl]
  show some ((arrV (ca 0) N (fun j => .int (f j))).setSlot i (.int (i32 x))) = _
  rw [arrV_store]
  congr 2
  funext q
  by_cases hq : q = i
  · subst hq
    simp [updV, va_up]
  · simp [updV, va_up, hq]
end

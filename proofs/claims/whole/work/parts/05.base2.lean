/-! the world: every cell that the class and the reference have -/
/-- class numbers and slots; array classes; addresses of the cells; of the text constants, of their bytes -/
abbrev EE : Type := va_G × (Nat → ClassId) × (Nat → Nat → Nat) × (Nat → Nat) × (Nat → Nat)
abbrev MM : Type := MethodName × ByteArray × Nat × Option FieldType × Room
def cellF (ca : Nat → ClassId) (ad : Nat → Nat → Nat) : Nat → Nat → (Nat → Int) → va_E
  | 0, i, m => .inr (6, [.ref (ad 3 0), .ref (ad 3 1), .ref (ad 3 2), .ref (ad 11 0), .ref (ad 12 0), .ref (ad 9 0), .ref (ad 13 0), .ref (ad 14 0), .ref (ad 15 0), .int (i32 (m 9)), .int (i32 (m 10)), .int (i32 (m 11))])
  | 1, i, m => .inr (0, [.int (i32 (m 0)), .int (i32 (m 1)), .int (i32 (m 2)), .int (i32 (m 3)), .int (i32 (m 4)), .int (i32 (m 5))])
  | 2, i, m => .inr (1, [.int (i32 (m 0)), .int (i32 (m 1)), .int (i32 (m 2)), .int (i32 (m 3)), .int (i32 (m 4))])
  | 3, i, m => .inr (5, [.ref (ad 4 i), .ref (ad 5 i), .int (i32 (m 2)), .int (i32 (m 3)), .int (i32 (m 4)), .int (i32 (m 5)), .int (i32 (m 6)), .int (i32 (m 7)), .int (i32 (m 8)), .int (i32 (m 9))])
  | 4, i, m => .inl (ca 2, 8, .inr (.inr (.inr (.inr (fun j => some (ad 1 (8 * i + j)))))))
  | 5, i, m => .inl (ca 3, 4, .inr (.inr (.inr (.inr (fun j => some (ad 2 (4 * i + (m j).toNat)))))))
  | 6, i, m => .inr (2, [.ref (ad 7 i), .int (i32 (m 1)), .int (i32 (m 2))])
  | 7, i, m => .inl (ca 0, 40, .inl (fun j => i32 (m j)))
  | 8, i, m => .inr (3, [.int (i32 (m 0)), .int (i32 (m 1)), .int (i32 (m 2))])
  | 9, i, m => .inr (4, [.ref (ad 10 0), .int (i32 (m 1)), .int (i32 (m 2)), .int (i32 (m 3)), .int (i32 (m 4)), .int (i32 (m 5)), .int (i32 (m 6)), .int (i32 (m 7)), .int (i32 (m 8))])
  | 10, i, m => .inl (ca 0, 160, .inl (fun j => i32 (m j)))
  | 11, i, m => .inl (ca 4, 2, .inr (.inr (.inr (.inr (fun j => some (ad 3 (3 + j)))))))
  | 12, i, m => .inl (ca 1, 2, .inl (fun j => i32 (m j)))
  | 13, i, m => .inl (ca 5, 4, .inr (.inr (.inr (.inr (fun j => some (ad 6 j))))))
  | 14, i, m => .inl (ca 6, 6, .inr (.inr (.inr (.inr (fun j => some (ad 8 j))))))
  | 15, i, m => .inl (ca 7, 21, .inr (.inr (.inr (.inr (fun j => some (ad 16 j))))))
  | 16, i, m => .inl (ca 0, 84, .inl (fun j => i32 (m j)))
  | 20, i, m => .inr (7, [.ref (ad 21 0), .int (i32 (m 1)), .ref (ad 22 0), .int (i32 (m 3)), .int (i32 (m 4)), .ref (ad 23 0), .int (i32 (m 6)), .int (i32 (m 7)), .int (i32 (m 8)), .int (i32 (m 9)), .int (i32 (m 10)), .int (i32 (m 11)), .int (i32 (m 12)), .int (i32 (m 13)), .ref (ad 24 0), .ref (ad 25 0), .ref (ad 26 0), .ref (ad 27 0), .int (i32 (m 18)), .int (i32 (m 19)), .int (i32 (m 20)), .ref (ad 28 0), .int (i32 (m 22)), .ref (ad 29 0), .ref (ad 30 0), .ref (ad 31 0), .ref (ad 32 0), .ref (ad 33 0), .int (i32 (m 28))])
  | 21, i, m => .inl (ca 0, 264, .inl (fun j => i32 (m j)))
  | 22, i, m => .inl (ca 0, 44, .inl (fun j => i32 (m j)))
  | 23, i, m => .inl (ca 0, 160, .inl (fun j => i32 (m j)))
  | 24, i, m => .inl (ca 0, 8, .inl (fun j => i32 (m j)))
  | 25, i, m => .inl (ca 0, 39, .inl (fun j => i32 (m j)))
  | 26, i, m => .inl (ca 0, 4, .inl (fun j => i32 (m j)))
  | 27, i, m => .inl (ca 0, 4, .inl (fun j => i32 (m j)))
  | 28, i, m => .inl (ca 0, 18, .inl (fun j => i32 (m j)))
  | 29, i, m => .inl (ca 0, 1764, .inl (fun j => i32 (m j)))
  | 30, i, m => .inl (ca 1, 2, .inl (fun j => i32 (m j)))
  | 31, i, m => .inl (ca 0, 4, .inl (fun j => i32 (m j)))
  | 32, i, m => .inl (ca 0, 4, .inl (fun j => i32 (m j)))
  | 33, i, m => .inl (ca 0, 160, .inl (fun j => i32 (m j)))
  | _, i, m => .inr (0, [])
def tysL (ca : Nat → ClassId) : List (ClassId × FieldType) := [(ca 0, .int), (ca 1, .boolean), (ca 2, .object "HaulWages$Good"), (ca 3, .object "HaulWages$One"), (ca 4, .object "HaulWages$Town"), (ca 5, .object "HaulWages$Sheet"), (ca 6, .object "HaulWages$Sight"), (ca 7, .array .int)]
/-- which kinds are cells of the world (the text constants are not) -/
def isW (t : Nat) : Prop := t < 40
def cv (E : EE) : JV → Value
  | .inl x => .int (i32 x)
  | .inr (.inl x) => .long (i64 x)
  | .inr (.inr q) => .ref (E.2.2.1 q.1 q.2)
def fre (E : EE) : Nat → Prop := fun q => ∃ t i, isW t ∧ i < cnt t ∧ q = E.2.2.1 t i
def lenS : List Nat := [5, 7, 7, 5, 3, 6, 6]
def bytS : List (List Int32) := [[112, 108, 97, 105, 110], [97, 119, 107, 119, 97, 114, 100], [102, 101, 97, 116, 104, 101, 114], [99, 114, 97, 116, 101], [111, 110, 101], [104, 111, 111, 116, 101, 114], [98, 114, 105, 110, 103, 115]]
def idxS : List Nat := [127, 129, 131, 133, 135, 137, 138]
def txtS : List String := ["plain", "awkward", "feather", "crate", "one", "hooter", "brings"]
/-- what the tables say, of a state -/
def nestL : List (String × Nat × MethodName) := [("HaulWages$Tape", 94, yy_H_within), ("HaulWages$Town", 88, yy_H_hasBit), ("HaulWages$Sheet", 22, yy_H_within)]
def wK (E : EE) (s : State) : Prop := va_K E.1 vcl (tysL E.2.1) s ∧ (∀ i, i < 7 → vk_R "HaulWages$Tape" (idxS.getD i 0) (txtS.getD i "") (E.2.2.2.1 i) s) ∧ ∀ q ∈ nestL, va_Nw (.methodLinkNest q.1 q.2.1 q.2.2 "HaulWages") s
/-- the addresses are apart -/
def wA (E : EE) : Prop := (∀ t i t' i', isW t → isW t' → i < cnt t → i' < cnt t' → E.2.2.1 t i = E.2.2.1 t' i' → t = t' ∧ i = i') ∧ (∀ i, i < 7 → E.2.2.1 40 i = E.2.2.2.1 i ∧ E.2.2.1 41 i = E.2.2.2.2 i)
/-- the cells hold the memory -/
def wC (E : EE) (H : Heap) (M : JM) : Prop := (∀ t i, isW t → i < cnt t → va_at E.1 vcl (E.2.2.1 t i, cellF E.2.1 E.2.2.1 t i (M t i)) H) ∧ mok M
/-- the text constants, and two statics of the JDK -/
def wS (E : EE) (s : State) (H : Heap) : Prop := vk_S 7 lenS bytS E.2.2.2.1 E.2.2.2.2 (fre E) s H ∧ va_Z "java/lang/String" "COMPACT_STRINGS" "Z" (.int 1) (fre E) s H ∧ va_Zq "jdk/internal/util/Preconditions" "SIOOBE_FORMATTER" "Ljava/util/function/BiFunction;" (fre E) s H
theorem wK_warm {E : EE} {s U : State} (hW : s.WarmedH U.vm) (h : wK E s) : wK E U := ⟨va_K.moved hW.alike h.1, fun i hi => (h.2.1 i hi).warm hW, fun q hq => va_Nw.warmM hW (h.2.2 q hq)⟩
theorem wK_same {E : EE} {s U : State} (hv : U.vm = s.vm) (h : wK E s) : wK E U := ⟨va_K.moved (by rw [hv]; exact Vm.Alike.refl _) h.1, fun i hi => (h.2.1 i hi).same hv, fun q hq => va_Nw.same rfl hv.symm (h.2.2 q hq)⟩
theorem wS_moved {E : EE} {s U : State} {H : Heap} (hvm : s.vm.Alike U.vm) (h : wS E s H) : wS E U H := ⟨h.1.moved hvm, va_Z.moved hvm h.2.1, va_Zq.moved hvm h.2.2⟩
theorem wS_kept {E : EE} {s : State} {H H1 : Heap} (h : wS E s H) (hq : ∀ a : Nat, a < H.size → ¬ fre E a → H1[a]? = H[a]?) : wS E s H1 := ⟨h.1.kept hq, h.2.1.kept hq, h.2.2.kept hq⟩
def rv (ret : Option FieldType) (x : Int) : Option Value := match ret with
  | none => none
  | some .long => some (.long (i64 x))
  | some _ => some (.int (i32 x))
def okR (ret : Option FieldType) (x : Int) : Prop := match ret with
  | none => True
  | some .long => inL x
  | some _ => inR x
/-- a method's end -/
def qc (E : EE) (ret : Option FieldType) (Q : Int → JM → Prop) : Array Value → State → Outcome → State → Prop := fun _ st oc t => (∃ (x : Int) (M' : JM), oc = .returned (rv ret x) ∧ okR ret x ∧ Q x M' ∧ wC E t.heap M') ∧ va_F (fre E) st t
/-- the first that is listed for a local -/
def jl : List (Nat × JV) → Nat → Option JV
  | [], _ => none
  | q :: r, i => if q.1 = i then some q.2 else jl r i
def lvOk (E : EE) (nL : Nat) (ls : Array Slot) (L : List (Nat × JV)) : Prop := ls.size = nL ∧ lv_wf ls ∧ ∀ i v, jl L i = some v → ls[i]? = some (.val (cv E v))
def okL (L : List (Nat × JV)) : Prop := ∀ i v, jl L i = some v → okV v
/-- what stands at every step of a method -/
def Ctx (E : EE) (mm : MM) (p : Program) (s : State) (m : MethodId) (args : Array Value) (meth : Method) (c : Code) (H : Heap) (locs : List Loc) (ls : Array Slot) (L : List (Nat × JV)) (st : List JV) (M : JM) : Prop :=
  p.tables.exec = Jvm.exec ∧ c.code = mm.2.1 ∧ c.maxLocals = mm.2.2.1 ∧ s.vm.findClass mm.1.cls = some m.cls ∧ (∀ w ∈ gw, w.before args s = true) ∧ meth.sig.returnType = mm.2.2.2.1 ∧ meth.locks = false ∧ wA E ∧ wK E s ∧ wS E s s.heap ∧ wC E H M ∧ va_S (fre E) s.heap H locs ∧ lvOk E mm.2.2.1 ls L ∧ okL L ∧ okS st
/-- from here the method comes to its end, with Q -/
def JG (E : EE) (mm : MM) (Q : Int → JM → Prop) (pc : Nat) (L : List (Nat × JV)) (st : List JV) (M : JM) : Prop :=
  ∀ (p : Program) (l : Launch) (e : Env) (s : State) (m : MethodId) (args : Array Value) (below : List Frame) (meth : Method) (c : Code) (H : Heap) (locs : List Loc) (ls : Array Slot), Ctx E mm p s m args meth c H locs ls L st M →
    W p l e mm.2.2.2.2 s m args below meth c H locs 0 0 (MQ below (qc E mm.2.2.2.1 Q) args s 0 0 (fre E)) (F0 m pc ls (st.map (cv E)))
/-- a call of the method comes to its end, with Q -/
def JC (E : EE) (mm : MM) (args : List JV) (M : JM) (Q : Int → JM → Prop) : Prop :=
  wA E → okS args → ∀ l : Launch, Met l mm.1 (Cond.code mm.1 mm.2.1 mm.2.2.1 mm.2.2.2.1 :: gw) mm.2.2.2.2 (va_Pc (args.map (cv E)) (fun U => wK E U ∧ wC E U.heap M ∧ wS E U U.heap)) (qc E mm.2.2.2.1 Q) 0 0 (fre E)

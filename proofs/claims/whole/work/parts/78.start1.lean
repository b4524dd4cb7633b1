/-! where every cell lies, what it holds in the beginning -/
def tbL : List Nat := [1, 16, 31, 74, 89]
def offs : Nat → Nat → Nat
  | 0, _ => 0
  | 1, i => tbL.getD (i / 8) 0 + (3 + i % 8)
  | 2, i => tbL.getD (i / 4) 0 + (11 + i % 4)
  | 3, i => tbL.getD i 0
  | 4, i => tbL.getD i 0 + 1
  | 5, i => tbL.getD i 0 + 2
  | 6, i => 104 + 2 * i
  | 7, i => 104 + 2 * i + 1
  | 8, i => 112 + 1 * i
  | 9, _ => 48
  | 10, _ => 49
  | 11, _ => 46
  | 12, _ => 47
  | 13, _ => 50
  | 14, _ => 51
  | 15, _ => 52
  | 16, i => 53 + i
  | 20, _ => 118
  | 21, _ => 119
  | 22, _ => 120
  | 23, _ => 121
  | 24, _ => 122
  | 25, _ => 123
  | 26, _ => 124
  | 27, _ => 125
  | 28, _ => 126
  | 29, _ => 127
  | 30, _ => 128
  | 31, _ => 129
  | 32, _ => 130
  | 33, _ => 131
  | _, _ => 0
def ad0 (n0 : Nat) (adK adV : Nat → Nat) : Nat → Nat → Nat := fun t i => if t = 40 then adK i else if t = 41 then adV i else n0 + offs t i
abbrev E0 (D : va_G) (ca : Nat → ClassId) (n0 : Nat) (adK adV : Nat → Nat) : EE := (D, ca, ad0 n0 adK adV, adK, adV)
theorem ad0_w {n0 : Nat} {adK adV : Nat → Nat} {t i : Nat} (h : isW t) : ad0 n0 adK adV t i = n0 + offs t i := by
  unfold isW at h
  unfold ad0
  rw [if_neg (by omega), if_neg (by omega)]
def offR : Bool := (List.range 40).all fun t => (List.range (cnt t)).all fun i => (List.range 40).all fun t' => (List.range (cnt t')).all fun i' => (offs t i != offs t' i') || (t == t' && i == i')
theorem offR_ok : offR = true := by decide +kernel
theorem offs_inj {t i t' i' : Nat} (h1 : isW t) (h2 : isW t') (h3 : i < cnt t) (h4 : i' < cnt t') (h : offs t i = offs t' i') : t = t' ∧ i = i' := by
  have h0 := offR_ok
  unfold offR at h0
  rw [List.all_eq_true] at h0
  have a1 := h0 t (List.mem_range.mpr h1)
  rw [List.all_eq_true] at a1
  have a2 := a1 i (List.mem_range.mpr h3)
  rw [List.all_eq_true] at a2
  have a3 := a2 t' (List.mem_range.mpr h2)
  rw [List.all_eq_true] at a3
  have a4 := a3 i' (List.mem_range.mpr h4)
  simp [h] at a4
  exact a4
theorem wA_0 {D : va_G} {ca : Nat → ClassId} {n0 : Nat} {adK adV : Nat → Nat} : wA (E0 D ca n0 adK adV) := by
  refine ⟨fun t i t' i' h1 h2 h3 h4 h => ?_, fun i hi => ⟨?_, ?_⟩⟩
  · have h : ad0 n0 adK adV t i = ad0 n0 adK adV t' i' := h
    rw [ad0_w h1, ad0_w h2] at h
    exact offs_inj h1 h2 h3 h4 (by omega)
  · show ad0 n0 adK adV 40 i = adK i
    unfold ad0
    rw [if_pos rfl]
  · show ad0 n0 adK adV 41 i = adV i
    unfold ad0
    rw [if_neg (by decide), if_pos rfl]
theorem fre_0 {D : va_G} {ca : Nat → ClassId} {n0 : Nat} {adK adV : Nat → Nat} {q : Nat} (h : fre (E0 D ca n0 adK adV) q) : n0 ≤ q := by
  obtain ⟨t, i, h1, h2, h3⟩ := h
  have h3 : q = ad0 n0 adK adV t i := h3
  rw [ad0_w h1] at h3
  omega
def M0 : JM := fun t _ k =>
  if t = 1 then (if k = 1 ∨ k = 3 then 1 else 0) else if t = 2 then (if k = 0 then 1 else 0) else if t = 3 then (if k = 4 ∨ k = 5 then 2 else 0) else if t = 5 then (if k < 4 then (k : Int) else 0)
  else if t = 6 then (if k = 1 then -1 else 0) else if t = 24 then (if k < 8 then endsT.getD k 0 else 0) else if t = 25 then (if k < 39 then lettT.getD k 0 else 0) else if t = 31 then (if k < 4 then -4 else 0) else 0
theorem ends_b : ∀ k, k < 8 → (0 ≤ endsT.getD k 0 ∧ endsT.getD k 0 ≤ 1000) := by decide +kernel
theorem lett_b : ∀ k, k < 39 → (0 ≤ lettT.getD k 0 ∧ lettT.getD k 0 ≤ 1000) := by decide +kernel
theorem mok_0 : mok M0 := by
  refine ⟨fun t i k => ?_, fun i k => ?_⟩
  · unfold M0 inR
    have h1 := ends_b k
    have h2 := lett_b k
    split
    · split <;> omega
    split
    · split <;> omega
    split
    · split <;> omega
    split
    · split <;> omega
    split
    · split <;> omega
    split
    · split
      · have := h1 (by assumption); omega
      · omega
    split
    · split
      · have := h2 (by assumption); omega
      · omega
    split
    · split <;> omega
    · omega
  · show (if k < 4 then (k : Int) else 0).toNat < 4
    split <;> omega
def Z0 : ZZ := fun a _ => if a = 5 then -1 else 0
theorem ZB_0 : ZB Z0 := by
  refine ⟨⟨?_, ?_, ?_, ?_, ?_, ?_⟩, ?_, ?_, ?_, fun k hk => ⟨Or.inl rfl, fun h => ?_⟩, fun k hk => ?_, fun i h => ?_, fun j h => ?_⟩
  · exact ⟨by decide, by decide⟩
  · exact Nat.zero_le _
  · intro g hg
    exact absurd hg (Nat.not_lt_zero g)
  · intro q hq
    exact absurd hq (Nat.not_lt_zero q)
  · exact ⟨by decide, by decide⟩
  · exact ⟨by decide, by decide⟩
  · decide
  · exact ⟨by decide, by decide⟩
  · exact ⟨by decide, by decide⟩
  · have h : (0 : Int) = 1 := h
    omega
  · exact ⟨⟨by show (-1 : Int) ≤ -1; omega, by show (-1 : Int) ≤ 2; omega⟩, by show (0 : Int) ≤ 0; omega, by show (0 : Int) ≤ 40; omega⟩
  · have h : (i : Int) < 0 := h
    omega
  · have h : (j : Int) < 0 := h
    omega
theorem perm_0 (u : Nat) : permOk M0 u := by
  have e : ∀ a, a < 4 → (M0 5 u a).toNat = a := fun a ha => by
    show (if a < 4 then (a : Int) else 0).toNat = a
    rw [if_pos ha]
    omega
  exact ⟨fun a ha => by rw [e a ha]; exact ha, fun a b ha hb h => by rw [e a ha, e b hb] at h; exact h⟩
theorem RepC_0 : RepC Z0 M0 := by
  refine ⟨⟨⟨rfl, rfl, rfl, rfl, rfl⟩, fun g hg => absurd hg (Nat.not_lt_zero g), fun q hq => absurd hq (Nat.not_lt_zero q), perm_0 0⟩, fun u _ => perm_0 u, fun k hk => ⟨rfl, fun h => ?_⟩, ⟨rfl, fun j h => ?_⟩, ⟨rfl, fun i k h => ?_⟩, ⟨rfl, rfl⟩, fun k hk => ⟨rfl, rfl, fun j hj => rfl⟩⟩
  · have h : (0 : Int) = 1 := h
    omega
  · have h : (j : Int) < 0 := h
    omega
  · have h : (i : Int) < 0 := h
    omega
theorem RepR_0 : RepR Z0 M0 := by
  refine ⟨⟨fun k hk => rfl, rfl⟩, fun k hk => ⟨rfl, fun h => ?_⟩, ⟨rfl, fun j h => ?_⟩, ⟨rfl, fun i k h => ?_⟩, ⟨rfl, rfl⟩, fun k hk => ⟨?_, rfl, fun j hj => rfl⟩, fun j hj => ?_, fun j hj => ?_⟩
  · have h : (0 : Int) = 1 := h
    omega
  · have h : (j : Int) < 0 := h
    omega
  · have h : (i : Int) < 0 := h
    omega
  · show (if k < 4 then (-4 : Int) else 0) = _
    rw [if_pos hk]
    rfl
  · show (if j < 8 then endsT.getD j 0 else 0) = _
    rw [if_pos hj]
  · show (if j < 39 then lettT.getD j 0 else 0) = _
    rw [if_pos hj]
theorem arrV_ext {c : ClassId} {N : Nat} {f g : Nat → Value} (h : ∀ j, j < N → f j = g j) : arrV c N f = arrV c N g := by
  unfold arrV
  congr 1
  congr 1
  funext j
  exact h j.val j.isLt
theorem at_refs {D : va_G} {a N : Nat} {c : ClassId} {f g : Nat → Option Nat} {H : Heap} (h : va_at D vcl (a, .inl (c, N, refs f)) H) (e : ∀ j, j < N → f j = g j) : va_at D vcl (a, .inl (c, N, refs g)) H := by
  show H[a]? = some (arrV c N (fun j => va_rf (g j)))
  have h : H[a]? = some (arrV c N (fun j => va_rf (f j))) := h
  rw [h, arrV_ext (fun j hj => by rw [e j hj])]
theorem at_ints {D : va_G} {a N : Nat} {c : ClassId} {f g : Nat → Int32} {H : Heap} (h : va_at D vcl (a, .inl (c, N, .inl f)) H) (e : ∀ j, j < N → f j = g j) : va_at D vcl (a, .inl (c, N, .inl g)) H := by
  show H[a]? = some (arrV c N (fun j => .int (g j)))
  have h : H[a]? = some (arrV c N (fun j => .int (f j))) := h
  rw [h, arrV_ext (fun j hj => by rw [e j hj])]

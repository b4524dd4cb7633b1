/-! rows: the memory, calls, a method's entry -/
section
variable {E : EE} {mm : MM} {Q : Int → JM → Prop} {pc : Nat} {L : List (Nat × JV)} {st : List JV} {M : JM}
theorem vaP1 {D : va_G} {cl : List vw_C} {q : Nat × va_E} {H : Heap} (h : va_at D cl q H) : va_P D cl [q] H := by
  intro k x hk
  have hz : k < 1 := (List.getElem?_eq_some_iff.mp hk).1
  have h0 : k = 0 := by omega
  subst h0
  cases hk
  exact h
theorem j_get {t i ci k idx : Nat} {C : String} {T : u_T} {N : Nat} {v : JV} (fsF : (Nat → ClassId) → (Nat → Nat → Nat) → (Nat → Int) → List Value) (hw : isW t) (hcell : ∀ ca ad m, cellF ca ad t i m = .inr (ci, fsF ca ad m)) (hc : vcl[ci]? = some (C, T, N)) (hin : ∀ w ∈ u_ws C T N, w ∈ gw) (hk : k < N) (hlink : Cond.fieldLink mm.1.cls idx (T k).1 (T k).2.1 (T k).2.2.1 ∈ gw) (hv : (fsF E.2.1 E.2.2.1 (M t i))[k]? = some (cv E v)) (hok : mok M → i < cnt t → okV v) (hd : decode mm.2.1 pc = .ok (.getfield idx, 3)) (kk : JG E mm Q (pc + 3) L (v :: st) M) : JG E mm Q pc L (vR t i :: st) M := by
  intro p l e s m args below meth c H locs ls X
  obtain ⟨hx, hb, hml, hown, hts, hr, hlk, hA, hK, hS0, hC, hS, hl, hL, hst⟩ := X
  have hi : i < cnt t := okS_h hst
  have hat := hC.1 t i hw hi
  rw [hcell] at hat
  refine va_get (v := cv E v) hx hb hts hin hown hK.1 (vaP1 hat) 0 rfl hc k hk (hts _ hlink) (fun _ h9 => h9) hv hd ?_
  exact kk p l e s m args below meth c H locs ls ⟨hx, hb, hml, hown, hts, hr, hlk, hA, hK, hS0, hC, hS, hl, hL, okS_c (hok hC.2 hi) (okS_t hst)⟩
theorem j_putI {t i ci k idx : Nat} {C : String} {T : u_T} {N : Nat} {x : Int} {ty : FieldType} (fsF : (Nat → ClassId) → (Nat → Nat → Nat) → (Nat → Int) → List Value) (ty0 : Nat → FieldType) (hty : ∀ k, k < N → parseFieldDescriptor (T k).2.2.1 = some (ty0 k)) (hnm : ∀ a, a < N → ∀ b, b < N → a ≠ b → (T a).2.1 ≠ (T b).2.1) (hw : isW t) (h5 : t ≠ 5) (hcell : ∀ ca ad m, cellF ca ad t i m = .inr (ci, fsF ca ad m)) (hset : ∀ ca ad m, fsF ca ad (fun k' => if k' = k then x else m k') = (fsF ca ad m).set k (.int (i32 x))) (hlen : ∀ ca ad m, k < (fsF ca ad m).length) (hc : vcl[ci]? = some (C, T, N)) (hin : ∀ w ∈ u_ws C T N, w ∈ gw) (hk : k < N) (hfin : (T k).2.2.2 = false) (hdsc : parseFieldDescriptor (T k).2.2.1 = some ty) (hn : narrow ty (.int (i32 x)) = .int (i32 x)) (hfit : fits ty (.int (i32 x)) = true) (hlink : Cond.fieldLink mm.1.cls idx (T k).1 (T k).2.1 (T k).2.2.1 ∈ gw) (hd : decode mm.2.1 pc = .ok (.putfield idx, 3)) (kk : ∀ M' : JM, M' = pt M t i k x → JG E mm Q (pc + 3) L st M') : JG E mm Q pc L (vI x :: vR t i :: st) M := by
  intro p l e s m args below meth c H locs ls X
  obtain ⟨hx, hb, hml, hown, hts, hr, hlk, hA, hK, hS0, hC, hS, hl, hL, hst⟩ := X
  have hxr : inR x := okS_h hst
  have hi : i < cnt t := okS_h (okS_t hst)
  have hat := hC.1 t i hw hi
  rw [hcell] at hat
  obtain ⟨r, h1, cell, q1, q2, q3, q4⟩ := hat
  have hr2 : r = (C, T, N) := Option.some.inj (h1.symm.trans hc)
  subst hr2
  have hap := va_apart (own := mm.1.cls) hts hin ty0 hty hnm hK.1 hc
  obtain ⟨hSl, hfc, kC, hkC, hkind⟩ := hK.1.1 ci _ hc
  obtain ⟨cf, kf, fi, f, hif, hsl⟩ := hSl k hk
  have hlay := hts _ (hin _ (u_in_lay hk))
  unfold u_lay at hlay
  rw [if_neg (by rw [hfin]; decide)] at hlay
  have hstt := (u_facts hfc hkC (u_lays hts hin hk) hif).1
  have h6 := u_store hfc hkC hkind hlay hif hdsc hn hfit
  refine W.putK hx hb (f := f) ⟨hown, hts _ hlink, ⟨_, _, _, hif⟩, hstt⟩ (by rw [q2]; exact h6) q1 q3 (by rw [hsl]; exact k2_hasslot (q4 k hk)) rfl rfl hd fun H' e1 e2 e3 => ?_
  rw [hsl] at e1 ⊢
  have hC' : wC E H' (pt M t i k x) := by
    refine ⟨fun t' i' hw' hi' => ?_, mok_pt hC.2 h5 hxr⟩
    by_cases h : t' = t ∧ i' = i
    · obtain ⟨ha, hb⟩ := h
      subst ha
      subst hb
      rw [pt_row, hcell, hset]
      exact ⟨_, hc, t_OB.to (V := updV (vp_V (fsF E.2.1 E.2.2.1 (M t' i'))) k (.int (i32 x))) ⟨_, e1, q2, q3, t_set q4 hap hk _⟩ (fun j _ => vp_updV_set (hlen _ _ _) _ j)⟩
    · rw [pt_off h]
      exact (hC.1 t' i' hw' hi').kept (e3 _ (fun e => h (hA.1 _ _ _ _ hw' hw hi' hi e)))
  exact kk _ rfl p l e s m args below meth c H' _ ls ⟨hx, hb, hml, hown, hts, hr, hlk, hA, hK, hS0, hC', hS.put e2 e3 ⟨t, i, hw, hi, rfl⟩, hl, hL, okS_t (okS_t hst)⟩
theorem j_iald {t i n : Nat} {x : Int} (hw : isW t) (hcell : ∀ ca ad m, cellF ca ad t i m = .inl (ca 0, n, .inl (fun j => i32 (m j)))) (hd : decode mm.2.1 pc = .ok (.iaload, 1)) (h0 : 0 ≤ x) (h1 : x < n) (kk : JG E mm Q (pc + 1) L (vI (M t i x.toNat) :: st) M) : JG E mm Q pc L (vI x :: vR t i :: st) M := by
  intro p l e s m args below meth c H locs ls X
  obtain ⟨hx, hb, hml, hown, hts, hr, hlk, hA, hK, hS0, hC, hS, hl, hL, hst⟩ := X
  have hxr : inR x := okS_h hst
  have hi : i < cnt t := okS_h (okS_t hst)
  have hat := hC.1 t i hw hi
  rw [hcell] at hat
  refine va_iald hx hb hK.1 (vaP1 hat) 0 0 rfl rfl (i32_vin hxr h0 h1) hd ?_
  rw [i32_clamp hxr]
  exact kk p l e s m args below meth c H locs ls ⟨hx, hb, hml, hown, hts, hr, hlk, hA, hK, hS0, hC, hS, hl, hL, okS_c (v := vI (M t i x.toNat)) (hC.2.1 _ _ _) (okS_t (okS_t hst))⟩
theorem j_zald {t i n : Nat} {x : Int} (hw : isW t) (hcell : ∀ ca ad m, cellF ca ad t i m = .inl (ca 1, n, .inl (fun j => i32 (m j)))) (hd : decode mm.2.1 pc = .ok (.baload, 1)) (h0 : 0 ≤ x) (h1 : x < n) (kk : JG E mm Q (pc + 1) L (vI (M t i x.toNat) :: st) M) : JG E mm Q pc L (vI x :: vR t i :: st) M := by
  intro p l e s m args below meth c H locs ls X
  obtain ⟨hx, hb, hml, hown, hts, hr, hlk, hA, hK, hS0, hC, hS, hl, hL, hst⟩ := X
  have hxr : inR x := okS_h hst
  have hi : i < cnt t := okS_h (okS_t hst)
  have hat := hC.1 t i hw hi
  rw [hcell] at hat
  refine va_zald hx hb hK.1 (vaP1 hat) 0 1 rfl rfl (i32_vin hxr h0 h1) hd ?_
  rw [i32_clamp hxr]
  exact kk p l e s m args below meth c H locs ls ⟨hx, hb, hml, hown, hts, hr, hlk, hA, hK, hS0, hC, hS, hl, hL, okS_c (v := vI (M t i x.toNat)) (hC.2.1 _ _ _) (okS_t (okS_t hst))⟩
theorem wC_ast {E : EE} {M : JM} {H H' : Heap} {t i n k : Nat} {c0 : Nat} {x : Int} (hA : wA E) (hC : wC E H M) (hw : isW t) (hi : i < cnt t) (h5 : t ≠ 5) (hx : inR x) (hcell : ∀ ca ad m, cellF ca ad t i m = .inl (ca c0, n, .inl (fun j => i32 (m j)))) (e1 : H'[E.2.2.1 t i]? = some ((vp_cell (E.2.1 c0) (n, .inl (fun j => i32 (M t i j)))).setSlot k (.int (i32 x)))) (e3 : ∀ q, q ≠ E.2.2.1 t i → H'[q]? = H[q]?) : wC E H' (pt M t i k x) := by
  refine ⟨fun t' i' hw' hi' => ?_, mok_pt hC.2 h5 hx⟩
  by_cases h : t' = t ∧ i' = i
  · obtain ⟨ha, hb⟩ := h
    subst ha
    subst hb
    rw [pt_row, hcell]
    show H'[_]? = some (vp_cell _ _)
    rw [e1, vp_cell_i, vp_cell_i, arrV_store]
    congr 2
    funext q
    by_cases hq : q = k
    · subst hq
      simp [updV]
    · simp [updV, hq]
  · rw [pt_off h]
    exact (hC.1 t' i' hw' hi').kept (e3 _ (fun e => h (hA.1 _ _ _ _ hw' hw hi' hi e)))
theorem j_iast {t i n : Nat} {x y : Int} (hw : isW t) (h5 : t ≠ 5) (hcell : ∀ ca ad m, cellF ca ad t i m = .inl (ca 0, n, .inl (fun j => i32 (m j)))) (hd : decode mm.2.1 pc = .ok (.iastore, 1)) (h0 : 0 ≤ x) (h1 : x < n) (kk : ∀ M' : JM, M' = pt M t i x.toNat y → JG E mm Q (pc + 1) L st M') : JG E mm Q pc L (vI y :: vI x :: vR t i :: st) M := by
  intro p l e s m args below meth c H locs ls X
  obtain ⟨hx, hb, hml, hown, hts, hr, hlk, hA, hK, hS0, hC, hS, hl, hL, hst⟩ := X
  have hyr : inR y := okS_h hst
  have hxr : inR x := okS_h (okS_t hst)
  have hi : i < cnt t := okS_h (okS_t (okS_t hst))
  have hat := hC.1 t i hw hi
  rw [hcell] at hat
  refine W.iast hx hb hat ((hK.1.2 0 _ rfl).1 n (fun j => .int (i32 (M t i j)))) (fun q => by cases q) (by show ¬ (_ < 0 ∨ (arrV _ _ _).slots.size ≤ _); rw [arrV_size]; exact i32_vin hxr h0 h1) rfl rfl hd fun H' he z oq => ?_
  rw [i32_clamp hxr] at he ⊢
  exact kk _ rfl p l e s m args below meth c H' _ ls ⟨hx, hb, hml, hown, hts, hr, hlk, hA, hK, hS0, wC_ast hA hC hw hi h5 hyr hcell he oq, hS.put z oq ⟨t, i, hw, hi, rfl⟩, hl, hL, okS_t (okS_t (okS_t hst))⟩
theorem nar01 {y : Int} (h : y = 0 ∨ y = 1) : narrow .boolean (.int (i32 y)) = .int (i32 y) := by rcases h with h | h <;> subst h <;> rfl
theorem fit01 {y : Int} (h : y = 0 ∨ y = 1) : fits .boolean (.int (i32 y)) = true := by rcases h with h | h <;> subst h <;> rfl
theorem j_zast {t i n : Nat} {x y : Int} (hw : isW t) (h5 : t ≠ 5) (hcell : ∀ ca ad m, cellF ca ad t i m = .inl (ca 1, n, .inl (fun j => i32 (m j)))) (hd : decode mm.2.1 pc = .ok (.bastore, 1)) (h0 : 0 ≤ x) (h1 : x < n) (h01 : y = 0 ∨ y = 1) (kk : ∀ M' : JM, M' = pt M t i x.toNat y → JG E mm Q (pc + 1) L st M') : JG E mm Q pc L (vI y :: vI x :: vR t i :: st) M := by
  intro p l e s m args below meth c H locs ls X
  obtain ⟨hx, hb, hml, hown, hts, hr, hlk, hA, hK, hS0, hC, hS, hl, hL, hst⟩ := X
  have hyr : inR y := okS_h hst
  have hxr : inR x := okS_h (okS_t hst)
  have hi : i < cnt t := okS_h (okS_t (okS_t hst))
  have hat := hC.1 t i hw hi
  rw [hcell] at hat
  refine W.zast hx hb hat ((hK.1.2 1 _ rfl).1 n (fun j => .int (i32 (M t i j)))) (fun q => by cases q) (by show ¬ (_ < 0 ∨ (arrV _ _ _).slots.size ≤ _); rw [arrV_size]; exact i32_vin hxr h0 h1) rfl rfl hd fun H' he z oq => ?_
  rw [i32_clamp hxr] at he ⊢
  rw [nar01 h01] at he
  exact kk _ rfl p l e s m args below meth c H' _ ls ⟨hx, hb, hml, hown, hts, hr, hlk, hA, hK, hS0, wC_ast hA hC hw hi h5 hyr hcell he oq, hS.put z oq ⟨t, i, hw, hi, rfl⟩, hl, hL, okS_t (okS_t (okS_t hst))⟩
theorem j_aald {t i n t2 c0 : Nat} {ty : FieldType} {x : Int} (f : (Nat → Int) → Nat → Nat) (hw : isW t) (hty : ty.isReference = true) (hcell : ∀ ca ad m, cellF ca ad t i m = .inl (ca c0, n, .inr (.inr (.inr (.inr (fun j => some (ad t2 (f m j)))))))) (htl : ∀ ca, (tysL ca)[c0]? = some (ca c0, ty)) (hd : decode mm.2.1 pc = .ok (.aaload, 1)) (h0 : 0 ≤ x) (h1 : x < n) (hok : mok M → i < cnt t → f (M t i) x.toNat < cnt t2) (kk : JG E mm Q (pc + 1) L (vR t2 (f (M t i) x.toNat) :: st) M) : JG E mm Q pc L (vI x :: vR t i :: st) M := by
  intro p l e s m args below meth c H locs ls X
  obtain ⟨hx, hb, hml, hown, hts, hr, hlk, hA, hK, hS0, hC, hS, hl, hL, hst⟩ := X
  have hxr : inR x := okS_h hst
  have hi : i < cnt t := okS_h (okS_t hst)
  have hat := hC.1 t i hw hi
  rw [hcell] at hat
  have hlt : (i32 x).toNatClampNeg < n := Nat.not_le.mp fun q => (i32_vin hxr h0 h1) (Or.inr q)
  refine W.aald (v := va_rf (some (E.2.2.1 t2 (f (M t i) (i32 x).toNatClampNeg)))) (ty := ty) hx hb hat ((hK.1.2 c0 _ (htl _)).1 n (fun j => va_rf (some (E.2.2.1 t2 (f (M t i) j))))) hty (fun q => by cases q) (by show ¬ (_ < 0 ∨ (arrV _ _ _).slots.size ≤ _); rw [arrV_size]; exact i32_vin hxr h0 h1) (by show (arrV _ _ _).slots[_]? = _; rw [arrV_read _ _ hlt]) rfl rfl hd ?_
  rw [i32_clamp hxr]
  exact kk p l e s m args below meth c H locs ls ⟨hx, hb, hml, hown, hts, hr, hlk, hA, hK, hS0, hC, hS, hl, hL, okS_c (v := vR t2 (f (M t i) x.toNat)) (hok hC.2 hi) (okS_t (okS_t hst))⟩
theorem j_ast5 {i q : Nat} {x : Int} (hd : decode mm.2.1 pc = .ok (.aastore, 1)) (h0 : 0 ≤ x) (h1 : x < 4) (hq : 4 * i ≤ q ∧ q < 4 * i + 4) (kk : ∀ M' : JM, M' = pt M 5 i x.toNat ((q - 4 * i : Nat) : Int) → JG E mm Q (pc + 1) L st M') : JG E mm Q pc L (vR 2 q :: vI x :: vR 5 i :: st) M := by
  intro p l e s m args below meth c H locs ls X
  obtain ⟨hx, hb, hml, hown, hts, hr, hlk, hA, hK, hS0, hC, hS, hl, hL, hst⟩ := X
  have hqr : q < cnt 2 := okS_h hst
  have hxr : inR x := okS_h (okS_t hst)
  have hi : i < cnt 5 := okS_h (okS_t (okS_t hst))
  have hw5 : isW 5 := by unfold isW; omega
  have hw2 : isW 2 := by unfold isW; omega
  have hat : H[E.2.2.1 5 i]? = some (arrV (E.2.1 3) 4 (fun j => va_rf (some (E.2.2.1 2 (4 * i + (M 5 i j).toNat))))) := hC.1 5 i hw5 hi
  have hatv := hC.1 2 q hw2 hqr
  obtain ⟨r', hr', cellV, g1, g2, g3, -⟩ := hatv
  have hcls := (hK.1.1 1 _ rfl).2
  obtain ⟨kA, comp, k1, k2, k3, -⟩ := (hK.1.2 3 _ rfl).2
  have hcomp : comp = E.1.1 1 := Option.some.inj (k3.symm.trans hcls.1)
  subst hcomp
  obtain ⟨kC, hkC, -⟩ := hcls.2
  have hlt : (i32 x).toNatClampNeg < 4 := Nat.not_le.mp fun q => (i32_vin hxr (n := 4) h0 h1) (Or.inr q)
  have hz0 : ¬ i32 x < 0 := fun q => (i32_vin hxr (n := 4) h0 h1) (Or.inl q)
  refine W.aast hx hb hat (fun q h => by cases h) (fun h => by cases h) k1 k2 rfl hkC ⟨hz0, by show _ < (arrV _ _ _).slots.size; rw [arrV_size]; exact hlt⟩ g1 (fun q h => by rw [g3] at h; cases h) (by rw [g2]; exact hkC) (by rw [g2]; exact va_assign hcls) rfl rfl hd fun H' he z oq => ?_
  rw [i32_clamp hxr] at he ⊢
  have hC' : wC E H' (pt M 5 i x.toNat ((q - 4 * i : Nat) : Int)) := by
    refine ⟨fun t' i' hw' hi' => ?_, mok_pt5 hC.2 (by unfold inR; omega) (by omega)⟩
    by_cases h : t' = 5 ∧ i' = i
    · obtain ⟨ha, hb⟩ := h
      subst ha
      subst hb
      rw [pt_row]
      show H'[_]? = some (arrV (E.2.1 3) 4 (fun j => va_rf (some (E.2.2.1 2 (4 * i' + (if j = x.toNat then ((q - 4 * i' : Nat) : Int) else M 5 i' j).toNat)))))
      rw [he, arrV_store]
      congr 2
      funext j
      by_cases hj : j = x.toNat
      · subst hj
        have e9 : 4 * i' + (((q - 4 * i' : Nat) : Int)).toNat = q := by omega
        simp only [updV, if_pos, e9]
        rfl
      · simp [updV, hj]
    · rw [pt_off h]
      exact (hC.1 t' i' hw' hi').kept (oq _ (fun e => h (hA.1 _ _ _ _ hw' hw5 hi' hi e)))
  exact kk _ rfl p l e s m args below meth c H' _ ls ⟨hx, hb, hml, hown, hts, hr, hlk, hA, hK, hS0, hC', hS.put z oq ⟨5, i, hw5, hi, rfl⟩, hl, hL, okS_t (okS_t (okS_t hst))⟩
theorem cat_sum {E : EE} : ∀ (st : List JV), ((st.map (cv E)).map fun v => v.category).sum = (st.map (fun v => if isLg v then 2 else 1)).sum
  | [] => rfl
  | v :: r => by
    rw [List.map_cons, List.map_cons, List.map_cons, List.sum_cons, List.sum_cons, cat_sum r]
    by_cases h : isLg v = true
    · rw [cv_cat2 h, if_pos h]
    · have h2 : isLg v = false := by simpa using h
      rw [cv_cat h2, if_neg h]
theorem j_mmax {x y : Int} {idx : Nat} (hd : decode mm.2.1 pc = .ok (.invokestatic idx, 3)) (hl1 : Cond.methodLink mm.1.cls idx Lib.Math.max.name ∈ gw) (hl2 : Cond.static Lib.Math.max.name ∈ gw) (hl3 : Cond.initialized "java/lang/Math" ∈ gw) (hl4 : Cond.code Lib.Math.max.name Lib.Math.max.code 2 (some .int) ∈ gw) (hR : 1 ≤ mm.2.2.2.2.frames ∧ 8 + 13 ≤ mm.2.2.2.2.locals) (hW : (st.map (fun v => if isLg v then 2 else 1)).sum ≤ 8) (k : JG E mm Q (pc + 3) L (vI (max x y) :: st) M) : JG E mm Q pc L (vI y :: vI x :: st) M := by
  intro p l e s m args below meth c H locs ls X
  obtain ⟨hx, hb, hml, hown, hts, hr, hlk, hA, hK, hS0, hC, hS, hl, hL, hst⟩ := X
  have hy : inR y := okS_h hst
  have hx2 : inR x := okS_h (okS_t hst)
  refine va_mmax hx hb (hml.trans hl.1.symm) hown (hts _ hl1) (hts _ hl2) (hts _ hl3) (hts _ hl4) hR.1 (by rw [cat_sum]; omega) (Nat.zero_le _) (Nat.zero_le _) hd ?_
  have he : (if i32 x < i32 y then i32 y else i32 x) = i32 (max x y) := by
    by_cases h : x < y
    · rw [if_pos ((i32_lt hx2 hy).mpr h)]
      congr 1
      omega
    · rw [if_neg (fun q => h ((i32_lt hx2 hy).mp q))]
      congr 1
      omega
  rw [he]
  exact k p l e s m args below meth c H locs ls ⟨hx, hb, hml, hown, hts, hr, hlk, hA, hK, hS0, hC, hS, hl, hL, okS_c (v := vI (max x y)) (by show inR _; unfold inR at *; omega) (okS_t (okS_t hst))⟩
theorem j_mmin {x y : Int} {idx : Nat} (hd : decode mm.2.1 pc = .ok (.invokestatic idx, 3)) (hl1 : Cond.methodLink mm.1.cls idx Lib.Math.min.name ∈ gw) (hl2 : Cond.static Lib.Math.min.name ∈ gw) (hl3 : Cond.initialized "java/lang/Math" ∈ gw) (hl4 : Cond.code Lib.Math.min.name Lib.Math.min.code 2 (some .int) ∈ gw) (hR : 1 ≤ mm.2.2.2.2.frames ∧ 8 + 13 ≤ mm.2.2.2.2.locals) (hW : (st.map (fun v => if isLg v then 2 else 1)).sum ≤ 8) (k : JG E mm Q (pc + 3) L (vI (min x y) :: st) M) : JG E mm Q pc L (vI y :: vI x :: st) M := by
  intro p l e s m args below meth c H locs ls X
  obtain ⟨hx, hb, hml, hown, hts, hr, hlk, hA, hK, hS0, hC, hS, hl, hL, hst⟩ := X
  have hy : inR y := okS_h hst
  have hx2 : inR x := okS_h (okS_t hst)
  refine va_mmin hx hb (hml.trans hl.1.symm) hown (hts _ hl1) (hts _ hl2) (hts _ hl3) (hts _ hl4) hR.1 (by rw [cat_sum]; omega) (Nat.zero_le _) (Nat.zero_le _) hd ?_
  have he : (if i32 y < i32 x then i32 y else i32 x) = i32 (min x y) := by
    by_cases h : y < x
    · rw [if_pos ((i32_lt hy hx2).mpr h)]
      congr 1
      omega
    · rw [if_neg (fun q => h ((i32_lt hy hx2).mp q))]
      congr 1
      omega
  rw [he]
  exact k p l e s m args below meth c H locs ls ⟨hx, hb, hml, hown, hts, hr, hlk, hA, hK, hS0, hC, hS, hl, hL, okS_c (v := vI (min x y)) (by show inR _; unfold inR at *; omega) (okS_t (okS_t hst))⟩
theorem gin {ws : List Cond} (h : ∀ w ∈ ws, w ∈ gw) : GoodIn gw ws := fun w hw => ⟨h w hw, good_of_word (gw_good w (h w hw)).2⟩
def roomOk (mm mm' : MM) : Prop := mm'.2.2.2.2.cells = 0 ∧ mm'.2.2.2.2.slots = 0 ∧ mm'.2.2.2.2.frames + 1 ≤ mm.2.2.2.2.frames ∧ 8 + (mm'.2.2.1 + 11) + mm'.2.2.2.2.locals ≤ mm.2.2.2.2.locals
def nameOk (mm' : MM) (n : Nat) : Prop := mm'.1.cls ≠ "java/lang/invoke/MethodHandle" ∧ mm'.1.cls ≠ "java/lang/invoke/VarHandle" ∧ (parseMethodDescriptor mm'.1.desc).map (fun d => d.parameters.length) = some n
def push (ret : Option FieldType) (x : Int) (st : List JV) : List JV := match ret with
  | none => st
  | some .long => vL x :: st
  | some _ => vI x :: st
theorem push_cv {ret : Option FieldType} {x : Int} {st : List JV} : (rv ret x).toList ++ st.map (cv E) = (push ret x st).map (cv E) := by
  cases ret with
  | none => rfl
  | some ty => cases ty <;> rfl
theorem push_ok {ret : Option FieldType} {x : Int} {st : List JV} (h : okR ret x) (hs : okS st) : okS (push ret x st) := by
  cases ret with
  | none => exact hs
  | some ty => cases ty <;> first | exact okS_c (v := vL x) h hs | exact okS_c (v := vI x) h hs
theorem jc_blind {args : List JV} : FrameBlind (va_Pc (args.map (cv E)) (fun U => wK E U ∧ wC E U.heap M ∧ wS E U U.heap)) := by
  intro a U g mk q
  obtain ⟨q0, q1, q2, q3⟩ := q
  exact ⟨q0, wK_same (s := U) (U := U.calling g mk a) rfl q1, q2, wS_moved (s := U) (U := U.calling g mk a) (Vm.Alike.refl U.vm) q3⟩
theorem jc_pre {s : State} {H : Heap} {locs : List Loc} {args : List JV} (hK : wK E s) (hS0 : wS E s s.heap) (hC : wC E H M) (hS : va_S (fre E) s.heap H locs) : ∀ U : State, U.heap = H → s.WarmedH U.vm → va_Pc (args.map (cv E)) (fun U => wK E U ∧ wC E U.heap M ∧ wS E U U.heap) (args.map (cv E)).toArray U := by
  intro U hU hW
  exact ⟨rfl, wK_warm hW hK, by rw [hU]; exact hC, by rw [hU]; exact wS_moved hW.alike (wS_kept hS0 hS.2.1)⟩
theorem jc_go {mm' : MM} {args : List JV} {rest : List JV} {Q' : Int → JM → Prop} {p : Program} {l : Launch} {e : Env} {s : State} {m : MethodId} {ar : Array Value} {below : List Frame} {meth : Method} {c : Code} {H : Heap} {locs : List Loc} {ls : Array Slot} {stk : List Value} {a : Array Value} {n : Nat}
    (X : Ctx E mm p s m ar meth c H locs ls L rest M) (run : va_Run p l e mm.2.2.2.2 s m ar below meth c H locs 0 0 0 0 (F0 m pc ls stk) (rest.map (cv E)) (qc E mm'.2.2.2.1 Q' a) (fre E))
    (kk : ∀ (x : Int) (M' : JM), Q' x M' → JG E mm Q (pc + 3) L (push mm'.2.2.2.1 x rest) M') : W p l e mm.2.2.2.2 s m ar below meth c H locs 0 0 (MQ below (qc E mm.2.2.2.1 Q) ar s 0 0 (fre E)) (F0 m pc ls stk) := by
  obtain ⟨hx, hb, hml, hown, hts, hr, hlk, hA, hK, hS0, hC, hS, hl, hL, hst⟩ := X
  intro T0 hT X0
  obtain ⟨v, st₀, t, T', L', h0, X', hL', e1, e2, ⟨⟨x, M', hv, hokr, hq, hC'⟩, hz, hk⟩, stp⟩ := run T0 hT X0
  have hv2 : v = rv mm'.2.2.2.1 x := by injection hv
  subst hv2
  rw [h0] at hz hk
  have kq := kk x M' hq p l e s m ar below meth c T'.heap (locs ++ L') ls ⟨hx, hb, hml, hown, hts, hr, hlk, hA, hK, hS0, by rw [e1]; exact hC', ⟨Nat.le_trans hS.1 (by rw [e1]; exact hz), fun q h1 h2 => by rw [e1, hk q (Nat.lt_of_lt_of_le h1 hS.1) h2]; exact hS.2.1 q h1 h2, fun q hq => by
      rcases List.mem_append.mp hq with h | h
      · exact hS.2.2 q h
      · exact hL' q h⟩, hl, hL, push_ok hokr hst⟩
  rw [← push_cv] at kq
  obtain ⟨t2, a1, b1⟩ := kq T' rfl X'
  exact ⟨t2, stp t2 a1, b1⟩
theorem j_callV {mm' : MM} {t i idx ci : Nat} {T : u_T} {N : Nat} {As rest : List JV} {Q' : Int → JM → Prop} (hC' : JC E mm' (vR t i :: As) M Q') (hd : decode mm.2.1 pc = .ok (.invokevirtual idx, 3)) (hws : ∀ w ∈ ([.methodLink mm.1.cls idx mm'.1, .instanceMethod mm'.1, .selects mm'.1.cls mm'.1 mm'.1, .initialized mm'.1.cls, .code mm'.1 mm'.2.1 mm'.2.2.1 mm'.2.2.2.1] : List Cond), w ∈ gw) (hnm : nameOk mm' As.length) (hroom : roomOk mm mm') (hw : isW t) (hob : ∃ fsF : (Nat → ClassId) → (Nat → Nat → Nat) → (Nat → Int) → List Value, ∀ ca ad m, cellF ca ad t i m = .inr (ci, fsF ca ad m)) (hc : vcl[ci]? = some (mm'.1.cls, T, N)) (hW : (rest.map (fun v => if isLg v then 2 else 1)).sum ≤ 8) (kk : ∀ (x : Int) (M' : JM), Q' x M' → JG E mm Q (pc + 3) L (push mm'.2.2.2.1 x rest) M') : JG E mm Q pc L (As.reverse ++ vR t i :: rest) M := by
  intro p l e s m args below meth c H locs ls X
  obtain ⟨hx, hb, hml, hown, hts, hr, hlk, hA, hK, hS0, hC, hS, hl, hL, hst⟩ := id X
  have hi : i < cnt t := okS_h (okS_r hst)
  have hargs : okS (vR t i :: As) := okS_c (v := vR t i) hi (okS_rev (okS_l hst))
  have hM := hC' hA hargs l
  obtain ⟨fsF, hcell⟩ := hob
  have hat := hC.1 t i hw hi
  rw [hcell] at hat
  have hrec := va_recv hK.1 (vaP1 hat) (ci := ci) (q0 := 0) hc rfl
  have hG : GoodIn gw (wsV mm.1.cls idx mm'.1.cls mm'.1 (Cond.code mm'.1 mm'.2.1 mm'.2.2.1 mm'.2.2.2.1 :: gw)) := gin (fun w hw => by
    simp only [wsV, List.mem_append, List.mem_cons, List.not_mem_nil, or_false] at hw
    rcases hw with (h | h | h | h) | h | h
    · exact hws w (by simp [h])
    · exact hws w (by simp [h])
    · exact hws w (by simp [h])
    · exact hws w (by simp [h])
    · exact hws w (by simp [h])
    · exact h)
  refine jc_go (mm' := mm') (n := 0) (args := args.toList.map (fun _ => vI 0)) ⟨hx, hb, hml, hown, hts, hr, hlk, hA, hK, hS0, hC, hS, hl, hL, okS_t (okS_r hst)⟩ (va_runV (As := As.map (cv E)) (rest := rest.map (cv E)) ⟨hx, hb, hml, hown, hts⟩ hM (cwV As.length hts hG rfl hroom.1 hroom.2.1 ⟨rfl, hnm⟩ hroom.2.2) ⟨jc_blind, hrec, jc_pre (args := vR t i :: As) hK hS0 hC hS⟩ rfl (List.length_map ..) hl.1 ?_ ?_ hd ⟨Nat.zero_le _, Nat.zero_le _⟩) kk
  · show List.map (cv E) (As.reverse ++ vR t i :: rest) = _
    rw [List.map_append, List.map_reverse]
    rfl
  · exact lv_room (by rw [cat_sum]; exact hW)
theorem j_callS {mm' : MM} {idx : Nat} {As rest : List JV} {Q' : Int → JM → Prop} (hC' : JC E mm' As M Q') (hd : decode mm.2.1 pc = .ok (.invokestatic idx, 3)) (hws : ∀ w ∈ ([.methodLink mm.1.cls idx mm'.1, .static mm'.1, .initialized mm'.1.cls, .code mm'.1 mm'.2.1 mm'.2.2.1 mm'.2.2.2.1] : List Cond), w ∈ gw) (hnm : nameOk mm' As.length) (hroom : roomOk mm mm') (hW : (rest.map (fun v => if isLg v then 2 else 1)).sum ≤ 8) (kk : ∀ (x : Int) (M' : JM), Q' x M' → JG E mm Q (pc + 3) L (push mm'.2.2.2.1 x rest) M') : JG E mm Q pc L (As.reverse ++ rest) M := by
  intro p l e s m args below meth c H locs ls X
  obtain ⟨hx, hb, hml, hown, hts, hr, hlk, hA, hK, hS0, hC, hS, hl, hL, hst⟩ := id X
  have hM := hC' hA (okS_rev (okS_l hst)) l
  have hG : GoodIn gw (Cond.code mm'.1 mm'.2.1 mm'.2.2.1 mm'.2.2.2.1 :: gw) := gin (fun w hw => by
    simp only [List.mem_cons] at hw
    rcases hw with h | h
    · exact hws w (by simp [h])
    · exact h)
  refine jc_go (mm' := mm') (n := 0) (args := args.toList.map (fun _ => vI 0)) ⟨hx, hb, hml, hown, hts, hr, hlk, hA, hK, hS0, hC, hS, hl, hL, okS_r hst⟩ (va_runS (As := As.map (cv E)) (rest := rest.map (cv E)) ⟨hx, hb, hml, hown, hts⟩ hM ⟨callB_of As.length hts hG rfl hroom.1 hroom.2.1 (hts _ (hws _ (by simp))) (hts _ (hws _ (by simp))) hnm hroom.2.2, hts _ (hws _ (by simp))⟩ ⟨jc_blind, jc_pre (args := As) hK hS0 hC hS⟩ rfl (List.length_map ..) hl.1 ?_ ?_ hd ⟨Nat.zero_le _, Nat.zero_le _⟩) kk
  · show List.map (cv E) (As.reverse ++ rest) = _
    rw [List.map_append, List.map_reverse]
  · exact lv_room (by rw [cat_sum]; exact hW)
theorem j_callN {mm' : MM} {idx : Nat} {As rest : List JV} {Q' : Int → JM → Prop} (hC' : JC E mm' As M Q') (hd : decode mm.2.1 pc = .ok (.invokestatic idx, 3)) (hnest : (mm.1.cls, idx, mm'.1) ∈ nestL) (hws : ∀ w ∈ ([.static mm'.1, .initialized mm'.1.cls, .code mm'.1 mm'.2.1 mm'.2.2.1 mm'.2.2.2.1] : List Cond), w ∈ gw) (hnm : nameOk mm' As.length) (hroom : roomOk mm mm') (hW : (rest.map (fun v => if isLg v then 2 else 1)).sum ≤ 8) (kk : ∀ (x : Int) (M' : JM), Q' x M' → JG E mm Q (pc + 3) L (push mm'.2.2.2.1 x rest) M') : JG E mm Q pc L (As.reverse ++ rest) M := by
  intro p l e s m args below meth c H locs ls X
  obtain ⟨hx, hb, hml, hown, hts, hr, hlk, hA, hK, hS0, hC, hS, hl, hL, hst⟩ := id X
  have hM := hC' hA (okS_rev (okS_l hst)) l
  have hG : GoodIn gw (Cond.code mm'.1 mm'.2.1 mm'.2.2.1 mm'.2.2.2.1 :: gw) := gin (fun w hw => by
    simp only [List.mem_cons] at hw
    rcases hw with h | h
    · exact hws w (by simp [h])
    · exact h)
  refine jc_go (mm' := mm') (n := 0) (args := args.toList.map (fun _ => vI 0)) ⟨hx, hb, hml, hown, hts, hr, hlk, hA, hK, hS0, hC, hS, hl, hL, okS_r hst⟩ (va_runSN (As := As.map (cv E)) (rest := rest.map (cv E)) ⟨hx, hb, hml, hown, hts⟩ hM ⟨va_cnB As.length hts hG rfl hroom.1 hroom.2.1 (hK.2.2 _ hnest) (hts _ (hws _ (by simp))) hnm hroom.2.2, hts _ (hws _ (by simp)), trivial⟩ ⟨jc_blind, jc_pre (args := As) hK hS0 hC hS⟩ rfl (List.length_map ..) hl.1 ?_ ?_ hd ⟨Nat.zero_le _, Nat.zero_le _⟩) kk
  · show List.map (cv E) (As.reverse ++ rest) = _
    rw [List.map_append, List.map_reverse]
  · exact lv_room (by rw [cat_sum]; exact hW)
/-- the locals with which a method begins -/
def argL : Nat → List JV → List (Nat × JV)
  | _, [] => []
  | k, v :: r => (k, v) :: argL (if isLg v then k + 2 else k + 1) r
theorem argL_mem : ∀ (vs : List JV) (k : Nat) {i : Nat} {v : JV}, jl (argL k vs) i = some v → (i, cv E v) ∈ lv_args k (vs.map (cv E)) ∧ v ∈ vs
  | [], _, i, v, h => by cases h
  | w :: r, k, i, v, h => by
    have hcat : (if (cv E w).category = 2 then k + 2 else k + 1) = (if isLg w then k + 2 else k + 1) := by
      by_cases hg : isLg w = true
      · rw [cv_cat2 hg, if_pos hg]; rfl
      · have h2 : isLg w = false := by simpa using hg
        rw [cv_cat h2, if_neg hg]; rfl
    unfold argL jl at h
    show (i, cv E v) ∈ (k, cv E w) :: lv_args (if (cv E w).category = 2 then k + 2 else k + 1) (r.map (cv E)) ∧ _
    rw [hcat]
    split at h
    · rename_i e
      cases h
      cases e
      exact ⟨List.mem_cons_self, List.mem_cons_self⟩
    · obtain ⟨h1, h2⟩ := argL_mem r _ h
      exact ⟨List.mem_cons_of_mem _ h1, List.mem_cons_of_mem _ h2⟩
def slL (vs : List JV) : Nat := (vs.map (fun v => if isLg v then 2 else 1)).sum
theorem slL_eq : ∀ (vs : List JV), (lg_sl (vs.map (cv E))).length = slL vs
  | [] => rfl
  | v :: r => by
    have ih := slL_eq r
    unfold lg_sl at ih ⊢
    unfold slL at ih ⊢
    rw [List.map_cons, List.flatMap_cons, List.length_append, ih, List.map_cons, List.sum_cons]
    by_cases hg : isLg v = true
    · rw [cv_cat2 hg, if_pos hg]; rfl
    · have h2 : isLg v = false := by simpa using hg
      rw [cv_cat h2, if_neg hg]; rfl
theorem j_entry {args : List JV} {L0 : List (Nat × JV)} (hy : plainName mm.1.cls = true) (hn : slL args ≤ mm.2.2.1) (hL0 : argL 0 args = L0) (k : JG E mm Q 0 L0 [] M) : JC E mm args M Q := by
  intro hA hok l
  refine Met.ofW (cc := mm.2.1) (maxL := mm.2.2.1) (ret := mm.2.2.2.1) hy rfl ?_
  intro p e s m ar below meth c s₁ B hml hv
  obtain ⟨rfl, hK, hC, hS0⟩ := hv
  have hts := atoms_spec (ws := Cond.code mm.1 mm.2.1 mm.2.2.1 mm.2.2.2.1 :: gw) B.pre
  have hl := lv_entry (args.map (cv E)) (n := mm.2.2.1) (by rw [slL_eq]; exact hn)
  rw [lg_entry_eq]
  generalize (lg_sl (args.map (cv E)) ++ List.replicate (mm.2.2.1 - (lg_sl (args.map (cv E))).length) Slot.unset).toArray = ls at hl ⊢
  subst hL0
  exact k p l e s m _ below meth c s.heap [] ls ⟨B.exec, B.bytes, hml, findClass_of_methodNamed B.named, fun w hw => hts w (List.mem_cons_of_mem _ hw), B.returns, B.notSynchronized, hA, hK, hS0, hC, va_S.rf, ⟨hl.1, hl.2.1, fun i v h => hl.2.2 _ (argL_mem args 0 h).1⟩, fun i v h => hok v (argL_mem (E := E) args 0 h).2, okS_0⟩
abbrev fs_0 (i : Nat) : (Nat → ClassId) → (Nat → Nat → Nat) → (Nat → Int) → List Value := fun ca ad m => [.ref (ad 3 0), .ref (ad 3 1), .ref (ad 3 2), .ref (ad 11 0), .ref (ad 12 0), .ref (ad 9 0), .ref (ad 13 0), .ref (ad 14 0), .ref (ad 15 0), .int (i32 (m 9)), .int (i32 (m 10)), .int (i32 (m 11))]
theorem ce_0 (i : Nat) : ∀ ca ad m, cellF ca ad 0 i m = .inr (6, fs_0 i ca ad m) := fun _ _ _ => rfl
theorem gf_0_0 {i idx : Nat} (hd : decode mm.2.1 pc = .ok (.getfield idx, 3)) (hl : Cond.fieldLink mm.1.cls idx "HaulWages" "now" "LHaulWages$Town;" ∈ gw) (k : JG E mm Q (pc + 3) L (vR 3 0 :: st) M) : JG E mm Q pc L (vR 0 i :: st) M :=
  j_get (t := 0) (i := i) (ci := 6) (k := 0) (C := "HaulWages") (T := TT_H) (N := 12) (v := vR 3 0) (fs_0 i) (by unfold isW; omega) (ce_0 i) rfl in_H (by omega) hl rfl (fun _ _ => by show _ < cnt _; decide) hd k
theorem gf_0_1 {i idx : Nat} (hd : decode mm.2.1 pc = .ok (.getfield idx, 3)) (hl : Cond.fieldLink mm.1.cls idx "HaulWages" "trial" "LHaulWages$Town;" ∈ gw) (k : JG E mm Q (pc + 3) L (vR 3 1 :: st) M) : JG E mm Q pc L (vR 0 i :: st) M :=
  j_get (t := 0) (i := i) (ci := 6) (k := 1) (C := "HaulWages") (T := TT_H) (N := 12) (v := vR 3 1) (fs_0 i) (by unfold isW; omega) (ce_0 i) rfl in_H (by omega) hl rfl (fun _ _ => by show _ < cnt _; decide) hd k
theorem gf_0_2 {i idx : Nat} (hd : decode mm.2.1 pc = .ok (.getfield idx, 3)) (hl : Cond.fieldLink mm.1.cls idx "HaulWages" "halfway" "LHaulWages$Town;" ∈ gw) (k : JG E mm Q (pc + 3) L (vR 3 2 :: st) M) : JG E mm Q pc L (vR 0 i :: st) M :=
  j_get (t := 0) (i := i) (ci := 6) (k := 2) (C := "HaulWages") (T := TT_H) (N := 12) (v := vR 3 2) (fs_0 i) (by unfold isW; omega) (ce_0 i) rfl in_H (by omega) hl rfl (fun _ _ => by show _ < cnt _; decide) hd k
theorem gf_0_3 {i idx : Nat} (hd : decode mm.2.1 pc = .ok (.getfield idx, 3)) (hl : Cond.fieldLink mm.1.cls idx "HaulWages" "images" "[LHaulWages$Town;" ∈ gw) (k : JG E mm Q (pc + 3) L (vR 11 0 :: st) M) : JG E mm Q pc L (vR 0 i :: st) M :=
  j_get (t := 0) (i := i) (ci := 6) (k := 3) (C := "HaulWages") (T := TT_H) (N := 12) (v := vR 11 0) (fs_0 i) (by unfold isW; omega) (ce_0 i) rfl in_H (by omega) hl rfl (fun _ _ => by show _ < cnt _; decide) hd k
theorem gf_0_4 {i idx : Nat} (hd : decode mm.2.1 pc = .ok (.getfield idx, 3)) (hl : Cond.fieldLink mm.1.cls idx "HaulWages" "kept" "[Z" ∈ gw) (k : JG E mm Q (pc + 3) L (vR 12 0 :: st) M) : JG E mm Q pc L (vR 0 i :: st) M :=
  j_get (t := 0) (i := i) (ci := 6) (k := 4) (C := "HaulWages") (T := TT_H) (N := 12) (v := vR 12 0) (fs_0 i) (by unfold isW; omega) (ce_0 i) rfl in_H (by omega) hl rfl (fun _ _ => by show _ < cnt _; decide) hd k
theorem gf_0_5 {i idx : Nat} (hd : decode mm.2.1 pc = .ok (.getfield idx, 3)) (hl : Cond.fieldLink mm.1.cls idx "HaulWages" "tape" "LHaulWages$Tape;" ∈ gw) (k : JG E mm Q (pc + 3) L (vR 9 0 :: st) M) : JG E mm Q pc L (vR 0 i :: st) M :=
  j_get (t := 0) (i := i) (ci := 6) (k := 5) (C := "HaulWages") (T := TT_H) (N := 12) (v := vR 9 0) (fs_0 i) (by unfold isW; omega) (ce_0 i) rfl in_H (by omega) hl rfl (fun _ _ => by show _ < cnt _; decide) hd k
theorem gf_0_6 {i idx : Nat} (hd : decode mm.2.1 pc = .ok (.getfield idx, 3)) (hl : Cond.fieldLink mm.1.cls idx "HaulWages" "sheets" "[LHaulWages$Sheet;" ∈ gw) (k : JG E mm Q (pc + 3) L (vR 13 0 :: st) M) : JG E mm Q pc L (vR 0 i :: st) M :=
  j_get (t := 0) (i := i) (ci := 6) (k := 6) (C := "HaulWages") (T := TT_H) (N := 12) (v := vR 13 0) (fs_0 i) (by unfold isW; omega) (ce_0 i) rfl in_H (by omega) hl rfl (fun _ _ => by show _ < cnt _; decide) hd k
theorem gf_0_7 {i idx : Nat} (hd : decode mm.2.1 pc = .ok (.getfield idx, 3)) (hl : Cond.fieldLink mm.1.cls idx "HaulWages" "seen" "[LHaulWages$Sight;" ∈ gw) (k : JG E mm Q (pc + 3) L (vR 14 0 :: st) M) : JG E mm Q pc L (vR 0 i :: st) M :=
  j_get (t := 0) (i := i) (ci := 6) (k := 7) (C := "HaulWages") (T := TT_H) (N := 12) (v := vR 14 0) (fs_0 i) (by unfold isW; omega) (ce_0 i) rfl in_H (by omega) hl rfl (fun _ _ => by show _ < cnt _; decide) hd k
theorem gf_0_8 {i idx : Nat} (hd : decode mm.2.1 pc = .ok (.getfield idx, 3)) (hl : Cond.fieldLink mm.1.cls idx "HaulWages" "foretold" "[[I" ∈ gw) (k : JG E mm Q (pc + 3) L (vR 15 0 :: st) M) : JG E mm Q pc L (vR 0 i :: st) M :=
  j_get (t := 0) (i := i) (ci := 6) (k := 8) (C := "HaulWages") (T := TT_H) (N := 12) (v := vR 15 0) (fs_0 i) (by unfold isW; omega) (ce_0 i) rfl in_H (by omega) hl rfl (fun _ _ => by show _ < cnt _; decide) hd k
theorem gf_0_9 {i idx : Nat} (hd : decode mm.2.1 pc = .ok (.getfield idx, 3)) (hl : Cond.fieldLink mm.1.cls idx "HaulWages" "seenCount" "I" ∈ gw) (k : JG E mm Q (pc + 3) L (vI (M 0 i 9) :: st) M) : JG E mm Q pc L (vR 0 i :: st) M :=
  j_get (t := 0) (i := i) (ci := 6) (k := 9) (C := "HaulWages") (T := TT_H) (N := 12) (v := vI (M 0 i 9)) (fs_0 i) (by unfold isW; omega) (ce_0 i) rfl in_H (by omega) hl rfl (fun h _ => h.1 0 i 9) hd k
theorem pf_0_9 {i idx : Nat} {x : Int} (hd : decode mm.2.1 pc = .ok (.putfield idx, 3)) (hl : Cond.fieldLink mm.1.cls idx "HaulWages" "seenCount" "I" ∈ gw) (k : ∀ M' : JM, M' = pt M 0 i 9 x → JG E mm Q (pc + 3) L st M') : JG E mm Q pc L (vI x :: vR 0 i :: st) M :=
  j_putI (t := 0) (i := i) (ci := 6) (k := 9) (C := "HaulWages") (T := TT_H) (N := 12) (ty := .int) (fs_0 i) ty_H tyk_H nm_H (by unfold isW; omega) (by omega) (ce_0 i) (fun _ _ _ => rfl) (fun _ _ _ => Nat.le_of_ble_eq_true rfl) rfl in_H (by omega) rfl (by decide +kernel) rfl rfl hl hd k
theorem gf_0_10 {i idx : Nat} (hd : decode mm.2.1 pc = .ok (.getfield idx, 3)) (hl : Cond.fieldLink mm.1.cls idx "HaulWages" "latestFault" "I" ∈ gw) (k : JG E mm Q (pc + 3) L (vI (M 0 i 10) :: st) M) : JG E mm Q pc L (vR 0 i :: st) M :=
  j_get (t := 0) (i := i) (ci := 6) (k := 10) (C := "HaulWages") (T := TT_H) (N := 12) (v := vI (M 0 i 10)) (fs_0 i) (by unfold isW; omega) (ce_0 i) rfl in_H (by omega) hl rfl (fun h _ => h.1 0 i 10) hd k
theorem pf_0_10 {i idx : Nat} {x : Int} (hd : decode mm.2.1 pc = .ok (.putfield idx, 3)) (hl : Cond.fieldLink mm.1.cls idx "HaulWages" "latestFault" "I" ∈ gw) (k : ∀ M' : JM, M' = pt M 0 i 10 x → JG E mm Q (pc + 3) L st M') : JG E mm Q pc L (vI x :: vR 0 i :: st) M :=
  j_putI (t := 0) (i := i) (ci := 6) (k := 10) (C := "HaulWages") (T := TT_H) (N := 12) (ty := .int) (fs_0 i) ty_H tyk_H nm_H (by unfold isW; omega) (by omega) (ce_0 i) (fun _ _ _ => rfl) (fun _ _ _ => Nat.le_of_ble_eq_true rfl) rfl in_H (by omega) rfl (by decide +kernel) rfl rfl hl hd k
theorem gf_0_11 {i idx : Nat} (hd : decode mm.2.1 pc = .ok (.getfield idx, 3)) (hl : Cond.fieldLink mm.1.cls idx "HaulWages" "latestTorn" "I" ∈ gw) (k : JG E mm Q (pc + 3) L (vI (M 0 i 11) :: st) M) : JG E mm Q pc L (vR 0 i :: st) M :=
  j_get (t := 0) (i := i) (ci := 6) (k := 11) (C := "HaulWages") (T := TT_H) (N := 12) (v := vI (M 0 i 11)) (fs_0 i) (by unfold isW; omega) (ce_0 i) rfl in_H (by omega) hl rfl (fun h _ => h.1 0 i 11) hd k
theorem pf_0_11 {i idx : Nat} {x : Int} (hd : decode mm.2.1 pc = .ok (.putfield idx, 3)) (hl : Cond.fieldLink mm.1.cls idx "HaulWages" "latestTorn" "I" ∈ gw) (k : ∀ M' : JM, M' = pt M 0 i 11 x → JG E mm Q (pc + 3) L st M') : JG E mm Q pc L (vI x :: vR 0 i :: st) M :=
  j_putI (t := 0) (i := i) (ci := 6) (k := 11) (C := "HaulWages") (T := TT_H) (N := 12) (ty := .int) (fs_0 i) ty_H tyk_H nm_H (by unfold isW; omega) (by omega) (ce_0 i) (fun _ _ _ => rfl) (fun _ _ _ => Nat.le_of_ble_eq_true rfl) rfl in_H (by omega) rfl (by decide +kernel) rfl rfl hl hd k
abbrev fs_1 (i : Nat) : (Nat → ClassId) → (Nat → Nat → Nat) → (Nat → Int) → List Value := fun ca ad m => [.int (i32 (m 0)), .int (i32 (m 1)), .int (i32 (m 2)), .int (i32 (m 3)), .int (i32 (m 4)), .int (i32 (m 5))]
theorem ce_1 (i : Nat) : ∀ ca ad m, cellF ca ad 1 i m = .inr (0, fs_1 i ca ad m) := fun _ _ _ => rfl
theorem gf_1_0 {i idx : Nat} (hd : decode mm.2.1 pc = .ok (.getfield idx, 3)) (hl : Cond.fieldLink mm.1.cls idx "HaulWages$Good" "kind" "I" ∈ gw) (k : JG E mm Q (pc + 3) L (vI (M 1 i 0) :: st) M) : JG E mm Q pc L (vR 1 i :: st) M :=
  j_get (t := 1) (i := i) (ci := 0) (k := 0) (C := "HaulWages$Good") (T := TT_G) (N := 6) (v := vI (M 1 i 0)) (fs_1 i) (by unfold isW; omega) (ce_1 i) rfl in_G (by omega) hl rfl (fun h _ => h.1 1 i 0) hd k
theorem pf_1_0 {i idx : Nat} {x : Int} (hd : decode mm.2.1 pc = .ok (.putfield idx, 3)) (hl : Cond.fieldLink mm.1.cls idx "HaulWages$Good" "kind" "I" ∈ gw) (k : ∀ M' : JM, M' = pt M 1 i 0 x → JG E mm Q (pc + 3) L st M') : JG E mm Q pc L (vI x :: vR 1 i :: st) M :=
  j_putI (t := 1) (i := i) (ci := 0) (k := 0) (C := "HaulWages$Good") (T := TT_G) (N := 6) (ty := .int) (fs_1 i) ty_G tyk_G nm_G (by unfold isW; omega) (by omega) (ce_1 i) (fun _ _ _ => rfl) (fun _ _ _ => Nat.le_of_ble_eq_true rfl) rfl in_G (by omega) rfl (by decide +kernel) rfl rfl hl hd k
theorem gf_1_1 {i idx : Nat} (hd : decode mm.2.1 pc = .ok (.getfield idx, 3)) (hl : Cond.fieldLink mm.1.cls idx "HaulWages$Good" "weight" "I" ∈ gw) (k : JG E mm Q (pc + 3) L (vI (M 1 i 1) :: st) M) : JG E mm Q pc L (vR 1 i :: st) M :=
  j_get (t := 1) (i := i) (ci := 0) (k := 1) (C := "HaulWages$Good") (T := TT_G) (N := 6) (v := vI (M 1 i 1)) (fs_1 i) (by unfold isW; omega) (ce_1 i) rfl in_G (by omega) hl rfl (fun h _ => h.1 1 i 1) hd k
theorem pf_1_1 {i idx : Nat} {x : Int} (hd : decode mm.2.1 pc = .ok (.putfield idx, 3)) (hl : Cond.fieldLink mm.1.cls idx "HaulWages$Good" "weight" "I" ∈ gw) (k : ∀ M' : JM, M' = pt M 1 i 1 x → JG E mm Q (pc + 3) L st M') : JG E mm Q pc L (vI x :: vR 1 i :: st) M :=
  j_putI (t := 1) (i := i) (ci := 0) (k := 1) (C := "HaulWages$Good") (T := TT_G) (N := 6) (ty := .int) (fs_1 i) ty_G tyk_G nm_G (by unfold isW; omega) (by omega) (ce_1 i) (fun _ _ _ => rfl) (fun _ _ _ => Nat.le_of_ble_eq_true rfl) rfl in_G (by omega) rfl (by decide +kernel) rfl rfl hl hd k
theorem gf_1_2 {i idx : Nat} (hd : decode mm.2.1 pc = .ok (.getfield idx, 3)) (hl : Cond.fieldLink mm.1.cls idx "HaulWages$Good" "worth" "I" ∈ gw) (k : JG E mm Q (pc + 3) L (vI (M 1 i 2) :: st) M) : JG E mm Q pc L (vR 1 i :: st) M :=
  j_get (t := 1) (i := i) (ci := 0) (k := 2) (C := "HaulWages$Good") (T := TT_G) (N := 6) (v := vI (M 1 i 2)) (fs_1 i) (by unfold isW; omega) (ce_1 i) rfl in_G (by omega) hl rfl (fun h _ => h.1 1 i 2) hd k
theorem pf_1_2 {i idx : Nat} {x : Int} (hd : decode mm.2.1 pc = .ok (.putfield idx, 3)) (hl : Cond.fieldLink mm.1.cls idx "HaulWages$Good" "worth" "I" ∈ gw) (k : ∀ M' : JM, M' = pt M 1 i 2 x → JG E mm Q (pc + 3) L st M') : JG E mm Q pc L (vI x :: vR 1 i :: st) M :=
  j_putI (t := 1) (i := i) (ci := 0) (k := 2) (C := "HaulWages$Good") (T := TT_G) (N := 6) (ty := .int) (fs_1 i) ty_G tyk_G nm_G (by unfold isW; omega) (by omega) (ce_1 i) (fun _ _ _ => rfl) (fun _ _ _ => Nat.le_of_ble_eq_true rfl) rfl in_G (by omega) rfl (by decide +kernel) rfl rfl hl hd k
theorem gf_1_3 {i idx : Nat} (hd : decode mm.2.1 pc = .ok (.getfield idx, 3)) (hl : Cond.fieldLink mm.1.cls idx "HaulWages$Good" "heft" "I" ∈ gw) (k : JG E mm Q (pc + 3) L (vI (M 1 i 3) :: st) M) : JG E mm Q pc L (vR 1 i :: st) M :=
  j_get (t := 1) (i := i) (ci := 0) (k := 3) (C := "HaulWages$Good") (T := TT_G) (N := 6) (v := vI (M 1 i 3)) (fs_1 i) (by unfold isW; omega) (ce_1 i) rfl in_G (by omega) hl rfl (fun h _ => h.1 1 i 3) hd k
theorem pf_1_3 {i idx : Nat} {x : Int} (hd : decode mm.2.1 pc = .ok (.putfield idx, 3)) (hl : Cond.fieldLink mm.1.cls idx "HaulWages$Good" "heft" "I" ∈ gw) (k : ∀ M' : JM, M' = pt M 1 i 3 x → JG E mm Q (pc + 3) L st M') : JG E mm Q pc L (vI x :: vR 1 i :: st) M :=
  j_putI (t := 1) (i := i) (ci := 0) (k := 3) (C := "HaulWages$Good") (T := TT_G) (N := 6) (ty := .int) (fs_1 i) ty_G tyk_G nm_G (by unfold isW; omega) (by omega) (ce_1 i) (fun _ _ _ => rfl) (fun _ _ _ => Nat.le_of_ble_eq_true rfl) rfl in_G (by omega) rfl (by decide +kernel) rfl rfl hl hd k
theorem gf_1_4 {i idx : Nat} (hd : decode mm.2.1 pc = .ok (.getfield idx, 3)) (hl : Cond.fieldLink mm.1.cls idx "HaulWages$Good" "pays" "I" ∈ gw) (k : JG E mm Q (pc + 3) L (vI (M 1 i 4) :: st) M) : JG E mm Q pc L (vR 1 i :: st) M :=
  j_get (t := 1) (i := i) (ci := 0) (k := 4) (C := "HaulWages$Good") (T := TT_G) (N := 6) (v := vI (M 1 i 4)) (fs_1 i) (by unfold isW; omega) (ce_1 i) rfl in_G (by omega) hl rfl (fun h _ => h.1 1 i 4) hd k
theorem pf_1_4 {i idx : Nat} {x : Int} (hd : decode mm.2.1 pc = .ok (.putfield idx, 3)) (hl : Cond.fieldLink mm.1.cls idx "HaulWages$Good" "pays" "I" ∈ gw) (k : ∀ M' : JM, M' = pt M 1 i 4 x → JG E mm Q (pc + 3) L st M') : JG E mm Q pc L (vI x :: vR 1 i :: st) M :=
  j_putI (t := 1) (i := i) (ci := 0) (k := 4) (C := "HaulWages$Good") (T := TT_G) (N := 6) (ty := .int) (fs_1 i) ty_G tyk_G nm_G (by unfold isW; omega) (by omega) (ce_1 i) (fun _ _ _ => rfl) (fun _ _ _ => Nat.le_of_ble_eq_true rfl) rfl in_G (by omega) rfl (by decide +kernel) rfl rfl hl hd k
theorem gf_1_5 {i idx : Nat} (hd : decode mm.2.1 pc = .ok (.getfield idx, 3)) (hl : Cond.fieldLink mm.1.cls idx "HaulWages$Good" "taken" "Z" ∈ gw) (k : JG E mm Q (pc + 3) L (vI (M 1 i 5) :: st) M) : JG E mm Q pc L (vR 1 i :: st) M :=
  j_get (t := 1) (i := i) (ci := 0) (k := 5) (C := "HaulWages$Good") (T := TT_G) (N := 6) (v := vI (M 1 i 5)) (fs_1 i) (by unfold isW; omega) (ce_1 i) rfl in_G (by omega) hl rfl (fun h _ => h.1 1 i 5) hd k
theorem pf_1_5 {i idx : Nat} {x : Int} (hd : decode mm.2.1 pc = .ok (.putfield idx, 3)) (hl : Cond.fieldLink mm.1.cls idx "HaulWages$Good" "taken" "Z" ∈ gw) (h01 : x = 0 ∨ x = 1) (k : ∀ M' : JM, M' = pt M 1 i 5 x → JG E mm Q (pc + 3) L st M') : JG E mm Q pc L (vI x :: vR 1 i :: st) M :=
  j_putI (t := 1) (i := i) (ci := 0) (k := 5) (C := "HaulWages$Good") (T := TT_G) (N := 6) (ty := .boolean) (fs_1 i) ty_G tyk_G nm_G (by unfold isW; omega) (by omega) (ce_1 i) (fun _ _ _ => rfl) (fun _ _ _ => Nat.le_of_ble_eq_true rfl) rfl in_G (by omega) rfl (by decide +kernel) (nar01 h01) (fit01 h01) hl hd k
abbrev fs_2 (i : Nat) : (Nat → ClassId) → (Nat → Nat → Nat) → (Nat → Int) → List Value := fun ca ad m => [.int (i32 (m 0)), .int (i32 (m 1)), .int (i32 (m 2)), .int (i32 (m 3)), .int (i32 (m 4))]
theorem ce_2 (i : Nat) : ∀ ca ad m, cellF ca ad 2 i m = .inr (1, fs_2 i ca ad m) := fun _ _ _ => rfl
theorem gf_2_0 {i idx : Nat} (hd : decode mm.2.1 pc = .ok (.getfield idx, 3)) (hl : Cond.fieldLink mm.1.cls idx "HaulWages$One" "strength" "I" ∈ gw) (k : JG E mm Q (pc + 3) L (vI (M 2 i 0) :: st) M) : JG E mm Q pc L (vR 2 i :: st) M :=
  j_get (t := 2) (i := i) (ci := 1) (k := 0) (C := "HaulWages$One") (T := TT_O) (N := 5) (v := vI (M 2 i 0)) (fs_2 i) (by unfold isW; omega) (ce_2 i) rfl in_O (by omega) hl rfl (fun h _ => h.1 2 i 0) hd k
theorem pf_2_0 {i idx : Nat} {x : Int} (hd : decode mm.2.1 pc = .ok (.putfield idx, 3)) (hl : Cond.fieldLink mm.1.cls idx "HaulWages$One" "strength" "I" ∈ gw) (k : ∀ M' : JM, M' = pt M 2 i 0 x → JG E mm Q (pc + 3) L st M') : JG E mm Q pc L (vI x :: vR 2 i :: st) M :=
  j_putI (t := 2) (i := i) (ci := 1) (k := 0) (C := "HaulWages$One") (T := TT_O) (N := 5) (ty := .int) (fs_2 i) ty_O tyk_O nm_O (by unfold isW; omega) (by omega) (ce_2 i) (fun _ _ _ => rfl) (fun _ _ _ => Nat.le_of_ble_eq_true rfl) rfl in_O (by omega) rfl (by decide +kernel) rfl rfl hl hd k
theorem gf_2_1 {i idx : Nat} (hd : decode mm.2.1 pc = .ok (.getfield idx, 3)) (hl : Cond.fieldLink mm.1.cls idx "HaulWages$One" "wages" "I" ∈ gw) (k : JG E mm Q (pc + 3) L (vI (M 2 i 1) :: st) M) : JG E mm Q pc L (vR 2 i :: st) M :=
  j_get (t := 2) (i := i) (ci := 1) (k := 1) (C := "HaulWages$One") (T := TT_O) (N := 5) (v := vI (M 2 i 1)) (fs_2 i) (by unfold isW; omega) (ce_2 i) rfl in_O (by omega) hl rfl (fun h _ => h.1 2 i 1) hd k
theorem pf_2_1 {i idx : Nat} {x : Int} (hd : decode mm.2.1 pc = .ok (.putfield idx, 3)) (hl : Cond.fieldLink mm.1.cls idx "HaulWages$One" "wages" "I" ∈ gw) (k : ∀ M' : JM, M' = pt M 2 i 1 x → JG E mm Q (pc + 3) L st M') : JG E mm Q pc L (vI x :: vR 2 i :: st) M :=
  j_putI (t := 2) (i := i) (ci := 1) (k := 1) (C := "HaulWages$One") (T := TT_O) (N := 5) (ty := .int) (fs_2 i) ty_O tyk_O nm_O (by unfold isW; omega) (by omega) (ce_2 i) (fun _ _ _ => rfl) (fun _ _ _ => Nat.le_of_ble_eq_true rfl) rfl in_O (by omega) rfl (by decide +kernel) rfl rfl hl hd k
theorem gf_2_2 {i idx : Nat} (hd : decode mm.2.1 pc = .ok (.getfield idx, 3)) (hl : Cond.fieldLink mm.1.cls idx "HaulWages$One" "armful" "I" ∈ gw) (k : JG E mm Q (pc + 3) L (vI (M 2 i 2) :: st) M) : JG E mm Q pc L (vR 2 i :: st) M :=
  j_get (t := 2) (i := i) (ci := 1) (k := 2) (C := "HaulWages$One") (T := TT_O) (N := 5) (v := vI (M 2 i 2)) (fs_2 i) (by unfold isW; omega) (ce_2 i) rfl in_O (by omega) hl rfl (fun h _ => h.1 2 i 2) hd k
theorem pf_2_2 {i idx : Nat} {x : Int} (hd : decode mm.2.1 pc = .ok (.putfield idx, 3)) (hl : Cond.fieldLink mm.1.cls idx "HaulWages$One" "armful" "I" ∈ gw) (k : ∀ M' : JM, M' = pt M 2 i 2 x → JG E mm Q (pc + 3) L st M') : JG E mm Q pc L (vI x :: vR 2 i :: st) M :=
  j_putI (t := 2) (i := i) (ci := 1) (k := 2) (C := "HaulWages$One") (T := TT_O) (N := 5) (ty := .int) (fs_2 i) ty_O tyk_O nm_O (by unfold isW; omega) (by omega) (ce_2 i) (fun _ _ _ => rfl) (fun _ _ _ => Nat.le_of_ble_eq_true rfl) rfl in_O (by omega) rfl (by decide +kernel) rfl rfl hl hd k
theorem gf_2_3 {i idx : Nat} (hd : decode mm.2.1 pc = .ok (.getfield idx, 3)) (hl : Cond.fieldLink mm.1.cls idx "HaulWages$One" "load" "I" ∈ gw) (k : JG E mm Q (pc + 3) L (vI (M 2 i 3) :: st) M) : JG E mm Q pc L (vR 2 i :: st) M :=
  j_get (t := 2) (i := i) (ci := 1) (k := 3) (C := "HaulWages$One") (T := TT_O) (N := 5) (v := vI (M 2 i 3)) (fs_2 i) (by unfold isW; omega) (ce_2 i) rfl in_O (by omega) hl rfl (fun h _ => h.1 2 i 3) hd k
theorem pf_2_3 {i idx : Nat} {x : Int} (hd : decode mm.2.1 pc = .ok (.putfield idx, 3)) (hl : Cond.fieldLink mm.1.cls idx "HaulWages$One" "load" "I" ∈ gw) (k : ∀ M' : JM, M' = pt M 2 i 3 x → JG E mm Q (pc + 3) L st M') : JG E mm Q pc L (vI x :: vR 2 i :: st) M :=
  j_putI (t := 2) (i := i) (ci := 1) (k := 3) (C := "HaulWages$One") (T := TT_O) (N := 5) (ty := .int) (fs_2 i) ty_O tyk_O nm_O (by unfold isW; omega) (by omega) (ce_2 i) (fun _ _ _ => rfl) (fun _ _ _ => Nat.le_of_ble_eq_true rfl) rfl in_O (by omega) rfl (by decide +kernel) rfl rfl hl hd k
theorem gf_2_4 {i idx : Nat} (hd : decode mm.2.1 pc = .ok (.getfield idx, 3)) (hl : Cond.fieldLink mm.1.cls idx "HaulWages$One" "pay" "I" ∈ gw) (k : JG E mm Q (pc + 3) L (vI (M 2 i 4) :: st) M) : JG E mm Q pc L (vR 2 i :: st) M :=
  j_get (t := 2) (i := i) (ci := 1) (k := 4) (C := "HaulWages$One") (T := TT_O) (N := 5) (v := vI (M 2 i 4)) (fs_2 i) (by unfold isW; omega) (ce_2 i) rfl in_O (by omega) hl rfl (fun h _ => h.1 2 i 4) hd k
theorem pf_2_4 {i idx : Nat} {x : Int} (hd : decode mm.2.1 pc = .ok (.putfield idx, 3)) (hl : Cond.fieldLink mm.1.cls idx "HaulWages$One" "pay" "I" ∈ gw) (k : ∀ M' : JM, M' = pt M 2 i 4 x → JG E mm Q (pc + 3) L st M') : JG E mm Q pc L (vI x :: vR 2 i :: st) M :=
  j_putI (t := 2) (i := i) (ci := 1) (k := 4) (C := "HaulWages$One") (T := TT_O) (N := 5) (ty := .int) (fs_2 i) ty_O tyk_O nm_O (by unfold isW; omega) (by omega) (ce_2 i) (fun _ _ _ => rfl) (fun _ _ _ => Nat.le_of_ble_eq_true rfl) rfl in_O (by omega) rfl (by decide +kernel) rfl rfl hl hd k
abbrev fs_3 (i : Nat) : (Nat → ClassId) → (Nat → Nat → Nat) → (Nat → Int) → List Value := fun ca ad m => [.ref (ad 4 i), .ref (ad 5 i), .int (i32 (m 2)), .int (i32 (m 3)), .int (i32 (m 4)), .int (i32 (m 5)), .int (i32 (m 6)), .int (i32 (m 7)), .int (i32 (m 8)), .int (i32 (m 9))]
theorem ce_3 (i : Nat) : ∀ ca ad m, cellF ca ad 3 i m = .inr (5, fs_3 i ca ad m) := fun _ _ _ => rfl
theorem gf_3_0 {i idx : Nat} (hd : decode mm.2.1 pc = .ok (.getfield idx, 3)) (hl : Cond.fieldLink mm.1.cls idx "HaulWages$Town" "goods" "[LHaulWages$Good;" ∈ gw) (k : JG E mm Q (pc + 3) L (vR 4 i :: st) M) : JG E mm Q pc L (vR 3 i :: st) M :=
  j_get (t := 3) (i := i) (ci := 5) (k := 0) (C := "HaulWages$Town") (T := TT_T) (N := 10) (v := vR 4 i) (fs_3 i) (by unfold isW; omega) (ce_3 i) rfl in_T (by omega) hl rfl (fun _ h => h) hd k
theorem gf_3_1 {i idx : Nat} (hd : decode mm.2.1 pc = .ok (.getfield idx, 3)) (hl : Cond.fieldLink mm.1.cls idx "HaulWages$Town" "ones" "[LHaulWages$One;" ∈ gw) (k : JG E mm Q (pc + 3) L (vR 5 i :: st) M) : JG E mm Q pc L (vR 3 i :: st) M :=
  j_get (t := 3) (i := i) (ci := 5) (k := 1) (C := "HaulWages$Town") (T := TT_T) (N := 10) (v := vR 5 i) (fs_3 i) (by unfold isW; omega) (ce_3 i) rfl in_T (by omega) hl rfl (fun _ h => h) hd k
theorem gf_3_2 {i idx : Nat} (hd : decode mm.2.1 pc = .ok (.getfield idx, 3)) (hl : Cond.fieldLink mm.1.cls idx "HaulWages$Town" "goodCount" "I" ∈ gw) (k : JG E mm Q (pc + 3) L (vI (M 3 i 2) :: st) M) : JG E mm Q pc L (vR 3 i :: st) M :=
  j_get (t := 3) (i := i) (ci := 5) (k := 2) (C := "HaulWages$Town") (T := TT_T) (N := 10) (v := vI (M 3 i 2)) (fs_3 i) (by unfold isW; omega) (ce_3 i) rfl in_T (by omega) hl rfl (fun h _ => h.1 3 i 2) hd k
theorem pf_3_2 {i idx : Nat} {x : Int} (hd : decode mm.2.1 pc = .ok (.putfield idx, 3)) (hl : Cond.fieldLink mm.1.cls idx "HaulWages$Town" "goodCount" "I" ∈ gw) (k : ∀ M' : JM, M' = pt M 3 i 2 x → JG E mm Q (pc + 3) L st M') : JG E mm Q pc L (vI x :: vR 3 i :: st) M :=
  j_putI (t := 3) (i := i) (ci := 5) (k := 2) (C := "HaulWages$Town") (T := TT_T) (N := 10) (ty := .int) (fs_3 i) ty_T tyk_T nm_T (by unfold isW; omega) (by omega) (ce_3 i) (fun _ _ _ => rfl) (fun _ _ _ => Nat.le_of_ble_eq_true rfl) rfl in_T (by omega) rfl (by decide +kernel) rfl rfl hl hd k
theorem gf_3_3 {i idx : Nat} (hd : decode mm.2.1 pc = .ok (.getfield idx, 3)) (hl : Cond.fieldLink mm.1.cls idx "HaulWages$Town" "oneCount" "I" ∈ gw) (k : JG E mm Q (pc + 3) L (vI (M 3 i 3) :: st) M) : JG E mm Q pc L (vR 3 i :: st) M :=
  j_get (t := 3) (i := i) (ci := 5) (k := 3) (C := "HaulWages$Town") (T := TT_T) (N := 10) (v := vI (M 3 i 3)) (fs_3 i) (by unfold isW; omega) (ce_3 i) rfl in_T (by omega) hl rfl (fun h _ => h.1 3 i 3) hd k
theorem pf_3_3 {i idx : Nat} {x : Int} (hd : decode mm.2.1 pc = .ok (.putfield idx, 3)) (hl : Cond.fieldLink mm.1.cls idx "HaulWages$Town" "oneCount" "I" ∈ gw) (k : ∀ M' : JM, M' = pt M 3 i 3 x → JG E mm Q (pc + 3) L st M') : JG E mm Q pc L (vI x :: vR 3 i :: st) M :=
  j_putI (t := 3) (i := i) (ci := 5) (k := 3) (C := "HaulWages$Town") (T := TT_T) (N := 10) (ty := .int) (fs_3 i) ty_T tyk_T nm_T (by unfold isW; omega) (by omega) (ce_3 i) (fun _ _ _ => rfl) (fun _ _ _ => Nat.le_of_ble_eq_true rfl) rfl in_T (by omega) rfl (by decide +kernel) rfl rfl hl hd k
theorem gf_3_4 {i idx : Nat} (hd : decode mm.2.1 pc = .ok (.getfield idx, 3)) (hl : Cond.fieldLink mm.1.cls idx "HaulWages$Town" "hooter" "I" ∈ gw) (k : JG E mm Q (pc + 3) L (vI (M 3 i 4) :: st) M) : JG E mm Q pc L (vR 3 i :: st) M :=
  j_get (t := 3) (i := i) (ci := 5) (k := 4) (C := "HaulWages$Town") (T := TT_T) (N := 10) (v := vI (M 3 i 4)) (fs_3 i) (by unfold isW; omega) (ce_3 i) rfl in_T (by omega) hl rfl (fun h _ => h.1 3 i 4) hd k
theorem pf_3_4 {i idx : Nat} {x : Int} (hd : decode mm.2.1 pc = .ok (.putfield idx, 3)) (hl : Cond.fieldLink mm.1.cls idx "HaulWages$Town" "hooter" "I" ∈ gw) (k : ∀ M' : JM, M' = pt M 3 i 4 x → JG E mm Q (pc + 3) L st M') : JG E mm Q pc L (vI x :: vR 3 i :: st) M :=
  j_putI (t := 3) (i := i) (ci := 5) (k := 4) (C := "HaulWages$Town") (T := TT_T) (N := 10) (ty := .int) (fs_3 i) ty_T tyk_T nm_T (by unfold isW; omega) (by omega) (ce_3 i) (fun _ _ _ => rfl) (fun _ _ _ => Nat.le_of_ble_eq_true rfl) rfl in_T (by omega) rfl (by decide +kernel) rfl rfl hl hd k
theorem gf_3_5 {i idx : Nat} (hd : decode mm.2.1 pc = .ok (.getfield idx, 3)) (hl : Cond.fieldLink mm.1.cls idx "HaulWages$Town" "brings" "I" ∈ gw) (k : JG E mm Q (pc + 3) L (vI (M 3 i 5) :: st) M) : JG E mm Q pc L (vR 3 i :: st) M :=
  j_get (t := 3) (i := i) (ci := 5) (k := 5) (C := "HaulWages$Town") (T := TT_T) (N := 10) (v := vI (M 3 i 5)) (fs_3 i) (by unfold isW; omega) (ce_3 i) rfl in_T (by omega) hl rfl (fun h _ => h.1 3 i 5) hd k
theorem pf_3_5 {i idx : Nat} {x : Int} (hd : decode mm.2.1 pc = .ok (.putfield idx, 3)) (hl : Cond.fieldLink mm.1.cls idx "HaulWages$Town" "brings" "I" ∈ gw) (k : ∀ M' : JM, M' = pt M 3 i 5 x → JG E mm Q (pc + 3) L st M') : JG E mm Q pc L (vI x :: vR 3 i :: st) M :=
  j_putI (t := 3) (i := i) (ci := 5) (k := 5) (C := "HaulWages$Town") (T := TT_T) (N := 10) (ty := .int) (fs_3 i) ty_T tyk_T nm_T (by unfold isW; omega) (by omega) (ce_3 i) (fun _ _ _ => rfl) (fun _ _ _ => Nat.le_of_ble_eq_true rfl) rfl in_T (by omega) rfl (by decide +kernel) rfl rfl hl hd k
theorem gf_3_6 {i idx : Nat} (hd : decode mm.2.1 pc = .ok (.getfield idx, 3)) (hl : Cond.fieldLink mm.1.cls idx "HaulWages$Town" "week" "I" ∈ gw) (k : JG E mm Q (pc + 3) L (vI (M 3 i 6) :: st) M) : JG E mm Q pc L (vR 3 i :: st) M :=
  j_get (t := 3) (i := i) (ci := 5) (k := 6) (C := "HaulWages$Town") (T := TT_T) (N := 10) (v := vI (M 3 i 6)) (fs_3 i) (by unfold isW; omega) (ce_3 i) rfl in_T (by omega) hl rfl (fun h _ => h.1 3 i 6) hd k
theorem pf_3_6 {i idx : Nat} {x : Int} (hd : decode mm.2.1 pc = .ok (.putfield idx, 3)) (hl : Cond.fieldLink mm.1.cls idx "HaulWages$Town" "week" "I" ∈ gw) (k : ∀ M' : JM, M' = pt M 3 i 6 x → JG E mm Q (pc + 3) L st M') : JG E mm Q pc L (vI x :: vR 3 i :: st) M :=
  j_putI (t := 3) (i := i) (ci := 5) (k := 6) (C := "HaulWages$Town") (T := TT_T) (N := 10) (ty := .int) (fs_3 i) ty_T tyk_T nm_T (by unfold isW; omega) (by omega) (ce_3 i) (fun _ _ _ => rfl) (fun _ _ _ => Nat.le_of_ble_eq_true rfl) rfl in_T (by omega) rfl (by decide +kernel) rfl rfl hl hd k
theorem gf_3_7 {i idx : Nat} (hd : decode mm.2.1 pc = .ok (.getfield idx, 3)) (hl : Cond.fieldLink mm.1.cls idx "HaulWages$Town" "grabbed" "I" ∈ gw) (k : JG E mm Q (pc + 3) L (vI (M 3 i 7) :: st) M) : JG E mm Q pc L (vR 3 i :: st) M :=
  j_get (t := 3) (i := i) (ci := 5) (k := 7) (C := "HaulWages$Town") (T := TT_T) (N := 10) (v := vI (M 3 i 7)) (fs_3 i) (by unfold isW; omega) (ce_3 i) rfl in_T (by omega) hl rfl (fun h _ => h.1 3 i 7) hd k
theorem pf_3_7 {i idx : Nat} {x : Int} (hd : decode mm.2.1 pc = .ok (.putfield idx, 3)) (hl : Cond.fieldLink mm.1.cls idx "HaulWages$Town" "grabbed" "I" ∈ gw) (k : ∀ M' : JM, M' = pt M 3 i 7 x → JG E mm Q (pc + 3) L st M') : JG E mm Q pc L (vI x :: vR 3 i :: st) M :=
  j_putI (t := 3) (i := i) (ci := 5) (k := 7) (C := "HaulWages$Town") (T := TT_T) (N := 10) (ty := .int) (fs_3 i) ty_T tyk_T nm_T (by unfold isW; omega) (by omega) (ce_3 i) (fun _ _ _ => rfl) (fun _ _ _ => Nat.le_of_ble_eq_true rfl) rfl in_T (by omega) rfl (by decide +kernel) rfl rfl hl hd k
theorem gf_3_8 {i idx : Nat} (hd : decode mm.2.1 pc = .ok (.getfield idx, 3)) (hl : Cond.fieldLink mm.1.cls idx "HaulWages$Town" "bents" "I" ∈ gw) (k : JG E mm Q (pc + 3) L (vI (M 3 i 8) :: st) M) : JG E mm Q pc L (vR 3 i :: st) M :=
  j_get (t := 3) (i := i) (ci := 5) (k := 8) (C := "HaulWages$Town") (T := TT_T) (N := 10) (v := vI (M 3 i 8)) (fs_3 i) (by unfold isW; omega) (ce_3 i) rfl in_T (by omega) hl rfl (fun h _ => h.1 3 i 8) hd k
theorem pf_3_8 {i idx : Nat} {x : Int} (hd : decode mm.2.1 pc = .ok (.putfield idx, 3)) (hl : Cond.fieldLink mm.1.cls idx "HaulWages$Town" "bents" "I" ∈ gw) (k : ∀ M' : JM, M' = pt M 3 i 8 x → JG E mm Q (pc + 3) L st M') : JG E mm Q pc L (vI x :: vR 3 i :: st) M :=
  j_putI (t := 3) (i := i) (ci := 5) (k := 8) (C := "HaulWages$Town") (T := TT_T) (N := 10) (ty := .int) (fs_3 i) ty_T tyk_T nm_T (by unfold isW; omega) (by omega) (ce_3 i) (fun _ _ _ => rfl) (fun _ _ _ => Nat.le_of_ble_eq_true rfl) rfl in_T (by omega) rfl (by decide +kernel) rfl rfl hl hd k
theorem gf_3_9 {i idx : Nat} (hd : decode mm.2.1 pc = .ok (.getfield idx, 3)) (hl : Cond.fieldLink mm.1.cls idx "HaulWages$Town" "takings" "I" ∈ gw) (k : JG E mm Q (pc + 3) L (vI (M 3 i 9) :: st) M) : JG E mm Q pc L (vR 3 i :: st) M :=
  j_get (t := 3) (i := i) (ci := 5) (k := 9) (C := "HaulWages$Town") (T := TT_T) (N := 10) (v := vI (M 3 i 9)) (fs_3 i) (by unfold isW; omega) (ce_3 i) rfl in_T (by omega) hl rfl (fun h _ => h.1 3 i 9) hd k
theorem pf_3_9 {i idx : Nat} {x : Int} (hd : decode mm.2.1 pc = .ok (.putfield idx, 3)) (hl : Cond.fieldLink mm.1.cls idx "HaulWages$Town" "takings" "I" ∈ gw) (k : ∀ M' : JM, M' = pt M 3 i 9 x → JG E mm Q (pc + 3) L st M') : JG E mm Q pc L (vI x :: vR 3 i :: st) M :=
  j_putI (t := 3) (i := i) (ci := 5) (k := 9) (C := "HaulWages$Town") (T := TT_T) (N := 10) (ty := .int) (fs_3 i) ty_T tyk_T nm_T (by unfold isW; omega) (by omega) (ce_3 i) (fun _ _ _ => rfl) (fun _ _ _ => Nat.le_of_ble_eq_true rfl) rfl in_T (by omega) rfl (by decide +kernel) rfl rfl hl hd k
abbrev fs_6 (i : Nat) : (Nat → ClassId) → (Nat → Nat → Nat) → (Nat → Int) → List Value := fun ca ad m => [.ref (ad 7 i), .int (i32 (m 1)), .int (i32 (m 2))]
theorem ce_6 (i : Nat) : ∀ ca ad m, cellF ca ad 6 i m = .inr (2, fs_6 i ca ad m) := fun _ _ _ => rfl
theorem gf_6_0 {i idx : Nat} (hd : decode mm.2.1 pc = .ok (.getfield idx, 3)) (hl : Cond.fieldLink mm.1.cls idx "HaulWages$Sheet" "cells" "[I" ∈ gw) (k : JG E mm Q (pc + 3) L (vR 7 i :: st) M) : JG E mm Q pc L (vR 6 i :: st) M :=
  j_get (t := 6) (i := i) (ci := 2) (k := 0) (C := "HaulWages$Sheet") (T := TT_S) (N := 3) (v := vR 7 i) (fs_6 i) (by unfold isW; omega) (ce_6 i) rfl in_S (by omega) hl rfl (fun _ h => h) hd k
theorem gf_6_1 {i idx : Nat} (hd : decode mm.2.1 pc = .ok (.getfield idx, 3)) (hl : Cond.fieldLink mm.1.cls idx "HaulWages$Sheet" "lane" "I" ∈ gw) (k : JG E mm Q (pc + 3) L (vI (M 6 i 1) :: st) M) : JG E mm Q pc L (vR 6 i :: st) M :=
  j_get (t := 6) (i := i) (ci := 2) (k := 1) (C := "HaulWages$Sheet") (T := TT_S) (N := 3) (v := vI (M 6 i 1)) (fs_6 i) (by unfold isW; omega) (ce_6 i) rfl in_S (by omega) hl rfl (fun h _ => h.1 6 i 1) hd k
theorem pf_6_1 {i idx : Nat} {x : Int} (hd : decode mm.2.1 pc = .ok (.putfield idx, 3)) (hl : Cond.fieldLink mm.1.cls idx "HaulWages$Sheet" "lane" "I" ∈ gw) (k : ∀ M' : JM, M' = pt M 6 i 1 x → JG E mm Q (pc + 3) L st M') : JG E mm Q pc L (vI x :: vR 6 i :: st) M :=
  j_putI (t := 6) (i := i) (ci := 2) (k := 1) (C := "HaulWages$Sheet") (T := TT_S) (N := 3) (ty := .int) (fs_6 i) ty_S tyk_S nm_S (by unfold isW; omega) (by omega) (ce_6 i) (fun _ _ _ => rfl) (fun _ _ _ => Nat.le_of_ble_eq_true rfl) rfl in_S (by omega) rfl (by decide +kernel) rfl rfl hl hd k
theorem gf_6_2 {i idx : Nat} (hd : decode mm.2.1 pc = .ok (.getfield idx, 3)) (hl : Cond.fieldLink mm.1.cls idx "HaulWages$Sheet" "size" "I" ∈ gw) (k : JG E mm Q (pc + 3) L (vI (M 6 i 2) :: st) M) : JG E mm Q pc L (vR 6 i :: st) M :=
  j_get (t := 6) (i := i) (ci := 2) (k := 2) (C := "HaulWages$Sheet") (T := TT_S) (N := 3) (v := vI (M 6 i 2)) (fs_6 i) (by unfold isW; omega) (ce_6 i) rfl in_S (by omega) hl rfl (fun h _ => h.1 6 i 2) hd k
theorem pf_6_2 {i idx : Nat} {x : Int} (hd : decode mm.2.1 pc = .ok (.putfield idx, 3)) (hl : Cond.fieldLink mm.1.cls idx "HaulWages$Sheet" "size" "I" ∈ gw) (k : ∀ M' : JM, M' = pt M 6 i 2 x → JG E mm Q (pc + 3) L st M') : JG E mm Q pc L (vI x :: vR 6 i :: st) M :=
  j_putI (t := 6) (i := i) (ci := 2) (k := 2) (C := "HaulWages$Sheet") (T := TT_S) (N := 3) (ty := .int) (fs_6 i) ty_S tyk_S nm_S (by unfold isW; omega) (by omega) (ce_6 i) (fun _ _ _ => rfl) (fun _ _ _ => Nat.le_of_ble_eq_true rfl) rfl in_S (by omega) rfl (by decide +kernel) rfl rfl hl hd k
abbrev fs_8 (i : Nat) : (Nat → ClassId) → (Nat → Nat → Nat) → (Nat → Int) → List Value := fun ca ad m => [.int (i32 (m 0)), .int (i32 (m 1)), .int (i32 (m 2))]
theorem ce_8 (i : Nat) : ∀ ca ad m, cellF ca ad 8 i m = .inr (3, fs_8 i ca ad m) := fun _ _ _ => rfl
theorem gf_8_0 {i idx : Nat} (hd : decode mm.2.1 pc = .ok (.getfield idx, 3)) (hl : Cond.fieldLink mm.1.cls idx "HaulWages$Sight" "behind" "I" ∈ gw) (k : JG E mm Q (pc + 3) L (vI (M 8 i 0) :: st) M) : JG E mm Q pc L (vR 8 i :: st) M :=
  j_get (t := 8) (i := i) (ci := 3) (k := 0) (C := "HaulWages$Sight") (T := TT_I) (N := 3) (v := vI (M 8 i 0)) (fs_8 i) (by unfold isW; omega) (ce_8 i) rfl in_I (by omega) hl rfl (fun h _ => h.1 8 i 0) hd k
theorem pf_8_0 {i idx : Nat} {x : Int} (hd : decode mm.2.1 pc = .ok (.putfield idx, 3)) (hl : Cond.fieldLink mm.1.cls idx "HaulWages$Sight" "behind" "I" ∈ gw) (k : ∀ M' : JM, M' = pt M 8 i 0 x → JG E mm Q (pc + 3) L st M') : JG E mm Q pc L (vI x :: vR 8 i :: st) M :=
  j_putI (t := 8) (i := i) (ci := 3) (k := 0) (C := "HaulWages$Sight") (T := TT_I) (N := 3) (ty := .int) (fs_8 i) ty_I tyk_I nm_I (by unfold isW; omega) (by omega) (ce_8 i) (fun _ _ _ => rfl) (fun _ _ _ => Nat.le_of_ble_eq_true rfl) rfl in_I (by omega) rfl (by decide +kernel) rfl rfl hl hd k
theorem gf_8_1 {i idx : Nat} (hd : decode mm.2.1 pc = .ok (.getfield idx, 3)) (hl : Cond.fieldLink mm.1.cls idx "HaulWages$Sight" "who" "I" ∈ gw) (k : JG E mm Q (pc + 3) L (vI (M 8 i 1) :: st) M) : JG E mm Q pc L (vR 8 i :: st) M :=
  j_get (t := 8) (i := i) (ci := 3) (k := 1) (C := "HaulWages$Sight") (T := TT_I) (N := 3) (v := vI (M 8 i 1)) (fs_8 i) (by unfold isW; omega) (ce_8 i) rfl in_I (by omega) hl rfl (fun h _ => h.1 8 i 1) hd k
theorem pf_8_1 {i idx : Nat} {x : Int} (hd : decode mm.2.1 pc = .ok (.putfield idx, 3)) (hl : Cond.fieldLink mm.1.cls idx "HaulWages$Sight" "who" "I" ∈ gw) (k : ∀ M' : JM, M' = pt M 8 i 1 x → JG E mm Q (pc + 3) L st M') : JG E mm Q pc L (vI x :: vR 8 i :: st) M :=
  j_putI (t := 8) (i := i) (ci := 3) (k := 1) (C := "HaulWages$Sight") (T := TT_I) (N := 3) (ty := .int) (fs_8 i) ty_I tyk_I nm_I (by unfold isW; omega) (by omega) (ce_8 i) (fun _ _ _ => rfl) (fun _ _ _ => Nat.le_of_ble_eq_true rfl) rfl in_I (by omega) rfl (by decide +kernel) rfl rfl hl hd k
theorem gf_8_2 {i idx : Nat} (hd : decode mm.2.1 pc = .ok (.getfield idx, 3)) (hl : Cond.fieldLink mm.1.cls idx "HaulWages$Sight" "wages" "I" ∈ gw) (k : JG E mm Q (pc + 3) L (vI (M 8 i 2) :: st) M) : JG E mm Q pc L (vR 8 i :: st) M :=
  j_get (t := 8) (i := i) (ci := 3) (k := 2) (C := "HaulWages$Sight") (T := TT_I) (N := 3) (v := vI (M 8 i 2)) (fs_8 i) (by unfold isW; omega) (ce_8 i) rfl in_I (by omega) hl rfl (fun h _ => h.1 8 i 2) hd k
theorem pf_8_2 {i idx : Nat} {x : Int} (hd : decode mm.2.1 pc = .ok (.putfield idx, 3)) (hl : Cond.fieldLink mm.1.cls idx "HaulWages$Sight" "wages" "I" ∈ gw) (k : ∀ M' : JM, M' = pt M 8 i 2 x → JG E mm Q (pc + 3) L st M') : JG E mm Q pc L (vI x :: vR 8 i :: st) M :=
  j_putI (t := 8) (i := i) (ci := 3) (k := 2) (C := "HaulWages$Sight") (T := TT_I) (N := 3) (ty := .int) (fs_8 i) ty_I tyk_I nm_I (by unfold isW; omega) (by omega) (ce_8 i) (fun _ _ _ => rfl) (fun _ _ _ => Nat.le_of_ble_eq_true rfl) rfl in_I (by omega) rfl (by decide +kernel) rfl rfl hl hd k
abbrev fs_9 (i : Nat) : (Nat → ClassId) → (Nat → Nat → Nat) → (Nat → Int) → List Value := fun ca ad m => [.ref (ad 10 0), .int (i32 (m 1)), .int (i32 (m 2)), .int (i32 (m 3)), .int (i32 (m 4)), .int (i32 (m 5)), .int (i32 (m 6)), .int (i32 (m 7)), .int (i32 (m 8))]
theorem ce_9 (i : Nat) : ∀ ca ad m, cellF ca ad 9 i m = .inr (4, fs_9 i ca ad m) := fun _ _ _ => rfl
theorem gf_9_0 {i idx : Nat} (hd : decode mm.2.1 pc = .ok (.getfield idx, 3)) (hl : Cond.fieldLink mm.1.cls idx "HaulWages$Tape" "bytes" "[I" ∈ gw) (k : JG E mm Q (pc + 3) L (vR 10 0 :: st) M) : JG E mm Q pc L (vR 9 i :: st) M :=
  j_get (t := 9) (i := i) (ci := 4) (k := 0) (C := "HaulWages$Tape") (T := TT_P) (N := 9) (v := vR 10 0) (fs_9 i) (by unfold isW; omega) (ce_9 i) rfl in_P (by omega) hl rfl (fun _ _ => by show _ < cnt _; decide) hd k
theorem gf_9_1 {i idx : Nat} (hd : decode mm.2.1 pc = .ok (.getfield idx, 3)) (hl : Cond.fieldLink mm.1.cls idx "HaulWages$Tape" "length" "I" ∈ gw) (k : JG E mm Q (pc + 3) L (vI (M 9 i 1) :: st) M) : JG E mm Q pc L (vR 9 i :: st) M :=
  j_get (t := 9) (i := i) (ci := 4) (k := 1) (C := "HaulWages$Tape") (T := TT_P) (N := 9) (v := vI (M 9 i 1)) (fs_9 i) (by unfold isW; omega) (ce_9 i) rfl in_P (by omega) hl rfl (fun h _ => h.1 9 i 1) hd k
theorem pf_9_1 {i idx : Nat} {x : Int} (hd : decode mm.2.1 pc = .ok (.putfield idx, 3)) (hl : Cond.fieldLink mm.1.cls idx "HaulWages$Tape" "length" "I" ∈ gw) (k : ∀ M' : JM, M' = pt M 9 i 1 x → JG E mm Q (pc + 3) L st M') : JG E mm Q pc L (vI x :: vR 9 i :: st) M :=
  j_putI (t := 9) (i := i) (ci := 4) (k := 1) (C := "HaulWages$Tape") (T := TT_P) (N := 9) (ty := .int) (fs_9 i) ty_P tyk_P nm_P (by unfold isW; omega) (by omega) (ce_9 i) (fun _ _ _ => rfl) (fun _ _ _ => Nat.le_of_ble_eq_true rfl) rfl in_P (by omega) rfl (by decide +kernel) rfl rfl hl hd k
theorem gf_9_2 {i idx : Nat} (hd : decode mm.2.1 pc = .ok (.getfield idx, 3)) (hl : Cond.fieldLink mm.1.cls idx "HaulWages$Tape" "place" "I" ∈ gw) (k : JG E mm Q (pc + 3) L (vI (M 9 i 2) :: st) M) : JG E mm Q pc L (vR 9 i :: st) M :=
  j_get (t := 9) (i := i) (ci := 4) (k := 2) (C := "HaulWages$Tape") (T := TT_P) (N := 9) (v := vI (M 9 i 2)) (fs_9 i) (by unfold isW; omega) (ce_9 i) rfl in_P (by omega) hl rfl (fun h _ => h.1 9 i 2) hd k
theorem pf_9_2 {i idx : Nat} {x : Int} (hd : decode mm.2.1 pc = .ok (.putfield idx, 3)) (hl : Cond.fieldLink mm.1.cls idx "HaulWages$Tape" "place" "I" ∈ gw) (k : ∀ M' : JM, M' = pt M 9 i 2 x → JG E mm Q (pc + 3) L st M') : JG E mm Q pc L (vI x :: vR 9 i :: st) M :=
  j_putI (t := 9) (i := i) (ci := 4) (k := 2) (C := "HaulWages$Tape") (T := TT_P) (N := 9) (ty := .int) (fs_9 i) ty_P tyk_P nm_P (by unfold isW; omega) (by omega) (ce_9 i) (fun _ _ _ => rfl) (fun _ _ _ => Nat.le_of_ble_eq_true rfl) rfl in_P (by omega) rfl (by decide +kernel) rfl rfl hl hd k
theorem gf_9_3 {i idx : Nat} (hd : decode mm.2.1 pc = .ok (.getfield idx, 3)) (hl : Cond.fieldLink mm.1.cls idx "HaulWages$Tape" "token" "I" ∈ gw) (k : JG E mm Q (pc + 3) L (vI (M 9 i 3) :: st) M) : JG E mm Q pc L (vR 9 i :: st) M :=
  j_get (t := 9) (i := i) (ci := 4) (k := 3) (C := "HaulWages$Tape") (T := TT_P) (N := 9) (v := vI (M 9 i 3)) (fs_9 i) (by unfold isW; omega) (ce_9 i) rfl in_P (by omega) hl rfl (fun h _ => h.1 9 i 3) hd k
theorem pf_9_3 {i idx : Nat} {x : Int} (hd : decode mm.2.1 pc = .ok (.putfield idx, 3)) (hl : Cond.fieldLink mm.1.cls idx "HaulWages$Tape" "token" "I" ∈ gw) (k : ∀ M' : JM, M' = pt M 9 i 3 x → JG E mm Q (pc + 3) L st M') : JG E mm Q pc L (vI x :: vR 9 i :: st) M :=
  j_putI (t := 9) (i := i) (ci := 4) (k := 3) (C := "HaulWages$Tape") (T := TT_P) (N := 9) (ty := .int) (fs_9 i) ty_P tyk_P nm_P (by unfold isW; omega) (by omega) (ce_9 i) (fun _ _ _ => rfl) (fun _ _ _ => Nat.le_of_ble_eq_true rfl) rfl in_P (by omega) rfl (by decide +kernel) rfl rfl hl hd k
theorem gf_9_4 {i idx : Nat} (hd : decode mm.2.1 pc = .ok (.getfield idx, 3)) (hl : Cond.fieldLink mm.1.cls idx "HaulWages$Tape" "start" "I" ∈ gw) (k : JG E mm Q (pc + 3) L (vI (M 9 i 4) :: st) M) : JG E mm Q pc L (vR 9 i :: st) M :=
  j_get (t := 9) (i := i) (ci := 4) (k := 4) (C := "HaulWages$Tape") (T := TT_P) (N := 9) (v := vI (M 9 i 4)) (fs_9 i) (by unfold isW; omega) (ce_9 i) rfl in_P (by omega) hl rfl (fun h _ => h.1 9 i 4) hd k
theorem pf_9_4 {i idx : Nat} {x : Int} (hd : decode mm.2.1 pc = .ok (.putfield idx, 3)) (hl : Cond.fieldLink mm.1.cls idx "HaulWages$Tape" "start" "I" ∈ gw) (k : ∀ M' : JM, M' = pt M 9 i 4 x → JG E mm Q (pc + 3) L st M') : JG E mm Q pc L (vI x :: vR 9 i :: st) M :=
  j_putI (t := 9) (i := i) (ci := 4) (k := 4) (C := "HaulWages$Tape") (T := TT_P) (N := 9) (ty := .int) (fs_9 i) ty_P tyk_P nm_P (by unfold isW; omega) (by omega) (ce_9 i) (fun _ _ _ => rfl) (fun _ _ _ => Nat.le_of_ble_eq_true rfl) rfl in_P (by omega) rfl (by decide +kernel) rfl rfl hl hd k
theorem gf_9_5 {i idx : Nat} (hd : decode mm.2.1 pc = .ok (.getfield idx, 3)) (hl : Cond.fieldLink mm.1.cls idx "HaulWages$Tape" "hooterTold" "Z" ∈ gw) (k : JG E mm Q (pc + 3) L (vI (M 9 i 5) :: st) M) : JG E mm Q pc L (vR 9 i :: st) M :=
  j_get (t := 9) (i := i) (ci := 4) (k := 5) (C := "HaulWages$Tape") (T := TT_P) (N := 9) (v := vI (M 9 i 5)) (fs_9 i) (by unfold isW; omega) (ce_9 i) rfl in_P (by omega) hl rfl (fun h _ => h.1 9 i 5) hd k
theorem pf_9_5 {i idx : Nat} {x : Int} (hd : decode mm.2.1 pc = .ok (.putfield idx, 3)) (hl : Cond.fieldLink mm.1.cls idx "HaulWages$Tape" "hooterTold" "Z" ∈ gw) (h01 : x = 0 ∨ x = 1) (k : ∀ M' : JM, M' = pt M 9 i 5 x → JG E mm Q (pc + 3) L st M') : JG E mm Q pc L (vI x :: vR 9 i :: st) M :=
  j_putI (t := 9) (i := i) (ci := 4) (k := 5) (C := "HaulWages$Tape") (T := TT_P) (N := 9) (ty := .boolean) (fs_9 i) ty_P tyk_P nm_P (by unfold isW; omega) (by omega) (ce_9 i) (fun _ _ _ => rfl) (fun _ _ _ => Nat.le_of_ble_eq_true rfl) rfl in_P (by omega) rfl (by decide +kernel) (nar01 h01) (fit01 h01) hl hd k
theorem gf_9_6 {i idx : Nat} (hd : decode mm.2.1 pc = .ok (.getfield idx, 3)) (hl : Cond.fieldLink mm.1.cls idx "HaulWages$Tape" "bringsTold" "Z" ∈ gw) (k : JG E mm Q (pc + 3) L (vI (M 9 i 6) :: st) M) : JG E mm Q pc L (vR 9 i :: st) M :=
  j_get (t := 9) (i := i) (ci := 4) (k := 6) (C := "HaulWages$Tape") (T := TT_P) (N := 9) (v := vI (M 9 i 6)) (fs_9 i) (by unfold isW; omega) (ce_9 i) rfl in_P (by omega) hl rfl (fun h _ => h.1 9 i 6) hd k
theorem pf_9_6 {i idx : Nat} {x : Int} (hd : decode mm.2.1 pc = .ok (.putfield idx, 3)) (hl : Cond.fieldLink mm.1.cls idx "HaulWages$Tape" "bringsTold" "Z" ∈ gw) (h01 : x = 0 ∨ x = 1) (k : ∀ M' : JM, M' = pt M 9 i 6 x → JG E mm Q (pc + 3) L st M') : JG E mm Q pc L (vI x :: vR 9 i :: st) M :=
  j_putI (t := 9) (i := i) (ci := 4) (k := 6) (C := "HaulWages$Tape") (T := TT_P) (N := 9) (ty := .boolean) (fs_9 i) ty_P tyk_P nm_P (by unfold isW; omega) (by omega) (ce_9 i) (fun _ _ _ => rfl) (fun _ _ _ => Nat.le_of_ble_eq_true rfl) rfl in_P (by omega) rfl (by decide +kernel) (nar01 h01) (fit01 h01) hl hd k
theorem gf_9_7 {i idx : Nat} (hd : decode mm.2.1 pc = .ok (.getfield idx, 3)) (hl : Cond.fieldLink mm.1.cls idx "HaulWages$Tape" "fault" "I" ∈ gw) (k : JG E mm Q (pc + 3) L (vI (M 9 i 7) :: st) M) : JG E mm Q pc L (vR 9 i :: st) M :=
  j_get (t := 9) (i := i) (ci := 4) (k := 7) (C := "HaulWages$Tape") (T := TT_P) (N := 9) (v := vI (M 9 i 7)) (fs_9 i) (by unfold isW; omega) (ce_9 i) rfl in_P (by omega) hl rfl (fun h _ => h.1 9 i 7) hd k
theorem pf_9_7 {i idx : Nat} {x : Int} (hd : decode mm.2.1 pc = .ok (.putfield idx, 3)) (hl : Cond.fieldLink mm.1.cls idx "HaulWages$Tape" "fault" "I" ∈ gw) (k : ∀ M' : JM, M' = pt M 9 i 7 x → JG E mm Q (pc + 3) L st M') : JG E mm Q pc L (vI x :: vR 9 i :: st) M :=
  j_putI (t := 9) (i := i) (ci := 4) (k := 7) (C := "HaulWages$Tape") (T := TT_P) (N := 9) (ty := .int) (fs_9 i) ty_P tyk_P nm_P (by unfold isW; omega) (by omega) (ce_9 i) (fun _ _ _ => rfl) (fun _ _ _ => Nat.le_of_ble_eq_true rfl) rfl in_P (by omega) rfl (by decide +kernel) rfl rfl hl hd k
theorem gf_9_8 {i idx : Nat} (hd : decode mm.2.1 pc = .ok (.getfield idx, 3)) (hl : Cond.fieldLink mm.1.cls idx "HaulWages$Tape" "faultPlace" "I" ∈ gw) (k : JG E mm Q (pc + 3) L (vI (M 9 i 8) :: st) M) : JG E mm Q pc L (vR 9 i :: st) M :=
  j_get (t := 9) (i := i) (ci := 4) (k := 8) (C := "HaulWages$Tape") (T := TT_P) (N := 9) (v := vI (M 9 i 8)) (fs_9 i) (by unfold isW; omega) (ce_9 i) rfl in_P (by omega) hl rfl (fun h _ => h.1 9 i 8) hd k
theorem pf_9_8 {i idx : Nat} {x : Int} (hd : decode mm.2.1 pc = .ok (.putfield idx, 3)) (hl : Cond.fieldLink mm.1.cls idx "HaulWages$Tape" "faultPlace" "I" ∈ gw) (k : ∀ M' : JM, M' = pt M 9 i 8 x → JG E mm Q (pc + 3) L st M') : JG E mm Q pc L (vI x :: vR 9 i :: st) M :=
  j_putI (t := 9) (i := i) (ci := 4) (k := 8) (C := "HaulWages$Tape") (T := TT_P) (N := 9) (ty := .int) (fs_9 i) ty_P tyk_P nm_P (by unfold isW; omega) (by omega) (ce_9 i) (fun _ _ _ => rfl) (fun _ _ _ => Nat.le_of_ble_eq_true rfl) rfl in_P (by omega) rfl (by decide +kernel) rfl rfl hl hd k
abbrev fs_20 (i : Nat) : (Nat → ClassId) → (Nat → Nat → Nat) → (Nat → Int) → List Value := fun ca ad m => [.ref (ad 21 0), .int (i32 (m 1)), .ref (ad 22 0), .int (i32 (m 3)), .int (i32 (m 4)), .ref (ad 23 0), .int (i32 (m 6)), .int (i32 (m 7)), .int (i32 (m 8)), .int (i32 (m 9)), .int (i32 (m 10)), .int (i32 (m 11)), .int (i32 (m 12)), .int (i32 (m 13)), .ref (ad 24 0), .ref (ad 25 0), .ref (ad 26 0), .ref (ad 27 0), .int (i32 (m 18)), .int (i32 (m 19)), .int (i32 (m 20)), .ref (ad 28 0), .int (i32 (m 22)), .ref (ad 29 0), .ref (ad 30 0), .ref (ad 31 0), .ref (ad 32 0), .ref (ad 33 0), .int (i32 (m 28))]
theorem ce_20 (i : Nat) : ∀ ca ad m, cellF ca ad 20 i m = .inr (7, fs_20 i ca ad m) := fun _ _ _ => rfl
theorem gf_20_0 {i idx : Nat} (hd : decode mm.2.1 pc = .ok (.getfield idx, 3)) (hl : Cond.fieldLink mm.1.cls idx "HaulWagesModel" "state" "[I" ∈ gw) (k : JG E mm Q (pc + 3) L (vR 21 0 :: st) M) : JG E mm Q pc L (vR 20 i :: st) M :=
  j_get (t := 20) (i := i) (ci := 7) (k := 0) (C := "HaulWagesModel") (T := TT_M) (N := 29) (v := vR 21 0) (fs_20 i) (by unfold isW; omega) (ce_20 i) rfl in_M (by omega) hl rfl (fun _ _ => by show _ < cnt _; decide) hd k
theorem gf_20_1 {i idx : Nat} (hd : decode mm.2.1 pc = .ok (.getfield idx, 3)) (hl : Cond.fieldLink mm.1.cls idx "HaulWagesModel" "peopleMany" "I" ∈ gw) (k : JG E mm Q (pc + 3) L (vI (M 20 i 1) :: st) M) : JG E mm Q pc L (vR 20 i :: st) M :=
  j_get (t := 20) (i := i) (ci := 7) (k := 1) (C := "HaulWagesModel") (T := TT_M) (N := 29) (v := vI (M 20 i 1)) (fs_20 i) (by unfold isW; omega) (ce_20 i) rfl in_M (by omega) hl rfl (fun h _ => h.1 20 i 1) hd k
theorem pf_20_1 {i idx : Nat} {x : Int} (hd : decode mm.2.1 pc = .ok (.putfield idx, 3)) (hl : Cond.fieldLink mm.1.cls idx "HaulWagesModel" "peopleMany" "I" ∈ gw) (k : ∀ M' : JM, M' = pt M 20 i 1 x → JG E mm Q (pc + 3) L st M') : JG E mm Q pc L (vI x :: vR 20 i :: st) M :=
  j_putI (t := 20) (i := i) (ci := 7) (k := 1) (C := "HaulWagesModel") (T := TT_M) (N := 29) (ty := .int) (fs_20 i) ty_M tyk_M nm_M (by unfold isW; omega) (by omega) (ce_20 i) (fun _ _ _ => rfl) (fun _ _ _ => Nat.le_of_ble_eq_true rfl) rfl in_M (by omega) rfl (by decide +kernel) rfl rfl hl hd k
theorem gf_20_2 {i idx : Nat} (hd : decode mm.2.1 pc = .ok (.getfield idx, 3)) (hl : Cond.fieldLink mm.1.cls idx "HaulWagesModel" "readPage" "[I" ∈ gw) (k : JG E mm Q (pc + 3) L (vR 22 0 :: st) M) : JG E mm Q pc L (vR 20 i :: st) M :=
  j_get (t := 20) (i := i) (ci := 7) (k := 2) (C := "HaulWagesModel") (T := TT_M) (N := 29) (v := vR 22 0) (fs_20 i) (by unfold isW; omega) (ce_20 i) rfl in_M (by omega) hl rfl (fun _ _ => by show _ < cnt _; decide) hd k
theorem gf_20_3 {i idx : Nat} (hd : decode mm.2.1 pc = .ok (.getfield idx, 3)) (hl : Cond.fieldLink mm.1.cls idx "HaulWagesModel" "readPeople" "I" ∈ gw) (k : JG E mm Q (pc + 3) L (vI (M 20 i 3) :: st) M) : JG E mm Q pc L (vR 20 i :: st) M :=
  j_get (t := 20) (i := i) (ci := 7) (k := 3) (C := "HaulWagesModel") (T := TT_M) (N := 29) (v := vI (M 20 i 3)) (fs_20 i) (by unfold isW; omega) (ce_20 i) rfl in_M (by omega) hl rfl (fun h _ => h.1 20 i 3) hd k
theorem pf_20_3 {i idx : Nat} {x : Int} (hd : decode mm.2.1 pc = .ok (.putfield idx, 3)) (hl : Cond.fieldLink mm.1.cls idx "HaulWagesModel" "readPeople" "I" ∈ gw) (k : ∀ M' : JM, M' = pt M 20 i 3 x → JG E mm Q (pc + 3) L st M') : JG E mm Q pc L (vI x :: vR 20 i :: st) M :=
  j_putI (t := 20) (i := i) (ci := 7) (k := 3) (C := "HaulWagesModel") (T := TT_M) (N := 29) (ty := .int) (fs_20 i) ty_M tyk_M nm_M (by unfold isW; omega) (by omega) (ce_20 i) (fun _ _ _ => rfl) (fun _ _ _ => Nat.le_of_ble_eq_true rfl) rfl in_M (by omega) rfl (by decide +kernel) rfl rfl hl hd k
theorem gf_20_4 {i idx : Nat} (hd : decode mm.2.1 pc = .ok (.getfield idx, 3)) (hl : Cond.fieldLink mm.1.cls idx "HaulWagesModel" "toldOnce" "I" ∈ gw) (k : JG E mm Q (pc + 3) L (vI (M 20 i 4) :: st) M) : JG E mm Q pc L (vR 20 i :: st) M :=
  j_get (t := 20) (i := i) (ci := 7) (k := 4) (C := "HaulWagesModel") (T := TT_M) (N := 29) (v := vI (M 20 i 4)) (fs_20 i) (by unfold isW; omega) (ce_20 i) rfl in_M (by omega) hl rfl (fun h _ => h.1 20 i 4) hd k
theorem pf_20_4 {i idx : Nat} {x : Int} (hd : decode mm.2.1 pc = .ok (.putfield idx, 3)) (hl : Cond.fieldLink mm.1.cls idx "HaulWagesModel" "toldOnce" "I" ∈ gw) (k : ∀ M' : JM, M' = pt M 20 i 4 x → JG E mm Q (pc + 3) L st M') : JG E mm Q pc L (vI x :: vR 20 i :: st) M :=
  j_putI (t := 20) (i := i) (ci := 7) (k := 4) (C := "HaulWagesModel") (T := TT_M) (N := 29) (ty := .int) (fs_20 i) ty_M tyk_M nm_M (by unfold isW; omega) (by omega) (ce_20 i) (fun _ _ _ => rfl) (fun _ _ _ => Nat.le_of_ble_eq_true rfl) rfl in_M (by omega) rfl (by decide +kernel) rfl rfl hl hd k
theorem gf_20_5 {i idx : Nat} (hd : decode mm.2.1 pc = .ok (.getfield idx, 3)) (hl : Cond.fieldLink mm.1.cls idx "HaulWagesModel" "tape" "[I" ∈ gw) (k : JG E mm Q (pc + 3) L (vR 23 0 :: st) M) : JG E mm Q pc L (vR 20 i :: st) M :=
  j_get (t := 20) (i := i) (ci := 7) (k := 5) (C := "HaulWagesModel") (T := TT_M) (N := 29) (v := vR 23 0) (fs_20 i) (by unfold isW; omega) (ce_20 i) rfl in_M (by omega) hl rfl (fun _ _ => by show _ < cnt _; decide) hd k
theorem gf_20_6 {i idx : Nat} (hd : decode mm.2.1 pc = .ok (.getfield idx, 3)) (hl : Cond.fieldLink mm.1.cls idx "HaulWagesModel" "taped" "I" ∈ gw) (k : JG E mm Q (pc + 3) L (vI (M 20 i 6) :: st) M) : JG E mm Q pc L (vR 20 i :: st) M :=
  j_get (t := 20) (i := i) (ci := 7) (k := 6) (C := "HaulWagesModel") (T := TT_M) (N := 29) (v := vI (M 20 i 6)) (fs_20 i) (by unfold isW; omega) (ce_20 i) rfl in_M (by omega) hl rfl (fun h _ => h.1 20 i 6) hd k
theorem pf_20_6 {i idx : Nat} {x : Int} (hd : decode mm.2.1 pc = .ok (.putfield idx, 3)) (hl : Cond.fieldLink mm.1.cls idx "HaulWagesModel" "taped" "I" ∈ gw) (k : ∀ M' : JM, M' = pt M 20 i 6 x → JG E mm Q (pc + 3) L st M') : JG E mm Q pc L (vI x :: vR 20 i :: st) M :=
  j_putI (t := 20) (i := i) (ci := 7) (k := 6) (C := "HaulWagesModel") (T := TT_M) (N := 29) (ty := .int) (fs_20 i) ty_M tyk_M nm_M (by unfold isW; omega) (by omega) (ce_20 i) (fun _ _ _ => rfl) (fun _ _ _ => Nat.le_of_ble_eq_true rfl) rfl in_M (by omega) rfl (by decide +kernel) rfl rfl hl hd k
theorem gf_20_7 {i idx : Nat} (hd : decode mm.2.1 pc = .ok (.getfield idx, 3)) (hl : Cond.fieldLink mm.1.cls idx "HaulWagesModel" "fault" "I" ∈ gw) (k : JG E mm Q (pc + 3) L (vI (M 20 i 7) :: st) M) : JG E mm Q pc L (vR 20 i :: st) M :=
  j_get (t := 20) (i := i) (ci := 7) (k := 7) (C := "HaulWagesModel") (T := TT_M) (N := 29) (v := vI (M 20 i 7)) (fs_20 i) (by unfold isW; omega) (ce_20 i) rfl in_M (by omega) hl rfl (fun h _ => h.1 20 i 7) hd k
theorem pf_20_7 {i idx : Nat} {x : Int} (hd : decode mm.2.1 pc = .ok (.putfield idx, 3)) (hl : Cond.fieldLink mm.1.cls idx "HaulWagesModel" "fault" "I" ∈ gw) (k : ∀ M' : JM, M' = pt M 20 i 7 x → JG E mm Q (pc + 3) L st M') : JG E mm Q pc L (vI x :: vR 20 i :: st) M :=
  j_putI (t := 20) (i := i) (ci := 7) (k := 7) (C := "HaulWagesModel") (T := TT_M) (N := 29) (ty := .int) (fs_20 i) ty_M tyk_M nm_M (by unfold isW; omega) (by omega) (ce_20 i) (fun _ _ _ => rfl) (fun _ _ _ => Nat.le_of_ble_eq_true rfl) rfl in_M (by omega) rfl (by decide +kernel) rfl rfl hl hd k
theorem gf_20_8 {i idx : Nat} (hd : decode mm.2.1 pc = .ok (.getfield idx, 3)) (hl : Cond.fieldLink mm.1.cls idx "HaulWagesModel" "broken" "I" ∈ gw) (k : JG E mm Q (pc + 3) L (vI (M 20 i 8) :: st) M) : JG E mm Q pc L (vR 20 i :: st) M :=
  j_get (t := 20) (i := i) (ci := 7) (k := 8) (C := "HaulWagesModel") (T := TT_M) (N := 29) (v := vI (M 20 i 8)) (fs_20 i) (by unfold isW; omega) (ce_20 i) rfl in_M (by omega) hl rfl (fun h _ => h.1 20 i 8) hd k
theorem pf_20_8 {i idx : Nat} {x : Int} (hd : decode mm.2.1 pc = .ok (.putfield idx, 3)) (hl : Cond.fieldLink mm.1.cls idx "HaulWagesModel" "broken" "I" ∈ gw) (k : ∀ M' : JM, M' = pt M 20 i 8 x → JG E mm Q (pc + 3) L st M') : JG E mm Q pc L (vI x :: vR 20 i :: st) M :=
  j_putI (t := 20) (i := i) (ci := 7) (k := 8) (C := "HaulWagesModel") (T := TT_M) (N := 29) (ty := .int) (fs_20 i) ty_M tyk_M nm_M (by unfold isW; omega) (by omega) (ce_20 i) (fun _ _ _ => rfl) (fun _ _ _ => Nat.le_of_ble_eq_true rfl) rfl in_M (by omega) rfl (by decide +kernel) rfl rfl hl hd k
theorem gf_20_9 {i idx : Nat} (hd : decode mm.2.1 pc = .ok (.getfield idx, 3)) (hl : Cond.fieldLink mm.1.cls idx "HaulWagesModel" "brokenAt" "I" ∈ gw) (k : JG E mm Q (pc + 3) L (vI (M 20 i 9) :: st) M) : JG E mm Q pc L (vR 20 i :: st) M :=
  j_get (t := 20) (i := i) (ci := 7) (k := 9) (C := "HaulWagesModel") (T := TT_M) (N := 29) (v := vI (M 20 i 9)) (fs_20 i) (by unfold isW; omega) (ce_20 i) rfl in_M (by omega) hl rfl (fun h _ => h.1 20 i 9) hd k
theorem pf_20_9 {i idx : Nat} {x : Int} (hd : decode mm.2.1 pc = .ok (.putfield idx, 3)) (hl : Cond.fieldLink mm.1.cls idx "HaulWagesModel" "brokenAt" "I" ∈ gw) (k : ∀ M' : JM, M' = pt M 20 i 9 x → JG E mm Q (pc + 3) L st M') : JG E mm Q pc L (vI x :: vR 20 i :: st) M :=
  j_putI (t := 20) (i := i) (ci := 7) (k := 9) (C := "HaulWagesModel") (T := TT_M) (N := 29) (ty := .int) (fs_20 i) ty_M tyk_M nm_M (by unfold isW; omega) (by omega) (ce_20 i) (fun _ _ _ => rfl) (fun _ _ _ => Nat.le_of_ble_eq_true rfl) rfl in_M (by omega) rfl (by decide +kernel) rfl rfl hl hd k
theorem gf_20_10 {i idx : Nat} (hd : decode mm.2.1 pc = .ok (.getfield idx, 3)) (hl : Cond.fieldLink mm.1.cls idx "HaulWagesModel" "spot" "I" ∈ gw) (k : JG E mm Q (pc + 3) L (vI (M 20 i 10) :: st) M) : JG E mm Q pc L (vR 20 i :: st) M :=
  j_get (t := 20) (i := i) (ci := 7) (k := 10) (C := "HaulWagesModel") (T := TT_M) (N := 29) (v := vI (M 20 i 10)) (fs_20 i) (by unfold isW; omega) (ce_20 i) rfl in_M (by omega) hl rfl (fun h _ => h.1 20 i 10) hd k
theorem pf_20_10 {i idx : Nat} {x : Int} (hd : decode mm.2.1 pc = .ok (.putfield idx, 3)) (hl : Cond.fieldLink mm.1.cls idx "HaulWagesModel" "spot" "I" ∈ gw) (k : ∀ M' : JM, M' = pt M 20 i 10 x → JG E mm Q (pc + 3) L st M') : JG E mm Q pc L (vI x :: vR 20 i :: st) M :=
  j_putI (t := 20) (i := i) (ci := 7) (k := 10) (C := "HaulWagesModel") (T := TT_M) (N := 29) (ty := .int) (fs_20 i) ty_M tyk_M nm_M (by unfold isW; omega) (by omega) (ce_20 i) (fun _ _ _ => rfl) (fun _ _ _ => Nat.le_of_ble_eq_true rfl) rfl in_M (by omega) rfl (by decide +kernel) rfl rfl hl hd k
theorem gf_20_11 {i idx : Nat} (hd : decode mm.2.1 pc = .ok (.getfield idx, 3)) (hl : Cond.fieldLink mm.1.cls idx "HaulWagesModel" "here" "I" ∈ gw) (k : JG E mm Q (pc + 3) L (vI (M 20 i 11) :: st) M) : JG E mm Q pc L (vR 20 i :: st) M :=
  j_get (t := 20) (i := i) (ci := 7) (k := 11) (C := "HaulWagesModel") (T := TT_M) (N := 29) (v := vI (M 20 i 11)) (fs_20 i) (by unfold isW; omega) (ce_20 i) rfl in_M (by omega) hl rfl (fun h _ => h.1 20 i 11) hd k
theorem pf_20_11 {i idx : Nat} {x : Int} (hd : decode mm.2.1 pc = .ok (.putfield idx, 3)) (hl : Cond.fieldLink mm.1.cls idx "HaulWagesModel" "here" "I" ∈ gw) (k : ∀ M' : JM, M' = pt M 20 i 11 x → JG E mm Q (pc + 3) L st M') : JG E mm Q pc L (vI x :: vR 20 i :: st) M :=
  j_putI (t := 20) (i := i) (ci := 7) (k := 11) (C := "HaulWagesModel") (T := TT_M) (N := 29) (ty := .int) (fs_20 i) ty_M tyk_M nm_M (by unfold isW; omega) (by omega) (ce_20 i) (fun _ _ _ => rfl) (fun _ _ _ => Nat.le_of_ble_eq_true rfl) rfl in_M (by omega) rfl (by decide +kernel) rfl rfl hl hd k
theorem gf_20_12 {i idx : Nat} (hd : decode mm.2.1 pc = .ok (.getfield idx, 3)) (hl : Cond.fieldLink mm.1.cls idx "HaulWagesModel" "token" "I" ∈ gw) (k : JG E mm Q (pc + 3) L (vI (M 20 i 12) :: st) M) : JG E mm Q pc L (vR 20 i :: st) M :=
  j_get (t := 20) (i := i) (ci := 7) (k := 12) (C := "HaulWagesModel") (T := TT_M) (N := 29) (v := vI (M 20 i 12)) (fs_20 i) (by unfold isW; omega) (ce_20 i) rfl in_M (by omega) hl rfl (fun h _ => h.1 20 i 12) hd k
theorem pf_20_12 {i idx : Nat} {x : Int} (hd : decode mm.2.1 pc = .ok (.putfield idx, 3)) (hl : Cond.fieldLink mm.1.cls idx "HaulWagesModel" "token" "I" ∈ gw) (k : ∀ M' : JM, M' = pt M 20 i 12 x → JG E mm Q (pc + 3) L st M') : JG E mm Q pc L (vI x :: vR 20 i :: st) M :=
  j_putI (t := 20) (i := i) (ci := 7) (k := 12) (C := "HaulWagesModel") (T := TT_M) (N := 29) (ty := .int) (fs_20 i) ty_M tyk_M nm_M (by unfold isW; omega) (by omega) (ce_20 i) (fun _ _ _ => rfl) (fun _ _ _ => Nat.le_of_ble_eq_true rfl) rfl in_M (by omega) rfl (by decide +kernel) rfl rfl hl hd k
theorem gf_20_13 {i idx : Nat} (hd : decode mm.2.1 pc = .ok (.getfield idx, 3)) (hl : Cond.fieldLink mm.1.cls idx "HaulWagesModel" "value" "I" ∈ gw) (k : JG E mm Q (pc + 3) L (vI (M 20 i 13) :: st) M) : JG E mm Q pc L (vR 20 i :: st) M :=
  j_get (t := 20) (i := i) (ci := 7) (k := 13) (C := "HaulWagesModel") (T := TT_M) (N := 29) (v := vI (M 20 i 13)) (fs_20 i) (by unfold isW; omega) (ce_20 i) rfl in_M (by omega) hl rfl (fun h _ => h.1 20 i 13) hd k
theorem pf_20_13 {i idx : Nat} {x : Int} (hd : decode mm.2.1 pc = .ok (.putfield idx, 3)) (hl : Cond.fieldLink mm.1.cls idx "HaulWagesModel" "value" "I" ∈ gw) (k : ∀ M' : JM, M' = pt M 20 i 13 x → JG E mm Q (pc + 3) L st M') : JG E mm Q pc L (vI x :: vR 20 i :: st) M :=
  j_putI (t := 20) (i := i) (ci := 7) (k := 13) (C := "HaulWagesModel") (T := TT_M) (N := 29) (ty := .int) (fs_20 i) ty_M tyk_M nm_M (by unfold isW; omega) (by omega) (ce_20 i) (fun _ _ _ => rfl) (fun _ _ _ => Nat.le_of_ble_eq_true rfl) rfl in_M (by omega) rfl (by decide +kernel) rfl rfl hl hd k
theorem gf_20_14 {i idx : Nat} (hd : decode mm.2.1 pc = .ok (.getfield idx, 3)) (hl : Cond.fieldLink mm.1.cls idx "HaulWagesModel" "ends" "[I" ∈ gw) (k : JG E mm Q (pc + 3) L (vR 24 0 :: st) M) : JG E mm Q pc L (vR 20 i :: st) M :=
  j_get (t := 20) (i := i) (ci := 7) (k := 14) (C := "HaulWagesModel") (T := TT_M) (N := 29) (v := vR 24 0) (fs_20 i) (by unfold isW; omega) (ce_20 i) rfl in_M (by omega) hl rfl (fun _ _ => by show _ < cnt _; decide) hd k
theorem gf_20_15 {i idx : Nat} (hd : decode mm.2.1 pc = .ok (.getfield idx, 3)) (hl : Cond.fieldLink mm.1.cls idx "HaulWagesModel" "letters" "[I" ∈ gw) (k : JG E mm Q (pc + 3) L (vR 25 0 :: st) M) : JG E mm Q pc L (vR 20 i :: st) M :=
  j_get (t := 20) (i := i) (ci := 7) (k := 15) (C := "HaulWagesModel") (T := TT_M) (N := 29) (v := vR 25 0) (fs_20 i) (by unfold isW; omega) (ce_20 i) rfl in_M (by omega) hl rfl (fun _ _ => by show _ < cnt _; decide) hd k
theorem gf_20_16 {i idx : Nat} (hd : decode mm.2.1 pc = .ok (.getfield idx, 3)) (hl : Cond.fieldLink mm.1.cls idx "HaulWagesModel" "inArms" "[I" ∈ gw) (k : JG E mm Q (pc + 3) L (vR 26 0 :: st) M) : JG E mm Q pc L (vR 20 i :: st) M :=
  j_get (t := 20) (i := i) (ci := 7) (k := 16) (C := "HaulWagesModel") (T := TT_M) (N := 29) (v := vR 26 0) (fs_20 i) (by unfold isW; omega) (ce_20 i) rfl in_M (by omega) hl rfl (fun _ _ => by show _ < cnt _; decide) hd k
theorem gf_20_17 {i idx : Nat} (hd : decode mm.2.1 pc = .ok (.getfield idx, 3)) (hl : Cond.fieldLink mm.1.cls idx "HaulWagesModel" "hefts" "[I" ∈ gw) (k : JG E mm Q (pc + 3) L (vR 27 0 :: st) M) : JG E mm Q pc L (vR 20 i :: st) M :=
  j_get (t := 20) (i := i) (ci := 7) (k := 17) (C := "HaulWagesModel") (T := TT_M) (N := 29) (v := vR 27 0) (fs_20 i) (by unfold isW; omega) (ce_20 i) rfl in_M (by omega) hl rfl (fun _ _ => by show _ < cnt _; decide) hd k
theorem gf_20_18 {i idx : Nat} (hd : decode mm.2.1 pc = .ok (.getfield idx, 3)) (hl : Cond.fieldLink mm.1.cls idx "HaulWagesModel" "takenNow" "I" ∈ gw) (k : JG E mm Q (pc + 3) L (vI (M 20 i 18) :: st) M) : JG E mm Q pc L (vR 20 i :: st) M :=
  j_get (t := 20) (i := i) (ci := 7) (k := 18) (C := "HaulWagesModel") (T := TT_M) (N := 29) (v := vI (M 20 i 18)) (fs_20 i) (by unfold isW; omega) (ce_20 i) rfl in_M (by omega) hl rfl (fun h _ => h.1 20 i 18) hd k
theorem pf_20_18 {i idx : Nat} {x : Int} (hd : decode mm.2.1 pc = .ok (.putfield idx, 3)) (hl : Cond.fieldLink mm.1.cls idx "HaulWagesModel" "takenNow" "I" ∈ gw) (k : ∀ M' : JM, M' = pt M 20 i 18 x → JG E mm Q (pc + 3) L st M') : JG E mm Q pc L (vI x :: vR 20 i :: st) M :=
  j_putI (t := 20) (i := i) (ci := 7) (k := 18) (C := "HaulWagesModel") (T := TT_M) (N := 29) (ty := .int) (fs_20 i) ty_M tyk_M nm_M (by unfold isW; omega) (by omega) (ce_20 i) (fun _ _ _ => rfl) (fun _ _ _ => Nat.le_of_ble_eq_true rfl) rfl in_M (by omega) rfl (by decide +kernel) rfl rfl hl hd k
theorem gf_20_19 {i idx : Nat} (hd : decode mm.2.1 pc = .ok (.getfield idx, 3)) (hl : Cond.fieldLink mm.1.cls idx "HaulWagesModel" "bent" "I" ∈ gw) (k : JG E mm Q (pc + 3) L (vI (M 20 i 19) :: st) M) : JG E mm Q pc L (vR 20 i :: st) M :=
  j_get (t := 20) (i := i) (ci := 7) (k := 19) (C := "HaulWagesModel") (T := TT_M) (N := 29) (v := vI (M 20 i 19)) (fs_20 i) (by unfold isW; omega) (ce_20 i) rfl in_M (by omega) hl rfl (fun h _ => h.1 20 i 19) hd k
theorem pf_20_19 {i idx : Nat} {x : Int} (hd : decode mm.2.1 pc = .ok (.putfield idx, 3)) (hl : Cond.fieldLink mm.1.cls idx "HaulWagesModel" "bent" "I" ∈ gw) (k : ∀ M' : JM, M' = pt M 20 i 19 x → JG E mm Q (pc + 3) L st M') : JG E mm Q pc L (vI x :: vR 20 i :: st) M :=
  j_putI (t := 20) (i := i) (ci := 7) (k := 19) (C := "HaulWagesModel") (T := TT_M) (N := 29) (ty := .int) (fs_20 i) ty_M tyk_M nm_M (by unfold isW; omega) (by omega) (ce_20 i) (fun _ _ _ => rfl) (fun _ _ _ => Nat.le_of_ble_eq_true rfl) rfl in_M (by omega) rfl (by decide +kernel) rfl rfl hl hd k
theorem gf_20_20 {i idx : Nat} (hd : decode mm.2.1 pc = .ok (.getfield idx, 3)) (hl : Cond.fieldLink mm.1.cls idx "HaulWagesModel" "takings" "I" ∈ gw) (k : JG E mm Q (pc + 3) L (vI (M 20 i 20) :: st) M) : JG E mm Q pc L (vR 20 i :: st) M :=
  j_get (t := 20) (i := i) (ci := 7) (k := 20) (C := "HaulWagesModel") (T := TT_M) (N := 29) (v := vI (M 20 i 20)) (fs_20 i) (by unfold isW; omega) (ce_20 i) rfl in_M (by omega) hl rfl (fun h _ => h.1 20 i 20) hd k
theorem pf_20_20 {i idx : Nat} {x : Int} (hd : decode mm.2.1 pc = .ok (.putfield idx, 3)) (hl : Cond.fieldLink mm.1.cls idx "HaulWagesModel" "takings" "I" ∈ gw) (k : ∀ M' : JM, M' = pt M 20 i 20 x → JG E mm Q (pc + 3) L st M') : JG E mm Q pc L (vI x :: vR 20 i :: st) M :=
  j_putI (t := 20) (i := i) (ci := 7) (k := 20) (C := "HaulWagesModel") (T := TT_M) (N := 29) (ty := .int) (fs_20 i) ty_M tyk_M nm_M (by unfold isW; omega) (by omega) (ce_20 i) (fun _ _ _ => rfl) (fun _ _ _ => Nat.le_of_ble_eq_true rfl) rfl in_M (by omega) rfl (by decide +kernel) rfl rfl hl hd k
theorem gf_20_21 {i idx : Nat} (hd : decode mm.2.1 pc = .ok (.getfield idx, 3)) (hl : Cond.fieldLink mm.1.cls idx "HaulWagesModel" "seen" "[I" ∈ gw) (k : JG E mm Q (pc + 3) L (vR 28 0 :: st) M) : JG E mm Q pc L (vR 20 i :: st) M :=
  j_get (t := 20) (i := i) (ci := 7) (k := 21) (C := "HaulWagesModel") (T := TT_M) (N := 29) (v := vR 28 0) (fs_20 i) (by unfold isW; omega) (ce_20 i) rfl in_M (by omega) hl rfl (fun _ _ => by show _ < cnt _; decide) hd k
theorem gf_20_22 {i idx : Nat} (hd : decode mm.2.1 pc = .ok (.getfield idx, 3)) (hl : Cond.fieldLink mm.1.cls idx "HaulWagesModel" "seenMany" "I" ∈ gw) (k : JG E mm Q (pc + 3) L (vI (M 20 i 22) :: st) M) : JG E mm Q pc L (vR 20 i :: st) M :=
  j_get (t := 20) (i := i) (ci := 7) (k := 22) (C := "HaulWagesModel") (T := TT_M) (N := 29) (v := vI (M 20 i 22)) (fs_20 i) (by unfold isW; omega) (ce_20 i) rfl in_M (by omega) hl rfl (fun h _ => h.1 20 i 22) hd k
theorem pf_20_22 {i idx : Nat} {x : Int} (hd : decode mm.2.1 pc = .ok (.putfield idx, 3)) (hl : Cond.fieldLink mm.1.cls idx "HaulWagesModel" "seenMany" "I" ∈ gw) (k : ∀ M' : JM, M' = pt M 20 i 22 x → JG E mm Q (pc + 3) L st M') : JG E mm Q pc L (vI x :: vR 20 i :: st) M :=
  j_putI (t := 20) (i := i) (ci := 7) (k := 22) (C := "HaulWagesModel") (T := TT_M) (N := 29) (ty := .int) (fs_20 i) ty_M tyk_M nm_M (by unfold isW; omega) (by omega) (ce_20 i) (fun _ _ _ => rfl) (fun _ _ _ => Nat.le_of_ble_eq_true rfl) rfl in_M (by omega) rfl (by decide +kernel) rfl rfl hl hd k
theorem gf_20_23 {i idx : Nat} (hd : decode mm.2.1 pc = .ok (.getfield idx, 3)) (hl : Cond.fieldLink mm.1.cls idx "HaulWagesModel" "wagesBy" "[I" ∈ gw) (k : JG E mm Q (pc + 3) L (vR 29 0 :: st) M) : JG E mm Q pc L (vR 20 i :: st) M :=
  j_get (t := 20) (i := i) (ci := 7) (k := 23) (C := "HaulWagesModel") (T := TT_M) (N := 29) (v := vR 29 0) (fs_20 i) (by unfold isW; omega) (ce_20 i) rfl in_M (by omega) hl rfl (fun _ _ => by show _ < cnt _; decide) hd k
theorem gf_20_24 {i idx : Nat} (hd : decode mm.2.1 pc = .ok (.getfield idx, 3)) (hl : Cond.fieldLink mm.1.cls idx "HaulWagesModel" "isKept" "[Z" ∈ gw) (k : JG E mm Q (pc + 3) L (vR 30 0 :: st) M) : JG E mm Q pc L (vR 20 i :: st) M :=
  j_get (t := 20) (i := i) (ci := 7) (k := 24) (C := "HaulWagesModel") (T := TT_M) (N := 29) (v := vR 30 0) (fs_20 i) (by unfold isW; omega) (ce_20 i) rfl in_M (by omega) hl rfl (fun _ _ => by show _ < cnt _; decide) hd k
theorem gf_20_25 {i idx : Nat} (hd : decode mm.2.1 pc = .ok (.getfield idx, 3)) (hl : Cond.fieldLink mm.1.cls idx "HaulWagesModel" "lanes" "[I" ∈ gw) (k : JG E mm Q (pc + 3) L (vR 31 0 :: st) M) : JG E mm Q pc L (vR 20 i :: st) M :=
  j_get (t := 20) (i := i) (ci := 7) (k := 25) (C := "HaulWagesModel") (T := TT_M) (N := 29) (v := vR 31 0) (fs_20 i) (by unfold isW; omega) (ce_20 i) rfl in_M (by omega) hl rfl (fun _ _ => by show _ < cnt _; decide) hd k
theorem gf_20_26 {i idx : Nat} (hd : decode mm.2.1 pc = .ok (.getfield idx, 3)) (hl : Cond.fieldLink mm.1.cls idx "HaulWagesModel" "lengths" "[I" ∈ gw) (k : JG E mm Q (pc + 3) L (vR 32 0 :: st) M) : JG E mm Q pc L (vR 20 i :: st) M :=
  j_get (t := 20) (i := i) (ci := 7) (k := 26) (C := "HaulWagesModel") (T := TT_M) (N := 29) (v := vR 32 0) (fs_20 i) (by unfold isW; omega) (ce_20 i) rfl in_M (by omega) hl rfl (fun _ _ => by show _ < cnt _; decide) hd k
theorem gf_20_27 {i idx : Nat} (hd : decode mm.2.1 pc = .ok (.getfield idx, 3)) (hl : Cond.fieldLink mm.1.cls idx "HaulWagesModel" "cells" "[I" ∈ gw) (k : JG E mm Q (pc + 3) L (vR 33 0 :: st) M) : JG E mm Q pc L (vR 20 i :: st) M :=
  j_get (t := 20) (i := i) (ci := 7) (k := 27) (C := "HaulWagesModel") (T := TT_M) (N := 29) (v := vR 33 0) (fs_20 i) (by unfold isW; omega) (ce_20 i) rfl in_M (by omega) hl rfl (fun _ _ => by show _ < cnt _; decide) hd k
theorem gf_20_28 {i idx : Nat} (hd : decode mm.2.1 pc = .ok (.getfield idx, 3)) (hl : Cond.fieldLink mm.1.cls idx "HaulWagesModel" "torn" "I" ∈ gw) (k : JG E mm Q (pc + 3) L (vI (M 20 i 28) :: st) M) : JG E mm Q pc L (vR 20 i :: st) M :=
  j_get (t := 20) (i := i) (ci := 7) (k := 28) (C := "HaulWagesModel") (T := TT_M) (N := 29) (v := vI (M 20 i 28)) (fs_20 i) (by unfold isW; omega) (ce_20 i) rfl in_M (by omega) hl rfl (fun h _ => h.1 20 i 28) hd k
theorem pf_20_28 {i idx : Nat} {x : Int} (hd : decode mm.2.1 pc = .ok (.putfield idx, 3)) (hl : Cond.fieldLink mm.1.cls idx "HaulWagesModel" "torn" "I" ∈ gw) (k : ∀ M' : JM, M' = pt M 20 i 28 x → JG E mm Q (pc + 3) L st M') : JG E mm Q pc L (vI x :: vR 20 i :: st) M :=
  j_putI (t := 20) (i := i) (ci := 7) (k := 28) (C := "HaulWagesModel") (T := TT_M) (N := 29) (ty := .int) (fs_20 i) ty_M tyk_M nm_M (by unfold isW; omega) (by omega) (ce_20 i) (fun _ _ _ => rfl) (fun _ _ _ => Nat.le_of_ble_eq_true rfl) rfl in_M (by omega) rfl (by decide +kernel) rfl rfl hl hd k
theorem ld_7 {i : Nat} {x : Int} (hd : decode mm.2.1 pc = .ok (.iaload, 1)) (h : 0 ≤ x ∧ x < 40) (k : JG E mm Q (pc + 1) L (vI (M 7 i x.toNat) :: st) M) : JG E mm Q pc L (vI x :: vR 7 i :: st) M := j_iald (t := 7) (n := 40) (by unfold isW; omega) (fun _ _ _ => rfl) hd h.1 h.2 k
theorem st_7 {i : Nat} {x y : Int} (hd : decode mm.2.1 pc = .ok (.iastore, 1)) (h : 0 ≤ x ∧ x < 40) (k : ∀ M' : JM, M' = pt M 7 i x.toNat y → JG E mm Q (pc + 1) L st M') : JG E mm Q pc L (vI y :: vI x :: vR 7 i :: st) M := j_iast (t := 7) (n := 40) (by unfold isW; omega) (by omega) (fun _ _ _ => rfl) hd h.1 h.2 k
theorem ld_10 {i : Nat} {x : Int} (hd : decode mm.2.1 pc = .ok (.iaload, 1)) (h : 0 ≤ x ∧ x < 160) (k : JG E mm Q (pc + 1) L (vI (M 10 i x.toNat) :: st) M) : JG E mm Q pc L (vI x :: vR 10 i :: st) M := j_iald (t := 10) (n := 160) (by unfold isW; omega) (fun _ _ _ => rfl) hd h.1 h.2 k
theorem st_10 {i : Nat} {x y : Int} (hd : decode mm.2.1 pc = .ok (.iastore, 1)) (h : 0 ≤ x ∧ x < 160) (k : ∀ M' : JM, M' = pt M 10 i x.toNat y → JG E mm Q (pc + 1) L st M') : JG E mm Q pc L (vI y :: vI x :: vR 10 i :: st) M := j_iast (t := 10) (n := 160) (by unfold isW; omega) (by omega) (fun _ _ _ => rfl) hd h.1 h.2 k
theorem ld_16 {i : Nat} {x : Int} (hd : decode mm.2.1 pc = .ok (.iaload, 1)) (h : 0 ≤ x ∧ x < 84) (k : JG E mm Q (pc + 1) L (vI (M 16 i x.toNat) :: st) M) : JG E mm Q pc L (vI x :: vR 16 i :: st) M := j_iald (t := 16) (n := 84) (by unfold isW; omega) (fun _ _ _ => rfl) hd h.1 h.2 k
theorem st_16 {i : Nat} {x y : Int} (hd : decode mm.2.1 pc = .ok (.iastore, 1)) (h : 0 ≤ x ∧ x < 84) (k : ∀ M' : JM, M' = pt M 16 i x.toNat y → JG E mm Q (pc + 1) L st M') : JG E mm Q pc L (vI y :: vI x :: vR 16 i :: st) M := j_iast (t := 16) (n := 84) (by unfold isW; omega) (by omega) (fun _ _ _ => rfl) hd h.1 h.2 k
theorem ld_21 {i : Nat} {x : Int} (hd : decode mm.2.1 pc = .ok (.iaload, 1)) (h : 0 ≤ x ∧ x < 264) (k : JG E mm Q (pc + 1) L (vI (M 21 i x.toNat) :: st) M) : JG E mm Q pc L (vI x :: vR 21 i :: st) M := j_iald (t := 21) (n := 264) (by unfold isW; omega) (fun _ _ _ => rfl) hd h.1 h.2 k
theorem st_21 {i : Nat} {x y : Int} (hd : decode mm.2.1 pc = .ok (.iastore, 1)) (h : 0 ≤ x ∧ x < 264) (k : ∀ M' : JM, M' = pt M 21 i x.toNat y → JG E mm Q (pc + 1) L st M') : JG E mm Q pc L (vI y :: vI x :: vR 21 i :: st) M := j_iast (t := 21) (n := 264) (by unfold isW; omega) (by omega) (fun _ _ _ => rfl) hd h.1 h.2 k
theorem ld_22 {i : Nat} {x : Int} (hd : decode mm.2.1 pc = .ok (.iaload, 1)) (h : 0 ≤ x ∧ x < 44) (k : JG E mm Q (pc + 1) L (vI (M 22 i x.toNat) :: st) M) : JG E mm Q pc L (vI x :: vR 22 i :: st) M := j_iald (t := 22) (n := 44) (by unfold isW; omega) (fun _ _ _ => rfl) hd h.1 h.2 k
theorem st_22 {i : Nat} {x y : Int} (hd : decode mm.2.1 pc = .ok (.iastore, 1)) (h : 0 ≤ x ∧ x < 44) (k : ∀ M' : JM, M' = pt M 22 i x.toNat y → JG E mm Q (pc + 1) L st M') : JG E mm Q pc L (vI y :: vI x :: vR 22 i :: st) M := j_iast (t := 22) (n := 44) (by unfold isW; omega) (by omega) (fun _ _ _ => rfl) hd h.1 h.2 k
theorem ld_23 {i : Nat} {x : Int} (hd : decode mm.2.1 pc = .ok (.iaload, 1)) (h : 0 ≤ x ∧ x < 160) (k : JG E mm Q (pc + 1) L (vI (M 23 i x.toNat) :: st) M) : JG E mm Q pc L (vI x :: vR 23 i :: st) M := j_iald (t := 23) (n := 160) (by unfold isW; omega) (fun _ _ _ => rfl) hd h.1 h.2 k
theorem st_23 {i : Nat} {x y : Int} (hd : decode mm.2.1 pc = .ok (.iastore, 1)) (h : 0 ≤ x ∧ x < 160) (k : ∀ M' : JM, M' = pt M 23 i x.toNat y → JG E mm Q (pc + 1) L st M') : JG E mm Q pc L (vI y :: vI x :: vR 23 i :: st) M := j_iast (t := 23) (n := 160) (by unfold isW; omega) (by omega) (fun _ _ _ => rfl) hd h.1 h.2 k
theorem ld_24 {i : Nat} {x : Int} (hd : decode mm.2.1 pc = .ok (.iaload, 1)) (h : 0 ≤ x ∧ x < 8) (k : JG E mm Q (pc + 1) L (vI (M 24 i x.toNat) :: st) M) : JG E mm Q pc L (vI x :: vR 24 i :: st) M := j_iald (t := 24) (n := 8) (by unfold isW; omega) (fun _ _ _ => rfl) hd h.1 h.2 k
theorem st_24 {i : Nat} {x y : Int} (hd : decode mm.2.1 pc = .ok (.iastore, 1)) (h : 0 ≤ x ∧ x < 8) (k : ∀ M' : JM, M' = pt M 24 i x.toNat y → JG E mm Q (pc + 1) L st M') : JG E mm Q pc L (vI y :: vI x :: vR 24 i :: st) M := j_iast (t := 24) (n := 8) (by unfold isW; omega) (by omega) (fun _ _ _ => rfl) hd h.1 h.2 k
theorem ld_25 {i : Nat} {x : Int} (hd : decode mm.2.1 pc = .ok (.iaload, 1)) (h : 0 ≤ x ∧ x < 39) (k : JG E mm Q (pc + 1) L (vI (M 25 i x.toNat) :: st) M) : JG E mm Q pc L (vI x :: vR 25 i :: st) M := j_iald (t := 25) (n := 39) (by unfold isW; omega) (fun _ _ _ => rfl) hd h.1 h.2 k
theorem st_25 {i : Nat} {x y : Int} (hd : decode mm.2.1 pc = .ok (.iastore, 1)) (h : 0 ≤ x ∧ x < 39) (k : ∀ M' : JM, M' = pt M 25 i x.toNat y → JG E mm Q (pc + 1) L st M') : JG E mm Q pc L (vI y :: vI x :: vR 25 i :: st) M := j_iast (t := 25) (n := 39) (by unfold isW; omega) (by omega) (fun _ _ _ => rfl) hd h.1 h.2 k
theorem ld_26 {i : Nat} {x : Int} (hd : decode mm.2.1 pc = .ok (.iaload, 1)) (h : 0 ≤ x ∧ x < 4) (k : JG E mm Q (pc + 1) L (vI (M 26 i x.toNat) :: st) M) : JG E mm Q pc L (vI x :: vR 26 i :: st) M := j_iald (t := 26) (n := 4) (by unfold isW; omega) (fun _ _ _ => rfl) hd h.1 h.2 k
theorem st_26 {i : Nat} {x y : Int} (hd : decode mm.2.1 pc = .ok (.iastore, 1)) (h : 0 ≤ x ∧ x < 4) (k : ∀ M' : JM, M' = pt M 26 i x.toNat y → JG E mm Q (pc + 1) L st M') : JG E mm Q pc L (vI y :: vI x :: vR 26 i :: st) M := j_iast (t := 26) (n := 4) (by unfold isW; omega) (by omega) (fun _ _ _ => rfl) hd h.1 h.2 k
theorem ld_27 {i : Nat} {x : Int} (hd : decode mm.2.1 pc = .ok (.iaload, 1)) (h : 0 ≤ x ∧ x < 4) (k : JG E mm Q (pc + 1) L (vI (M 27 i x.toNat) :: st) M) : JG E mm Q pc L (vI x :: vR 27 i :: st) M := j_iald (t := 27) (n := 4) (by unfold isW; omega) (fun _ _ _ => rfl) hd h.1 h.2 k
theorem st_27 {i : Nat} {x y : Int} (hd : decode mm.2.1 pc = .ok (.iastore, 1)) (h : 0 ≤ x ∧ x < 4) (k : ∀ M' : JM, M' = pt M 27 i x.toNat y → JG E mm Q (pc + 1) L st M') : JG E mm Q pc L (vI y :: vI x :: vR 27 i :: st) M := j_iast (t := 27) (n := 4) (by unfold isW; omega) (by omega) (fun _ _ _ => rfl) hd h.1 h.2 k
theorem ld_28 {i : Nat} {x : Int} (hd : decode mm.2.1 pc = .ok (.iaload, 1)) (h : 0 ≤ x ∧ x < 18) (k : JG E mm Q (pc + 1) L (vI (M 28 i x.toNat) :: st) M) : JG E mm Q pc L (vI x :: vR 28 i :: st) M := j_iald (t := 28) (n := 18) (by unfold isW; omega) (fun _ _ _ => rfl) hd h.1 h.2 k
theorem st_28 {i : Nat} {x y : Int} (hd : decode mm.2.1 pc = .ok (.iastore, 1)) (h : 0 ≤ x ∧ x < 18) (k : ∀ M' : JM, M' = pt M 28 i x.toNat y → JG E mm Q (pc + 1) L st M') : JG E mm Q pc L (vI y :: vI x :: vR 28 i :: st) M := j_iast (t := 28) (n := 18) (by unfold isW; omega) (by omega) (fun _ _ _ => rfl) hd h.1 h.2 k
theorem ld_29 {i : Nat} {x : Int} (hd : decode mm.2.1 pc = .ok (.iaload, 1)) (h : 0 ≤ x ∧ x < 1764) (k : JG E mm Q (pc + 1) L (vI (M 29 i x.toNat) :: st) M) : JG E mm Q pc L (vI x :: vR 29 i :: st) M := j_iald (t := 29) (n := 1764) (by unfold isW; omega) (fun _ _ _ => rfl) hd h.1 h.2 k
theorem st_29 {i : Nat} {x y : Int} (hd : decode mm.2.1 pc = .ok (.iastore, 1)) (h : 0 ≤ x ∧ x < 1764) (k : ∀ M' : JM, M' = pt M 29 i x.toNat y → JG E mm Q (pc + 1) L st M') : JG E mm Q pc L (vI y :: vI x :: vR 29 i :: st) M := j_iast (t := 29) (n := 1764) (by unfold isW; omega) (by omega) (fun _ _ _ => rfl) hd h.1 h.2 k
theorem ld_31 {i : Nat} {x : Int} (hd : decode mm.2.1 pc = .ok (.iaload, 1)) (h : 0 ≤ x ∧ x < 4) (k : JG E mm Q (pc + 1) L (vI (M 31 i x.toNat) :: st) M) : JG E mm Q pc L (vI x :: vR 31 i :: st) M := j_iald (t := 31) (n := 4) (by unfold isW; omega) (fun _ _ _ => rfl) hd h.1 h.2 k
theorem st_31 {i : Nat} {x y : Int} (hd : decode mm.2.1 pc = .ok (.iastore, 1)) (h : 0 ≤ x ∧ x < 4) (k : ∀ M' : JM, M' = pt M 31 i x.toNat y → JG E mm Q (pc + 1) L st M') : JG E mm Q pc L (vI y :: vI x :: vR 31 i :: st) M := j_iast (t := 31) (n := 4) (by unfold isW; omega) (by omega) (fun _ _ _ => rfl) hd h.1 h.2 k
theorem ld_32 {i : Nat} {x : Int} (hd : decode mm.2.1 pc = .ok (.iaload, 1)) (h : 0 ≤ x ∧ x < 4) (k : JG E mm Q (pc + 1) L (vI (M 32 i x.toNat) :: st) M) : JG E mm Q pc L (vI x :: vR 32 i :: st) M := j_iald (t := 32) (n := 4) (by unfold isW; omega) (fun _ _ _ => rfl) hd h.1 h.2 k
theorem st_32 {i : Nat} {x y : Int} (hd : decode mm.2.1 pc = .ok (.iastore, 1)) (h : 0 ≤ x ∧ x < 4) (k : ∀ M' : JM, M' = pt M 32 i x.toNat y → JG E mm Q (pc + 1) L st M') : JG E mm Q pc L (vI y :: vI x :: vR 32 i :: st) M := j_iast (t := 32) (n := 4) (by unfold isW; omega) (by omega) (fun _ _ _ => rfl) hd h.1 h.2 k
theorem ld_33 {i : Nat} {x : Int} (hd : decode mm.2.1 pc = .ok (.iaload, 1)) (h : 0 ≤ x ∧ x < 160) (k : JG E mm Q (pc + 1) L (vI (M 33 i x.toNat) :: st) M) : JG E mm Q pc L (vI x :: vR 33 i :: st) M := j_iald (t := 33) (n := 160) (by unfold isW; omega) (fun _ _ _ => rfl) hd h.1 h.2 k
theorem st_33 {i : Nat} {x y : Int} (hd : decode mm.2.1 pc = .ok (.iastore, 1)) (h : 0 ≤ x ∧ x < 160) (k : ∀ M' : JM, M' = pt M 33 i x.toNat y → JG E mm Q (pc + 1) L st M') : JG E mm Q pc L (vI y :: vI x :: vR 33 i :: st) M := j_iast (t := 33) (n := 160) (by unfold isW; omega) (by omega) (fun _ _ _ => rfl) hd h.1 h.2 k
theorem ld_12 {i : Nat} {x : Int} (hd : decode mm.2.1 pc = .ok (.baload, 1)) (h : 0 ≤ x ∧ x < 2) (k : JG E mm Q (pc + 1) L (vI (M 12 i x.toNat) :: st) M) : JG E mm Q pc L (vI x :: vR 12 i :: st) M := j_zald (t := 12) (n := 2) (by unfold isW; omega) (fun _ _ _ => rfl) hd h.1 h.2 k
theorem st_12 {i : Nat} {x y : Int} (hd : decode mm.2.1 pc = .ok (.bastore, 1)) (h : 0 ≤ x ∧ x < 2) (h01 : y = 0 ∨ y = 1) (k : ∀ M' : JM, M' = pt M 12 i x.toNat y → JG E mm Q (pc + 1) L st M') : JG E mm Q pc L (vI y :: vI x :: vR 12 i :: st) M := j_zast (t := 12) (n := 2) (by unfold isW; omega) (by omega) (fun _ _ _ => rfl) hd h.1 h.2 h01 k
theorem ld_30 {i : Nat} {x : Int} (hd : decode mm.2.1 pc = .ok (.baload, 1)) (h : 0 ≤ x ∧ x < 2) (k : JG E mm Q (pc + 1) L (vI (M 30 i x.toNat) :: st) M) : JG E mm Q pc L (vI x :: vR 30 i :: st) M := j_zald (t := 30) (n := 2) (by unfold isW; omega) (fun _ _ _ => rfl) hd h.1 h.2 k
theorem st_30 {i : Nat} {x y : Int} (hd : decode mm.2.1 pc = .ok (.bastore, 1)) (h : 0 ≤ x ∧ x < 2) (h01 : y = 0 ∨ y = 1) (k : ∀ M' : JM, M' = pt M 30 i x.toNat y → JG E mm Q (pc + 1) L st M') : JG E mm Q pc L (vI y :: vI x :: vR 30 i :: st) M := j_zast (t := 30) (n := 2) (by unfold isW; omega) (by omega) (fun _ _ _ => rfl) hd h.1 h.2 h01 k
theorem ld_4 {i : Nat} {x : Int} (hd : decode mm.2.1 pc = .ok (.aaload, 1)) (h : 0 ≤ x ∧ x < 8) (k : JG E mm Q (pc + 1) L (vR 1 (8 * i + x.toNat) :: st) M) : JG E mm Q pc L (vI x :: vR 4 i :: st) M := j_aald (t := 4) (i := i) (n := 8) (t2 := 1) (c0 := 2) (ty := .object "HaulWages$Good") (fun m j => (8 * i + j)) (by unfold isW; omega) rfl (fun _ _ _ => rfl) (fun _ => rfl) hd h.1 h.2 (fun _ hi => by have hi : i < 5 := hi; show _ < 40; omega) k
theorem ld_5 {i : Nat} {x : Int} (hd : decode mm.2.1 pc = .ok (.aaload, 1)) (h : 0 ≤ x ∧ x < 4) (k : JG E mm Q (pc + 1) L (vR 2 (4 * i + (M 5 i x.toNat).toNat) :: st) M) : JG E mm Q pc L (vI x :: vR 5 i :: st) M := j_aald (t := 5) (i := i) (n := 4) (t2 := 2) (c0 := 3) (ty := .object "HaulWages$One") (fun m j => (4 * i + (m j).toNat)) (by unfold isW; omega) rfl (fun _ _ _ => rfl) (fun _ => rfl) hd h.1 h.2 (fun hm hi => by have hi : i < 5 := hi; have h9 := hm.2 i x.toNat; show _ < 20; omega) k
theorem ld_11 {i : Nat} {x : Int} (hd : decode mm.2.1 pc = .ok (.aaload, 1)) (h : 0 ≤ x ∧ x < 2) (k : JG E mm Q (pc + 1) L (vR 3 (3 + x.toNat) :: st) M) : JG E mm Q pc L (vI x :: vR 11 i :: st) M := j_aald (t := 11) (i := i) (n := 2) (t2 := 3) (c0 := 4) (ty := .object "HaulWages$Town") (fun m j => (3 + j)) (by unfold isW; omega) rfl (fun _ _ _ => rfl) (fun _ => rfl) hd h.1 h.2 (fun _ _ => by show _ < 5; omega) k
theorem ld_13 {i : Nat} {x : Int} (hd : decode mm.2.1 pc = .ok (.aaload, 1)) (h : 0 ≤ x ∧ x < 4) (k : JG E mm Q (pc + 1) L (vR 6 (x.toNat) :: st) M) : JG E mm Q pc L (vI x :: vR 13 i :: st) M := j_aald (t := 13) (i := i) (n := 4) (t2 := 6) (c0 := 5) (ty := .object "HaulWages$Sheet") (fun m j => j) (by unfold isW; omega) rfl (fun _ _ _ => rfl) (fun _ => rfl) hd h.1 h.2 (fun _ _ => by show _ < 4; omega) k
theorem ld_14 {i : Nat} {x : Int} (hd : decode mm.2.1 pc = .ok (.aaload, 1)) (h : 0 ≤ x ∧ x < 6) (k : JG E mm Q (pc + 1) L (vR 8 (x.toNat) :: st) M) : JG E mm Q pc L (vI x :: vR 14 i :: st) M := j_aald (t := 14) (i := i) (n := 6) (t2 := 8) (c0 := 6) (ty := .object "HaulWages$Sight") (fun m j => j) (by unfold isW; omega) rfl (fun _ _ _ => rfl) (fun _ => rfl) hd h.1 h.2 (fun _ _ => by show _ < 6; omega) k
theorem ld_15 {i : Nat} {x : Int} (hd : decode mm.2.1 pc = .ok (.aaload, 1)) (h : 0 ≤ x ∧ x < 21) (k : JG E mm Q (pc + 1) L (vR 16 (x.toNat) :: st) M) : JG E mm Q pc L (vI x :: vR 15 i :: st) M := j_aald (t := 15) (i := i) (n := 21) (t2 := 16) (c0 := 7) (ty := .array .int) (fun m j => j) (by unfold isW; omega) rfl (fun _ _ _ => rfl) (fun _ => rfl) hd h.1 h.2 (fun _ _ => by show _ < 21; omega) k
end

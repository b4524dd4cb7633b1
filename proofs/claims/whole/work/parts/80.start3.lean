/-! what the Statement gives of the start -/
theorem tbl_at {s : State} {A : Array Value} {w : Cond} (hts : ∀ w ∈ lw_tbl, w.before A s = true) (i : Nat) (h : lw_tbl[i]? = some w) : w.before A s = true := hts w (List.mem_of_getElem? h)
theorem arr_cls {s : State} {A : Array Value} {ty : FieldType} (h : (Cond.arrayClass ty).before A s = true) : ∃ cA : ClassId, ArrOfT s cA ty ∧ s.vm.findClass (FieldType.array ty).toString = some cA := by
  obtain ⟨cA, kC, cc, h1, h2, h3⟩ := Cond.arrayClass_spec h
  exact ⟨cA, fun N z => ⟨(fun k h => by cases h), kC, h2, cc, h3⟩, h1⟩
theorem arr_obj {s : State} {A : Array Value} {C : String} (h : (Cond.arrayOver (.object C)).before A s = true) : ∃ cA : ClassId, ArrOfT s cA (.object C) ∧ va_RA s cA (.object C) := by
  obtain ⟨comp, cA, kA, h1, h2, h3, h4, h5⟩ := Cond.arrayOver_spec h
  exact ⟨cA, fun N z => ⟨(fun k h => by cases h), kA, h3, comp, h4⟩, kA, comp, h3, h4, h1, h5⟩
theorem st_tables {s : State} {A : Array Value} (hts : ∀ w ∈ lw_tbl, w.before A s = true) : ∃ (D : va_G) (ca : Nat → ClassId), nK D ca s := by
  have hg : ∀ w ∈ gw, w.before A s = true := fun w hw => hts w (gw_good w hw).1
  obtain ⟨c0, i0, k0⟩ := u_known (C := "HaulWages$Good") (T := TT_G) (N := 6) (n := 6) hg in_G (hg _ wo_95)
  obtain ⟨c1, i1, k1⟩ := u_known (C := "HaulWages$One") (T := TT_O) (N := 5) (n := 5) hg in_O (hg _ wo_129)
  obtain ⟨c2, i2, k2⟩ := u_known (C := "HaulWages$Sheet") (T := TT_S) (N := 3) (n := 3) hg in_S (hg _ wo_251)
  obtain ⟨c3, i3, k3⟩ := u_known (C := "HaulWages$Sight") (T := TT_I) (N := 3) (n := 3) hg in_I (hg _ wo_269)
  obtain ⟨c4, i4, k4⟩ := u_known (C := "HaulWages$Tape") (T := TT_P) (N := 9) (n := 9) hg in_P (hg _ wo_206)
  obtain ⟨c5, i5, k5⟩ := u_known (C := "HaulWages$Town") (T := TT_T) (N := 10) (n := 10) hg in_T (hg _ wo_86)
  obtain ⟨c6, i6, k6⟩ := u_known (C := "HaulWages") (T := TT_H) (N := 12) (n := 12) hg in_H (hg _ wo_78)
  obtain ⟨c7, i7, k7⟩ := u_known (C := "HaulWagesModel") (T := TT_M) (N := 29) (n := 29) hg in_M (hg _ wo_843)
  obtain ⟨a0, x0, y0⟩ := arr_cls (hg _ wo_244)
  obtain ⟨a1, x1, y1⟩ := arr_cls (hg _ wo_243)
  obtain ⟨a2, x2, y2⟩ := arr_obj (tbl_at hts 92 (w := .arrayOver (.object "HaulWages$Good")) (by decide +kernel))
  obtain ⟨a3, x3, y3⟩ := arr_obj (tbl_at hts 94 (w := .arrayOver (.object "HaulWages$One")) (by decide +kernel))
  obtain ⟨a4, x4, y4⟩ := arr_obj (tbl_at hts 204 (w := .arrayOver (.object "HaulWages$Town")) (by decide +kernel))
  obtain ⟨a5, x5, y5⟩ := arr_obj (tbl_at hts 246 (w := .arrayOver (.object "HaulWages$Sheet")) (by decide +kernel))
  obtain ⟨a6, x6, y6⟩ := arr_obj (tbl_at hts 248 (w := .arrayOver (.object "HaulWages$Sight")) (by decide +kernel))
  obtain ⟨comp, a7, kA, h1, h2, h3, h4, h5⟩ := arrayOverA_spec (tbl_at hts 250 (w := .arrayOver (.array .int)) (by decide +kernel))
  have hcomp : comp = a0 := Option.some.inj (h1.symm.trans y0)
  subst hcomp
  refine ⟨(fun k => match k with | 0 => c0 | 1 => c1 | 2 => c2 | 3 => c3 | 4 => c4 | 5 => c5 | 6 => c6 | _ => c7, fun k => match k with | 0 => i0 | 1 => i1 | 2 => i2 | 3 => i3 | 4 => i4 | 5 => i5 | 6 => i6 | _ => i7), fun k => match k with | 0 => comp | 1 => a1 | 2 => a2 | 3 => a3 | 4 => a4 | 5 => a5 | 6 => a6 | _ => a7, ⟨fun k q hq => ?_, fun k q hq => ?_⟩, fun C hC => ?_, fun q hq => ?_, kA, h3, h4⟩
  · match k, hq with
    | 0, hq => cases hq; exact k0
    | 1, hq => cases hq; exact k1
    | 2, hq => cases hq; exact k2
    | 3, hq => cases hq; exact k3
    | 4, hq => cases hq; exact k4
    | 5, hq => cases hq; exact k5
    | 6, hq => cases hq; exact k6
    | 7, hq => cases hq; exact k7
    | k + 8, hq => simp [vcl] at hq
  · match k, hq with
    | 0, hq => cases hq; exact ⟨x0, y0⟩
    | 1, hq => cases hq; exact ⟨x1, y1⟩
    | 2, hq => cases hq; exact ⟨x2, y2⟩
    | 3, hq => cases hq; exact ⟨x3, y3⟩
    | 4, hq => cases hq; exact ⟨x4, y4⟩
    | 5, hq => cases hq; exact ⟨x5, y5⟩
    | 6, hq => cases hq; exact ⟨x6, y6⟩
    | 7, hq => cases hq; exact ⟨fun N z => ⟨(fun k h => by cases h), kA, h3, _, h4⟩, h5⟩
    | k + 8, hq => simp [tysL] at hq
  · simp only [aoL, List.mem_cons, List.not_mem_nil, or_false] at hC
    rcases hC with rfl | rfl | rfl | rfl | rfl
    · exact va_AO.of (tbl_at hts 92 (by decide +kernel))
    · exact va_AO.of (tbl_at hts 94 (by decide +kernel))
    · exact va_AO.of (tbl_at hts 204 (by decide +kernel))
    · exact va_AO.of (tbl_at hts 246 (by decide +kernel))
    · exact va_AO.of (tbl_at hts 248 (by decide +kernel))
  · simp only [nesI, List.mem_cons, List.not_mem_nil, or_false] at hq
    rcases hq with rfl | rfl | rfl | rfl | rfl
    · exact va_Nw.of rfl (tbl_at hts 96 (by decide +kernel))
    · exact va_Nw.of rfl (tbl_at hts 130 (by decide +kernel))
    · exact va_Nw.of rfl (tbl_at hts 207 (by decide +kernel))
    · exact va_Nw.of rfl (tbl_at hts 252 (by decide +kernel))
    · exact va_Nw.of rfl (tbl_at hts 270 (by decide +kernel))
theorem st_nest {s : State} {A : Array Value} (hts : ∀ w ∈ lw_tbl, w.before A s = true) : ∀ q ∈ nestL, va_Nw (.methodLinkNest q.1 q.2.1 q.2.2 "HaulWages") s := by
  intro q hq
  simp only [nestL, List.mem_cons, List.not_mem_nil, or_false] at hq
  rcases hq with rfl | rfl | rfl
  · exact va_Nw.of rfl (tbl_at hts 451 (by decide +kernel))
  · exact va_Nw.of rfl (tbl_at hts 532 (by decide +kernel))
  · exact va_Nw.of rfl (tbl_at hts 812 (by decide +kernel))
abbrev tmS (i : Nat) : Term := .string "HaulWages$Tape" (idxS.getD i 0)
abbrev gvL : List Cond := flatC (Jvm.Cond.and given_1 narrow_1)
theorem gv_ex : ∀ i, i < 7 → Cond.exactly (tmS i) "java/lang/String" ∈ gvL := by decide +kernel
theorem gv_co : ∀ i, i < 7 → Cond.eq (.field (tmS i) "java/lang/String" "coder" "B") (.int 0) ∈ gvL := by decide +kernel
theorem gv_ar : ∀ i, i < 7 → Cond.arrayOf (.field (tmS i) "java/lang/String" "value" "[B") .byte ∈ gvL := by decide +kernel
theorem gv_le : ∀ i, i < 7 → Cond.eq (.length (.field (tmS i) "java/lang/String" "value" "[B")) (.int (Int32.ofNat (lenS.getD i 0))) ∈ gvL := by decide +kernel
theorem gv_el : ∀ i, i < 7 → ∀ j, j < lenS.getD i 0 → Cond.eq (.elem (.field (tmS i) "java/lang/String" "value" "[B") (.int (Int32.ofNat j))) (.int ((bytS.getD i []).getD j 0)) ∈ gvL := by decide +kernel
theorem gv_ne : ∀ i, i < 7 → ∀ j, j < 7 → i ≠ j → (Cond.not (Cond.eq (tmS i) (tmS j)) ∈ gvL ∨ Cond.not (Cond.eq (tmS j) (tmS i)) ∈ gvL) := by decide +kernel
theorem gv_n : ∀ i, i < 7 → lenS.getD i 0 < 2 ^ 31 := by decide +kernel
theorem gv_sr : ∀ i, i < 7 → lw_tbl[380 + i]? = some (Cond.stringRef "HaulWages$Tape" (idxS.getD i 0) (txtS.getD i "")) := by decide +kernel
theorem st_strings {s : State} {A : Array Value} (hgv : (Jvm.Cond.and given_1 narrow_1).before A s = true) : ∃ adK adV : Nat → Nat, vk_S 7 lenS bytS adK adV (frN s.heap.size) s s.heap ∧ ∀ i : Nat, i < 7 → (tmS i).eval A s none [] s = some (.ref (adK i)) := by
  have hs := flat_of_before _ hgv
  exact vk_Sof (tm := tmS) gv_n (fun i hi => hs _ (gv_ex i hi)) (fun i hi => hs _ (gv_co i hi)) (fun i hi => hs _ (gv_ar i hi)) (fun i hi => hs _ (gv_le i hi)) (fun i hi j hj => hs _ (gv_el i hi j hj)) (fun i j hi hj hij => (gv_ne i hi j hj hij).elim (fun h => Or.inl (hs _ h)) (fun h => Or.inr (hs _ h))) (fun a ha => by unfold frN; omega)
theorem st_E {s : State} {A : Array Value} (hts : ∀ w ∈ lw_tbl, w.before A s = true) (hgv : (Jvm.Cond.and given_1 narrow_1).before A s = true) : ∃ (D : va_G) (ca : Nat → ClassId) (adK adV : Nat → Nat), nK D ca s ∧ wK (E0 D ca s.heap.size adK adV) s ∧ wS (E0 D ca s.heap.size adK adV) s s.heap := by
  obtain ⟨D, ca, hK⟩ := st_tables hts
  obtain ⟨adK, adV, h1, h2⟩ := st_strings hgv
  have hs := flat_of_before _ hgv
  have hg : ∀ w ∈ gw, w.before A s = true := fun w hw => hts w (gw_good w hw).1
  have hA : ∀ a : Nat, a < s.heap.size → ¬ fre (E0 D ca s.heap.size adK adV) a := fun a ha h => absurd (fre_0 h) (by omega)
  refine ⟨D, ca, adK, adV, hK, ⟨hK.1, fun i hi => ?_, st_nest hts⟩, h1.narrow (fun q h => fre_0 h), ?_, ?_⟩
  · exact vk_R.of (tbl_at hts (380 + i) (gv_sr i hi)) (h2 i hi)
  · exact va_Zof (tbl_at hts 400 (by decide +kernel)) (hg _ wi_S) (va_eqt (hs (.eq (.static "java/lang/String" "COMPACT_STRINGS" "Z") (.int 1)) (by decide +kernel))) hA
  · exact va_Zqof (tbl_at hts 416 (by decide +kernel)) (hg _ wi_P) (hs (.isRef (.static "jdk/internal/util/Preconditions" "SIOOBE_FORMATTER" "Ljava/util/function/BiFunction;")) (by decide +kernel)) hA

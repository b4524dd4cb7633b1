/-! the law: its loop, case by case -/
section
variable {p : Program} {l : Launch} {e : Env} {s : State} {m : MethodId} {below : List Frame} {meth : Method} {c : Code} {b Lx : Nat} {xs : Nat → Int32} {E : EE} {Z : ZZ} {M : JM} {H : Heap} {locs : List Loc} {ls : Array Slot} {i : Nat}
theorem l_cases (F : LF p s m meth c b Lx xs E) (hh : Lhead p l e s m below meth c b E (i + 5)) (hi : i + 4 < Lx) (hZ : ZB Z) (hR : RepC Z M) (hRR : RepR Z M) (hC : wC E H M) (hS : va_S (fre E) s.heap H locs) (hl : lv_has ls 4 (lvl b E i)) {z : Int32} (h0 : 0 ≤ z.toInt) : W p l e room_1 s m #[Value.ref b] below meth c H locs 600000 7302250 (lw_Z below #[Value.ref b] s) (F0 m 32 ls [.int z]) := by
  have hx := F.1
  have hb := F.2.1
  by_cases h41 : 40 < z.toInt
  · exact lv_tableOut (tgt := 1477) hx hb dl_32 (Or.inr h41) rfl (l_back F hl hi hh hZ hR hRR hC hS)
  obtain ⟨k, hk⟩ : ∃ k : Nat, z.toInt = (k : Int) := ⟨z.toInt.toNat, by omega⟩
  have hk41 : k < 41 := by omega
  have h1 : ¬ z.toInt < 0 := by omega
  by_cases e0 : k = 0
  · exact lv_tableIn (off := 180) (tgt := 212) hx hb dl_32 h1 h41 (by rw [hk, e0]; rfl) rfl (lc_0 F hh hi hZ hR hRR hC hS hl)
  by_cases e1 : k = 1
  · exact lv_tableIn (off := 203) (tgt := 235) hx hb dl_32 h1 h41 (by rw [hk, e1]; rfl) rfl (lc_1 F hh hi hZ hR hRR hC hS hl)
  by_cases e2 : k = 2
  · exact lv_tableIn (off := 226) (tgt := 258) hx hb dl_32 h1 h41 (by rw [hk, e2]; rfl) rfl (lc_2 F hh hi hZ hR hRR hC hS hl)
  by_cases e3 : k = 3
  · exact lv_tableIn (off := 239) (tgt := 271) hx hb dl_32 h1 h41 (by rw [hk, e3]; rfl) rfl (lc_3 F hh hi hZ hR hRR hC hS hl)
  by_cases e4 : k = 4
  · exact lv_tableIn (off := 252) (tgt := 284) hx hb dl_32 h1 h41 (by rw [hk, e4]; rfl) rfl (lc_4 F hh hi hZ hR hRR hC hS hl)
  by_cases e5 : k = 5
  · exact lv_tableIn (off := 275) (tgt := 307) hx hb dl_32 h1 h41 (by rw [hk, e5]; rfl) rfl (lc_5 F hh hi hZ hR hRR hC hS hl)
  by_cases e6 : k = 6
  · exact lv_tableIn (off := 308) (tgt := 340) hx hb dl_32 h1 h41 (by rw [hk, e6]; rfl) rfl (lc_6 F hh hi hZ hR hRR hC hS hl)
  by_cases e7 : k = 7
  · exact lv_tableIn (off := 341) (tgt := 373) hx hb dl_32 h1 h41 (by rw [hk, e7]; rfl) rfl (lc_7 F hh hi hZ hR hRR hC hS hl)
  by_cases e8 : k = 8
  · exact lv_tableIn (off := 384) (tgt := 416) hx hb dl_32 h1 h41 (by rw [hk, e8]; rfl) rfl (lc_8 F hh hi hZ hR hRR hC hS hl)
  by_cases e9 : k = 9
  · exact lv_tableIn (off := 427) (tgt := 459) hx hb dl_32 h1 h41 (by rw [hk, e9]; rfl) rfl (lc_9 F hh hi hZ hR hRR hC hS hl)
  by_cases e10 : k = 10
  · exact lv_tableIn (off := 460) (tgt := 492) hx hb dl_32 h1 h41 (by rw [hk, e10]; rfl) rfl (lc_10 F hh hi hZ hR hRR hC hS hl)
  by_cases e11 : k = 11
  · exact lv_tableIn (off := 503) (tgt := 535) hx hb dl_32 h1 h41 (by rw [hk, e11]; rfl) rfl (lc_11 F hh hi hZ hR hRR hC hS hl)
  by_cases e12 : k = 12
  · exact lv_tableIn (off := 526) (tgt := 558) hx hb dl_32 h1 h41 (by rw [hk, e12]; rfl) rfl (lc_12 F hh hi hZ hR hRR hC hS hl)
  by_cases e13 : k = 13
  · exact lv_tableIn (off := 539) (tgt := 571) hx hb dl_32 h1 h41 (by rw [hk, e13]; rfl) rfl (lc_13 F hh hi hZ hR hRR hC hS hl)
  by_cases e14 : k = 14
  · exact lv_tableIn (off := 562) (tgt := 594) hx hb dl_32 h1 h41 (by rw [hk, e14]; rfl) rfl (lc_14 F hh hi hZ hR hRR hC hS hl)
  by_cases e15 : k = 15
  · exact lv_tableIn (off := 595) (tgt := 627) hx hb dl_32 h1 h41 (by rw [hk, e15]; rfl) rfl (lc_15 F hh hi hZ hR hRR hC hS hl)
  by_cases e16 : k = 16
  · exact lv_tableIn (off := 638) (tgt := 670) hx hb dl_32 h1 h41 (by rw [hk, e16]; rfl) rfl (lc_16 F hh hi hZ hR hRR hC hS hl)
  by_cases e17 : k = 17
  · exact lv_tableIn (off := 661) (tgt := 693) hx hb dl_32 h1 h41 (by rw [hk, e17]; rfl) rfl (lc_17 F hh hi hZ hR hRR hC hS hl)
  by_cases e18 : k = 18
  · exact lv_tableIn (off := 694) (tgt := 726) hx hb dl_32 h1 h41 (by rw [hk, e18]; rfl) rfl (lc_18 F hh hi hZ hR hRR hC hS hl)
  by_cases e19 : k = 19
  · exact lv_tableIn (off := 727) (tgt := 759) hx hb dl_32 h1 h41 (by rw [hk, e19]; rfl) rfl (lc_19 F hh hi hZ hR hRR hC hS hl)
  by_cases e20 : k = 20
  · exact lv_tableIn (off := 760) (tgt := 792) hx hb dl_32 h1 h41 (by rw [hk, e20]; rfl) rfl (lc_20 F hh hi hZ hR hRR hC hS hl)
  by_cases e21 : k = 21
  · exact lv_tableIn (off := 793) (tgt := 825) hx hb dl_32 h1 h41 (by rw [hk, e21]; rfl) rfl (lc_21 F hh hi hZ hR hRR hC hS hl)
  by_cases e22 : k = 22
  · exact lv_tableIn (off := 826) (tgt := 858) hx hb dl_32 h1 h41 (by rw [hk, e22]; rfl) rfl (lc_22 F hh hi hZ hR hRR hC hS hl)
  by_cases e23 : k = 23
  · exact lv_tableIn (off := 859) (tgt := 891) hx hb dl_32 h1 h41 (by rw [hk, e23]; rfl) rfl (lc_23 F hh hi hZ hR hRR hC hS hl)
  by_cases e24 : k = 24
  · exact lv_tableIn (off := 882) (tgt := 914) hx hb dl_32 h1 h41 (by rw [hk, e24]; rfl) rfl (lc_24 F hh hi hZ hR hRR hC hS hl)
  by_cases e25 : k = 25
  · exact lv_tableIn (off := 925) (tgt := 957) hx hb dl_32 h1 h41 (by rw [hk, e25]; rfl) rfl (lc_25 F hh hi hZ hR hRR hC hS hl)
  by_cases e26 : k = 26
  · exact lv_tableIn (off := 969) (tgt := 1001) hx hb dl_32 h1 h41 (by rw [hk, e26]; rfl) rfl (lc_26 F hh hi hZ hR hRR hC hS hl)
  by_cases e27 : k = 27
  · exact lv_tableIn (off := 1013) (tgt := 1045) hx hb dl_32 h1 h41 (by rw [hk, e27]; rfl) rfl (lc_27 F hh hi hZ hR hRR hC hS hl)
  by_cases e28 : k = 28
  · exact lv_tableIn (off := 1056) (tgt := 1088) hx hb dl_32 h1 h41 (by rw [hk, e28]; rfl) rfl (lc_28 F hh hi hZ hR hRR hC hS hl)
  by_cases e29 : k = 29
  · exact lv_tableIn (off := 1079) (tgt := 1111) hx hb dl_32 h1 h41 (by rw [hk, e29]; rfl) rfl (lc_29 F hh hi hZ hR hRR hC hS hl)
  by_cases e30 : k = 30
  · exact lv_tableIn (off := 1102) (tgt := 1134) hx hb dl_32 h1 h41 (by rw [hk, e30]; rfl) rfl (lc_30 F hh hi hZ hR hRR hC hS hl)
  by_cases e31 : k = 31
  · exact lv_tableIn (off := 1125) (tgt := 1157) hx hb dl_32 h1 h41 (by rw [hk, e31]; rfl) rfl (lc_31 F hh hi hZ hR hRR hC hS hl)
  by_cases e32 : k = 32
  · exact lv_tableIn (off := 1148) (tgt := 1180) hx hb dl_32 h1 h41 (by rw [hk, e32]; rfl) rfl (lc_32 F hh hi hZ hR hRR hC hS hl)
  by_cases e33 : k = 33
  · exact lv_tableIn (off := 1181) (tgt := 1213) hx hb dl_32 h1 h41 (by rw [hk, e33]; rfl) rfl (lc_33 F hh hi hZ hR hRR hC hS hl)
  by_cases e34 : k = 34
  · exact lv_tableIn (off := 1224) (tgt := 1256) hx hb dl_32 h1 h41 (by rw [hk, e34]; rfl) rfl (lc_34 F hh hi hZ hR hRR hC hS hl)
  by_cases e35 : k = 35
  · exact lv_tableIn (off := 1247) (tgt := 1279) hx hb dl_32 h1 h41 (by rw [hk, e35]; rfl) rfl (lc_35 F hh hi hZ hR hRR hC hS hl)
  by_cases e36 : k = 36
  · exact lv_tableIn (off := 1270) (tgt := 1302) hx hb dl_32 h1 h41 (by rw [hk, e36]; rfl) rfl (lc_36 F hh hi hZ hR hRR hC hS hl)
  by_cases e37 : k = 37
  · exact lv_tableIn (off := 1313) (tgt := 1345) hx hb dl_32 h1 h41 (by rw [hk, e37]; rfl) rfl (lc_37 F hh hi hZ hR hRR hC hS hl)
  by_cases e38 : k = 38
  · exact lv_tableIn (off := 1356) (tgt := 1388) hx hb dl_32 h1 h41 (by rw [hk, e38]; rfl) rfl (lc_38 F hh hi hZ hR hRR hC hS hl)
  by_cases e39 : k = 39
  · exact lv_tableIn (off := 1409) (tgt := 1441) hx hb dl_32 h1 h41 (by rw [hk, e39]; rfl) rfl (lc_39 F hh hi hZ hR hRR hC hS hl)
  by_cases e40 : k = 40
  · exact lv_tableIn (off := 1422) (tgt := 1454) hx hb dl_32 h1 h41 (by rw [hk, e40]; rfl) rfl (lc_40 F hh hi hZ hR hRR hC hS hl)
  omega
theorem l_head (F : LF p s m meth c b Lx xs E) (hi : i ≤ Lx + 5) (hh : i + 4 < Lx → Lhead p l e s m below meth c b E (i + 5)) : Lhead p l e s m below meth c b E i := by
  intro Z M H locs ls hZ hR hRR hC hS hl
  obtain ⟨hx, hb, hml, hown, hts, hr, hlk, hA, hK, hS0, hX, hbl, hfr, hLx⟩ := id F
  have hbA : ¬ fre E b := fun q => absurd (hfr b q) (by omega)
  refine lv_iload_n hx hb dl_18 (i := 3) rfl (lv_at hl 3 rfl) ?_
  refine lv_aload_n hx hb dl_19 (i := 0) rfl (lv_at hl 0 rfl) ?_
  refine va_slen hx hb hX hbl hbA hS dl_20 ?_
  refine lv_iconst (v := i32 5) hx hb dl_21 rfl ?_
  refine lv_isub hx hb dl_22 ?_
  have eL : Int32.ofNat Lx - i32 5 = i32 ((Lx : Int) - 5) := by
    rw [show Int32.ofNat Lx = i32 (Lx : Int) from (Int32.ofInt_eq_ofNat).symm, i32_sub, w32_id (by omega) (by omega)]
  rw [eL]
  have hrL : inR ((Lx : Int) - 5) := by unfold inR; omega
  have hri : inR (i : Int) := by unfold inR; omega
  refine lv_icmp_gt (tgt := 1483) hx hb dl_23 rfl (fun q => ?_) (fun q => ?_)
  · refine va_forget (fun q hq => hfr _ (hS.2.2 q hq)) ?_
    refine lv_iconst (v := 1) hx hb dl_1483 rfl ?_
    exact lw_ret hx hb hr hlk dl_1484
  · rw [i32_lt hrL hri] at q
    have hi4 : i + 4 < Lx := by omega
    refine lv_aload_n hx hb dl_26 (i := 0) rfl (lv_at hl 0 rfl) ?_
    refine lv_iload_n hx hb dl_27 (i := 3) rfl (lv_at hl 3 rfl) ?_
    refine va_sld hx hb hX hbl hbA hS (i32_vin hri (by omega) (by omega)) dl_28 ?_
    refine lv_bipush hx hb dl_29 (v := 63) (by decide +kernel) ?_
    refine lv_iand hx hb dl_31 ?_
    exact l_cases F (hh hi4) hi4 hZ hR hRR hC hS hl (and63 _).1
theorem l_loop (F : LF p s m meth c b Lx xs E) : ∀ d i : Nat, i ≤ Lx + 5 → Lx + 5 - i ≤ d → Lhead p l e s m below meth c b E i := by
  intro d
  induction d with
  | zero => exact fun i h1 h2 => l_head F h1 (fun h => by omega)
  | succ d ih => exact fun i h1 h2 => l_head F h1 (fun h => ih (i + 5) (by omega) (by omega))
end

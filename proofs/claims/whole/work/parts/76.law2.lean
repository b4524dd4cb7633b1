/-! the law, case by case -/
section
variable {p : Program} {l : Launch} {e : Env} {s : State} {m : MethodId} {below : List Frame} {meth : Method} {c : Code} {b Lx : Nat} {xs : Nat → Int32} {E : EE} {Z : ZZ} {M : JM} {H : Heap} {locs : List Loc} {ls : Array Slot} {i : Nat}
theorem lc_0 (F : LF p s m meth c b Lx xs E) (hh : Lhead p l e s m below meth c b E (i + 5)) (hi : i + 4 < Lx) (hZ : ZB Z) (hR : RepC Z M) (hRR : RepR Z M) (hC : wC E H M) (hS : va_S (fre E) s.heap H locs) (hl : lv_has ls 4 (lvl b E i)) : W p l e room_1 s m #[Value.ref b] below meth c H locs 600000 7302250 (lw_Z below #[Value.ref b] s) (F0 m 212 ls []) := by
  have hx := F.1
  have hb := F.2.1
  refine lv_aload_n hx hb dl_212 (i := 1) rfl (lv_at hl 1 rfl) ?_
  refine l_arg F hS hl hi (j := 1) (by decide) dl_213 dl_214 dl_215 dl_216 dl_217 ?_
  refine l_call F hC hS hl (mm' := mm_H_feed) (t := 0) (k := 0) (ci := 6) (As := [vI (ag xs i 1)]) (rest := []) (Q' := fun x M1 => x = (sp_feed Z (ag xs i 1)).1 ∧ RepC (sp_feed Z (ag xs i 1)).2 M1 ∧ keepR M M1) (H_feed hZ hR (fun M9 r9 k9 => ⟨rfl, r9, k9⟩)) dl_218 (ws5 wd_324 wd_325 wd_326 wd_63 wd_327) nk_H_feed ⟨rfl, rfl, Nat.le_of_ble_eq_true rfl, Nat.le_of_ble_eq_true rfl⟩ (by unfold isW; omega) ⟨_, ce_0 _⟩ rfl (Nat.le_of_ble_eq_true rfl) (okS_c (v := vI (ag xs i 1)) (ag_ok _ _ _) okS_0) (Nat.le_of_ble_eq_true rfl) (fun x M1 H1 lo1 h1 hC1 hS1 => ?_)
  obtain ⟨ex, r1, k1⟩ := h1
  rw [ex]
  refine lv_aload_n hx hb dl_221 (i := 2) rfl (lv_at hl 2 rfl) ?_
  refine l_arg F hS1 hl hi (j := 1) (by decide) dl_222 dl_223 dl_224 dl_225 dl_226 ?_
  refine l_call F hC1 hS1 hl (mm' := mm_M_feed) (t := 20) (k := 0) (ci := 7) (As := [vI (ag xs i 1)]) (rest := [vI (sp_feed Z (ag xs i 1)).1]) (Q' := fun y M2 => y = (sp_feed Z (ag xs i 1)).1 ∧ RepR (sp_feed Z (ag xs i 1)).2 M2 ∧ keepC M1 M2) (M_feed hZ (RepR_keep k1 hRR) (fun M9 r9 k9 => ⟨rfl, r9, k9⟩)) dl_227 (ws5 wd_936 wd_937 wd_938 wd_70 wd_939) nk_M_feed ⟨rfl, rfl, Nat.le_of_ble_eq_true rfl, Nat.le_of_ble_eq_true rfl⟩ (by unfold isW; omega) ⟨_, ce_20 _⟩ rfl (Nat.le_of_ble_eq_true rfl) (okS_c (v := vI (ag xs i 1)) (ag_ok _ _ _) okS_0) (Nat.le_of_ble_eq_true rfl) (fun y M2 H2 lo2 h2 hC2 hS2 => ?_)
  obtain ⟨ey, r2, k2⟩ := h2
  rw [ey]
  refine lv_icmp_eq (tgt := 1477) hx hb dl_230 rfl (fun _ => ?_) (fun q => absurd rfl q)
  exact l_back F hl hi hh (ZB_feed hZ) (RepC_keep k2 r1) r2 hC2 hS2
theorem lc_1 (F : LF p s m meth c b Lx xs E) (hh : Lhead p l e s m below meth c b E (i + 5)) (hi : i + 4 < Lx) (hZ : ZB Z) (hR : RepC Z M) (hRR : RepR Z M) (hC : wC E H M) (hS : va_S (fre E) s.heap H locs) (hl : lv_has ls 4 (lvl b E i)) : W p l e room_1 s m #[Value.ref b] below meth c H locs 600000 7302250 (lw_Z below #[Value.ref b] s) (F0 m 235 ls []) := by
  have hx := F.1
  have hb := F.2.1
  refine lv_aload_n hx hb dl_235 (i := 1) rfl (lv_at hl 1 rfl) ?_
  refine l_arg F hS hl hi (j := 1) (by decide) dl_236 dl_237 dl_238 dl_239 dl_240 ?_
  refine l_call F hC hS hl (mm' := mm_H_end) (t := 0) (k := 0) (ci := 6) (As := [vI (ag xs i 1)]) (rest := []) (Q' := fun x M1 => x = (sp_end Z (ag xs i 1)).1 ∧ RepC (sp_end Z (ag xs i 1)).2 M1 ∧ keepR M M1) (H_end hZ hR (fun M9 r9 k9 => ⟨rfl, r9, k9⟩)) dl_241 (ws5 wd_331 wd_332 wd_333 wd_63 wd_334) nk_H_end ⟨rfl, rfl, Nat.le_of_ble_eq_true rfl, Nat.le_of_ble_eq_true rfl⟩ (by unfold isW; omega) ⟨_, ce_0 _⟩ rfl (Nat.le_of_ble_eq_true rfl) (okS_c (v := vI (ag xs i 1)) (ag_ok _ _ _) okS_0) (Nat.le_of_ble_eq_true rfl) (fun x M1 H1 lo1 h1 hC1 hS1 => ?_)
  obtain ⟨ex, r1, k1⟩ := h1
  rw [ex]
  refine lv_aload_n hx hb dl_244 (i := 2) rfl (lv_at hl 2 rfl) ?_
  refine l_arg F hS1 hl hi (j := 1) (by decide) dl_245 dl_246 dl_247 dl_248 dl_249 ?_
  refine l_call F hC1 hS1 hl (mm' := mm_M_end) (t := 20) (k := 0) (ci := 7) (As := [vI (ag xs i 1)]) (rest := [vI (sp_end Z (ag xs i 1)).1]) (Q' := fun y M2 => y = (sp_end Z (ag xs i 1)).1 ∧ RepR (sp_end Z (ag xs i 1)).2 M2 ∧ keepC M1 M2) (M_end hZ (RepR_keep k1 hRR) (fun M9 r9 k9 => ⟨rfl, r9, k9⟩)) dl_250 (ws5 wd_944 wd_945 wd_946 wd_70 wd_947) nk_M_end ⟨rfl, rfl, Nat.le_of_ble_eq_true rfl, Nat.le_of_ble_eq_true rfl⟩ (by unfold isW; omega) ⟨_, ce_20 _⟩ rfl (Nat.le_of_ble_eq_true rfl) (okS_c (v := vI (ag xs i 1)) (ag_ok _ _ _) okS_0) (Nat.le_of_ble_eq_true rfl) (fun y M2 H2 lo2 h2 hC2 hS2 => ?_)
  obtain ⟨ey, r2, k2⟩ := h2
  rw [ey]
  refine lv_icmp_eq (tgt := 1477) hx hb dl_253 rfl (fun _ => ?_) (fun q => absurd rfl q)
  exact l_back F hl hi hh (ZB_end hZ) (RepC_keep k2 r1) r2 hC2 hS2
theorem lc_2 (F : LF p s m meth c b Lx xs E) (hh : Lhead p l e s m below meth c b E (i + 5)) (hi : i + 4 < Lx) (hZ : ZB Z) (hR : RepC Z M) (hRR : RepR Z M) (hC : wC E H M) (hS : va_S (fre E) s.heap H locs) (hl : lv_has ls 4 (lvl b E i)) : W p l e room_1 s m #[Value.ref b] below meth c H locs 600000 7302250 (lw_Z below #[Value.ref b] s) (F0 m 258 ls []) := by
  have hx := F.1
  have hb := F.2.1
  refine lv_aload_n hx hb dl_258 (i := 1) rfl (lv_at hl 1 rfl) ?_
  refine l_call F hC hS hl (mm' := mm_H_text) (t := 0) (k := 0) (ci := 6) (As := []) (rest := []) (Q' := fun x M1 => x = (sp_text Z).1 ∧ RepC (sp_text Z).2 M1 ∧ keepR M M1) (H_text WOK_all hZ hR (fun M9 r9 k9 => ⟨rfl, r9, k9⟩)) dl_259 (ws5 wd_335 wd_336 wd_337 wd_63 wd_338) nk_H_text ⟨rfl, rfl, Nat.le_of_ble_eq_true rfl, Nat.le_of_ble_eq_true rfl⟩ (by unfold isW; omega) ⟨_, ce_0 _⟩ rfl (Nat.le_of_ble_eq_true rfl) okS_0 (Nat.le_of_ble_eq_true rfl) (fun x M1 H1 lo1 h1 hC1 hS1 => ?_)
  obtain ⟨ex, r1, k1⟩ := h1
  rw [ex]
  refine lv_aload_n hx hb dl_262 (i := 2) rfl (lv_at hl 2 rfl) ?_
  refine l_call F hC1 hS1 hl (mm' := mm_M_text) (t := 20) (k := 0) (ci := 7) (As := []) (rest := [vI (sp_text Z).1]) (Q' := fun y M2 => y = (sp_text Z).1 ∧ RepR (sp_text Z).2 M2 ∧ keepC M1 M2) (M_text hZ (RepR_keep k1 hRR) (fun M9 r9 k9 => ⟨rfl, r9, k9⟩)) dl_263 (ws5 wd_948 wd_949 wd_950 wd_70 wd_951) nk_M_text ⟨rfl, rfl, Nat.le_of_ble_eq_true rfl, Nat.le_of_ble_eq_true rfl⟩ (by unfold isW; omega) ⟨_, ce_20 _⟩ rfl (Nat.le_of_ble_eq_true rfl) okS_0 (Nat.le_of_ble_eq_true rfl) (fun y M2 H2 lo2 h2 hC2 hS2 => ?_)
  obtain ⟨ey, r2, k2⟩ := h2
  rw [ey]
  refine lv_icmp_eq (tgt := 1477) hx hb dl_266 rfl (fun _ => ?_) (fun q => absurd rfl q)
  exact l_back F hl hi hh (ZB_text hZ) (RepC_keep k2 r1) r2 hC2 hS2
theorem lc_3 (F : LF p s m meth c b Lx xs E) (hh : Lhead p l e s m below meth c b E (i + 5)) (hi : i + 4 < Lx) (hZ : ZB Z) (hR : RepC Z M) (hRR : RepR Z M) (hC : wC E H M) (hS : va_S (fre E) s.heap H locs) (hl : lv_has ls 4 (lvl b E i)) : W p l e room_1 s m #[Value.ref b] below meth c H locs 600000 7302250 (lw_Z below #[Value.ref b] s) (F0 m 271 ls []) := by
  have hx := F.1
  have hb := F.2.1
  refine lv_aload_n hx hb dl_271 (i := 1) rfl (lv_at hl 1 rfl) ?_
  refine l_call F hC hS hl (mm' := mm_H_fault) (t := 0) (k := 0) (ci := 6) (As := []) (rest := []) (Q' := fun x M1 => x = (Z 3 3) ∧ RepC Z M1 ∧ keepR M M1) (H_fault hR (fun M9 r9 k9 => ⟨rfl, r9, k9⟩)) dl_272 (ws5 wd_492 wd_493 wd_494 wd_63 wd_495) nk_H_fault ⟨rfl, rfl, Nat.le_of_ble_eq_true rfl, Nat.le_of_ble_eq_true rfl⟩ (by unfold isW; omega) ⟨_, ce_0 _⟩ rfl (Nat.le_of_ble_eq_true rfl) okS_0 (Nat.le_of_ble_eq_true rfl) (fun x M1 H1 lo1 h1 hC1 hS1 => ?_)
  obtain ⟨ex, r1, k1⟩ := h1
  rw [ex]
  refine lv_aload_n hx hb dl_275 (i := 2) rfl (lv_at hl 2 rfl) ?_
  refine l_call F hC1 hS1 hl (mm' := mm_M_fault) (t := 20) (k := 0) (ci := 7) (As := []) (rest := [vI (Z 3 3)]) (Q' := fun y M2 => y = (Z 3 3) ∧ RepR Z M2 ∧ keepC M1 M2) (M_fault (RepR_keep k1 hRR) (fun M9 r9 k9 => ⟨rfl, r9, k9⟩)) dl_276 (ws5 wd_985 wd_986 wd_987 wd_70 wd_988) nk_M_fault ⟨rfl, rfl, Nat.le_of_ble_eq_true rfl, Nat.le_of_ble_eq_true rfl⟩ (by unfold isW; omega) ⟨_, ce_20 _⟩ rfl (Nat.le_of_ble_eq_true rfl) okS_0 (Nat.le_of_ble_eq_true rfl) (fun y M2 H2 lo2 h2 hC2 hS2 => ?_)
  obtain ⟨ey, r2, k2⟩ := h2
  rw [ey]
  refine lv_icmp_eq (tgt := 1477) hx hb dl_279 rfl (fun _ => ?_) (fun q => absurd rfl q)
  exact l_back F hl hi hh hZ (RepC_keep k2 r1) r2 hC2 hS2
theorem lc_4 (F : LF p s m meth c b Lx xs E) (hh : Lhead p l e s m below meth c b E (i + 5)) (hi : i + 4 < Lx) (hZ : ZB Z) (hR : RepC Z M) (hRR : RepR Z M) (hC : wC E H M) (hS : va_S (fre E) s.heap H locs) (hl : lv_has ls 4 (lvl b E i)) : W p l e room_1 s m #[Value.ref b] below meth c H locs 600000 7302250 (lw_Z below #[Value.ref b] s) (F0 m 284 ls []) := by
  have hx := F.1
  have hb := F.2.1
  refine lv_aload_n hx hb dl_284 (i := 1) rfl (lv_at hl 1 rfl) ?_
  refine l_arg F hS hl hi (j := 1) (by decide) dl_285 dl_286 dl_287 dl_288 dl_289 ?_
  refine l_call F hC hS hl (mm' := mm_H_rule) (t := 0) (k := 0) (ci := 6) (As := [vI (ag xs i 1)]) (rest := []) (Q' := fun x M1 => x = (sp_rule Z (ag xs i 1)) ∧ RepC Z M1 ∧ keepR M M1) (H_rule hZ hR (fun M9 r9 k9 => ⟨rfl, r9, k9⟩)) dl_290 (ws5 wd_496 wd_497 wd_498 wd_63 wd_499) nk_H_rule ⟨rfl, rfl, Nat.le_of_ble_eq_true rfl, Nat.le_of_ble_eq_true rfl⟩ (by unfold isW; omega) ⟨_, ce_0 _⟩ rfl (Nat.le_of_ble_eq_true rfl) (okS_c (v := vI (ag xs i 1)) (ag_ok _ _ _) okS_0) (Nat.le_of_ble_eq_true rfl) (fun x M1 H1 lo1 h1 hC1 hS1 => ?_)
  obtain ⟨ex, r1, k1⟩ := h1
  rw [ex]
  refine lv_aload_n hx hb dl_293 (i := 2) rfl (lv_at hl 2 rfl) ?_
  refine l_arg F hS1 hl hi (j := 1) (by decide) dl_294 dl_295 dl_296 dl_297 dl_298 ?_
  refine l_call F hC1 hS1 hl (mm' := mm_M_rule) (t := 20) (k := 0) (ci := 7) (As := [vI (ag xs i 1)]) (rest := [vI (sp_rule Z (ag xs i 1))]) (Q' := fun y M2 => y = (sp_rule Z (ag xs i 1)) ∧ RepR Z M2 ∧ keepC M1 M2) (M_rule hZ (RepR_keep k1 hRR) (fun M9 r9 k9 => ⟨rfl, r9, k9⟩)) dl_299 (ws5 wd_989 wd_990 wd_991 wd_70 wd_992) nk_M_rule ⟨rfl, rfl, Nat.le_of_ble_eq_true rfl, Nat.le_of_ble_eq_true rfl⟩ (by unfold isW; omega) ⟨_, ce_20 _⟩ rfl (Nat.le_of_ble_eq_true rfl) (okS_c (v := vI (ag xs i 1)) (ag_ok _ _ _) okS_0) (Nat.le_of_ble_eq_true rfl) (fun y M2 H2 lo2 h2 hC2 hS2 => ?_)
  obtain ⟨ey, r2, k2⟩ := h2
  rw [ey]
  refine lv_icmp_eq (tgt := 1477) hx hb dl_302 rfl (fun _ => ?_) (fun q => absurd rfl q)
  exact l_back F hl hi hh hZ (RepC_keep k2 r1) r2 hC2 hS2
theorem lc_5 (F : LF p s m meth c b Lx xs E) (hh : Lhead p l e s m below meth c b E (i + 5)) (hi : i + 4 < Lx) (hZ : ZB Z) (hR : RepC Z M) (hRR : RepR Z M) (hC : wC E H M) (hS : va_S (fre E) s.heap H locs) (hl : lv_has ls 4 (lvl b E i)) : W p l e room_1 s m #[Value.ref b] below meth c H locs 600000 7302250 (lw_Z below #[Value.ref b] s) (F0 m 307 ls []) := by
  have hx := F.1
  have hb := F.2.1
  refine lv_aload_n hx hb dl_307 (i := 1) rfl (lv_at hl 1 rfl) ?_
  refine l_arg F hS hl hi (j := 1) (by decide) dl_308 dl_309 dl_310 dl_311 dl_312 ?_
  refine l_arg F hS hl hi (j := 2) (by decide) dl_313 dl_314 dl_315 dl_316 dl_317 ?_
  refine l_call F hC hS hl (mm' := mm_H_good) (t := 0) (k := 0) (ci := 6) (As := [vI (ag xs i 1), vI (ag xs i 2)]) (rest := []) (Q' := fun x M1 => x = (sp_good Z (ag xs i 1) (ag xs i 2)) ∧ RepC Z M1 ∧ keepR M M1) (H_good hZ hR (fun M9 r9 k9 => ⟨rfl, r9, k9⟩)) dl_318 (ws5 wd_508 wd_509 wd_510 wd_63 wd_511) nk_H_good ⟨rfl, rfl, Nat.le_of_ble_eq_true rfl, Nat.le_of_ble_eq_true rfl⟩ (by unfold isW; omega) ⟨_, ce_0 _⟩ rfl (Nat.le_of_ble_eq_true rfl) (okS_c (v := vI (ag xs i 1)) (ag_ok _ _ _) (okS_c (v := vI (ag xs i 2)) (ag_ok _ _ _) okS_0)) (Nat.le_of_ble_eq_true rfl) (fun x M1 H1 lo1 h1 hC1 hS1 => ?_)
  obtain ⟨ex, r1, k1⟩ := h1
  rw [ex]
  refine lv_aload_n hx hb dl_321 (i := 2) rfl (lv_at hl 2 rfl) ?_
  refine l_arg F hS1 hl hi (j := 1) (by decide) dl_322 dl_323 dl_324 dl_325 dl_326 ?_
  refine l_arg F hS1 hl hi (j := 2) (by decide) dl_327 dl_328 dl_329 dl_330 dl_331 ?_
  refine l_call F hC1 hS1 hl (mm' := mm_M_good) (t := 20) (k := 0) (ci := 7) (As := [vI (ag xs i 1), vI (ag xs i 2)]) (rest := [vI (sp_good Z (ag xs i 1) (ag xs i 2))]) (Q' := fun y M2 => y = (sp_good Z (ag xs i 1) (ag xs i 2)) ∧ RepR Z M2 ∧ keepC M1 M2) (M_good hZ (RepR_keep k1 hRR) (fun M9 r9 k9 => ⟨rfl, r9, k9⟩)) dl_332 (ws5 wd_1001 wd_1002 wd_1003 wd_70 wd_1004) nk_M_good ⟨rfl, rfl, Nat.le_of_ble_eq_true rfl, Nat.le_of_ble_eq_true rfl⟩ (by unfold isW; omega) ⟨_, ce_20 _⟩ rfl (Nat.le_of_ble_eq_true rfl) (okS_c (v := vI (ag xs i 1)) (ag_ok _ _ _) (okS_c (v := vI (ag xs i 2)) (ag_ok _ _ _) okS_0)) (Nat.le_of_ble_eq_true rfl) (fun y M2 H2 lo2 h2 hC2 hS2 => ?_)
  obtain ⟨ey, r2, k2⟩ := h2
  rw [ey]
  refine lv_icmp_eq (tgt := 1477) hx hb dl_335 rfl (fun _ => ?_) (fun q => absurd rfl q)
  exact l_back F hl hi hh hZ (RepC_keep k2 r1) r2 hC2 hS2
theorem lc_6 (F : LF p s m meth c b Lx xs E) (hh : Lhead p l e s m below meth c b E (i + 5)) (hi : i + 4 < Lx) (hZ : ZB Z) (hR : RepC Z M) (hRR : RepR Z M) (hC : wC E H M) (hS : va_S (fre E) s.heap H locs) (hl : lv_has ls 4 (lvl b E i)) : W p l e room_1 s m #[Value.ref b] below meth c H locs 600000 7302250 (lw_Z below #[Value.ref b] s) (F0 m 340 ls []) := by
  have hx := F.1
  have hb := F.2.1
  refine lv_aload_n hx hb dl_340 (i := 1) rfl (lv_at hl 1 rfl) ?_
  refine l_arg F hS hl hi (j := 1) (by decide) dl_341 dl_342 dl_343 dl_344 dl_345 ?_
  refine l_arg F hS hl hi (j := 2) (by decide) dl_346 dl_347 dl_348 dl_349 dl_350 ?_
  refine l_call F hC hS hl (mm' := mm_H_one) (t := 0) (k := 0) (ci := 6) (As := [vI (ag xs i 1), vI (ag xs i 2)]) (rest := []) (Q' := fun x M1 => x = (sp_one Z (ag xs i 1) (ag xs i 2)) ∧ RepC Z M1 ∧ keepR M M1) (H_one hZ hR (fun M9 r9 k9 => ⟨rfl, r9, k9⟩)) dl_351 (ws5 wd_516 wd_517 wd_518 wd_63 wd_519) nk_H_one ⟨rfl, rfl, Nat.le_of_ble_eq_true rfl, Nat.le_of_ble_eq_true rfl⟩ (by unfold isW; omega) ⟨_, ce_0 _⟩ rfl (Nat.le_of_ble_eq_true rfl) (okS_c (v := vI (ag xs i 1)) (ag_ok _ _ _) (okS_c (v := vI (ag xs i 2)) (ag_ok _ _ _) okS_0)) (Nat.le_of_ble_eq_true rfl) (fun x M1 H1 lo1 h1 hC1 hS1 => ?_)
  obtain ⟨ex, r1, k1⟩ := h1
  rw [ex]
  refine lv_aload_n hx hb dl_354 (i := 2) rfl (lv_at hl 2 rfl) ?_
  refine l_arg F hS1 hl hi (j := 1) (by decide) dl_355 dl_356 dl_357 dl_358 dl_359 ?_
  refine l_arg F hS1 hl hi (j := 2) (by decide) dl_360 dl_361 dl_362 dl_363 dl_364 ?_
  refine l_call F hC1 hS1 hl (mm' := mm_M_one) (t := 20) (k := 0) (ci := 7) (As := [vI (ag xs i 1), vI (ag xs i 2)]) (rest := [vI (sp_one Z (ag xs i 1) (ag xs i 2))]) (Q' := fun y M2 => y = (sp_one Z (ag xs i 1) (ag xs i 2)) ∧ RepR Z M2 ∧ keepC M1 M2) (M_one hZ (RepR_keep k1 hRR) (fun M9 r9 k9 => ⟨rfl, r9, k9⟩)) dl_365 (ws5 wd_1018 wd_1019 wd_1020 wd_70 wd_1021) nk_M_one ⟨rfl, rfl, Nat.le_of_ble_eq_true rfl, Nat.le_of_ble_eq_true rfl⟩ (by unfold isW; omega) ⟨_, ce_20 _⟩ rfl (Nat.le_of_ble_eq_true rfl) (okS_c (v := vI (ag xs i 1)) (ag_ok _ _ _) (okS_c (v := vI (ag xs i 2)) (ag_ok _ _ _) okS_0)) (Nat.le_of_ble_eq_true rfl) (fun y M2 H2 lo2 h2 hC2 hS2 => ?_)
  obtain ⟨ey, r2, k2⟩ := h2
  rw [ey]
  refine lv_icmp_eq (tgt := 1477) hx hb dl_368 rfl (fun _ => ?_) (fun q => absurd rfl q)
  exact l_back F hl hi hh hZ (RepC_keep k2 r1) r2 hC2 hS2
theorem lc_7 (F : LF p s m meth c b Lx xs E) (hh : Lhead p l e s m below meth c b E (i + 5)) (hi : i + 4 < Lx) (hZ : ZB Z) (hR : RepC Z M) (hRR : RepR Z M) (hC : wC E H M) (hS : va_S (fre E) s.heap H locs) (hl : lv_has ls 4 (lvl b E i)) : W p l e room_1 s m #[Value.ref b] below meth c H locs 600000 7302250 (lw_Z below #[Value.ref b] s) (F0 m 373 ls []) := by
  have hx := F.1
  have hb := F.2.1
  refine lv_aload_n hx hb dl_373 (i := 1) rfl (lv_at hl 1 rfl) ?_
  refine l_arg F hS hl hi (j := 1) (by decide) dl_374 dl_375 dl_376 dl_377 dl_378 ?_
  refine l_arg F hS hl hi (j := 2) (by decide) dl_379 dl_380 dl_381 dl_382 dl_383 ?_
  refine l_arg F hS hl hi (j := 3) (by decide) dl_384 dl_385 dl_386 dl_387 dl_388 ?_
  refine l_call F hC hS hl (mm' := mm_H_alter) (t := 0) (k := 0) (ci := 6) (As := [vI (ag xs i 1), vI (ag xs i 2), vI (ag xs i 3)]) (rest := []) (Q' := fun x M1 => x = (sp_alter Z (ag xs i 1) (ag xs i 2) (ag xs i 3)).1 ∧ RepC (sp_alter Z (ag xs i 1) (ag xs i 2) (ag xs i 3)).2 M1 ∧ keepR M M1) (H_alter hZ hR (fun M9 r9 k9 => ⟨rfl, r9, k9⟩)) dl_389 (ws5 wd_539 wd_540 wd_541 wd_63 wd_542) nk_H_alter ⟨rfl, rfl, Nat.le_of_ble_eq_true rfl, Nat.le_of_ble_eq_true rfl⟩ (by unfold isW; omega) ⟨_, ce_0 _⟩ rfl (Nat.le_of_ble_eq_true rfl) (okS_c (v := vI (ag xs i 1)) (ag_ok _ _ _) (okS_c (v := vI (ag xs i 2)) (ag_ok _ _ _) (okS_c (v := vI (ag xs i 3)) (ag_ok _ _ _) okS_0))) (Nat.le_of_ble_eq_true rfl) (fun x M1 H1 lo1 h1 hC1 hS1 => ?_)
  obtain ⟨ex, r1, k1⟩ := h1
  rw [ex]
  refine lv_aload_n hx hb dl_392 (i := 2) rfl (lv_at hl 2 rfl) ?_
  refine l_arg F hS1 hl hi (j := 1) (by decide) dl_393 dl_394 dl_395 dl_396 dl_397 ?_
  refine l_arg F hS1 hl hi (j := 2) (by decide) dl_398 dl_399 dl_400 dl_401 dl_402 ?_
  refine l_arg F hS1 hl hi (j := 3) (by decide) dl_403 dl_404 dl_405 dl_406 dl_407 ?_
  refine l_call F hC1 hS1 hl (mm' := mm_M_alter) (t := 20) (k := 0) (ci := 7) (As := [vI (ag xs i 1), vI (ag xs i 2), vI (ag xs i 3)]) (rest := [vI (sp_alter Z (ag xs i 1) (ag xs i 2) (ag xs i 3)).1]) (Q' := fun y M2 => y = (sp_alter Z (ag xs i 1) (ag xs i 2) (ag xs i 3)).1 ∧ RepR (sp_alter Z (ag xs i 1) (ag xs i 2) (ag xs i 3)).2 M2 ∧ keepC M1 M2) (M_alter hZ (RepR_keep k1 hRR) (fun M9 r9 k9 => ⟨rfl, r9, k9⟩)) dl_408 (ws5 wd_1043 wd_1044 wd_1045 wd_70 wd_1046) nk_M_alter ⟨rfl, rfl, Nat.le_of_ble_eq_true rfl, Nat.le_of_ble_eq_true rfl⟩ (by unfold isW; omega) ⟨_, ce_20 _⟩ rfl (Nat.le_of_ble_eq_true rfl) (okS_c (v := vI (ag xs i 1)) (ag_ok _ _ _) (okS_c (v := vI (ag xs i 2)) (ag_ok _ _ _) (okS_c (v := vI (ag xs i 3)) (ag_ok _ _ _) okS_0))) (Nat.le_of_ble_eq_true rfl) (fun y M2 H2 lo2 h2 hC2 hS2 => ?_)
  obtain ⟨ey, r2, k2⟩ := h2
  rw [ey]
  refine lv_icmp_eq (tgt := 1477) hx hb dl_411 rfl (fun _ => ?_) (fun q => absurd rfl q)
  exact l_back F hl hi hh (ZB_alter hZ) (RepC_keep k2 r1) r2 hC2 hS2
theorem lc_8 (F : LF p s m meth c b Lx xs E) (hh : Lhead p l e s m below meth c b E (i + 5)) (hi : i + 4 < Lx) (hZ : ZB Z) (hR : RepC Z M) (hRR : RepR Z M) (hC : wC E H M) (hS : va_S (fre E) s.heap H locs) (hl : lv_has ls 4 (lvl b E i)) : W p l e room_1 s m #[Value.ref b] below meth c H locs 600000 7302250 (lw_Z below #[Value.ref b] s) (F0 m 416 ls []) := by
  have hx := F.1
  have hb := F.2.1
  refine lv_aload_n hx hb dl_416 (i := 1) rfl (lv_at hl 1 rfl) ?_
  refine l_arg F hS hl hi (j := 1) (by decide) dl_417 dl_418 dl_419 dl_420 dl_421 ?_
  refine l_arg F hS hl hi (j := 2) (by decide) dl_422 dl_423 dl_424 dl_425 dl_426 ?_
  refine l_arg F hS hl hi (j := 3) (by decide) dl_427 dl_428 dl_429 dl_430 dl_431 ?_
  refine l_call F hC hS hl (mm' := mm_H_train) (t := 0) (k := 0) (ci := 6) (As := [vI (ag xs i 1), vI (ag xs i 2), vI (ag xs i 3)]) (rest := []) (Q' := fun x M1 => x = (sp_train Z (ag xs i 1) (ag xs i 2) (ag xs i 3)).1 ∧ RepC (sp_train Z (ag xs i 1) (ag xs i 2) (ag xs i 3)).2 M1 ∧ keepR M M1) (H_train hZ hR (fun M9 r9 k9 => ⟨rfl, r9, k9⟩)) dl_432 (ws5 wd_553 wd_554 wd_555 wd_63 wd_556) nk_H_train ⟨rfl, rfl, Nat.le_of_ble_eq_true rfl, Nat.le_of_ble_eq_true rfl⟩ (by unfold isW; omega) ⟨_, ce_0 _⟩ rfl (Nat.le_of_ble_eq_true rfl) (okS_c (v := vI (ag xs i 1)) (ag_ok _ _ _) (okS_c (v := vI (ag xs i 2)) (ag_ok _ _ _) (okS_c (v := vI (ag xs i 3)) (ag_ok _ _ _) okS_0))) (Nat.le_of_ble_eq_true rfl) (fun x M1 H1 lo1 h1 hC1 hS1 => ?_)
  obtain ⟨ex, r1, k1⟩ := h1
  rw [ex]
  refine lv_aload_n hx hb dl_435 (i := 2) rfl (lv_at hl 2 rfl) ?_
  refine l_arg F hS1 hl hi (j := 1) (by decide) dl_436 dl_437 dl_438 dl_439 dl_440 ?_
  refine l_arg F hS1 hl hi (j := 2) (by decide) dl_441 dl_442 dl_443 dl_444 dl_445 ?_
  refine l_arg F hS1 hl hi (j := 3) (by decide) dl_446 dl_447 dl_448 dl_449 dl_450 ?_
  refine l_call F hC1 hS1 hl (mm' := mm_M_train) (t := 20) (k := 0) (ci := 7) (As := [vI (ag xs i 1), vI (ag xs i 2), vI (ag xs i 3)]) (rest := [vI (sp_train Z (ag xs i 1) (ag xs i 2) (ag xs i 3)).1]) (Q' := fun y M2 => y = (sp_train Z (ag xs i 1) (ag xs i 2) (ag xs i 3)).1 ∧ RepR (sp_train Z (ag xs i 1) (ag xs i 2) (ag xs i 3)).2 M2 ∧ keepC M1 M2) (M_train hZ (RepR_keep k1 hRR) (fun M9 r9 k9 => ⟨rfl, r9, k9⟩)) dl_451 (ws5 wd_1055 wd_1056 wd_1057 wd_70 wd_1058) nk_M_train ⟨rfl, rfl, Nat.le_of_ble_eq_true rfl, Nat.le_of_ble_eq_true rfl⟩ (by unfold isW; omega) ⟨_, ce_20 _⟩ rfl (Nat.le_of_ble_eq_true rfl) (okS_c (v := vI (ag xs i 1)) (ag_ok _ _ _) (okS_c (v := vI (ag xs i 2)) (ag_ok _ _ _) (okS_c (v := vI (ag xs i 3)) (ag_ok _ _ _) okS_0))) (Nat.le_of_ble_eq_true rfl) (fun y M2 H2 lo2 h2 hC2 hS2 => ?_)
  obtain ⟨ey, r2, k2⟩ := h2
  rw [ey]
  refine lv_icmp_eq (tgt := 1477) hx hb dl_454 rfl (fun _ => ?_) (fun q => absurd rfl q)
  exact l_back F hl hi hh (ZB_train hZ) (RepC_keep k2 r1) r2 hC2 hS2
theorem lc_9 (F : LF p s m meth c b Lx xs E) (hh : Lhead p l e s m below meth c b E (i + 5)) (hi : i + 4 < Lx) (hZ : ZB Z) (hR : RepC Z M) (hRR : RepR Z M) (hC : wC E H M) (hS : va_S (fre E) s.heap H locs) (hl : lv_has ls 4 (lvl b E i)) : W p l e room_1 s m #[Value.ref b] below meth c H locs 600000 7302250 (lw_Z below #[Value.ref b] s) (F0 m 459 ls []) := by
  have hx := F.1
  have hb := F.2.1
  refine lv_aload_n hx hb dl_459 (i := 1) rfl (lv_at hl 1 rfl) ?_
  refine l_arg F hS hl hi (j := 1) (by decide) dl_460 dl_461 dl_462 dl_463 dl_464 ?_
  refine l_arg F hS hl hi (j := 2) (by decide) dl_465 dl_466 dl_467 dl_468 dl_469 ?_
  refine l_call F hC hS hl (mm' := mm_H_set) (t := 0) (k := 0) (ci := 6) (As := [vI (ag xs i 1), vI (ag xs i 2)]) (rest := []) (Q' := fun x M1 => x = (sp_set Z (ag xs i 1) (ag xs i 2)).1 ∧ RepC (sp_set Z (ag xs i 1) (ag xs i 2)).2 M1 ∧ keepR M M1) (H_set hZ hR (fun M9 r9 k9 => ⟨rfl, r9, k9⟩)) dl_470 (ws5 wd_557 wd_558 wd_559 wd_63 wd_560) nk_H_set ⟨rfl, rfl, Nat.le_of_ble_eq_true rfl, Nat.le_of_ble_eq_true rfl⟩ (by unfold isW; omega) ⟨_, ce_0 _⟩ rfl (Nat.le_of_ble_eq_true rfl) (okS_c (v := vI (ag xs i 1)) (ag_ok _ _ _) (okS_c (v := vI (ag xs i 2)) (ag_ok _ _ _) okS_0)) (Nat.le_of_ble_eq_true rfl) (fun x M1 H1 lo1 h1 hC1 hS1 => ?_)
  obtain ⟨ex, r1, k1⟩ := h1
  rw [ex]
  refine lv_aload_n hx hb dl_473 (i := 2) rfl (lv_at hl 2 rfl) ?_
  refine l_arg F hS1 hl hi (j := 1) (by decide) dl_474 dl_475 dl_476 dl_477 dl_478 ?_
  refine l_arg F hS1 hl hi (j := 2) (by decide) dl_479 dl_480 dl_481 dl_482 dl_483 ?_
  refine l_call F hC1 hS1 hl (mm' := mm_M_set) (t := 20) (k := 0) (ci := 7) (As := [vI (ag xs i 1), vI (ag xs i 2)]) (rest := [vI (sp_set Z (ag xs i 1) (ag xs i 2)).1]) (Q' := fun y M2 => y = (sp_set Z (ag xs i 1) (ag xs i 2)).1 ∧ RepR (sp_set Z (ag xs i 1) (ag xs i 2)).2 M2 ∧ keepC M1 M2) (M_set hZ (RepR_keep k1 hRR) (fun M9 r9 k9 => ⟨rfl, r9, k9⟩)) dl_484 (ws5 wd_1061 wd_1062 wd_1063 wd_70 wd_1064) nk_M_set ⟨rfl, rfl, Nat.le_of_ble_eq_true rfl, Nat.le_of_ble_eq_true rfl⟩ (by unfold isW; omega) ⟨_, ce_20 _⟩ rfl (Nat.le_of_ble_eq_true rfl) (okS_c (v := vI (ag xs i 1)) (ag_ok _ _ _) (okS_c (v := vI (ag xs i 2)) (ag_ok _ _ _) okS_0)) (Nat.le_of_ble_eq_true rfl) (fun y M2 H2 lo2 h2 hC2 hS2 => ?_)
  obtain ⟨ey, r2, k2⟩ := h2
  rw [ey]
  refine lv_icmp_eq (tgt := 1477) hx hb dl_487 rfl (fun _ => ?_) (fun q => absurd rfl q)
  exact l_back F hl hi hh (ZB_set hZ) (RepC_keep k2 r1) r2 hC2 hS2
theorem lc_10 (F : LF p s m meth c b Lx xs E) (hh : Lhead p l e s m below meth c b E (i + 5)) (hi : i + 4 < Lx) (hZ : ZB Z) (hR : RepC Z M) (hRR : RepR Z M) (hC : wC E H M) (hS : va_S (fre E) s.heap H locs) (hl : lv_has ls 4 (lvl b E i)) : W p l e room_1 s m #[Value.ref b] below meth c H locs 600000 7302250 (lw_Z below #[Value.ref b] s) (F0 m 492 ls []) := by
  have hx := F.1
  have hb := F.2.1
  refine lv_aload_n hx hb dl_492 (i := 1) rfl (lv_at hl 1 rfl) ?_
  refine l_arg F hS hl hi (j := 1) (by decide) dl_493 dl_494 dl_495 dl_496 dl_497 ?_
  refine l_arg F hS hl hi (j := 2) (by decide) dl_498 dl_499 dl_500 dl_501 dl_502 ?_
  refine l_arg F hS hl hi (j := 3) (by decide) dl_503 dl_504 dl_505 dl_506 dl_507 ?_
  refine l_call F hC hS hl (mm' := mm_H_stock) (t := 0) (k := 0) (ci := 6) (As := [vI (ag xs i 1), vI (ag xs i 2), vI (ag xs i 3)]) (rest := []) (Q' := fun x M1 => x = (sp_stock Z (ag xs i 1) (ag xs i 2) (ag xs i 3)).1 ∧ RepC (sp_stock Z (ag xs i 1) (ag xs i 2) (ag xs i 3)).2 M1 ∧ keepR M M1) (H_stock hZ hR (fun M9 r9 k9 => ⟨rfl, r9, k9⟩)) dl_508 (ws5 wd_561 wd_562 wd_563 wd_63 wd_564) nk_H_stock ⟨rfl, rfl, Nat.le_of_ble_eq_true rfl, Nat.le_of_ble_eq_true rfl⟩ (by unfold isW; omega) ⟨_, ce_0 _⟩ rfl (Nat.le_of_ble_eq_true rfl) (okS_c (v := vI (ag xs i 1)) (ag_ok _ _ _) (okS_c (v := vI (ag xs i 2)) (ag_ok _ _ _) (okS_c (v := vI (ag xs i 3)) (ag_ok _ _ _) okS_0))) (Nat.le_of_ble_eq_true rfl) (fun x M1 H1 lo1 h1 hC1 hS1 => ?_)
  obtain ⟨ex, r1, k1⟩ := h1
  rw [ex]
  refine lv_aload_n hx hb dl_511 (i := 2) rfl (lv_at hl 2 rfl) ?_
  refine l_arg F hS1 hl hi (j := 1) (by decide) dl_512 dl_513 dl_514 dl_515 dl_516 ?_
  refine l_arg F hS1 hl hi (j := 2) (by decide) dl_517 dl_518 dl_519 dl_520 dl_521 ?_
  refine l_arg F hS1 hl hi (j := 3) (by decide) dl_522 dl_523 dl_524 dl_525 dl_526 ?_
  refine l_call F hC1 hS1 hl (mm' := mm_M_stock) (t := 20) (k := 0) (ci := 7) (As := [vI (ag xs i 1), vI (ag xs i 2), vI (ag xs i 3)]) (rest := [vI (sp_stock Z (ag xs i 1) (ag xs i 2) (ag xs i 3)).1]) (Q' := fun y M2 => y = (sp_stock Z (ag xs i 1) (ag xs i 2) (ag xs i 3)).1 ∧ RepR (sp_stock Z (ag xs i 1) (ag xs i 2) (ag xs i 3)).2 M2 ∧ keepC M1 M2) (M_stock hZ (RepR_keep k1 hRR) (fun M9 r9 k9 => ⟨rfl, r9, k9⟩)) dl_527 (ws5 wd_1066 wd_1067 wd_1068 wd_70 wd_1069) nk_M_stock ⟨rfl, rfl, Nat.le_of_ble_eq_true rfl, Nat.le_of_ble_eq_true rfl⟩ (by unfold isW; omega) ⟨_, ce_20 _⟩ rfl (Nat.le_of_ble_eq_true rfl) (okS_c (v := vI (ag xs i 1)) (ag_ok _ _ _) (okS_c (v := vI (ag xs i 2)) (ag_ok _ _ _) (okS_c (v := vI (ag xs i 3)) (ag_ok _ _ _) okS_0))) (Nat.le_of_ble_eq_true rfl) (fun y M2 H2 lo2 h2 hC2 hS2 => ?_)
  obtain ⟨ey, r2, k2⟩ := h2
  rw [ey]
  refine lv_icmp_eq (tgt := 1477) hx hb dl_530 rfl (fun _ => ?_) (fun q => absurd rfl q)
  exact l_back F hl hi hh (ZB_stock hZ) (RepC_keep k2 r1) r2 hC2 hS2
theorem lc_11 (F : LF p s m meth c b Lx xs E) (hh : Lhead p l e s m below meth c b E (i + 5)) (hi : i + 4 < Lx) (hZ : ZB Z) (hR : RepC Z M) (hRR : RepR Z M) (hC : wC E H M) (hS : va_S (fre E) s.heap H locs) (hl : lv_has ls 4 (lvl b E i)) : W p l e room_1 s m #[Value.ref b] below meth c H locs 600000 7302250 (lw_Z below #[Value.ref b] s) (F0 m 535 ls []) := by
  have hx := F.1
  have hb := F.2.1
  refine lv_aload_n hx hb dl_535 (i := 1) rfl (lv_at hl 1 rfl) ?_
  refine l_arg F hS hl hi (j := 1) (by decide) dl_536 dl_537 dl_538 dl_539 dl_540 ?_
  refine l_call F hC hS hl (mm' := mm_H_hide) (t := 0) (k := 0) (ci := 6) (As := [vI (ag xs i 1)]) (rest := []) (Q' := fun x M1 => x = (sp_hide Z (ag xs i 1)).1 ∧ RepC (sp_hide Z (ag xs i 1)).2 M1 ∧ keepR M M1) (H_hide hZ hR (fun M9 r9 k9 => ⟨rfl, r9, k9⟩)) dl_541 (ws5 wd_566 wd_567 wd_568 wd_63 wd_569) nk_H_hide ⟨rfl, rfl, Nat.le_of_ble_eq_true rfl, Nat.le_of_ble_eq_true rfl⟩ (by unfold isW; omega) ⟨_, ce_0 _⟩ rfl (Nat.le_of_ble_eq_true rfl) (okS_c (v := vI (ag xs i 1)) (ag_ok _ _ _) okS_0) (Nat.le_of_ble_eq_true rfl) (fun x M1 H1 lo1 h1 hC1 hS1 => ?_)
  obtain ⟨ex, r1, k1⟩ := h1
  rw [ex]
  refine lv_aload_n hx hb dl_544 (i := 2) rfl (lv_at hl 2 rfl) ?_
  refine l_arg F hS1 hl hi (j := 1) (by decide) dl_545 dl_546 dl_547 dl_548 dl_549 ?_
  refine l_call F hC1 hS1 hl (mm' := mm_M_hide) (t := 20) (k := 0) (ci := 7) (As := [vI (ag xs i 1)]) (rest := [vI (sp_hide Z (ag xs i 1)).1]) (Q' := fun y M2 => y = (sp_hide Z (ag xs i 1)).1 ∧ RepR (sp_hide Z (ag xs i 1)).2 M2 ∧ keepC M1 M2) (M_hide hZ (RepR_keep k1 hRR) (fun M9 r9 k9 => ⟨rfl, r9, k9⟩)) dl_550 (ws5 wd_1074 wd_1075 wd_1076 wd_70 wd_1077) nk_M_hide ⟨rfl, rfl, Nat.le_of_ble_eq_true rfl, Nat.le_of_ble_eq_true rfl⟩ (by unfold isW; omega) ⟨_, ce_20 _⟩ rfl (Nat.le_of_ble_eq_true rfl) (okS_c (v := vI (ag xs i 1)) (ag_ok _ _ _) okS_0) (Nat.le_of_ble_eq_true rfl) (fun y M2 H2 lo2 h2 hC2 hS2 => ?_)
  obtain ⟨ey, r2, k2⟩ := h2
  rw [ey]
  refine lv_icmp_eq (tgt := 1477) hx hb dl_553 rfl (fun _ => ?_) (fun q => absurd rfl q)
  exact l_back F hl hi hh (ZB_hide hZ) (RepC_keep k2 r1) r2 hC2 hS2
theorem lc_12 (F : LF p s m meth c b Lx xs E) (hh : Lhead p l e s m below meth c b E (i + 5)) (hi : i + 4 < Lx) (hZ : ZB Z) (hR : RepC Z M) (hRR : RepR Z M) (hC : wC E H M) (hS : va_S (fre E) s.heap H locs) (hl : lv_has ls 4 (lvl b E i)) : W p l e room_1 s m #[Value.ref b] below meth c H locs 600000 7302250 (lw_Z below #[Value.ref b] s) (F0 m 558 ls []) := by
  have hx := F.1
  have hb := F.2.1
  refine lv_aload_n hx hb dl_558 (i := 1) rfl (lv_at hl 1 rfl) ?_
  refine l_call F hC hS hl (mm' := mm_H_fill) (t := 0) (k := 0) (ci := 6) (As := []) (rest := []) (Q' := fun x M1 => x = (sp_fill Z).1 ∧ RepC (sp_fill Z).2 M1 ∧ keepR M M1) (H_fill hZ hR (fun M9 r9 k9 => ⟨rfl, r9, k9⟩)) dl_559 (ws5 wd_570 wd_571 wd_572 wd_63 wd_573) nk_H_fill ⟨rfl, rfl, Nat.le_of_ble_eq_true rfl, Nat.le_of_ble_eq_true rfl⟩ (by unfold isW; omega) ⟨_, ce_0 _⟩ rfl (Nat.le_of_ble_eq_true rfl) okS_0 (Nat.le_of_ble_eq_true rfl) (fun x M1 H1 lo1 h1 hC1 hS1 => ?_)
  obtain ⟨ex, r1, k1⟩ := h1
  rw [ex]
  refine lv_aload_n hx hb dl_562 (i := 2) rfl (lv_at hl 2 rfl) ?_
  refine l_call F hC1 hS1 hl (mm' := mm_M_fill) (t := 20) (k := 0) (ci := 7) (As := []) (rest := [vI (sp_fill Z).1]) (Q' := fun y M2 => y = (sp_fill Z).1 ∧ RepR (sp_fill Z).2 M2 ∧ keepC M1 M2) (M_fill hZ (RepR_keep k1 hRR) (fun M9 r9 k9 => ⟨rfl, r9, k9⟩)) dl_563 (ws5 wd_1078 wd_1079 wd_1080 wd_70 wd_1081) nk_M_fill ⟨rfl, rfl, Nat.le_of_ble_eq_true rfl, Nat.le_of_ble_eq_true rfl⟩ (by unfold isW; omega) ⟨_, ce_20 _⟩ rfl (Nat.le_of_ble_eq_true rfl) okS_0 (Nat.le_of_ble_eq_true rfl) (fun y M2 H2 lo2 h2 hC2 hS2 => ?_)
  obtain ⟨ey, r2, k2⟩ := h2
  rw [ey]
  refine lv_icmp_eq (tgt := 1477) hx hb dl_566 rfl (fun _ => ?_) (fun q => absurd rfl q)
  exact l_back F hl hi hh (ZB_fill hZ) (RepC_keep k2 r1) r2 hC2 hS2
theorem lc_13 (F : LF p s m meth c b Lx xs E) (hh : Lhead p l e s m below meth c b E (i + 5)) (hi : i + 4 < Lx) (hZ : ZB Z) (hR : RepC Z M) (hRR : RepR Z M) (hC : wC E H M) (hS : va_S (fre E) s.heap H locs) (hl : lv_has ls 4 (lvl b E i)) : W p l e room_1 s m #[Value.ref b] below meth c H locs 600000 7302250 (lw_Z below #[Value.ref b] s) (F0 m 571 ls []) := by
  have hx := F.1
  have hb := F.2.1
  refine lv_aload_n hx hb dl_571 (i := 1) rfl (lv_at hl 1 rfl) ?_
  refine l_arg F hS hl hi (j := 1) (by decide) dl_572 dl_573 dl_574 dl_575 dl_576 ?_
  refine l_call F hC hS hl (mm' := mm_H_weeks) (t := 0) (k := 0) (ci := 6) (As := [vI (ag xs i 1)]) (rest := []) (Q' := fun x M1 => x = (sp_weeks Z (ag xs i 1)).1 ∧ RepC (sp_weeks Z (ag xs i 1)).2 M1 ∧ keepR M M1) (H_weeks hZ hR (fun M9 r9 k9 => ⟨rfl, r9, k9⟩)) dl_577 (ws5 wd_578 wd_579 wd_580 wd_63 wd_581) nk_H_weeks ⟨rfl, rfl, Nat.le_of_ble_eq_true rfl, Nat.le_of_ble_eq_true rfl⟩ (by unfold isW; omega) ⟨_, ce_0 _⟩ rfl (Nat.le_of_ble_eq_true rfl) (okS_c (v := vI (ag xs i 1)) (ag_ok _ _ _) okS_0) (Nat.le_of_ble_eq_true rfl) (fun x M1 H1 lo1 h1 hC1 hS1 => ?_)
  obtain ⟨ex, r1, k1⟩ := h1
  rw [ex]
  refine lv_aload_n hx hb dl_580 (i := 2) rfl (lv_at hl 2 rfl) ?_
  refine l_arg F hS1 hl hi (j := 1) (by decide) dl_581 dl_582 dl_583 dl_584 dl_585 ?_
  refine l_call F hC1 hS1 hl (mm' := mm_M_weeks) (t := 20) (k := 0) (ci := 7) (As := [vI (ag xs i 1)]) (rest := [vI (sp_weeks Z (ag xs i 1)).1]) (Q' := fun y M2 => y = (sp_weeks Z (ag xs i 1)).1 ∧ RepR (sp_weeks Z (ag xs i 1)).2 M2 ∧ keepC M1 M2) (M_weeks hZ (RepR_keep k1 hRR) (fun M9 r9 k9 => ⟨rfl, r9, k9⟩)) dl_586 (ws5 wd_1082 wd_1083 wd_1084 wd_70 wd_1085) nk_M_weeks ⟨rfl, rfl, Nat.le_of_ble_eq_true rfl, Nat.le_of_ble_eq_true rfl⟩ (by unfold isW; omega) ⟨_, ce_20 _⟩ rfl (Nat.le_of_ble_eq_true rfl) (okS_c (v := vI (ag xs i 1)) (ag_ok _ _ _) okS_0) (Nat.le_of_ble_eq_true rfl) (fun y M2 H2 lo2 h2 hC2 hS2 => ?_)
  obtain ⟨ey, r2, k2⟩ := h2
  rw [ey]
  refine lv_icmp_eq (tgt := 1477) hx hb dl_589 rfl (fun _ => ?_) (fun q => absurd rfl q)
  exact l_back F hl hi hh (ZB_weeks hZ) (RepC_keep k2 r1) r2 hC2 hS2
theorem lc_14 (F : LF p s m meth c b Lx xs E) (hh : Lhead p l e s m below meth c b E (i + 5)) (hi : i + 4 < Lx) (hZ : ZB Z) (hR : RepC Z M) (hRR : RepR Z M) (hC : wC E H M) (hS : va_S (fre E) s.heap H locs) (hl : lv_has ls 4 (lvl b E i)) : W p l e room_1 s m #[Value.ref b] below meth c H locs 600000 7302250 (lw_Z below #[Value.ref b] s) (F0 m 594 ls []) := by
  have hx := F.1
  have hb := F.2.1
  refine lv_aload_n hx hb dl_594 (i := 1) rfl (lv_at hl 1 rfl) ?_
  refine l_arg F hS hl hi (j := 1) (by decide) dl_595 dl_596 dl_597 dl_598 dl_599 ?_
  refine l_arg F hS hl hi (j := 2) (by decide) dl_600 dl_601 dl_602 dl_603 dl_604 ?_
  refine l_call F hC hS hl (mm' := mm_H_runs) (t := 0) (k := 0) (ci := 6) (As := [vI (ag xs i 1), vI (ag xs i 2)]) (rest := []) (Q' := fun x M1 => x = (sp_runs Z (ag xs i 1) (ag xs i 2)) ∧ RepC Z M1 ∧ keepR M M1) (H_runs hZ hR (fun M9 r9 k9 => ⟨rfl, r9, k9⟩)) dl_605 (ws5 wd_604 wd_605 wd_606 wd_63 wd_607) nk_H_runs ⟨rfl, rfl, Nat.le_of_ble_eq_true rfl, Nat.le_of_ble_eq_true rfl⟩ (by unfold isW; omega) ⟨_, ce_0 _⟩ rfl (Nat.le_of_ble_eq_true rfl) (okS_c (v := vI (ag xs i 1)) (ag_ok _ _ _) (okS_c (v := vI (ag xs i 2)) (ag_ok _ _ _) okS_0)) (Nat.le_of_ble_eq_true rfl) (fun x M1 H1 lo1 h1 hC1 hS1 => ?_)
  obtain ⟨ex, r1, k1⟩ := h1
  rw [ex]
  refine lv_aload_n hx hb dl_608 (i := 2) rfl (lv_at hl 2 rfl) ?_
  refine l_arg F hS1 hl hi (j := 1) (by decide) dl_609 dl_610 dl_611 dl_612 dl_613 ?_
  refine l_arg F hS1 hl hi (j := 2) (by decide) dl_614 dl_615 dl_616 dl_617 dl_618 ?_
  refine l_call F hC1 hS1 hl (mm' := mm_M_runs) (t := 20) (k := 0) (ci := 7) (As := [vI (ag xs i 1), vI (ag xs i 2)]) (rest := [vI (sp_runs Z (ag xs i 1) (ag xs i 2))]) (Q' := fun y M2 => y = (sp_runs Z (ag xs i 1) (ag xs i 2)) ∧ RepR Z M2 ∧ keepC M1 M2) (M_runs hZ (RepR_keep k1 hRR) (fun M9 r9 k9 => ⟨rfl, r9, k9⟩)) dl_619 (ws5 wd_1099 wd_1100 wd_1101 wd_70 wd_1102) nk_M_runs ⟨rfl, rfl, Nat.le_of_ble_eq_true rfl, Nat.le_of_ble_eq_true rfl⟩ (by unfold isW; omega) ⟨_, ce_20 _⟩ rfl (Nat.le_of_ble_eq_true rfl) (okS_c (v := vI (ag xs i 1)) (ag_ok _ _ _) (okS_c (v := vI (ag xs i 2)) (ag_ok _ _ _) okS_0)) (Nat.le_of_ble_eq_true rfl) (fun y M2 H2 lo2 h2 hC2 hS2 => ?_)
  obtain ⟨ey, r2, k2⟩ := h2
  rw [ey]
  refine lv_icmp_eq (tgt := 1477) hx hb dl_622 rfl (fun _ => ?_) (fun q => absurd rfl q)
  exact l_back F hl hi hh hZ (RepC_keep k2 r1) r2 hC2 hS2
theorem lc_15 (F : LF p s m meth c b Lx xs E) (hh : Lhead p l e s m below meth c b E (i + 5)) (hi : i + 4 < Lx) (hZ : ZB Z) (hR : RepC Z M) (hRR : RepR Z M) (hC : wC E H M) (hS : va_S (fre E) s.heap H locs) (hl : lv_has ls 4 (lvl b E i)) : W p l e room_1 s m #[Value.ref b] below meth c H locs 600000 7302250 (lw_Z below #[Value.ref b] s) (F0 m 627 ls []) := by
  have hx := F.1
  have hb := F.2.1
  refine lv_aload_n hx hb dl_627 (i := 1) rfl (lv_at hl 1 rfl) ?_
  refine l_arg F hS hl hi (j := 1) (by decide) dl_628 dl_629 dl_630 dl_631 dl_632 ?_
  refine l_arg F hS hl hi (j := 2) (by decide) dl_633 dl_634 dl_635 dl_636 dl_637 ?_
  refine l_arg F hS hl hi (j := 3) (by decide) dl_638 dl_639 dl_640 dl_641 dl_642 ?_
  refine l_call F hC hS hl (mm' := mm_H_ahead) (t := 0) (k := 0) (ci := 6) (As := [vI (ag xs i 1), vI (ag xs i 2), vI (ag xs i 3)]) (rest := []) (Q' := fun x M1 => x = (sp_ahead Z (ag xs i 1) (ag xs i 2) (ag xs i 3)) ∧ RepC Z M1 ∧ keepR M M1) (H_ahead hZ hR (fun M9 r9 k9 => ⟨rfl, r9, k9⟩)) dl_643 (ws5 wd_612 wd_613 wd_614 wd_63 wd_615) nk_H_ahead ⟨rfl, rfl, Nat.le_of_ble_eq_true rfl, Nat.le_of_ble_eq_true rfl⟩ (by unfold isW; omega) ⟨_, ce_0 _⟩ rfl (Nat.le_of_ble_eq_true rfl) (okS_c (v := vI (ag xs i 1)) (ag_ok _ _ _) (okS_c (v := vI (ag xs i 2)) (ag_ok _ _ _) (okS_c (v := vI (ag xs i 3)) (ag_ok _ _ _) okS_0))) (Nat.le_of_ble_eq_true rfl) (fun x M1 H1 lo1 h1 hC1 hS1 => ?_)
  obtain ⟨ex, r1, k1⟩ := h1
  rw [ex]
  refine lv_aload_n hx hb dl_646 (i := 2) rfl (lv_at hl 2 rfl) ?_
  refine l_arg F hS1 hl hi (j := 1) (by decide) dl_647 dl_648 dl_649 dl_650 dl_651 ?_
  refine l_arg F hS1 hl hi (j := 2) (by decide) dl_652 dl_653 dl_654 dl_655 dl_656 ?_
  refine l_arg F hS1 hl hi (j := 3) (by decide) dl_657 dl_658 dl_659 dl_660 dl_661 ?_
  refine l_call F hC1 hS1 hl (mm' := mm_M_ahead) (t := 20) (k := 0) (ci := 7) (As := [vI (ag xs i 1), vI (ag xs i 2), vI (ag xs i 3)]) (rest := [vI (sp_ahead Z (ag xs i 1) (ag xs i 2) (ag xs i 3))]) (Q' := fun y M2 => y = (sp_ahead Z (ag xs i 1) (ag xs i 2) (ag xs i 3)) ∧ RepR Z M2 ∧ keepC M1 M2) (M_ahead hZ (RepR_keep k1 hRR) (fun M9 r9 k9 => ⟨rfl, r9, k9⟩)) dl_662 (ws5 wd_1113 wd_1114 wd_1115 wd_70 wd_1116) nk_M_ahead ⟨rfl, rfl, Nat.le_of_ble_eq_true rfl, Nat.le_of_ble_eq_true rfl⟩ (by unfold isW; omega) ⟨_, ce_20 _⟩ rfl (Nat.le_of_ble_eq_true rfl) (okS_c (v := vI (ag xs i 1)) (ag_ok _ _ _) (okS_c (v := vI (ag xs i 2)) (ag_ok _ _ _) (okS_c (v := vI (ag xs i 3)) (ag_ok _ _ _) okS_0))) (Nat.le_of_ble_eq_true rfl) (fun y M2 H2 lo2 h2 hC2 hS2 => ?_)
  obtain ⟨ey, r2, k2⟩ := h2
  rw [ey]
  refine lv_icmp_eq (tgt := 1477) hx hb dl_665 rfl (fun _ => ?_) (fun q => absurd rfl q)
  exact l_back F hl hi hh hZ (RepC_keep k2 r1) r2 hC2 hS2
theorem lc_16 (F : LF p s m meth c b Lx xs E) (hh : Lhead p l e s m below meth c b E (i + 5)) (hi : i + 4 < Lx) (hZ : ZB Z) (hR : RepC Z M) (hRR : RepR Z M) (hC : wC E H M) (hS : va_S (fre E) s.heap H locs) (hl : lv_has ls 4 (lvl b E i)) : W p l e room_1 s m #[Value.ref b] below meth c H locs 600000 7302250 (lw_Z below #[Value.ref b] s) (F0 m 670 ls []) := by
  have hx := F.1
  have hb := F.2.1
  refine lv_aload_n hx hb dl_670 (i := 1) rfl (lv_at hl 1 rfl) ?_
  refine l_arg F hS hl hi (j := 1) (by decide) dl_671 dl_672 dl_673 dl_674 dl_675 ?_
  refine l_call F hC hS hl (mm' := mm_H_gone) (t := 0) (k := 0) (ci := 6) (As := [vI (ag xs i 1)]) (rest := []) (Q' := fun x M1 => x = (sp_gone Z (ag xs i 1)) ∧ RepC Z M1 ∧ keepR M M1) (H_gone hZ hR (fun M9 r9 k9 => ⟨rfl, r9, k9⟩)) dl_676 (ws5 wd_616 wd_617 wd_618 wd_63 wd_619) nk_H_gone ⟨rfl, rfl, Nat.le_of_ble_eq_true rfl, Nat.le_of_ble_eq_true rfl⟩ (by unfold isW; omega) ⟨_, ce_0 _⟩ rfl (Nat.le_of_ble_eq_true rfl) (okS_c (v := vI (ag xs i 1)) (ag_ok _ _ _) okS_0) (Nat.le_of_ble_eq_true rfl) (fun x M1 H1 lo1 h1 hC1 hS1 => ?_)
  obtain ⟨ex, r1, k1⟩ := h1
  rw [ex]
  refine lv_aload_n hx hb dl_679 (i := 2) rfl (lv_at hl 2 rfl) ?_
  refine l_arg F hS1 hl hi (j := 1) (by decide) dl_680 dl_681 dl_682 dl_683 dl_684 ?_
  refine l_call F hC1 hS1 hl (mm' := mm_M_gone) (t := 20) (k := 0) (ci := 7) (As := [vI (ag xs i 1)]) (rest := [vI (sp_gone Z (ag xs i 1))]) (Q' := fun y M2 => y = (sp_gone Z (ag xs i 1)) ∧ RepR Z M2 ∧ keepC M1 M2) (M_gone hZ (RepR_keep k1 hRR) (fun M9 r9 k9 => ⟨rfl, r9, k9⟩)) dl_685 (ws5 wd_1117 wd_1118 wd_1119 wd_70 wd_1120) nk_M_gone ⟨rfl, rfl, Nat.le_of_ble_eq_true rfl, Nat.le_of_ble_eq_true rfl⟩ (by unfold isW; omega) ⟨_, ce_20 _⟩ rfl (Nat.le_of_ble_eq_true rfl) (okS_c (v := vI (ag xs i 1)) (ag_ok _ _ _) okS_0) (Nat.le_of_ble_eq_true rfl) (fun y M2 H2 lo2 h2 hC2 hS2 => ?_)
  obtain ⟨ey, r2, k2⟩ := h2
  rw [ey]
  refine lv_icmp_eq (tgt := 1477) hx hb dl_688 rfl (fun _ => ?_) (fun q => absurd rfl q)
  exact l_back F hl hi hh hZ (RepC_keep k2 r1) r2 hC2 hS2
theorem lc_17 (F : LF p s m meth c b Lx xs E) (hh : Lhead p l e s m below meth c b E (i + 5)) (hi : i + 4 < Lx) (hZ : ZB Z) (hR : RepC Z M) (hRR : RepR Z M) (hC : wC E H M) (hS : va_S (fre E) s.heap H locs) (hl : lv_has ls 4 (lvl b E i)) : W p l e room_1 s m #[Value.ref b] below meth c H locs 600000 7302250 (lw_Z below #[Value.ref b] s) (F0 m 693 ls []) := by
  have hx := F.1
  have hb := F.2.1
  refine lv_aload_n hx hb dl_693 (i := 1) rfl (lv_at hl 1 rfl) ?_
  refine l_arg F hS hl hi (j := 1) (by decide) dl_694 dl_695 dl_696 dl_697 dl_698 ?_
  refine l_arg F hS hl hi (j := 2) (by decide) dl_699 dl_700 dl_701 dl_702 dl_703 ?_
  refine l_call F hC hS hl (mm' := mm_H_rich) (t := 0) (k := 0) (ci := 6) (As := [vI (ag xs i 1), vI (ag xs i 2)]) (rest := []) (Q' := fun x M1 => x = (sp_rich Z (ag xs i 1) (ag xs i 2)) ∧ RepC Z M1 ∧ keepR M M1) (H_rich hZ hR (fun M9 r9 k9 => ⟨rfl, r9, k9⟩)) dl_704 (ws5 wd_622 wd_623 wd_624 wd_63 wd_625) nk_H_rich ⟨rfl, rfl, Nat.le_of_ble_eq_true rfl, Nat.le_of_ble_eq_true rfl⟩ (by unfold isW; omega) ⟨_, ce_0 _⟩ rfl (Nat.le_of_ble_eq_true rfl) (okS_c (v := vI (ag xs i 1)) (ag_ok _ _ _) (okS_c (v := vI (ag xs i 2)) (ag_ok _ _ _) okS_0)) (Nat.le_of_ble_eq_true rfl) (fun x M1 H1 lo1 h1 hC1 hS1 => ?_)
  obtain ⟨ex, r1, k1⟩ := h1
  rw [ex]
  refine lv_aload_n hx hb dl_707 (i := 2) rfl (lv_at hl 2 rfl) ?_
  refine l_arg F hS1 hl hi (j := 1) (by decide) dl_708 dl_709 dl_710 dl_711 dl_712 ?_
  refine l_arg F hS1 hl hi (j := 2) (by decide) dl_713 dl_714 dl_715 dl_716 dl_717 ?_
  refine l_call F hC1 hS1 hl (mm' := mm_M_rich) (t := 20) (k := 0) (ci := 7) (As := [vI (ag xs i 1), vI (ag xs i 2)]) (rest := [vI (sp_rich Z (ag xs i 1) (ag xs i 2))]) (Q' := fun y M2 => y = (sp_rich Z (ag xs i 1) (ag xs i 2)) ∧ RepR Z M2 ∧ keepC M1 M2) (M_rich hZ (RepR_keep k1 hRR) (fun M9 r9 k9 => ⟨rfl, r9, k9⟩)) dl_718 (ws5 wd_1121 wd_1122 wd_1123 wd_70 wd_1124) nk_M_rich ⟨rfl, rfl, Nat.le_of_ble_eq_true rfl, Nat.le_of_ble_eq_true rfl⟩ (by unfold isW; omega) ⟨_, ce_20 _⟩ rfl (Nat.le_of_ble_eq_true rfl) (okS_c (v := vI (ag xs i 1)) (ag_ok _ _ _) (okS_c (v := vI (ag xs i 2)) (ag_ok _ _ _) okS_0)) (Nat.le_of_ble_eq_true rfl) (fun y M2 H2 lo2 h2 hC2 hS2 => ?_)
  obtain ⟨ey, r2, k2⟩ := h2
  rw [ey]
  refine lv_icmp_eq (tgt := 1477) hx hb dl_721 rfl (fun _ => ?_) (fun q => absurd rfl q)
  exact l_back F hl hi hh hZ (RepC_keep k2 r1) r2 hC2 hS2
theorem lc_18 (F : LF p s m meth c b Lx xs E) (hh : Lhead p l e s m below meth c b E (i + 5)) (hi : i + 4 < Lx) (hZ : ZB Z) (hR : RepC Z M) (hRR : RepR Z M) (hC : wC E H M) (hS : va_S (fre E) s.heap H locs) (hl : lv_has ls 4 (lvl b E i)) : W p l e room_1 s m #[Value.ref b] below meth c H locs 600000 7302250 (lw_Z below #[Value.ref b] s) (F0 m 726 ls []) := by
  have hx := F.1
  have hb := F.2.1
  refine lv_aload_n hx hb dl_726 (i := 1) rfl (lv_at hl 1 rfl) ?_
  refine l_arg F hS hl hi (j := 1) (by decide) dl_727 dl_728 dl_729 dl_730 dl_731 ?_
  refine l_arg F hS hl hi (j := 2) (by decide) dl_732 dl_733 dl_734 dl_735 dl_736 ?_
  refine l_call F hC hS hl (mm' := mm_H_arms) (t := 0) (k := 0) (ci := 6) (As := [vI (ag xs i 1), vI (ag xs i 2)]) (rest := []) (Q' := fun x M1 => x = (sp_arms Z (ag xs i 1) (ag xs i 2)) ∧ RepC Z M1 ∧ keepR M M1) (H_arms hZ hR (fun M9 r9 k9 => ⟨rfl, r9, k9⟩)) dl_737 (ws5 wd_626 wd_627 wd_628 wd_63 wd_629) nk_H_arms ⟨rfl, rfl, Nat.le_of_ble_eq_true rfl, Nat.le_of_ble_eq_true rfl⟩ (by unfold isW; omega) ⟨_, ce_0 _⟩ rfl (Nat.le_of_ble_eq_true rfl) (okS_c (v := vI (ag xs i 1)) (ag_ok _ _ _) (okS_c (v := vI (ag xs i 2)) (ag_ok _ _ _) okS_0)) (Nat.le_of_ble_eq_true rfl) (fun x M1 H1 lo1 h1 hC1 hS1 => ?_)
  obtain ⟨ex, r1, k1⟩ := h1
  rw [ex]
  refine lv_aload_n hx hb dl_740 (i := 2) rfl (lv_at hl 2 rfl) ?_
  refine l_arg F hS1 hl hi (j := 1) (by decide) dl_741 dl_742 dl_743 dl_744 dl_745 ?_
  refine l_arg F hS1 hl hi (j := 2) (by decide) dl_746 dl_747 dl_748 dl_749 dl_750 ?_
  refine l_call F hC1 hS1 hl (mm' := mm_M_arms) (t := 20) (k := 0) (ci := 7) (As := [vI (ag xs i 1), vI (ag xs i 2)]) (rest := [vI (sp_arms Z (ag xs i 1) (ag xs i 2))]) (Q' := fun y M2 => y = (sp_arms Z (ag xs i 1) (ag xs i 2)) ∧ RepR Z M2 ∧ keepC M1 M2) (M_arms hZ (RepR_keep k1 hRR) (fun M9 r9 k9 => ⟨rfl, r9, k9⟩)) dl_751 (ws5 wd_1125 wd_1126 wd_1127 wd_70 wd_1128) nk_M_arms ⟨rfl, rfl, Nat.le_of_ble_eq_true rfl, Nat.le_of_ble_eq_true rfl⟩ (by unfold isW; omega) ⟨_, ce_20 _⟩ rfl (Nat.le_of_ble_eq_true rfl) (okS_c (v := vI (ag xs i 1)) (ag_ok _ _ _) (okS_c (v := vI (ag xs i 2)) (ag_ok _ _ _) okS_0)) (Nat.le_of_ble_eq_true rfl) (fun y M2 H2 lo2 h2 hC2 hS2 => ?_)
  obtain ⟨ey, r2, k2⟩ := h2
  rw [ey]
  refine lv_icmp_eq (tgt := 1477) hx hb dl_754 rfl (fun _ => ?_) (fun q => absurd rfl q)
  exact l_back F hl hi hh hZ (RepC_keep k2 r1) r2 hC2 hS2
theorem lc_19 (F : LF p s m meth c b Lx xs E) (hh : Lhead p l e s m below meth c b E (i + 5)) (hi : i + 4 < Lx) (hZ : ZB Z) (hR : RepC Z M) (hRR : RepR Z M) (hC : wC E H M) (hS : va_S (fre E) s.heap H locs) (hl : lv_has ls 4 (lvl b E i)) : W p l e room_1 s m #[Value.ref b] below meth c H locs 600000 7302250 (lw_Z below #[Value.ref b] s) (F0 m 759 ls []) := by
  have hx := F.1
  have hb := F.2.1
  refine lv_aload_n hx hb dl_759 (i := 1) rfl (lv_at hl 1 rfl) ?_
  refine l_arg F hS hl hi (j := 1) (by decide) dl_760 dl_761 dl_762 dl_763 dl_764 ?_
  refine l_arg F hS hl hi (j := 2) (by decide) dl_765 dl_766 dl_767 dl_768 dl_769 ?_
  refine l_call F hC hS hl (mm' := mm_H_need) (t := 0) (k := 0) (ci := 6) (As := [vI (ag xs i 1), vI (ag xs i 2)]) (rest := []) (Q' := fun x M1 => x = (sp_need Z (ag xs i 1) (ag xs i 2)) ∧ RepC Z M1 ∧ keepR M M1) (H_need hZ hR (fun M9 r9 k9 => ⟨rfl, r9, k9⟩)) dl_770 (ws5 wd_638 wd_639 wd_640 wd_63 wd_641) nk_H_need ⟨rfl, rfl, Nat.le_of_ble_eq_true rfl, Nat.le_of_ble_eq_true rfl⟩ (by unfold isW; omega) ⟨_, ce_0 _⟩ rfl (Nat.le_of_ble_eq_true rfl) (okS_c (v := vI (ag xs i 1)) (ag_ok _ _ _) (okS_c (v := vI (ag xs i 2)) (ag_ok _ _ _) okS_0)) (Nat.le_of_ble_eq_true rfl) (fun x M1 H1 lo1 h1 hC1 hS1 => ?_)
  obtain ⟨ex, r1, k1⟩ := h1
  rw [ex]
  refine lv_aload_n hx hb dl_773 (i := 2) rfl (lv_at hl 2 rfl) ?_
  refine l_arg F hS1 hl hi (j := 1) (by decide) dl_774 dl_775 dl_776 dl_777 dl_778 ?_
  refine l_arg F hS1 hl hi (j := 2) (by decide) dl_779 dl_780 dl_781 dl_782 dl_783 ?_
  refine l_call F hC1 hS1 hl (mm' := mm_M_need) (t := 20) (k := 0) (ci := 7) (As := [vI (ag xs i 1), vI (ag xs i 2)]) (rest := [vI (sp_need Z (ag xs i 1) (ag xs i 2))]) (Q' := fun y M2 => y = (sp_need Z (ag xs i 1) (ag xs i 2)) ∧ RepR Z M2 ∧ keepC M1 M2) (M_need hZ (RepR_keep k1 hRR) (fun M9 r9 k9 => ⟨rfl, r9, k9⟩)) dl_784 (ws5 wd_1130 wd_1131 wd_1132 wd_70 wd_1133) nk_M_need ⟨rfl, rfl, Nat.le_of_ble_eq_true rfl, Nat.le_of_ble_eq_true rfl⟩ (by unfold isW; omega) ⟨_, ce_20 _⟩ rfl (Nat.le_of_ble_eq_true rfl) (okS_c (v := vI (ag xs i 1)) (ag_ok _ _ _) (okS_c (v := vI (ag xs i 2)) (ag_ok _ _ _) okS_0)) (Nat.le_of_ble_eq_true rfl) (fun y M2 H2 lo2 h2 hC2 hS2 => ?_)
  obtain ⟨ey, r2, k2⟩ := h2
  rw [ey]
  refine lv_icmp_eq (tgt := 1477) hx hb dl_787 rfl (fun _ => ?_) (fun q => absurd rfl q)
  exact l_back F hl hi hh hZ (RepC_keep k2 r1) r2 hC2 hS2
theorem lc_20 (F : LF p s m meth c b Lx xs E) (hh : Lhead p l e s m below meth c b E (i + 5)) (hi : i + 4 < Lx) (hZ : ZB Z) (hR : RepC Z M) (hRR : RepR Z M) (hC : wC E H M) (hS : va_S (fre E) s.heap H locs) (hl : lv_has ls 4 (lvl b E i)) : W p l e room_1 s m #[Value.ref b] below meth c H locs 600000 7302250 (lw_Z below #[Value.ref b] s) (F0 m 792 ls []) := by
  have hx := F.1
  have hb := F.2.1
  refine lv_aload_n hx hb dl_792 (i := 1) rfl (lv_at hl 1 rfl) ?_
  refine l_arg F hS hl hi (j := 1) (by decide) dl_793 dl_794 dl_795 dl_796 dl_797 ?_
  refine l_arg F hS hl hi (j := 2) (by decide) dl_798 dl_799 dl_800 dl_801 dl_802 ?_
  refine l_call F hC hS hl (mm' := mm_H_fair) (t := 0) (k := 0) (ci := 6) (As := [vI (ag xs i 1), vI (ag xs i 2)]) (rest := []) (Q' := fun x M1 => x = (sp_fair Z (ag xs i 1) (ag xs i 2)) ∧ RepC Z M1 ∧ keepR M M1) (H_fair hZ hR (fun M9 r9 k9 => ⟨rfl, r9, k9⟩)) dl_803 (ws5 wd_642 wd_643 wd_644 wd_63 wd_645) nk_H_fair ⟨rfl, rfl, Nat.le_of_ble_eq_true rfl, Nat.le_of_ble_eq_true rfl⟩ (by unfold isW; omega) ⟨_, ce_0 _⟩ rfl (Nat.le_of_ble_eq_true rfl) (okS_c (v := vI (ag xs i 1)) (ag_ok _ _ _) (okS_c (v := vI (ag xs i 2)) (ag_ok _ _ _) okS_0)) (Nat.le_of_ble_eq_true rfl) (fun x M1 H1 lo1 h1 hC1 hS1 => ?_)
  obtain ⟨ex, r1, k1⟩ := h1
  rw [ex]
  refine lv_aload_n hx hb dl_806 (i := 2) rfl (lv_at hl 2 rfl) ?_
  refine l_arg F hS1 hl hi (j := 1) (by decide) dl_807 dl_808 dl_809 dl_810 dl_811 ?_
  refine l_arg F hS1 hl hi (j := 2) (by decide) dl_812 dl_813 dl_814 dl_815 dl_816 ?_
  refine l_call F hC1 hS1 hl (mm' := mm_M_fair) (t := 20) (k := 0) (ci := 7) (As := [vI (ag xs i 1), vI (ag xs i 2)]) (rest := [vI (sp_fair Z (ag xs i 1) (ag xs i 2))]) (Q' := fun y M2 => y = (sp_fair Z (ag xs i 1) (ag xs i 2)) ∧ RepR Z M2 ∧ keepC M1 M2) (M_fair hZ (RepR_keep k1 hRR) (fun M9 r9 k9 => ⟨rfl, r9, k9⟩)) dl_817 (ws5 wd_1134 wd_1135 wd_1136 wd_70 wd_1137) nk_M_fair ⟨rfl, rfl, Nat.le_of_ble_eq_true rfl, Nat.le_of_ble_eq_true rfl⟩ (by unfold isW; omega) ⟨_, ce_20 _⟩ rfl (Nat.le_of_ble_eq_true rfl) (okS_c (v := vI (ag xs i 1)) (ag_ok _ _ _) (okS_c (v := vI (ag xs i 2)) (ag_ok _ _ _) okS_0)) (Nat.le_of_ble_eq_true rfl) (fun y M2 H2 lo2 h2 hC2 hS2 => ?_)
  obtain ⟨ey, r2, k2⟩ := h2
  rw [ey]
  refine lv_icmp_eq (tgt := 1477) hx hb dl_820 rfl (fun _ => ?_) (fun q => absurd rfl q)
  exact l_back F hl hi hh hZ (RepC_keep k2 r1) r2 hC2 hS2
theorem lc_21 (F : LF p s m meth c b Lx xs E) (hh : Lhead p l e s m below meth c b E (i + 5)) (hi : i + 4 < Lx) (hZ : ZB Z) (hR : RepC Z M) (hRR : RepR Z M) (hC : wC E H M) (hS : va_S (fre E) s.heap H locs) (hl : lv_has ls 4 (lvl b E i)) : W p l e room_1 s m #[Value.ref b] below meth c H locs 600000 7302250 (lw_Z below #[Value.ref b] s) (F0 m 825 ls []) := by
  have hx := F.1
  have hb := F.2.1
  refine lv_aload_n hx hb dl_825 (i := 1) rfl (lv_at hl 1 rfl) ?_
  refine l_arg F hS hl hi (j := 1) (by decide) dl_826 dl_827 dl_828 dl_829 dl_830 ?_
  refine l_arg F hS hl hi (j := 2) (by decide) dl_831 dl_832 dl_833 dl_834 dl_835 ?_
  refine l_call F hC hS hl (mm' := mm_H_swap) (t := 0) (k := 0) (ci := 6) (As := [vI (ag xs i 1), vI (ag xs i 2)]) (rest := []) (Q' := fun x M1 => x = (sp_swap Z (ag xs i 1) (ag xs i 2)) ∧ RepC Z M1 ∧ keepR M M1) (H_swap hZ hR (fun M9 r9 k9 => ⟨rfl, r9, k9⟩)) dl_836 (ws5 wd_646 wd_647 wd_648 wd_63 wd_649) nk_H_swap ⟨rfl, rfl, Nat.le_of_ble_eq_true rfl, Nat.le_of_ble_eq_true rfl⟩ (by unfold isW; omega) ⟨_, ce_0 _⟩ rfl (Nat.le_of_ble_eq_true rfl) (okS_c (v := vI (ag xs i 1)) (ag_ok _ _ _) (okS_c (v := vI (ag xs i 2)) (ag_ok _ _ _) okS_0)) (Nat.le_of_ble_eq_true rfl) (fun x M1 H1 lo1 h1 hC1 hS1 => ?_)
  obtain ⟨ex, r1, k1⟩ := h1
  rw [ex]
  refine lv_aload_n hx hb dl_839 (i := 2) rfl (lv_at hl 2 rfl) ?_
  refine l_arg F hS1 hl hi (j := 1) (by decide) dl_840 dl_841 dl_842 dl_843 dl_844 ?_
  refine l_arg F hS1 hl hi (j := 2) (by decide) dl_845 dl_846 dl_847 dl_848 dl_849 ?_
  refine l_call F hC1 hS1 hl (mm' := mm_M_swap) (t := 20) (k := 0) (ci := 7) (As := [vI (ag xs i 1), vI (ag xs i 2)]) (rest := [vI (sp_swap Z (ag xs i 1) (ag xs i 2))]) (Q' := fun y M2 => y = (sp_swap Z (ag xs i 1) (ag xs i 2)) ∧ RepR Z M2 ∧ keepC M1 M2) (M_swap hZ (RepR_keep k1 hRR) (fun M9 r9 k9 => ⟨rfl, r9, k9⟩)) dl_850 (ws5 wd_1138 wd_1139 wd_1140 wd_70 wd_1141) nk_M_swap ⟨rfl, rfl, Nat.le_of_ble_eq_true rfl, Nat.le_of_ble_eq_true rfl⟩ (by unfold isW; omega) ⟨_, ce_20 _⟩ rfl (Nat.le_of_ble_eq_true rfl) (okS_c (v := vI (ag xs i 1)) (ag_ok _ _ _) (okS_c (v := vI (ag xs i 2)) (ag_ok _ _ _) okS_0)) (Nat.le_of_ble_eq_true rfl) (fun y M2 H2 lo2 h2 hC2 hS2 => ?_)
  obtain ⟨ey, r2, k2⟩ := h2
  rw [ey]
  refine lv_icmp_eq (tgt := 1477) hx hb dl_853 rfl (fun _ => ?_) (fun q => absurd rfl q)
  exact l_back F hl hi hh hZ (RepC_keep k2 r1) r2 hC2 hS2
theorem lc_22 (F : LF p s m meth c b Lx xs E) (hh : Lhead p l e s m below meth c b E (i + 5)) (hi : i + 4 < Lx) (hZ : ZB Z) (hR : RepC Z M) (hRR : RepR Z M) (hC : wC E H M) (hS : va_S (fre E) s.heap H locs) (hl : lv_has ls 4 (lvl b E i)) : W p l e room_1 s m #[Value.ref b] below meth c H locs 600000 7302250 (lw_Z below #[Value.ref b] s) (F0 m 858 ls []) := by
  have hx := F.1
  have hb := F.2.1
  refine lv_aload_n hx hb dl_858 (i := 1) rfl (lv_at hl 1 rfl) ?_
  refine l_arg F hS hl hi (j := 1) (by decide) dl_859 dl_860 dl_861 dl_862 dl_863 ?_
  refine l_arg F hS hl hi (j := 2) (by decide) dl_864 dl_865 dl_866 dl_867 dl_868 ?_
  refine l_call F hC hS hl (mm' := mm_H_lose) (t := 0) (k := 0) (ci := 6) (As := [vI (ag xs i 1), vI (ag xs i 2)]) (rest := []) (Q' := fun x M1 => x = (sp_lose Z (ag xs i 1) (ag xs i 2)) ∧ RepC Z M1 ∧ keepR M M1) (H_lose hZ hR (fun M9 r9 k9 => ⟨rfl, r9, k9⟩)) dl_869 (ws5 wd_662 wd_663 wd_664 wd_63 wd_665) nk_H_lose ⟨rfl, rfl, Nat.le_of_ble_eq_true rfl, Nat.le_of_ble_eq_true rfl⟩ (by unfold isW; omega) ⟨_, ce_0 _⟩ rfl (Nat.le_of_ble_eq_true rfl) (okS_c (v := vI (ag xs i 1)) (ag_ok _ _ _) (okS_c (v := vI (ag xs i 2)) (ag_ok _ _ _) okS_0)) (Nat.le_of_ble_eq_true rfl) (fun x M1 H1 lo1 h1 hC1 hS1 => ?_)
  obtain ⟨ex, r1, k1⟩ := h1
  rw [ex]
  refine lv_aload_n hx hb dl_872 (i := 2) rfl (lv_at hl 2 rfl) ?_
  refine l_arg F hS1 hl hi (j := 1) (by decide) dl_873 dl_874 dl_875 dl_876 dl_877 ?_
  refine l_arg F hS1 hl hi (j := 2) (by decide) dl_878 dl_879 dl_880 dl_881 dl_882 ?_
  refine l_call F hC1 hS1 hl (mm' := mm_M_lose) (t := 20) (k := 0) (ci := 7) (As := [vI (ag xs i 1), vI (ag xs i 2)]) (rest := [vI (sp_lose Z (ag xs i 1) (ag xs i 2))]) (Q' := fun y M2 => y = (sp_lose Z (ag xs i 1) (ag xs i 2)) ∧ RepR Z M2 ∧ keepC M1 M2) (M_lose hZ (RepR_keep k1 hRR) (fun M9 r9 k9 => ⟨rfl, r9, k9⟩)) dl_883 (ws5 wd_1142 wd_1143 wd_1144 wd_70 wd_1145) nk_M_lose ⟨rfl, rfl, Nat.le_of_ble_eq_true rfl, Nat.le_of_ble_eq_true rfl⟩ (by unfold isW; omega) ⟨_, ce_20 _⟩ rfl (Nat.le_of_ble_eq_true rfl) (okS_c (v := vI (ag xs i 1)) (ag_ok _ _ _) (okS_c (v := vI (ag xs i 2)) (ag_ok _ _ _) okS_0)) (Nat.le_of_ble_eq_true rfl) (fun y M2 H2 lo2 h2 hC2 hS2 => ?_)
  obtain ⟨ey, r2, k2⟩ := h2
  rw [ey]
  refine lv_icmp_eq (tgt := 1477) hx hb dl_886 rfl (fun _ => ?_) (fun q => absurd rfl q)
  exact l_back F hl hi hh hZ (RepC_keep k2 r1) r2 hC2 hS2
theorem lc_23 (F : LF p s m meth c b Lx xs E) (hh : Lhead p l e s m below meth c b E (i + 5)) (hi : i + 4 < Lx) (hZ : ZB Z) (hR : RepC Z M) (hRR : RepR Z M) (hC : wC E H M) (hS : va_S (fre E) s.heap H locs) (hl : lv_has ls 4 (lvl b E i)) : W p l e room_1 s m #[Value.ref b] below meth c H locs 600000 7302250 (lw_Z below #[Value.ref b] s) (F0 m 891 ls []) := by
  have hx := F.1
  have hb := F.2.1
  refine lv_aload_n hx hb dl_891 (i := 1) rfl (lv_at hl 1 rfl) ?_
  refine l_arg F hS hl hi (j := 1) (by decide) dl_892 dl_893 dl_894 dl_895 dl_896 ?_
  refine l_call F hC hS hl (mm' := mm_H_price) (t := 0) (k := 0) (ci := 6) (As := [vI (ag xs i 1)]) (rest := []) (Q' := fun x M1 => x = (sp_price Z (ag xs i 1)) ∧ RepC Z M1 ∧ keepR M M1) (H_price hZ hR (fun M9 r9 k9 => ⟨rfl, r9, k9⟩)) dl_897 (ws5 wd_666 wd_667 wd_668 wd_63 wd_669) nk_H_price ⟨rfl, rfl, Nat.le_of_ble_eq_true rfl, Nat.le_of_ble_eq_true rfl⟩ (by unfold isW; omega) ⟨_, ce_0 _⟩ rfl (Nat.le_of_ble_eq_true rfl) (okS_c (v := vI (ag xs i 1)) (ag_ok _ _ _) okS_0) (Nat.le_of_ble_eq_true rfl) (fun x M1 H1 lo1 h1 hC1 hS1 => ?_)
  obtain ⟨ex, r1, k1⟩ := h1
  rw [ex]
  refine lv_aload_n hx hb dl_900 (i := 2) rfl (lv_at hl 2 rfl) ?_
  refine l_arg F hS1 hl hi (j := 1) (by decide) dl_901 dl_902 dl_903 dl_904 dl_905 ?_
  refine l_call F hC1 hS1 hl (mm' := mm_M_price) (t := 20) (k := 0) (ci := 7) (As := [vI (ag xs i 1)]) (rest := [vI (sp_price Z (ag xs i 1))]) (Q' := fun y M2 => y = (sp_price Z (ag xs i 1)) ∧ RepR Z M2 ∧ keepC M1 M2) (M_price hZ (RepR_keep k1 hRR) (fun M9 r9 k9 => ⟨rfl, r9, k9⟩)) dl_906 (ws5 wd_1146 wd_1147 wd_1148 wd_70 wd_1149) nk_M_price ⟨rfl, rfl, Nat.le_of_ble_eq_true rfl, Nat.le_of_ble_eq_true rfl⟩ (by unfold isW; omega) ⟨_, ce_20 _⟩ rfl (Nat.le_of_ble_eq_true rfl) (okS_c (v := vI (ag xs i 1)) (ag_ok _ _ _) okS_0) (Nat.le_of_ble_eq_true rfl) (fun y M2 H2 lo2 h2 hC2 hS2 => ?_)
  obtain ⟨ey, r2, k2⟩ := h2
  rw [ey]
  refine lv_icmp_eq (tgt := 1477) hx hb dl_909 rfl (fun _ => ?_) (fun q => absurd rfl q)
  exact l_back F hl hi hh hZ (RepC_keep k2 r1) r2 hC2 hS2
theorem lc_24 (F : LF p s m meth c b Lx xs E) (hh : Lhead p l e s m below meth c b E (i + 5)) (hi : i + 4 < Lx) (hZ : ZB Z) (hR : RepC Z M) (hRR : RepR Z M) (hC : wC E H M) (hS : va_S (fre E) s.heap H locs) (hl : lv_has ls 4 (lvl b E i)) : W p l e room_1 s m #[Value.ref b] below meth c H locs 600000 7302250 (lw_Z below #[Value.ref b] s) (F0 m 914 ls []) := by
  have hx := F.1
  have hb := F.2.1
  refine lv_aload_n hx hb dl_914 (i := 1) rfl (lv_at hl 1 rfl) ?_
  refine l_arg F hS hl hi (j := 1) (by decide) dl_915 dl_916 dl_917 dl_918 dl_919 ?_
  refine l_arg F hS hl hi (j := 2) (by decide) dl_920 dl_921 dl_922 dl_923 dl_924 ?_
  refine l_arg F hS hl hi (j := 3) (by decide) dl_925 dl_926 dl_927 dl_928 dl_929 ?_
  refine l_call F hC hS hl (mm' := mm_H_kind) (t := 0) (k := 0) (ci := 6) (As := [vI (ag xs i 1), vI (ag xs i 2), vI (ag xs i 3)]) (rest := []) (Q' := fun x M1 => x = (sp_kind Z (ag xs i 1) (ag xs i 2) (ag xs i 3)) ∧ RepC Z M1 ∧ keepR M M1) (H_kind hZ hR (fun M9 r9 k9 => ⟨rfl, r9, k9⟩)) dl_930 (ws5 wd_670 wd_671 wd_672 wd_63 wd_673) nk_H_kind ⟨rfl, rfl, Nat.le_of_ble_eq_true rfl, Nat.le_of_ble_eq_true rfl⟩ (by unfold isW; omega) ⟨_, ce_0 _⟩ rfl (Nat.le_of_ble_eq_true rfl) (okS_c (v := vI (ag xs i 1)) (ag_ok _ _ _) (okS_c (v := vI (ag xs i 2)) (ag_ok _ _ _) (okS_c (v := vI (ag xs i 3)) (ag_ok _ _ _) okS_0))) (Nat.le_of_ble_eq_true rfl) (fun x M1 H1 lo1 h1 hC1 hS1 => ?_)
  obtain ⟨ex, r1, k1⟩ := h1
  rw [ex]
  refine lv_aload_n hx hb dl_933 (i := 2) rfl (lv_at hl 2 rfl) ?_
  refine l_arg F hS1 hl hi (j := 1) (by decide) dl_934 dl_935 dl_936 dl_937 dl_938 ?_
  refine l_arg F hS1 hl hi (j := 2) (by decide) dl_939 dl_940 dl_941 dl_942 dl_943 ?_
  refine l_arg F hS1 hl hi (j := 3) (by decide) dl_944 dl_945 dl_946 dl_947 dl_948 ?_
  refine l_call F hC1 hS1 hl (mm' := mm_M_kind) (t := 20) (k := 0) (ci := 7) (As := [vI (ag xs i 1), vI (ag xs i 2), vI (ag xs i 3)]) (rest := [vI (sp_kind Z (ag xs i 1) (ag xs i 2) (ag xs i 3))]) (Q' := fun y M2 => y = (sp_kind Z (ag xs i 1) (ag xs i 2) (ag xs i 3)) ∧ RepR Z M2 ∧ keepC M1 M2) (M_kind hZ (RepR_keep k1 hRR) (fun M9 r9 k9 => ⟨rfl, r9, k9⟩)) dl_949 (ws5 wd_1150 wd_1151 wd_1152 wd_70 wd_1153) nk_M_kind ⟨rfl, rfl, Nat.le_of_ble_eq_true rfl, Nat.le_of_ble_eq_true rfl⟩ (by unfold isW; omega) ⟨_, ce_20 _⟩ rfl (Nat.le_of_ble_eq_true rfl) (okS_c (v := vI (ag xs i 1)) (ag_ok _ _ _) (okS_c (v := vI (ag xs i 2)) (ag_ok _ _ _) (okS_c (v := vI (ag xs i 3)) (ag_ok _ _ _) okS_0))) (Nat.le_of_ble_eq_true rfl) (fun y M2 H2 lo2 h2 hC2 hS2 => ?_)
  obtain ⟨ey, r2, k2⟩ := h2
  rw [ey]
  refine lv_icmp_eq (tgt := 1477) hx hb dl_952 rfl (fun _ => ?_) (fun q => absurd rfl q)
  exact l_back F hl hi hh hZ (RepC_keep k2 r1) r2 hC2 hS2
theorem lc_25 (F : LF p s m meth c b Lx xs E) (hh : Lhead p l e s m below meth c b E (i + 5)) (hi : i + 4 < Lx) (hZ : ZB Z) (hR : RepC Z M) (hRR : RepR Z M) (hC : wC E H M) (hS : va_S (fre E) s.heap H locs) (hl : lv_has ls 4 (lvl b E i)) : W p l e room_1 s m #[Value.ref b] below meth c H locs 600000 7302250 (lw_Z below #[Value.ref b] s) (F0 m 957 ls []) := by
  have hx := F.1
  have hb := F.2.1
  refine lv_aload_n hx hb dl_957 (i := 1) rfl (lv_at hl 1 rfl) ?_
  refine l_arg F hS hl hi (j := 1) (by decide) dl_958 dl_959 dl_960 dl_961 dl_962 ?_
  refine l_arg F hS hl hi (j := 2) (by decide) dl_963 dl_964 dl_965 dl_966 dl_967 ?_
  refine l_arg F hS hl hi (j := 3) (by decide) dl_968 dl_969 dl_970 dl_971 dl_972 ?_
  refine l_call F hC hS hl (mm' := mm_H_luck) (t := 0) (k := 0) (ci := 6) (As := [vI (ag xs i 1), vI (ag xs i 2), vI (ag xs i 3)]) (rest := []) (Q' := fun x M1 => x = (sp_luck Z (ag xs i 1) (ag xs i 2) (ag xs i 3)) ∧ RepC Z M1 ∧ keepR M M1) (H_luck hZ hR (fun M9 r9 k9 => ⟨rfl, r9, k9⟩)) dl_973 (ws5 wd_678 wd_679 wd_680 wd_63 wd_681) nk_H_luck ⟨rfl, rfl, Nat.le_of_ble_eq_true rfl, Nat.le_of_ble_eq_true rfl⟩ (by unfold isW; omega) ⟨_, ce_0 _⟩ rfl (Nat.le_of_ble_eq_true rfl) (okS_c (v := vI (ag xs i 1)) (ag_ok _ _ _) (okS_c (v := vI (ag xs i 2)) (ag_ok _ _ _) (okS_c (v := vI (ag xs i 3)) (ag_ok _ _ _) okS_0))) (Nat.le_of_ble_eq_true rfl) (fun x M1 H1 lo1 h1 hC1 hS1 => ?_)
  obtain ⟨ex, r1, k1⟩ := h1
  rw [ex]
  refine lv_aload_n hx hb dl_976 (i := 2) rfl (lv_at hl 2 rfl) ?_
  refine l_arg F hS1 hl hi (j := 1) (by decide) dl_977 dl_978 dl_979 dl_980 dl_981 ?_
  refine l_arg F hS1 hl hi (j := 2) (by decide) dl_982 dl_983 dl_984 dl_985 dl_986 ?_
  refine l_arg F hS1 hl hi (j := 3) (by decide) dl_987 dl_988 dl_989 dl_990 dl_991 ?_
  refine l_call F hC1 hS1 hl (mm' := mm_M_luck) (t := 20) (k := 0) (ci := 7) (As := [vI (ag xs i 1), vI (ag xs i 2), vI (ag xs i 3)]) (rest := [vL (sp_luck Z (ag xs i 1) (ag xs i 2) (ag xs i 3))]) (Q' := fun y M2 => y = (sp_luck Z (ag xs i 1) (ag xs i 2) (ag xs i 3)) ∧ RepR Z M2 ∧ keepC M1 M2) (M_luck hZ (RepR_keep k1 hRR) (fun M9 r9 k9 => ⟨rfl, r9, k9⟩)) dl_992 (ws5 wd_1154 wd_1155 wd_1156 wd_70 wd_1157) nk_M_luck ⟨rfl, rfl, Nat.le_of_ble_eq_true rfl, Nat.le_of_ble_eq_true rfl⟩ (by unfold isW; omega) ⟨_, ce_20 _⟩ rfl (Nat.le_of_ble_eq_true rfl) (okS_c (v := vI (ag xs i 1)) (ag_ok _ _ _) (okS_c (v := vI (ag xs i 2)) (ag_ok _ _ _) (okS_c (v := vI (ag xs i 3)) (ag_ok _ _ _) okS_0))) (Nat.le_of_ble_eq_true rfl) (fun y M2 H2 lo2 h2 hC2 hS2 => ?_)
  obtain ⟨ey, r2, k2⟩ := h2
  rw [ey]
  refine l_lcmp0 F (pc := 995) dl_995 dl_996 rfl ?_
  exact l_back F hl hi hh hZ (RepC_keep k2 r1) r2 hC2 hS2
theorem lc_26 (F : LF p s m meth c b Lx xs E) (hh : Lhead p l e s m below meth c b E (i + 5)) (hi : i + 4 < Lx) (hZ : ZB Z) (hR : RepC Z M) (hRR : RepR Z M) (hC : wC E H M) (hS : va_S (fre E) s.heap H locs) (hl : lv_has ls 4 (lvl b E i)) : W p l e room_1 s m #[Value.ref b] below meth c H locs 600000 7302250 (lw_Z below #[Value.ref b] s) (F0 m 1001 ls []) := by
  have hx := F.1
  have hb := F.2.1
  refine lv_aload_n hx hb dl_1001 (i := 1) rfl (lv_at hl 1 rfl) ?_
  refine l_arg F hS hl hi (j := 1) (by decide) dl_1002 dl_1003 dl_1004 dl_1005 dl_1006 ?_
  refine l_arg F hS hl hi (j := 2) (by decide) dl_1007 dl_1008 dl_1009 dl_1010 dl_1011 ?_
  refine l_arg F hS hl hi (j := 3) (by decide) dl_1012 dl_1013 dl_1014 dl_1015 dl_1016 ?_
  refine l_call F hC hS hl (mm' := mm_H_mean) (t := 0) (k := 0) (ci := 6) (As := [vI (ag xs i 1), vI (ag xs i 2), vI (ag xs i 3)]) (rest := []) (Q' := fun x M1 => x = (sp_mean Z (ag xs i 1) (ag xs i 2) (ag xs i 3)) ∧ RepC Z M1 ∧ keepR M M1) (H_mean hZ hR (fun M9 r9 k9 => ⟨rfl, r9, k9⟩)) dl_1017 (ws5 wd_702 wd_703 wd_704 wd_63 wd_705) nk_H_mean ⟨rfl, rfl, Nat.le_of_ble_eq_true rfl, Nat.le_of_ble_eq_true rfl⟩ (by unfold isW; omega) ⟨_, ce_0 _⟩ rfl (Nat.le_of_ble_eq_true rfl) (okS_c (v := vI (ag xs i 1)) (ag_ok _ _ _) (okS_c (v := vI (ag xs i 2)) (ag_ok _ _ _) (okS_c (v := vI (ag xs i 3)) (ag_ok _ _ _) okS_0))) (Nat.le_of_ble_eq_true rfl) (fun x M1 H1 lo1 h1 hC1 hS1 => ?_)
  obtain ⟨ex, r1, k1⟩ := h1
  rw [ex]
  refine lv_aload_n hx hb dl_1020 (i := 2) rfl (lv_at hl 2 rfl) ?_
  refine l_arg F hS1 hl hi (j := 1) (by decide) dl_1021 dl_1022 dl_1023 dl_1024 dl_1025 ?_
  refine l_arg F hS1 hl hi (j := 2) (by decide) dl_1026 dl_1027 dl_1028 dl_1029 dl_1030 ?_
  refine l_arg F hS1 hl hi (j := 3) (by decide) dl_1031 dl_1032 dl_1033 dl_1034 dl_1035 ?_
  refine l_call F hC1 hS1 hl (mm' := mm_M_mean) (t := 20) (k := 0) (ci := 7) (As := [vI (ag xs i 1), vI (ag xs i 2), vI (ag xs i 3)]) (rest := [vL (sp_mean Z (ag xs i 1) (ag xs i 2) (ag xs i 3))]) (Q' := fun y M2 => y = (sp_mean Z (ag xs i 1) (ag xs i 2) (ag xs i 3)) ∧ RepR Z M2 ∧ keepC M1 M2) (M_mean hZ (RepR_keep k1 hRR) (fun M9 r9 k9 => ⟨rfl, r9, k9⟩)) dl_1036 (ws5 wd_1167 wd_1168 wd_1169 wd_70 wd_1170) nk_M_mean ⟨rfl, rfl, Nat.le_of_ble_eq_true rfl, Nat.le_of_ble_eq_true rfl⟩ (by unfold isW; omega) ⟨_, ce_20 _⟩ rfl (Nat.le_of_ble_eq_true rfl) (okS_c (v := vI (ag xs i 1)) (ag_ok _ _ _) (okS_c (v := vI (ag xs i 2)) (ag_ok _ _ _) (okS_c (v := vI (ag xs i 3)) (ag_ok _ _ _) okS_0))) (Nat.le_of_ble_eq_true rfl) (fun y M2 H2 lo2 h2 hC2 hS2 => ?_)
  obtain ⟨ey, r2, k2⟩ := h2
  rw [ey]
  refine l_lcmp0 F (pc := 1039) dl_1039 dl_1040 rfl ?_
  exact l_back F hl hi hh hZ (RepC_keep k2 r1) r2 hC2 hS2
theorem lc_27 (F : LF p s m meth c b Lx xs E) (hh : Lhead p l e s m below meth c b E (i + 5)) (hi : i + 4 < Lx) (hZ : ZB Z) (hR : RepC Z M) (hRR : RepR Z M) (hC : wC E H M) (hS : va_S (fre E) s.heap H locs) (hl : lv_has ls 4 (lvl b E i)) : W p l e room_1 s m #[Value.ref b] below meth c H locs 600000 7302250 (lw_Z below #[Value.ref b] s) (F0 m 1045 ls []) := by
  have hx := F.1
  have hb := F.2.1
  refine lv_aload_n hx hb dl_1045 (i := 1) rfl (lv_at hl 1 rfl) ?_
  refine l_arg F hS hl hi (j := 1) (by decide) dl_1046 dl_1047 dl_1048 dl_1049 dl_1050 ?_
  refine l_arg F hS hl hi (j := 2) (by decide) dl_1051 dl_1052 dl_1053 dl_1054 dl_1055 ?_
  refine l_arg F hS hl hi (j := 3) (by decide) dl_1056 dl_1057 dl_1058 dl_1059 dl_1060 ?_
  refine l_call F hC hS hl (mm' := mm_H_see) (t := 0) (k := 0) (ci := 6) (As := [vI (ag xs i 1), vI (ag xs i 2), vI (ag xs i 3)]) (rest := []) (Q' := fun x M1 => x = (sp_see Z (ag xs i 1) (ag xs i 2) (ag xs i 3)).1 ∧ RepC (sp_see Z (ag xs i 1) (ag xs i 2) (ag xs i 3)).2 M1 ∧ keepR M M1) (H_see hZ hR (fun M9 r9 k9 => ⟨rfl, r9, k9⟩)) dl_1061 (ws5 wd_714 wd_715 wd_716 wd_63 wd_717) nk_H_see ⟨rfl, rfl, Nat.le_of_ble_eq_true rfl, Nat.le_of_ble_eq_true rfl⟩ (by unfold isW; omega) ⟨_, ce_0 _⟩ rfl (Nat.le_of_ble_eq_true rfl) (okS_c (v := vI (ag xs i 1)) (ag_ok _ _ _) (okS_c (v := vI (ag xs i 2)) (ag_ok _ _ _) (okS_c (v := vI (ag xs i 3)) (ag_ok _ _ _) okS_0))) (Nat.le_of_ble_eq_true rfl) (fun x M1 H1 lo1 h1 hC1 hS1 => ?_)
  obtain ⟨ex, r1, k1⟩ := h1
  rw [ex]
  refine lv_aload_n hx hb dl_1064 (i := 2) rfl (lv_at hl 2 rfl) ?_
  refine l_arg F hS1 hl hi (j := 1) (by decide) dl_1065 dl_1066 dl_1067 dl_1068 dl_1069 ?_
  refine l_arg F hS1 hl hi (j := 2) (by decide) dl_1070 dl_1071 dl_1072 dl_1073 dl_1074 ?_
  refine l_arg F hS1 hl hi (j := 3) (by decide) dl_1075 dl_1076 dl_1077 dl_1078 dl_1079 ?_
  refine l_call F hC1 hS1 hl (mm' := mm_M_see) (t := 20) (k := 0) (ci := 7) (As := [vI (ag xs i 1), vI (ag xs i 2), vI (ag xs i 3)]) (rest := [vI (sp_see Z (ag xs i 1) (ag xs i 2) (ag xs i 3)).1]) (Q' := fun y M2 => y = (sp_see Z (ag xs i 1) (ag xs i 2) (ag xs i 3)).1 ∧ RepR (sp_see Z (ag xs i 1) (ag xs i 2) (ag xs i 3)).2 M2 ∧ keepC M1 M2) (M_see hZ (RepR_keep k1 hRR) (fun M9 r9 k9 => ⟨rfl, r9, k9⟩)) dl_1080 (ws5 wd_1171 wd_1172 wd_1173 wd_70 wd_1174) nk_M_see ⟨rfl, rfl, Nat.le_of_ble_eq_true rfl, Nat.le_of_ble_eq_true rfl⟩ (by unfold isW; omega) ⟨_, ce_20 _⟩ rfl (Nat.le_of_ble_eq_true rfl) (okS_c (v := vI (ag xs i 1)) (ag_ok _ _ _) (okS_c (v := vI (ag xs i 2)) (ag_ok _ _ _) (okS_c (v := vI (ag xs i 3)) (ag_ok _ _ _) okS_0))) (Nat.le_of_ble_eq_true rfl) (fun y M2 H2 lo2 h2 hC2 hS2 => ?_)
  obtain ⟨ey, r2, k2⟩ := h2
  rw [ey]
  refine lv_icmp_eq (tgt := 1477) hx hb dl_1083 rfl (fun _ => ?_) (fun q => absurd rfl q)
  exact l_back F hl hi hh (ZB_see hZ) (RepC_keep k2 r1) r2 hC2 hS2
theorem lc_28 (F : LF p s m meth c b Lx xs E) (hh : Lhead p l e s m below meth c b E (i + 5)) (hi : i + 4 < Lx) (hZ : ZB Z) (hR : RepC Z M) (hRR : RepR Z M) (hC : wC E H M) (hS : va_S (fre E) s.heap H locs) (hl : lv_has ls 4 (lvl b E i)) : W p l e room_1 s m #[Value.ref b] below meth c H locs 600000 7302250 (lw_Z below #[Value.ref b] s) (F0 m 1088 ls []) := by
  have hx := F.1
  have hb := F.2.1
  refine lv_aload_n hx hb dl_1088 (i := 1) rfl (lv_at hl 1 rfl) ?_
  refine l_arg F hS hl hi (j := 1) (by decide) dl_1089 dl_1090 dl_1091 dl_1092 dl_1093 ?_
  refine l_call F hC hS hl (mm' := mm_H_forget) (t := 0) (k := 0) (ci := 6) (As := [vI (ag xs i 1)]) (rest := []) (Q' := fun x M1 => x = (sp_forget Z (ag xs i 1)).1 ∧ RepC (sp_forget Z (ag xs i 1)).2 M1 ∧ keepR M M1) (H_forget hZ hR (fun M9 r9 k9 => ⟨rfl, r9, k9⟩)) dl_1094 (ws5 wd_718 wd_719 wd_720 wd_63 wd_721) nk_H_forget ⟨rfl, rfl, Nat.le_of_ble_eq_true rfl, Nat.le_of_ble_eq_true rfl⟩ (by unfold isW; omega) ⟨_, ce_0 _⟩ rfl (Nat.le_of_ble_eq_true rfl) (okS_c (v := vI (ag xs i 1)) (ag_ok _ _ _) okS_0) (Nat.le_of_ble_eq_true rfl) (fun x M1 H1 lo1 h1 hC1 hS1 => ?_)
  obtain ⟨ex, r1, k1⟩ := h1
  rw [ex]
  refine lv_aload_n hx hb dl_1097 (i := 2) rfl (lv_at hl 2 rfl) ?_
  refine l_arg F hS1 hl hi (j := 1) (by decide) dl_1098 dl_1099 dl_1100 dl_1101 dl_1102 ?_
  refine l_call F hC1 hS1 hl (mm' := mm_M_forget) (t := 20) (k := 0) (ci := 7) (As := [vI (ag xs i 1)]) (rest := [vI (sp_forget Z (ag xs i 1)).1]) (Q' := fun y M2 => y = (sp_forget Z (ag xs i 1)).1 ∧ RepR (sp_forget Z (ag xs i 1)).2 M2 ∧ keepC M1 M2) (M_forget hZ (RepR_keep k1 hRR) (fun M9 r9 k9 => ⟨rfl, r9, k9⟩)) dl_1103 (ws5 wd_1175 wd_1176 wd_1177 wd_70 wd_1178) nk_M_forget ⟨rfl, rfl, Nat.le_of_ble_eq_true rfl, Nat.le_of_ble_eq_true rfl⟩ (by unfold isW; omega) ⟨_, ce_20 _⟩ rfl (Nat.le_of_ble_eq_true rfl) (okS_c (v := vI (ag xs i 1)) (ag_ok _ _ _) okS_0) (Nat.le_of_ble_eq_true rfl) (fun y M2 H2 lo2 h2 hC2 hS2 => ?_)
  obtain ⟨ey, r2, k2⟩ := h2
  rw [ey]
  refine lv_icmp_eq (tgt := 1477) hx hb dl_1106 rfl (fun _ => ?_) (fun q => absurd rfl q)
  exact l_back F hl hi hh (ZB_forget hZ) (RepC_keep k2 r1) r2 hC2 hS2
theorem lc_29 (F : LF p s m meth c b Lx xs E) (hh : Lhead p l e s m below meth c b E (i + 5)) (hi : i + 4 < Lx) (hZ : ZB Z) (hR : RepC Z M) (hRR : RepR Z M) (hC : wC E H M) (hS : va_S (fre E) s.heap H locs) (hl : lv_has ls 4 (lvl b E i)) : W p l e room_1 s m #[Value.ref b] below meth c H locs 600000 7302250 (lw_Z below #[Value.ref b] s) (F0 m 1111 ls []) := by
  have hx := F.1
  have hb := F.2.1
  refine lv_aload_n hx hb dl_1111 (i := 1) rfl (lv_at hl 1 rfl) ?_
  refine l_arg F hS hl hi (j := 1) (by decide) dl_1112 dl_1113 dl_1114 dl_1115 dl_1116 ?_
  refine l_call F hC hS hl (mm' := mm_H_kinds) (t := 0) (k := 0) (ci := 6) (As := [vI (ag xs i 1)]) (rest := []) (Q' := fun x M1 => x = (sp_kinds Z (ag xs i 1)) ∧ RepC Z M1 ∧ keepR M M1) (H_kinds hZ hR (fun M9 r9 k9 => ⟨rfl, r9, k9⟩)) dl_1117 (ws5 wd_722 wd_723 wd_724 wd_63 wd_725) nk_H_kinds ⟨rfl, rfl, Nat.le_of_ble_eq_true rfl, Nat.le_of_ble_eq_true rfl⟩ (by unfold isW; omega) ⟨_, ce_0 _⟩ rfl (Nat.le_of_ble_eq_true rfl) (okS_c (v := vI (ag xs i 1)) (ag_ok _ _ _) okS_0) (Nat.le_of_ble_eq_true rfl) (fun x M1 H1 lo1 h1 hC1 hS1 => ?_)
  obtain ⟨ex, r1, k1⟩ := h1
  rw [ex]
  refine lv_aload_n hx hb dl_1120 (i := 2) rfl (lv_at hl 2 rfl) ?_
  refine l_arg F hS1 hl hi (j := 1) (by decide) dl_1121 dl_1122 dl_1123 dl_1124 dl_1125 ?_
  refine l_call F hC1 hS1 hl (mm' := mm_M_kinds) (t := 20) (k := 0) (ci := 7) (As := [vI (ag xs i 1)]) (rest := [vI (sp_kinds Z (ag xs i 1))]) (Q' := fun y M2 => y = (sp_kinds Z (ag xs i 1)) ∧ RepR Z M2 ∧ keepC M1 M2) (M_kinds hZ (RepR_keep k1 hRR) (fun M9 r9 k9 => ⟨rfl, r9, k9⟩)) dl_1126 (ws5 wd_1179 wd_1180 wd_1181 wd_70 wd_1182) nk_M_kinds ⟨rfl, rfl, Nat.le_of_ble_eq_true rfl, Nat.le_of_ble_eq_true rfl⟩ (by unfold isW; omega) ⟨_, ce_20 _⟩ rfl (Nat.le_of_ble_eq_true rfl) (okS_c (v := vI (ag xs i 1)) (ag_ok _ _ _) okS_0) (Nat.le_of_ble_eq_true rfl) (fun y M2 H2 lo2 h2 hC2 hS2 => ?_)
  obtain ⟨ey, r2, k2⟩ := h2
  rw [ey]
  refine lv_icmp_eq (tgt := 1477) hx hb dl_1129 rfl (fun _ => ?_) (fun q => absurd rfl q)
  exact l_back F hl hi hh hZ (RepC_keep k2 r1) r2 hC2 hS2
theorem lc_30 (F : LF p s m meth c b Lx xs E) (hh : Lhead p l e s m below meth c b E (i + 5)) (hi : i + 4 < Lx) (hZ : ZB Z) (hR : RepC Z M) (hRR : RepR Z M) (hC : wC E H M) (hS : va_S (fre E) s.heap H locs) (hl : lv_has ls 4 (lvl b E i)) : W p l e room_1 s m #[Value.ref b] below meth c H locs 600000 7302250 (lw_Z below #[Value.ref b] s) (F0 m 1134 ls []) := by
  have hx := F.1
  have hb := F.2.1
  refine lv_aload_n hx hb dl_1134 (i := 1) rfl (lv_at hl 1 rfl) ?_
  refine l_arg F hS hl hi (j := 1) (by decide) dl_1135 dl_1136 dl_1137 dl_1138 dl_1139 ?_
  refine l_call F hC hS hl (mm' := mm_H_weights) (t := 0) (k := 0) (ci := 6) (As := [vI (ag xs i 1)]) (rest := []) (Q' := fun x M1 => x = (sp_weights Z (ag xs i 1)) ∧ RepC Z M1 ∧ keepR M M1) (H_weights hZ hR (fun M9 r9 k9 => ⟨rfl, r9, k9⟩)) dl_1140 (ws5 wd_739 wd_740 wd_741 wd_63 wd_742) nk_H_weights ⟨rfl, rfl, Nat.le_of_ble_eq_true rfl, Nat.le_of_ble_eq_true rfl⟩ (by unfold isW; omega) ⟨_, ce_0 _⟩ rfl (Nat.le_of_ble_eq_true rfl) (okS_c (v := vI (ag xs i 1)) (ag_ok _ _ _) okS_0) (Nat.le_of_ble_eq_true rfl) (fun x M1 H1 lo1 h1 hC1 hS1 => ?_)
  obtain ⟨ex, r1, k1⟩ := h1
  rw [ex]
  refine lv_aload_n hx hb dl_1143 (i := 2) rfl (lv_at hl 2 rfl) ?_
  refine l_arg F hS1 hl hi (j := 1) (by decide) dl_1144 dl_1145 dl_1146 dl_1147 dl_1148 ?_
  refine l_call F hC1 hS1 hl (mm' := mm_M_weights) (t := 20) (k := 0) (ci := 7) (As := [vI (ag xs i 1)]) (rest := [vI (sp_weights Z (ag xs i 1))]) (Q' := fun y M2 => y = (sp_weights Z (ag xs i 1)) ∧ RepR Z M2 ∧ keepC M1 M2) (M_weights hZ (RepR_keep k1 hRR) (fun M9 r9 k9 => ⟨rfl, r9, k9⟩)) dl_1149 (ws5 wd_1191 wd_1192 wd_1193 wd_70 wd_1194) nk_M_weights ⟨rfl, rfl, Nat.le_of_ble_eq_true rfl, Nat.le_of_ble_eq_true rfl⟩ (by unfold isW; omega) ⟨_, ce_20 _⟩ rfl (Nat.le_of_ble_eq_true rfl) (okS_c (v := vI (ag xs i 1)) (ag_ok _ _ _) okS_0) (Nat.le_of_ble_eq_true rfl) (fun y M2 H2 lo2 h2 hC2 hS2 => ?_)
  obtain ⟨ey, r2, k2⟩ := h2
  rw [ey]
  refine lv_icmp_eq (tgt := 1477) hx hb dl_1152 rfl (fun _ => ?_) (fun q => absurd rfl q)
  exact l_back F hl hi hh hZ (RepC_keep k2 r1) r2 hC2 hS2
theorem lc_31 (F : LF p s m meth c b Lx xs E) (hh : Lhead p l e s m below meth c b E (i + 5)) (hi : i + 4 < Lx) (hZ : ZB Z) (hR : RepC Z M) (hRR : RepR Z M) (hC : wC E H M) (hS : va_S (fre E) s.heap H locs) (hl : lv_has ls 4 (lvl b E i)) : W p l e room_1 s m #[Value.ref b] below meth c H locs 600000 7302250 (lw_Z below #[Value.ref b] s) (F0 m 1157 ls []) := by
  have hx := F.1
  have hb := F.2.1
  refine lv_aload_n hx hb dl_1157 (i := 1) rfl (lv_at hl 1 rfl) ?_
  refine l_arg F hS hl hi (j := 1) (by decide) dl_1158 dl_1159 dl_1160 dl_1161 dl_1162 ?_
  refine l_call F hC hS hl (mm' := mm_H_strengths) (t := 0) (k := 0) (ci := 6) (As := [vI (ag xs i 1)]) (rest := []) (Q' := fun x M1 => x = (sp_strengths Z (ag xs i 1)) ∧ RepC Z M1 ∧ keepR M M1) (H_strengths hZ hR (fun M9 r9 k9 => ⟨rfl, r9, k9⟩)) dl_1163 (ws5 wd_743 wd_744 wd_745 wd_63 wd_746) nk_H_strengths ⟨rfl, rfl, Nat.le_of_ble_eq_true rfl, Nat.le_of_ble_eq_true rfl⟩ (by unfold isW; omega) ⟨_, ce_0 _⟩ rfl (Nat.le_of_ble_eq_true rfl) (okS_c (v := vI (ag xs i 1)) (ag_ok _ _ _) okS_0) (Nat.le_of_ble_eq_true rfl) (fun x M1 H1 lo1 h1 hC1 hS1 => ?_)
  obtain ⟨ex, r1, k1⟩ := h1
  rw [ex]
  refine lv_aload_n hx hb dl_1166 (i := 2) rfl (lv_at hl 2 rfl) ?_
  refine l_arg F hS1 hl hi (j := 1) (by decide) dl_1167 dl_1168 dl_1169 dl_1170 dl_1171 ?_
  refine l_call F hC1 hS1 hl (mm' := mm_M_strengths) (t := 20) (k := 0) (ci := 7) (As := [vI (ag xs i 1)]) (rest := [vI (sp_strengths Z (ag xs i 1))]) (Q' := fun y M2 => y = (sp_strengths Z (ag xs i 1)) ∧ RepR Z M2 ∧ keepC M1 M2) (M_strengths hZ (RepR_keep k1 hRR) (fun M9 r9 k9 => ⟨rfl, r9, k9⟩)) dl_1172 (ws5 wd_1195 wd_1196 wd_1197 wd_70 wd_1198) nk_M_strengths ⟨rfl, rfl, Nat.le_of_ble_eq_true rfl, Nat.le_of_ble_eq_true rfl⟩ (by unfold isW; omega) ⟨_, ce_20 _⟩ rfl (Nat.le_of_ble_eq_true rfl) (okS_c (v := vI (ag xs i 1)) (ag_ok _ _ _) okS_0) (Nat.le_of_ble_eq_true rfl) (fun y M2 H2 lo2 h2 hC2 hS2 => ?_)
  obtain ⟨ey, r2, k2⟩ := h2
  rw [ey]
  refine lv_icmp_eq (tgt := 1477) hx hb dl_1175 rfl (fun _ => ?_) (fun q => absurd rfl q)
  exact l_back F hl hi hh hZ (RepC_keep k2 r1) r2 hC2 hS2
theorem lc_32 (F : LF p s m meth c b Lx xs E) (hh : Lhead p l e s m below meth c b E (i + 5)) (hi : i + 4 < Lx) (hZ : ZB Z) (hR : RepC Z M) (hRR : RepR Z M) (hC : wC E H M) (hS : va_S (fre E) s.heap H locs) (hl : lv_has ls 4 (lvl b E i)) : W p l e room_1 s m #[Value.ref b] below meth c H locs 600000 7302250 (lw_Z below #[Value.ref b] s) (F0 m 1180 ls []) := by
  have hx := F.1
  have hb := F.2.1
  refine lv_aload_n hx hb dl_1180 (i := 1) rfl (lv_at hl 1 rfl) ?_
  refine l_arg F hS hl hi (j := 1) (by decide) dl_1181 dl_1182 dl_1183 dl_1184 dl_1185 ?_
  refine l_arg F hS hl hi (j := 2) (by decide) dl_1186 dl_1187 dl_1188 dl_1189 dl_1190 ?_
  refine l_call F hC hS hl (mm' := mm_H_ask) (t := 0) (k := 0) (ci := 6) (As := [vI (ag xs i 1), vI (ag xs i 2)]) (rest := []) (Q' := fun x M1 => x = (sp_ask Z (ag xs i 1) (ag xs i 2)) ∧ RepC Z M1 ∧ keepR M M1) (H_ask hZ hR (fun M9 r9 k9 => ⟨rfl, r9, k9⟩)) dl_1191 (ws5 wd_751 wd_752 wd_753 wd_63 wd_754) nk_H_ask ⟨rfl, rfl, Nat.le_of_ble_eq_true rfl, Nat.le_of_ble_eq_true rfl⟩ (by unfold isW; omega) ⟨_, ce_0 _⟩ rfl (Nat.le_of_ble_eq_true rfl) (okS_c (v := vI (ag xs i 1)) (ag_ok _ _ _) (okS_c (v := vI (ag xs i 2)) (ag_ok _ _ _) okS_0)) (Nat.le_of_ble_eq_true rfl) (fun x M1 H1 lo1 h1 hC1 hS1 => ?_)
  obtain ⟨ex, r1, k1⟩ := h1
  rw [ex]
  refine lv_aload_n hx hb dl_1194 (i := 2) rfl (lv_at hl 2 rfl) ?_
  refine l_arg F hS1 hl hi (j := 1) (by decide) dl_1195 dl_1196 dl_1197 dl_1198 dl_1199 ?_
  refine l_arg F hS1 hl hi (j := 2) (by decide) dl_1200 dl_1201 dl_1202 dl_1203 dl_1204 ?_
  refine l_call F hC1 hS1 hl (mm' := mm_M_ask) (t := 20) (k := 0) (ci := 7) (As := [vI (ag xs i 1), vI (ag xs i 2)]) (rest := [vI (sp_ask Z (ag xs i 1) (ag xs i 2))]) (Q' := fun y M2 => y = (sp_ask Z (ag xs i 1) (ag xs i 2)) ∧ RepR Z M2 ∧ keepC M1 M2) (M_ask hZ (RepR_keep k1 hRR) (fun M9 r9 k9 => ⟨rfl, r9, k9⟩)) dl_1205 (ws5 wd_1199 wd_1200 wd_1201 wd_70 wd_1202) nk_M_ask ⟨rfl, rfl, Nat.le_of_ble_eq_true rfl, Nat.le_of_ble_eq_true rfl⟩ (by unfold isW; omega) ⟨_, ce_20 _⟩ rfl (Nat.le_of_ble_eq_true rfl) (okS_c (v := vI (ag xs i 1)) (ag_ok _ _ _) (okS_c (v := vI (ag xs i 2)) (ag_ok _ _ _) okS_0)) (Nat.le_of_ble_eq_true rfl) (fun y M2 H2 lo2 h2 hC2 hS2 => ?_)
  obtain ⟨ey, r2, k2⟩ := h2
  rw [ey]
  refine lv_icmp_eq (tgt := 1477) hx hb dl_1208 rfl (fun _ => ?_) (fun q => absurd rfl q)
  exact l_back F hl hi hh hZ (RepC_keep k2 r1) r2 hC2 hS2
theorem lc_33 (F : LF p s m meth c b Lx xs E) (hh : Lhead p l e s m below meth c b E (i + 5)) (hi : i + 4 < Lx) (hZ : ZB Z) (hR : RepC Z M) (hRR : RepR Z M) (hC : wC E H M) (hS : va_S (fre E) s.heap H locs) (hl : lv_has ls 4 (lvl b E i)) : W p l e room_1 s m #[Value.ref b] below meth c H locs 600000 7302250 (lw_Z below #[Value.ref b] s) (F0 m 1213 ls []) := by
  have hx := F.1
  have hb := F.2.1
  refine lv_aload_n hx hb dl_1213 (i := 1) rfl (lv_at hl 1 rfl) ?_
  refine l_arg F hS hl hi (j := 1) (by decide) dl_1214 dl_1215 dl_1216 dl_1217 dl_1218 ?_
  refine l_arg F hS hl hi (j := 2) (by decide) dl_1219 dl_1220 dl_1221 dl_1222 dl_1223 ?_
  refine l_arg F hS hl hi (j := 3) (by decide) dl_1224 dl_1225 dl_1226 dl_1227 dl_1228 ?_
  refine l_call F hC hS hl (mm' := mm_H_drift) (t := 0) (k := 0) (ci := 6) (As := [vI (ag xs i 1), vI (ag xs i 2), vI (ag xs i 3)]) (rest := []) (Q' := fun x M1 => x = (sp_drift Z (ag xs i 1) (ag xs i 2) (ag xs i 3)) ∧ RepC Z M1 ∧ keepR M M1) (H_drift hZ hR (fun M9 r9 k9 => ⟨rfl, r9, k9⟩)) dl_1229 (ws5 wd_777 wd_778 wd_779 wd_63 wd_780) nk_H_drift ⟨rfl, rfl, Nat.le_of_ble_eq_true rfl, Nat.le_of_ble_eq_true rfl⟩ (by unfold isW; omega) ⟨_, ce_0 _⟩ rfl (Nat.le_of_ble_eq_true rfl) (okS_c (v := vI (ag xs i 1)) (ag_ok _ _ _) (okS_c (v := vI (ag xs i 2)) (ag_ok _ _ _) (okS_c (v := vI (ag xs i 3)) (ag_ok _ _ _) okS_0))) (Nat.le_of_ble_eq_true rfl) (fun x M1 H1 lo1 h1 hC1 hS1 => ?_)
  obtain ⟨ex, r1, k1⟩ := h1
  rw [ex]
  refine lv_aload_n hx hb dl_1232 (i := 2) rfl (lv_at hl 2 rfl) ?_
  refine l_arg F hS1 hl hi (j := 1) (by decide) dl_1233 dl_1234 dl_1235 dl_1236 dl_1237 ?_
  refine l_arg F hS1 hl hi (j := 2) (by decide) dl_1238 dl_1239 dl_1240 dl_1241 dl_1242 ?_
  refine l_arg F hS1 hl hi (j := 3) (by decide) dl_1243 dl_1244 dl_1245 dl_1246 dl_1247 ?_
  refine l_call F hC1 hS1 hl (mm' := mm_M_drift) (t := 20) (k := 0) (ci := 7) (As := [vI (ag xs i 1), vI (ag xs i 2), vI (ag xs i 3)]) (rest := [vI (sp_drift Z (ag xs i 1) (ag xs i 2) (ag xs i 3))]) (Q' := fun y M2 => y = (sp_drift Z (ag xs i 1) (ag xs i 2) (ag xs i 3)) ∧ RepR Z M2 ∧ keepC M1 M2) (M_drift hZ (RepR_keep k1 hRR) (fun M9 r9 k9 => ⟨rfl, r9, k9⟩)) dl_1248 (ws5 wd_1207 wd_1208 wd_1209 wd_70 wd_1210) nk_M_drift ⟨rfl, rfl, Nat.le_of_ble_eq_true rfl, Nat.le_of_ble_eq_true rfl⟩ (by unfold isW; omega) ⟨_, ce_20 _⟩ rfl (Nat.le_of_ble_eq_true rfl) (okS_c (v := vI (ag xs i 1)) (ag_ok _ _ _) (okS_c (v := vI (ag xs i 2)) (ag_ok _ _ _) (okS_c (v := vI (ag xs i 3)) (ag_ok _ _ _) okS_0))) (Nat.le_of_ble_eq_true rfl) (fun y M2 H2 lo2 h2 hC2 hS2 => ?_)
  obtain ⟨ey, r2, k2⟩ := h2
  rw [ey]
  refine lv_icmp_eq (tgt := 1477) hx hb dl_1251 rfl (fun _ => ?_) (fun q => absurd rfl q)
  exact l_back F hl hi hh hZ (RepC_keep k2 r1) r2 hC2 hS2
theorem lc_34 (F : LF p s m meth c b Lx xs E) (hh : Lhead p l e s m below meth c b E (i + 5)) (hi : i + 4 < Lx) (hZ : ZB Z) (hR : RepC Z M) (hRR : RepR Z M) (hC : wC E H M) (hS : va_S (fre E) s.heap H locs) (hl : lv_has ls 4 (lvl b E i)) : W p l e room_1 s m #[Value.ref b] below meth c H locs 600000 7302250 (lw_Z below #[Value.ref b] s) (F0 m 1256 ls []) := by
  have hx := F.1
  have hb := F.2.1
  refine lv_aload_n hx hb dl_1256 (i := 1) rfl (lv_at hl 1 rfl) ?_
  refine l_arg F hS hl hi (j := 1) (by decide) dl_1257 dl_1258 dl_1259 dl_1260 dl_1261 ?_
  refine l_call F hC hS hl (mm' := mm_H_keep) (t := 0) (k := 0) (ci := 6) (As := [vI (ag xs i 1)]) (rest := []) (Q' := fun x M1 => x = (sp_keep Z (ag xs i 1)).1 ∧ RepC (sp_keep Z (ag xs i 1)).2 M1 ∧ keepR M M1) (H_keep hZ hR (fun M9 r9 k9 => ⟨rfl, r9, k9⟩)) dl_1262 (ws5 wd_782 wd_783 wd_784 wd_63 wd_785) nk_H_keep ⟨rfl, rfl, Nat.le_of_ble_eq_true rfl, Nat.le_of_ble_eq_true rfl⟩ (by unfold isW; omega) ⟨_, ce_0 _⟩ rfl (Nat.le_of_ble_eq_true rfl) (okS_c (v := vI (ag xs i 1)) (ag_ok _ _ _) okS_0) (Nat.le_of_ble_eq_true rfl) (fun x M1 H1 lo1 h1 hC1 hS1 => ?_)
  obtain ⟨ex, r1, k1⟩ := h1
  rw [ex]
  refine lv_aload_n hx hb dl_1265 (i := 2) rfl (lv_at hl 2 rfl) ?_
  refine l_arg F hS1 hl hi (j := 1) (by decide) dl_1266 dl_1267 dl_1268 dl_1269 dl_1270 ?_
  refine l_call F hC1 hS1 hl (mm' := mm_M_keep) (t := 20) (k := 0) (ci := 7) (As := [vI (ag xs i 1)]) (rest := [vI (sp_keep Z (ag xs i 1)).1]) (Q' := fun y M2 => y = (sp_keep Z (ag xs i 1)).1 ∧ RepR (sp_keep Z (ag xs i 1)).2 M2 ∧ keepC M1 M2) (M_keep hZ (RepR_keep k1 hRR) (fun M9 r9 k9 => ⟨rfl, r9, k9⟩)) dl_1271 (ws5 wd_1212 wd_1213 wd_1214 wd_70 wd_1215) nk_M_keep ⟨rfl, rfl, Nat.le_of_ble_eq_true rfl, Nat.le_of_ble_eq_true rfl⟩ (by unfold isW; omega) ⟨_, ce_20 _⟩ rfl (Nat.le_of_ble_eq_true rfl) (okS_c (v := vI (ag xs i 1)) (ag_ok _ _ _) okS_0) (Nat.le_of_ble_eq_true rfl) (fun y M2 H2 lo2 h2 hC2 hS2 => ?_)
  obtain ⟨ey, r2, k2⟩ := h2
  rw [ey]
  refine lv_icmp_eq (tgt := 1477) hx hb dl_1274 rfl (fun _ => ?_) (fun q => absurd rfl q)
  exact l_back F hl hi hh (ZB_keep hZ) (RepC_keep k2 r1) r2 hC2 hS2
theorem lc_35 (F : LF p s m meth c b Lx xs E) (hh : Lhead p l e s m below meth c b E (i + 5)) (hi : i + 4 < Lx) (hZ : ZB Z) (hR : RepC Z M) (hRR : RepR Z M) (hC : wC E H M) (hS : va_S (fre E) s.heap H locs) (hl : lv_has ls 4 (lvl b E i)) : W p l e room_1 s m #[Value.ref b] below meth c H locs 600000 7302250 (lw_Z below #[Value.ref b] s) (F0 m 1279 ls []) := by
  have hx := F.1
  have hb := F.2.1
  refine lv_aload_n hx hb dl_1279 (i := 1) rfl (lv_at hl 1 rfl) ?_
  refine l_arg F hS hl hi (j := 1) (by decide) dl_1280 dl_1281 dl_1282 dl_1283 dl_1284 ?_
  refine l_call F hC hS hl (mm' := mm_H_back) (t := 0) (k := 0) (ci := 6) (As := [vI (ag xs i 1)]) (rest := []) (Q' := fun x M1 => x = (sp_back Z (ag xs i 1)).1 ∧ RepC (sp_back Z (ag xs i 1)).2 M1 ∧ keepR M M1) (H_back hZ hR (fun M9 r9 k9 => ⟨rfl, r9, k9⟩)) dl_1285 (ws5 wd_786 wd_787 wd_788 wd_63 wd_789) nk_H_back ⟨rfl, rfl, Nat.le_of_ble_eq_true rfl, Nat.le_of_ble_eq_true rfl⟩ (by unfold isW; omega) ⟨_, ce_0 _⟩ rfl (Nat.le_of_ble_eq_true rfl) (okS_c (v := vI (ag xs i 1)) (ag_ok _ _ _) okS_0) (Nat.le_of_ble_eq_true rfl) (fun x M1 H1 lo1 h1 hC1 hS1 => ?_)
  obtain ⟨ex, r1, k1⟩ := h1
  rw [ex]
  refine lv_aload_n hx hb dl_1288 (i := 2) rfl (lv_at hl 2 rfl) ?_
  refine l_arg F hS1 hl hi (j := 1) (by decide) dl_1289 dl_1290 dl_1291 dl_1292 dl_1293 ?_
  refine l_call F hC1 hS1 hl (mm' := mm_M_back) (t := 20) (k := 0) (ci := 7) (As := [vI (ag xs i 1)]) (rest := [vI (sp_back Z (ag xs i 1)).1]) (Q' := fun y M2 => y = (sp_back Z (ag xs i 1)).1 ∧ RepR (sp_back Z (ag xs i 1)).2 M2 ∧ keepC M1 M2) (M_back hZ (RepR_keep k1 hRR) (fun M9 r9 k9 => ⟨rfl, r9, k9⟩)) dl_1294 (ws5 wd_1216 wd_1217 wd_1218 wd_70 wd_1219) nk_M_back ⟨rfl, rfl, Nat.le_of_ble_eq_true rfl, Nat.le_of_ble_eq_true rfl⟩ (by unfold isW; omega) ⟨_, ce_20 _⟩ rfl (Nat.le_of_ble_eq_true rfl) (okS_c (v := vI (ag xs i 1)) (ag_ok _ _ _) okS_0) (Nat.le_of_ble_eq_true rfl) (fun y M2 H2 lo2 h2 hC2 hS2 => ?_)
  obtain ⟨ey, r2, k2⟩ := h2
  rw [ey]
  refine lv_icmp_eq (tgt := 1477) hx hb dl_1297 rfl (fun _ => ?_) (fun q => absurd rfl q)
  exact l_back F hl hi hh (ZB_back hZ) (RepC_keep k2 r1) r2 hC2 hS2
theorem lc_36 (F : LF p s m meth c b Lx xs E) (hh : Lhead p l e s m below meth c b E (i + 5)) (hi : i + 4 < Lx) (hZ : ZB Z) (hR : RepC Z M) (hRR : RepR Z M) (hC : wC E H M) (hS : va_S (fre E) s.heap H locs) (hl : lv_has ls 4 (lvl b E i)) : W p l e room_1 s m #[Value.ref b] below meth c H locs 600000 7302250 (lw_Z below #[Value.ref b] s) (F0 m 1302 ls []) := by
  have hx := F.1
  have hb := F.2.1
  refine lv_aload_n hx hb dl_1302 (i := 1) rfl (lv_at hl 1 rfl) ?_
  refine l_arg F hS hl hi (j := 1) (by decide) dl_1303 dl_1304 dl_1305 dl_1306 dl_1307 ?_
  refine l_arg F hS hl hi (j := 2) (by decide) dl_1308 dl_1309 dl_1310 dl_1311 dl_1312 ?_
  refine l_arg F hS hl hi (j := 3) (by decide) dl_1313 dl_1314 dl_1315 dl_1316 dl_1317 ?_
  refine l_call F hC hS hl (mm' := mm_H_sheet) (t := 0) (k := 0) (ci := 6) (As := [vI (ag xs i 1), vI (ag xs i 2), vI (ag xs i 3)]) (rest := []) (Q' := fun x M1 => x = (sp_sheet Z (ag xs i 1) (ag xs i 2) (ag xs i 3)).1 ∧ RepC (sp_sheet Z (ag xs i 1) (ag xs i 2) (ag xs i 3)).2 M1 ∧ keepR M M1) (H_sheet hZ hR (fun M9 r9 k9 => ⟨rfl, r9, k9⟩)) dl_1318 (ws5 wd_790 wd_791 wd_792 wd_63 wd_793) nk_H_sheet ⟨rfl, rfl, Nat.le_of_ble_eq_true rfl, Nat.le_of_ble_eq_true rfl⟩ (by unfold isW; omega) ⟨_, ce_0 _⟩ rfl (Nat.le_of_ble_eq_true rfl) (okS_c (v := vI (ag xs i 1)) (ag_ok _ _ _) (okS_c (v := vI (ag xs i 2)) (ag_ok _ _ _) (okS_c (v := vI (ag xs i 3)) (ag_ok _ _ _) okS_0))) (Nat.le_of_ble_eq_true rfl) (fun x M1 H1 lo1 h1 hC1 hS1 => ?_)
  obtain ⟨ex, r1, k1⟩ := h1
  rw [ex]
  refine lv_aload_n hx hb dl_1321 (i := 2) rfl (lv_at hl 2 rfl) ?_
  refine l_arg F hS1 hl hi (j := 1) (by decide) dl_1322 dl_1323 dl_1324 dl_1325 dl_1326 ?_
  refine l_arg F hS1 hl hi (j := 2) (by decide) dl_1327 dl_1328 dl_1329 dl_1330 dl_1331 ?_
  refine l_arg F hS1 hl hi (j := 3) (by decide) dl_1332 dl_1333 dl_1334 dl_1335 dl_1336 ?_
  refine l_call F hC1 hS1 hl (mm' := mm_M_sheet) (t := 20) (k := 0) (ci := 7) (As := [vI (ag xs i 1), vI (ag xs i 2), vI (ag xs i 3)]) (rest := [vI (sp_sheet Z (ag xs i 1) (ag xs i 2) (ag xs i 3)).1]) (Q' := fun y M2 => y = (sp_sheet Z (ag xs i 1) (ag xs i 2) (ag xs i 3)).1 ∧ RepR (sp_sheet Z (ag xs i 1) (ag xs i 2) (ag xs i 3)).2 M2 ∧ keepC M1 M2) (M_sheet hZ (RepR_keep k1 hRR) (fun M9 r9 k9 => ⟨rfl, r9, k9⟩)) dl_1337 (ws5 wd_1220 wd_1221 wd_1222 wd_70 wd_1223) nk_M_sheet ⟨rfl, rfl, Nat.le_of_ble_eq_true rfl, Nat.le_of_ble_eq_true rfl⟩ (by unfold isW; omega) ⟨_, ce_20 _⟩ rfl (Nat.le_of_ble_eq_true rfl) (okS_c (v := vI (ag xs i 1)) (ag_ok _ _ _) (okS_c (v := vI (ag xs i 2)) (ag_ok _ _ _) (okS_c (v := vI (ag xs i 3)) (ag_ok _ _ _) okS_0))) (Nat.le_of_ble_eq_true rfl) (fun y M2 H2 lo2 h2 hC2 hS2 => ?_)
  obtain ⟨ey, r2, k2⟩ := h2
  rw [ey]
  refine lv_icmp_eq (tgt := 1477) hx hb dl_1340 rfl (fun _ => ?_) (fun q => absurd rfl q)
  exact l_back F hl hi hh (ZB_sheet hZ) (RepC_keep k2 r1) r2 hC2 hS2
theorem lc_37 (F : LF p s m meth c b Lx xs E) (hh : Lhead p l e s m below meth c b E (i + 5)) (hi : i + 4 < Lx) (hZ : ZB Z) (hR : RepC Z M) (hRR : RepR Z M) (hC : wC E H M) (hS : va_S (fre E) s.heap H locs) (hl : lv_has ls 4 (lvl b E i)) : W p l e room_1 s m #[Value.ref b] below meth c H locs 600000 7302250 (lw_Z below #[Value.ref b] s) (F0 m 1345 ls []) := by
  have hx := F.1
  have hb := F.2.1
  refine lv_aload_n hx hb dl_1345 (i := 1) rfl (lv_at hl 1 rfl) ?_
  refine l_arg F hS hl hi (j := 1) (by decide) dl_1346 dl_1347 dl_1348 dl_1349 dl_1350 ?_
  refine l_arg F hS hl hi (j := 2) (by decide) dl_1351 dl_1352 dl_1353 dl_1354 dl_1355 ?_
  refine l_arg F hS hl hi (j := 3) (by decide) dl_1356 dl_1357 dl_1358 dl_1359 dl_1360 ?_
  refine l_call F hC hS hl (mm' := mm_H_lay) (t := 0) (k := 0) (ci := 6) (As := [vI (ag xs i 1), vI (ag xs i 2), vI (ag xs i 3)]) (rest := []) (Q' := fun x M1 => x = (sp_lay Z (ag xs i 1) (ag xs i 2) (ag xs i 3)).1 ∧ RepC (sp_lay Z (ag xs i 1) (ag xs i 2) (ag xs i 3)).2 M1 ∧ keepR M M1) (H_lay hZ hR (fun M9 r9 k9 => ⟨rfl, r9, k9⟩)) dl_1361 (ws5 wd_804 wd_805 wd_806 wd_63 wd_807) nk_H_lay ⟨rfl, rfl, Nat.le_of_ble_eq_true rfl, Nat.le_of_ble_eq_true rfl⟩ (by unfold isW; omega) ⟨_, ce_0 _⟩ rfl (Nat.le_of_ble_eq_true rfl) (okS_c (v := vI (ag xs i 1)) (ag_ok _ _ _) (okS_c (v := vI (ag xs i 2)) (ag_ok _ _ _) (okS_c (v := vI (ag xs i 3)) (ag_ok _ _ _) okS_0))) (Nat.le_of_ble_eq_true rfl) (fun x M1 H1 lo1 h1 hC1 hS1 => ?_)
  obtain ⟨ex, r1, k1⟩ := h1
  rw [ex]
  refine lv_aload_n hx hb dl_1364 (i := 2) rfl (lv_at hl 2 rfl) ?_
  refine l_arg F hS1 hl hi (j := 1) (by decide) dl_1365 dl_1366 dl_1367 dl_1368 dl_1369 ?_
  refine l_arg F hS1 hl hi (j := 2) (by decide) dl_1370 dl_1371 dl_1372 dl_1373 dl_1374 ?_
  refine l_arg F hS1 hl hi (j := 3) (by decide) dl_1375 dl_1376 dl_1377 dl_1378 dl_1379 ?_
  refine l_call F hC1 hS1 hl (mm' := mm_M_lay) (t := 20) (k := 0) (ci := 7) (As := [vI (ag xs i 1), vI (ag xs i 2), vI (ag xs i 3)]) (rest := [vI (sp_lay Z (ag xs i 1) (ag xs i 2) (ag xs i 3)).1]) (Q' := fun y M2 => y = (sp_lay Z (ag xs i 1) (ag xs i 2) (ag xs i 3)).1 ∧ RepR (sp_lay Z (ag xs i 1) (ag xs i 2) (ag xs i 3)).2 M2 ∧ keepC M1 M2) (M_lay hZ (RepR_keep k1 hRR) (fun M9 r9 k9 => ⟨rfl, r9, k9⟩)) dl_1380 (ws5 wd_1224 wd_1225 wd_1226 wd_70 wd_1227) nk_M_lay ⟨rfl, rfl, Nat.le_of_ble_eq_true rfl, Nat.le_of_ble_eq_true rfl⟩ (by unfold isW; omega) ⟨_, ce_20 _⟩ rfl (Nat.le_of_ble_eq_true rfl) (okS_c (v := vI (ag xs i 1)) (ag_ok _ _ _) (okS_c (v := vI (ag xs i 2)) (ag_ok _ _ _) (okS_c (v := vI (ag xs i 3)) (ag_ok _ _ _) okS_0))) (Nat.le_of_ble_eq_true rfl) (fun y M2 H2 lo2 h2 hC2 hS2 => ?_)
  obtain ⟨ey, r2, k2⟩ := h2
  rw [ey]
  refine lv_icmp_eq (tgt := 1477) hx hb dl_1383 rfl (fun _ => ?_) (fun q => absurd rfl q)
  exact l_back F hl hi hh (ZB_lay hZ) (RepC_keep k2 r1) r2 hC2 hS2
theorem lc_38 (F : LF p s m meth c b Lx xs E) (hh : Lhead p l e s m below meth c b E (i + 5)) (hi : i + 4 < Lx) (hZ : ZB Z) (hR : RepC Z M) (hRR : RepR Z M) (hC : wC E H M) (hS : va_S (fre E) s.heap H locs) (hl : lv_has ls 4 (lvl b E i)) : W p l e room_1 s m #[Value.ref b] below meth c H locs 600000 7302250 (lw_Z below #[Value.ref b] s) (F0 m 1388 ls []) := by
  have hx := F.1
  have hb := F.2.1
  refine lv_aload_n hx hb dl_1388 (i := 1) rfl (lv_at hl 1 rfl) ?_
  refine l_arg F hS hl hi (j := 1) (by decide) dl_1389 dl_1390 dl_1391 dl_1392 dl_1393 ?_
  refine l_arg F hS hl hi (j := 2) (by decide) dl_1394 dl_1395 dl_1396 dl_1397 dl_1398 ?_
  refine l_arg F hS hl hi (j := 3) (by decide) dl_1399 dl_1400 dl_1401 dl_1402 dl_1403 ?_
  refine l_arg F hS hl hi (j := 4) (by decide) dl_1404 dl_1405 dl_1406 dl_1407 dl_1408 ?_
  refine l_call F hC hS hl (mm' := mm_H_read) (t := 0) (k := 0) (ci := 6) (As := [vI (ag xs i 1), vI (ag xs i 2), vI (ag xs i 3), vI (ag xs i 4)]) (rest := []) (Q' := fun x M1 => x = (sp_read Z (ag xs i 1) (ag xs i 2) (ag xs i 3) (ag xs i 4)).1 ∧ RepC (sp_read Z (ag xs i 1) (ag xs i 2) (ag xs i 3) (ag xs i 4)).2 M1 ∧ keepR M M1) (H_read hZ hR (fun M9 r9 k9 => ⟨rfl, r9, k9⟩)) dl_1409 (ws5 wd_817 wd_818 wd_819 wd_63 wd_820) nk_H_read ⟨rfl, rfl, Nat.le_of_ble_eq_true rfl, Nat.le_of_ble_eq_true rfl⟩ (by unfold isW; omega) ⟨_, ce_0 _⟩ rfl (Nat.le_of_ble_eq_true rfl) (okS_c (v := vI (ag xs i 1)) (ag_ok _ _ _) (okS_c (v := vI (ag xs i 2)) (ag_ok _ _ _) (okS_c (v := vI (ag xs i 3)) (ag_ok _ _ _) (okS_c (v := vI (ag xs i 4)) (ag_ok _ _ _) okS_0)))) (Nat.le_of_ble_eq_true rfl) (fun x M1 H1 lo1 h1 hC1 hS1 => ?_)
  obtain ⟨ex, r1, k1⟩ := h1
  rw [ex]
  refine lv_aload_n hx hb dl_1412 (i := 2) rfl (lv_at hl 2 rfl) ?_
  refine l_arg F hS1 hl hi (j := 1) (by decide) dl_1413 dl_1414 dl_1415 dl_1416 dl_1417 ?_
  refine l_arg F hS1 hl hi (j := 2) (by decide) dl_1418 dl_1419 dl_1420 dl_1421 dl_1422 ?_
  refine l_arg F hS1 hl hi (j := 3) (by decide) dl_1423 dl_1424 dl_1425 dl_1426 dl_1427 ?_
  refine l_arg F hS1 hl hi (j := 4) (by decide) dl_1428 dl_1429 dl_1430 dl_1431 dl_1432 ?_
  refine l_call F hC1 hS1 hl (mm' := mm_M_read) (t := 20) (k := 0) (ci := 7) (As := [vI (ag xs i 1), vI (ag xs i 2), vI (ag xs i 3), vI (ag xs i 4)]) (rest := [vI (sp_read Z (ag xs i 1) (ag xs i 2) (ag xs i 3) (ag xs i 4)).1]) (Q' := fun y M2 => y = (sp_read Z (ag xs i 1) (ag xs i 2) (ag xs i 3) (ag xs i 4)).1 ∧ RepR (sp_read Z (ag xs i 1) (ag xs i 2) (ag xs i 3) (ag xs i 4)).2 M2 ∧ keepC M1 M2) (M_read hZ (RepR_keep k1 hRR) (fun M9 r9 k9 => ⟨rfl, r9, k9⟩)) dl_1433 (ws5 wd_1228 wd_1229 wd_1230 wd_70 wd_1231) nk_M_read ⟨rfl, rfl, Nat.le_of_ble_eq_true rfl, Nat.le_of_ble_eq_true rfl⟩ (by unfold isW; omega) ⟨_, ce_20 _⟩ rfl (Nat.le_of_ble_eq_true rfl) (okS_c (v := vI (ag xs i 1)) (ag_ok _ _ _) (okS_c (v := vI (ag xs i 2)) (ag_ok _ _ _) (okS_c (v := vI (ag xs i 3)) (ag_ok _ _ _) (okS_c (v := vI (ag xs i 4)) (ag_ok _ _ _) okS_0)))) (Nat.le_of_ble_eq_true rfl) (fun y M2 H2 lo2 h2 hC2 hS2 => ?_)
  obtain ⟨ey, r2, k2⟩ := h2
  rw [ey]
  refine lv_icmp_eq (tgt := 1477) hx hb dl_1436 rfl (fun _ => ?_) (fun q => absurd rfl q)
  exact l_back F hl hi hh (ZB_read hZ) (RepC_keep k2 r1) r2 hC2 hS2
theorem lc_39 (F : LF p s m meth c b Lx xs E) (hh : Lhead p l e s m below meth c b E (i + 5)) (hi : i + 4 < Lx) (hZ : ZB Z) (hR : RepC Z M) (hRR : RepR Z M) (hC : wC E H M) (hS : va_S (fre E) s.heap H locs) (hl : lv_has ls 4 (lvl b E i)) : W p l e room_1 s m #[Value.ref b] below meth c H locs 600000 7302250 (lw_Z below #[Value.ref b] s) (F0 m 1441 ls []) := by
  have hx := F.1
  have hb := F.2.1
  refine lv_aload_n hx hb dl_1441 (i := 1) rfl (lv_at hl 1 rfl) ?_
  refine l_call F hC hS hl (mm' := mm_H_torn) (t := 0) (k := 0) (ci := 6) (As := []) (rest := []) (Q' := fun x M1 => x = (Z 3 4) ∧ RepC Z M1 ∧ keepR M M1) (H_torn hR (fun M9 r9 k9 => ⟨rfl, r9, k9⟩)) dl_1442 (ws5 wd_822 wd_823 wd_824 wd_63 wd_825) nk_H_torn ⟨rfl, rfl, Nat.le_of_ble_eq_true rfl, Nat.le_of_ble_eq_true rfl⟩ (by unfold isW; omega) ⟨_, ce_0 _⟩ rfl (Nat.le_of_ble_eq_true rfl) okS_0 (Nat.le_of_ble_eq_true rfl) (fun x M1 H1 lo1 h1 hC1 hS1 => ?_)
  obtain ⟨ex, r1, k1⟩ := h1
  rw [ex]
  refine lv_aload_n hx hb dl_1445 (i := 2) rfl (lv_at hl 2 rfl) ?_
  refine l_call F hC1 hS1 hl (mm' := mm_M_torn) (t := 20) (k := 0) (ci := 7) (As := []) (rest := [vI (Z 3 4)]) (Q' := fun y M2 => y = (Z 3 4) ∧ RepR Z M2 ∧ keepC M1 M2) (M_torn (RepR_keep k1 hRR) (fun M9 r9 k9 => ⟨rfl, r9, k9⟩)) dl_1446 (ws5 wd_1233 wd_1234 wd_1235 wd_70 wd_1236) nk_M_torn ⟨rfl, rfl, Nat.le_of_ble_eq_true rfl, Nat.le_of_ble_eq_true rfl⟩ (by unfold isW; omega) ⟨_, ce_20 _⟩ rfl (Nat.le_of_ble_eq_true rfl) okS_0 (Nat.le_of_ble_eq_true rfl) (fun y M2 H2 lo2 h2 hC2 hS2 => ?_)
  obtain ⟨ey, r2, k2⟩ := h2
  rw [ey]
  refine lv_icmp_eq (tgt := 1477) hx hb dl_1449 rfl (fun _ => ?_) (fun q => absurd rfl q)
  exact l_back F hl hi hh hZ (RepC_keep k2 r1) r2 hC2 hS2
theorem lc_40 (F : LF p s m meth c b Lx xs E) (hh : Lhead p l e s m below meth c b E (i + 5)) (hi : i + 4 < Lx) (hZ : ZB Z) (hR : RepC Z M) (hRR : RepR Z M) (hC : wC E H M) (hS : va_S (fre E) s.heap H locs) (hl : lv_has ls 4 (lvl b E i)) : W p l e room_1 s m #[Value.ref b] below meth c H locs 600000 7302250 (lw_Z below #[Value.ref b] s) (F0 m 1454 ls []) := by
  have hx := F.1
  have hb := F.2.1
  refine lv_aload_n hx hb dl_1454 (i := 1) rfl (lv_at hl 1 rfl) ?_
  refine l_arg F hS hl hi (j := 1) (by decide) dl_1455 dl_1456 dl_1457 dl_1458 dl_1459 ?_
  refine l_call F hC hS hl (mm' := mm_H_count) (t := 0) (k := 0) (ci := 6) (As := [vI (ag xs i 1)]) (rest := []) (Q' := fun x M1 => x = (sp_count Z (ag xs i 1)) ∧ RepC Z M1 ∧ keepR M M1) (H_count hZ hR (fun M9 r9 k9 => ⟨rfl, r9, k9⟩)) dl_1460 (ws5 wd_826 wd_827 wd_828 wd_63 wd_829) nk_H_count ⟨rfl, rfl, Nat.le_of_ble_eq_true rfl, Nat.le_of_ble_eq_true rfl⟩ (by unfold isW; omega) ⟨_, ce_0 _⟩ rfl (Nat.le_of_ble_eq_true rfl) (okS_c (v := vI (ag xs i 1)) (ag_ok _ _ _) okS_0) (Nat.le_of_ble_eq_true rfl) (fun x M1 H1 lo1 h1 hC1 hS1 => ?_)
  obtain ⟨ex, r1, k1⟩ := h1
  rw [ex]
  refine lv_aload_n hx hb dl_1463 (i := 2) rfl (lv_at hl 2 rfl) ?_
  refine l_arg F hS1 hl hi (j := 1) (by decide) dl_1464 dl_1465 dl_1466 dl_1467 dl_1468 ?_
  refine l_call F hC1 hS1 hl (mm' := mm_M_count) (t := 20) (k := 0) (ci := 7) (As := [vI (ag xs i 1)]) (rest := [vI (sp_count Z (ag xs i 1))]) (Q' := fun y M2 => y = (sp_count Z (ag xs i 1)) ∧ RepR Z M2 ∧ keepC M1 M2) (M_count hZ (RepR_keep k1 hRR) (fun M9 r9 k9 => ⟨rfl, r9, k9⟩)) dl_1469 (ws5 wd_1237 wd_1238 wd_1239 wd_70 wd_1240) nk_M_count ⟨rfl, rfl, Nat.le_of_ble_eq_true rfl, Nat.le_of_ble_eq_true rfl⟩ (by unfold isW; omega) ⟨_, ce_20 _⟩ rfl (Nat.le_of_ble_eq_true rfl) (okS_c (v := vI (ag xs i 1)) (ag_ok _ _ _) okS_0) (Nat.le_of_ble_eq_true rfl) (fun y M2 H2 lo2 h2 hC2 hS2 => ?_)
  obtain ⟨ey, r2, k2⟩ := h2
  rw [ey]
  refine lv_icmp_eq (tgt := 1477) hx hb dl_1472 rfl (fun _ => ?_) (fun q => absurd rfl q)
  exact l_back F hl hi hh hZ (RepC_keep k2 r1) r2 hC2 hS2
end

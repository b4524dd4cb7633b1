/-! the text, in the reference -/
def tpR (T : Nat → Int) (n : Nat) (M : JM) : Prop := (M 20 0 6 = n ∧ ∀ j, j < n → M 23 0 j = T j) ∧ n ≤ 160 ∧ (∀ j, j < n → 0 ≤ T j) ∧ (∀ j, j < 8 → M 24 0 j = endsT.getD j 0) ∧ ∀ j, j < 39 → M 25 0 j = lettT.getD j 0
def rf (M M' : JM) : Prop := ∀ t i k, ¬ (t = 20 ∧ (k = 8 ∨ k = 9 ∨ k = 10 ∨ k = 11 ∨ k = 12 ∨ k = 13)) → M' t i k = M t i k
theorem rf_rf (M : JM) : rf M M := fun _ _ _ _ => rfl
theorem rf_tr {M M' M'' : JM} (h : rf M M') (h2 : rf M' M'') : rf M M'' := fun t i k q => (h2 t i k q).trans (h t i k q)
theorem rf_pt {M : JM} {k : Nat} {x : Int} (h : k = 8 ∨ k = 9 ∨ k = 10 ∨ k = 11 ∨ k = 12 ∨ k = 13) : rf M (pt M 20 0 k x) := fun t i j q => pt_ne (by omega)
theorem tpR_rf {T : Nat → Int} {n : Nat} {M M' : JM} (f : rf M M') (h : tpR T n M) : tpR T n M' := ⟨⟨by rw [f 20 0 6 (by omega)]; exact h.1.1, fun j hj => by rw [f 23 0 j (by omega)]; exact h.1.2 j hj⟩, h.2.1, h.2.2.1, fun j hj => by rw [f 24 0 j (by omega)]; exact h.2.2.2.1 j hj, fun j hj => by rw [f 25 0 j (by omega)]; exact h.2.2.2.2 j hj⟩
def rvf (T : Nat → Int) (s c : Nat) : Int := if c = 0 then 0 else if c = 1 then T s - 48 else 10 * (T s - 48) + (T (s + 1) - 48)
theorem rvf_V {T : Nat → Int} {n i : Nat} (h : tK T n i = 2) : rvf T (tS T n i) (tE T n i - tS T n i) = tV T n i := by
  obtain ⟨a, b⟩ := tK_2 h
  have e : tE T n i = tEs T n (tS T n i) := rfl
  unfold tV tVs rvf
  rcases b with b | ⟨b, c, d⟩
  · rw [if_neg (by omega), if_pos (by omega), if_pos (by omega)]
  · rw [if_neg (by omega), if_neg (by omega), if_neg (by omega)]
section
variable {E : EE} {Q : Int → JM → Prop} {M : JM} {T : Nat → Int} {n : Nat}
theorem M_byteAt {j : Nat} (hT : tpR T n M) (h1 : j < n → Q (T j) M) (h0 : n ≤ j → Q (-4) M) : JC E mm_M_byteAt [vR 20 0, vI (j : Int)] M Q := by
  have h160 := hT.2.1
  refine vc_M_byteAt _ _ ?_
  rw [hT.1.1, Int.toNat_natCast]
  exact ⟨fun z => h0 (by omega), fun z => ⟨by omega, by rw [hT.1.2 j (by omega)]; exact h1 (by omega)⟩⟩
/-- the next token is read -/
def CT (T : Nat → Int) (n : Nat) (M : JM) (p : Nat) : Prop := tpR T n M ∧ M 20 0 10 = tE T n p ∧ M 20 0 11 = tS T n p ∧ M 20 0 8 = (if tK T n p = 4 then 1 else 0) ∧ (tK T n p = 4 → M 20 0 9 = tS T n p) ∧ (tK T n p ≠ 4 → M 20 0 12 = tK T n p) ∧ (tK T n p = 2 → M 20 0 13 = tV T n p) ∧ p ≤ n
theorem M_fails {c s : Int} (h0 : M 20 0 8 = 0) (hs : M 20 0 11 = s) (hQ : ∀ M' : JM, M' 20 0 8 = c → M' 20 0 9 = s → (∀ t i k, ¬ (t = 20 ∧ (k = 8 ∨ k = 9)) → M' t i k = M t i k) → Q 0 M') : JC E mm_M_fails [vR 20 0, vI c] M Q := by
  refine vc_M_fails _ _ ⟨fun z => absurd h0 z, fun _ M1 e1 M2 e2 => ?_⟩
  have x : M1 20 0 11 = s := by rw [e1, pt_ne (by omega)]; exact hs
  rw [x] at e2
  exact hQ M2 (by rw [e2, pt_ne (by omega), e1, pt_eq]) (by rw [e2, pt_eq]) (fun t i k q => by rw [e2, pt_ne (by omega), e1, pt_ne (by omega)])
theorem M_failsF {c : Int} (h0 : M 20 0 8 ≠ 0) (hQ : Q 0 M) : JC E mm_M_fails [vR 20 0, vI c] M Q := vc_M_fails _ _ ⟨fun _ => hQ, fun z => absurd z h0⟩
theorem M_stepF (h0 : 0 < M 20 0 8) (hQ : Q 0 M) : JC E mm_M_step [vR 20 0] M Q := vc_M_step _ ⟨fun z => by omega, fun _ => hQ⟩
theorem M_step {i : Nat} (hT : tpR T n M) (h8 : M 20 0 8 = 0) (hi : M 20 0 10 = i) (hin : i ≤ n) (hQ : ∀ M' : JM, CT T n M' i → rf M M' → Q 0 M') : JC E mm_M_step [vR 20 0] M Q := by
  have h160 := hT.2.1
  have hpos := hT.2.2.1
  refine vc_M_step _ ⟨fun _ => ?_, fun z => by omega⟩
  -- a token that begins at a
  have loop : ∀ (d a : Nat) (M' : JM), a + d = n → M' 20 0 8 = 0 → M' 20 0 10 = a → rf M M' → sk isB T n a = tS T n i → JG E mm_M_step Q 8 [(0, vR 20 0)] [] M' := by
    have tok : ∀ (a : Nat) (M' : JM), a ≤ n → M' 20 0 8 = 0 → M' 20 0 10 = a → rf M M' → a = tS T n i → (a < n → T a ≠ 32) → JG E mm_M_step Q 8 [(0, vR 20 0)] [] M' := by
      intro a M' ha g8 g10 f' es nb
      have hT' := tpR_rf f' hT
      have eE : tE T n i = tEs T n a := by rw [es]; rfl
      have eK : tK T n i = tKs T n a := by rw [es]; rfl
      refine vc_M_step_8 _ ?_
      rw [g10]
      have body : ∀ a2 : Int, a2 ≠ 32 → ((a2 ≠ 32 → ∀ M3 : JM, M3 = pt M' 20 0 11 (M' 20 0 10) → JC E mm_M_byteAt [vR 20 0, vI (M3 20 0 10)] M3 (fun a5 M4 => ∀ M6 : JM, M6 = pt M4 20 0 13 0 → ((a5 ≠ (-4) → JC E mm_M_in [vL a5, vL 97, vL 122] M6 (fun a8 M7 => ((a8 = 0 → JC E mm_M_in [vL a5, vL 48, vL 57] M7 (fun a10 M9 => ((a10 = 0 → ∀ M11 : JM, M11 = pt M9 20 0 12 3 → ∀ M12 : JM, M12 = pt M11 20 0 10 (w32 (M11 20 0 10 + 1)) → ((a5 = 59 → Q 0 M12) ∧ (a5 ≠ 59 → JC E mm_M_fails [vR 20 0, vI 1] M12 (fun a14 M13 => Q 0 M13)))) ∧ (a10 ≠ 0 → JG E mm_M_step Q 140 [(0, vR 20 0)] [] M9)))) ∧ (a8 ≠ 0 → JG E mm_M_step Q 84 [(0, vR 20 0)] [] M7)))) ∧ (a5 = (-4) → ∀ M15 : JM, M15 = pt M6 20 0 12 0 → Q 0 M15)))) ∧ (a2 = 32 → ∀ M16 : JM, M16 = pt M' 20 0 10 (w32 (M' 20 0 10 + 1)) → JG E mm_M_step Q 8 [(0, vR 20 0)] [] M16)) := by
        intro a2 ha2
        refine ⟨fun _ M3 e3 => ?_, fun z => absurd z ha2⟩
        rw [g10] at e3
        have x10 : M3 20 0 10 = a := by rw [e3, pt_ne (by omega)]; exact g10
        have f3 : rf M M3 := rf_tr f' (by rw [e3]; exact rf_pt (by omega))
        rw [x10]
        refine M_byteAt (tpR_rf f3 hT) (fun y M6 e6 => ?_) (fun y M6 e6 => ?_)
        · have hp := hpos a y
          have f6 : rf M M6 := rf_tr f3 (by rw [e6]; exact rf_pt (by omega))
          have w10 : M6 20 0 10 = a := by rw [e6, pt_ne (by omega)]; exact x10
          have w11 : M6 20 0 11 = a := by rw [e6, pt_ne (by omega), e3, pt_eq]
          have w13 : M6 20 0 13 = 0 := by rw [e6, pt_eq]
          have w8 : M6 20 0 8 = 0 := by rw [e6, pt_ne (by omega), e3, pt_ne (by omega)]; exact g8
          refine ⟨fun _ => M_in (fun yL => c10 ?_) (fun yL => c00 (M_in (fun yF => c10 ?_) (fun yF => c00 (fun M11 e11 M12 e12 => ?_)))), fun z => by omega⟩
          · -- a name
            have tE1 : tE T n i = sk isL T n a := by rw [eE]; unfold tEs; rw [if_neg (by omega), if_pos yL]
            have tK1 : tK T n i = 1 := by rw [eK]; unfold tKs; rw [if_neg (by omega), if_pos yL]
            have lp : ∀ (d b : Nat) (M7 : JM), b + d = n → M7 20 0 8 = 0 → M7 20 0 10 = b → M7 20 0 11 = a → rf M M7 → sk isL T n b = tE T n i → JG E mm_M_step Q 84 [(0, vR 20 0)] [] M7 := by
              intro d
              induction d with
              | zero =>
                intro b M7 hd b8 b10 b11 f7 eb
                have hT7 := tpR_rf f7 hT
                rw [sk_e (by omega)] at eb
                refine vc_M_step_84 _ ?_
                rw [b10]
                refine M_byteAt hT7 (fun z => by omega) (fun z => M_in (fun q => by omega) (fun q => c00 (fun M5 e5 => ?_)))
                refine hQ M5 ⟨tpR_rf (by rw [e5]; exact rf_pt (by omega)) hT7, ?_, ?_, ?_, fun q => by omega, fun _ => ?_, fun q => by omega, hin⟩ (rf_tr f7 (by rw [e5]; exact rf_pt (by omega)))
                · rw [e5, pt_ne (by omega), b10, eb]
                · rw [e5, pt_ne (by omega), b11, es]
                · rw [e5, pt_ne (by omega), b8, if_neg (by omega)]
                · rw [e5, pt_eq, tK1]
              | succ d ih =>
                intro b M7 hd b8 b10 b11 f7 eb
                have hT7 := tpR_rf f7 hT
                rw [sk_s (by omega)] at eb
                refine vc_M_step_84 _ ?_
                rw [b10]
                refine M_byteAt hT7 (fun z => M_in (fun q => c10 (fun M5 e5 => ?_)) (fun q => c00 (fun M5 e5 => ?_))) (fun z => by omega)
                · rw [if_pos q] at eb
                  rw [b10, w32_s (by omega)] at e5
                  exact ih (b + 1) M5 (by omega) (by rw [e5, pt_ne (by omega)]; exact b8) (by rw [e5, pt_eq]) (by rw [e5, pt_ne (by omega)]; exact b11) (rf_tr f7 (by rw [e5]; exact rf_pt (by omega))) eb
                · rw [if_neg q] at eb
                  refine hQ M5 ⟨tpR_rf (by rw [e5]; exact rf_pt (by omega)) hT7, ?_, ?_, ?_, fun q => by omega, fun _ => ?_, fun q => by omega, hin⟩ (rf_tr f7 (by rw [e5]; exact rf_pt (by omega)))
                  · rw [e5, pt_ne (by omega), b10, eb]
                  · rw [e5, pt_ne (by omega), b11, es]
                  · rw [e5, pt_ne (by omega), b8, if_neg (by omega)]
                  · rw [e5, pt_eq, tK1]
            exact lp (n - a) a M6 (by omega) w8 w10 w11 f6 tE1.symm
          · -- a number
            have tE1 : tE T n i = sk isF T n a := by rw [eE]; unfold tEs; rw [if_neg (by omega), if_neg yL, if_pos yF]
            have tK1 : tK T n i = if 2 < tE T n i - a then 4 else 2 := by rw [eK, eE]; conv => lhs; unfold tKs
                                                                          rw [if_neg (by omega), if_neg yL, if_pos yF]
            have ends : ∀ (b : Nat) (M7 : JM), a ≤ b → M7 20 0 8 = 0 → M7 20 0 10 = b → M7 20 0 11 = a → M7 20 0 13 = rvf T a (b - a) → rf M M7 → b = tE T n i → b ≤ n → ∀ M5 : JM, M5 = pt M7 20 0 12 2 → ((w32 (M5 20 0 10 - (M5 20 0 11)) ≤ 2 → Q 0 M5) ∧ (2 < w32 (M5 20 0 10 - (M5 20 0 11)) → JC E mm_M_fails [vR 20 0, vI 1] M5 (fun a7 M6 => Q 0 M6))) := by
              intro b M7 hab b8 b10 b11 b13 f7 eb hbn M5 e5
              have c10' : M5 20 0 10 = b := by rw [e5, pt_ne (by omega)]; exact b10
              have c11' : M5 20 0 11 = a := by rw [e5, pt_ne (by omega)]; exact b11
              have c8' : M5 20 0 8 = 0 := by rw [e5, pt_ne (by omega)]; exact b8
              have f5 : rf M M5 := rf_tr f7 (by rw [e5]; exact rf_pt (by omega))
              rw [c10', c11', w32_id (by omega) (by omega)]
              refine ⟨fun z => ?_, fun z => M_fails c8' c11' (fun M6 y8 y9 y0 => ?_)⟩
              · have k2 : tK T n i = 2 := by rw [tK1, if_neg (by omega)]
                refine hQ M5 ⟨tpR_rf f5 hT, by rw [c10', eb], by rw [c11', es], by rw [c8', if_neg (by omega)], fun q => by omega, fun _ => by rw [e5, pt_eq, k2], fun q => ?_, hin⟩ f5
                rw [e5, pt_ne (by omega), b13, ← rvf_V q, eb, es]
              · have k4 : tK T n i = 4 := by rw [tK1, if_pos (by omega)]
                have f6 : rf M M6 := rf_tr f5 (fun t i k q => y0 t i k (by omega))
                exact hQ M6 ⟨tpR_rf f6 hT, by rw [y0 20 0 10 (by omega), c10', eb], by rw [y0 20 0 11 (by omega), c11', es], by rw [y8, if_pos k4], fun _ => by rw [y9, es], fun q => absurd k4 q, fun q => by omega, hin⟩ f6
            have lp : ∀ (d b : Nat) (M7 : JM), b + d = n → a ≤ b → (∀ j, a ≤ j → j < b → isF (T j)) → M7 20 0 8 = 0 → M7 20 0 10 = b → M7 20 0 11 = a → M7 20 0 13 = rvf T a (b - a) → rf M M7 → sk isF T n b = tE T n i → JG E mm_M_step Q 140 [(0, vR 20 0)] [] M7 := by
              intro d
              induction d with
              | zero =>
                intro b M7 hd hab fig b8 b10 b11 b13 f7 eb
                have hT7 := tpR_rf f7 hT
                rw [sk_e (by omega)] at eb
                refine vc_M_step_140 _ ?_
                rw [b10]
                exact M_byteAt hT7 (fun z => by omega) (fun z => M_in (fun q => by omega) (fun q => c00 (ends b M7 hab b8 b10 b11 b13 f7 eb (by omega))))
              | succ d ih =>
                intro b M7 hd hab fig b8 b10 b11 b13 f7 eb
                have hT7 := tpR_rf f7 hT
                rw [sk_s (by omega)] at eb
                refine vc_M_step_140 _ ?_
                rw [b10]
                refine M_byteAt hT7 (fun z => M_in (fun q => c10 ?_) (fun q => c00 ?_)) (fun z => by omega)
                · rw [if_pos q] at eb
                  have fig2 : ∀ j, a ≤ j → j < b + 1 → isF (T j) := fun j h1 h2 => by
                    by_cases y : j = b
                    · rw [y]; exact q
                    · exact fig j h1 (by omega)
                  have go : ∀ v : Int, v = rvf T a (b + 1 - a) → JG E mm_M_step Q 201 [(0, vR 20 0)] [vI v, vR 20 0] M7 := by
                    intro v hv
                    refine vc_M_step_201 _ _ (fun M8 e8 M9 e9 => ?_)
                    have t10 : M8 20 0 10 = b := by rw [e8, pt_ne (by omega)]; exact b10
                    rw [t10, w32_s (by omega)] at e9
                    exact ih (b + 1) M9 (by omega) (by omega) fig2 (by rw [e9, pt_ne (by omega), e8, pt_ne (by omega)]; exact b8) (by rw [e9, pt_eq]) (by rw [e9, pt_ne (by omega), e8, pt_ne (by omega)]; exact b11) (by rw [e9, pt_ne (by omega), e8, pt_eq]; exact hv) (rf_tr f7 (fun t i k q => by rw [e9, pt_ne (by omega), e8, pt_ne (by omega)])) eb
                  rw [b10, b11, b13, w32_id (x := (b : Int) - (a : Int)) (by omega) (by omega)]
                  refine ⟨fun z2 => go _ ?_, fun z2 => M_byteAt hT7 (fun z3 => go _ ?_) (fun z3 => by omega)⟩
                  · unfold rvf
                    rw [if_neg (by omega), if_neg (by omega), if_neg (by omega), if_neg (by omega)]
                  · rcases (show b = a ∨ b = a + 1 by omega) with y | y
                    · subst y
                      unfold rvf
                      rw [if_pos (by omega), if_neg (by omega), if_pos (by omega), w32_id (x := 10 * 0) (by omega) (by omega), w32_id (x := 10 * 0 + T b) (by omega) (by omega), w32_id (by omega) (by omega)]
                      omega
                    · subst y
                      have fa := fig a (Nat.le_refl _) (by omega)
                      unfold isF at fa
                      unfold rvf
                      rw [if_neg (by omega), if_pos (by omega), if_neg (by omega), if_neg (by omega), w32_id (x := 10 * (T a - 48)) (by omega) (by omega), w32_id (x := 10 * (T a - 48) + T (a + 1)) (by omega) (by omega), w32_id (by omega) (by omega)]
                      omega
                · rw [if_neg q] at eb
                  exact ends b M7 hab b8 b10 b11 b13 f7 eb (by omega)
            refine lp (n - a) a M6 (by omega) (Nat.le_refl _) (fun j h1 h2 => by omega) w8 w10 w11 ?_ f6 tE1.symm
            rw [Nat.sub_self, w13]; rfl
          · -- a sign
            have tE1 : tE T n i = a + 1 := by rw [eE]; unfold tEs; rw [if_neg (by omega), if_neg yL, if_neg yF]
            have tK1 : tK T n i = if T a = 59 then 3 else 4 := by rw [eK]; unfold tKs; rw [if_neg (by omega), if_neg yL, if_neg yF]
            have u10 : M11 20 0 10 = a := by rw [e11, pt_ne (by omega)]; exact w10
            rw [u10, w32_s (by omega)] at e12
            have f12 : rf M M12 := rf_tr f6 (fun t i k q => by rw [e12, pt_ne (by omega), e11, pt_ne (by omega)])
            have s11 : M12 20 0 11 = a := by rw [e12, pt_ne (by omega), e11, pt_ne (by omega)]; exact w11
            have s8 : M12 20 0 8 = 0 := by rw [e12, pt_ne (by omega), e11, pt_ne (by omega)]; exact w8
            have s10 : M12 20 0 10 = ((a + 1 : Nat) : Int) := by rw [e12, pt_eq]
            have s12 : M12 20 0 12 = 3 := by rw [e12, pt_ne (by omega), e11, pt_eq]
            refine ⟨fun z => ?_, fun z => M_fails s8 s11 (fun M13 y8 y9 y0 => ?_)⟩
            · rw [if_pos z] at tK1
              exact hQ M12 ⟨tpR_rf f12 hT, by rw [s10, tE1], by rw [s11, es], by rw [s8, if_neg (by omega)], fun q => by omega, fun _ => by rw [s12, tK1], fun q => by omega, hin⟩ f12
            · rw [if_neg z] at tK1
              have f13 : rf M M13 := rf_tr f12 (fun t i k q => y0 t i k (by omega))
              exact hQ M13 ⟨tpR_rf f13 hT, by rw [y0 20 0 10 (by omega), s10, tE1], by rw [y0 20 0 11 (by omega), s11, es], by rw [y8, if_pos tK1], fun _ => by rw [y9, es], fun q => absurd tK1 q, fun q => by omega, hin⟩ f13
        · refine ⟨fun z => absurd rfl z, fun _ M15 e15 => ?_⟩
          have f15 : rf M M15 := rf_tr f3 (fun t i k q => by rw [e15, pt_ne (by omega), e6, pt_ne (by omega)])
          have tE1 : tE T n i = a := by rw [eE]; unfold tEs; rw [if_pos y]
          have tK1 : tK T n i = 0 := by rw [eK]; unfold tKs; rw [if_pos y]
          refine hQ M15 ⟨tpR_rf f15 hT, ?_, ?_, ?_, fun q => by omega, fun _ => ?_, fun q => by omega, hin⟩ f15
          · rw [e15, pt_ne (by omega), e6, pt_ne (by omega), x10, tE1]
          · rw [e15, pt_ne (by omega), e6, pt_ne (by omega), e3, pt_eq, es]
          · rw [e15, pt_ne (by omega), e6, pt_ne (by omega), e3, pt_ne (by omega), g8, if_neg (by omega)]
          · rw [e15, pt_eq, tK1]
      exact M_byteAt hT' (fun y => body _ (nb y)) (fun y => body _ (by decide))
    intro d
    induction d with
    | zero =>
      intro a M' hd g8 g10 f' es
      rw [sk_e (by omega)] at es
      exact tok a M' (by omega) g8 g10 f' es (fun q => by omega)
    | succ d ih =>
      intro a M' hd g8 g10 f' es
      have hT' := tpR_rf f' hT
      rw [sk_s (by omega)] at es
      by_cases y : T a = 32
      · rw [if_pos (show isB (T a) from y)] at es
        refine vc_M_step_8 _ ?_
        rw [g10]
        refine M_byteAt hT' (fun z => ⟨fun q => absurd y q, fun _ M16 e16 => ?_⟩) (fun z => by omega)
        rw [g10, w32_s (by omega)] at e16
        exact ih (a + 1) M16 (by omega) (by rw [e16, pt_ne (by omega)]; exact g8) (by rw [e16, pt_eq]) (rf_tr f' (by rw [e16]; exact rf_pt (by omega))) es
      · rw [if_neg (show ¬ isB (T a) from y)] at es
        exact tok a M' (by omega) g8 g10 f' es (fun _ => y)
  exact loop (n - i) i M (by omega) h8 hi (rf_rf M) rfl
end

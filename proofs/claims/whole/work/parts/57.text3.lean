/-! names, numbers, lines of the reference -/
theorem wTab : ∀ w, w < 7 → endsT.getD (w + 1) 0 - endsT.getD w 0 = ((wLen.getD w 0 : Nat) : Int) ∧ endsT.getD w 0 = ((wOff.getD w 0 : Nat) : Int) ∧ wOff.getD w 0 + wLen.getD w 0 ≤ 39 ∧ endsT.getD (w + 1) 0 ≤ 39 := by decide
section
variable {E : EE} {Q : Int → JM → Prop} {M : JM} {T : Nat → Int} {n : Nat}
theorem M_nameHere {i s : Nat} {k : Int} (hT : tpR T n M) (h10 : M 20 0 10 = i) (h11 : M 20 0 11 = s) (h12 : M 20 0 12 = k) (hs : s ≤ i) (hi : i ≤ n) (hQ : Q (if k = 1 then wdR T s i else -4) M) : JC E mm_M_nameHere [vR 20 0] M Q := by
  have h160 := hT.2.1
  refine vc_M_nameHere _ ?_
  by_cases y1 : k = 1
  · rw [if_pos y1] at hQ
    unfold wdR at hQ
    refine up_ind (P := fun w => @fnd (mtc T s i) (mtcD T s i) 0 7 = @fnd (mtc T s i) (mtcD T s i) w (7 - w) → JG E mm_M_nameHere Q 2 [(0, vR 20 0), (1, vI (w : Int))] [] M) 7 ?_ ?_ rfl
    · intro e
      rw [e, @fnd_e (mtc T s i) (mtcD T s i) 7] at hQ
      exact vc_M_nameHere_2 _ _ ⟨fun _ => hQ, fun z => by omega⟩
    · intro w hw ih e
      rw [@fnd_s (mtc T s i) (mtcD T s i) w 7 (by omega)] at e
      obtain ⟨t1, t2, t3, t4⟩ := wTab w hw
      have a1 := hT.2.2.2.1 (w + 1) (by omega)
      have a0 := hT.2.2.2.1 w (by omega)
      have no : ¬ mtc T s i w → JG E mm_M_nameHere Q 106 [(0, vR 20 0), (1, vI (w : Int)), (2, vI 0)] [] M := by
        intro q
        rw [if_neg q] at e
        refine vc_M_nameHere_106 _ _ _ ⟨fun _ a ea => ?_, fun z => absurd rfl z⟩
        rw [ea, w32_s (by omega)]
        exact ih e
      have no51 : ∀ l3 : Int, ¬ mtc T s i w → JG E mm_M_nameHere Q 51 [(0, vR 20 0), (1, vI (w : Int)), (2, vI 0), (3, vI l3)] [] M := fun l3 q => vc_M_nameHere_51 _ _ _ _ ⟨fun _ => no q, fun z => absurd rfl z⟩
      refine vc_M_nameHere_2 _ _ ⟨fun z => by omega, fun _ => ?_⟩
      rw [h12, h10, h11, w32_s (by omega), Int.toNat_natCast, Int.toNat_natCast, a1, a0, w32_id (x := (i : Int) - (s : Int)) (by omega) (by omega), w32_id (x := endsT.getD (w + 1) 0 - endsT.getD w 0) (by omega) (by omega), t1]
      refine ⟨fun z => absurd y1 z, fun _ => ⟨by omega, by omega, fun z => no51 0 (fun q => by have := q.1; omega), fun z => ?_⟩⟩
      have key := up_ind (P := fun j => (∀ j', j' < j → T (s + j') = lettT.getD (wOff.getD w 0 + j') 0) → JG E mm_M_nameHere Q 51 [(0, vR 20 0), (1, vI (w : Int)), (2, vI 1), (3, vI (j : Int))] [] M) (wLen.getD w 0) ?_ ?_ (fun j' h => by omega)
      · exact key
      · intro hm
        have yes : mtc T s i w := ⟨by omega, hm⟩
        rw [if_pos yes] at e
        rw [e] at hQ
        refine vc_M_nameHere_51 _ _ _ _ ⟨fun z => absurd z (by decide), fun _ => ?_⟩
        rw [h10, h11, w32_id (by omega) (by omega)]
        exact ⟨fun _ => vc_M_nameHere_106 _ _ _ ⟨fun z => absurd z (by decide), fun _ => hQ⟩, fun z2 => by omega⟩
      · intro j hj ih2 hm
        refine vc_M_nameHere_51 _ _ _ _ ⟨fun z => absurd z (by decide), fun _ => ?_⟩
        rw [h10, h11, w32_id (x := (i : Int) - (s : Int)) (by omega) (by omega), w32_id (x := (s : Int) + (j : Int)) (by omega) (by omega), ← Int.natCast_add]
        refine ⟨fun z2 => by omega, fun _ => M_byteAt hT (fun z2 => ?_) (fun z2 => by omega)⟩
        rw [Int.toNat_natCast, a0, t2, ← Int.natCast_add, w32_id (by omega) (by omega), Int.toNat_natCast, hT.2.2.2.2 _ (by omega)]
        refine ⟨by omega, by omega, fun z3 a ea => no51 a (fun q => z3 (q.2 j hj)), fun z3 a ea => ?_⟩
        rw [ea, w32_s (by omega)]
        refine ih2 (fun j' h => ?_)
        by_cases y : j' = j
        · rw [y]; exact z3
        · exact hm j' (by omega)
  · rw [if_neg y1] at hQ
    refine vc_M_nameHere_2 _ _ ⟨fun z => by omega, fun _ => ?_⟩
    rw [h12]
    exact ⟨fun _ => hQ, fun z => absurd z y1⟩
theorem CT_b {p : Nat} (h : CT T n M p) : p ≤ tS T n p ∧ tS T n p ≤ tE T n p ∧ tE T n p ≤ n ∧ n ≤ 160 := by
  have := tE_b (T := T) h.2.2.2.2.2.2.2
  have := h.1.2.1
  omega
theorem M_numberF {lo hi : Int} (h8 : 0 < M 20 0 8) (hQ : Q lo M) : JC E mm_M_number [vR 20 0, vI lo, vI hi] M Q := by
  have h0 : M 20 0 8 ≠ 0 := by omega
  exact vc_M_number _ _ _ ⟨fun _ => vc_M_number_20 _ _ _ ⟨fun _ => vc_M_number_47 _ _ ⟨fun _ => vc_M_number_62 _ _ (M_stepF h8 hQ), fun z => absurd z h0⟩, fun z => absurd z h0⟩, fun z => absurd z h0⟩
theorem M_number {p : Nat} {lo hi : Int} (hC : CT T n M p) (hok : nmF T n p lo hi = 0 → ∀ M' : JM, CT T n M' (tE T n p) → rf M M' → lo ≤ tV T n p ∧ tV T n p ≤ hi → Q (tV T n p) M') (hbad : nmF T n p lo hi ≠ 0 → ∀ M' : JM, M' 20 0 8 = nmF T n p lo hi → M' 20 0 9 = tS T n p → rf M M' → Q lo M') : JC E mm_M_number [vR 20 0, vI lo, vI hi] M Q := by
  obtain ⟨cT, c10, c11, c8, c9, c12, c13, cp⟩ := id hC
  have cb := CT_b hC
  by_cases y4 : tK T n p = 4
  · rw [if_pos y4] at c8
    refine M_numberF (by omega) ?_
    unfold nmF at hbad
    rw [if_pos y4] at hbad
    exact hbad (by decide) M c8 (c9 y4) (rf_rf M)
  · rw [if_neg y4] at c8
    have k12 := c12 y4
    have g47F : ∀ M1 : JM, 0 < M1 20 0 8 → Q lo M1 → JG E mm_M_number Q 47 [(0, vR 20 0), (1, vI lo)] [] M1 := fun M1 h q => vc_M_number_47 _ _ ⟨fun _ => vc_M_number_62 _ _ (M_stepF h q), fun z => by omega⟩
    refine vc_M_number _ _ _ ⟨fun z => absurd c8 z, fun _ => ?_⟩
    rw [k12]
    refine ⟨fun y2 => ?_, fun y2 => M_fails c8 c11 (fun M1 a8 a9 a0 => ?_)⟩
    · refine vc_M_number_20 _ _ _ ⟨fun z => absurd c8 z, fun _ => ?_⟩
      rw [c13 y2]
      refine M_in (fun q => d10 ?_) (fun q => d00 (M_fails c8 c11 (fun M1 a8 a9 a0 => ?_)))
      · have e0 : nmF T n p lo hi = 0 := by unfold nmF; rw [if_neg y4, if_pos y2, if_pos q]
        refine vc_M_number_47 _ _ ⟨fun z => absurd c8 z, fun _ => ?_⟩
        rw [c13 y2]
        exact vc_M_number_62 _ _ (M_step cT c8 c10 cb.2.2.1 (fun M' cc f => hok e0 M' cc f q))
      · have e3 : nmF T n p lo hi = 3 := by unfold nmF; rw [if_neg y4, if_pos y2, if_neg q]
        rw [e3] at hbad
        exact g47F M1 (by omega) (hbad (by decide) M1 a8 a9 (fun t i k q => a0 t i k (by omega)))
    · have e2 : nmF T n p lo hi = 2 := by unfold nmF; rw [if_neg y4, if_neg y2]
      rw [e2] at hbad
      refine vc_M_number_20 _ _ _ ⟨fun _ => g47F M1 (by omega) (hbad (by decide) M1 a8 a9 (fun t i k q => a0 t i k (by omega))), fun z => by omega⟩
/-- the page that is read -/
def RP (M : JM) (X : Nat → Int) (np : Nat) : Prop := (∀ k, k < 44 → M 22 0 k = X k) ∧ M 20 0 3 = np
theorem RP_rf {M' : JM} {X : Nat → Int} {np : Nat} (f : rf M M') (h : RP M X np) : RP M' X np := ⟨fun k hk => by rw [f 22 0 k (by omega)]; exact h.1 k hk, by rw [f 20 0 3 (by omega)]; exact h.2⟩
def zr (X : Nat → Int) : Prop := ∀ j, (24 ≤ j ∧ j < 32) ∨ (37 ≤ j ∧ j < 41) → X j = 0
/-- what reading may change -/
def rg (M M' : JM) : Prop := ∀ t i k, ¬ (t = 22 ∨ (t = 20 ∧ (k = 3 ∨ k = 4 ∨ (8 ≤ k ∧ k ≤ 13)))) → M' t i k = M t i k
theorem rg_rf (M : JM) : rg M M := fun _ _ _ _ => rfl
theorem rg_tr {M M' M'' : JM} (h : rg M M') (h2 : rg M' M'') : rg M M'' := fun t i k q => (h2 t i k q).trans (h t i k q)
theorem rf_rg {M' : JM} (h : rf M M') : rg M M' := fun t i k q => h t i k (by omega)
theorem CT_o {M' : JM} {p : Nat} (h : ∀ t i k, ¬ (t = 22 ∨ (t = 20 ∧ (k = 3 ∨ k = 4))) → M' t i k = M t i k) (hC : CT T n M p) : CT T n M' p := by
  obtain ⟨cT, c10, c11, c8, c9, c12, c13, cp⟩ := hC
  refine ⟨⟨⟨by rw [h 20 0 6 (by omega)]; exact cT.1.1, fun j hj => by rw [h 23 0 j (by omega)]; exact cT.1.2 j hj⟩, cT.2.1, cT.2.2.1, fun j hj => by rw [h 24 0 j (by omega)]; exact cT.2.2.2.1 j hj, fun j hj => by rw [h 25 0 j (by omega)]; exact cT.2.2.2.2 j hj⟩, by rw [h 20 0 10 (by omega)]; exact c10, by rw [h 20 0 11 (by omega)]; exact c11, by rw [h 20 0 8 (by omega)]; exact c8, fun q => by rw [h 20 0 9 (by omega)]; exact c9 q, fun q => by rw [h 20 0 12 (by omega)]; exact c12 q, fun q => by rw [h 20 0 13 (by omega)]; exact c13 q, cp⟩
/-- where the sign of a line is to be -/
def lnS (T : Nat → Int) (n : Nat) (w : Int) (i : Nat) : Nat := if w ≤ 3 then tE T n (tE T n i) else tE T n i
/-- what is wrong with the numbers of a line -/
def lnM (T : Nat → Int) (n : Nat) (w : Int) (i : Nat) : Int × Nat := if w ≤ 3 then (if nmF T n i 1 9 ≠ 0 then (nmF T n i 1 9, tS T n i) else (nmF T n (tE T n i) 0 9, tS T n (tE T n i))) else (nmF T n i (loW w) (hiW w), tS T n i)
theorem lnF_M {w : Int} {i : Nat} (h : (lnM T n w i).1 ≠ 0) : (lnF T n w i).1 = (lnM T n w i).1 ∧ (lnF T n w i).2.1 = (lnM T n w i).2 := by
  unfold lnM at h ⊢
  unfold lnF
  by_cases y : w ≤ 3
  · rw [if_pos y] at h ⊢
    rw [if_pos y]
    by_cases y1 : nmF T n i 1 9 ≠ 0
    · rw [if_pos y1, if_pos y1]; exact ⟨rfl, rfl⟩
    · rw [if_neg y1] at h ⊢
      rw [if_neg y1, if_pos h]; exact ⟨rfl, rfl⟩
  · rw [if_neg y] at h ⊢
    rw [if_neg y, if_pos h]; exact ⟨rfl, rfl⟩
theorem lnF_S {w : Int} {i : Nat} (h : (lnM T n w i).1 = 0) : lnF T n w i = (sgF T n (lnS T n w i), tS T n (lnS T n w i), tE T n (lnS T n w i)) := by
  unfold lnM at h
  unfold lnF lnS
  by_cases y : w ≤ 3
  · rw [if_pos y] at h
    rw [if_pos y, if_pos y]
    by_cases y1 : nmF T n i 1 9 ≠ 0
    · rw [if_pos y1] at h; exact absurd h y1
    · rw [if_neg y1] at h
      rw [if_neg y1, if_neg (fun q => q h)]
  · rw [if_neg y] at h
    rw [if_neg y, if_neg y, if_neg (fun q => q h)]
theorem M_readMore {p np : Nat} {w : Int} {X : Nat → Int} (hw : 0 ≤ w ∧ w ≤ 6) (hC : CT T n M p) (hB : PB X np) (hz : zr X) (hR : RP M X np) (hfull : ¬ ((w ≤ 3 ∧ X 32 = 8) ∨ (w = 4 ∧ np = 4)))
    (hok : (lnM T n w p).1 = 0 → ∀ M' : JM, CT T n M' (lnS T n w p) → RP M' (lnX T n w p X np) (lnN w np) → (∀ t i k, ¬ (t = 22 ∨ (t = 20 ∧ (k = 3 ∨ (8 ≤ k ∧ k ≤ 13)))) → M' t i k = M t i k) → Q 0 M')
    (hbad : (lnM T n w p).1 ≠ 0 → ∀ M' : JM, M' 20 0 8 = (lnM T n w p).1 → M' 20 0 9 = (lnM T n w p).2 → rg M M' → Q 0 M') : JC E mm_M_readMore [vR 20 0, vI w] M Q := by
  have h8 := ngd_le hB
  have hn := ngd_int hB
  have h4 := hB.2.1
  refine vc_M_readMore _ _ ⟨fun y3 => ⟨fun y4 => ⟨fun y5 => ?_, fun y5 => ?_⟩, fun y4 => ?_⟩, fun y3 a ea => ?_⟩
  · -- brings
    have y6 : w = 6 := by omega
    subst y6
    refine M_number hC (fun z M1 c1 f1 b1 M3 e3 => ?_) (fun z M1 a8 a9 f1 M3 e3 => ?_)
    · rw [w32_id (by omega) (by omega)] at e3
      refine hok z M3 (CT_o (fun t i k q => by rw [e3, pt_ne (by omega)]) c1) ⟨fun k hk => ?_, ?_⟩ (fun t i k q => by rw [e3, pt_ne (by omega)]; exact f1 t i k (by omega))
      · show _ = uf X 42 _ k
        by_cases q : k = 42
        · rw [q, uf_s, e3, pt_eq]
        · rw [uf_n q, e3, pt_ne (by omega), f1 22 0 k (by omega)]; exact hR.1 k hk
      · rw [e3, pt_ne (by omega), f1 20 0 3 (by omega)]; exact hR.2
    · exact hbad z M3 (by rw [e3, pt_ne (by omega)]; exact a8) (by rw [e3, pt_ne (by omega)]; exact a9) (fun t i k q => by rw [e3, pt_ne (by omega)]; exact f1 t i k (by omega))
  · -- hooter
    subst y5
    refine M_number hC (fun z M1 c1 f1 b1 M3 e3 => ?_) (fun z M1 a8 a9 f1 M3 e3 => ?_)
    · rw [w32_id (by omega) (by omega)] at e3
      refine hok z M3 (CT_o (fun t i k q => by rw [e3, pt_ne (by omega)]) c1) ⟨fun k hk => ?_, ?_⟩ (fun t i k q => by rw [e3, pt_ne (by omega)]; exact f1 t i k (by omega))
      · show _ = uf X 41 _ k
        by_cases q : k = 41
        · rw [q, uf_s, e3, pt_eq]
        · rw [uf_n q, e3, pt_ne (by omega), f1 22 0 k (by omega)]; exact hR.1 k hk
      · rw [e3, pt_ne (by omega), f1 20 0 3 (by omega)]; exact hR.2
    · exact hbad z M3 (by rw [e3, pt_ne (by omega)]; exact a8) (by rw [e3, pt_ne (by omega)]; exact a9) (fun t i k q => by rw [e3, pt_ne (by omega)]; exact f1 t i k (by omega))
  · -- one
    subst y4
    have hnp : np < 4 := by omega
    rw [hR.2, w32_id (x := 33 + ((np : Nat) : Int)) (by omega) (by omega), show (33 + ((np : Nat) : Int)).toNat = 33 + np by omega]
    refine M_number hC (fun z M1 c1 f1 b1 => ⟨by omega, fun M3 e3 M4 e4 => ?_⟩) (fun z M1 a8 a9 f1 => ⟨by omega, fun M3 e3 M4 e4 => ?_⟩)
    · have x3 : M3 20 0 3 = np := by rw [e3, pt_ne (by omega), f1 20 0 3 (by omega)]; exact hR.2
      rw [x3, w32_s (by omega)] at e4
      refine hok z M4 (CT_o (fun t i k q => by rw [e4, pt_ne (by omega), e3, pt_ne (by omega)]) c1) ⟨fun k hk => ?_, by rw [e4, pt_eq]; rfl⟩ (fun t i k q => by rw [e4, pt_ne (by omega), e3, pt_ne (by omega)]; exact f1 t i k (by omega))
      show _ = adO X np _ k
      unfold adO
      by_cases q : k = 33 + np
      · rw [if_pos q, q, e4, pt_ne (by omega), e3, pt_eq]
      · rw [if_neg q]
        have e : M4 22 0 k = X k := by rw [e4, pt_ne (by omega), e3, pt_ne (by omega), f1 22 0 k (by omega)]; exact hR.1 k hk
        rw [e]
        by_cases q2 : k = 37 + np
        · rw [if_pos q2]; exact hz k (by omega)
        · rw [if_neg q2]
    · exact hbad z M4 (by rw [e4, pt_ne (by omega), e3, pt_ne (by omega)]; exact a8) (by rw [e4, pt_ne (by omega), e3, pt_ne (by omega)]; exact a9) (fun t i k q => by rw [e4, pt_ne (by omega), e3, pt_ne (by omega)]; exact f1 t i k (by omega))
  · -- a good
    have hg : ngd X < 8 := by omega
    have ea' : a = ((ngd X : Nat) : Int) := by rw [ea, hn]; exact hR.1 32 (by omega)
    subst ea'
    rw [w32_id (x := 8 + ((ngd X : Nat) : Int)) (by omega) (by omega), w32_id (x := 16 + ((ngd X : Nat) : Int)) (by omega) (by omega), show (8 + ((ngd X : Nat) : Int)).toNat = 8 + ngd X by omega, show (16 + ((ngd X : Nat) : Int)).toNat = 16 + ngd X by omega, Int.toNat_natCast]
    have eM : lnM T n w p = if nmF T n p 1 9 ≠ 0 then (nmF T n p 1 9, tS T n p) else (nmF T n (tE T n p) 0 9, tS T n (tE T n p)) := if_pos y3
    have eS : lnS T n w p = tE T n (tE T n p) := if_pos y3
    have eX : lnX T n w p X np = addg X w (tV T n p) (tV T n (tE T n p)) := if_pos y3
    have eN : lnN w np = np := if_neg (by omega)
    rw [eM] at hok hbad
    rw [eS, eX, eN] at hok
    refine ⟨by omega, fun M12 e12 => ?_⟩
    have c12 : CT T n M12 p := CT_o (fun t i k q => by rw [e12, pt_ne (by omega)]) hC
    refine M_number c12 (fun z M1 c1 f1 b1 => ⟨by omega, fun M15 e15 => ?_⟩) (fun z M1 a8 a9 f1 => ⟨by omega, fun M15 e15 => ?_⟩)
    · rw [if_neg (fun q => q z)] at hok hbad
      have c15 : CT T n M15 (tE T n p) := CT_o (fun t i k q => by rw [e15, pt_ne (by omega)]) c1
      refine M_number c15 (fun z2 M2 c2 f2 b2 => ⟨by omega, fun M18 e18 M19 e19 => ?_⟩) (fun z2 M2 a8 a9 f2 => ⟨by omega, fun M18 e18 M19 e19 => ?_⟩)
      · have x32 : M18 22 0 32 = X 32 := by rw [e18, pt_ne (by omega), f2 22 0 32 (by omega), e15, pt_ne (by omega), f1 22 0 32 (by omega), e12, pt_ne (by omega)]; exact hR.1 32 (by omega)
        rw [x32, w32_id (by omega) (by omega)] at e19
        refine hok z2 M19 (CT_o (fun t i k q => by rw [e19, pt_ne (by omega), e18, pt_ne (by omega)]) c2) ⟨fun k hk => ?_, ?_⟩ (fun t i k q => by rw [e19, pt_ne (by omega), e18, pt_ne (by omega), f2 t i k (by omega), e15, pt_ne (by omega), f1 t i k (by omega), e12, pt_ne (by omega)])
        · unfold addg
          by_cases q0 : k = ngd X
          · rw [if_pos q0, q0, e19, pt_ne (by omega), e18, pt_ne (by omega), f2 22 0 _ (by omega), e15, pt_ne (by omega), f1 22 0 _ (by omega), e12, pt_eq]
          · rw [if_neg q0]
            by_cases q1 : k = 8 + ngd X
            · rw [if_pos q1, q1, e19, pt_ne (by omega), e18, pt_ne (by omega), f2 22 0 _ (by omega), e15, pt_eq]
            · rw [if_neg q1]
              by_cases q2 : k = 16 + ngd X
              · rw [if_pos q2, q2, e19, pt_ne (by omega), e18, pt_eq]
              · rw [if_neg q2]
                by_cases q5 : k = 32
                · rw [if_neg (by omega), if_pos q5, q5, e19, pt_eq]
                · have e : M19 22 0 k = X k := by rw [e19, pt_ne (by omega), e18, pt_ne (by omega), f2 22 0 _ (by omega), e15, pt_ne (by omega), f1 22 0 _ (by omega), e12, pt_ne (by omega)]; exact hR.1 k hk
                  rw [e]
                  by_cases q3 : k = 24 + ngd X
                  · rw [if_pos q3]; exact hz k (by omega)
                  · rw [if_neg q3, if_neg q5]
        · rw [e19, pt_ne (by omega), e18, pt_ne (by omega), f2 20 0 3 (by omega), e15, pt_ne (by omega), f1 20 0 3 (by omega), e12, pt_ne (by omega)]; exact hR.2
      · exact hbad z2 M19 (by rw [e19, pt_ne (by omega), e18, pt_ne (by omega)]; exact a8) (by rw [e19, pt_ne (by omega), e18, pt_ne (by omega)]; exact a9) (fun t i k q => by rw [e19, pt_ne (by omega), e18, pt_ne (by omega), f2 t i k (by omega), e15, pt_ne (by omega), f1 t i k (by omega), e12, pt_ne (by omega)])
    · rw [if_pos z] at hbad
      have nc := nmF_c (T := T) (n := n) (i := p) (lo := 1) (hi := 9)
      have p15 : 0 < M15 20 0 8 := by rw [e15, pt_ne (by omega), a8]; omega
      refine M_numberF p15 ⟨by omega, fun M18 e18 M19 e19 => ?_⟩
      exact hbad z M19 (by rw [e19, pt_ne (by omega), e18, pt_ne (by omega), e15, pt_ne (by omega)]; exact a8) (by rw [e19, pt_ne (by omega), e18, pt_ne (by omega), e15, pt_ne (by omega)]; exact a9) (fun t i k q => by rw [e19, pt_ne (by omega), e18, pt_ne (by omega), e15, pt_ne (by omega), f1 t i k (by omega), e12, pt_ne (by omega)])
end

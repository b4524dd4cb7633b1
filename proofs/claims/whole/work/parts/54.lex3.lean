/-! lines -/
def rfF (w : Int) (X : Nat → Int) (np : Nat) (h5 h6 : Int) : Int := if w = 7 then 2 else if (w = 5 ∧ h5 ≠ 0) ∨ (w = 6 ∧ h6 ≠ 0) then 4 else if (w ≤ 3 ∧ X 32 = 8) ∨ (w = 4 ∧ np = 4) then 5 else 0
def loW (w : Int) : Int := if w = 4 then 1 else 0
def hiW (w : Int) : Int := if w = 4 then 20 else if w = 5 then 6 else 8
def lnF (T : Nat → Int) (n : Nat) (w : Int) (i : Nat) : Int × Nat × Nat :=
  if w ≤ 3 then (if nmF T n i 1 9 ≠ 0 then (nmF T n i 1 9, tS T n i, 0) else if nmF T n (tE T n i) 0 9 ≠ 0 then (nmF T n (tE T n i) 0 9, tS T n (tE T n i), 0) else (sgF T n (tE T n (tE T n i)), tS T n (tE T n (tE T n i)), tE T n (tE T n (tE T n i))))
  else if nmF T n i (loW w) (hiW w) ≠ 0 then (nmF T n i (loW w) (hiW w), tS T n i, 0) else (sgF T n (tE T n i), tS T n (tE T n i), tE T n (tE T n i))
def lnX (T : Nat → Int) (n : Nat) (w : Int) (i : Nat) (X : Nat → Int) (np : Nat) : Nat → Int := if w ≤ 3 then addg X w (tV T n i) (tV T n (tE T n i)) else if w = 4 then adO X np (tV T n i) else if w = 5 then uf X 41 (tV T n i - 2) else uf X 42 (tV T n i - 2)
def lnN (w : Int) (np : Nat) : Nat := if w = 4 then np + 1 else np
def lnH (c w h : Int) : Int := if w = c then 1 else h
def wdK (T : Nat → Int) (i s : Nat) (k : Int) : Int := if k = 1 then wd T s i else 7
def prs (T : Nat → Int) (n : Nat) : Nat → (Nat → Int) → Nat → Int → Int → Nat → Nat → Int → Nat → (Int × Nat) × (Nat × ((Nat → Int) × Nat))
  | 0, X, np, _, _, _, _, _, L => ((0, 0), (L, (X, np)))
  | fu + 1, X, np, h5, h6, i, s, k, L =>
    if k = 4 then ((1, s), (L, (X, np))) else if k = 0 then ((0, 0), (L, (X, np)))
    else if rfF (wdK T i s k) X np h5 h6 ≠ 0 then ((rfF (wdK T i s k) X np h5 h6, s), (L, (X, np)))
    else if (lnF T n (wdK T i s k) i).1 ≠ 0 then (((lnF T n (wdK T i s k) i).1, (lnF T n (wdK T i s k) i).2.1), (L, (X, np)))
    else prs T n fu (lnX T n (wdK T i s k) i X np) (lnN (wdK T i s k) np) (lnH 5 (wdK T i s k) h5) (lnH 6 (wdK T i s k) h6) (tE T n (lnF T n (wdK T i s k) i).2.2) (tS T n (lnF T n (wdK T i s k) i).2.2) (tK T n (lnF T n (wdK T i s k) i).2.2) (L + 1)
theorem nmF_0 {T : Nat → Int} {n i : Nat} {lo hi : Int} (h : nmF T n i lo hi = 0) : tK T n i = 2 ∧ lo ≤ tV T n i ∧ tV T n i ≤ hi := by
  unfold nmF at h
  by_cases y : tK T n i = 4
  · rw [if_pos y] at h; omega
  · rw [if_neg y] at h
    by_cases y2 : tK T n i = 2
    · rw [if_pos y2] at h
      by_cases y3 : lo ≤ tV T n i ∧ tV T n i ≤ hi
      · exact ⟨y2, y3⟩
      · rw [if_neg y3] at h; omega
    · rw [if_neg y2] at h; omega
theorem sgF_0 {T : Nat → Int} {n i : Nat} (h : sgF T n i = 0) : tK T n i = 3 := by
  unfold sgF at h
  by_cases y : tK T n i = 4
  · rw [if_pos y] at h; omega
  · rw [if_neg y] at h
    by_cases y2 : tK T n i = 3
    · exact y2
    · rw [if_neg y2] at h; omega
theorem nmF_c {T : Nat → Int} {n i : Nat} {lo hi : Int} : 0 ≤ nmF T n i lo hi ∧ nmF T n i lo hi ≤ 3 := by
  unfold nmF
  split
  · omega
  · split
    · split <;> omega
    · omega
theorem sgF_c {T : Nat → Int} {n i : Nat} : 0 ≤ sgF T n i ∧ sgF T n i ≤ 2 := by
  unfold sgF
  split
  · omega
  · split <;> omega
theorem rfF_c {w : Int} {X : Nat → Int} {np : Nat} {h5 h6 : Int} : 0 ≤ rfF w X np h5 h6 ∧ rfF w X np h5 h6 ≤ 5 := by
  unfold rfF
  split
  · omega
  · split
    · omega
    · split <;> omega
/-- behind a line the tape is farther on -/
theorem lnF_e {T : Nat → Int} {n i : Nat} {w : Int} (hi : i ≤ n) (h : (lnF T n w i).1 = 0) : i < (lnF T n w i).2.2 ∧ (lnF T n w i).2.2 ≤ n ∧ (lnF T n w i).2.1 < (lnF T n w i).2.2 := by
  have a := tE_b (T := T) hi
  unfold lnF at h ⊢
  by_cases y : w ≤ 3
  · rw [if_pos y] at h ⊢
    by_cases y1 : nmF T n i 1 9 ≠ 0
    · rw [if_pos y1] at h; exact absurd h y1
    · rw [if_neg y1] at h ⊢
      have b := tE_b (T := T) a.2.2.1
      by_cases y2 : nmF T n (tE T n i) 0 9 ≠ 0
      · rw [if_pos y2] at h; exact absurd h y2
      · rw [if_neg y2] at h ⊢
        have c := tE_b (T := T) b.2.2.1
        have d := c.2.2.2 (tK_0 (by have := sgF_0 h; omega))
        dsimp only at h ⊢
        omega
  · rw [if_neg y] at h ⊢
    by_cases y1 : nmF T n i (loW w) (hiW w) ≠ 0
    · rw [if_pos y1] at h; exact absurd h y1
    · rw [if_neg y1] at h ⊢
      have c := tE_b (T := T) a.2.2.1
      have d := c.2.2.2 (tK_0 (by have := sgF_0 h; omega))
      dsimp only at h ⊢
      omega
theorem lnX_PB {T : Nat → Int} {n i np : Nat} {w : Int} {X : Nat → Int} {h5 h6 : Int} (hw : 0 ≤ w ∧ w ≤ 6) (hB : PB X np) (hr : rfF w X np h5 h6 = 0) (h : (lnF T n w i).1 = 0) : PB (lnX T n w i X np) (lnN w np) := by
  have h8 := ngd_le hB
  have hn := ngd_int hB
  have h4 := hB.2.1
  have r5 : ¬ ((w ≤ 3 ∧ X 32 = 8) ∨ (w = 4 ∧ np = 4)) := by
    intro q
    unfold rfF at hr
    rw [if_neg (by omega)] at hr
    by_cases q2 : (w = 5 ∧ h5 ≠ 0) ∨ (w = 6 ∧ h6 ≠ 0)
    · rw [if_pos q2] at hr; omega
    · rw [if_neg q2, if_pos q] at hr; omega
  unfold lnF at h
  unfold lnX lnN
  by_cases y : w ≤ 3
  · rw [if_pos y] at h ⊢
    rw [if_neg (by omega)]
    by_cases y1 : nmF T n i 1 9 ≠ 0
    · rw [if_pos y1] at h; exact absurd h y1
    · rw [if_neg y1] at h
      by_cases y2 : nmF T n (tE T n i) 0 9 ≠ 0
      · rw [if_pos y2] at h; exact absurd h y2
      · have a := nmF_0 (by omega : nmF T n i 1 9 = 0)
        have b := nmF_0 (by omega : nmF T n (tE T n i) 0 9 = 0)
        exact addg_PB hB (by omega) (by omega) a.2 b.2
  · rw [if_neg y] at h ⊢
    by_cases y1 : nmF T n i (loW w) (hiW w) ≠ 0
    · rw [if_pos y1] at h; exact absurd h y1
    · have a := nmF_0 (by omega : nmF T n i (loW w) (hiW w) = 0)
      unfold loW hiW at a
      by_cases y4 : w = 4
      · rw [if_pos y4] at a
        rw [if_pos y4] at a
        rw [if_pos y4, if_pos y4]
        exact adO_PB hB (by omega) a.2
      · rw [if_neg y4, if_neg y4] at a
        rw [if_neg y4, if_neg y4]
        by_cases y5 : w = 5
        · rw [if_pos y5] at a ⊢
          exact PB_h hB (by omega)
        · rw [if_neg y5] at a ⊢
          exact PB_b hB (by omega)
def fl (M M' : JM) : Prop := ∀ t i k, ¬ ((t = 1 ∧ 8 ≤ i ∧ i < 16) ∨ (t = 2 ∧ 4 ≤ i ∧ i < 8) ∨ (t = 3 ∧ i = 1) ∨ (t = 9 ∧ i = 0 ∧ 2 ≤ k)) → M' t i k = M t i k
theorem fl_rf (M : JM) : fl M M := fun _ _ _ _ => rfl
theorem fl_tr {M M' M'' : JM} (h : fl M M') (h2 : fl M' M'') : fl M M'' := fun t i k q => (h2 t i k q).trans (h t i k q)
theorem pf_fl {M M' : JM} (h : pf M M') : fl M M' := fun t i k q => h t i k (by omega)
theorem fra_fl {M M' : JM} (h : fra 1 M M') : fl M M' := fun t i k q => h t i k (by omega)
section
variable {E : EE} {Q : Int → JM → Prop} {M M' : JM} {T : Nat → Int} {n i s np : Nat} {k fp f : Int} {X : Nat → Int}
theorem PC_fra (h : fra 1 M M') (hP : PC T n M i s k f fp) : PC T n M' i s k f fp := by
  obtain ⟨h1, h2, h3, h4, h7, h8, h9⟩ := hP
  exact ⟨⟨by rw [h 9 _ _ (by omega)]; exact h1.1, fun a ha => by rw [h 10 _ _ (by omega)]; exact h1.2 a ha⟩, by rw [h 9 _ _ (by omega)]; exact h2, by rw [h 9 _ _ (by omega)]; exact h3, by rw [h 9 _ _ (by omega)]; exact h4, by rw [h 9 _ _ (by omega)]; exact h7, by rw [h 9 _ _ (by omega)]; exact h8, h9⟩
theorem PC_56 {c : Nat} {x : Int} (hc : c = 5 ∨ c = 6) (e : M' = pt M 9 0 c x) (hP : PC T n M i s k f fp) : PC T n M' i s k f fp := by
  obtain ⟨h1, h2, h3, h4, h7, h8, h9⟩ := hP
  exact ⟨⟨by rw [e, pt_ne (by omega)]; exact h1.1, fun a ha => by rw [e, pt_ne (by omega)]; exact h1.2 a ha⟩, by rw [e, pt_ne (by omega)]; exact h2, by rw [e, pt_ne (by omega)]; exact h3, by rw [e, pt_ne (by omega)]; exact h4, by rw [e, pt_ne (by omega)]; exact h7, by rw [e, pt_ne (by omega)]; exact h8, h9⟩
theorem VC_9 (h : ∀ t i k, ¬ t = 9 → M' t i k = M t i k) (hV : VC M 1 X np) : VC M' 1 X np := VC_eq5 (fun t i k q => h t i k (by omega)) hV
theorem P_refuseWord {w h5 h6 : Int} (hw : 0 ≤ w ∧ w ≤ 7) (hP : PC T n M i s k 0 fp) (hV : VC M 1 X np) (hB : PB X np) (e5 : M 9 0 5 = h5) (e6 : M 9 0 6 = h6) (h0 : rfF w X np h5 h6 = 0 → Q 0 M) (hbad : rfF w X np h5 h6 ≠ 0 → ∀ M' : JM, PC T n M' i s k (rfF w X np h5 h6) s → pf M M' → Q 0 M') : JC E mm_P_refuseWord [vR 9 0, vI w, vR 3 1] M Q := by
  have h4 := hB.2.1
  have h32 := hB.1
  have bad : ∀ c : Int, c ≠ 0 → rfF w X np h5 h6 = c → JC E mm_P_fail [vR 9 0, vI c] M (fun _ M1 => Q 0 M1) := by
    intro c hc e
    rw [e] at hbad
    refine P_fail hP (fun M2 p2 f2 => ?_)
    rw [if_pos rfl, if_pos rfl] at p2
    exact hbad hc M2 p2 f2
  by_cases y7 : w = 7
  · exact vc_P_refuseWord _ _ _ ⟨fun z => absurd y7 z, fun _ => bad 2 (by decide) (by unfold rfF; rw [if_pos y7])⟩
  by_cases y4 : (w = 5 ∧ h5 ≠ 0) ∨ (w = 6 ∧ h6 ≠ 0)
  · have e4 : rfF w X np h5 h6 = 4 := by unfold rfF; rw [if_neg y7, if_pos y4]
    refine vc_P_refuseWord _ _ _ ⟨fun _ => ?_, fun z => absurd z y7⟩
    rw [e5]
    have f39 := vc_P_refuseWord_39 _ (bad 4 (by decide) e4)
    have g26 : w = 6 → JG E mm_P_refuseWord Q 26 [(0, vR 9 0), (1, vI w), (2, vR 3 1)] [] M := fun y => vc_P_refuseWord_26 _ _ _ ⟨fun z => absurd y z, fun _ => by rw [e6]; exact ⟨fun z => by omega, fun _ => f39⟩⟩
    exact ⟨fun z => g26 (by omega), fun z => ⟨fun _ => f39, fun z2 => by omega⟩⟩
  · have g47 : JG E mm_P_refuseWord Q 47 [(0, vR 9 0), (1, vI w), (2, vR 3 1)] [] M := by
      by_cases y5 : (w ≤ 3 ∧ X 32 = 8) ∨ (w = 4 ∧ np = 4)
      · have e5' : rfF w X np h5 h6 = 5 := by unfold rfF; rw [if_neg y7, if_neg y4, if_pos y5]
        have b5 := bad 5 (by decide) e5'
        have g69 : w = 4 → JG E mm_P_refuseWord Q 69 [(0, vR 9 0), (1, vI w), (2, vR 3 1)] [] M := fun y => vc_P_refuseWord_69 _ _ _ ⟨fun z => absurd y z, fun _ => by rw [hV.1.2.1]; exact ⟨fun z => by omega, fun _ => b5⟩⟩
        refine vc_P_refuseWord_47 _ _ _ ⟨fun z => g69 (by omega), fun z => ?_⟩
        rw [hV.1.1]
        exact ⟨fun z2 => by omega, fun _ => b5⟩
      · have e0 : rfF w X np h5 h6 = 0 := by unfold rfF; rw [if_neg y7, if_neg y4, if_neg y5]
        have g69 : JG E mm_P_refuseWord Q 69 [(0, vR 9 0), (1, vI w), (2, vR 3 1)] [] M := vc_P_refuseWord_69 _ _ _ ⟨fun _ => h0 e0, fun z => by rw [hV.1.2.1]; exact ⟨fun _ => h0 e0, fun z2 => by omega⟩⟩
        refine vc_P_refuseWord_47 _ _ _ ⟨fun _ => g69, fun z => ?_⟩
        rw [hV.1.1]
        exact ⟨fun _ => g69, fun z2 => by omega⟩
    have g26 : JG E mm_P_refuseWord Q 26 [(0, vR 9 0), (1, vI w), (2, vR 3 1)] [] M := vc_P_refuseWord_26 _ _ _ ⟨fun _ => g47, fun z => by rw [e6]; exact ⟨fun _ => g47, fun z2 => by omega⟩⟩
    refine vc_P_refuseWord _ _ _ ⟨fun _ => ⟨fun _ => g26, fun z => ?_⟩, fun z => absurd z y7⟩
    rw [e5]
    exact ⟨fun z2 => by omega, fun _ => g26⟩
theorem wdK_c (T : Nat → Int) (i s : Nat) (k : Int) : 0 ≤ wdK T i s k ∧ wdK T i s k ≤ 7 := by
  unfold wdK
  by_cases y : k = 1
  · rw [if_pos y]
    unfold wd
    rcases wdR_c T s i with h | h
    · rw [if_pos h]; omega
    · rw [if_neg (by omega)]; omega
  · rw [if_neg y]; omega
/-- a line; what is wrong with it, and where -/
def lnB (T : Nat → Int) (n i s : Nat) (k : Int) (X : Nat → Int) (np : Nat) (h5 h6 : Int) : Int × Nat := if rfF (wdK T i s k) X np h5 h6 ≠ 0 then (rfF (wdK T i s k) X np h5 h6, s) else ((lnF T n (wdK T i s k) i).1, (lnF T n (wdK T i s k) i).2.1)
theorem P_tellLine {h5 h6 : Int} (hW : WOK E) (hP : PC T n M i s k 0 fp) (hV : VC M 1 X np) (hB : PB X np) (e5 : M 9 0 5 = h5) (e6 : M 9 0 6 = h6)
    (hok : (lnB T n i s k X np h5 h6).1 = 0 → ∀ M' : JM, PC T n M' (lnF T n (wdK T i s k) i).2.2 (lnF T n (wdK T i s k) i).2.1 3 0 fp → VC M' 1 (lnX T n (wdK T i s k) i X np) (lnN (wdK T i s k) np) → M' 9 0 5 = lnH 5 (wdK T i s k) h5 → M' 9 0 6 = lnH 6 (wdK T i s k) h6 → fl M M' → Q 0 M')
    (hbad : (lnB T n i s k X np h5 h6).1 ≠ 0 → ∀ (M' : JM) (i' s' : Nat) (k' : Int), PC T n M' i' s' k' (lnB T n i s k X np h5 h6).1 (lnB T n i s k X np h5 h6).2 → fl M M' → Q 0 M') : JC E mm_P_tellLine [vR 9 0, vR 3 1] M Q := by
  have hw := wdK_c T i s k
  have h8 := ngd_le hB
  have hn := ngd_int hB
  have h4 := hB.2.1
  have g17 : JG E mm_P_tellLine Q 17 [(0, vR 9 0), (1, vR 3 1)] [vI (wdK T i s k)] M := by
    unfold lnB at hok hbad
    generalize wdK T i s k = w at hok hbad hw
    refine vc_P_tellLine_17 _ _ _ (P_refuseWord hw hP hV hB e5 e6 (fun r0 => ?_) (fun r0 M1 p1 f1 => ?_))
    · rw [if_neg (fun z => z r0)] at hok hbad
      rw [hP.2.2.2.2.1]
      have r5 : w ≠ 7 ∧ ¬ ((w ≤ 3 ∧ X 32 = 8) ∨ (w = 4 ∧ np = 4)) := by
        unfold rfF at r0
        by_cases q7 : w = 7
        · rw [if_pos q7] at r0; omega
        · rw [if_neg q7] at r0
          refine ⟨q7, fun q => ?_⟩
          by_cases q2 : (w = 5 ∧ h5 ≠ 0) ∨ (w = 6 ∧ h6 ≠ 0)
          · rw [if_pos q2] at r0; omega
          · rw [if_neg q2, if_pos q] at r0; omega
      -- behind the numbers
      have endF : ∀ (M1 : JM) (i' s' : Nat) (k' f' fp' : Int), f' ≠ 0 → PC T n M1 i' s' k' f' fp' → Q 0 M1 → JG E mm_P_tellLine Q 130 [(0, vR 9 0)] [] M1 := fun M1 i' s' k' f' fp' hf p q => vc_P_tellLine_130 _ (P_nextSignF hf p q)
      have endS : ∀ (M1 : JM) (e s' : Nat) (k' : Int) (X' : Nat → Int) (np' : Nat) (a5 a6 : Int), PC T n M1 e s' k' 0 fp → VC M1 1 X' np' → M1 9 0 5 = a5 → M1 9 0 6 = a6 → fl M M1 → (sgF T n e = 0 → ∀ M' : JM, PC T n M' (tE T n e) (tS T n e) 3 0 fp → VC M' 1 X' np' → M' 9 0 5 = a5 → M' 9 0 6 = a6 → fl M M' → Q 0 M') → (sgF T n e ≠ 0 → ∀ M' : JM, PC T n M' (tE T n e) (tS T n e) (tK T n e) (sgF T n e) (tS T n e) → fl M M' → Q 0 M') → JG E mm_P_tellLine Q 130 [(0, vR 9 0)] [] M1 := by
        intro M1 e s' k' X' np' a5 a6 p v b5 b6 f1 ho hb1
        refine vc_P_tellLine_130 _ (P_nextSign p (fun z M2 p2 f2 => ?_) (fun z M2 p2 f2 => ?_))
        · exact ho z M2 p2 (VC_9 (fun t i k q => f2 t i k (by omega)) v) (by rw [f2 9 0 5 (by omega)]; exact b5) (by rw [f2 9 0 6 (by omega)]; exact b6) (fl_tr f1 (pf_fl f2))
        · exact hb1 z M2 p2 (fl_tr f1 (pf_fl f2))
      refine ⟨fun _ => ⟨fun y3 => ⟨fun y4 => ⟨fun y5 => ⟨fun y6 => by omega, fun y6 M3 e3 => ?_⟩, fun y5 M3 e3 => ?_⟩, fun y4 => ?_⟩, fun y3 => ?_⟩, fun z => absurd rfl z⟩
      · -- brings
        subst y6
        have p3 := PC_56 (Or.inr rfl) e3 hP
        have f3 : fl M M3 := fun t i k q => by rw [e3, pt_ne (by omega)]
        have v3 : VC M3 1 X np := VC_9 (fun t i k q => by rw [e3, pt_ne (by omega)]) hV
        refine P_nextNumber p3 (fun z M4 p4 f4 b4 M6 e6' => ?_) (fun z M4 p4 f4 M6 e6' => ?_)
        · have v4 : VC M4 1 X np := VC_9 (fun t i k q => f4 t i k (by omega)) v3
          have v6 := VC_set (k := 1) (by omega) hB v4 e6'
          have g6 : fra 1 M4 M6 := by rw [e6']; exact fra_pt (by omega)
          have z' : ¬ (nmF T n i (loW 6) (hiW 6) ≠ 0) := fun q => q z
          refine endS M6 (tE T n i) (tS T n i) 2 _ np h5 1 (PC_fra g6 p4) v6 (by rw [g6 9 0 5 (by omega), f4 9 0 5 (by omega), e3, pt_ne (by omega)]; exact e5) (by rw [g6 9 0 6 (by omega), f4 9 0 6 (by omega), e3, pt_eq]) (fl_tr f3 (fl_tr (pf_fl f4) (fra_fl g6))) (fun zs M' a b c d e => ?_) (fun zs M' a e => ?_)
          · have eL : lnF T n 6 i = (sgF T n (tE T n i), tS T n (tE T n i), tE T n (tE T n i)) := by unfold lnF; rw [if_neg (by decide), if_neg z']
            rw [eL] at hok
            exact hok zs M' a b c d e
          · have eL : lnF T n 6 i = (sgF T n (tE T n i), tS T n (tE T n i), tE T n (tE T n i)) := by unfold lnF; rw [if_neg (by decide), if_neg z']
            rw [eL] at hbad
            exact hbad zs M' _ _ _ a e
        · have g6 : fra 1 M4 M6 := by rw [e6']; exact fra_pt (by omega)
          have eL : lnF T n 6 i = (nmF T n i 0 8, tS T n i, 0) := by
            unfold lnF
            rw [if_neg (by decide)]
            exact if_pos z
          rw [eL] at hbad
          exact endF M6 _ _ _ _ _ z (PC_fra g6 p4) (hbad z M6 _ _ _ (PC_fra g6 p4) (fl_tr f3 (fl_tr (pf_fl f4) (fra_fl g6))))
      · -- hooter
        subst y5
        have p3 := PC_56 (Or.inl rfl) e3 hP
        have f3 : fl M M3 := fun t i k q => by rw [e3, pt_ne (by omega)]
        have v3 : VC M3 1 X np := VC_9 (fun t i k q => by rw [e3, pt_ne (by omega)]) hV
        refine P_nextNumber p3 (fun z M4 p4 f4 b4 M6 e6' => ?_) (fun z M4 p4 f4 M6 e6' => ?_)
        · have v4 : VC M4 1 X np := VC_9 (fun t i k q => f4 t i k (by omega)) v3
          have v6 := VC_set (k := 0) (by omega) hB v4 e6'
          have g6 : fra 1 M4 M6 := by rw [e6']; exact fra_pt (by omega)
          have z' : ¬ (nmF T n i (loW 5) (hiW 5) ≠ 0) := fun q => q z
          have eL : lnF T n 5 i = (sgF T n (tE T n i), tS T n (tE T n i), tE T n (tE T n i)) := by unfold lnF; rw [if_neg (by decide), if_neg z']
          rw [eL] at hok hbad
          refine endS M6 (tE T n i) (tS T n i) 2 _ np 1 h6 (PC_fra g6 p4) v6 (by rw [g6 9 0 5 (by omega), f4 9 0 5 (by omega), e3, pt_eq]) (by rw [g6 9 0 6 (by omega), f4 9 0 6 (by omega), e3, pt_ne (by omega)]; exact e6) (fl_tr f3 (fl_tr (pf_fl f4) (fra_fl g6))) (fun zs M' a b c d e => hok zs M' a b c d e) (fun zs M' a e => hbad zs M' _ _ _ a e)
        · have g6 : fra 1 M4 M6 := by rw [e6']; exact fra_pt (by omega)
          have eL : lnF T n 5 i = (nmF T n i 0 6, tS T n i, 0) := by
            unfold lnF
            rw [if_neg (by decide)]
            exact if_pos z
          rw [eL] at hbad
          exact endF M6 _ _ _ _ _ z (PC_fra g6 p4) (hbad z M6 _ _ _ (PC_fra g6 p4) (fl_tr f3 (fl_tr (pf_fl f4) (fra_fl g6))))
      · -- one
        subst y4
        refine P_nextNumber hP (fun z M4 p4 f4 b4 => ?_) (fun z M4 p4 f4 => ?_)
        · have v4 : VC M4 1 X np := VC_9 (fun t i k q => f4 t i k (by omega)) hV
          have z' : ¬ (nmF T n i (loW 4) (hiW 4) ≠ 0) := fun q => q z
          have eL : lnF T n 4 i = (sgF T n (tE T n i), tS T n (tE T n i), tE T n (tE T n i)) := by unfold lnF; rw [if_neg (by decide), if_neg z']
          rw [eL] at hok hbad
          refine T_addOne hB (by omega) v4 (fun M6 v6 g6 => ?_)
          refine endS M6 (tE T n i) (tS T n i) 2 _ (np + 1) h5 h6 (PC_fra g6 p4) v6 (by rw [g6 9 0 5 (by omega), f4 9 0 5 (by omega)]; exact e5) (by rw [g6 9 0 6 (by omega), f4 9 0 6 (by omega)]; exact e6) (fl_tr (pf_fl f4) (fra_fl g6)) (fun zs M' a b c d e => hok zs M' a b c d e) (fun zs M' a e => hbad zs M' _ _ _ a e)
        · have v4 : VC M4 1 X np := VC_9 (fun t i k q => f4 t i k (by omega)) hV
          refine T_addOne hB (by omega) v4 (fun M6 v6 g6 => ?_)
          have eL : lnF T n 4 i = (nmF T n i 1 20, tS T n i, 0) := by
            unfold lnF
            rw [if_neg (by decide)]
            exact if_pos z
          rw [eL] at hbad
          exact endF M6 _ _ _ _ _ z (PC_fra g6 p4) (hbad z M6 _ _ _ (PC_fra g6 p4) (fl_tr (pf_fl f4) (fra_fl g6)))
      · -- a good
        have ha : ngd X < 8 := by omega
        have eX : lnX T n w i X np = addg X w (tV T n i) (tV T n (tE T n i)) := if_pos y3
        have eN : lnN w np = np := if_neg (by omega)
        have eH5 : lnH 5 w h5 = h5 := if_neg (by omega)
        have eH6 : lnH 6 w h6 = h6 := if_neg (by omega)
        rw [eX, eN, eH5, eH6] at hok
        refine P_nextNumber hP (fun z M4 p4 f4 b4 => ?_) (fun z M4 p4 f4 => ?_)
        · have v4 : VC M4 1 X np := VC_9 (fun t i k q => f4 t i k (by omega)) hV
          refine P_nextNumber p4 (fun z2 M5 p5 f5 b5 => ?_) (fun z2 M5 p5 f5 => ?_)
          · have v5 : VC M5 1 X np := VC_9 (fun t i k q => f5 t i k (by omega)) v4
            have eL : lnF T n w i = (sgF T n (tE T n (tE T n i)), tS T n (tE T n (tE T n i)), tE T n (tE T n (tE T n i))) := by unfold lnF; rw [if_pos y3, if_neg (fun q => q z), if_neg (fun q => q z2)]
            rw [eL] at hok hbad
            refine T_addGood hB ha (by omega) b4 b5 v5 (fun M6 v6 g6 => ?_)
            exact endS M6 (tE T n (tE T n i)) (tS T n (tE T n i)) 2 _ np h5 h6 (PC_fra g6 p5) v6 (by rw [g6 9 0 5 (by omega), f5 9 0 5 (by omega), f4 9 0 5 (by omega)]; exact e5) (by rw [g6 9 0 6 (by omega), f5 9 0 6 (by omega), f4 9 0 6 (by omega)]; exact e6) (fl_tr (pf_fl f4) (fl_tr (pf_fl f5) (fra_fl g6))) (fun zs M' a b c d e => hok zs M' a b c d e) (fun zs M' a e => hbad zs M' _ _ _ a e)
          · have v5 : VC M5 1 X np := VC_9 (fun t i k q => f5 t i k (by omega)) v4
            have eL : lnF T n w i = (nmF T n (tE T n i) 0 9, tS T n (tE T n i), 0) := by unfold lnF; rw [if_pos y3, if_neg (fun q => q z), if_pos z2]
            rw [eL] at hbad
            refine T_addGood hB ha (by omega) b4 (by omega) v5 (fun M6 v6 g6 => ?_)
            exact endF M6 _ _ _ _ _ z2 (PC_fra g6 p5) (hbad z2 M6 _ _ _ (PC_fra g6 p5) (fl_tr (pf_fl f4) (fl_tr (pf_fl f5) (fra_fl g6))))
        · have v4 : VC M4 1 X np := VC_9 (fun t i k q => f4 t i k (by omega)) hV
          have eL : lnF T n w i = (nmF T n i 1 9, tS T n i, 0) := by unfold lnF; rw [if_pos y3, if_pos z]
          rw [eL] at hbad
          refine P_nextNumberF (by omega) z p4 (fun v hv1 hv2 => T_addGood hB ha (by omega) (by omega) ⟨hv1, hv2⟩ v4 (fun M6 v6 g6 => ?_))
          exact endF M6 _ _ _ _ _ z (PC_fra g6 p4) (hbad z M6 _ _ _ (PC_fra g6 p4) (fl_tr (pf_fl f4) (fra_fl g6)))
    · rw [if_pos r0] at hbad
      rw [p1.2.2.2.2.1]
      exact ⟨fun z => absurd z r0, fun _ => hbad r0 M1 _ _ _ p1 (pf_fl f1)⟩
  refine vc_P_tellLine _ _ ?_
  rw [hP.2.2.1]
  refine ⟨fun y => ?_, fun y => hW _ _ T n i s k 0 fp hP ?_⟩
  · rw [show wdK T i s k = 7 from if_neg y] at g17; exact g17
  · rw [show wdK T i s k = wd T s i from if_pos y] at g17; exact g17
end

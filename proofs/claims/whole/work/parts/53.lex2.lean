/-! numbers, signs, words -/
def nvf (T : Nat → Int) (s : Nat) : Nat → Int
  | 0 => 0
  | c + 1 => w32 (w32 (w32 (10 * nvf T s c) + T (s + c)) - 48)
theorem nvf_1 {T : Nat → Int} {s : Nat} (h : isF (T s)) : nvf T s 1 = T s - 48 := by
  unfold isF at h
  show w32 (w32 (w32 (10 * 0) + T (s + 0)) - 48) = _
  rw [Nat.add_zero, w32_id (x := 10 * 0) (by omega) (by omega), w32_id (x := 10 * 0 + T s) (by omega) (by omega), w32_id (by omega) (by omega)]
  omega
theorem nvf_2 {T : Nat → Int} {s : Nat} (h : isF (T s)) (h2 : isF (T (s + 1))) : nvf T s 2 = 10 * (T s - 48) + (T (s + 1) - 48) := by
  have e := nvf_1 h
  unfold isF at h h2
  rw [show nvf T s 2 = w32 (w32 (w32 (10 * nvf T s 1) + T (s + 1)) - 48) from rfl, e, w32_id (x := 10 * (T s - 48)) (by omega) (by omega), w32_id (x := 10 * (T s - 48) + T (s + 1)) (by omega) (by omega), w32_id (by omega) (by omega)]
  omega
theorem nvf_V {T : Nat → Int} {n i : Nat} (h : tK T n i = 2) : nvf T (tS T n i) (tE T n i - tS T n i) = tV T n i := by
  obtain ⟨a, b⟩ := tK_2 h
  have e : tE T n i = tEs T n (tS T n i) := rfl
  unfold tV tVs
  rcases b with b | ⟨b, c, d⟩
  · rw [if_pos (by omega), b, show tS T n i + 1 - tS T n i = 1 by omega, nvf_1 a]
  · rw [if_neg (by omega), b, show tS T n i + 2 - tS T n i = 2 by omega, nvf_2 a c]
def nmF (T : Nat → Int) (n i : Nat) (lo hi : Int) : Int := if tK T n i = 4 then 1 else if tK T n i = 2 then (if lo ≤ tV T n i ∧ tV T n i ≤ hi then 0 else 3) else 2
def sgF (T : Nat → Int) (n i : Nat) : Int := if tK T n i = 4 then 1 else if tK T n i = 3 then 0 else 2
section
variable {E : EE} {Q : Int → JM → Prop} {M : JM} {T : Nat → Int} {n i s : Nat} {k fp : Int}
theorem P_numberOfToken {f : Int} (hP : PC T n M i s k f fp) (hQ : Q (nvf T s (i - s)) M) : JC E mm_P_numberOfToken [vR 9 0] M Q := by
  obtain ⟨h1, h2, h3, h4, h7, h8, h9⟩ := hP
  refine vc_P_numberOfToken _ (fun a ea => ?_)
  rw [h4] at ea
  subst ea
  refine up_ind (P := fun c => JG E mm_P_numberOfToken Q 7 [(0, vR 9 0), (1, vI (nvf T s c)), (2, vI ((s + c : Nat) : Int))] [] M) (i - s) ?_ ?_
  · refine vc_P_numberOfToken_7 _ _ _ ?_
    rw [h2]
    exact ⟨fun _ => hQ, fun z => by omega⟩
  · intro c hc ih
    refine vc_P_numberOfToken_7 _ _ _ ?_
    rw [h2]
    refine ⟨fun z => by omega, fun _ => ⟨fun z => by omega, fun _ => ⟨by omega, fun a1 e1 a2 e2 => ?_⟩⟩⟩
    rw [Int.toNat_natCast, h1.2 (s + c) (by omega)] at e1
    rw [e1, e2, w32_s (by omega)]
    exact ih
theorem P_failF {c f : Int} (hf : f ≠ 0) (hP : PC T n M i s k f fp) (hQ : Q 0 M) : JC E mm_P_fail [vR 9 0, vI c] M Q := by
  refine vc_P_fail _ _ ?_
  rw [hP.2.2.2.2.1]
  exact ⟨fun _ => hQ, fun z => absurd z hf⟩
theorem P_nextNumberF {lo hi f : Int} (hl : lo ≤ hi) (hf : f ≠ 0) (hP : PC T n M i s k f fp) (hQ : ∀ v : Int, lo ≤ v → v ≤ hi → Q v M) : JC E mm_P_nextNumber [vR 9 0, vI lo, vI hi] M Q := by
  refine vc_P_nextNumber _ _ _ (P_nextTokenF hf hP ⟨fun _ => P_numberOfToken hP (H_within (fun y => d10 (hQ _ y.1 y.2)) (fun y => d00 (P_failF hf hP (hQ lo (Int.le_refl _) hl)))), fun _ => P_failF hf hP (hQ lo (Int.le_refl _) hl)⟩)
theorem P_nextNumber {lo hi : Int} (hP : PC T n M i s k 0 fp) (hok : nmF T n i lo hi = 0 → ∀ M' : JM, PC T n M' (tE T n i) (tS T n i) 2 0 fp → pf M M' → lo ≤ tV T n i ∧ tV T n i ≤ hi → Q (tV T n i) M') (hbad : nmF T n i lo hi ≠ 0 → ∀ M' : JM, PC T n M' (tE T n i) (tS T n i) (tK T n i) (nmF T n i lo hi) (tS T n i) → pf M M' → Q lo M') : JC E mm_P_nextNumber [vR 9 0, vI lo, vI hi] M Q := by
  refine vc_P_nextNumber _ _ _ (P_nextToken hP (fun M1 p1 f1 => ?_))
  rw [p1.2.2.1]
  unfold nmF at hok hbad
  by_cases y4 : tK T n i = 4
  · rw [if_pos y4, if_pos y4] at p1
    rw [if_pos y4] at hbad
    exact ⟨fun z => by omega, fun _ => P_failF (by decide) p1 (hbad (by decide) M1 p1 f1)⟩
  · rw [if_neg y4, if_neg y4] at p1
    rw [if_neg y4] at hok hbad
    refine ⟨fun z => ?_, fun z => P_fail p1 (fun M2 p2 f2 => ?_)⟩
    · rw [if_pos z] at hok hbad
      refine P_numberOfToken p1 ?_
      rw [nvf_V z]
      refine H_within (fun y => d10 ?_) (fun y => d00 (P_fail p1 (fun M2 p2 f2 => ?_)))
      · rw [if_pos y] at hok
        rw [z] at p1
        exact hok rfl M1 p1 f1 y
      · rw [if_neg y] at hbad
        rw [if_pos rfl, if_pos rfl] at p2
        exact hbad (by decide) M2 p2 (pf_tr f1 f2)
    · rw [if_neg z] at hbad
      rw [if_pos rfl, if_pos rfl] at p2
      exact hbad (by decide) M2 p2 (pf_tr f1 f2)
theorem P_nextSignF {f : Int} (hf : f ≠ 0) (hP : PC T n M i s k f fp) (hQ : Q 0 M) : JC E mm_P_nextSign [vR 9 0] M Q :=
  vc_P_nextSign _ (P_nextTokenF hf hP ⟨fun _ => hQ, fun _ => P_failF hf hP hQ⟩)
theorem P_nextSign (hP : PC T n M i s k 0 fp) (hok : sgF T n i = 0 → ∀ M' : JM, PC T n M' (tE T n i) (tS T n i) 3 0 fp → pf M M' → Q 0 M') (hbad : sgF T n i ≠ 0 → ∀ M' : JM, PC T n M' (tE T n i) (tS T n i) (tK T n i) (sgF T n i) (tS T n i) → pf M M' → Q 0 M') : JC E mm_P_nextSign [vR 9 0] M Q := by
  refine vc_P_nextSign _ (P_nextToken hP (fun M1 p1 f1 => ?_))
  rw [p1.2.2.1]
  unfold sgF at hok hbad
  by_cases y4 : tK T n i = 4
  · rw [if_pos y4, if_pos y4] at p1
    rw [if_pos y4] at hbad
    exact ⟨fun z => by omega, fun _ => P_failF (by decide) p1 (hbad (by decide) M1 p1 f1)⟩
  · rw [if_neg y4, if_neg y4] at p1
    rw [if_neg y4] at hok hbad
    refine ⟨fun z => ?_, fun z => P_fail p1 (fun M2 p2 f2 => ?_)⟩
    · rw [if_pos z] at hok
      rw [z] at p1
      exact hok rfl M1 p1 f1
    · rw [if_neg z] at hbad
      rw [if_pos rfl, if_pos rfl] at p2
      exact hbad (by decide) M2 p2 (pf_tr f1 f2)
end
def wLen : List Nat := [5, 7, 7, 5, 3, 6, 6]
def wOff : List Nat := [0, 5, 12, 19, 24, 27, 33]
def mtc (T : Nat → Int) (s e w : Nat) : Prop := e - s = wLen.getD w 0 ∧ ∀ j, j < wLen.getD w 0 → T (s + j) = lettT.getD (wOff.getD w 0 + j) 0
def mtcD (T : Nat → Int) (s e w : Nat) : Decidable (mtc T s e w) := inferInstanceAs (Decidable (_ ∧ _))
def wdR (T : Nat → Int) (s e : Nat) : Int := @fnd (mtc T s e) (mtcD T s e) 0 7
def wd (T : Nat → Int) (s e : Nat) : Int := if wdR T s e = -4 then 7 else wdR T s e
theorem fnd_c {f : Nat → Prop} [∀ k, Decidable (f k)] : ∀ n i : Nat, fnd f i n = -4 ∨ ((i : Int) ≤ fnd f i n ∧ fnd f i n < ((i + n : Nat) : Int))
  | 0, i => Or.inl rfl
  | n + 1, i => by
    unfold fnd
    split
    · right; omega
    · rcases fnd_c (f := f) n (i + 1) with h | h
      · exact Or.inl h
      · right; omega
theorem wdR_c (T : Nat → Int) (s e : Nat) : wdR T s e = -4 ∨ (0 ≤ wdR T s e ∧ wdR T s e ≤ 6) := by
  rcases @fnd_c (mtc T s e) (mtcD T s e) 7 0 with h | h
  · exact Or.inl h
  · right
    unfold wdR
    omega
/-- what the class answers for a name (proved where its words are) -/
def WOK (E : EE) : Prop := ∀ (Q : Int → JM → Prop) (M : JM) (T : Nat → Int) (n i s : Nat) (k f fp : Int), PC T n M i s k f fp → Q (wd T s i) M → JC E mm_P_wordOfToken [vR 9 0] M Q
/-! a town that is told -/
def X00 : Nat → Int := fun _ => 0
def adO (X : Nat → Int) (np : Nat) (v : Int) : Nat → Int := fun j => if j = 33 + np then v else if j = 37 + np then 0 else X j
section
variable {E : EE} {Q : Int → JM → Prop} {M : JM} {X : Nat → Int} {u np : Nat}
theorem T_startAfresh (hm : permOk M u) (hQ : ∀ M' : JM, VC M' u X00 0 → fra u M M' → Q 0 M') : JC E mm_T_startAfresh [vR 3 u] M Q := by
  refine vc_T_startAfresh _ _ (fun M1 e1 M2 e2 M3 e3 M4 e4 M5 e5 => ?_)
  have hn : ∀ t i k, ¬ (t = 3 ∧ i = u) → M5 t i k = M t i k := fun t i k q => by rw [e5, pt_ne (by omega), e4, pt_ne (by omega), e3, pt_ne (by omega), e2, pt_ne (by omega), e1, pt_ne (by omega)]
  have f5 : fra u M M5 := fun t i k q => hn t i k (by omega)
  refine hQ M5 ⟨⟨?_, ?_, ?_, ?_, ?_⟩, fun g hg => absurd hg (by show ¬ g < 0; omega), fun p hp => by omega, fra_pm f5 hm⟩ f5
  · rw [e5, pt_ne (by omega), e4, pt_ne (by omega), e3, pt_ne (by omega), e2, pt_ne (by omega), e1, pt_eq]; rfl
  · rw [e5, pt_ne (by omega), e4, pt_ne (by omega), e3, pt_ne (by omega), e2, pt_eq]; rfl
  · rw [e5, pt_ne (by omega), e4, pt_ne (by omega), e3, pt_eq]; rfl
  · rw [e5, pt_ne (by omega), e4, pt_eq]; rfl
  · rw [e5, pt_eq]; rfl
theorem adO_lo {v : Int} {j : Nat} (h : ¬ j = 33 + np) (h2 : ¬ j = 37 + np) : adO X np v j = X j := by unfold adO; rw [if_neg h, if_neg h2]
theorem adO_PB {v : Int} (hB : PB X np) (h4 : np < 4) (hv : 1 ≤ v ∧ v ≤ 20) : PB (adO X np v) (np + 1) := by
  have h8 := ngd_le hB
  have e : ngd (adO X np v) = ngd X := by unfold ngd; rw [adO_lo (by omega) (by omega)]
  refine ⟨by rw [adO_lo (by omega) (by omega)]; exact hB.1, by omega, fun g hg => ?_, fun p hp => ?_, by rw [adO_lo (by omega) (by omega)]; exact hB.2.2.2.2.1, by rw [adO_lo (by omega) (by omega)]; exact hB.2.2.2.2.2⟩
  · rw [e] at hg
    rw [adO_lo (by omega) (by omega), adO_lo (by omega) (by omega), adO_lo (by omega) (by omega), adO_lo (by omega) (by omega)]; exact hB.2.2.1 g hg
  · by_cases q : p = np
    · subst q
      unfold adO
      rw [if_pos rfl, if_neg (by omega), if_pos rfl]; omega
    · rw [adO_lo (by omega) (by omega), adO_lo (by omega) (by omega)]; exact hB.2.2.2.1 p (by omega)
theorem T_addOne {v : Int} (hB : PB X np) (h4 : np < 4) (hV : VC M u X np) (hQ : ∀ M' : JM, VC M' u (adO X np v) (np + 1) → fra u M M' → Q 0 M') : JC E mm_T_addOne [vR 3 u, vI v] M Q := by
  have h8 := ngd_le hB
  have pm := hV.2.2.2
  have ho := on_in pm (p := np) h4
  refine vc_T_addOne _ _ _ ?_
  rw [hV.1.2.1, Int.toNat_natCast]
  refine ⟨fun z => by omega, fun _ => ⟨by omega, fun M1 e1 => ?_⟩⟩
  have e1' : M1 = pt M 2 (on M u np) 0 v := e1
  have x3 : M1 3 u 3 = np := by rw [e1', pt_ne (by omega)]; exact hV.1.2.1
  rw [x3, Int.toNat_natCast]
  refine ⟨by omega, fun M2 e2 M3 e3 => ?_⟩
  have eo : on M1 u np = on M u np := by unfold on; rw [e1', pt_ne (by omega)]
  have e2' : M2 = pt M1 2 (on M u np) 1 0 := by rw [← eo]; exact e2
  have x3' : M2 3 u 3 = np := by rw [e2', pt_ne (by omega)]; exact x3
  rw [x3', w32_s (by omega)] at e3
  have hn : ∀ t i k, ¬ (t = 2 ∧ i = on M u np ∧ k < 2) → ¬ (t = 3 ∧ i = u ∧ k = 3) → M3 t i k = M t i k := fun t i k q q2 => by rw [e3, pt_ne (by omega), e2', pt_ne (by omega), e1', pt_ne (by omega)]
  have f3 : fra u M M3 := fun t i k q => hn t i k (by omega) (by omega)
  have e : ngd (adO X np v) = ngd X := by unfold ngd; rw [adO_lo (by omega) (by omega)]
  refine hQ M3 ⟨⟨?_, by rw [e3, pt_eq], ?_, ?_, ?_⟩, fun g hg => ?_, fun p hp => ?_, fra_pm f3 pm⟩ f3
  · rw [adO_lo (by omega) (by omega), hn 3 _ _ (by omega) (by omega)]; exact hV.1.1
  · rw [adO_lo (by omega) (by omega), hn 3 _ _ (by omega) (by omega)]; exact hV.1.2.2.1
  · rw [adO_lo (by omega) (by omega), hn 3 _ _ (by omega) (by omega)]; exact hV.1.2.2.2.1
  · rw [adO_lo (by omega) (by omega), hn 3 _ _ (by omega) (by omega)]; exact hV.1.2.2.2.2
  · rw [e] at hg
    unfold heft pays
    rw [adO_lo (by omega) (by omega), adO_lo (by omega) (by omega), adO_lo (by omega) (by omega), adO_lo (by omega) (by omega), hn 1 _ 0 (by omega) (by omega), hn 1 _ 1 (by omega) (by omega), hn 1 _ 2 (by omega) (by omega), hn 1 _ 3 (by omega) (by omega), hn 1 _ 4 (by omega) (by omega), hn 1 _ 5 (by omega) (by omega)]
    exact hV.2.1 g hg
  · rw [fra_on f3]
    by_cases q : p = np
    · subst q
      unfold adO
      rw [if_pos rfl, if_neg (by omega), if_pos rfl]
      exact ⟨by rw [e3, pt_ne (by omega), e2', pt_ne (by omega), e1', pt_eq], by rw [e3, pt_ne (by omega), e2', pt_eq]⟩
    · have hne : on M u p ≠ on M u np := fun y => q (on_inj pm (by omega) h4 y)
      rw [adO_lo (by omega) (by omega), adO_lo (by omega) (by omega), hn 2 _ _ (by omega) (by omega), hn 2 _ _ (by omega) (by omega)]
      exact hV.2.2.1 p (by omega)
end

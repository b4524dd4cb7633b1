/-! the tape, token by token -/
abbrev isL (c : Int) : Prop := 97 ≤ c ∧ c ≤ 122
abbrev isF (c : Int) : Prop := 48 ≤ c ∧ c ≤ 57
abbrev isB (c : Int) : Prop := c = 32
def skp (P : Int → Prop) [∀ c, Decidable (P c)] (T : Nat → Int) : Nat → Nat → Nat
  | 0, i => i
  | f + 1, i => if P (T i) then skp P T f (i + 1) else i
def sk (P : Int → Prop) [∀ c, Decidable (P c)] (T : Nat → Int) (n i : Nat) : Nat := skp P T (n - i) i
theorem sk_s {P : Int → Prop} [∀ c, Decidable (P c)] {T : Nat → Int} {n i : Nat} (h : i < n) : sk P T n i = if P (T i) then sk P T n (i + 1) else i := by
  unfold sk
  rw [show n - i = (n - (i + 1)) + 1 by omega]
  rfl
theorem sk_e {P : Int → Prop} [∀ c, Decidable (P c)] {T : Nat → Int} {n i : Nat} (h : n ≤ i) : sk P T n i = i := by
  unfold sk
  rw [show n - i = 0 by omega]
  rfl
theorem skp_b {P : Int → Prop} [∀ c, Decidable (P c)] {T : Nat → Int} : ∀ f i : Nat, i ≤ skp P T f i ∧ skp P T f i ≤ i + f
  | 0, i => ⟨Nat.le_refl _, Nat.le_refl _⟩
  | f + 1, i => by
    have := skp_b (P := P) (T := T) f (i + 1)
    unfold skp
    split <;> omega
theorem sk_b {P : Int → Prop} [∀ c, Decidable (P c)] {T : Nat → Int} {n i : Nat} (h : i ≤ n) : i ≤ sk P T n i ∧ sk P T n i ≤ n := by
  have := skp_b (P := P) (T := T) (n - i) i
  unfold sk
  omega
def tS (T : Nat → Int) (n i : Nat) : Nat := sk isB T n i
def tEs (T : Nat → Int) (n s : Nat) : Nat := if n ≤ s then s else if isL (T s) then sk isL T n s else if isF (T s) then sk isF T n s else s + 1
def tKs (T : Nat → Int) (n s : Nat) : Int := if n ≤ s then 0 else if isL (T s) then 1 else if isF (T s) then (if 2 < tEs T n s - s then 4 else 2) else if T s = 59 then 3 else 4
def tE (T : Nat → Int) (n i : Nat) : Nat := tEs T n (tS T n i)
def tK (T : Nat → Int) (n i : Nat) : Int := tKs T n (tS T n i)
def tVs (T : Nat → Int) (n s : Nat) : Int := if tEs T n s = s + 1 then T s - 48 else 10 * (T s - 48) + (T (s + 1) - 48)
def tV (T : Nat → Int) (n i : Nat) : Int := tVs T n (tS T n i)
theorem tS_b {T : Nat → Int} {n i : Nat} (h : i ≤ n) : i ≤ tS T n i ∧ tS T n i ≤ n := sk_b h
theorem tEs_b {T : Nat → Int} {n s : Nat} (h : s ≤ n) : s ≤ tEs T n s ∧ tEs T n s ≤ n ∧ (s < n → s < tEs T n s) := by
  have a := sk_b (P := isL) (T := T) (n := n) (i := s) h
  have b := sk_b (P := isF) (T := T) (n := n) (i := s) h
  unfold tEs
  by_cases q : n ≤ s
  · rw [if_pos q]; omega
  · rw [if_neg q]
    by_cases q2 : isL (T s)
    · rw [if_pos q2]
      rw [sk_s (by omega), if_pos q2] at a ⊢
      have c := sk_b (P := isL) (T := T) (n := n) (i := s + 1) (by omega)
      omega
    · rw [if_neg q2]
      by_cases q3 : isF (T s)
      · rw [if_pos q3]
        rw [sk_s (by omega), if_pos q3] at b ⊢
        have c := sk_b (P := isF) (T := T) (n := n) (i := s + 1) (by omega)
        omega
      · rw [if_neg q3]; omega
theorem tE_b {T : Nat → Int} {n i : Nat} (h : i ≤ n) : i ≤ tS T n i ∧ tS T n i ≤ tE T n i ∧ tE T n i ≤ n ∧ (tS T n i < n → tS T n i < tE T n i) := by
  have a := tS_b (T := T) h
  have b := tEs_b (T := T) a.2
  unfold tE
  omega
theorem tK_c {T : Nat → Int} {n i : Nat} : tK T n i = 0 ∨ tK T n i = 1 ∨ tK T n i = 2 ∨ tK T n i = 3 ∨ tK T n i = 4 := by
  unfold tK tKs
  split
  · simp
  · split
    · simp
    · split
      · split <;> simp
      · split <;> simp
theorem tK_0 {T : Nat → Int} {n i : Nat} (h : tK T n i ≠ 0) : tS T n i < n := by
  by_cases q : n ≤ tS T n i
  · exact absurd (show tK T n i = 0 by unfold tK tKs; rw [if_pos q]) h
  · omega
/-- a number has one or two figures -/
theorem tK_2 {T : Nat → Int} {n i : Nat} (h : tK T n i = 2) : isF (T (tS T n i)) ∧ (tE T n i = tS T n i + 1 ∨ (tE T n i = tS T n i + 2 ∧ isF (T (tS T n i + 1)) ∧ tS T n i + 1 < n)) := by
  generalize hs : tS T n i = s
  have h0 : s < n := by rw [← hs]; exact tK_0 (by omega)
  unfold tK at h
  unfold tE
  rw [hs] at h ⊢
  unfold tKs at h
  rw [if_neg (by omega)] at h
  by_cases q2 : isL (T s)
  · rw [if_pos q2] at h; omega
  · rw [if_neg q2] at h
    by_cases q3 : isF (T s)
    · rw [if_pos q3] at h
      have e : tEs T n s = sk isF T n (s + 1) := by unfold tEs; rw [if_neg (by omega), if_neg q2, if_pos q3, sk_s h0, if_pos q3]
      have b := sk_b (P := isF) (T := T) (n := n) (i := s + 1) (by omega)
      refine ⟨q3, ?_⟩
      by_cases q4 : 2 < tEs T n s - s
      · rw [if_pos q4] at h; omega
      · rw [e] at q4 ⊢
        by_cases q5 : s + 1 < n
        · rw [sk_s q5] at q4 b ⊢
          by_cases q6 : isF (T (s + 1))
          · rw [if_pos q6] at q4 b ⊢
            have b2 := sk_b (P := isF) (T := T) (n := n) (i := s + 1 + 1) (by omega)
            exact Or.inr ⟨by omega, q6, q5⟩
          · rw [if_neg q6] at q4 b ⊢
            exact Or.inl rfl
        · rw [sk_e (by omega)]
          exact Or.inl rfl
    · rw [if_neg q3] at h
      split at h <;> omega
theorem tV_b {T : Nat → Int} {n i : Nat} (h : tK T n i = 2) : 0 ≤ tV T n i ∧ tV T n i ≤ 99 := by
  obtain ⟨a, b⟩ := tK_2 h
  unfold isF at a
  unfold tV tVs
  have e : tE T n i = tEs T n (tS T n i) := rfl
  rcases b with b | ⟨b, c, d⟩
  · rw [if_pos (by omega)]; omega
  · unfold isF at c
    rw [if_neg (by omega)]; omega
/-! the class's tape -/
def PC (T : Nat → Int) (n : Nat) (M : JM) (i s : Nat) (k f fp : Int) : Prop := (M 9 0 1 = n ∧ ∀ j, j < n → M 10 0 j = T j) ∧ M 9 0 2 = i ∧ M 9 0 3 = k ∧ M 9 0 4 = s ∧ M 9 0 7 = f ∧ M 9 0 8 = fp ∧ s ≤ i ∧ i ≤ n ∧ n ≤ 160
def pf (M M' : JM) : Prop := ∀ t i k, ¬ (t = 9 ∧ i = 0 ∧ (k = 2 ∨ k = 3 ∨ k = 4 ∨ k = 7 ∨ k = 8)) → M' t i k = M t i k
theorem pf_rf (M : JM) : pf M M := fun _ _ _ _ => rfl
theorem pf_tr {M M' M'' : JM} (h : pf M M') (h2 : pf M' M'') : pf M M'' := fun t i k q => (h2 t i k q).trans (h t i k q)
theorem pf_pt {M : JM} {k : Nat} {x : Int} (h : k = 2 ∨ k = 3 ∨ k = 4 ∨ k = 7 ∨ k = 8) : pf M (pt M 9 0 k x) := fun t i j q => pt_ne (by omega)
section
variable {E : EE} {Q : Int → JM → Prop} {M : JM} {T : Nat → Int} {n i s : Nat} {k fp : Int}
theorem P_isLetter {c : Int} (h1 : isL c → Q 1 M) (h0 : ¬ isL c → Q 0 M) : JC E mm_P_isLetter [vI c] M Q := vc_P_isLetter _ _ ⟨fun z => h0 (by unfold isL; omega), fun z => ⟨fun y => h0 (by unfold isL; omega), fun y => h1 ⟨z, y⟩⟩⟩
theorem P_isFigure {c : Int} (h1 : isF c → Q 1 M) (h0 : ¬ isF c → Q 0 M) : JC E mm_P_isFigure [vI c] M Q := vc_P_isFigure _ _ ⟨fun z => h0 (by unfold isF; omega), fun z => ⟨fun y => h0 (by unfold isF; omega), fun y => h1 ⟨z, y⟩⟩⟩
theorem P_fail {c f : Int} (hP : PC T n M i s k f fp) (hQ : ∀ M' : JM, PC T n M' i s k (if f = 0 then c else f) (if f = 0 then s else fp) → pf M M' → Q 0 M') : JC E mm_P_fail [vR 9 0, vI c] M Q := by
  obtain ⟨h1, h2, h3, h4, h7, h8, h9⟩ := id hP
  refine vc_P_fail _ _ ?_
  rw [h7]
  refine ⟨fun z => ?_, fun z M1 e1 M2 e2 => ?_⟩
  · rw [if_neg z, if_neg z] at hQ
    exact hQ M hP (pf_rf M)
  · rw [if_pos z, if_pos z] at hQ
    have x4 : M1 9 0 4 = s := by rw [e1, pt_ne (by omega)]; exact h4
    rw [x4] at e2
    have f2 : pf M M2 := fun t a b q => by rw [e2, pt_ne (by omega), e1, pt_ne (by omega)]
    refine hQ M2 ⟨⟨?_, fun j hj => ?_⟩, ?_, ?_, ?_, ?_, ?_, h9⟩ f2
    · rw [f2 9 0 1 (by omega)]; exact h1.1
    · rw [f2 10 0 j (by omega)]; exact h1.2 j hj
    · rw [e2, pt_ne (by omega), e1, pt_ne (by omega)]; exact h2
    · rw [e2, pt_ne (by omega), e1, pt_ne (by omega)]; exact h3
    · rw [e2, pt_ne (by omega), e1, pt_ne (by omega)]; exact h4
    · rw [e2, pt_ne (by omega), e1, pt_eq]
    · rw [e2, pt_eq]
/-- the place moves on, no more -/
theorem PC_pl {f : Int} {j : Nat} {M' : JM} (hP : PC T n M i s k f fp) (hj : s ≤ j ∧ j ≤ n) (e : M' = pt M 9 0 2 (j : Int)) : PC T n M' j s k f fp := by
  obtain ⟨h1, h2, h3, h4, h7, h8, h9⟩ := hP
  refine ⟨⟨by rw [e, pt_ne (by omega)]; exact h1.1, fun a ha => by rw [e, pt_ne (by omega)]; exact h1.2 a ha⟩, by rw [e, pt_eq], by rw [e, pt_ne (by omega)]; exact h3, by rw [e, pt_ne (by omega)]; exact h4, by rw [e, pt_ne (by omega)]; exact h7, by rw [e, pt_ne (by omega)]; exact h8, hj.1, hj.2, h9.2.2⟩
theorem PC_tk {f : Int} {k' : Int} {M' : JM} (hP : PC T n M i s k f fp) (e : M' = pt M 9 0 3 k') : PC T n M' i s k' f fp := by
  obtain ⟨h1, h2, h3, h4, h7, h8, h9⟩ := hP
  exact ⟨⟨by rw [e, pt_ne (by omega)]; exact h1.1, fun a ha => by rw [e, pt_ne (by omega)]; exact h1.2 a ha⟩, by rw [e, pt_ne (by omega)]; exact h2, by rw [e, pt_eq], by rw [e, pt_ne (by omega)]; exact h4, by rw [e, pt_ne (by omega)]; exact h7, by rw [e, pt_ne (by omega)]; exact h8, h9⟩
theorem PC_st {f : Int} {M' : JM} (hP : PC T n M i s k f fp) (e : M' = pt M 9 0 4 (i : Int)) : PC T n M' i i k f fp := by
  obtain ⟨h1, h2, h3, h4, h7, h8, h9⟩ := hP
  exact ⟨⟨by rw [e, pt_ne (by omega)]; exact h1.1, fun a ha => by rw [e, pt_ne (by omega)]; exact h1.2 a ha⟩, by rw [e, pt_ne (by omega)]; exact h2, by rw [e, pt_ne (by omega)]; exact h3, by rw [e, pt_eq], by rw [e, pt_ne (by omega)]; exact h7, by rw [e, pt_ne (by omega)]; exact h8, Nat.le_refl _, h9.2⟩
theorem P_skipLetters {f : Int} (hP : PC T n M i s k f fp) (hQ : ∀ M' : JM, PC T n M' (sk isL T n i) s k f fp → pf M M' → Q 0 M') : JC E mm_P_skipLetters [vR 9 0] M Q := by
  refine vc_P_skipLetters _ ?_
  have loop : ∀ (d i : Nat) (M' : JM), i + d = n → PC T n M' i s k f fp → pf M M' → (∀ M'' : JM, PC T n M'' (sk isL T n i) s k f fp → pf M M'' → Q 0 M'') → JG E mm_P_skipLetters Q 0 [(0, vR 9 0)] [] M' := by
    intro d
    induction d with
    | zero =>
      intro i M' hd hP' f' hq
      rw [sk_e (by omega)] at hq
      refine vc_P_skipLetters_0 _ ?_
      rw [hP'.1.1, hP'.2.1]
      exact ⟨fun _ => hq M' hP' f', fun z => by omega⟩
    | succ d ih =>
      intro i M' hd hP' f' hq
      rw [sk_s (by omega)] at hq
      have h9 := hP'.2.2.2.2.2.2
      refine vc_P_skipLetters_0 _ ?_
      rw [hP'.1.1, hP'.2.1, Int.toNat_natCast, hP'.1.2 i (by omega)]
      refine ⟨fun z => by omega, fun _ => ⟨by omega, P_isLetter (fun y => c10 (fun M3 e3 => ?_)) (fun y => c00 ?_)⟩⟩
      · rw [if_pos y] at hq
        rw [hP'.2.1, w32_s (by omega)] at e3
        exact ih (i + 1) M3 (by omega) (PC_pl hP' (by omega) e3) (pf_tr f' (by rw [e3]; exact pf_pt (by omega))) hq
      · rw [if_neg y] at hq
        exact hq M' hP' f'
  have h9 := hP.2.2.2.2.2.2
  exact loop (n - i) i M (by omega) hP (pf_rf M) hQ
theorem P_skipFigures {f : Int} (hP : PC T n M i s k f fp) (hQ : ∀ M' : JM, PC T n M' (sk isF T n i) s k f fp → pf M M' → Q 0 M') : JC E mm_P_skipFigures [vR 9 0] M Q := by
  refine vc_P_skipFigures _ ?_
  have loop : ∀ (d i : Nat) (M' : JM), i + d = n → PC T n M' i s k f fp → pf M M' → (∀ M'' : JM, PC T n M'' (sk isF T n i) s k f fp → pf M M'' → Q 0 M'') → JG E mm_P_skipFigures Q 0 [(0, vR 9 0)] [] M' := by
    intro d
    induction d with
    | zero =>
      intro i M' hd hP' f' hq
      rw [sk_e (by omega)] at hq
      refine vc_P_skipFigures_0 _ ?_
      rw [hP'.1.1, hP'.2.1]
      exact ⟨fun _ => hq M' hP' f', fun z => by omega⟩
    | succ d ih =>
      intro i M' hd hP' f' hq
      rw [sk_s (by omega)] at hq
      have h9 := hP'.2.2.2.2.2.2
      refine vc_P_skipFigures_0 _ ?_
      rw [hP'.1.1, hP'.2.1, Int.toNat_natCast, hP'.1.2 i (by omega)]
      refine ⟨fun z => by omega, fun _ => ⟨by omega, P_isFigure (fun y => c10 (fun M3 e3 => ?_)) (fun y => c00 ?_)⟩⟩
      · rw [if_pos y] at hq
        rw [hP'.2.1, w32_s (by omega)] at e3
        exact ih (i + 1) M3 (by omega) (PC_pl hP' (by omega) e3) (pf_tr f' (by rw [e3]; exact pf_pt (by omega))) hq
      · rw [if_neg y] at hq
        exact hq M' hP' f'
  have h9 := hP.2.2.2.2.2.2
  exact loop (n - i) i M (by omega) hP (pf_rf M) hQ
/-- wherever the latest token began -/
def PCx (T : Nat → Int) (n : Nat) (M : JM) (i : Nat) (k f fp : Int) : Prop := (M 9 0 1 = n ∧ ∀ j, j < n → M 10 0 j = T j) ∧ M 9 0 2 = i ∧ M 9 0 3 = k ∧ M 9 0 7 = f ∧ M 9 0 8 = fp ∧ i ≤ n ∧ n ≤ 160
theorem PC_x {f : Int} (hP : PC T n M i s k f fp) : PCx T n M i k f fp := ⟨hP.1, hP.2.1, hP.2.2.1, hP.2.2.2.2.1, hP.2.2.2.2.2.1, hP.2.2.2.2.2.2.2⟩
theorem PCx_pl {f : Int} {j : Nat} {M' : JM} (hP : PCx T n M i k f fp) (hj : j ≤ n) (e : M' = pt M 9 0 2 (j : Int)) : PCx T n M' j k f fp := by
  obtain ⟨h1, h2, h3, h7, h8, h9⟩ := hP
  exact ⟨⟨by rw [e, pt_ne (by omega)]; exact h1.1, fun a ha => by rw [e, pt_ne (by omega)]; exact h1.2 a ha⟩, by rw [e, pt_eq], by rw [e, pt_ne (by omega)]; exact h3, by rw [e, pt_ne (by omega)]; exact h7, by rw [e, pt_ne (by omega)]; exact h8, hj, h9.2⟩
theorem PCx_st {f : Int} {M' : JM} (hP : PCx T n M i k f fp) (e : M' = pt M 9 0 4 (i : Int)) : PC T n M' i i k f fp := by
  obtain ⟨h1, h2, h3, h7, h8, h9⟩ := hP
  exact ⟨⟨by rw [e, pt_ne (by omega)]; exact h1.1, fun a ha => by rw [e, pt_ne (by omega)]; exact h1.2 a ha⟩, by rw [e, pt_ne (by omega)]; exact h2, by rw [e, pt_ne (by omega)]; exact h3, by rw [e, pt_eq], by rw [e, pt_ne (by omega)]; exact h7, by rw [e, pt_ne (by omega)]; exact h8, Nat.le_refl _, h9⟩
theorem P_nextTokenX (hP : PCx T n M i k 0 fp) (hQ : ∀ M' : JM, PC T n M' (tE T n i) (tS T n i) (tK T n i) (if tK T n i = 4 then 1 else 0) (if tK T n i = 4 then (tS T n i : Int) else fp) → pf M M' → Q 0 M') : JC E mm_P_nextToken [vR 9 0] M Q := by
  refine vc_P_nextToken _ ⟨fun _ => ?_, fun z => absurd hP.2.2.2.1 z⟩
  have fin : ∀ (M' : JM) (e a : Nat) (kk : Int), PC T n M' e a kk 0 fp → pf M M' → (∀ M'' : JM, PC T n M'' e a kk (if kk = 4 then 1 else 0) (if kk = 4 then (a : Int) else fp) → pf M M'' → Q 0 M'') → JG E mm_P_nextToken Q 177 [(0, vR 9 0)] [] M' := by
    intro M' e a kk hP' f' hq
    refine vc_P_nextToken_177 _ ?_
    rw [hP'.2.2.1]
    refine ⟨fun z => ?_, fun z => P_fail hP' (fun M2 p2 f2 => ?_)⟩
    · rw [if_neg z, if_neg z] at hq; exact hq M' hP' f'
    · rw [if_pos z, if_pos z] at hq
      rw [if_pos rfl, if_pos rfl] at p2
      exact hq M2 p2 (pf_tr f' f2)
  have at46 : ∀ (a : Nat) (M' : JM), PCx T n M' a k 0 fp → pf M M' → (∀ M'' : JM, PC T n M'' (tEs T n a) a (tKs T n a) (if tKs T n a = 4 then 1 else 0) (if tKs T n a = 4 then (a : Int) else fp) → pf M M'' → Q 0 M'') → JG E mm_P_nextToken Q 46 [(0, vR 9 0)] [] M' := by
    intro a M' hP' f' hq
    refine vc_P_nextToken_46 _ (fun M1 e1 => ?_)
    rw [hP'.2.1] at e1
    have p1 := PCx_st hP' e1
    have f1 : pf M M1 := pf_tr f' (by rw [e1]; exact pf_pt (by omega))
    have h9 := p1.2.2.2.2.2.2
    rw [p1.2.1, p1.1.1, Int.toNat_natCast]
    refine ⟨fun z => ⟨by omega, ?_⟩, fun z M11 e11 => ?_⟩
    · have ha : a < n := by omega
      rw [p1.1.2 a ha]
      have eL : isL (T a) → tEs T n a = sk isL T n a ∧ tKs T n a = 1 := fun y => by
        unfold tEs tKs
        rw [if_neg (by omega), if_pos y, if_neg (by omega), if_pos y]
        exact ⟨rfl, rfl⟩
      refine P_isLetter (fun y => c10 (fun M8 e8 => ?_)) (fun y => c00 ?_)
      · rw [(eL y).1, (eL y).2] at hq
        refine P_skipLetters (PC_tk p1 e8) (fun M9 p9 f9 => ?_)
        exact fin M9 _ _ _ p9 (pf_tr f1 (pf_tr (by rw [e8]; exact pf_pt (by omega)) f9)) hq
      · rw [p1.2.1, Int.toNat_natCast, p1.1.2 a ha]
        refine ⟨by omega, P_isFigure (fun y2 => c10 (P_skipFigures p1 (fun M6 p6 f6 => ?_))) (fun y2 => c00 ?_)⟩
        · have eF : tEs T n a = sk isF T n a := by unfold tEs; rw [if_neg (by omega), if_neg y, if_pos y2]
          have b := sk_b (P := isF) (T := T) (n := n) (i := a) (by omega)
          have kk : ∀ c : Int, c = tKs T n a → JG E mm_P_nextToken Q 138 [(0, vR 9 0)] [vI c, vR 9 0] M6 := by
            intro c hc
            refine vc_P_nextToken_138 _ _ (fun M7 e7 => ?_)
            rw [hc] at e7
            rw [eF] at hq
            exact fin M7 _ _ _ (PC_tk p6 e7) (pf_tr f1 (pf_tr f6 (by rw [e7]; exact pf_pt (by omega)))) hq
          rw [p6.2.1, p6.2.2.2.1, w32_id (by omega) (by omega)]
          have ek : tKs T n a = if 2 < sk isF T n a - a then 4 else 2 := by unfold tKs; rw [if_neg (by omega), if_neg y, if_pos y2, eF]
          refine ⟨fun z2 => kk 2 ?_, fun z2 => kk 4 ?_⟩
          · rw [ek, if_neg (by omega)]
          · rw [ek, if_pos (by omega)]
        · have eS : tEs T n a = a + 1 := by unfold tEs; rw [if_neg (by omega), if_neg y, if_neg y2]
          have ek : tKs T n a = if T a = 59 then 3 else 4 := by unfold tKs; rw [if_neg (by omega), if_neg y, if_neg y2]
          have kk : ∀ c : Int, c = tKs T n a → JG E mm_P_nextToken Q 164 [(0, vR 9 0)] [vI c, vR 9 0] M1 := by
            intro c hc
            refine vc_P_nextToken_164 _ _ (fun M7 e7 M8 e8 => ?_)
            rw [hc] at e7
            have p7 := PC_tk p1 e7
            rw [p7.2.1, w32_s (by omega)] at e8
            rw [eS] at hq
            exact fin M8 _ _ _ (PC_pl p7 (by omega) e8) (pf_tr f1 (fun t a b q => by rw [e8, pt_ne (by omega), e7, pt_ne (by omega)])) hq
          rw [p1.2.1, Int.toNat_natCast, p1.1.2 a ha]
          refine ⟨by omega, fun z2 => kk 4 ?_, fun z2 => kk 3 ?_⟩
          · rw [ek, if_neg z2]
          · rw [ek, if_pos z2]
    · have e0 : tEs T n a = a ∧ tKs T n a = 0 := by unfold tEs tKs; rw [if_pos (by omega), if_pos (by omega)]; exact ⟨rfl, rfl⟩
      rw [e0.1, e0.2] at hq
      exact fin M11 _ _ _ (PC_tk p1 e11) (pf_tr f1 (by rw [e11]; exact pf_pt (by omega))) hq
  have loop : ∀ (d i : Nat) (M' : JM), i + d = n → PCx T n M' i k 0 fp → pf M M' → (∀ M'' : JM, PC T n M'' (tEs T n (sk isB T n i)) (sk isB T n i) (tKs T n (sk isB T n i)) (if tKs T n (sk isB T n i) = 4 then 1 else 0) (if tKs T n (sk isB T n i) = 4 then ((sk isB T n i : Nat) : Int) else fp) → pf M M'' → Q 0 M'') → JG E mm_P_nextToken Q 8 [(0, vR 9 0)] [] M' := by
    intro d
    induction d with
    | zero =>
      intro i M' hd hP' f' hq
      rw [sk_e (by omega)] at hq
      refine vc_P_nextToken_8 _ ?_
      rw [hP'.1.1, hP'.2.1]
      exact ⟨fun _ => at46 i M' hP' f' hq, fun z => by omega⟩
    | succ d ih =>
      intro i M' hd hP' f' hq
      rw [sk_s (by omega)] at hq
      have h9 := hP'.2.2.2.2.2
      refine vc_P_nextToken_8 _ ?_
      rw [hP'.1.1, hP'.2.1, Int.toNat_natCast, hP'.1.2 i (by omega)]
      refine ⟨fun z => by omega, fun _ => ⟨by omega, fun y => ?_, fun y M3 e3 => ?_⟩⟩
      · rw [if_neg y] at hq
        exact at46 i M' hP' f' hq
      · rw [if_pos y] at hq
        rw [w32_s (by omega)] at e3
        exact ih (i + 1) M3 (by omega) (PCx_pl hP' (by omega) e3) (pf_tr f' (by rw [e3]; exact pf_pt (by omega))) hq
  have h9 := hP.2.2.2.2.2
  exact loop (n - i) i M (by omega) hP (pf_rf M) hQ
theorem P_nextToken (hP : PC T n M i s k 0 fp) (hQ : ∀ M' : JM, PC T n M' (tE T n i) (tS T n i) (tK T n i) (if tK T n i = 4 then 1 else 0) (if tK T n i = 4 then (tS T n i : Int) else fp) → pf M M' → Q 0 M') : JC E mm_P_nextToken [vR 9 0] M Q := P_nextTokenX (PC_x hP) hQ
theorem P_nextTokenF {f : Int} (hf : f ≠ 0) (hP : PC T n M i s k f fp) (hQ : Q 0 M) : JC E mm_P_nextToken [vR 9 0] M Q := by
  refine vc_P_nextToken _ ?_
  rw [hP.2.2.2.2.1]
  exact ⟨fun z => absurd z hf, fun _ => hQ⟩
end

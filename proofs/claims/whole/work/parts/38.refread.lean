/-! ===== the reader: what a text says ===== -/
abbrev PR (α : Type) : Type := Sum (Nat × Nat) α
def okT (T : Nat → Int) (L : Nat) (t : Tk) : Prop := tA t ≤ tB t ∧ tB t ≤ L ∧ tK t ≤ 4 ∧ (tK t = 2 → tA t < tB t ∧ tB t - tA t ≤ 8 ∧ ∀ j, tA t ≤ j → j < tB t → 48 ≤ T j ∧ T j ≤ 57) ∧ (tK t = 1 → tA t < tB t ∧ tB t - tA t ≤ 6 ∧ ∀ j, tA t ≤ j → j < tB t → 97 ≤ T j ∧ T j ≤ 122) ∧ (tK t = 3 → tA t < tB t) ∧ (tK t = 0 → tA t = L)
theorem okT_tkA (T : Nat → Int) {L a : Nat} (ha : a ≤ L) : okT T L (tkA T L a) := by
  unfold tkA
  by_cases e : a = L
  · rw [if_pos e]
    exact ⟨Nat.le_refl _, ha, Nat.zero_le _, fun x => absurd (show (0 : Nat) = 2 from x) (by decide), fun x => absurd (show (0 : Nat) = 1 from x) (by decide), fun x => absurd (show (0 : Nat) = 3 from x) (by decide), fun _ => e⟩
  · rw [if_neg e]
    by_cases hl : isLt T a = true
    · rw [if_pos hl]
      have h1 := runF_le (isLt T) (L - a) a
      have h2 := runF_in (isLt T) (L - a) a
      have h3 := runF_s (show a < L by omega) hl
      have h4 := runF_le (isLt T) (L - (a + 1)) (a + 1)
      generalize runF (isLt T) (L - a) a = b at *
      by_cases h6 : b - a ≤ 6
      · rw [if_pos h6]
        exact ⟨h1.1, by show b ≤ L; omega, by show 1 ≤ 4; omega, fun x => absurd (show (1 : Nat) = 2 from x) (by decide), fun _ => ⟨by show a < b; omega, h6, fun j p q => of_decide_eq_true (h2 j p q)⟩, fun x => absurd (show (1 : Nat) = 3 from x) (by decide), fun x => absurd (show (1 : Nat) = 0 from x) (by decide)⟩
      · rw [if_neg h6]
        exact ⟨h1.1, by show b ≤ L; omega, by show 4 ≤ 4; omega, fun x => absurd (show (4 : Nat) = 2 from x) (by decide), fun x => absurd (show (4 : Nat) = 1 from x) (by decide), fun x => absurd (show (4 : Nat) = 3 from x) (by decide), fun x => absurd (show (4 : Nat) = 0 from x) (by decide)⟩
    · rw [if_neg hl]
      by_cases hd : isDg T a = true
      · rw [if_pos hd]
        have h1 := runF_le (isDg T) (L - a) a
        have h2 := runF_in (isDg T) (L - a) a
        have h3 := runF_s (show a < L by omega) hd
        have h4 := runF_le (isDg T) (L - (a + 1)) (a + 1)
        generalize runF (isDg T) (L - a) a = b at *
        by_cases h6 : b - a ≤ 8
        · rw [if_pos h6]
          exact ⟨h1.1, by show b ≤ L; omega, by show 2 ≤ 4; omega, fun _ => ⟨by show a < b; omega, h6, fun j p q => of_decide_eq_true (h2 j p q)⟩, fun x => absurd (show (2 : Nat) = 1 from x) (by decide), fun x => absurd (show (2 : Nat) = 3 from x) (by decide), fun x => absurd (show (2 : Nat) = 0 from x) (by decide)⟩
        · rw [if_neg h6]
          exact ⟨h1.1, by show b ≤ L; omega, by show 4 ≤ 4; omega, fun x => absurd (show (4 : Nat) = 2 from x) (by decide), fun x => absurd (show (4 : Nat) = 1 from x) (by decide), fun x => absurd (show (4 : Nat) = 3 from x) (by decide), fun x => absurd (show (4 : Nat) = 0 from x) (by decide)⟩
      · rw [if_neg hd]
        by_cases hs : T a = 59 ∨ T a = 44 ∨ T a = 58
        · rw [if_pos hs]
          exact ⟨by show a ≤ a + 1; omega, by show a + 1 ≤ L; omega, by show 3 ≤ 4; omega, fun x => absurd (show (3 : Nat) = 2 from x) (by decide), fun x => absurd (show (3 : Nat) = 1 from x) (by decide), fun _ => by show a < a + 1; omega, fun x => absurd (show (3 : Nat) = 0 from x) (by decide)⟩
        · rw [if_neg hs]
          exact ⟨by show a ≤ a + 1; omega, by show a + 1 ≤ L; omega, by show 4 ≤ 4; omega, fun x => absurd (show (4 : Nat) = 2 from x) (by decide), fun x => absurd (show (4 : Nat) = 1 from x) (by decide), fun x => absurd (show (4 : Nat) = 3 from x) (by decide), fun x => absurd (show (4 : Nat) = 0 from x) (by decide)⟩
theorem okT_tkF (T : Nat → Int) {L p : Nat} (hp : p ≤ L) : okT T L (tkF T L p) := okT_tkA T (by have := runF_le (isSp T) (L - p) p; omega)
theorem tkF_ge (T : Nat → Int) {L p : Nat} (hp : p ≤ L) : p ≤ tA (tkF T L p) := by
  have := runF_le (isSp T) (L - p) p
  unfold tkF tkA
  split
  · exact this.1
  · split
    · exact this.1
    · split
      · exact this.1
      · exact this.1
def oneD (T : Nat → Int) (t : Tk) : Int := if tB t - tA t = 1 then T (tA t) - 48 else -1
abbrev nxT (T : Nat → Int) (L : Nat) (t : Tk) : Tk := tkF T L (tB t)
abbrev isSg (T : Nat → Int) (t : Tk) (v : Int) : Prop := tK t = 3 ∧ T (tA t) = v
abbrev isKw (T : Nat → Int) (t : Tk) (l : List Nat) : Prop := tK t = 1 ∧ tNm T t = l
abbrev kwCode : List Nat := [3, 15, 4, 5]
abbrev kwOn : List Nat := [15, 14]
abbrev kwWeigh : List Nat := [23, 5, 9, 7, 8]
def szP (T : Nat → Int) (L : Nat) : Nat → Tk → Cd → PR (Tk × Cd)
  | 0, t, _ => Sum.inl (4, tA t)
  | n + 1, t, C => if ¬ tK t = 2 then Sum.inl (1, tA t) else if ¬ (2 ≤ oneD T t ∧ oneD T t ≤ 4) then Sum.inl (2, tA t)
      else if cN C = 8 ∨ 256 < cW C * (oneD T t).toNat then Sum.inl (4, tA t)
      else if tK (nxT T L t) = 2 then szP T L n (nxT T L t) (addP C (oneD T t).toNat 1) else Sum.inr (nxT T L t, addP C (oneD T t).toNat 1)
def setW (C : Cd) (i x : Nat) : Cd := (cN C, cS C, (fun j => if j = i then x else cT C j), cM C)
def wtP (T : Nat → Int) (L : Nat) : Nat → Nat → Tk → Cd → PR (Tk × Cd)
  | 0, _, t, C => Sum.inr (t, C)
  | k + 1, i, t, C => if ¬ tK t = 2 then Sum.inl (1, tA t) else if ¬ (1 ≤ oneD T t ∧ oneD T t ≤ 3) then Sum.inl (2, tA t) else wtP T L k (i + 1) (nxT T L t) (setW C i (oneD T t).toNat)
def nuF (T : Nat → Int) (S : Nat → Nat) (a : Nat) : Nat → Option Nat
  | 0 => some 0
  | k + 1 => match nuF T S a k with
    | none => none
    | some v => if T (a + k) - 48 < (S k : Int) then some (v * S k + (T (a + k) - 48).toNat) else none
def nuP (T : Nat → Int) (t : Tk) (C : Cd) : Option Nat := if tB t - tA t = cN C then nuF T (cS C) (tA t) (cN C) else none
def wdP (T : Nat → Int) (L : Nat) (t : Tk) (C : Cd) : PR (Tk × Cd) := if ¬ tK t = 2 then Sum.inl (1, tA t) else match nuP T t C with
  | none => Sum.inl (2, tA t)
  | some w => if cM C w then Sum.inl (3, tA t) else Sum.inr (nxT T L t, setM C w true)
def wsP (T : Nat → Int) (L : Nat) : Nat → Tk → Cd → PR (Tk × Cd)
  | 0, t, C => Sum.inr (t, C)
  | n + 1, t, C => match wdP T L t C with
    | Sum.inl e => Sum.inl e
    | Sum.inr (t', C') => if isSg T t' 44 then wsP T L n (nxT T L t') C' else Sum.inr (t', C')
/-- the frame of what reads into row c -/
def fR (c : Nat) (μ μ' : Mem) : Prop := (∀ k, k ≠ 115 → k ≠ 117 → μ'.1 k = μ.1 k) ∧ (∀ k, k ≠ 115 → μ'.2 k = μ.2 k) ∧ (∀ j, ¬ (6 ≤ j ∧ j ≤ 11) → μ'.1 115 j = μ.1 115 j) ∧ ∀ j, (j < 273 * c ∨ 273 * c + 273 ≤ j) → μ'.1 117 j = μ.1 117 j
theorem fR.rf {c : Nat} {μ : Mem} : fR c μ μ := ⟨fun _ _ _ => rfl, fun _ _ => rfl, fun _ _ => rfl, fun _ _ => rfl⟩
theorem fR.tr {c : Nat} {μ μ' μ'' : Mem} (h : fR c μ μ') (h2 : fR c μ' μ'') : fR c μ μ'' := ⟨fun k a b => (h2.1 k a b).trans (h.1 k a b), fun k a => (h2.2.1 k a).trans (h.2.1 k a), fun j a => (h2.2.2.1 j a).trans (h.2.2.1 j a), fun j a => (h2.2.2.2 j a).trans (h.2.2.2 j a)⟩
theorem fG.fR {c : Nat} {μ μ' : Mem} (h : fG μ μ') : fR c μ μ' := ⟨fun k a _ => (h.1 k a).1, fun k a => (h.1 k a).2, fun j a => h.2 j (by omega) (by omega) (by omega) (by omega), fun j _ => by rw [(h.1 117 (by omega)).1]⟩
theorem orow.fR {c : Nat} {μ μ' : Mem} (h : orow μ μ' c) : fR c μ μ' := ⟨fun k _ b => h.1 k b, fun k _ => by rw [h.2.1], fun j _ => by rw [h.1 115 (by omega)], h.2.2⟩
theorem fR.f {c : Nat} {μ μ' : Mem} {j : Nat} {v : Int} (h : fR c μ μ') (hj : 6 ≤ j ∧ j ≤ 11) : fR c μ (sI μ' 115 j v) := h.tr ⟨fun k a _ => sI_ne a, fun _ _ => rfl, fun i a => sI_nj (by omega), fun i _ => by rw [sI_ne (by omega)]⟩
theorem tpS.fR {c : Nat} {μ μ' : Mem} {T : Nat → Int} {L : Nat} (h : tpS μ T L) (hf : fR c μ μ') : tpS μ' T L := ⟨by rw [hf.2.2.1 5 (by omega)]; exact h.1, h.2.1, by rw [hf.1 116 (by omega) (by omega)]; exact h.2.2⟩
theorem tkS.o {c : Nat} {μ μ' : Mem} {T : Nat → Int} {t : Tk} (h : tkS μ T t) (ho : orow μ μ' c) : tkS μ' T t := by
  unfold tkS at *
  rw [ho.1 115 (by omega), ho.2.1]
  exact h
/-- a fault stands -/
def flt (μ : Mem) (e : Nat × Nat) : Prop := μ.1 115 7 = (e.1 : Int) ∧ 0 < e.1 ∧ μ.1 115 8 = (e.2 : Int)
section RR
variable {μ : Mem} {Q : Mem → Prop} {T : Nat → Int} {L : Nat} {c : Nat}
theorem s_flaw {f : Nat} {t : Tk} (h7 : μ.1 115 7 = 0) (ht : tkS μ T t) (hf : 0 < f) (hq : ∀ μ', fR c μ μ' → flt μ' (f, tA t) → Q μ') : wp_X8_flaw f μ Q := by
  refine ⟨fun _ μ2 e2 μ3 e3 => hq μ3 (by rw [e3, e2]; exact (fR.rf.f (by omega)).f (by omega)) ⟨by rw [e3, sI_nj (by omega), e2, sI_s], hf, by rw [e3, sI_s, e2, sI_nj (by omega)]; exact ht.2.1⟩, fun x => absurd (Int.le_of_eq h7) x⟩
theorem flt.pos {e : Nat × Nat} (h : flt μ e) : ¬ μ.1 115 7 ≤ 0 ∧ ¬ μ.1 115 7 = 0 := by
  have h1 := h.1
  have h2 := h.2.1
  omega
theorem s_goOn_f {e : Nat × Nat} (h : flt μ e) (hq : Q μ) : wp_X8_goOn μ Q := ⟨fun x => absurd x h.pos.1, fun _ => hq⟩
theorem s_flaw_f {e : Nat × Nat} {f : Int} (h : flt μ e) (hq : Q μ) : wp_X8_flaw f μ Q := ⟨fun x => absurd x h.pos.1, fun _ => hq⟩
theorem kM_2 {k : Nat} : kM k = 3 ↔ k = 2 := by
  unfold kM
  split
  · omega
  · split
    · omega
    · split
      · omega
      · split <;> omega
theorem kM_1 {k : Nat} : kM k = 2 ↔ k = 1 := by
  unfold kM
  split
  · omega
  · split
    · omega
    · split
      · omega
      · split <;> omega
theorem kM_3 {k : Nat} : kM k = 4 ↔ k = 3 := by
  unfold kM
  split
  · omega
  · split
    · omega
    · split
      · omega
      · split <;> omega
theorem kM_0 {k : Nat} (h : k ≤ 4) : kM k = 1 ↔ k = 0 := by
  unfold kM
  split
  · omega
  · split
    · omega
    · split
      · omega
      · split <;> omega
theorem s_oneDigit {R : Int → Mem → Prop} {t : Tk} (h : tpS μ T L) (ht : tkS μ T t) (ho : okT T L t) (hk : tK t = 2) (hq : R (oneD T t) μ) : wp_X8_oneDigit μ R := by
  obtain ⟨h1, h2, h3⟩ := ho.2.2.2.1 hk
  have h4 := ho.2.1
  have h600 := h.2.1
  unfold wp_X8_oneDigit
  rw [ht.2.1, ht.2.2.1]
  unfold oneD at hq
  refine ⟨inR_i (by omega) (by omega), fun q => ?_, fun q => ?_⟩
  · rw [if_neg (by omega)] at hq; exact hq
  · rw [if_pos (by omega)] at hq
    have h5 := h3 (tA t) (Nat.le_refl _) h1
    rw [Int.toNat_natCast, h.2.2 (tA t) (by omega)]
    exact ⟨by omega, inR_i (by omega) (by omega), hq⟩
/-- what a reading leaves -/
def rdP (T : Nat → Int) (L c : Nat) (R : PR (Tk × Cd)) (μ : Mem) : Prop := match R with
  | Sum.inl e => flt μ e
  | Sum.inr (t, C) => μ.1 115 7 = 0 ∧ tkS μ T t ∧ okT T L t ∧ mrow μ c C ∧ okC C
theorem s_readSizes {t : Tk} {C : Cd} (hc : c < 14) (h : tpS μ T L) (h7 : μ.1 115 7 = 0) (ht : tkS μ T t) (ho : okT T L t) (hr : mrow μ c C) (hC : okC C) (hM : ∀ w, cM C w = false) (h8 : cN C ≤ 8)
    (hq : ∀ μ', fR c μ μ' → rdP T L c (szP T L (9 - cN C) t C) μ' → Q μ') : wp_X8_readSizes c μ Q := by
  refine LP3_rule (fun (v1 v2 : Int) (μ2 : Mem) => v1 = (c : Int) ∧ fR c μ μ2 ∧ ((v2 = 0 ∧ rdP T L c (szP T L (9 - cN C) t C) μ2) ∨ (v2 = 1 ∧ ∃ (t2 : Tk) (C2 : Cd), μ2.1 115 7 = 0 ∧ tkS μ2 T t2 ∧ okT T L t2 ∧ mrow μ2 c C2 ∧ okC C2 ∧ (∀ w, cM C2 w = false) ∧ szP T L (9 - cN C) t C = szP T L (9 - cN C2) t2 C2))) (fun _ v2 μ2 => (10 * v2 - μ2.1 117 (273 * c)).toNat + v2.toNat) ?_ ⟨rfl, fR.rf, Or.inr ⟨rfl, t, C, h7, ht, ho, hr, hC, hM, rfl⟩⟩
  rintro X v1 v2 μ2 ⟨rfl, hf2, hcase⟩ hX
  refine ⟨fun q => ?_, fun q => ?_⟩
  · rcases hcase with ⟨-, hP⟩ | ⟨e, -⟩
    · exact hq μ2 hf2 hP
    · omega
  rcases hcase with ⟨e, -⟩ | ⟨rfl, t2, C2, g7, gt, go, gr, gC, gM, hS⟩
  · exact absurd e q
  have h2 := h.fR hf2
  have h28 := gC.1
  have hrow0 : μ2.1 117 (273 * c) = (cN C2 : Int) := gr.1
  have hU : szP T L (9 - cN C2) t2 C2 = if ¬ tK t2 = 2 then Sum.inl (1, tA t2) else if ¬ (2 ≤ oneD T t2 ∧ oneD T t2 ≤ 4) then Sum.inl (2, tA t2)
      else if cN C2 = 8 ∨ 256 < cW C2 * (oneD T t2).toNat then Sum.inl (4, tA t2)
      else if tK (nxT T L t2) = 2 then szP T L (9 - (cN C2 + 1)) (nxT T L t2) (addP C2 (oneD T t2).toNat 1) else Sum.inr (nxT T L t2, addP C2 (oneD T t2).toNat 1) := by
    rw [show 9 - cN C2 = (9 - (cN C2 + 1)) + 1 by omega]; rfl
  rw [hU] at hS
  have bad : ∀ f : Nat, 0 < f → szP T L (9 - cN C) t C = Sum.inl (f, tA t2) → wp_X8_flaw f μ2 (fun μ11 => wp_X8_readSizes_73 Q X c μ11) := fun f hf0 he => s_flaw (c := c) g7 gt hf0 (fun μ3 hf3 hl3 => ⟨fun x => absurd x hl3.pos.1, fun _ => hq μ3 (hf2.tr hf3) (by rw [he]; exact hl3)⟩)
  rw [gt.1]
  refine ⟨fun q2 => ?_, fun q2 => bad 1 (by omega) (by rw [hS, if_pos (fun e => q2 (kM_2.mpr e))])⟩
  have k2 : tK t2 = 2 := kM_2.mp q2
  rw [if_neg (fun x => x k2)] at hS
  refine s_oneDigit h2 gt go k2 ?_
  refine c_in (fun n => B0 (bad 2 (by omega) (by rw [hS, if_pos n]))) (fun y => B1 ?_)
  rw [if_neg (fun x => x y)] at hS
  obtain ⟨d, hd⟩ := Int.eq_ofNat_of_zero_le (show 0 ≤ oneD T t2 by omega)
  have hd2 : 2 ≤ d ∧ d ≤ 4 := by omega
  rw [hd, Int.toNat_natCast] at hS
  refine s_places gr hc ⟨fun q3 => bad 4 (by omega) (by rw [hS, if_pos (Or.inl (by omega))]), fun q3 => ?_⟩
  have hw8 := gC.2.2.2.1
  have hmul : cW C2 * d ≤ 256 * 4 := Nat.mul_le_mul hw8 hd2.2
  refine s_words gr hc gC (s_oneDigit h2 gt go k2 ?_)
  rw [hd, ← Int.natCast_mul]
  refine ⟨inR_n (by omega), fun q4 => ?_, fun q4 => bad 4 (by omega) (by rw [hS, if_pos (Or.inr (by omega))])⟩
  rw [if_neg (by omega)] at hS
  -- a place more
  refine ⟨fun _ => ?_, fun x => absurd (Int.le_of_eq g7) x⟩
  refine s_oneDigit h2 gt go k2 ?_
  rw [hd]
  refine s_adds (s := d) (t := 1) hc gr (by omega) (fun μ4 ho4 hr4 => ?_)
  have hC4 : okC (addP C2 d 1) := okC_addP gC gM (by omega) hd2 ⟨Nat.le_refl _, by omega⟩ (by omega)
  have hf4 : fR c μ μ4 := hf2.tr ho4.fR
  have g74 : μ4.1 115 7 = 0 := by rw [ho4.1 115 (by omega)]; exact g7
  have gt4 := gt.o ho4
  refine s_goOn (p := tB t2) (h.fR hf4) g74 gt4.2.2.1 go.2.1 (fun μ5 hf5 ht5 => ?_)
  have hf05 : fR c μ μ5 := hf4.tr hf5.fR
  have g75 : μ5.1 115 7 = 0 := by rw [hf5.2 7 (by omega) (by omega) (by omega) (by omega)]; exact g74
  have hr5 : mrow μ5 c (addP C2 d 1) := hr4.to (hf5.1 117 (by omega)).1
  have ho5 := okT_tkF T (p := tB t2) go.2.1
  have r5 : μ5.1 117 (273 * c) = ((cN C2 + 1 : Nat) : Int) := hr5.1
  refine ⟨fun x => absurd g75 x, fun _ => ?_⟩
  rw [ht5.1]
  refine ⟨fun q5 => hX _ _ _ ⟨rfl, hf05, Or.inl ⟨rfl, ?_⟩⟩ (by rw [hrow0]; omega), fun q5 => hX _ _ _ ⟨rfl, hf05, Or.inr ⟨rfl, nxT T L t2, addP C2 d 1, g75, ht5, ho5, hr5, hC4, gM, ?_⟩⟩ (by rw [hrow0, r5]; omega)⟩
  · rw [hS, if_neg (fun e => q5 (kM_2.mpr e))]
    exact ⟨g75, ht5, ho5, hr5, hC4⟩
  · rw [hS, if_pos (kM_2.mp q5)]; rfl
end RR

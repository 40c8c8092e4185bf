/-! the reader of the reference: one code whole -/
theorem wsP_N {T : Nat → Int} {L : Nat} : ∀ {n : Nat} {t t' : Tk} {C C' : Cd}, wsP T L n t C = Sum.inr (t', C') → cN C' = cN C
  | 0, t, t', C, C', h => by cases h; rfl
  | n + 1, t, t', C, C', h => by
    have hU : wsP T L (n + 1) t C = (match wdP T L t C with
      | Sum.inl e => Sum.inl e
      | Sum.inr (t', C') => if isSg T t' 44 then wsP T L n (nxT T L t') C' else Sum.inr (t', C')) := rfl
    rw [hU] at h
    rcases hw : wdP T L t C with e | ⟨t2, C2⟩
    · rw [hw] at h; cases h
    · rw [hw] at h
      have h : (if isSg T t2 44 then wsP T L n (nxT T L t2) C2 else Sum.inr (t2, C2)) = Sum.inr (t', C') := h
      have e := (wdP_in hw).2.2
      split at h
      · rw [wsP_N h, e]
      · cases h; exact e
theorem wtP_N {T : Nat → Int} {L : Nat} : ∀ {n i : Nat} {t t' : Tk} {C C' : Cd}, wtP T L n i t C = Sum.inr (t', C') → cN C' = cN C
  | 0, i, t, t', C, C', h => by cases h; rfl
  | n + 1, i, t, t', C, C', h => by
    have h : (if ¬ tK t = 2 then Sum.inl (1, tA t) else if ¬ (1 ≤ oneD T t ∧ oneD T t ≤ 3) then Sum.inl (2, tA t) else wtP T L n (i + 1) (nxT T L t) (setW C i (oneD T t).toNat)) = Sum.inr (t', C') := h
    split at h
    · cases h
    · split at h
      · cases h
      · have e := wtP_N h
        exact e
theorem szP_N {T : Nat → Int} {L : Nat} : ∀ {n : Nat} {t t' : Tk} {C C' : Cd}, szP T L n t C = Sum.inr (t', C') → cN C < cN C'
  | 0, t, t', C, C', h => by cases h
  | n + 1, t, t', C, C', h => by
    have h : (if ¬ tK t = 2 then Sum.inl (1, tA t) else if ¬ (2 ≤ oneD T t ∧ oneD T t ≤ 4) then Sum.inl (2, tA t)
      else if cN C = 8 ∨ 256 < cW C * (oneD T t).toNat then Sum.inl (4, tA t)
      else if tK (nxT T L t) = 2 then szP T L n (nxT T L t) (addP C (oneD T t).toNat 1) else Sum.inr (nxT T L t, addP C (oneD T t).toNat 1)) = Sum.inr (t', C') := h
    split at h
    · cases h
    · split at h
      · cases h
      · split at h
        · cases h
        · split at h
          · have := szP_N h
            have e : cN (addP C (oneD T t).toNat 1) = cN C + 1 := rfl
            omega
          · cases h; exact Nat.lt_succ_self _
def fC (m : Nat) (μ μ' : Mem) : Prop := (∀ k, k ≠ 115 → k ≠ 117 → μ'.1 k = μ.1 k) ∧ (∀ k, k ≠ 115 → k ≠ 120 → μ'.2 k = μ.2 k) ∧ (∀ j, j ≠ m → μ'.2 120 j = μ.2 120 j) ∧ (∀ j, ¬ (6 ≤ j ∧ j ≤ 11) → j ≠ 18 → μ'.1 115 j = μ.1 115 j) ∧ ∀ j, (j < 273 * (8 + m) ∨ 273 * (8 + m) + 273 ≤ j) → μ'.1 117 j = μ.1 117 j
theorem fC.R {m : Nat} {μ μ' μ'' : Mem} (h : fC m μ μ') (h2 : fR (8 + m) μ' μ'') : fC m μ μ'' := ⟨fun k a b => (h2.1 k a b).trans (h.1 k a b), fun k a b => (h2.2.1 k a).trans (h.2.1 k a b), fun j a => by rw [h2.2.1 120 (by omega)]; exact h.2.2.1 j a, fun j a b => (h2.2.2.1 j a).trans (h.2.2.2.1 j a b), fun j a => (h2.2.2.2 j a).trans (h.2.2.2.2 j a)⟩
theorem fC.rf {m : Nat} {μ : Mem} : fC m μ μ := ⟨fun _ _ _ => rfl, fun _ _ _ => rfl, fun _ _ => rfl, fun _ _ _ => rfl, fun _ _ => rfl⟩
theorem fC.n {m : Nat} {μ μ' : Mem} {v : Int64} (h : fC m μ μ') : fC m μ (sL μ' 120 m v) := ⟨h.1, fun k a b => by rw [sL_ne b]; exact h.2.1 k a b, fun j a => by rw [sL_nj a]; exact h.2.2.1 j a, h.2.2.2.1, h.2.2.2.2⟩
theorem fC.e {m : Nat} {μ μ' : Mem} {v : Int} (h : fC m μ μ') : fC m μ (sI μ' 115 18 v) := ⟨fun k a b => by rw [sI_ne a]; exact h.1 k a b, h.2.1, h.2.2.1, fun j a b => by rw [sI_nj b]; exact h.2.2.2.1 j a b, fun j a => by rw [sI_ne (by omega)]; exact h.2.2.2.2 j a⟩
theorem tpS.fC {m : Nat} {μ μ' : Mem} {T : Nat → Int} {L : Nat} (h : tpS μ T L) (hf : fC m μ μ') : tpS μ' T L := ⟨by rw [hf.2.2.2.1 5 (by omega) (by omega)]; exact h.1, h.2.1, by rw [hf.1 116 (by omega) (by omega)]; exact h.2.2⟩
theorem mem_getD {l : List (List Nat)} {x : List Nat} : x ∈ l ↔ ∃ i, i < l.length ∧ l.getD i [] = x := by
  rw [List.mem_iff_getElem]
  constructor
  · rintro ⟨i, hi, e⟩
    exact ⟨i, hi, by rw [List.getD_eq_getElem?_getD, List.getElem?_eq_getElem hi]; exact e⟩
  · rintro ⟨i, hi, e⟩
    refine ⟨i, hi, ?_⟩
    rw [List.getD_eq_getElem?_getD, List.getElem?_eq_getElem hi] at e
    exact e
section RR
variable {μ : Mem} {Q : Mem → Prop} {T : Nat → Int} {L : Nat} {c : Nat} {e : Nat × Nat} {x k : Int}
theorem flt_111 (hl : flt μ e) (hQ : Q μ) : wp_X8_readCode_111 Q x μ := ⟨fun y => absurd y hl.pos.1, fun _ => hQ⟩
theorem flt_71 (hl : flt μ e) (hQ : Q μ) : LP3 (wp_X8_readCode_71 Q) x k μ := by
  refine LP3_rule (fun v1 v2 μ2 => v1 = x ∧ v2 = k ∧ μ2 = μ) (fun _ _ _ => 0) ?_ ⟨rfl, rfl, rfl⟩
  rintro X v1 v2 μ2 ⟨rfl, rfl, rfl⟩ _
  exact ⟨fun _ => flt_111 hl hQ, fun y => absurd y hl.pos.2⟩
theorem flt_38 (hl : flt μ e) (hQ : Q μ) : wp_X8_readCode_38 Q x μ := s_goOn_f hl ⟨fun _ => flt_71 hl hQ, fun y => absurd y hl.pos.2⟩
theorem flt_155 (hl : flt μ e) (hQ : Q μ) : wp_X8_readCode_155 Q x μ := s_goOn_f hl ⟨fun y => absurd y hl.pos.1, fun _ => hQ⟩
theorem flt_200 (hl : flt μ e) (hQ : Q μ) : wp_X8_readCode_200 Q x μ := s_goOn_f hl ⟨fun y => absurd y hl.pos.1, fun _ => hQ⟩
theorem flt_186 (hl : flt μ e) (hQ : Q μ) : wp_X8_readCode_186 Q x μ := s_isSign_f hl ⟨fun y => absurd rfl y, fun _ => s_flaw_f hl (flt_200 hl hQ)⟩
theorem s_186 {t : Tk} {C : Cd} (hc : c < 14) (h : tpS μ T L) (h7 : μ.1 115 7 = 0) (ht : tkS μ T t) (ho : okT T L t) (hr : mrow μ c C) (hC : okC C) (hn : 0 < cN C) {m : Nat} (h18 : μ.1 115 18 = (m : Int)) (hm : m ≤ 4)
    (hq0 : ∀ μ' e, fR c μ μ' → cd4 T L t C = Sum.inl e → flt μ' e → Q μ')
    (hq1 : ∀ μ' μ2 t' C', fR c μ μ2 → cd4 T L t C = Sum.inr (t', C') → rdP T L c (Sum.inr (t', C')) μ2 → μ' = sI μ2 115 18 ((m : Int) + 1) → Q μ') : wp_X8_readCode_186 Q c μ := by
  refine s_isSign h7 ht (fun hno => ⟨fun y => absurd rfl y, fun _ => ?_⟩) (fun hy => ⟨fun _ => ?_, fun y => absurd y (by decide)⟩)
  · have hR : cd4 T L t C = Sum.inl (1, tA t) := if_pos hno
    exact s_flaw (c := c) (f := 1) h7 ht (by omega) (fun μ3 hf3 hl3 => flt_200 hl3 (hq0 μ3 _ hf3 hR hl3))
  · have hR : cd4 T L t C = wsP T L 601 (nxT T L t) C := if_neg (fun y => y hy)
    rw [hR] at hq0 hq1
    refine s_goOn (p := tB t) h h7 ht.2.2.1 ho.2.1 (fun μ3 hf3 ht3 => ?_)
    have g73 : μ3.1 115 7 = 0 := by rw [hf3.2 7 (by omega) (by omega) (by omega) (by omega)]; exact h7
    refine ⟨fun _ => ?_, fun y => absurd (Int.le_of_eq g73) y⟩
    exact s_words_r hc (h.to hf3) g73 ht3 (okT_tkF T ho.2.1) (hr.to (hf3.1 117 (by omega)).1) hC hn (by rw [hf3.2 18 (by omega) (by omega) (by omega) (by omega)]; exact h18) hm (fun μ' e hf he hl => hq0 μ' e (hf3.fR.tr hf) he hl) (fun μ' μ2 t' C' hf he hP e => hq1 μ' μ2 t' C' (hf3.fR.tr hf) he hP e)
theorem s_155 {t : Tk} (hc : c < 14) (h : tpS μ T L) (h7 : μ.1 115 7 = 0) (ht : tkS μ T t) (ho : okT T L t) (hr : mrow μ c C0) {m : Nat} (h18 : μ.1 115 18 = (m : Int)) (hm : m ≤ 4)
    (hq0 : ∀ μ' e, fR c μ μ' → cd2 T L (nxT T L t) = Sum.inl e → flt μ' e → Q μ')
    (hq1 : ∀ μ' μ2 t' C', fR c μ μ2 → cd2 T L (nxT T L t) = Sum.inr (t', C') → rdP T L c (Sum.inr (t', C')) μ2 → 0 < cN C' → μ' = sI μ2 115 18 ((m : Int) + 1) → Q μ') : wp_X8_readCode_155 Q c μ := by
  refine s_goOn (p := tB t) h h7 ht.2.2.1 ho.2.1 (fun μ3 hf3 ht3 => ?_)
  have g73 : μ3.1 115 7 = 0 := by rw [hf3.2 7 (by omega) (by omega) (by omega) (by omega)]; exact h7
  have h3 := h.to hf3
  refine ⟨fun _ => ?_, fun y => absurd (Int.le_of_eq g73) y⟩
  have e18 : ∀ μ', fR c μ3 μ' → μ'.1 115 18 = (m : Int) := fun μ' hf => by rw [hf.2.2.1 18 (by omega), hf3.2 18 (by omega) (by omega) (by omega) (by omega)]; exact h18
  refine s_readSizes hc h3 g73 ht3 (okT_tkF T ho.2.1) (hr.to (hf3.1 117 (by omega)).1) okC_0 (fun _ => rfl) (by decide) (fun μ4 hf4 hP4 => ?_)
  have hP4 : rdP T L c (szP T L 9 (nxT T L t) C0) μ4 := hP4
  have hf04 : fR c μ μ4 := hf3.fR.tr hf4
  have h4 := h.fR hf04
  rcases hz : szP T L 9 (nxT T L t) C0 with e | ⟨t4, C4⟩
  · rw [hz] at hP4
    have hR : cd2 T L (nxT T L t) = Sum.inl e := by unfold cd2; rw [hz]
    have hl : flt μ4 e := hP4
    exact s_isWord_f hl ⟨fun _ => flt_186 hl (hq0 μ4 e hf04 hR hl), fun y => absurd rfl y⟩
  · rw [hz] at hP4
    obtain ⟨g7, gt, go, gr, gC⟩ := hP4
    have hn4 : 0 < cN C4 := by have := szP_N hz; omega
    have hR : cd2 T L (nxT T L t) = cd3 T L t4 C4 := by unfold cd2; rw [hz]
    rw [hR] at hq0 hq1
    refine s_isWord (j := 2) (by omega) g7 gt go (fun hno => ⟨fun _ => ?_, fun y => absurd rfl y⟩) (fun hy => ⟨fun y => absurd y (by decide), fun _ => ?_⟩)
    · have hR3 : cd3 T L t4 C4 = cd4 T L t4 C4 := if_neg hno
      rw [hR3] at hq0 hq1
      refine s_186 hc h4 g7 gt go gr gC hn4 (e18 μ4 hf4) hm (fun μ' e hf he hl => hq0 μ' e (hf04.tr hf) he hl) (fun μ' μ2 t' C' hf he hP e => hq1 μ' μ2 t' C' (hf04.tr hf) he hP ?_ e)
      unfold cd4 at he
      split at he
      · cases he
      · rw [wsP_N he]; exact hn4
    · have hR3 : cd3 T L t4 C4 = (match wtP T L (cN C4) 0 (nxT T L t4) C4 with
        | Sum.inl e => Sum.inl e
        | Sum.inr (t5, C5) => cd4 T L t5 C5) := if_pos hy
      rw [hR3] at hq0 hq1
      refine s_readWeights hc h4 g7 gt go gr gC (fun μ5 hf5 hP5 => ?_)
      have hf05 : fR c μ μ5 := hf04.tr hf5
      rcases hz5 : wtP T L (cN C4) 0 (nxT T L t4) C4 with e | ⟨t5, C5⟩
      · rw [hz5] at hP5 hq0
        exact flt_186 hP5 (hq0 μ5 e hf05 rfl hP5)
      · rw [hz5] at hP5 hq0 hq1
        obtain ⟨g75, gt5, go5, gr5, gC5⟩ := hP5
        have hn5 : 0 < cN C5 := by rw [wtP_N hz5]; exact hn4
        refine s_186 hc (h.fR hf05) g75 gt5 go5 gr5 gC5 hn5 (e18 μ5 (hf4.tr hf5)) hm (fun μ' e hf he hl => hq0 μ' e (hf05.tr hf) he hl) (fun μ' μ2 t' C' hf he hP e => hq1 μ' μ2 t' C' (hf05.tr hf) he hP ?_ e)
        unfold cd4 at he
        split at he
        · cases he
        · rw [wsP_N he]; exact hn5
theorem s_isOwn {t : Tk} {R : Int → Mem → Prop} (h7 : μ.1 115 7 = 0) (ht : tkS μ T t) (ho : okT T L t) (h0 : ¬ (isKw T t (kwl 0) ∨ isKw T t (kwl 1) ∨ isKw T t (kwl 2)) → R 0 μ) (h1 : (isKw T t (kwl 0) ∨ isKw T t (kwl 1) ∨ isKw T t (kwl 2)) → R 1 μ) : wp_X8_isOwn μ R := by
  refine s_isWord (j := 0) (by omega) h7 ht ho (fun n0 => ⟨fun y => absurd rfl y, fun _ => ?_⟩) (fun y0 => ⟨fun _ => h1 (Or.inl y0), fun y => absurd y (by decide)⟩)
  refine s_isWord (j := 1) (by omega) h7 ht ho (fun n1 => ⟨fun y => absurd rfl y, fun _ => ?_⟩) (fun y1 => ⟨fun _ => h1 (Or.inr (Or.inl y1)), fun y => absurd y (by decide)⟩)
  refine s_isWord (j := 2) (by omega) h7 ht ho (fun n2 => ⟨fun _ => h0 (fun y => y.elim n0 (fun z => z.elim n1 n2)), fun y => absurd rfl y⟩) (fun y2 => ⟨fun y => absurd y (by decide), fun _ => h1 (Or.inr (Or.inr y2))⟩)
/-- what reading a code leaves -/
def cdS (T : Nat → Int) (L m : Nat) (nm : List Nat) (R : PR (Tk × Cd)) (μ : Mem) : Prop := match R with
  | Sum.inl e => flt μ e
  | Sum.inr (t, C) => m < 4 ∧ okN nm ∧ μ.2 120 m = lnI (nmW nm) ∧ μ.1 115 18 = ((m + 1 : Nat) : Int) ∧ 0 < cN C ∧ μ.1 115 7 = 0 ∧ tkS μ T t ∧ okT T L t ∧ mrow μ (8 + m) C ∧ okC C
theorem s_readCode {t : Tk} {nms : List (List Nat)} (h : tpS μ T L) (h7 : μ.1 115 7 = 0) (ht : tkS μ T t) (ho : okT T L t) (hm : nms.length ≤ 4) (h18 : μ.1 115 18 = (nms.length : Int)) (hnm : ∀ i, i < nms.length → μ.2 120 i = lnI (nmW (nms.getD i []))) (hok : ∀ l, l ∈ nms → okN l)
    (hq : ∀ μ', fC nms.length μ μ' → cdS T L nms.length (tNm T (nxT T L t)) (cdP T L nms t) μ' → Q μ') : wp_X8_readCode μ Q := by
  have hlen : ∃ m, m = nms.length := ⟨_, rfl⟩
  obtain ⟨m, em⟩ := hlen
  rw [← em] at hm h18 hq
  unfold wp_X8_readCode
  rw [h18]
  refine ⟨inR_i (by omega) (by omega), fun x1 e1 => ?_⟩
  have e1 : x1 = ((8 + m : Nat) : Int) := by omega
  subst e1
  have hR0 : cdP T L nms t = if ¬ isKw T t (kwl 0) then Sum.inl (1, tA t) else if nms.length = 4 then Sum.inl (4, tA t)
    else if ¬ tK (nxT T L t) = 1 ∨ (isKw T (nxT T L t) (kwl 0) ∨ isKw T (nxT T L t) (kwl 1) ∨ isKw T (nxT T L t) (kwl 2)) then Sum.inl (1, tA (nxT T L t))
    else if tNm T (nxT T L t) ∈ nms then Sum.inl (3, tA (nxT T L t)) else cd1 T L (nxT T L (nxT T L t)) := rfl
  refine s_isWord (j := 0) (by omega) h7 ht ho (fun hno => ⟨fun y => absurd rfl y, fun _ => ?_⟩) (fun hy => ⟨fun _ => ?_, fun y => absurd y (by decide)⟩)
  · rw [if_pos hno] at hR0
    exact s_flaw (c := 8 + m) (f := 1) h7 ht (by omega) (fun μ3 hf3 hl3 => flt_38 hl3 (hq μ3 (fC.rf.R hf3) (by rw [hR0]; exact hl3)))
  rw [if_neg (fun y => y hy)] at hR0
  rw [h18]
  refine ⟨fun q4 => ?_, fun q4 => ?_⟩
  rotate_left
  · rw [if_pos (by omega)] at hR0
    exact s_flaw (c := 8 + m) (f := 4) h7 ht (by omega) (fun μ3 hf3 hl3 => flt_38 hl3 (hq μ3 (fC.rf.R hf3) (by rw [hR0]; exact hl3)))
  rw [if_neg (by omega)] at hR0
  have hm4 : m < 4 := by omega
  refine s_goOn (p := tB t) h h7 ht.2.2.1 ho.2.1 (fun μ7 hf7 ht7 => ?_)
  have g77 : μ7.1 115 7 = 0 := by rw [hf7.2 7 (by omega) (by omega) (by omega) (by omega)]; exact h7
  have ho7 := okT_tkF T (p := tB t) ho.2.1
  have h70 := h.to hf7
  have hc7 : fC m μ μ7 := fC.rf.R hf7.fR
  have bad : cdP T L nms t = Sum.inl (1, tA (nxT T L t)) → wp_X8_readCode_64 Q ((8 + m : Nat) : Int) μ7 := fun hR => s_flaw (c := 8 + m) (f := 1) g77 ht7 (by omega) (fun μ3 hf3 hl3 => flt_71 hl3 (hq μ3 (hc7.R hf3) (by rw [hR]; exact hl3)))
  refine ⟨fun y => absurd g77 y, fun _ => ?_⟩
  rw [ht7.1]
  refine ⟨fun q => bad (by rw [hR0, if_pos (Or.inl (fun e => q (kM_1.mpr e)))]), fun q => ?_⟩
  have k1 : tK (nxT T L t) = 1 := kM_1.mp q
  refine s_isOwn g77 ht7 ho7 (fun hno => ⟨fun _ => ?_, fun y => absurd rfl y⟩) (fun hyo => ⟨fun y => absurd y (by decide), fun _ => bad (by rw [hR0, if_pos (Or.inr hyo)])⟩)
  rw [if_neg (fun y => y.elim (fun z => z k1) hno)] at hR0
  have hN := ho7.nm k1
  have e187 : μ7.1 115 18 = (m : Int) := by rw [hf7.2 18 (by omega) (by omega) (by omega) (by omega)]; exact h18
  refine LP3_rule (fun (v1 v2 : Int) (μ2 : Mem) => v1 = ((8 + m : Nat) : Int) ∧ ∃ i : Nat, v2 = (i : Int) ∧ i ≤ 4 ∧ ((μ2 = μ7 ∧ i ≤ m ∧ ∀ j, j < i → nms.getD j [] ≠ tNm T (nxT T L t)) ∨ (fC m μ μ2 ∧ flt μ2 (3, tA (nxT T L t)) ∧ cdP T L nms t = Sum.inl (3, tA (nxT T L t))))) (fun _ v2 _ => (5 - v2).toNat) ?_ ⟨rfl, 0, rfl, by omega, Or.inl ⟨rfl, Nat.zero_le _, fun j hj => absurd hj (Nat.not_lt_zero j)⟩⟩
  rintro X v1 v2 μ2 ⟨rfl, i, rfl, hi4, hcase⟩ hX
  rcases hcase with ⟨rfl, him, hne⟩ | ⟨hf2, hl2, hR2⟩
  rotate_left
  · exact ⟨fun _ => flt_111 hl2 (hq μ2 hf2 (by rw [hR2]; exact hl2)), fun y => absurd y hl2.pos.2⟩
  refine ⟨fun y => absurd g77 y, fun _ => ?_⟩
  rw [e187]
  refine ⟨fun q2 => ?_, fun q2 => ⟨by omega, ?_⟩⟩
  rotate_left
  · rw [Int.toNat_natCast, (hf7.1 120 (by omega)).2, hnm i (by omega), ht7.2.2.2.2 k1, lnI_nm (hok _ (mem_getD.mpr ⟨i, by omega, rfl⟩)) hN]
    refine ⟨fun q3 => ⟨inR_i (by omega) (by omega), hX _ _ _ ⟨rfl, i + 1, rfl, by omega, Or.inl ⟨rfl, by omega, fun j hj => ?_⟩⟩ (by omega)⟩, fun q3 => ?_⟩
    · by_cases e : j = i
      · rw [e]; exact q3
      · exact hne j (by omega)
    · have hR : cdP T L nms t = Sum.inl (3, tA (nxT T L t)) := by rw [hR0, if_pos (mem_getD.mpr ⟨i, by omega, q3⟩)]
      exact s_flaw (c := 8 + m) (f := 3) g77 ht7 (by omega) (fun μ3 hf3 hl3 => ⟨inR_i (by omega) (by omega), hX _ _ _ ⟨rfl, i + 1, rfl, by omega, Or.inr ⟨hc7.R hf3, hl3, hR⟩⟩ (by omega)⟩)
  -- a new name
  have hnew : ¬ tNm T (nxT T L t) ∈ nms := fun y => by
    obtain ⟨j, hj, e⟩ := mem_getD.mp y
    exact hne j (by omega) e
  rw [if_neg hnew] at hR0
  refine ⟨fun _ => ?_, fun y => absurd (Int.le_of_eq g77) y⟩
  rw [e187]
  refine ⟨by omega, fun μ12 e12 => ?_⟩
  rw [Int.toNat_natCast, ht7.2.2.2.2 k1] at e12
  have hc12 : fC m μ μ12 := by rw [e12]; exact hc7.n
  have n12 : μ12.2 120 m = lnI (nmW (tNm T (nxT T L t))) := by rw [e12, sL_s']
  have ht12 : tkS μ12 T (nxT T L t) := by rw [e12]; exact ⟨ht7.1, ht7.2.1, ht7.2.2.1, ht7.2.2.2.1, fun y => by rw [sL_ne (by omega)]; exact ht7.2.2.2.2 y⟩
  refine s_clears (c := 8 + m) (by omega) (fun μ13 ho13 hr13 => ?_)
  have hc13 : fC m μ μ13 := hc12.R ho13.fR
  have ht13 := ht12.o ho13
  have g713 : μ13.1 115 7 = 0 := by rw [ho13.1 115 (by omega), e12]; exact g77
  refine s_goOn (p := tB (nxT T L t)) (h.fC hc13) g713 ht13.2.2.1 ho7.2.1 (fun μ14 hf14 ht14 => ?_)
  have hc14 : fC m μ μ14 := hc13.R hf14.fR
  have g714 : μ14.1 115 7 = 0 := by rw [hf14.2 7 (by omega) (by omega) (by omega) (by omega)]; exact g713
  have ho14 := okT_tkF T (p := tB (nxT T L t)) ho7.2.1
  have hR1 : cd1 T L (nxT T L (nxT T L t)) = if ¬ isKw T (nxT T L (nxT T L t)) (kwl 1) then Sum.inl (1, tA (nxT T L (nxT T L t))) else cd2 T L (nxT T L (nxT T L (nxT T L t))) := rfl
  rw [hR1] at hR0
  refine s_isWord (j := 1) (by omega) g714 ht14 ho14 (fun hno1 => ⟨fun y => absurd rfl y, fun _ => ?_⟩) (fun hy1 => ⟨fun _ => ?_, fun y => absurd y (by decide)⟩)
  · rw [if_pos hno1] at hR0
    exact s_flaw (c := 8 + m) (f := 1) g714 ht14 (by omega) (fun μ3 hf3 hl3 => flt_155 hl3 (hq μ3 (hc14.R hf3) (by rw [hR0]; exact hl3)))
  rw [if_neg (fun y => y hy1)] at hR0
  have n14 : μ14.2 120 m = lnI (nmW (tNm T (nxT T L t))) := by rw [(hf14.1 120 (by omega)).2, ho13.2.1]; exact n12
  have e1814 : μ14.1 115 18 = (m : Int) := by rw [hf14.2 18 (by omega) (by omega) (by omega) (by omega), ho13.1 115 (by omega), e12]; exact e187
  refine s_155 (c := 8 + m) (by omega) (h.fC hc14) g714 ht14 ho14 (hr13.to (hf14.1 117 (by omega)).1) e1814 (by omega) (fun μ' e hf he hl => hq μ' (hc14.R hf) (by rw [hR0, he]; exact hl)) (fun μ' μ5 t' C' hf he hP hn' e' => hq μ' (by rw [e']; exact (hc14.R hf).e) ?_)
  rw [hR0, he]
  obtain ⟨p7, pt, po, pr, pC⟩ := hP
  refine ⟨hm4, hN, by rw [e', sI_2, hf.2.1 120 (by omega)]; exact n14, by rw [e', sI_s]; rfl, hn', by rw [e', sI_nj (by omega)]; exact p7, ?_, po, pr.to (by rw [e', sI_ne (by omega)]), pC⟩
  rw [e']
  exact ⟨by rw [sI_nj (by omega)]; exact pt.1, by rw [sI_nj (by omega)]; exact pt.2.1, by rw [sI_nj (by omega)]; exact pt.2.2.1, fun y => by rw [sI_nj (by omega)]; exact pt.2.2.2.1 y, fun y => by rw [sI_2]; exact pt.2.2.2.2 y⟩
end RR

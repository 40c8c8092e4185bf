/-! the reader of the reference: names, one code -/
theorem fold_32 : ∀ (l : List Nat) (a : Nat), l.foldl (fun v x => v * 32 + x) a = a * 32 ^ l.length + nmW l
  | [], a => by show a = a * 1 + 0; omega
  | x :: l, a => by
    have h1 := fold_32 l (a * 32 + x)
    have h2 := fold_32 l (0 * 32 + x)
    have h3 : nmW (x :: l) = l.foldl (fun v x => v * 32 + x) (0 * 32 + x) := rfl
    show l.foldl (fun v x => v * 32 + x) (a * 32 + x) = a * 32 ^ (l.length + 1) + nmW (x :: l)
    rw [h1, h3, h2, Nat.pow_succ, Nat.zero_mul, Nat.zero_add, Nat.add_mul, Nat.mul_assoc, Nat.mul_comm 32, Nat.add_assoc]
theorem nmW_c (x : Nat) (l : List Nat) : nmW (x :: l) = x * 32 ^ l.length + nmW l := by
  have h2 := fold_32 l (0 * 32 + x)
  rw [Nat.zero_mul, Nat.zero_add] at h2
  have h3 : nmW (x :: l) = l.foldl (fun v x => v * 32 + x) (0 * 32 + x) := rfl
  rw [h3, Nat.zero_mul, Nat.zero_add, h2]
def okN (l : List Nat) : Prop := (∀ x, x ∈ l → 1 ≤ x ∧ x ≤ 26) ∧ l.length ≤ 6
theorem nmW_lt : ∀ {l : List Nat}, (∀ x, x ∈ l → 1 ≤ x ∧ x ≤ 26) → nmW l < 32 ^ l.length
  | [], _ => Nat.one_pos
  | x :: l, h => by
    have h1 := nmW_lt (l := l) fun y hy => h y (List.mem_cons_of_mem _ hy)
    have hx := h x (List.mem_cons_self ..)
    rw [nmW_c, List.length_cons, Nat.pow_succ, Nat.mul_comm (32 ^ l.length)]
    exact div_add_lt (show x < 32 by omega) h1
theorem nmW_len {l l' : List Nat} (h : ∀ x, x ∈ l → 1 ≤ x ∧ x ≤ 26) (h' : ∀ x, x ∈ l' → 1 ≤ x ∧ x ≤ 26) (hl : l.length < l'.length) : nmW l < nmW l' := by
  cases l' with
  | nil => exact absurd hl (Nat.not_lt_zero _)
  | cons x l' =>
    have h1 := nmW_lt h
    have hx := (h' x (List.mem_cons_self ..)).1
    rw [nmW_c]
    rw [List.length_cons] at hl
    have h2 : 32 ^ l.length ≤ 32 ^ l'.length := Nat.pow_le_pow_right (by omega) (by omega)
    have h3 : 1 * 32 ^ l'.length ≤ x * 32 ^ l'.length := Nat.mul_le_mul_right _ hx
    omega
theorem nmW_eqlen : ∀ {l l' : List Nat}, (∀ x, x ∈ l → 1 ≤ x ∧ x ≤ 26) → (∀ x, x ∈ l' → 1 ≤ x ∧ x ≤ 26) → l.length = l'.length → nmW l = nmW l' → l = l'
  | [], [], _, _, _, _ => rfl
  | [], y :: l', _, _, h, _ => absurd h (by simp)
  | x :: l, [], _, _, h, _ => absurd h (by simp)
  | x :: l, y :: l', h, h', hl, he => by
    have hl2 : l.length = l'.length := by simpa using hl
    have b1 := nmW_lt (l := l) fun z hz => h z (List.mem_cons_of_mem _ hz)
    have b2 := nmW_lt (l := l') fun z hz => h' z (List.mem_cons_of_mem _ hz)
    rw [nmW_c, nmW_c, ← hl2] at he
    rw [← hl2] at b2
    obtain ⟨d1, m1⟩ := mul_div_mod (a := x) b1
    obtain ⟨d2, m2⟩ := mul_div_mod (a := y) b2
    rw [he] at d1 m1
    rw [show x = y from d1.symm.trans d2, nmW_eqlen (fun z hz => h z (List.mem_cons_of_mem _ hz)) (fun z hz => h' z (List.mem_cons_of_mem _ hz)) hl2 (m1.symm.trans m2)]
theorem nmW_inj {l l' : List Nat} (h : okN l) (h' : okN l') (he : nmW l = nmW l') : l = l' := by
  by_cases e : l.length = l'.length
  · exact nmW_eqlen h.1 h'.1 e he
  · by_cases e2 : l.length < l'.length
    · have := nmW_len h.1 h'.1 e2; omega
    · have := nmW_len h'.1 h.1 (by omega); omega
theorem nmW_b {l : List Nat} (h : okN l) : nmW l < 1073741824 := Nat.lt_of_lt_of_le (nmW_lt h.1) (Nat.le_trans (Nat.pow_le_pow_right (by omega) h.2) (by decide))
theorem lnI_inj {a b : Nat} (ha : a < 1073741824) (hb : b < 1073741824) : lnI a = lnI b ↔ a = b := by
  refine ⟨fun h => ?_, fun h => by rw [h]⟩
  have h2 := congrArg Int64.toInt h
  unfold lnI at h2
  rw [Int64.toInt_ofInt_of_le (by omega) (by omega), Int64.toInt_ofInt_of_le (by omega) (by omega)] at h2
  omega
theorem lnI_nm {l l' : List Nat} (h : okN l) (h' : okN l') : lcm_ (lnI (nmW l)) (lnI (nmW l')) = 0 ↔ l = l' := by
  rw [lcm_eq, lnI_inj (nmW_b h) (nmW_b h')]
  exact ⟨nmW_inj h h', fun e => by rw [e]⟩
theorem nmL_len (T : Nat → Int) (a : Nat) : ∀ n, (nmL T a n).length = n
  | 0 => rfl
  | n + 1 => by show (nmL T a n ++ [_]).length = _; rw [List.length_append, nmL_len T a n]; rfl
theorem nmL_mem {T : Nat → Int} {a : Nat} : ∀ {n x : Nat}, x ∈ nmL T a n → ∃ i, i < n ∧ x = (T (a + i) - 96).toNat
  | 0, x, h => by cases h
  | n + 1, x, h => by
    have h : x ∈ nmL T a n ++ [(T (a + n) - 96).toNat] := h
    rw [List.mem_append] at h
    rcases h with h | h
    · obtain ⟨i, hi, e⟩ := nmL_mem h
      exact ⟨i, by omega, e⟩
    · exact ⟨n, by omega, by simpa using h⟩
theorem okT.nm {T : Nat → Int} {L : Nat} {t : Tk} (h : okT T L t) (hk : tK t = 1) : okN (tNm T t) := by
  obtain ⟨h1, h2, h3⟩ := h.2.2.2.2.1 hk
  refine ⟨fun x hx => ?_, by rw [nmL_len]; exact h2⟩
  obtain ⟨i, hi, e⟩ := nmL_mem hx
  have := h3 (tA t + i) (by omega) (by omega)
  omega
def kwl (j : Nat) : List Nat := if j = 0 then kwCode else if j = 1 then kwOn else kwWeigh
def ptF (l : List Nat) : Nat → Nat
  | 0 => 0
  | i + 1 => ptF l i * 32 + l.getD i 0
theorem kw_k : ∀ j, j < 3 → slen j = ((kwl j).length : Int) ∧ ptF (kwl j) (kwl j).length = nmW (kwl j) ∧ (kwl j).length ≤ 6 ∧ (∀ x, x ∈ kwl j → 1 ≤ x ∧ x ≤ 26) ∧ ∀ i, i < (kwl j).length → schr j i = ((kwl j).getD i 0 : Int) + 96 ∧ 1 ≤ (kwl j).getD i 0 ∧ (kwl j).getD i 0 ≤ 26 := by decide +kernel
theorem kw_ok {j : Nat} (hj : j < 3) : okN (kwl j) := ⟨(kw_k j hj).2.2.2.1, (kw_k j hj).2.2.1⟩
section RR
variable {μ : Mem} {T : Nat → Int} {L : Nat} {c : Nat}
theorem s_wordOf {j : Nat} {Q : Int64 → Mem → Prop} (hj : j < 3) (hq : Q (lnI (nmW (kwl j))) μ) : wp_X8_wordOf j μ Q := by
  obtain ⟨h1, h2, h3, -, h4⟩ := kw_k j hj
  refine LP4_rule (fun (v0 : Nat) (v1 : Int64) (v3 : Int) (μ2 : Mem) => v0 = j ∧ μ2 = μ ∧ ∃ i : Nat, v3 = (i : Int) ∧ i ≤ (kwl j).length ∧ v1 = lnI (ptF (kwl j) i)) (fun _ _ v3 _ => (((kwl j).length : Int) - v3).toNat) ?_ ⟨rfl, rfl, 0, rfl, Nat.zero_le _, rfl⟩
  rintro X v0 v1 v3 μ2 ⟨rfl, rfl, i, rfl, hi, rfl⟩ hX
  unfold wp_X8_wordOf_4
  rw [h1]
  refine ⟨fun q => ?_, fun q => ⟨by omega, fun y3 e3 => ⟨inR_i (by omega) (by omega), hX _ _ _ _ ⟨rfl, rfl, i + 1, rfl, by omega, ?_⟩ (by omega)⟩⟩⟩
  · have e : i = (kwl v0).length := by omega
    subst e
    rw [h2]; exact hq
  · obtain ⟨c1, c2, c3⟩ := h4 i (by omega)
    rw [e3, c1, ln_step (by omega) (by omega)]
    show _ = lnI (ptF (kwl v0) i * 32 + (kwl v0).getD i 0)
    congr 2
    omega
theorem s_isWord {j : Nat} {t : Tk} {Q : Int → Mem → Prop} (hj : j < 3) (h7 : μ.1 115 7 = 0) (ht : tkS μ T t) (ho : okT T L t) (h0 : ¬ isKw T t (kwl j) → Q 0 μ) (h1 : isKw T t (kwl j) → Q 1 μ) : wp_X8_isWord j μ Q := by
  refine ⟨fun x => absurd h7 x, fun _ => ?_⟩
  rw [ht.1]
  refine ⟨fun q => h0 (fun y => q (kM_1.mpr y.1)), fun q => ?_⟩
  have k1 := kM_1.mp q
  refine s_wordOf hj ?_
  rw [ht.2.2.2.2 k1, lnI_nm (ho.nm k1) (kw_ok hj)]
  exact ⟨fun q2 => h0 (fun y => q2 y.2), fun q2 => h1 ⟨k1, q2⟩⟩
theorem s_isWord_f {j : Nat} {e : Nat × Nat} {Q : Int → Mem → Prop} (hl : flt μ e) (h0 : Q 0 μ) : wp_X8_isWord j μ Q := ⟨fun _ => h0, fun x => absurd x hl.pos.2⟩
theorem s_isSign {v : Int} {t : Tk} {Q : Int → Mem → Prop} (h7 : μ.1 115 7 = 0) (ht : tkS μ T t) (h0 : ¬ isSg T t v → Q 0 μ) (h1 : isSg T t v → Q 1 μ) : wp_X8_isSign v μ Q := by
  refine ⟨fun x => absurd h7 x, fun _ => ?_⟩
  rw [ht.1]
  refine ⟨fun q => h0 (fun y => q (kM_3.mpr y.1)), fun q => ?_⟩
  have k3 := kM_3.mp q
  rw [ht.2.2.2.1 k3]
  exact ⟨fun q2 => h0 (fun y => q2 y.2), fun q2 => h1 ⟨k3, q2⟩⟩
theorem s_isSign_f {v : Int} {e : Nat × Nat} {Q : Int → Mem → Prop} (hl : flt μ e) (h0 : Q 0 μ) : wp_X8_isSign v μ Q := ⟨fun _ => h0, fun x => absurd x hl.pos.2⟩
end RR
def isOw (T : Nat → Int) (t : Tk) : Prop := isKw T t (kwl 0) ∨ isKw T t (kwl 1) ∨ isKw T t (kwl 2)
def cd4 (T : Nat → Int) (L : Nat) (t : Tk) (C : Cd) : PR (Tk × Cd) := if ¬ isSg T t 58 then Sum.inl (1, tA t) else wsP T L 601 (nxT T L t) C
def cd3 (T : Nat → Int) (L : Nat) (t : Tk) (C : Cd) : PR (Tk × Cd) := if isKw T t (kwl 2) then (match wtP T L (cN C) 0 (nxT T L t) C with
    | Sum.inl e => Sum.inl e
    | Sum.inr (t5, C5) => cd4 T L t5 C5) else cd4 T L t C
def cd2 (T : Nat → Int) (L : Nat) (t : Tk) : PR (Tk × Cd) := match szP T L 9 t C0 with
  | Sum.inl e => Sum.inl e
  | Sum.inr (t4, C4) => cd3 T L t4 C4
def cd1 (T : Nat → Int) (L : Nat) (t2 : Tk) : PR (Tk × Cd) := if ¬ isKw T t2 (kwl 1) then Sum.inl (1, tA t2) else cd2 T L (nxT T L t2)
def cdP (T : Nat → Int) (L : Nat) (nms : List (List Nat)) (t : Tk) : PR (Tk × Cd) := if ¬ isKw T t (kwl 0) then Sum.inl (1, tA t) else if nms.length = 4 then Sum.inl (4, tA t)
  else if ¬ tK (nxT T L t) = 1 ∨ (isKw T (nxT T L t) (kwl 0) ∨ isKw T (nxT T L t) (kwl 1) ∨ isKw T (nxT T L t) (kwl 2)) then Sum.inl (1, tA (nxT T L t))
  else if tNm T (nxT T L t) ∈ nms then Sum.inl (3, tA (nxT T L t)) else cd1 T L (nxT T L (nxT T L t))
section RR
variable {μ : Mem} {Q : Mem → Prop} {T : Nat → Int} {L : Nat} {c : Nat}
theorem wdP_in {t t' : Tk} {C C' : Cd} (h : wdP T L t C = Sum.inr (t', C')) : tK t = 2 ∧ t' = nxT T L t ∧ cN C' = cN C := by
  unfold wdP at h
  split at h
  · cases h
  · rename_i hk
    split at h
    · cases h
    · split at h
      · cases h
      · cases h
        exact ⟨by simpa using hk, rfl, rfl⟩
/-- the codewords -/
theorem s_words_r {t : Tk} {C : Cd} (hc : c < 14) (h : tpS μ T L) (h7 : μ.1 115 7 = 0) (ht : tkS μ T t) (ho : okT T L t) (hr : mrow μ c C) (hC : okC C) (hn : 0 < cN C) {m : Nat} (h18 : μ.1 115 18 = (m : Int)) (hm : m ≤ 4)
    (hq0 : ∀ μ' e, fR c μ μ' → wsP T L 601 t C = Sum.inl e → flt μ' e → Q μ')
    (hq1 : ∀ μ' μ2 t' C', fR c μ μ2 → wsP T L 601 t C = Sum.inr (t', C') → rdP T L c (Sum.inr (t', C')) μ2 → μ' = sI μ2 115 18 ((m : Int) + 1) → Q μ') : wp_X8_readWord c μ (fun μ29 => LP2 (wp_X8_readCode_217 Q) c μ29) := by
  have h600 := h.2.1
  refine s_readWord hc h h7 ht ho hr hC hn (fun μ1 hf1 hP1 => ?_)
  have hU : wsP T L 601 t C = (match wdP T L t C with
    | Sum.inl e => Sum.inl e
    | Sum.inr (t', C') => if isSg T t' 44 then wsP T L 600 (nxT T L t') C' else Sum.inr (t', C')) := rfl
  refine LP2_gh (n := 600) (fun (k : Nat) (v1 : Int) (μ2 : Mem) => v1 = (c : Int) ∧ fR c μ μ2 ∧ ((∃ e, wsP T L 601 t C = Sum.inl e ∧ flt μ2 e) ∨ (∃ t2 C2, rdP T L c (Sum.inr (t2, C2)) μ2 ∧ 0 < cN C2 ∧ L < k + tB t2 ∧ wsP T L 601 t C = if isSg T t2 44 then wsP T L k (nxT T L t2) C2 else Sum.inr (t2, C2)))) ?_ ⟨rfl, hf1, ?_⟩
  rotate_left
  · rcases hw : wdP T L t C with e | ⟨t2, C2⟩
    · rw [hw] at hP1 hU
      exact Or.inl ⟨e, hU, hP1⟩
    · rw [hw] at hP1 hU
      obtain ⟨k2, e2, en⟩ := wdP_in hw
      refine Or.inr ⟨t2, C2, hP1, by omega, ?_, hU⟩
      have a1 := (ho.2.2.2.1 k2).1
      have a2 := tkF_ge T (L := L) (p := tB t) ho.2.1
      have a3 : okT T L t2 := hP1.2.2.1
      have a4 := a3.1
      have a5 : tB t ≤ tA t2 := by rw [e2]; exact a2
      omega
  rintro X k v1 μ2 ⟨rfl, hf2, hcase⟩ hX
  have e18 : μ2.1 115 18 = (m : Int) := by rw [hf2.2.2.1 18 (by omega)]; exact h18
  rcases hcase with ⟨e, he, hl⟩ | ⟨t2, C2, hP, hn2, hk, hS⟩
  · exact s_isSign_f hl ⟨fun _ => ⟨fun _ => hq0 μ2 e hf2 he hl, fun x => absurd x hl.pos.2⟩, fun x => absurd rfl x⟩
  · obtain ⟨g7, gt, go, gr, gC⟩ := hP
    refine s_isSign g7 gt (fun hno => ⟨fun _ => ⟨fun x => absurd g7 x, fun _ => ?_⟩, fun x => absurd rfl x⟩) (fun hy => ⟨fun x => absurd x (by decide), fun _ => ?_⟩)
    · rw [if_neg hno] at hS
      rw [e18]
      exact ⟨inR_i (by omega) (by omega), fun μ35 e35 => hq1 μ35 μ2 t2 C2 hf2 hS ⟨g7, gt, go, gr, gC⟩ e35⟩
    · rw [if_pos hy] at hS
      have b0 := go.2.1
      obtain ⟨k', rfl⟩ : ∃ k', k = k' + 1 := ⟨k - 1, by omega⟩
      have hU2 : wsP T L (k' + 1) (nxT T L t2) C2 = (match wdP T L (nxT T L t2) C2 with
        | Sum.inl e => Sum.inl e
        | Sum.inr (t', C') => if isSg T t' 44 then wsP T L k' (nxT T L t') C' else Sum.inr (t', C')) := rfl
      rw [hU2] at hS
      refine s_goOn (p := tB t2) (h.fR hf2) g7 gt.2.2.1 go.2.1 (fun μ3 hf3 ht3 => ?_)
      have ho3 := okT_tkF T (p := tB t2) go.2.1
      have g73 : μ3.1 115 7 = 0 := by rw [hf3.2 7 (by omega) (by omega) (by omega) (by omega)]; exact g7
      have hf03 : fR c μ μ3 := hf2.tr hf3.fR
      refine s_readWord hc (h.fR hf03) g73 ht3 ho3 (gr.to (hf3.1 117 (by omega)).1) gC hn2 (fun μ4 hf4 hP4 => hX k' _ _ (Nat.lt_succ_self _) ⟨rfl, hf03.tr hf4, ?_⟩)
      rcases hw : wdP T L (nxT T L t2) C2 with e | ⟨t4, C4⟩
      · rw [hw] at hP4 hS
        exact Or.inl ⟨e, hS, hP4⟩
      · rw [hw] at hP4 hS
        obtain ⟨k2, e2, en⟩ := wdP_in hw
        refine Or.inr ⟨t4, C4, hP4, by omega, ?_, hS⟩
        have a0 := tkF_ge T (L := L) (p := tB t2) go.2.1
        have a1 := (ho3.2.2.2.1 k2).1
        have a2 := tkF_ge T (L := L) (p := tB (nxT T L t2)) ho3.2.1
        have a3 : okT T L t4 := hP4.2.2.1
        have a4 := a3.1
        have a5 : tB (tkF T L (tB t2)) ≤ tA t4 := by rw [e2]; exact a2
        omega
end RR

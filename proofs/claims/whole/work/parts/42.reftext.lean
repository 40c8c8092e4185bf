/-! text of the reference -/
abbrev Ac : Type := List (List Nat × Cd)
def acD (acc : Ac) (i : Nat) : List Nat × Cd := acc.getD i ([], C0)
theorem acD_l {acc : Ac} {x : List Nat × Cd} {i : Nat} (h : i < acc.length) : acD (acc ++ [x]) i = acD acc i := by
  unfold acD
  rw [List.getD_eq_getElem?_getD, List.getD_eq_getElem?_getD, List.getElem?_append_left h]
theorem acD_r {acc : Ac} {x : List Nat × Cd} : acD (acc ++ [x]) acc.length = x := by
  unfold acD
  rw [List.getD_eq_getElem?_getD, List.getElem?_append_right (Nat.le_refl _), Nat.sub_self]
  rfl
theorem acD_m {acc : Ac} {i : Nat} (h : i < acc.length) : (acc.map (fun a => a.1)).getD i [] = (acD acc i).1 := by
  unfold acD
  rw [List.getD_eq_getElem?_getD, List.getD_eq_getElem?_getD, List.getElem?_map, List.getElem?_eq_getElem h]
  rfl
def txP (T : Nat → Int) (L : Nat) : Nat → Tk → Ac → PR Ac
  | 0, t, _ => Sum.inl (1, tA t)
  | n + 1, t, acc => match cdP T L (acc.map (fun a => a.1)) t with
    | Sum.inl e => Sum.inl e
    | Sum.inr (t', C) => if isSg T t' 59 then txP T L n (nxT T L t') (acc ++ [(tNm T (nxT T L t), C)]) else if tK t' = 0 then Sum.inr (acc ++ [(tNm T (nxT T L t), C)]) else Sum.inl (1, tA t')
def trF (T : Nat → Int) (L : Nat) : PR Ac := txP T L 5 (tkF T L 0) []
def csA (acc : Ac) (c : Nat) : Cd := if c < acc.length then (acD acc c).2 else C0
/-- the names that stand -/
def mN (μ : Mem) (nl : List (List Nat)) : Prop := μ.1 115 17 = (nl.length : Int) ∧ nl.length ≤ 4 ∧ ∀ i, i < nl.length → μ.2 119 i = lnI (nmW (nl.getD i [])) ∧ okN (nl.getD i [])
def mT (μ : Mem) (T : Nat → Int) (n : Nat) : Prop := μ.1 115 4 = (n : Int) ∧ n ≤ 600 ∧ ∀ j, j < n → μ.1 116 j = T j
/-- what has been read -/
def acS (μ : Mem) (acc : Ac) : Prop := μ.1 115 18 = (acc.length : Int) ∧ ∀ i, i < acc.length → μ.2 120 i = lnI (nmW (acD acc i).1) ∧ okN (acD acc i).1 ∧ mrow μ (8 + i) (acD acc i).2 ∧ okC (acD acc i).2 ∧ 0 < cN (acD acc i).2
def fT (μ μ' : Mem) : Prop := (∀ k, k ≠ 115 → k ≠ 117 → μ'.1 k = μ.1 k) ∧ (∀ k, k ≠ 115 → k ≠ 120 → μ'.2 k = μ.2 k) ∧ (∀ j, (j < 4 ∨ 11 < j) → j ≠ 18 → μ'.1 115 j = μ.1 115 j) ∧ (∀ j, j < 2184 → μ'.1 117 j = μ.1 117 j) ∧ μ'.1 115 4 = μ.1 115 4 ∧ μ'.1 115 5 = μ.1 115 5
theorem fT.rf {μ : Mem} : fT μ μ := ⟨fun _ _ _ => rfl, fun _ _ _ => rfl, fun _ _ _ => rfl, fun _ _ => rfl, rfl, rfl⟩
theorem fT.tr {μ μ' μ'' : Mem} (h : fT μ μ') (h2 : fT μ' μ'') : fT μ μ'' := ⟨fun k a b => (h2.1 k a b).trans (h.1 k a b), fun k a b => (h2.2.1 k a b).trans (h.2.1 k a b), fun j a b => (h2.2.2.1 j a b).trans (h.2.2.1 j a b), fun j a => (h2.2.2.2.1 j a).trans (h.2.2.2.1 j a), h2.2.2.2.2.1.trans h.2.2.2.2.1, h2.2.2.2.2.2.trans h.2.2.2.2.2⟩
theorem fC.fT {m : Nat} {μ μ' : Mem} (h : fC m μ μ') : fT μ μ' := ⟨h.1, h.2.1, fun j a b => h.2.2.2.1 j (by omega) b, fun j a => h.2.2.2.2 j (by omega), h.2.2.2.1 4 (by omega) (by omega), h.2.2.2.1 5 (by omega) (by omega)⟩
theorem fG.fT {μ μ' : Mem} (h : fG μ μ') : fT μ μ' := ⟨fun k a _ => (h.1 k a).1, fun k a _ => (h.1 k a).2, fun j a b => h.2 j (by omega) (by omega) (by omega) (by omega), fun j _ => by rw [(h.1 117 (by omega)).1], h.2 4 (by omega) (by omega) (by omega) (by omega), h.2 5 (by omega) (by omega) (by omega) (by omega)⟩
theorem fR12.fT {μ μ' : Mem} (h : fR 12 μ μ') : fT μ μ' := ⟨h.1, fun k a _ => h.2.1 k a, fun j a _ => h.2.2.1 j (by omega), fun j a => h.2.2.2 j (by omega), h.2.2.1 4 (by omega), h.2.2.1 5 (by omega)⟩
theorem tpS.fT {μ μ' : Mem} {T : Nat → Int} {L : Nat} (h : tpS μ T L) (hf : fT μ μ') : tpS μ' T L := ⟨by rw [hf.2.2.2.2.2]; exact h.1, h.2.1, by rw [hf.1 116 (by omega) (by omega)]; exact h.2.2⟩
theorem acS.G {μ μ' : Mem} {acc : Ac} (h : acS μ acc) (hf : fG μ μ') : acS μ' acc := ⟨by rw [hf.2 18 (by omega) (by omega) (by omega) (by omega)]; exact h.1, fun i hi => ⟨by rw [(hf.1 120 (by omega)).2]; exact (h.2 i hi).1, (h.2 i hi).2.1, (h.2 i hi).2.2.1.to (hf.1 117 (by omega)).1, (h.2 i hi).2.2.2⟩⟩
section RR
variable {μ : Mem} {Q : Int → Mem → Prop} {T : Nat → Int} {L : Nat}
/-- one code more -/
theorem acS.add {μ' : Mem} {acc : Ac} {t t' : Tk} {nm : List Nat} {C : Cd} (h : acS μ acc) (hf : fC acc.length μ μ') (hs : cdS T L acc.length nm (Sum.inr (t', C)) μ') : acS μ' (acc ++ [(nm, C)]) := by
  obtain ⟨a1, a2, a3, a4, a5, a6, a7, a8, a9, a10⟩ := hs
  have hl : (acc ++ [(nm, C)]).length = acc.length + 1 := by rw [List.length_append]; rfl
  refine ⟨by rw [hl]; exact a4, fun i hi => ?_⟩
  rw [hl] at hi
  by_cases e : i = acc.length
  · rw [e, acD_r]; exact ⟨a3, a2, a9, a10, a5⟩
  · have hi2 : i < acc.length := by omega
    rw [acD_l hi2]
    obtain ⟨b1, b2, b3, b4, b5⟩ := h.2 i hi2
    exact ⟨by rw [hf.2.2.1 i e]; exact b1, b2, rowOf.to b3 b4.1 (fun k h1 h2 => hf.2.2.2.2 k (by omega)), b4, b5⟩
/-- reading a code, into what has been read -/
theorem s_readCodeA {t : Tk} {acc : Ac} {Q : Mem → Prop} (h : tpS μ T L) (h7 : μ.1 115 7 = 0) (ht : tkS μ T t) (ho : okT T L t) (ha : acS μ acc) (h4 : acc.length ≤ 4)
    (hq : ∀ μ', fT μ μ' → (match cdP T L (acc.map (fun a => a.1)) t with
      | Sum.inl e => flt μ' e
      | Sum.inr (t', C) => acc.length < 4 ∧ μ'.1 115 7 = 0 ∧ tkS μ' T t' ∧ okT T L t' ∧ acS μ' (acc ++ [(tNm T (nxT T L t), C)])) → Q μ') : wp_X8_readCode μ Q := by
  have hl : (acc.map (fun a => a.1)).length = acc.length := List.length_map ..
  refine s_readCode (nms := acc.map (fun a => a.1)) h h7 ht ho (by rw [hl]; exact h4) (by rw [hl]; exact ha.1) (fun i hi => ?_) (fun l hm => ?_) (fun μ' hf hs => hq μ' hf.fT ?_)
  · rw [hl] at hi
    rw [acD_m hi]; exact (ha.2 i hi).1
  · obtain ⟨i, hi, e⟩ := mem_getD.mp hm
    rw [hl] at hi
    rw [acD_m hi] at e
    rw [← e]; exact (ha.2 i hi).2.1
  · rw [hl] at hf hs
    rcases hR : cdP T L (acc.map (fun a => a.1)) t with e | ⟨t', C⟩
    · rw [hR] at hs ⊢; exact hs
    · rw [hR] at hs ⊢
      exact ⟨hs.1, hs.2.2.2.2.2.1, hs.2.2.2.2.2.2.1, hs.2.2.2.2.2.2.2.1, ha.add (t := t) hf hs⟩
/-- what a text leaves -/
def txQ (Q : Int → Mem → Prop) (μ : Mem) (T : Nat → Int) (n : Nat) (cs : Nat → Cd) (hs : List (Nat → Cd)) (nl : List (List Nat)) (p : Int) : Prop := ∀ μ' : Mem, (∀ k, k < 115 ∨ 125 ≤ k → μ'.1 k = μ.1 k ∧ μ'.2 k = μ.2 k) → μ'.1 115 0 = 0 →
  ((¬ (0 ≤ p ∧ p ≤ (n : Int)) → mrs μ' cs → mhs μ' hs → mN μ' nl → mT μ' T n → μ'.1 115 7 = μ.1 115 7 → μ'.1 115 1 = 2 → μ'.1 115 2 = -1 → Q (-1) μ') ∧
   (∀ e, 0 ≤ p → p ≤ (n : Int) → trF T p.toNat = Sum.inl e → mrs μ' cs → mhs μ' hs → mN μ' nl → mT μ' T 0 → μ'.1 115 7 = (e.1 : Int) → μ'.1 115 1 = 4 → μ'.1 115 2 = (e.2 : Int) → Q (-1) μ') ∧
   (∀ acc, 0 ≤ p → p ≤ (n : Int) → trF T p.toNat = Sum.inr acc → mrs μ' (csA acc) → mhs μ' [] → mN μ' (acc.map (fun a => a.1)) → mT μ' T 0 → μ'.1 115 7 = 0 → μ'.1 115 1 = 0 → μ'.1 115 2 = -1 → Q (acc.length : Int) μ'))
theorem csA_row {μ' : Mem} {acc : Ac} (h : ∀ c, c < 8 → mrow μ' c (csA acc c)) (ha : ∀ i, i < acc.length → okC (acD acc i).2) : mrs μ' (csA acc) := fun c hc => ⟨h c hc, by
  unfold csA
  split
  · rename_i q; exact ha c q
  · exact okC_0⟩
/-- the codes are handed out -/
theorem s_hand {acc : Ac} (ha : acS μ acc) (h4 : acc.length ≤ 4)
    (hq : ∀ μ', (∀ k, k ≠ 115 → k ≠ 117 → μ'.1 k = μ.1 k) → (∀ k, k ≠ 119 → μ'.2 k = μ.2 k) → (∀ j, j ≠ 1 → j ≠ 2 → j ≠ 17 → j ≠ 19 → μ'.1 115 j = μ.1 115 j) → mrs μ' (csA acc) → mhs μ' [] → mN μ' (acc.map (fun a => a.1)) → μ'.1 115 1 = 0 → μ'.1 115 2 = -1 → Q (acc.length : Int) μ') : LP2 (wp_X8_text_120 Q) 0 μ := by
  have hml : (acc.map (fun a => a.1)).length = acc.length := List.length_map ..
  refine LP2_rule (fun (v2 : Int) (μ2 : Mem) => (∀ k, k ≠ 117 → μ2.1 k = μ.1 k) ∧ μ2.2 = μ.2 ∧ (∀ j, 2184 ≤ j → μ2.1 117 j = μ.1 117 j) ∧ ∃ i : Nat, v2 = (i : Int) ∧ i ≤ 8 ∧ ∀ c, c < i → mrow μ2 c C0) (fun v2 _ => (8 - v2).toNat) ?_ ⟨fun _ _ => rfl, rfl, fun _ _ => rfl, 0, rfl, by omega, fun c hc => absurd hc (Nat.not_lt_zero c)⟩
  rintro X v2 μ2 ⟨hk2, hL2, hr2, i, rfl, hi, hz⟩ hX
  refine ⟨fun q => ?_, fun q => ?_⟩
  rotate_left
  · refine s_clears (c := i) (by omega) (fun μ3 ho3 hr3 => ⟨inR_i (by omega) (by omega), hX _ _ ⟨fun k hk => (ho3.1 k hk).trans (hk2 k hk), ho3.2.1.trans hL2, fun j hj => (ho3.2.2 j (by omega)).trans (hr2 j hj), i + 1, rfl, by omega, fun c hc => ?_⟩ (by omega)⟩)
    by_cases e : c = i
    · rw [e]; exact hr3
    · exact ho3.row e okC_0.1 (hz c (by omega))
  have ei : i = 8 := by omega
  subst ei
  have h18 : ∀ μ' : Mem, (∀ k, k ≠ 117 → μ'.1 k = μ.1 k) → μ'.1 115 18 = (acc.length : Int) := fun μ' h => by rw [h 115 (by omega)]; exact ha.1
  refine LP2_rule (fun (v2 : Int) (μ3 : Mem) => (∀ k, k ≠ 117 → μ3.1 k = μ.1 k) ∧ (∀ k, k ≠ 119 → μ3.2 k = μ.2 k) ∧ (∀ j, 2184 ≤ j → μ3.1 117 j = μ.1 117 j) ∧ ∃ i : Nat, v2 = (i : Int) ∧ i ≤ acc.length ∧ (∀ c, c < 8 → mrow μ3 c (if c < i then (acD acc c).2 else C0)) ∧ ∀ c, c < i → μ3.2 119 c = lnI (nmW (acD acc c).1)) (fun v2 _ => ((acc.length : Int) - v2).toNat) ?_ ⟨hk2, fun k _ => by rw [hL2], hr2, 0, rfl, Nat.zero_le _, fun c hc => by rw [if_neg (Nat.not_lt_zero c)]; exact hz c hc, fun c hc => absurd hc (Nat.not_lt_zero c)⟩
  rintro X3 v2 μ3 ⟨hk3, hL3, hr3, j, rfl, hj, hrow, hnam⟩ hX3
  unfold wp_X8_text_139
  rw [h18 μ3 hk3]
  refine ⟨fun q2 => ?_, fun q2 => ⟨inR_i (by omega) (by omega), ?_⟩⟩
  · have ej : j = acc.length := by omega
    subst ej
    intro μ19 e19 μ20 e20
    have e2018 : μ20.1 115 18 = (acc.length : Int) := by rw [e20, sI_nj (by omega), e19, sI_nj (by omega)]; exact h18 μ3 hk3
    rw [e2018]
    rintro μ4 rfl μ5 rfl
    have L5 : ∀ k, (sI (sI μ20 115 1 0) 115 2 (-1)).2 k = μ3.2 k := fun k => by rw [sI_2, sI_2, e20, sI_2, e19, sI_2]
    have I117 : (sI (sI μ20 115 1 0) 115 2 (-1)).1 117 = μ3.1 117 := by rw [sI_ne (by omega), sI_ne (by omega), e20, sI_ne (by omega), e19, sI_ne (by omega)]
    refine hq _ (fun k a b => by rw [sI_ne a, sI_ne a, e20, sI_ne a, e19, sI_ne a]; exact hk3 k b) (fun k a => by rw [L5]; exact hL3 k a) (fun i a b c d => by rw [sI_nj b, sI_nj a, e20, sI_nj d, e19, sI_nj c, hk3 115 (by omega)]) (csA_row (fun c hc => (hrow c hc).to I117) (fun i hi => (ha.2 i hi).2.2.2.1)) ⟨by rw [sI_nj (by omega), sI_nj (by omega), e20, sI_s]; rfl, Nat.zero_le _, fun i hi => absurd hi (Nat.not_lt_zero i)⟩ ⟨by rw [hml, sI_nj (by omega), sI_nj (by omega), e20, sI_nj (by omega), e19, sI_s], by rw [hml]; exact h4, fun i hi => ?_⟩ (by rw [sI_nj (by omega), sI_s]) (by rw [sI_s])
    rw [hml] at hi
    rw [acD_m hi, L5]
    exact ⟨hnam i hi, (ha.2 i hi).2.1⟩
  · rw [show 8 + (j : Int) = ((8 + j : Nat) : Int) by omega]
    obtain ⟨b1, b2, b3, b4, b5⟩ := ha.2 j (by omega)
    have hr8 : mrow μ3 (8 + j) (acD acc j).2 := rowOf.to b3 b4.1 (fun k h1 h2 => hr3 k (by omega))
    refine s_copies_row (c := 8 + j) (d := j) (by omega) (by omega) hr8 b4.1 (fun μ4 ho4 hr4 => ⟨by omega, fun μ26 e26 => ?_⟩)
    rw [Int.toNat_natCast] at e26
    have e120 : μ4.2 120 j = lnI (nmW (acD acc j).1) := by rw [ho4.2.1, hL3 120 (by omega)]; exact b1
    rw [e120] at e26
    refine ⟨inR_i (by omega) (by omega), hX3 _ _ ⟨fun k hk => by rw [e26]; exact (ho4.1 k hk).trans (hk3 k hk), fun k hk => by rw [e26, sL_ne hk, ho4.2.1]; exact hL3 k hk, fun i hi => by rw [e26]; exact (ho4.2.2 i (by omega)).trans (hr3 i hi), j + 1, rfl, by omega, fun c hc => ?_, fun c hc => ?_⟩ (by omega)⟩
    · rw [e26]
      by_cases e : c = j
      · rw [e, if_pos (Nat.lt_succ_self j)]; exact hr4
      · have h1 := hrow c hc
        rw [show (if c < j + 1 then (acD acc c).2 else C0) = (if c < j then (acD acc c).2 else C0) by
          by_cases l : c < j
          · rw [if_pos l, if_pos (by omega)]
          · rw [if_neg l, if_neg (by omega)]]
        refine ho4.row e ?_ h1
        split
        · rename_i l; exact (ha.2 c (by omega)).2.2.2.1.1
        · exact okC_0.1
    · by_cases e : c = j
      · rw [e, e26, sL_s']
      · rw [e26, sL_nj e, ho4.2.1]; exact hnam c (by omega)
theorem mtr_end {μ2 : Mem} {t : Int} : (sI (sI μ2 115 1 t) 115 2 (-1)).1 115 1 = t ∧ (sI (sI μ2 115 1 t) 115 2 (-1)).1 115 2 = -1 := ⟨by rw [sI_nj (by omega), sI_s], sI_s⟩
theorem s8_text {n : Nat} {cs : Nat → Cd} {hs : List (Nat → Cd)} {nl : List (List Nat)} {p : Int} (hR : mrs μ cs) (hH : mhs μ hs) (hN : mN μ nl) (hT : mT μ T n) (HQ : txQ Q μ T n cs hs nl p) : wp_X8_text p μ Q := by
  intro μ1 e1
  have a4 : μ1.1 115 4 = (n : Int) := by rw [e1, sI_nj (by omega)]; exact hT.1
  rw [a4]
  refine c_in (fun hno => B0 ?_) (fun hy => B1 ?_)
  · rintro μ3 rfl μ4 rfl
    have hq : ∀ j, j ≠ 0 → j ≠ 1 → j ≠ 2 → (sI (sI μ1 115 1 2) 115 2 (-1)).1 115 j = μ.1 115 j := fun j a b c => by rw [sI_nj c, sI_nj b, e1, sI_nj a]
    have hk : ∀ k, k ≠ 115 → (sI (sI μ1 115 1 2) 115 2 (-1)).1 k = μ.1 k := fun k a => by rw [sI_ne a, sI_ne a, e1, sI_ne a]
    have hL : (sI (sI μ1 115 1 2) 115 2 (-1)).2 = μ.2 := by rw [sI_2, sI_2, e1, sI_2]
    refine (HQ _ (fun k a => ⟨hk k (by omega), by rw [hL]⟩) (by rw [sI_nj (by omega), sI_nj (by omega), e1, sI_s])).1 hno (fun c hc => ⟨(hR c hc).1.to (hk 117 (by omega)), (hR c hc).2⟩) (hH.to (hk 118 (by omega)) (hq 19 (by omega) (by omega) (by omega))) ⟨by rw [hq 17 (by omega) (by omega) (by omega)]; exact hN.1, hN.2.1, by rw [hL]; exact hN.2.2⟩ ⟨by rw [hq 4 (by omega) (by omega) (by omega)]; exact hT.1, hT.2.1, by rw [hk 116 (by omega)]; exact hT.2.2⟩ (hq 7 (by omega) (by omega) (by omega)) mtr_end.1 mtr_end.2
  obtain ⟨L, rfl⟩ := Int.eq_ofNat_of_zero_le hy.1
  have hLn : L ≤ n := by omega
  have h600 := hT.2.1
  intro μ5 e5 μ6 e6 μ7 e7 μ8 e8 μ9 e9
  have s9 : ∀ j, ¬ (4 ≤ j ∧ j ≤ 7) → j ≠ 18 → j ≠ 0 → μ9.1 115 j = μ.1 115 j := fun j a b c => by rw [e9, sI_nj b, e8, sI_nj (by omega), e7, sI_nj (by omega), e6, sI_nj (by omega), e5, sI_nj (by omega), e1, sI_nj c]
  have k9 : ∀ k, k ≠ 115 → μ9.1 k = μ.1 k := fun k a => by rw [e9, sI_ne a, e8, sI_ne a, e7, sI_ne a, e6, sI_ne a, e5, sI_ne a, e1, sI_ne a]
  have L9 : μ9.2 = μ.2 := by rw [e9, e8, e7, e6, e5, e1]; rfl
  have b0 : μ9.1 115 0 = 0 := by rw [e9, sI_nj (by omega), e8, sI_nj (by omega), e7, sI_nj (by omega), e6, sI_nj (by omega), e5, sI_nj (by omega), e1, sI_s]
  have b5 : μ9.1 115 5 = (L : Int) := by rw [e9, sI_nj (by omega), e8, sI_nj (by omega), e7, sI_nj (by omega), e6, sI_nj (by omega), e5, sI_s]
  have b4 : μ9.1 115 4 = 0 := by rw [e9, sI_nj (by omega), e8, sI_nj (by omega), e7, sI_nj (by omega), e6, sI_s]
  have b6 : μ9.1 115 6 = ((0 : Nat) : Int) := by rw [e9, sI_nj (by omega), e8, sI_nj (by omega), e7, sI_s]; rfl
  have b7 : μ9.1 115 7 = 0 := by rw [e9, sI_nj (by omega), e8, sI_s]
  have b18 : μ9.1 115 18 = 0 := by rw [e9, sI_s]
  have ht9 : tpS μ9 T L := ⟨b5, by omega, fun j hj => by rw [k9 116 (by omega)]; exact hT.2.2 j (by omega)⟩
  clear e5 e6 e7 e8 e9
  -- what a fault leaves, what a good text leaves
  have old : ∀ μ', fT μ9 μ' → mrs μ' cs ∧ mhs μ' hs ∧ mN μ' nl ∧ mT μ' T 0 ∧ μ'.1 115 0 = 0 ∧ ∀ k, k < 115 ∨ 125 ≤ k → μ'.1 k = μ.1 k ∧ μ'.2 k = μ.2 k := fun μ' hf =>
    ⟨fun c hc => ⟨rowOf.to (hR c hc).1 (hR c hc).2.1 (fun k h1 h2 => by rw [hf.2.2.2.1 k (by omega), k9 117 (by omega)]), (hR c hc).2⟩, hH.to ((hf.1 118 (by omega) (by omega)).trans (k9 118 (by omega))) ((hf.2.2.1 19 (by omega) (by omega)).trans (s9 19 (by omega) (by omega) (by omega))),
     ⟨((hf.2.2.1 17 (by omega) (by omega)).trans (s9 17 (by omega) (by omega) (by omega))).trans hN.1, hN.2.1, by rw [hf.2.1 119 (by omega) (by omega), L9]; exact hN.2.2⟩, ⟨by rw [hf.2.2.2.2.1]; exact b4, by omega, fun j hj => absurd hj (Nat.not_lt_zero j)⟩, by rw [hf.2.2.1 0 (by omega) (by omega)]; exact b0, fun k hk => ⟨(hf.1 k (by omega) (by omega)).trans (k9 k (by omega)), by rw [hf.2.1 k (by omega) (by omega), L9]⟩⟩
  have bad : ∀ μ' e, fT μ9 μ' → trF T L = Sum.inl e → flt μ' e → wp_X8_text_96 Q μ' := by
    intro μ' e hf hR2 hl
    refine ⟨fun y => absurd y hl.pos.1, fun _ => ?_⟩
    rintro μ30 rfl μ31 rfl
    have e8 : (sI μ' 115 1 4).1 115 8 = (e.2 : Int) := by rw [sI_nj (by omega)]; exact hl.2.2
    rw [e8]
    obtain ⟨o1, o2, o3, o4, o5, o6⟩ := old μ' hf
    have hk : ∀ k, k ≠ 115 → (sI (sI μ' 115 1 4) 115 2 (e.2 : Int)).1 k = μ'.1 k := fun k a => by rw [sI_ne a, sI_ne a]
    have hq : ∀ j, j ≠ 1 → j ≠ 2 → (sI (sI μ' 115 1 4) 115 2 (e.2 : Int)).1 115 j = μ'.1 115 j := fun j a b => by rw [sI_nj b, sI_nj a]
    refine (HQ _ (fun k a => ⟨(hk k (by omega)).trans (o6 k a).1, by rw [sI_2, sI_2]; exact (o6 k a).2⟩) (by rw [hq 0 (by omega) (by omega)]; exact o5)).2.1 e (by omega) (by omega) (by rw [Int.toNat_natCast]; exact hR2) (fun c hc => ⟨(o1 c hc).1.to (hk 117 (by omega)), (o1 c hc).2⟩) (o2.to (hk 118 (by omega)) (hq 19 (by omega) (by omega))) ⟨by rw [hq 17 (by omega) (by omega)]; exact o3.1, o3.2.1, o3.2.2⟩ ⟨by rw [hq 4 (by omega) (by omega)]; exact o4.1, by omega, fun j hj => absurd hj (Nat.not_lt_zero j)⟩ (by rw [hq 7 (by omega) (by omega)]; exact hl.1) (by rw [sI_nj (by omega), sI_s]) sI_s
  have good : ∀ μ' acc, fT μ9 μ' → trF T L = Sum.inr acc → μ'.1 115 7 = 0 → acS μ' acc → acc.length ≤ 4 → wp_X8_text_96 Q μ' := by
    intro μ' acc hf hR2 g7 ha h4
    refine ⟨fun _ => ?_, fun y => absurd (Int.le_of_eq g7) y⟩
    obtain ⟨o1, o2, o3, o4, o5, o6⟩ := old μ' hf
    refine s_hand ha h4 (fun μ4 f1 f2 f3 f4 f5 f6 f7 f8 => ?_)
    exact (HQ μ4 (fun k a => ⟨(f1 k (by omega) (by omega)).trans (o6 k a).1, (by rw [f2 k (by omega)]; exact (o6 k a).2)⟩) (by rw [f3 0 (by omega) (by omega) (by omega) (by omega)]; exact o5)).2.2 acc (by omega) (by omega) (by rw [Int.toNat_natCast]; exact hR2) f4 f5 f6 ⟨by rw [f3 4 (by omega) (by omega) (by omega) (by omega)]; exact o4.1, by omega, fun j hj => absurd hj (Nat.not_lt_zero j)⟩ (by rw [f3 7 (by omega) (by omega) (by omega) (by omega)]; exact g7) f7 f8
  refine s_goOn (p := 0) ht9 b7 b6 (Nat.zero_le _) (fun μ10 hf10 ht10 => ?_)
  have g710 : μ10.1 115 7 = 0 := by rw [hf10.2 7 (by omega) (by omega) (by omega) (by omega)]; exact b7
  have ha10 : acS μ10 [] := ⟨by rw [hf10.2 18 (by omega) (by omega) (by omega) (by omega)]; exact b18, fun i hi => absurd hi (Nat.not_lt_zero i)⟩
  refine s_readCodeA (acc := []) (ht9.to hf10) g710 ht10 (okT_tkF T (Nat.zero_le _)) ha10 (by decide) (fun μ11 hf11 hs11 => ?_)
  have hf911 : fT μ9 μ11 := hf10.fT.tr hf11
  have hU : trF T L = (match cdP T L [] (tkF T L 0) with
    | Sum.inl e => Sum.inl e
    | Sum.inr (t', C) => if isSg T t' 59 then txP T L 4 (nxT T L t') ([] ++ [(tNm T (nxT T L (tkF T L 0)), C)]) else if tK t' = 0 then Sum.inr ([] ++ [(tNm T (nxT T L (tkF T L 0)), C)]) else Sum.inl (1, tA t')) := rfl
  refine LP1_gh (n := 4) (fun (k : Nat) (μ2 : Mem) => fT μ9 μ2 ∧ ((∃ e, trF T L = Sum.inl e ∧ flt μ2 e) ∨ (∃ t2 acc, μ2.1 115 7 = 0 ∧ tkS μ2 T t2 ∧ okT T L t2 ∧ acS μ2 acc ∧ acc.length ≤ 4 ∧ acc.length + k = 5 ∧ trF T L = if isSg T t2 59 then txP T L k (nxT T L t2) acc else if tK t2 = 0 then Sum.inr acc else Sum.inl (1, tA t2)))) ?_ ⟨hf911, ?_⟩
  rotate_left
  · have hs11 : (match cdP T L [] (tkF T L 0) with
      | Sum.inl e => flt μ11 e
      | Sum.inr (t', C) => ([] : Ac).length < 4 ∧ μ11.1 115 7 = 0 ∧ tkS μ11 T t' ∧ okT T L t' ∧ acS μ11 ([] ++ [(tNm T (nxT T L (tkF T L 0)), C)])) := hs11
    rcases hw : cdP T L [] (tkF T L 0) with e | ⟨t', C⟩
    · rw [hw] at hs11 hU
      exact Or.inl ⟨e, hU, hs11⟩
    · rw [hw] at hs11 hU
      obtain ⟨-, c7, ct, co, ca⟩ := hs11
      exact Or.inr ⟨t', _, c7, ct, co, ca, by show 1 ≤ 4; omega, rfl, hU⟩
  rintro X k μ2 ⟨hf2, hcase⟩ hX
  rcases hcase with ⟨e, he, hl⟩ | ⟨t2, acc, g7, gt, go, ga, h4, hk5, hS⟩
  · exact s_isSign_f hl ⟨fun _ => ⟨fun _ => bad μ2 e hf2 he hl, fun y => absurd y hl.pos.2⟩, fun y => absurd rfl y⟩
  refine s_isSign g7 gt (fun hno => ⟨fun _ => ⟨fun y => absurd g7 y, fun _ => ?_⟩, fun y => absurd rfl y⟩) (fun hys => ⟨fun y => absurd y (by decide), fun _ => ?_⟩)
  · rw [if_neg hno] at hS
    rw [gt.1]
    refine ⟨fun q => ?_, fun q => ?_⟩
    · rw [if_pos ((kM_0 go.2.2.1).mp q)] at hS
      exact good μ2 acc hf2 hS g7 ga h4
    · rw [if_neg (fun e => q ((kM_0 go.2.2.1).mpr e))] at hS
      exact s_flaw (c := 12) (f := 1) g7 gt (by omega) (fun μ3 hf3 hl3 => bad μ3 _ (hf2.tr (fR12.fT hf3)) hS hl3)
  · rw [if_pos hys] at hS
    obtain ⟨k', rfl⟩ : ∃ k', k = k' + 1 := ⟨k - 1, by omega⟩
    have hU2 : txP T L (k' + 1) (nxT T L t2) acc = (match cdP T L (acc.map (fun a => a.1)) (nxT T L t2) with
      | Sum.inl e => Sum.inl e
      | Sum.inr (t', C) => if isSg T t' 59 then txP T L k' (nxT T L t') (acc ++ [(tNm T (nxT T L (nxT T L t2)), C)]) else if tK t' = 0 then Sum.inr (acc ++ [(tNm T (nxT T L (nxT T L t2)), C)]) else Sum.inl (1, tA t')) := rfl
    rw [hU2] at hS
    refine s_goOn (p := tB t2) (ht9.fT hf2) g7 gt.2.2.1 go.2.1 (fun μ3 hf3 ht3 => ?_)
    have g73 : μ3.1 115 7 = 0 := by rw [hf3.2 7 (by omega) (by omega) (by omega) (by omega)]; exact g7
    have hf93 : fT μ9 μ3 := hf2.tr hf3.fT
    refine s_readCodeA (acc := acc) (ht9.fT hf93) g73 ht3 (okT_tkF T go.2.1) (ga.G hf3) h4 (fun μ4 hf4 hs4 => hX k' _ (Nat.lt_succ_self _) ⟨hf93.tr hf4, ?_⟩)
    rcases hw : cdP T L (acc.map (fun a => a.1)) (nxT T L t2) with e | ⟨t', C⟩
    · rw [hw] at hs4 hS
      exact Or.inl ⟨e, hS, hs4⟩
    · rw [hw] at hs4 hS
      obtain ⟨c4, c7, ct, co, ca⟩ := hs4
      have hl1 : (acc ++ [(tNm T (nxT T L (nxT T L t2)), C)]).length = acc.length + 1 := by rw [List.length_append]; rfl
      exact Or.inr ⟨t', _, c7, ct, co, ca, by rw [hl1]; omega, by rw [hl1]; omega, hS⟩
end RR

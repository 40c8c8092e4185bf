/-! ===== the class: its reader, tokens ===== -/
/-- the tape's first L bytes -/
def rtS (μ : Mem) (T : Nat → Int) (L : Nat) : Prop := μ.1 1 2 = (L : Int) ∧ L ≤ 600 ∧ ∀ j, j < L → μ.1 2 j = T j
/-- the token -/
def rkS (μ : Mem) (t : Tk) : Prop := μ.1 1 5 = (tK t : Int) ∧ μ.1 1 3 = (tA t : Int) ∧ μ.1 1 4 = (tB t : Int)
/-- only the token has moved -/
def fA (μ μ' : Mem) : Prop := (∀ q, q ≠ 1 → μ'.1 q = μ.1 q) ∧ μ'.2 = μ.2 ∧ ∀ j, j ≠ 3 → j ≠ 4 → j ≠ 5 → μ'.1 1 j = μ.1 1 j
theorem fA.rf {μ : Mem} : fA μ μ := ⟨fun _ _ => rfl, rfl, fun _ _ _ _ => rfl⟩
theorem fA.tr {μ μ' μ'' : Mem} (h : fA μ μ') (h2 : fA μ' μ'') : fA μ μ'' := ⟨fun q a => (h2.1 q a).trans (h.1 q a), h2.2.1.trans h.2.1, fun j a b c => (h2.2.2 j a b c).trans (h.2.2 j a b c)⟩
theorem fA.I {μ μ' : Mem} {j : Nat} {v : Int} (h : fA μ μ') (hj : j = 3 ∨ j = 4 ∨ j = 5) : fA μ (sI μ' 1 j v) := h.tr ⟨fun q a => sI_ne a, rfl, fun i a b c => sI_nj (by omega)⟩
theorem rtS.A {μ μ' : Mem} {T : Nat → Int} {L : Nat} (h : rtS μ T L) (ho : fA μ μ') : rtS μ' T L := ⟨by rw [ho.2.2 2 (by omega) (by omega) (by omega)]; exact h.1, h.2.1, by rw [ho.1 2 (by omega)]; exact h.2.2⟩
section RD
variable {μ : Mem} {T : Nat → Int} {L : Nat} {Q : Int → Mem → Prop}
theorem s5_isLetter {v : Int} (h0 : ¬ (97 ≤ v ∧ v ≤ 122) → Q 0 μ) (h1 : 97 ≤ v ∧ v ≤ 122 → Q 1 μ) : wp_X5_isLetter v μ Q := ⟨fun q => h0 (by omega), fun q => ⟨fun q2 => h0 (by omega), fun q2 => h1 (by omega)⟩⟩
theorem s5_isNumeral {v : Int} (h0 : ¬ (48 ≤ v ∧ v ≤ 57) → Q 0 μ) (h1 : 48 ≤ v ∧ v ≤ 57 → Q 1 μ) : wp_X5_isNumeral v μ Q := ⟨fun q => h0 (by omega), fun q => ⟨fun q2 => h0 (by omega), fun q2 => h1 (by omega)⟩⟩
theorem s5_endOfLetters {a : Nat} (h : rtS μ T L) (h3 : μ.1 1 3 = (a : Int)) (ha : a ≤ L) (hq : Q (runF (isLt T) (L - a) a : Nat) μ) : wp_X5_endOfLetters μ Q := by
  have h6 := h.2.1
  unfold wp_X5_endOfLetters
  rw [h3]
  refine LP2_rule (fun (v1 : Int) (μ2 : Mem) => μ2 = μ ∧ ∃ b : Nat, v1 = (b : Int) ∧ a ≤ b ∧ b ≤ L ∧ runF (isLt T) (L - a) a = runF (isLt T) (L - b) b) (fun v1 _ => ((L : Int) - v1).toNat) ?_ ⟨rfl, a, rfl, Nat.le_refl _, ha, rfl⟩
  rintro X v1 μ2 ⟨rfl, b, rfl, hab, hb, hr⟩ hX
  unfold wp_X5_endOfLetters_5
  rw [h.1, Int.toNat_natCast]
  have done : (b = L ∨ isLt T b = false) → Q (b : Int) μ2 := fun e => by rw [hr, runF_e hb e] at hq; exact hq
  refine ⟨fun c => done (Or.inl (by omega)), fun c => ⟨by omega, ?_⟩⟩
  rw [h.2.2 b (by omega)]
  refine s5_isLetter (fun n => A0 (done (Or.inr (decide_eq_false n)))) (fun y => A1 ⟨inR_i (by omega) (by omega), hX _ _ ⟨rfl, b + 1, rfl, by omega, by omega, ?_⟩ (by omega)⟩)
  rw [hr, runF_s (by omega) (decide_eq_true y)]
theorem s5_endOfNumerals {a : Nat} (h : rtS μ T L) (h3 : μ.1 1 3 = (a : Int)) (ha : a ≤ L) (hq : Q (runF (isDg T) (L - a) a : Nat) μ) : wp_X5_endOfNumerals μ Q := by
  have h6 := h.2.1
  unfold wp_X5_endOfNumerals
  rw [h3]
  refine LP2_rule (fun (v1 : Int) (μ2 : Mem) => μ2 = μ ∧ ∃ b : Nat, v1 = (b : Int) ∧ a ≤ b ∧ b ≤ L ∧ runF (isDg T) (L - a) a = runF (isDg T) (L - b) b) (fun v1 _ => ((L : Int) - v1).toNat) ?_ ⟨rfl, a, rfl, Nat.le_refl _, ha, rfl⟩
  rintro X v1 μ2 ⟨rfl, b, rfl, hab, hb, hr⟩ hX
  unfold wp_X5_endOfNumerals_5
  rw [h.1, Int.toNat_natCast]
  have done : (b = L ∨ isDg T b = false) → Q (b : Int) μ2 := fun e => by rw [hr, runF_e hb e] at hq; exact hq
  refine ⟨fun c => done (Or.inl (by omega)), fun c => ⟨by omega, ?_⟩⟩
  rw [h.2.2 b (by omega)]
  refine s5_isNumeral (fun n => A0 (done (Or.inr (decide_eq_false n)))) (fun y => A1 ⟨inR_i (by omega) (by omega), hX _ _ ⟨rfl, b + 1, rfl, by omega, by omega, ?_⟩ (by omega)⟩)
  rw [hr, runF_s (by omega) (decide_eq_true y)]
theorem s5_advance {p : Nat} {R : Mem → Prop} (h : rtS μ T L) (h4 : μ.1 1 4 = (p : Int)) (hp : p ≤ L) (hq : ∀ μ', fA μ μ' → rkS μ' (tkF T L p) → R μ') : wp_X5_advance μ R := by
  have h6 := h.2.1
  intro μ1 e1
  rw [h4] at e1
  have o1 : fA μ μ1 := by rw [e1]; exact fA.rf.I (by omega)
  -- a token from a on
  have tok : ∀ (a : Nat) (μ2 : Mem), fA μ μ2 → μ2.1 1 3 = (a : Int) → a ≤ L → runF (isSp T) (L - p) p = a → wp_X5_advance_46 R μ2 := by
    intro a μ2 o2 h3 ha hr
    have ht2 := h.A o2
    have hq : ∀ μ', fA μ μ' → rkS μ' (tkA T L a) → R μ' := fun μ' x y => hq μ' x (by unfold tkF; rw [hr]; exact y)
    have fin : ∀ (k b : Nat) (μ' : Mem), tkA T L a = (k, a, b) → fA μ μ' → μ'.1 1 5 = (k : Int) → μ'.1 1 3 = (a : Int) → μ'.1 1 4 = (b : Int) → R μ' := fun k b μ' e x y1 y2 y3 => hq μ' x (by rw [e]; exact ⟨y1, y2, y3⟩)
    unfold wp_X5_advance_46
    rw [h3, ht2.1]
    refine ⟨fun c => ⟨by omega, ?_⟩, fun c μ34 e34 μ35 e35 => ?_⟩
    · rw [Int.toNat_natCast, ht2.2.2 a (by omega)]
      have hne : ¬ a = L := by omega
      have hA : tkA T L a = if isLt T a then ((if runF (isLt T) (L - a) a - a ≤ 6 then 1 else 4), a, runF (isLt T) (L - a) a)
        else if isDg T a then ((if runF (isDg T) (L - a) a - a ≤ 8 then 2 else 4), a, runF (isDg T) (L - a) a)
        else ((if T a = 59 ∨ T a = 44 ∨ T a = 58 then 3 else 4), a, a + 1) := if_neg hne
      refine s5_isLetter (fun n => A0 ?_) (fun y => A1 ?_)
      · rw [if_neg (by rw [show isLt T a = false from decide_eq_false n]; decide)] at hA
        rw [h3, Int.toNat_natCast, ht2.2.2 a (by omega)]
        refine ⟨by omega, s5_isNumeral (fun n2 => A0 ?_) (fun y => A1 ?_)⟩
        · rw [h3]
          rw [if_neg (by rw [show isDg T a = false from decide_eq_false n2]; decide)] at hA
          refine ⟨inR_i (by omega) (by omega), fun μ13 e13 => ?_⟩
          have m13 : μ13.1 1 3 = (a : Int) := by rw [e13, sI_nj (by omega)]; exact h3
          have o13 : fA μ μ13 := by rw [e13]; exact o2.I (by omega)
          have b13 : μ13.1 1 4 = ((a + 1 : Nat) : Int) := by rw [e13, sI_s]; omega
          rw [m13, Int.toNat_natCast, (h.A o13).2.2 a (by omega)]
          have yes : (T a = 59 ∨ T a = 44 ∨ T a = 58) → ∀ μ19 : Mem, μ19 = sI μ13 1 5 3 → R μ19 := fun y μ19 e19 => by
            rw [if_pos y] at hA
            exact fin 3 (a + 1) μ19 hA (by rw [e19]; exact o13.I (by omega)) (by rw [e19, sI_s]; rfl) (by rw [e19, sI_nj (by omega)]; exact m13) (by rw [e19, sI_nj (by omega)]; exact b13)
          have no : ¬ (T a = 59 ∨ T a = 44 ∨ T a = 58) → ∀ μ19 : Mem, μ19 = sI μ13 1 5 4 → R μ19 := fun y μ19 e19 => by
            rw [if_neg y] at hA
            exact fin 4 (a + 1) μ19 hA (by rw [e19]; exact o13.I (by omega)) (by rw [e19, sI_s]; rfl) (by rw [e19, sI_nj (by omega)]; exact m13) (by rw [e19, sI_nj (by omega)]; exact b13)
          exact ⟨by omega, fun q => A1 (yes (Or.inl q)), fun q => ⟨fun q2 => A1 (yes (Or.inr (Or.inl q2))), fun q2 => ⟨fun q3 => A0 (no (by omega)), fun q3 => A1 (yes (Or.inr (Or.inr q3)))⟩⟩⟩
        · rw [if_pos (show isDg T a = true from decide_eq_true y)] at hA
          refine s5_endOfNumerals ht2 h3 ha (fun μ22 e22 => ?_)
          have hle := runF_le (isDg T) (L - a) a
          have m22 : μ22.1 1 3 = (a : Int) := by rw [e22, sI_nj (by omega)]; exact h3
          have o22 : fA μ μ22 := by rw [e22]; exact o2.I (by omega)
          have b22 : μ22.1 1 4 = (runF (isDg T) (L - a) a : Nat) := by rw [e22, sI_s]
          rw [m22, b22]
          refine ⟨inR_i (by omega) (by omega), fun q μ25 e25 => ?_, fun q μ25 e25 => ?_⟩
          · rw [if_neg (by omega)] at hA
            exact fin 4 _ μ25 hA (by rw [e25]; exact o22.I (by omega)) (by rw [e25, sI_s]; rfl) (by rw [e25, sI_nj (by omega)]; exact m22) (by rw [e25, sI_nj (by omega)]; exact b22)
          · rw [if_pos (by omega)] at hA
            exact fin 2 _ μ25 hA (by rw [e25]; exact o22.I (by omega)) (by rw [e25, sI_s]; rfl) (by rw [e25, sI_nj (by omega)]; exact m22) (by rw [e25, sI_nj (by omega)]; exact b22)
      · rw [if_pos (show isLt T a = true from decide_eq_true y)] at hA
        refine s5_endOfLetters ht2 h3 ha (fun μ22 e22 => ?_)
        have hle := runF_le (isLt T) (L - a) a
        have m22 : μ22.1 1 3 = (a : Int) := by rw [e22, sI_nj (by omega)]; exact h3
        have o22 : fA μ μ22 := by rw [e22]; exact o2.I (by omega)
        have b22 : μ22.1 1 4 = (runF (isLt T) (L - a) a : Nat) := by rw [e22, sI_s]
        rw [m22, b22]
        refine ⟨inR_i (by omega) (by omega), fun q μ25 e25 => ?_, fun q μ25 e25 => ?_⟩
        · rw [if_neg (by omega)] at hA
          exact fin 4 _ μ25 hA (by rw [e25]; exact o22.I (by omega)) (by rw [e25, sI_s]; rfl) (by rw [e25, sI_nj (by omega)]; exact m22) (by rw [e25, sI_nj (by omega)]; exact b22)
        · rw [if_pos (by omega)] at hA
          exact fin 1 _ μ25 hA (by rw [e25]; exact o22.I (by omega)) (by rw [e25, sI_s]; rfl) (by rw [e25, sI_nj (by omega)]; exact m22) (by rw [e25, sI_nj (by omega)]; exact b22)
    · have e : a = L := by omega
      subst e
      have m34 : μ34.1 1 3 = (a : Int) := by rw [e34, sI_nj (by omega)]; exact h3
      rw [m34] at e35
      exact fin 0 a μ35 (tkA_e T a) (by rw [e35, e34]; exact (o2.I (by omega)).I (by omega)) (by rw [e35, sI_nj (by omega), e34, sI_s]; rfl) (by rw [e35, sI_nj (by omega)]; exact m34) (by rw [e35, sI_s])
  refine LP1_gh (fun n μ2 => fA μ μ2 ∧ ∃ a : Nat, n = L - a ∧ μ2.1 1 3 = (a : Int) ∧ a ≤ L ∧ runF (isSp T) (L - p) p = runF (isSp T) (L - a) a) ?_ ⟨o1, p, rfl, by rw [e1, sI_s], hp, rfl⟩
  rintro X n μ2 ⟨o2, a, rfl, h3, ha, hr⟩ hX
  have ht2 := h.A o2
  unfold wp_X5_advance_8
  rw [h3, ht2.1, Int.toNat_natCast]
  refine ⟨fun c => tok a μ2 o2 h3 ha (by rw [hr, runF_e ha (Or.inl (by omega))]), fun c => ⟨by omega, ?_⟩⟩
  rw [ht2.2.2 a (by omega)]
  refine ⟨fun c2 => tok a μ2 o2 h3 ha (by rw [hr, runF_e ha (Or.inr (decide_eq_false c2))]), fun c2 => ⟨inR_i (by omega) (by omega), fun μ39 e39 => hX (L - (a + 1)) μ39 (by omega) ⟨by rw [e39]; exact o2.I (by omega), a + 1, rfl, by rw [e39, sI_s]; omega, by omega, ?_⟩⟩⟩
  rw [hr, runF_s (by omega) (decide_eq_true c2)]
theorem s5_fail {n : Int} (hq : Q 0 (sI μ 1 6 n)) : wp_X5_fail n μ Q := fun μ1 e1 => by rw [e1]; exact hq
theorem s5_isSign {v : Int} {t : Tk} (h : rtS μ T L) (ht : rkS μ t) (ho : okT T L t) (h0 : ¬ isSg T t v → Q 0 μ) (h1 : isSg T t v → Q 1 μ) : wp_X5_isSign v μ Q := by
  have h6 := h.2.1
  unfold wp_X5_isSign
  rw [ht.1, ht.2.1, Int.toNat_natCast]
  refine ⟨fun c => h0 (fun q => c (by rw [q.1]; rfl)), fun c => ?_⟩
  have hk : tK t = 3 := by omega
  have hlt := ho.2.2.2.2.2.1 hk
  have hB := ho.2.1
  refine ⟨by omega, ?_⟩
  rw [h.2.2 _ (by omega)]
  exact ⟨fun c2 => h0 (fun q => c2 q.2), fun c2 => h1 ⟨hk, c2⟩⟩
theorem s5_singleDigit {t : Tk} (h : rtS μ T L) (ht : rkS μ t) (ho : okT T L t) (hk : tK t = 2) (hq : Q (oneD T t) μ) : wp_X5_singleDigit μ Q := by
  have h6 := h.2.1
  have hA := ho.1
  have hB := ho.2.1
  obtain ⟨d1, d2, d3⟩ := ho.2.2.2.1 hk
  unfold wp_X5_singleDigit
  rw [ht.2.1, ht.2.2, Int.toNat_natCast]
  unfold oneD at hq
  refine ⟨inR_i (by omega) (by omega), fun c => ?_, fun c => ⟨by omega, ?_⟩⟩
  · rw [if_neg (by omega)] at hq; exact hq
  · rw [if_pos (by omega)] at hq
    rw [h.2.2 _ (by omega)]
    have := d3 (tA t) (Nat.le_refl _) d1
    exact ⟨inR_i (by omega) (by omega), hq⟩
theorem nmL_at (T : Nat → Int) (a : Nat) : ∀ {n i : Nat}, i < n → (nmL T a n).getD i 0 = (T (a + i) - 96).toNat
  | 0, i, h => absurd h (Nat.not_lt_zero i)
  | n + 1, i, h => by
    show (nmL T a n ++ [(T (a + n) - 96).toNat]).getD i 0 = _
    rw [List.getD_eq_getElem?_getD]
    by_cases e : i < n
    · rw [List.getElem?_append_left (by rw [nmL_len]; exact e), ← List.getD_eq_getElem?_getD]; exact nmL_at T a e
    · have en : i = n := by omega
      subst en
      rw [List.getElem?_append_right (by rw [nmL_len]; omega), nmL_len, Nat.sub_self]
      rfl
theorem list_eq {l l' : List Nat} (hl : l.length = l'.length) (h : ∀ i, i < l.length → l.getD i 0 = l'.getD i 0) : l = l' := by
  apply List.ext_getElem? 
  intro i
  by_cases e : i < l.length
  · have := h i e
    rw [List.getD_eq_getElem?_getD, List.getD_eq_getElem?_getD, List.getElem?_eq_getElem e, List.getElem?_eq_getElem (by omega)] at this
    rw [List.getElem?_eq_getElem e, List.getElem?_eq_getElem (show i < l'.length by omega)]
    exact congrArg some this
  · rw [List.getElem?_eq_none (by omega), List.getElem?_eq_none (by omega)]
theorem s5_isKeyword {j : Nat} {t : Tk} (hj : j < 3) (h : rtS μ T L) (ht : rkS μ t) (ho : okT T L t) (h0 : ¬ isKw T t (kwl j) → Q 0 μ) (h1 : isKw T t (kwl j) → Q 1 μ) : wp_X5_isKeyword j μ Q := by
  have h6 := h.2.1
  have hA := ho.1
  have hB := ho.2.1
  obtain ⟨k1, -, k3, k4, k5⟩ := kw_k j hj
  unfold wp_X5_isKeyword
  rw [ht.1, ht.2.1, ht.2.2, k1]
  refine ⟨fun c => h0 (fun q => c (by rw [q.1]; rfl)), fun c => ?_⟩
  have hk : tK t = 1 := by omega
  obtain ⟨d1, d2, d3⟩ := ho.2.2.2.2.1 hk
  refine ⟨inR_i (by omega) (by omega), fun c2 => ?_, fun c2 => h0 (fun q => c2 ?_)⟩
  · have hlen : tB t - tA t = (kwl j).length := by omega
    refine LP3_rule (fun (v1 : Nat) (v2 : Int) (μ2 : Mem) => v1 = j ∧ μ2 = μ ∧ ∃ i : Nat, v2 = (i : Int) ∧ i ≤ (kwl j).length ∧ ∀ q, q < i → T (tA t + q) = ((kwl j).getD q 0 : Int) + 96) (fun _ v2 _ => (((kwl j).length : Int) - v2).toNat) ?_ ⟨rfl, rfl, 0, rfl, Nat.zero_le _, fun q hq => absurd hq (Nat.not_lt_zero q)⟩
    rintro X v1 v2 μ2 ⟨rfl, rfl, i, rfl, hi, hs⟩ hX
    unfold wp_X5_isKeyword_28
    rw [k1, ht.2.1, show ((tA t : Nat) : Int) + (i : Int) = ((tA t + i : Nat) : Int) by omega, Int.toNat_natCast]
    refine ⟨fun c3 => h1 ⟨hk, ?_⟩, fun c3 => ⟨by omega, by omega, ?_⟩⟩
    · refine list_eq (by rw [nmL_len]; exact hlen) (fun q hq => ?_)
      rw [nmL_len] at hq
      rw [nmL_at T (tA t) hq, hs q (by omega)]
      omega
    · rw [h.2.2 _ (by omega), (k5 i (by omega)).1]
      refine ⟨fun c4 => ⟨inR_i (by omega) (by omega), hX _ _ _ ⟨rfl, rfl, i + 1, rfl, by omega, fun q hq => ?_⟩ (by omega)⟩, fun c4 => h0 (fun y => c4 ?_)⟩
      · by_cases e : q = i
        · rw [e]; exact c4
        · exact hs q (by omega)
      · have hq2 := nmL_at T (tA t) (show i < tB t - tA t by omega)
        have y2 : nmL T (tA t) (tB t - tA t) = kwl v1 := y.2
        rw [y2] at hq2
        have := d3 (tA t + i) (by omega) (by omega)
        have := k5 i (by omega)
        omega
  · have := nmL_len T (tA t) (tB t - tA t)
    have y2 : nmL T (tA t) (tB t - tA t) = kwl j := q.2
    rw [y2] at this
    omega
theorem s5_numberIn {p : Nat} {t : Tk} {C : Cd} (h : rtS μ T L) (ht : rkS μ t) (ho : okT T L t) (hk : tK t = 2) (hp : crep μ p C) (hC : okC C) (hq : Q (match nuP T t C with | none => -1 | some w => (w : Int)) μ) : wp_X5_numberIn p μ Q := by
  have h6 := h.2.1
  have h8 := hC.1
  have hA := ho.1
  have hB := ho.2.1
  obtain ⟨d1, d2, d3⟩ := ho.2.2.2.1 hk
  unfold wp_X5_numberIn
  rw [ht.2.1, ht.2.2, hp.2.1]
  unfold nuP at hq
  refine ⟨inR_i (by omega) (by omega), fun c => ?_, fun c => ?_⟩
  · rw [if_pos (by omega)] at hq
    refine LP4_rule (fun (v1 : Nat) (v2 v3 : Int) (μ2 : Mem) => v1 = p ∧ μ2 = μ ∧ ∃ i v : Nat, v3 = (i : Int) ∧ v2 = (v : Int) ∧ i ≤ cN C ∧ nuF T (cS C) (tA t) i = some v) (fun _ _ v3 _ => ((cN C : Int) - v3).toNat) ?_ ⟨rfl, rfl, 0, 0, rfl, rfl, Nat.zero_le _, rfl⟩
    rintro X v1 v2 v3 μ2 ⟨rfl, rfl, i, v, rfl, rfl, hi, hv⟩ hX
    unfold wp_X5_numberIn_22
    rw [hp.2.1, ht.2.1, show ((tA t : Nat) : Int) + (i : Int) = ((tA t + i : Nat) : Int) by omega, Int.toNat_natCast, Int.toNat_natCast]
    refine ⟨fun c2 => ?_, fun c2 => ⟨by omega, ?_⟩⟩
    · have e : i = cN C := by omega
      subst e
      rw [hv] at hq
      exact hq
    · have hd := d3 (tA t + i) (by omega) (by omega)
      rw [h.2.2 _ (by omega), (hp.2.2.2.2.1 i (by omega)).1]
      have hst := nuF_s hv
      have hvl := nuF_lt (fun q hq2 => (d3 (tA t + q) (by omega) (by omega)).1) hv
      have hwd := hC.wd (i := i + 1) (by omega)
      refine ⟨inR_i (by omega) (by omega), fun x5 e5 => ⟨by omega, fun c3 => ?_, fun c3 => ?_⟩⟩
      · rw [if_pos (by omega)] at hst
        have hvl2 := nuF_lt (fun q hq2 => (d3 (tA t + q) (by omega) (by omega)).1) hst
        have e9 : (v : Int) * (cS C i : Int) + x5 = ((v * cS C i + (T (tA t + i) - 48).toNat : Nat) : Int) := by rw [Int.natCast_add, Int.natCast_mul]; omega
        rw [e9]
        exact ⟨inR_n (by omega), fun x9 e9 => ⟨inR_i (by omega) (by omega), hX _ _ _ _ ⟨rfl, rfl, i + 1, _, rfl, e9, by omega, hst⟩ (by omega)⟩⟩
      · rw [if_neg (by omega)] at hst
        rw [nuF_none hst (show i + 1 ≤ cN C by omega)] at hq
        exact hq
  · rw [if_neg (by omega)] at hq; exact hq
end RD

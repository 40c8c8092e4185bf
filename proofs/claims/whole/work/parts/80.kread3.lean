/-! ===== the class: its reader, names and lines ===== -/
def nmB (l : List Nat) : Nat → Nat
  | 0 => 0
  | k + 1 => nmB l k + l.getD k 0 * 32 ^ k
def nmC (l : List Nat) : Nat := nmB l l.length
theorem getD_26 {l : List Nat} (h : okN l) (i : Nat) : l.getD i 0 ≤ 26 := by
  by_cases e : i < l.length
  · exact (h.at e).2
  · rw [List.getD_eq_getElem?_getD, List.getElem?_eq_none (by omega)]; exact Nat.zero_le _
theorem getD_out {l : List Nat} {i : Nat} (h : l.length ≤ i) : l.getD i 0 = 0 := by
  rw [List.getD_eq_getElem?_getD, List.getElem?_eq_none h]; rfl
theorem nmB_lt {l : List Nat} (h : okN l) : ∀ k, nmB l k < 32 ^ k
  | 0 => Nat.one_pos
  | k + 1 => by
    have h1 := nmB_lt h k
    have h2 := Nat.mul_le_mul_right (32 ^ k) (show l.getD k 0 ≤ 31 by have := getD_26 h k; omega)
    show nmB l k + l.getD k 0 * 32 ^ k < 32 ^ (k + 1)
    rw [Nat.pow_succ]
    omega
theorem nmB_dg {l : List Nat} (h : okN l) {k : Nat} : ∀ {n : Nat}, k < n → nmB l n / 32 ^ k % 32 = l.getD k 0
  | 0, hk => absurd hk (Nat.not_lt_zero k)
  | n + 1, hk => by
    have hl := nmB_lt h n
    have hd : l.getD n 0 < 32 := by have := getD_26 h n; omega
    show (nmB l n + l.getD n 0 * 32 ^ n) / 32 ^ k % 32 = l.getD k 0
    by_cases e : k = n
    · rw [e, Nat.mul_comm, Nat.add_mul_div_left _ _ (Nat.pow_pos (by omega)), Nat.div_eq_of_lt hl, Nat.zero_add, Nat.mod_eq_of_lt hd]
    · rw [← nmB_dg h (k := k) (n := n) (by omega)]
      have hp : 32 ^ n = 32 ^ k * (32 ^ (n - k - 1) * 32) := by rw [← Nat.pow_succ, ← Nat.pow_add]; congr 1; omega
      rw [hp, Nat.mul_left_comm, Nat.add_mul_div_left _ _ (Nat.pow_pos (by omega)), ← Nat.mul_assoc, Nat.add_mul_mod_self_right]
theorem nmC_dg {l : List Nat} (h : okN l) (k : Nat) : nmC l / 32 ^ k % 32 = l.getD k 0 := by
  by_cases e : k < l.length
  · exact nmB_dg h e
  · have hl := nmB_lt h l.length
    have hp : 32 ^ l.length ≤ 32 ^ k := Nat.pow_le_pow_right (by omega) (by omega)
    unfold nmC
    rw [Nat.div_eq_of_lt (by omega), getD_out (by omega)]
theorem nmC_inj {l l' : List Nat} (h : okN l) (h' : okN l') (he : nmC l = nmC l') : l = l' := by
  have hd : ∀ k, l.getD k 0 = l'.getD k 0 := fun k => by rw [← nmC_dg h k, ← nmC_dg h' k, he]
  have hlen : l.length = l'.length := by
    by_cases c : l.length < l'.length
    · have h1 := hd l.length
      rw [getD_out (Nat.le_refl _)] at h1
      have := (h'.at c).1
      omega
    · by_cases c2 : l'.length < l.length
      · have h1 := hd l'.length
        rw [getD_out (l := l') (Nat.le_refl _)] at h1
        have := (h.at c2).1
        omega
      · omega
  exact list_eq hlen (fun i _ => hd i)
theorem nmC_b {l : List Nat} (h : okN l) : nmC l < 1073741824 := Nat.lt_of_lt_of_le (nmB_lt h _) (Nat.le_trans (Nat.pow_le_pow_right (by omega) h.2) (by decide))
theorem ishl_5 : ∀ i : Nat, i < 6 → ∀ d : Nat, d < 32 → ishl (d : Int) (5 * (i : Int)) = ((d * 32 ^ i : Nat) : Int) := by decide +kernel
theorem pow32_k : ∀ i : Nat, i ≤ 6 → 32 ^ i = 2 ^ (5 * i) ∧ 32 ^ i ≤ 1073741824 := by decide
theorem or_add32 {i a d : Nat} (hi : i ≤ 6) (ha : a < 32 ^ i) : a ||| d * 32 ^ i = a + d * 32 ^ i := by
  obtain ⟨p1, -⟩ := pow32_k i hi
  rw [p1] at ha ⊢
  rw [← Nat.shiftLeft_eq, Nat.or_comm, ← Nat.shiftLeft_add_eq_or_of_lt ha, Nat.add_comm]
/-- only the token, the fault and name m have moved -/
def fNm (m : Nat) (μ μ' : Mem) : Prop := (∀ q, q ≠ 1 → q ≠ 4 → μ'.1 q = μ.1 q) ∧ μ'.2 = μ.2 ∧ (∀ j, ¬ (3 ≤ j ∧ j ≤ 6) → μ'.1 1 j = μ.1 1 j) ∧ ∀ i, i ≠ m → μ'.1 4 i = μ.1 4 i
theorem fA.N {m : Nat} {μ μ' : Mem} (h : fA μ μ') : fNm m μ μ' := ⟨fun q a _ => h.1 q a, h.2.1, fun j a => h.2.2 j (by omega) (by omega) (by omega), fun i _ => by rw [h.1 4 (by omega)]⟩
theorem fNm.f {m : Nat} {μ μ' : Mem} {v : Int} (h : fNm m μ μ') : fNm m μ (sI μ' 1 6 v) := ⟨fun q a b => by rw [sI_ne a]; exact h.1 q a b, h.2.1, fun j a => by rw [sI_nj (by omega)]; exact h.2.2.1 j a, fun i a => by rw [sI_ne (by omega)]; exact h.2.2.2 i a⟩
theorem fNm.n {m : Nat} {μ μ' : Mem} {v : Int} (h : fNm m μ μ') : fNm m μ (sI μ' 4 m v) := ⟨fun q a b => by rw [sI_ne b]; exact h.1 q a b, h.2.1, fun j a => by rw [sI_ne (by omega)]; exact h.2.2.1 j a, fun i a => by rw [sI_nj a]; exact h.2.2.2 i a⟩
section RD
variable {μ : Mem} {T : Nat → Int} {L : Nat} {Q : Int → Mem → Prop}
theorem fE_f {μ : Mem} {t : Tk} {f : Nat} (h : rkS μ t) : fE (sI μ 1 6 (f : Int)) (f, tA t) := ⟨sI_s, by rw [sI_nj (by omega)]; exact h.2.1⟩
theorem s5_readName {p : Nat} {nms : List (List Nat)} (h : rtS μ T L) (h6 : μ.1 1 6 = 0) (h4 : μ.1 1 4 = (p : Int)) (hp : p ≤ L) (h7 : μ.1 1 7 = (nms.length : Int)) (hm : nms.length < 4) (hnm : ∀ i, i < nms.length → μ.1 4 i = (nmC (nms.getD i []) : Int)) (hok : ∀ l, l ∈ nms → okN l)
    (q1 : (¬ tK (tkF T L p) = 1 ∨ (isKw T (tkF T L p) (kwl 0) ∨ isKw T (tkF T L p) (kwl 1) ∨ isKw T (tkF T L p) (kwl 2))) → ∀ μ', fNm nms.length μ μ' → fE μ' (1, tA (tkF T L p)) → Q 0 μ')
    (q2 : ¬ (¬ tK (tkF T L p) = 1 ∨ (isKw T (tkF T L p) (kwl 0) ∨ isKw T (tkF T L p) (kwl 1) ∨ isKw T (tkF T L p) (kwl 2))) → tNm T (tkF T L p) ∈ nms → ∀ μ', fNm nms.length μ μ' → fE μ' (3, tA (tkF T L p)) → Q 0 μ')
    (q3 : ¬ (¬ tK (tkF T L p) = 1 ∨ (isKw T (tkF T L p) (kwl 0) ∨ isKw T (tkF T L p) (kwl 1) ∨ isKw T (tkF T L p) (kwl 2))) → ¬ tNm T (tkF T L p) ∈ nms → ∀ μ', fNm nms.length μ μ' → μ'.1 1 6 = 0 → rkS μ' (tkF T L p) → okN (tNm T (tkF T L p)) → μ'.1 4 nms.length = (nmC (tNm T (tkF T L p)) : Int) → Q 1 μ') : wp_X5_readName μ Q := by
  have hL6 := h.2.1
  refine s5_advance h h4 hp (fun μ1 o1 t1 => ?_)
  have hot := okT_tkF T (L := L) hp
  generalize tkF T L p = t at *
  have hA := hot.1
  have hB := hot.2.1
  have T1 := h.A o1
  have z1 : μ1.1 1 6 = 0 := by rw [o1.2.2 6 (by omega) (by omega) (by omega)]; exact h6
  have l1 : μ1.1 1 7 = (nms.length : Int) := by rw [o1.2.2 7 (by omega) (by omega) (by omega)]; exact h7
  have n1 : ∀ i, i < nms.length → μ1.1 4 i = (nmC (nms.getD i []) : Int) := fun i hi => by rw [o1.1 4 (by omega)]; exact hnm i hi
  have bad : (¬ tK t = 1 ∨ (isKw T t (kwl 0) ∨ isKw T t (kwl 1) ∨ isKw T t (kwl 2))) → wp_X5_fail 1 μ1 (fun r4 μ3 => (r4 = 0 ∨ r4 = 1) ∧ Q r4 μ3) := fun y => s5_fail ⟨Or.inl rfl, q1 y _ (o1.N.f) (fE_f t1)⟩
  unfold wp_X5_readName at *
  rw [t1.1]
  refine ⟨fun c => bad (Or.inl (fun q => c (by rw [q]; rfl))), fun c => s5_isKeyword (by omega) T1 t1 hot (fun k0 => B0 (s5_isKeyword (by omega) T1 t1 hot (fun k1 => B0 (s5_isKeyword (by omega) T1 t1 hot (fun k2 => A0 ?_) (fun y => A1 (bad (Or.inr (Or.inr (Or.inr y))))))) (fun y => B1 (bad (Or.inr (Or.inr (Or.inl y))))))) (fun y => B1 (bad (Or.inr (Or.inl y))))⟩
  have hk1 : tK t = 1 := by omega
  have hnb : ¬ (¬ tK t = 1 ∨ (isKw T t (kwl 0) ∨ isKw T t (kwl 1) ∨ isKw T t (kwl 2))) := fun q => by
    rcases q with q | q | q | q
    · exact q hk1
    · exact k0 q
    · exact k1 q
    · exact k2 q
  obtain ⟨d1, d2, d3⟩ := hot.2.2.2.2.1 hk1
  have hN := hot.nm hk1
  have hlen : (tNm T t).length = tB t - tA t := nmL_len T (tA t) _
  generalize hl : tNm T t = l at *
  refine LP3_rule (fun (v1 v2 : Int) (μ2 : Mem) => μ2 = μ1 ∧ ∃ i : Nat, v2 = (i : Int) ∧ i ≤ l.length ∧ v1 = (nmB l i : Int)) (fun _ v2 _ => ((l.length : Int) - v2).toNat) ?_ ⟨rfl, 0, rfl, Nat.zero_le _, rfl⟩
  rintro X v1 v2 μ2 ⟨rfl, i, rfl, hi, rfl⟩ hX
  unfold wp_X5_readName_49
  rw [t1.2.1, t1.2.2, show ((tA t : Nat) : Int) + (i : Int) = ((tA t + i : Nat) : Int) by omega, Int.toNat_natCast]
  refine ⟨inR_i (by omega) (by omega), fun c2 => ?_, fun c2 => ⟨by omega, fun x33 e33 => ⟨inR_i (by omega) (by omega), hX _ _ _ ⟨rfl, i + 1, rfl, by omega, ?_⟩ (by omega)⟩⟩⟩
  · have e : i = l.length := by omega
    subst e
    refine LP3_rule (fun (v1 v2 : Int) (μ3 : Mem) => μ3 = μ2 ∧ v1 = (nmC l : Int) ∧ ∃ j : Nat, v2 = (j : Int) ∧ j ≤ nms.length ∧ ∀ q, q < j → nms.getD q [] ≠ l) (fun _ v2 _ => ((nms.length : Int) - v2).toNat) ?_ ⟨rfl, rfl, 0, rfl, Nat.zero_le _, fun q hq => absurd hq (Nat.not_lt_zero q)⟩
    rintro X2 v1 v2 μ3 ⟨rfl, rfl, j, rfl, hj, hne⟩ hX2
    unfold wp_X5_readName_93
    rw [l1, Int.toNat_natCast, Int.toNat_natCast]
    refine ⟨fun c3 => ⟨by omega, fun μ25 e25 => ?_⟩, fun c3 => ⟨by omega, ?_⟩⟩
    · have e : j = nms.length := by omega
      subst e
      have hnot : ¬ l ∈ nms := fun hmem => by
        obtain ⟨q, hq, hq2⟩ := mem_getD.mp hmem
        exact hne q hq hq2
      exact q3 hnb hnot μ25 (by rw [e25]; exact o1.N.n) (by rw [e25, sI_ne (by omega)]; exact z1) (by unfold rkS; rw [e25, sI_ne (by omega)]; exact t1) hN (by rw [e25, sI_s])
    · rw [n1 j (by omega)]
      have hmj : nms.getD j [] ∈ nms := mem_getD.mpr ⟨j, by omega, rfl⟩
      refine ⟨fun c4 => ⟨inR_i (by omega) (by omega), hX2 _ _ _ ⟨rfl, rfl, j + 1, rfl, by omega, fun q hq => ?_⟩ (by omega)⟩, fun c4 => s5_fail ⟨Or.inl rfl, q2 hnb ?_ _ (o1.N.f) (fE_f t1)⟩⟩
      · by_cases e : q = j
        · rw [e]; exact fun y => c4 (by rw [y])
        · exact hne q (by omega)
      · rw [← nmC_inj (hok _ hmj) hN (by omega)]; exact hmj
  · have hli : l.getD i 0 = (T (tA t + i) - 96).toNat := by rw [← hl]; exact nmL_at T (tA t) (by omega)
    have hd := d3 (tA t + i) (by omega) (by omega)
    have hlt := nmB_lt hN i
    obtain ⟨-, p2⟩ := pow32_k i (by omega)
    obtain ⟨-, p3⟩ := pow32_k (i + 1) (by omega)
    have h26 := getD_26 hN i
    have hlt1 := nmB_lt hN (i + 1)
    have es : nmB l (i + 1) = nmB l i + l.getD i 0 * 32 ^ i := rfl
    rw [T1.2.2 _ (by omega), show T (tA t + i) - 97 + 1 = ((l.getD i 0 : Nat) : Int) by omega, ishl_5 i (by omega) _ (by omega), ior_n (by omega) (by omega), or_add32 (by omega) hlt, ← es] at e33
    exact e33
theorem s5_readOn {p : Nat} (h : rtS μ T L) (h6 : μ.1 1 6 = 0) (h4 : μ.1 1 4 = (p : Int)) (hp : p ≤ L) (q0 : ¬ isKw T (tkF T L p) (kwl 1) → ∀ μ', fA μ μ' → fE (sI μ' 1 6 1) (1, tA (tkF T L p)) → Q 0 (sI μ' 1 6 1)) (q1 : isKw T (tkF T L p) (kwl 1) → ∀ μ', fA μ μ' → rkS μ' (tkF T L p) → Q 1 μ') : wp_X5_readOn μ Q := by
  refine s5_advance h h4 hp (fun μ1 o1 t1 => s5_isKeyword (by omega) (h.A o1) t1 (okT_tkF T hp) (fun n => B0 (s5_fail (A0 (q0 n μ1 o1 (fE_f t1))))) (fun y => B1 (q1 y μ1 o1 t1)))
/-- nothing but the code in k, the token, fault and lines has moved -/
def fK (k : Nat) (μ μ' : Mem) : Prop := (∀ q, q ≠ 1 → (q < k ∨ k + 4 ≤ q) → μ'.1 q = μ.1 q ∧ μ'.2 q = μ.2 q) ∧ ∀ j, ¬ (3 ≤ j ∧ j ≤ 7) → μ'.1 1 j = μ.1 1 j
theorem fK.tr {k : Nat} {μ μ' μ'' : Mem} (h : fK k μ μ') (h2 : fK k μ' μ'') : fK k μ μ'' := ⟨fun q a b => ⟨(h2.1 q a b).1.trans (h.1 q a b).1, (h2.1 q a b).2.trans (h.1 q a b).2⟩, fun j a => (h2.2 j a).trans (h.2 j a)⟩
theorem fD.K {k : Nat} {μ μ' : Mem} (h : fD k μ μ') : fK k μ μ' := ⟨h.1, fun j a => h.2.1 j (by omega)⟩
def lnS (T : Nat → Int) (L k m : Nat) (R : PR (Tk × Cd)) (v : Int) (μ : Mem) : Prop := match R with
  | Sum.inl e => v = 0 ∧ fE μ e
  | Sum.inr (t, C) => v = 1 ∧ μ.1 1 6 = 0 ∧ μ.1 1 7 = ((m + 1 : Nat) : Int) ∧ rkS μ t ∧ okT T L t ∧ crep μ k C ∧ okC C ∧ 0 < cN C
theorem s5_line90 {k m : Nat} {t : Tk} {C : Cd} (h : rtS μ T L) (hk : 6 ≤ k) (hm : m < 4) (h6 : μ.1 1 6 = 0) (h7 : μ.1 1 7 = (m : Int)) (ht : rkS μ t) (hot : okT T L t) (hr : crep μ k C) (hC : okC C) (h0 : 0 < cN C) (hq : ∀ v μ', fK k μ μ' → lnS T L k m (wkP T (cd4 T L t C)) v μ' → Q v μ') : wp_X5_readLine_90 Q k μ := by
  have hc : cd4 T L t C = if ¬ isSg T t 58 then Sum.inl (1, tA t) else wsP T L 601 (tkF T L (tB t)) C := rfl
  rw [hc] at hq
  refine s5_isSign h ht hot (fun n => B0 (s5_fail ⟨Or.inl rfl, ?_⟩)) (fun y => B1 ?_)
  · rw [if_pos n] at hq
    exact hq 0 _ (fD.rf.f).K ⟨rfl, fE_f ht⟩
  · rw [if_neg (fun q => q y)] at hq
    rw [h7]
    refine ⟨inR_i (by omega) (by omega), fun μ24 e24 => ?_⟩
    have k24 : fK k μ μ24 := by rw [e24]; exact ⟨fun q a _ => ⟨sI_ne a, rfl⟩, fun j a => sI_nj (by omega)⟩
    have T24 : rtS μ24 T L := ⟨by rw [e24, sI_nj (by omega)]; exact h.1, h.2.1, by rw [e24, sI_ne (by omega)]; exact h.2.2⟩
    have r24 : crep μ24 k C := by
      unfold crep at *
      rw [e24, sI_ne (by omega), sI_ne (by omega), sI_ne (by omega)]
      exact hr
    have l24 : μ24.1 1 7 = ((m + 1 : Nat) : Int) := by rw [e24, sI_s]; omega
    refine s5_readCodewords T24 hk (by rw [e24, sI_nj (by omega)]; exact h6) (by rw [e24, sI_nj (by omega)]; exact ht.2.2) hot.2.1 r24 hC h0 (fun v μ25 o25 hP => ?_)
    generalize hW : wsP T L 601 (tkF T L (tB t)) C = W at *
    cases hV : wkP T W with
    | inl e =>
      rw [hV] at hP hq
      exact ⟨Or.inl hP.1, hq v μ25 (k24.tr o25.K) hP⟩
    | inr x =>
      obtain ⟨t', C'⟩ := x
      rw [hV] at hP hq
      obtain ⟨p1, p2, p3, p4, p5, p6⟩ := hP
      have hN : cN C' = cN C := by
        cases W with
        | inl e => cases hV
        | inr x =>
          obtain ⟨t2, C2⟩ := x
          have hV : (if isSg T t2 59 ∨ tK t2 = 0 then Sum.inr (t2, C2) else Sum.inl (1, tA t2)) = (Sum.inr (t', C') : PR (Tk × Cd)) := hV
          by_cases c : isSg T t2 59 ∨ tK t2 = 0
          · rw [if_pos c] at hV
            cases hV
            exact wsP_N hW
          · rw [if_neg c] at hV; cases hV
      exact ⟨Or.inr p1, hq v μ25 (k24.tr o25.K) ⟨p1, p2, by rw [o25.2.1 7 (by omega)]; exact l24, p3, p4, p5, p6, by omega⟩⟩
/-- the lines read so far -/
def acR (μ : Mem) (acc : Ac) : Prop := μ.1 1 7 = (acc.length : Int) ∧ ∀ i, i < acc.length → μ.1 4 i = (nmC (acD acc i).1 : Int) ∧ okN (acD acc i).1 ∧ crep μ (6 + 4 * i) (acD acc i).2 ∧ okC (acD acc i).2 ∧ 0 < cN (acD acc i).2
/-- what reading leaves alone -/
def fX (μ μ' : Mem) : Prop := (∀ q, (q = 0 ∨ q = 2 ∨ q = 3 ∨ q = 5 ∨ 22 ≤ q) → μ'.1 q = μ.1 q ∧ μ'.2 q = μ.2 q) ∧ ∀ j, ¬ (3 ≤ j ∧ j ≤ 7) → μ'.1 1 j = μ.1 1 j
theorem fX.tr {μ μ' μ'' : Mem} (h : fX μ μ') (h2 : fX μ' μ'') : fX μ μ'' := ⟨fun q a => ⟨(h2.1 q a).1.trans (h.1 q a).1, (h2.1 q a).2.trans (h.1 q a).2⟩, fun j a => (h2.2 j a).trans (h.2 j a)⟩
theorem fA.X {μ μ' : Mem} (h : fA μ μ') : fX μ μ' := ⟨fun q a => ⟨h.1 q (by omega), by rw [h.2.1]⟩, fun j a => h.2.2 j (by omega) (by omega) (by omega)⟩
theorem fNm.X {m : Nat} {μ μ' : Mem} (h : fNm m μ μ') : fX μ μ' := ⟨fun q a => ⟨h.1 q (by omega) (by omega), by rw [h.2.1]⟩, fun j a => h.2.2.1 j (by omega)⟩
theorem fK.X {m : Nat} {μ μ' : Mem} (h : fK (6 + 4 * m) μ μ') (hm : m < 4) : fX μ μ' := ⟨fun q a => h.1 q (by omega) (by omega), h.2⟩
theorem fX.f {μ : Mem} {v : Int} : fX μ (sI μ 1 6 v) := ⟨fun q a => ⟨sI_ne (by omega), rfl⟩, fun j a => sI_nj (by omega)⟩
theorem rtS.X {μ μ' : Mem} {T : Nat → Int} {L : Nat} (h : rtS μ T L) (ho : fX μ μ') : rtS μ' T L := ⟨by rw [ho.2 2 (by omega)]; exact h.1, h.2.1, by rw [(ho.1 2 (by omega)).1]; exact h.2.2⟩
theorem s5_readLine {p : Nat} {acc : Ac} (h : rtS μ T L) (h6 : μ.1 1 6 = 0) (h4 : μ.1 1 4 = (p : Int)) (hp : p ≤ L) (ha : acR μ acc) (h4a : acc.length ≤ 4)
    (hq : ∀ (v : Int) (μ' : Mem), fX μ μ' → (match wkP T (cdP T L (acc.map (fun a => a.1)) (tkF T L p)) with
      | Sum.inl e => v = 0 ∧ fE μ' e
      | Sum.inr (t', C) => v = 1 ∧ acc.length < 4 ∧ μ'.1 1 6 = 0 ∧ rkS μ' t' ∧ okT T L t' ∧ acR μ' (acc ++ [(tNm T (nxT T L (tkF T L p)), C)])) → Q v μ') : wp_X5_readLine μ Q := by
  refine s5_advance h h4 hp (fun μ1 o1 t1 => ?_)
  have hot := okT_tkF T (L := L) hp
  generalize tkF T L p = t at *
  have T1 := h.A o1
  have z1 : μ1.1 1 6 = 0 := by rw [o1.2.2 6 (by omega) (by omega) (by omega)]; exact h6
  have l1 : μ1.1 1 7 = (acc.length : Int) := by rw [o1.2.2 7 (by omega) (by omega) (by omega)]; exact ha.1
  have hml : (acc.map (fun a => a.1)).length = acc.length := List.length_map ..
  generalize hnms : acc.map (fun a => a.1) = nms at *
  have hc : cdP T L nms t = if ¬ isKw T t (kwl 0) then Sum.inl (1, tA t) else if nms.length = 4 then Sum.inl (4, tA t)
    else if ¬ tK (tkF T L (tB t)) = 1 ∨ (isKw T (tkF T L (tB t)) (kwl 0) ∨ isKw T (tkF T L (tB t)) (kwl 1) ∨ isKw T (tkF T L (tB t)) (kwl 2)) then Sum.inl (1, tA (tkF T L (tB t)))
    else if tNm T (tkF T L (tB t)) ∈ nms then Sum.inl (3, tA (tkF T L (tB t))) else cd1 T L (tkF T L (tB (tkF T L (tB t)))) := rfl
  rw [hc] at hq
  have hq : ∀ (v : Int) (μ' : Mem), fX μ μ' → (match wkP T (if ¬ isKw T t (kwl 0) then Sum.inl (1, tA t) else if nms.length = 4 then Sum.inl (4, tA t)
    else if ¬ tK (tkF T L (tB t)) = 1 ∨ (isKw T (tkF T L (tB t)) (kwl 0) ∨ isKw T (tkF T L (tB t)) (kwl 1) ∨ isKw T (tkF T L (tB t)) (kwl 2)) then Sum.inl (1, tA (tkF T L (tB t)))
    else if tNm T (tkF T L (tB t)) ∈ nms then Sum.inl (3, tA (tkF T L (tB t))) else cd1 T L (tkF T L (tB (tkF T L (tB t))))) with
      | Sum.inl e => v = 0 ∧ fE μ' e
      | Sum.inr (t', C) => v = 1 ∧ acc.length < 4 ∧ μ'.1 1 6 = 0 ∧ rkS μ' t' ∧ okT T L t' ∧ acR μ' (acc ++ [(tNm T (tkF T L (tB t)), C)])) → Q v μ' := hq
  refine s5_isKeyword (by omega) T1 t1 hot (fun n => B0 (s5_fail ⟨Or.inl rfl, ?_⟩)) (fun y => B1 ?_)
  · rw [if_pos n] at hq
    exact hq 0 _ (o1.X.tr fX.f) ⟨rfl, fE_f t1⟩
  rw [if_neg (fun q => q y)] at hq
  rw [l1]
  refine ⟨fun cl => ⟨by omega, ?_⟩, fun cl => s5_fail ⟨Or.inl rfl, ?_⟩⟩
  · rw [if_neg (by omega)] at hq
    rw [Int.toNat_natCast]
    have hm4 : acc.length < 4 := by omega
    refine s1_clear (fun μ2 o2 r2 => ?_)
    have x2 : fX μ μ2 := o1.X.tr ((o2.D (by omega)).K.X hm4)
    have t2 := t1.C o2 (by omega)
    have z2 : μ2.1 1 6 = 0 := by rw [(o2 1 (by omega)).1]; exact z1
    have l2 : μ2.1 1 7 = (acc.length : Int) := by rw [(o2 1 (by omega)).1]; exact l1
    have hnm : ∀ i, i < acc.length → nms.getD i [] = (acD acc i).1 := fun i hi => by rw [← hnms]; exact acD_m hi
    have n2 : ∀ i, i < nms.length → μ2.1 4 i = (nmC (nms.getD i []) : Int) := fun i hi => by
      rw [(o2 4 (by omega)).1, o1.1 4 (by omega), hnm i (by omega)]
      exact (ha.2 i (by omega)).1
    have okn : ∀ l, l ∈ nms → okN l := fun l hl => by
      obtain ⟨i, hi, e⟩ := mem_getD.mp hl
      rw [← e, hnm i (by omega)]
      exact (ha.2 i (by omega)).2.1
    -- the drafts of the lines before
    have d2 : ∀ i, i < acc.length → crep μ2 (6 + 4 * i) (acD acc i).2 := fun i hi => ((ha.2 i hi).2.2.1.A o1 (by omega)).to o2 (by omega)
    have hot2 := okT_tkF T (L := L) hot.2.1
    refine s5_readName (nms := nms) (T := T) (L := L) (p := tB t) (h.X x2) z2 t2.2.2 hot.2.1 (by rw [l2, hml]) (by omega) n2 okn (fun b μ3 o3 e3 => A0 ?_) (fun nb hmem μ3 o3 e3 => A0 ?_) (fun nb hmem μ3 o3 z3 t3 hN3 m3 => A1 ?_)
    · rw [if_pos b] at hq
      exact hq 0 μ3 (x2.tr o3.X) ⟨rfl, e3⟩
    · rw [if_neg nb, if_pos hmem] at hq
      exact hq 0 μ3 (x2.tr o3.X) ⟨rfl, e3⟩
    rw [if_neg nb, if_neg hmem] at hq
    generalize hta : tkF T L (tB t) = ta at *
    have x3 : fX μ μ3 := x2.tr o3.X
    rw [hml] at o3 m3
    have r3 : crep μ3 (6 + 4 * acc.length) C0 := by
      unfold crep at *
      rw [o3.1 _ (by omega) (by omega), o3.1 _ (by omega) (by omega), o3.1 _ (by omega) (by omega), o3.2.1]
      exact r2
    have l3 : μ3.1 1 7 = (acc.length : Int) := by rw [o3.2.2.1 7 (by omega)]; exact l2
    have d3 : ∀ i, i < acc.length → crep μ3 (6 + 4 * i) (acD acc i).2 ∧ μ3.1 4 i = (nmC (acD acc i).1 : Int) := fun i hi => by
      refine ⟨?_, ?_⟩
      · have := d2 i hi
        unfold crep at *
        rw [o3.1 _ (by omega) (by omega), o3.1 _ (by omega) (by omega), o3.1 _ (by omega) (by omega), o3.2.1]
        exact this
      · rw [o3.2.2.2 i (by omega), n2 i (by omega), hnm i hi]
    -- from here on only the draft, token, fault and lines move
    have hq : ∀ v μ', fK (6 + 4 * acc.length) μ3 μ' → lnS T L (6 + 4 * acc.length) acc.length (wkP T (cd1 T L (tkF T L (tB ta)))) v μ' → Q v μ' := fun v μ' ok hs => by
      refine hq v μ' (x3.tr (ok.X hm4)) ?_
      cases hV : wkP T (cd1 T L (tkF T L (tB ta))) with
      | inl e => rw [hV] at hs; exact hs
      | inr x =>
        obtain ⟨t', C⟩ := x
        rw [hV] at hs
        obtain ⟨p1, p2, p3, p4, p5, p6, p7, p8⟩ := hs
        refine ⟨p1, hm4, p2, p4, p5, by rw [p3, List.length_append]; rfl, fun i hi => ?_⟩
        rw [List.length_append] at hi
        have hi : i < acc.length + 1 := hi
        by_cases e : i = acc.length
        · subst e
          rw [acD_r]
          exact ⟨by rw [(ok.1 4 (by omega) (by omega)).1]; exact m3, hN3, p6, p7, p8⟩
        · rw [acD_l (by omega)]
          obtain ⟨e1, e2⟩ := d3 i (by omega)
          refine ⟨by rw [(ok.1 4 (by omega) (by omega)).1]; exact e2, (ha.2 i (by omega)).2.1, ?_, (ha.2 i (by omega)).2.2.2⟩
          unfold crep at *
          rw [(ok.1 _ (by omega) (by omega)).1, (ok.1 _ (by omega) (by omega)).1, (ok.1 _ (by omega) (by omega)).1, (ok.1 (6 + 4 * i + 3) (by omega) (by omega)).2]
          exact e1
    have T3 := h.X x3
    have hk6 : 6 ≤ 6 + 4 * acc.length := by omega
    generalize 6 + 4 * acc.length = k at *
    refine s5_readOn T3 z3 t3.2.2 hot2.2.1 (fun no μ4 o4 e4 => A0 ?_) (fun yo μ4 o4 t4 => A1 ?_)
    · have : cd1 T L (tkF T L (tB ta)) = Sum.inl (1, tA (tkF T L (tB ta))) := if_pos no
      rw [this] at hq
      exact hq 0 _ (o4.D.f).K ⟨rfl, e4⟩
    have hc1 : cd1 T L (tkF T L (tB ta)) = cd2 T L (tkF T L (tB (tkF T L (tB ta)))) := if_neg (fun q => q yo)
    rw [hc1] at hq
    have hotb := okT_tkF T (L := L) hot2.2.1
    generalize tkF T L (tB ta) = tb at *
    have z4 : μ4.1 1 6 = 0 := by rw [o4.2.2 6 (by omega) (by omega) (by omega)]; exact z3
    have l4 : μ4.1 1 7 = (acc.length : Int) := by rw [o4.2.2 7 (by omega) (by omega) (by omega)]; exact l3
    refine s5_readSizes (T3.A o4) hk6 z4 t4.2.2 hotb.2.1 (r3.A o4 (by omega)) (fun v μ5 o5 hP => ?_)
    have k5 : fK k μ3 μ5 := o4.D.K.tr o5.K
    have hc2 : cd2 T L (tkF T L (tB tb)) = match szP T L 9 (tkF T L (tB tb)) C0 with
      | Sum.inl e => Sum.inl e
      | Sum.inr (t4, C4) => cd3 T L t4 C4 := rfl
    cases hS : szP T L 9 (tkF T L (tB tb)) C0 with
    | inl e =>
      rw [hS] at hP hc2
      rw [hc2] at hq
      obtain ⟨rfl, e5⟩ := hP
      exact B0 (hq 0 μ5 k5 ⟨rfl, e5⟩)
    | inr x =>
      obtain ⟨t5, C5⟩ := x
      have hN5 := szP_N hS
      rw [hS] at hP hc2
      obtain ⟨rfl, z5, t5s, hot5, r5, hC5⟩ := hP
      rw [hc2] at hq
      have hq : ∀ v μ', fK k μ3 μ' → lnS T L k acc.length (wkP T (cd3 T L t5 C5)) v μ' → Q v μ' := hq
      have l5 : μ5.1 1 7 = (acc.length : Int) := by rw [o5.2.1 7 (by omega)]; exact l4
      have T5 : rtS μ5 T L := (T3.A o4).D o5 (by omega)
      have h05 : 0 < cN C5 := by have : cN C0 = 0 := rfl; omega
      refine B1 (s5_isKeyword (by omega) T5 t5s hot5 (fun n => A0 ?_) (fun y => A1 ?_))
      · have : cd3 T L t5 C5 = cd4 T L t5 C5 := if_neg n
        rw [this] at hq
        exact s5_line90 T5 hk6 hm4 z5 l5 t5s hot5 r5 hC5 h05 (fun v μ' o' hs => hq v μ' (k5.tr o') hs)
      · refine s5_readWeights T5 hk6 z5 t5s hot5 r5 hC5 (fun v μ7 o7 hP7 => ?_)
        have hc3 : cd3 T L t5 C5 = match wtP T L (cN C5) 0 (nxT T L t5) C5 with
          | Sum.inl e => Sum.inl e
          | Sum.inr (t5, C5) => cd4 T L t5 C5 := if_pos y
        cases hW : wtP T L (cN C5) 0 (nxT T L t5) C5 with
        | inl e =>
          rw [hW] at hP7 hc3
          rw [hc3] at hq
          obtain ⟨rfl, e5⟩ := hP7
          exact B0 (hq 0 μ7 (k5.tr o7.K) ⟨rfl, e5⟩)
        | inr x =>
          obtain ⟨t7, C7⟩ := x
          have hN7 := wtP_N hW
          rw [hW] at hP7 hc3
          obtain ⟨rfl, z7, t7s, hot7, r7, hC7⟩ := hP7
          rw [hc3] at hq
          exact B1 (s5_line90 (T5.D o7 (by omega)) hk6 hm4 z7 (by rw [o7.2.1 7 (by omega)]; exact l5) t7s hot7 r7 hC7 (by omega) (fun v μ' o' hs => hq v μ' ((k5.tr o7.K).tr o') hs))
  · rw [if_pos (by omega)] at hq
    exact hq 0 _ (o1.X.tr fX.f) ⟨rfl, fE_f t1⟩
end RD

/-! ===== the reference's calls that only ask ===== -/
theorem A0 {X Y : Prop} (h : X) : ((0 : Int) = 0 → X) ∧ (¬ (0 : Int) = 0 → Y) := ⟨fun _ => h, fun q => absurd rfl q⟩
theorem A1 {X Y : Prop} (h : Y) : ((1 : Int) = 0 → X) ∧ (¬ (1 : Int) = 0 → Y) := ⟨fun q => absurd q (by decide), fun _ => h⟩
theorem B0 {X Y : Prop} (h : X) : (¬ (0 : Int) = 0 → Y) ∧ ((0 : Int) = 0 → X) := ⟨fun q => absurd rfl q, fun _ => h⟩
theorem B1 {X Y : Prop} (h : Y) : (¬ (1 : Int) = 0 → Y) ∧ ((1 : Int) = 0 → X) := ⟨fun _ => h, fun q => absurd q (by decide)⟩
/-- the reference's other cells stay -/
def mq (μ μ' : Mem) : Prop := (∀ k, k < 115 ∨ (116 ≤ k ∧ k ≤ 120) ∨ 125 ≤ k → μ'.1 k = μ.1 k ∧ μ'.2 k = μ.2 k) ∧ (∀ j, 3 ≤ j → j ≤ 23 → μ'.1 115 j = μ.1 115 j) ∧ μ'.2 115 = μ.2 115
theorem mq.rf {μ : Mem} : mq μ μ := ⟨fun _ _ => ⟨rfl, rfl⟩, fun _ _ _ => rfl, rfl⟩
theorem mq.tr {μ μ' μ'' : Mem} (h : mq μ μ') (h2 : mq μ' μ'') : mq μ μ'' := ⟨fun k hk => ⟨(h2.1 k hk).1.trans (h.1 k hk).1, (h2.1 k hk).2.trans (h.1 k hk).2⟩, fun j h3 h4 => (h2.2.1 j h3 h4).trans (h.2.1 j h3 h4), h2.2.2.trans h.2.2⟩
theorem mq_f {μ : Mem} {j : Nat} {v : Int} (hj : j < 3 ∨ 23 < j) : mq μ (sI μ 115 j v) := ⟨fun k hk => ⟨sI_ne (by omega), rfl⟩, fun i h3 h4 => sI_nj (by omega), rfl⟩
theorem mq_a {μ : Mem} {k j : Nat} {v : Int} (hk : 121 ≤ k ∧ k ≤ 124) : mq μ (sI μ k j v) := ⟨fun q hq => ⟨sI_ne (by omega), rfl⟩, fun i h3 h4 => by rw [sI_ne (by omega)], rfl⟩
theorem mq_l {μ : Mem} {k j : Nat} {v : Int64} (hk : 121 ≤ k ∧ k ≤ 124) : mq μ (sL μ k j v) := ⟨fun q hq => ⟨rfl, sL_ne (by omega)⟩, fun i h3 h4 => rfl, sL_ne (by omega)⟩
def mtr (μ : Mem) (t : Int) : Prop := μ.1 115 0 = 0 ∧ μ.1 115 1 = t ∧ μ.1 115 2 = -1
def mz (μ μ' : Mem) : Prop := mq μ μ' ∧ μ'.1 115 0 = 0
theorem mz_0 {μ μ1 : Mem} (e : μ1 = sI μ 115 0 0) : mz μ μ1 := by
  subst e
  exact ⟨mq_f (by omega), sI_s⟩
def mrs (μ : Mem) (cs : Nat → Cd) : Prop := ∀ c, c < 8 → mrow μ c (cs c) ∧ okC (cs c)
theorem mrs.to {μ μ' : Mem} {cs : Nat → Cd} (h : mrs μ cs) (hq : mq μ μ') : mrs μ' cs := fun c hc => ⟨(h c hc).1.to (hq.1 117 (by omega)).1, (h c hc).2⟩
def QH (Q : Int → Mem → Prop) (μ : Mem) (o : Int × Int) : Prop := ∀ μ', mq μ μ' → mtr μ' o.2 → Q o.1 μ'
theorem e_ref {Q : Int → Mem → Prop} {μ μ2 : Mem} {o : Int × Int} {t : Int} (HQ : QH Q μ o) (hz : mz μ μ2) (ho : o = (-1, t)) : wp_X8_refused t μ2 Q := by
  rintro μ3 rfl μ4 rfl
  subst ho
  refine HQ _ (hz.1.tr ((mq_f (by omega)).tr (mq_f (by omega)))) ⟨?_, ?_, sI_s⟩
  · rw [sI_nj (by omega), sI_nj (by omega)]; exact hz.2
  · rw [sI_nj (by omega), sI_s]
theorem e_good {Q : Int → Mem → Prop} {μ μ2 : Mem} {o : Int × Int} {v : Int} (HQ : QH Q μ o) (hz : mz μ μ2) (ho : o = (v, 0)) : wp_X8_good v μ2 Q := by
  rintro μ3 rfl μ4 rfl
  subst ho
  refine HQ _ (hz.1.tr ((mq_f (by omega)).tr (mq_f (by omega)))) ⟨?_, ?_, sI_s⟩
  · rw [sI_nj (by omega), sI_nj (by omega)]; exact hz.2
  · rw [sI_nj (by omega), sI_s]
section RQ
variable {μ : Mem} {cs : Nat → Cd} {Q : Int → Mem → Prop} {c w v i k r a d : Int}
theorem c_in {b e : Int} (h0 : ¬ (b ≤ a ∧ a ≤ e) → Q 0 μ) (h1 : b ≤ a ∧ a ≤ e → Q 1 μ) : wp_X8_in a b e μ Q := by
  apply s_in
  by_cases h : b ≤ a ∧ a ≤ e
  · rw [decide_eq_true h]; exact h1 h
  · rw [decide_eq_false h]; exact h0 h
theorem c_isR (h0 : ¬ isRr r → Q 0 μ) (h1 : isRr r → Q 1 μ) : wp_X8_isSlips r μ Q := c_in (fun h => ⟨Or.inl rfl, h0 h⟩) (fun h => ⟨Or.inr rfl, h1 h⟩)
theorem c_isTo (h0 : ¬ (0 ≤ c ∧ c < 8) → Q 0 μ) (h1 : 0 ≤ c ∧ c < 8 → Q 1 μ) : wp_X8_isTo c μ Q := c_in (fun h => ⟨Or.inl rfl, h0 (by omega)⟩) (fun h => ⟨Or.inr rfl, h1 (by omega)⟩)
theorem c_isK (hR : mrs μ cs) (h0 : ¬ isK cs c → Q 0 μ) (h1 : isK cs c → Q 1 μ) : wp_X8_isCode c μ Q := by
  refine c_in (fun h => A0 (h0 (fun q => h (by omega)))) (fun h => A1 ?_)
  obtain ⟨n, rfl⟩ := Int.eq_ofNat_of_zero_le h.1
  have hn : n < 8 := by omega
  refine s_places (hR n hn).1 (by omega) ⟨fun q => h0 (fun y => ?_), fun q => h1 ⟨h.1, by omega, ?_⟩⟩
  · have := y.2.2
    rw [Int.toNat_natCast] at this
    omega
  · rw [Int.toNat_natCast]
    omega
theorem isK.nat {cs : Nat → Cd} {c : Int} (h : isK cs c) : ∃ n : Nat, c = (n : Int) ∧ n < 8 ∧ 0 < cN (cs n) := by
  obtain ⟨n, rfl⟩ := Int.eq_ofNat_of_zero_le h.1
  exact ⟨n, rfl, by have := h.2.1; omega, by have := h.2.2; rwa [Int.toNat_natCast] at this⟩
theorem isWd.nat {cs : Nat → Cd} {c w : Int} (h : isWd cs c w) : ∃ n m : Nat, c = (n : Int) ∧ w = (m : Int) ∧ n < 8 ∧ 0 < cN (cs n) ∧ m < cW (cs n) := by
  obtain ⟨n, rfl, h1, h2⟩ := h.1.nat
  obtain ⟨m, rfl⟩ := Int.eq_ofNat_of_zero_le h.2.1
  exact ⟨n, m, rfl, rfl, h1, h2, by have := h.2.2; rw [Int.toNat_natCast] at this; omega⟩
theorem isPl.nat {cs : Nat → Cd} {c w : Int} (h : isPl cs c w) : ∃ n m : Nat, c = (n : Int) ∧ w = (m : Int) ∧ n < 8 ∧ 0 < cN (cs n) ∧ m < cN (cs n) := by
  obtain ⟨n, rfl, h1, h2⟩ := h.1.nat
  obtain ⟨m, rfl⟩ := Int.eq_ofNat_of_zero_le h.2.1
  exact ⟨n, m, rfl, rfl, h1, h2, by have := h.2.2; rw [Int.toNat_natCast] at this; omega⟩
theorem isRr.nat {r : Int} (h : isRr r) : ∃ n : Nat, r = (n : Int) ∧ n ≤ 24 := by
  obtain ⟨n, rfl⟩ := Int.eq_ofNat_of_zero_le h.1
  exact ⟨n, rfl, by have := h.2; omega⟩
theorem c_isPl (hR : mrs μ cs) (h0 : ¬ isPl cs c i → Q 0 μ) (h1 : isPl cs c i → Q 1 μ) : wp_X8_isPlace c i μ Q := by
  refine c_isK hR (fun h => A0 (h0 (fun q => h q.1))) (fun h => A1 ?_)
  obtain ⟨n, rfl, hn, hp⟩ := h.nat
  have h8 := (hR n hn).2.1
  refine s_places (hR n hn).1 (by omega) ⟨inR_i (by omega) (by omega), c_in (fun q => A0 (h0 (fun y => q ⟨y.2.1, ?_⟩))) (fun q => A1 (h1 ⟨h, q.1, ?_⟩))⟩
  · have := y.2.2
    rw [Int.toNat_natCast] at this
    omega
  · rw [Int.toNat_natCast]
    omega
theorem c_isWd (hR : mrs μ cs) (h0 : ¬ isWd cs c w → Q 0 μ) (h1 : isWd cs c w → Q 1 μ) : wp_X8_isWordOf c w μ Q := by
  refine c_isK hR (fun h => A0 (h0 (fun q => h q.1))) (fun h => A1 ?_)
  obtain ⟨n, rfl, hn, hp⟩ := h.nat
  have h8 := (hR n hn).2.2.2.2.1
  refine s_words (hR n hn).1 (by omega) (hR n hn).2 ⟨inR_i (by omega) (by omega), c_in (fun q => A0 (h0 (fun y => q ⟨y.2.1, ?_⟩))) (fun q => A1 (h1 ⟨h, q.1, ?_⟩))⟩
  · have := y.2.2
    rw [Int.toNat_natCast] at this
    omega
  · rw [Int.toNat_natCast]
    omega
theorem s8_far (hR : mrs μ cs) (HQ : QH Q μ (q_far cs c w v)) : wp_X8_far c w v μ Q := by
  intro μ1 e1
  have hz := mz_0 e1
  have hR1 := hR.to hz.1
  refine c_isWd hR1 (fun n => A0 (e_ref HQ hz (if_neg (fun q => n q.1)))) (fun y => A1 ?_)
  refine c_isWd hR1 (fun n => A0 (e_ref HQ hz (if_neg (fun q => n q.2)))) (fun y2 => A1 ?_)
  have hq : q_far cs c w v = _ := if_pos ⟨y, y2⟩
  obtain ⟨n, m, rfl, rfl, hn, hp, hm⟩ := y.nat
  obtain ⟨n2, m2, e, rfl, -, -, hm2⟩ := y2.nat
  have e : n = n2 := by omega
  subst e
  have h8 := (hR n hn).2.2.2.2.1
  simp only [Int.toNat_natCast] at hq
  refine s_farOf (hR1 n hn).1 (by omega) (hR1 n hn).2 (by omega) (by omega) (e_good HQ hz hq)
theorem s8_digit (hR : mrs μ cs) (HQ : QH Q μ (q_digit cs c w i)) : wp_X8_digit c w i μ Q := by
  intro μ1 e1
  have hz := mz_0 e1
  have hR1 := hR.to hz.1
  refine c_isWd hR1 (fun n => A0 (e_ref HQ hz (if_neg (fun q => n q.1)))) (fun y => A1 ?_)
  refine c_isPl hR1 (fun n => A0 (e_ref HQ hz (if_neg (fun q => n q.2)))) (fun y2 => A1 ?_)
  have hq : q_digit cs c w i = _ := if_pos ⟨y, y2⟩
  obtain ⟨n, m, rfl, rfl, hn, hp, hm⟩ := y.nat
  obtain ⟨n2, m2, e, rfl, -, -, hm2⟩ := y2.nat
  have e : n = n2 := by omega
  subst e
  have h8 := (hR n hn).2.2.2.2.1
  simp only [Int.toNat_natCast] at hq
  exact s_digitOf (hR1 n hn).1 (by omega) (hR1 n hn).2 (by omega) hm2 (e_good HQ hz hq)
theorem s8_has (hR : mrs μ cs) (HQ : QH Q μ (q_has cs c w)) : wp_X8_has c w μ Q := by
  intro μ1 e1
  have hz := mz_0 e1
  have hR1 := hR.to hz.1
  refine c_isWd hR1 (fun n => A0 (e_ref HQ hz (if_neg n))) (fun y => A1 ?_)
  have hq : q_has cs c w = _ := if_pos y
  obtain ⟨n, m, rfl, rfl, hn, hp, hm⟩ := y.nat
  have h8 := (hR n hn).2.2.2.2.1
  simp only [Int.toNat_natCast] at hq
  refine s_isIn (hR1 n hn).1 (by omega) (by omega) ⟨fun q => e_good HQ hz ?_, fun q => e_good HQ hz ?_⟩
  · rw [hq, q]
  · rw [hq, bI_n0.mp q]; rfl
theorem s8_place (hR : mrs μ cs) (HQ : QH Q μ (q_place cs c i a)) : wp_X8_place c i a μ Q := by
  intro μ1 e1
  have hz := mz_0 e1
  have hR1 := hR.to hz.1
  refine c_isPl hR1 (fun n => A0 (e_ref HQ hz (if_neg (fun q => n q.1)))) (fun y => A1 ?_)
  refine c_in (fun n => B0 (e_ref HQ hz (if_neg (fun q => n q.2)))) (fun y2 => B1 ?_)
  have hq : q_place cs c i a = _ := if_pos ⟨y, y2⟩
  obtain ⟨n, m, rfl, rfl, hn, hp, hm⟩ := y.nat
  simp only [Int.toNat_natCast] at hq
  refine ⟨fun q => ?_, fun q => ?_⟩
  · exact s_weightOf (hR1 n hn).1 (by omega) (hR1 n hn).2 hm (e_good HQ hz (by rw [hq, if_neg q]))
  · exact s_sizeOf (hR1 n hn).1 (by omega) (hR1 n hn).2 hm (e_good HQ hz (by rw [hq, if_pos q]))
theorem s_ballOf {n r : Nat} {C : Cd} (h : mrow μ n C) (hn : n < 14) (hC : okC C) (hq : Q (blF C r : Nat) μ) : wp_X8_ballOf n r μ Q := by
  refine LP5_rule (fun (v1 v2 v3 v4 : Int) (μ' : Mem) => v1 = (n : Int) ∧ v2 = (r : Int) ∧ μ' = μ ∧ ∃ i : Nat, v4 = (i : Int) ∧ i ≤ cW C ∧ v3 = ((ctF (fun v => decide (cF C 0 v ≤ r)) i : Nat) : Int)) (fun _ _ _ v4 _ => ((cW C : Int) - v4).toNat) ?_ ⟨rfl, rfl, rfl, 0, rfl, Nat.zero_le _, rfl⟩
  rintro X v1 v2 v3 v4 μ' ⟨rfl, rfl, rfl, i, rfl, hi, rfl⟩ hX
  have h8 := hC.2.2.2.1
  refine s_words h hn hC ⟨fun q => ?_, fun q => ?_⟩
  · have e : i = cW C := by omega
    subst e
    exact hq
  · have hl := ctF_le (fun v => decide (cF C 0 v ≤ r)) i
    have hs : ctF (fun v => decide (cF C 0 v ≤ r)) (i + 1) = ctF (fun v => decide (cF C 0 v ≤ r)) i + (if decide (cF C 0 i ≤ r) then 1 else 0) := rfl
    refine s_farOf (w := 0) (v := i) h hn hC (by omega) (by omega) ⟨fun q => ?_, fun q => ?_⟩
    · rw [decide_eq_false (by omega)] at hs
      exact ⟨inR_i (by omega) (by omega), fun x7 e7 => ⟨inR_i (by omega) (by omega), hX _ _ _ _ _ ⟨rfl, rfl, rfl, i + 1, rfl, by omega, by rw [e7, hs]; simp⟩ (by omega)⟩⟩
    · rw [decide_eq_true (by omega)] at hs
      exact ⟨inR_i (by omega) (by omega), fun x7 e7 => ⟨inR_i (by omega) (by omega), hX _ _ _ _ _ ⟨rfl, rfl, rfl, i + 1, rfl, by omega, by rw [e7, hs]; simp⟩ (by omega)⟩⟩
theorem s8_ball (hR : mrs μ cs) (HQ : QH Q μ (q_ball cs c r)) : wp_X8_ball c r μ Q := by
  intro μ1 e1
  have hz := mz_0 e1
  have hR1 := hR.to hz.1
  refine c_isK hR1 (fun n => B0 (e_ref HQ hz (if_neg n))) (fun y => B1 ?_)
  have hq : q_ball cs c r = _ := if_pos y
  refine c_isR (fun n => A0 (e_ref HQ hz (hq.trans (if_neg n)))) (fun y2 => A1 ?_)
  rw [if_pos y2] at hq
  obtain ⟨n, rfl, hn, hp⟩ := y.nat
  obtain ⟨m, rfl, hm⟩ := y2.nat
  simp only [Int.toNat_natCast] at hq
  exact s_ballOf (hR1 n hn).1 (by omega) (hR1 n hn).2 (e_good HQ hz hq)
end RQ

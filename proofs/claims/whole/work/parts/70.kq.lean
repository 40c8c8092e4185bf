/-! ===== the class: calls that only ask ===== -/
/-- the class's other cells stay -/
def kq (μ μ' : Mem) : Prop := (∀ q, q ≠ 0 → (q < 70 ∨ 83 ≤ q) → μ'.1 q = μ.1 q ∧ μ'.2 q = μ.2 q) ∧ (∀ j, j ≠ 8 → j ≠ 9 → μ'.1 0 j = μ.1 0 j) ∧ μ'.2 0 = μ.2 0
theorem kq.rf {μ : Mem} : kq μ μ := ⟨fun _ _ _ => ⟨rfl, rfl⟩, fun _ _ _ => rfl, rfl⟩
theorem kq.tr {μ μ' μ'' : Mem} (h : kq μ μ') (h2 : kq μ' μ'') : kq μ μ'' := ⟨fun q a b => ⟨(h2.1 q a b).1.trans (h.1 q a b).1, (h2.1 q a b).2.trans (h.1 q a b).2⟩, fun j a b => (h2.2.1 j a b).trans (h.2.1 j a b), h2.2.2.trans h.2.2⟩
theorem kq.f {μ : Mem} {j : Nat} {v : Int} (hj : j = 8 ∨ j = 9) : kq μ (sI μ 0 j v) := ⟨fun q a _ => ⟨sI_ne a, rfl⟩, fun i a b => sI_nj (by omega), rfl⟩
theorem oG.k {μ μ' : Mem} (h : oG μ μ') : kq μ μ' := ⟨fun q _ b => ⟨h.1 q (by omega) (by omega), by rw [h.2]⟩, fun j _ _ => by rw [h.1 0 (by omega) (by omega)], by rw [h.2]⟩
theorem oT.k {μ μ' : Mem} (h : oT μ μ') : kq μ μ' := ⟨fun q _ b => ⟨h.1 q (by omega) (by omega), by rw [h.2]⟩, fun j _ _ => by rw [h.1 0 (by omega) (by omega)], by rw [h.2]⟩
theorem crep.k {μ μ' : Mem} {k : Nat} {C : Cd} (h : crep μ k C) (ho : kq μ μ') (hk : (0 < k ∧ k + 4 ≤ 70) ∨ 83 ≤ k) : crep μ' k C := by
  unfold crep at *
  rw [(ho.1 k (by omega) (by omega)).1, (ho.1 (k + 1) (by omega) (by omega)).1, (ho.1 (k + 2) (by omega) (by omega)).1, (ho.1 (k + 3) (by omega) (by omega)).2]
  exact h
def ktr (μ : Mem) (t : Int) : Prop := μ.1 0 8 = t ∧ μ.1 0 9 = -1
/-- the eight codes -/
def krs (μ : Mem) (cs : Nat → Cd) : Prop := ∀ c, c < 8 → crep μ (83 + 4 * c) (cs c) ∧ okC (cs c)
theorem krs.to {μ μ' : Mem} {cs : Nat → Cd} (h : krs μ cs) (hq : kq μ μ') : krs μ' cs := fun c hc => ⟨(h c hc).1.k hq (by omega), (h c hc).2⟩
def KH (Q : Int → Mem → Prop) (μ : Mem) (o : Int × Int) : Prop := ∀ μ', kq μ μ' → ktr μ' o.2 → Q o.1 μ'
theorem e7_no {Q : Int → Mem → Prop} {μ μ2 : Mem} {o : Int × Int} {t : Int} (HQ : KH Q μ o) (hz : kq μ μ2) (ho : o = (-1, t)) : wp_X7_refuse t μ2 Q := by
  rintro μ3 rfl μ4 rfl
  subst ho
  exact HQ _ (hz.tr ((kq.f (by omega)).tr (kq.f (by omega)))) ⟨by rw [sI_nj (by omega), sI_s], sI_s⟩
theorem e7_yes {Q : Int → Mem → Prop} {μ μ2 : Mem} {o : Int × Int} {v : Int} (HQ : KH Q μ o) (hz : kq μ μ2) (ho : o = (v, 0)) : wp_X7_accept v μ2 Q := by
  rintro μ3 rfl μ4 rfl
  subst ho
  exact HQ _ (hz.tr ((kq.f (by omega)).tr (kq.f (by omega)))) ⟨by rw [sI_nj (by omega), sI_s], sI_s⟩
theorem A2 {X Y : Prop} (h : Y) : ((2 : Int) = 0 → X) ∧ (¬ (2 : Int) = 0 → Y) := ⟨fun q => absurd q (by decide), fun _ => h⟩
section KQ
variable {μ : Mem} {cs : Nat → Cd} {Q P : Int → Mem → Prop} {c w v i k r a d : Int}
theorem c7_isR (h0 : ¬ isRr r → P 0 μ) (h1 : isRr r → P 1 μ) : wp_X7_isSlips r μ P :=
  ⟨fun q => h0 (fun y => by have := y.1; omega), fun q => ⟨fun q2 => h0 (fun y => by have := y.2; omega), fun q2 => h1 ⟨by omega, by omega⟩⟩⟩
theorem c7_isK (hR : krs μ cs) (h0 : ¬ isK cs c → P 0 μ) (h1 : isK cs c → P 1 μ) : wp_X7_isCode c μ P := by
  refine ⟨fun q => A0 (h0 fun y => by have := y.1; omega), fun q => ⟨fun q2 => A0 (h0 fun y => by have := y.2.1; omega), fun q2 => A1 ⟨by omega, ?_⟩⟩⟩
  obtain ⟨n, rfl⟩ := Int.eq_ofNat_of_zero_le (show 0 ≤ c by omega)
  rw [Int.toNat_natCast, (hR n (by omega)).1.1]
  refine ⟨fun q3 => h0 fun y => ?_, fun q3 => h1 ⟨by omega, by omega, ?_⟩⟩
  · have h2 := y.2.2
    rw [Int.toNat_natCast] at h2
    exact absurd h2 (of_decide_eq_false (bI_0.mp q3))
  · rw [Int.toNat_natCast]
    exact of_decide_eq_true (bI_n0.mp q3)
theorem c7_isW (hR : krs μ cs) (h0 : ¬ isWd cs c w → P 0 μ) (h1 : isWd cs c w → P 1 μ) : wp_X7_isWord c w μ P := by
  refine c7_isK hR (fun h => A0 (h0 fun y => h y.1)) (fun h => A1 ⟨fun q => h0 fun y => by have := y.2.1; omega, fun q => ⟨⟨h.1, h.2.1⟩, ?_⟩⟩)
  obtain ⟨n, rfl, hn, hp⟩ := h.nat
  rw [Int.toNat_natCast, (hR n hn).1.2.2.1]
  refine ⟨fun q2 => h0 fun y => ?_, fun q2 => h1 ⟨h, by omega, ?_⟩⟩
  · have h3 := y.2.2
    rw [Int.toNat_natCast] at h3
    omega
  · rw [Int.toNat_natCast]; omega
theorem c7_isP (hR : krs μ cs) (h0 : ¬ isPl cs c i → P 0 μ) (h1 : isPl cs c i → P 1 μ) : wp_X7_isPlace c i μ P := by
  refine c7_isK hR (fun h => A0 (h0 fun y => h y.1)) (fun h => A1 ⟨fun q => h0 fun y => by have := y.2.1; omega, fun q => ⟨⟨h.1, h.2.1⟩, ?_⟩⟩)
  obtain ⟨n, rfl, hn, hp⟩ := h.nat
  rw [Int.toNat_natCast, (hR n hn).1.2.1]
  refine ⟨fun q2 => h0 fun y => ?_, fun q2 => h1 ⟨h, by omega, ?_⟩⟩
  · have h3 := y.2.2
    rw [Int.toNat_natCast] at h3
    omega
  · rw [Int.toNat_natCast]; omega
theorem c7_isD {n u : Nat} (hR : krs μ cs) (hn : n < 8) (hu : u < cN (cs n)) (h0 : ¬ (0 ≤ d ∧ d < (cS (cs n) u : Int)) → P 0 μ) (h1 : 0 ≤ d ∧ d < (cS (cs n) u : Int) → P 1 μ) : wp_X7_isDigit n u d μ P := by
  have h8 := (hR n hn).2.1
  have hpl := ((hR n hn).1.2.2.2.2.1 u hu).1
  unfold wp_X7_isDigit
  rw [Int.toNat_natCast, Int.toNat_natCast, hpl]
  exact ⟨fun q => h0 (by omega), fun q => ⟨by omega, by omega, fun q2 => h0 (by omega), fun q2 => h1 (by omega)⟩⟩
/-- a code and slips, or what is wrong -/
theorem f7_K (hR : krs μ cs) (n1 : ¬ isK cs c → P 1 μ) (n2 : isK cs c → ¬ isRr r → P 2 μ) (n3 : isK cs c → isRr r → P 0 μ) : wp_X7_isCode c μ (fun r2 μ1 => wp_X7_isSlips r μ1 (fun r4 μ3 => wp_X7_flawOf r2 r4 μ3 P)) :=
  c7_isK hR (fun h => c7_isR (fun _ => ⟨fun q => absurd rfl q, fun _ => n1 h⟩) (fun _ => ⟨fun q => absurd rfl q, fun _ => n1 h⟩))
    (fun h => c7_isR (fun h2 => ⟨fun _ => ⟨fun _ => n2 h h2, fun q => absurd rfl q⟩, fun q => absurd q (by decide)⟩) (fun h2 => ⟨fun _ => ⟨fun q => absurd q (by decide), fun _ => n3 h h2⟩, fun q => absurd q (by decide)⟩))
theorem f7_W (hR : krs μ cs) (n1 : ¬ isWd cs c w → P 1 μ) (n2 : isWd cs c w → ¬ isRr r → P 2 μ) (n3 : isWd cs c w → isRr r → P 0 μ) : wp_X7_isWord c w μ (fun r2 μ1 => wp_X7_isSlips r μ1 (fun r4 μ3 => wp_X7_flawOf r2 r4 μ3 P)) :=
  c7_isW hR (fun h => c7_isR (fun _ => ⟨fun q => absurd rfl q, fun _ => n1 h⟩) (fun _ => ⟨fun q => absurd rfl q, fun _ => n1 h⟩))
    (fun h => c7_isR (fun h2 => ⟨fun _ => ⟨fun _ => n2 h h2, fun q => absurd rfl q⟩, fun q => absurd q (by decide)⟩) (fun h2 => ⟨fun _ => ⟨fun q => absurd q (by decide), fun _ => n3 h h2⟩, fun q => absurd q (by decide)⟩))
/-- slips, with a flag before -/
theorem f7_0 (n1 : P 1 μ) : wp_X7_isSlips r μ (fun r5 μ4 => wp_X7_flawOf 0 r5 μ4 P) :=
  c7_isR (fun _ => ⟨fun q => absurd rfl q, fun _ => n1⟩) (fun _ => ⟨fun q => absurd rfl q, fun _ => n1⟩)
theorem f7_1 (n2 : ¬ isRr r → P 2 μ) (n3 : isRr r → P 0 μ) : wp_X7_isSlips r μ (fun r5 μ4 => wp_X7_flawOf 1 r5 μ4 P) :=
  c7_isR (fun h2 => ⟨fun _ => ⟨fun _ => n2 h2, fun q => absurd rfl q⟩, fun q => absurd q (by decide)⟩) (fun h2 => ⟨fun _ => ⟨fun q => absurd q (by decide), fun _ => n3 h2⟩, fun q => absurd q (by decide)⟩)
theorem s7_layTimes {p m : Nat} {C : Cd} {R : Mem → Prop} (hp : crep μ p C) (hC : okC C) (hk : (0 < p ∧ p + 4 ≤ 70) ∨ 83 ≤ p) (hq : ∀ μ', kq μ μ' → crep μ' p C → grS μ' C (cN C) → (∀ x, x < cW C → μ'.1 72 x = (tmF C m x : Int)) → R μ') : wp_X7_layTimes p m μ R :=
  s3_lay hp hC (by omega) fun μ1 o1 g1 => s3_countTimes (hp.G o1 (by omega)) hC g1 (by omega) fun μ2 o2 t2 => hq μ2 (o1.k.tr o2.T.k) (hp.k (o1.k.tr o2.T.k) hk) (g1.t o2) t2
theorem s7_word (hR : krs μ cs) (rk : inR k) (HQ : KH Q μ (q_word cs c k)) : wp_X7_word c k μ Q := by
  refine c7_isK hR (fun n => A0 (e7_no HQ kq.rf (if_neg (fun q => n q.1)))) (fun y => A1 ⟨fun h => ⟨⟨y.1, y.2.1⟩, ?_⟩, fun h => e7_no HQ kq.rf (if_neg (fun q => h q.2))⟩)
  have hq : q_word cs c k = _ := if_pos ⟨y, h⟩
  obtain ⟨n, rfl, hn, hp⟩ := y.nat
  simp only [Int.toNat_natCast] at hq ⊢
  exact s1_codeword (hR n hn).1 (hR n hn).2 h rk.2 (e7_yes HQ kq.rf hq)
theorem s7_has (hR : krs μ cs) (HQ : KH Q μ (q_has cs c w)) : wp_X7_has c w μ Q := by
  refine c7_isW hR (fun n => B0 (e7_no HQ kq.rf (if_neg n))) (fun y => B1 ⟨⟨y.1.1, y.1.2.1⟩, ?_⟩)
  have hq : q_has cs c w = _ := if_pos y
  obtain ⟨n, m, rfl, rfl, hn, hp, hm⟩ := y.nat
  simp only [Int.toNat_natCast] at hq ⊢
  refine s1_holds (hR n hn).1 (hR n hn).2 ⟨fun q => e7_yes HQ kq.rf (hq.trans ?_), fun q => e7_yes HQ kq.rf (hq.trans ?_)⟩
  · rw [q]
  · rw [bI_n0.mp q]; rfl
theorem s7_place (hR : krs μ cs) (HQ : KH Q μ (q_place cs c i a)) : wp_X7_place c i a μ Q := by
  refine c7_isP hR (fun n => A0 (e7_no HQ kq.rf (if_neg (fun q => n q.1)))) (fun y => A1 ⟨fun q => e7_no HQ kq.rf (if_neg (fun z => by omega)), fun q => ⟨fun q2 => ?_, fun q2 => e7_no HQ kq.rf (if_neg (fun z => by omega))⟩⟩)
  have hq : q_place cs c i a = _ := if_pos ⟨y, by omega, q2⟩
  obtain ⟨n, m, rfl, rfl, hn, hp, hm⟩ := y.nat
  simp only [Int.toNat_natCast] at hq ⊢
  have h := (hR n hn).1
  have h8 := (hR n hn).2.1
  have hpl := h.2.2.2.2.1 m hm
  refine ⟨fun q3 => ⟨by omega, by omega, ?_⟩, fun q3 => ⟨by omega, by omega, ?_⟩⟩
  · rw [if_neg q3] at hq
    rw [hpl.2]
    exact e7_yes HQ kq.rf hq
  · rw [if_pos q3] at hq
    rw [hpl.1]
    exact e7_yes HQ kq.rf hq
theorem s7_digit (hR : krs μ cs) (HQ : KH Q μ (q_digit cs c w i)) : wp_X7_digit c w i μ Q := by
  refine c7_isW hR (fun n => A0 (e7_no HQ kq.rf (if_neg (fun q => n q.1)))) (fun y => A1 (c7_isP hR (fun n => B0 (e7_no HQ kq.rf (if_neg (fun q => n q.2)))) (fun y2 => B1 ⟨⟨y.1.1, y.1.2.1⟩, ?_⟩)))
  have hq : q_digit cs c w i = _ := if_pos ⟨y, y2⟩
  obtain ⟨n, m, rfl, rfl, hn, hp, hm⟩ := y.nat
  obtain ⟨n', u, e, rfl, -, -, hu⟩ := y2.nat
  obtain rfl : n = n' := by omega
  simp only [Int.toNat_natCast] at hq ⊢
  exact s3_lay (hR n hn).1 (hR n hn).2 (by omega) fun μ1 o1 g1 => s3_digitAt g1 (hR n hn).2 hm hu (e7_yes HQ o1.k hq)
theorem s7_far (hR : krs μ cs) (HQ : KH Q μ (q_far cs c w v)) : wp_X7_far c w v μ Q := by
  refine c7_isW hR (fun n => A0 (e7_no HQ kq.rf (if_neg (fun q => n q.1)))) (fun y => A1 (c7_isW hR (fun n => B0 (e7_no HQ kq.rf (if_neg (fun q => n q.2)))) (fun y2 => B1 ⟨⟨y.1.1, y.1.2.1⟩, ?_⟩)))
  have hq : q_far cs c w v = _ := if_pos ⟨y, y2⟩
  obtain ⟨n, m, rfl, rfl, hn, hp, hm⟩ := y.nat
  obtain ⟨n', u, e, rfl, -, -, hu⟩ := y2.nat
  obtain rfl : n = n' := by omega
  simp only [Int.toNat_natCast] at hq ⊢
  exact s3_lay (hR n hn).1 (hR n hn).2 (by omega) fun μ1 o1 g1 => s3_distance g1 (hR n hn).2 hm hu (e7_yes HQ o1.k hq)
theorem s7_ball (hR : krs μ cs) (HQ : KH Q μ (q_ball cs c r)) : wp_X7_ball c r μ Q := by
  refine f7_K hR (fun n => A1 (e7_no HQ kq.rf (if_neg n))) (fun y n => A2 (e7_no HQ kq.rf ((if_pos y).trans (if_neg n)))) (fun y y2 => A0 ⟨⟨y.1, y.2.1⟩, ?_⟩)
  have hq : q_ball cs c r = _ := (if_pos y).trans (if_pos y2)
  obtain ⟨n, rfl, hn, hp⟩ := y.nat
  obtain ⟨m, rfl, hm⟩ := y2.nat
  simp only [Int.toNat_natCast] at hq ⊢
  exact s3_lay (hR n hn).1 (hR n hn).2 (by omega) fun μ1 o1 g1 => s3_ballSize g1 (hR n hn).2 (e7_yes HQ o1.k hq)
theorem s7_bound (hR : krs μ cs) (HQ : KH Q μ (q_bound cs c r)) : wp_X7_bound c r μ Q := by
  refine f7_K hR (fun n => A1 (e7_no HQ kq.rf (if_neg n))) (fun y n => A2 (e7_no HQ kq.rf ((if_pos y).trans (if_neg n)))) (fun y y2 => A0 ⟨⟨y.1, y.2.1⟩, ?_⟩)
  have hq : q_bound cs c r = _ := (if_pos y).trans (if_pos y2)
  obtain ⟨n, rfl, hn, hp⟩ := y.nat
  obtain ⟨m, rfl, hm⟩ := y2.nat
  simp only [Int.toNat_natCast] at hq ⊢
  exact s3_lay (hR n hn).1 (hR n hn).2 (by omega) fun μ1 o1 g1 => s3_fewestByCount g1 (hR n hn).2 (e7_yes HQ o1.k hq)
theorem s7_covered (hR : krs μ cs) (HQ : KH Q μ (q_covered cs c r)) : wp_X7_covered c r μ Q := by
  refine f7_K hR (fun n => A1 (e7_no HQ kq.rf (if_neg n))) (fun y n => A2 (e7_no HQ kq.rf ((if_pos y).trans (if_neg n)))) (fun y y2 => A0 ⟨⟨y.1, y.2.1⟩, ?_⟩)
  have hq : q_covered cs c r = _ := (if_pos y).trans (if_pos y2)
  obtain ⟨n, rfl, hn, hp⟩ := y.nat
  obtain ⟨m, rfl, hm⟩ := y2.nat
  simp only [Int.toNat_natCast] at hq ⊢
  have hC := (hR n hn).2
  have h8 := hC.2.2.2.1
  refine s7_layTimes (hR n hn).1 hC (by omega) fun μ1 o1 p1 g1 t1 => s3_withTimes (k := 0) g1 hC t1 ?_
  have g0 : μ1.1 70 0 = (cW (cs n) : Int) := g1.1
  have e : ctF (fun w => decide ((tmF (cs n) m w : Int) = 0)) (cW (cs n)) = hlF (cs n) m := ctF_cong fun w _ => decide_eq_decide.mpr (by omega)
  have hl := ctF_le (fun w => decide (tmF (cs n) m w = 0)) (cW (cs n))
  have e2 : hlF (cs n) m = ctF (fun w => decide (tmF (cs n) m w = 0)) (cW (cs n)) := rfl
  rw [e, g0]
  exact ⟨inR_i (by omega) (by omega), e7_yes HQ o1 hq⟩
theorem s7_excess (hR : krs μ cs) (HQ : KH Q μ (q_excess cs c r)) : wp_X7_excess c r μ Q := by
  refine f7_K hR (fun n => A1 (e7_no HQ kq.rf (if_neg n))) (fun y n => A2 (e7_no HQ kq.rf ((if_pos y).trans (if_neg n)))) (fun y y2 => A0 ⟨⟨y.1, y.2.1⟩, ?_⟩)
  have hq : q_excess cs c r = _ := (if_pos y).trans (if_pos y2)
  obtain ⟨n, rfl, hn, hp⟩ := y.nat
  obtain ⟨m, rfl, hm⟩ := y2.nat
  simp only [Int.toNat_natCast] at hq ⊢
  have hC := (hR n hn).2
  have h8 := hC.2.2.2.1
  exact s7_layTimes (hR n hn).1 hC (by omega) fun μ1 o1 p1 g1 t1 => s3_timesTooMany g1 hC t1 (fun x => by have h9 := ctF_le (fun v => cM (cs n) v && decide (cF (cs n) x v ≤ m)) (cW (cs n)); show ctF _ _ ≤ 256; omega) (e7_yes HQ o1 hq)
theorem s7_times (hR : krs μ cs) (HQ : KH Q μ (q_times cs c w r)) : wp_X7_times c w r μ Q := by
  refine f7_W hR (fun n => A1 (e7_no HQ kq.rf (if_neg n))) (fun y n => A2 (e7_no HQ kq.rf ((if_pos y).trans (if_neg n)))) (fun y y2 => A0 ⟨⟨y.1.1, y.1.2.1⟩, ?_⟩)
  have hq : q_times cs c w r = _ := (if_pos y).trans (if_pos y2)
  obtain ⟨n, u, rfl, rfl, hn, hp, hu⟩ := y.nat
  obtain ⟨m, rfl, hm⟩ := y2.nat
  simp only [Int.toNat_natCast] at hq ⊢
  have hC := (hR n hn).2
  have h8 := hC.2.2.2.1
  refine s7_layTimes (hR n hn).1 hC (by omega) fun μ1 o1 p1 g1 t1 => ⟨by omega, ?_⟩
  rw [t1 u hu]
  exact e7_yes HQ o1 hq
theorem s7_worth (hR : krs μ cs) (HQ : KH Q μ (q_worth cs c w r)) : wp_X7_worth c w r μ Q := by
  refine f7_W hR (fun n => A1 (e7_no HQ kq.rf (if_neg n))) (fun y n => A2 (e7_no HQ kq.rf ((if_pos y).trans (if_neg n)))) (fun y y2 => A0 ⟨⟨y.1.1, y.1.2.1⟩, ?_⟩)
  have hq : q_worth cs c w r = _ := (if_pos y).trans (if_pos y2)
  obtain ⟨n, u, rfl, rfl, hn, hp, hu⟩ := y.nat
  obtain ⟨m, rfl, hm⟩ := y2.nat
  simp only [Int.toNat_natCast] at hq ⊢
  have hC := (hR n hn).2
  refine s1_holds (hR n hn).1 hC ⟨fun q => ?_, fun q => e7_no HQ kq.rf (hq.trans (if_neg (by rw [bI_0.mp q]; decide)))⟩
  rw [if_pos (bI_n0.mp q)] at hq
  exact s7_layTimes (hR n hn).1 hC (by omega) fun μ1 o1 p1 g1 t1 => s3_onlyBy g1 hC t1 hu (e7_yes HQ o1 hq)
theorem s7_ballAt (hR : krs μ cs) (rk : inR k) (HQ : KH Q μ (q_ballAt cs c w r k)) : wp_X7_ballAt c w r k μ Q := by
  have no : ¬ (isWd cs c w ∧ 0 ≤ k) → wp_X7_ballAt_18 Q c w r k μ := fun h => f7_0 (A1 (e7_no HQ kq.rf (if_neg h)))
  refine c7_isW hR (fun n => A0 (no fun q => n q.1)) (fun y => A1 ⟨fun q => no fun z => by omega, fun q => f7_1 (fun n => A2 (e7_no HQ kq.rf ((if_pos ⟨y, by omega⟩).trans (if_neg n)))) (fun y2 => A0 ⟨⟨y.1.1, y.1.2.1⟩, ?_⟩)⟩)
  have hq : q_ballAt cs c w r k = _ := (if_pos ⟨y, by omega⟩).trans (if_pos y2)
  obtain ⟨n, u, rfl, rfl, hn, hp, hu⟩ := y.nat
  obtain ⟨m, rfl, hm⟩ := y2.nat
  simp only [Int.toNat_natCast] at hq ⊢
  exact s3_lay (hR n hn).1 (hR n hn).2 (by omega) fun μ1 o1 g1 => s3_inBall g1 (hR n hn).2 hu (by omega) rk (e7_yes HQ o1.k hq)
theorem s7_hole (hR : krs μ cs) (rk : inR k) (HQ : KH Q μ (q_hole cs c r k)) : wp_X7_hole c r k μ Q := by
  have no : ¬ (isK cs c ∧ 0 ≤ k) → wp_X7_hole_16 Q c r k μ := fun h => f7_0 (A1 (e7_no HQ kq.rf (if_neg h)))
  refine c7_isK hR (fun n => A0 (no fun q => n q.1)) (fun y => A1 ⟨fun q => no fun z => by omega, fun q => f7_1 (fun n => A2 (e7_no HQ kq.rf ((if_pos ⟨y, by omega⟩).trans (if_neg n)))) (fun y2 => A0 ⟨⟨y.1, y.2.1⟩, ?_⟩)⟩)
  have hq : q_hole cs c r k = _ := (if_pos ⟨y, by omega⟩).trans (if_pos y2)
  obtain ⟨n, rfl, hn, hp⟩ := y.nat
  obtain ⟨m, rfl, hm⟩ := y2.nat
  simp only [Int.toNat_natCast] at hq ⊢
  exact s7_layTimes (hR n hn).1 (hR n hn).2 (by omega) fun μ1 o1 p1 g1 t1 => s3_holeAt g1 (hR n hn).2 t1 (by omega) rk (e7_yes HQ o1 hq)
theorem s7_idle (hR : krs μ cs) (rk : inR k) (HQ : KH Q μ (q_idle cs c r k)) : wp_X7_idle c r k μ Q := by
  have no : ¬ (isK cs c ∧ 0 ≤ k) → wp_X7_idle_16 Q c r k μ := fun h => f7_0 (A1 (e7_no HQ kq.rf (if_neg h)))
  refine c7_isK hR (fun n => A0 (no fun q => n q.1)) (fun y => A1 ⟨fun q => no fun z => by omega, fun q => f7_1 (fun n => A2 (e7_no HQ kq.rf ((if_pos ⟨y, by omega⟩).trans (if_neg n)))) (fun y2 => A0 ⟨⟨y.1, y.2.1⟩, ?_⟩)⟩)
  have hq : q_idle cs c r k = _ := (if_pos ⟨y, by omega⟩).trans (if_pos y2)
  obtain ⟨n, rfl, hn, hp⟩ := y.nat
  obtain ⟨m, rfl, hm⟩ := y2.nat
  simp only [Int.toNat_natCast] at hq ⊢
  exact s7_layTimes (hR n hn).1 (hR n hn).2 (by omega) fun μ1 o1 p1 g1 t1 => s3_idleAt p1 g1 (hR n hn).2 t1 (by omega) rk (e7_yes HQ o1 hq)
theorem s7_table (hR : krs μ cs) (HQ : KH Q μ (q_table cs c r k)) : wp_X7_table c r k μ Q := by
  have no : ¬ (isRr r ∧ 0 ≤ k) → ∀ b, (b = 0 ∧ ¬ isK cs c) ∨ (b = 1 ∧ isK cs c) → wp_X7_table_20 Q c r k b μ := fun h b hb => by
    rcases hb with ⟨rfl, n⟩ | ⟨rfl, y⟩
    · exact ⟨fun q => absurd rfl q, fun _ => A1 (e7_no HQ kq.rf (if_neg n))⟩
    · exact ⟨fun _ => ⟨fun _ => A2 (e7_no HQ kq.rf ((if_pos y).trans (if_neg h))), fun q => absurd rfl q⟩, fun q => absurd q (by decide)⟩
  have go : ∀ b, (b = 0 ∧ ¬ isK cs c) ∨ (b = 1 ∧ isK cs c) → wp_X7_isSlips r μ (fun r4 μ3 => (((r4 = 0) → wp_X7_table_20 Q c r k b μ3) ∧ (¬ (r4 = 0) → (((k < 0) → wp_X7_table_20 Q c r k b μ3) ∧ (¬ (k < 0) → wp_X7_table_21 Q c r k b 1 μ3))))) := fun b hb => by
    refine c7_isR (fun n => A0 (no (fun q => n q.1) b hb)) (fun y2 => A1 ⟨fun q => no (fun z => by omega) b hb, fun q => ?_⟩)
    rcases hb with ⟨rfl, n⟩ | ⟨rfl, y⟩
    · exact ⟨fun q => absurd rfl q, fun _ => A1 (e7_no HQ kq.rf (if_neg n))⟩
    · refine ⟨fun _ => ⟨fun q => absurd q (by decide), fun _ => A0 ⟨⟨y.1, y.2.1⟩, ?_⟩⟩, fun q => absurd q (by decide)⟩
      have hq : q_table cs c r k = _ := (if_pos y).trans (if_pos ⟨y2, by omega⟩)
      obtain ⟨n, rfl, hn, hp⟩ := y.nat
      obtain ⟨m, rfl, hm⟩ := y2.nat
      simp only [Int.toNat_natCast] at hq ⊢
      exact s7_layTimes (hR n hn).1 (hR n hn).2 (by omega) fun μ1 o1 p1 g1 t1 => s3_withTimes g1 (hR n hn).2 t1 (e7_yes HQ o1 hq)
  exact c7_isK hR (fun n => go 0 (Or.inl ⟨rfl, n⟩)) (fun y => go 1 (Or.inr ⟨rfl, y⟩))
theorem s7_pairs (hR : krs μ cs) (HQ : KH Q μ (q_pairs cs c k)) : wp_X7_pairs c k μ Q := by
  refine c7_isK hR (fun n => ⟨fun q => ⟨fun q => absurd rfl q, fun _ => A1 (e7_no HQ kq.rf (if_neg n))⟩, fun q => ⟨fun q => absurd rfl q, fun _ => A1 (e7_no HQ kq.rf (if_neg n))⟩⟩)
    (fun y => ⟨fun q => ⟨fun _ => ⟨fun _ => A2 (e7_no HQ kq.rf ((if_pos y).trans (if_neg (by omega)))), fun q => absurd rfl q⟩, fun q => absurd q (by decide)⟩, fun q => ⟨fun _ => ⟨fun q => absurd q (by decide), fun _ => A0 ⟨⟨y.1, y.2.1⟩, ?_⟩⟩, fun q => absurd q (by decide)⟩⟩)
  have hq : q_pairs cs c k = _ := (if_pos y).trans (if_pos (by omega))
  obtain ⟨n, rfl, hn, hp⟩ := y.nat
  simp only [Int.toNat_natCast] at hq ⊢
  exact s3_lay (hR n hn).1 (hR n hn).2 (by omega) fun μ1 o1 g1 => s3_pairsApart ((hR n hn).1.G o1 (by omega)) g1 (hR n hn).2 (e7_yes HQ o1.k hq)
theorem s7_ring (hR : krs μ cs) (HQ : KH Q μ (q_ring cs c w k)) : wp_X7_ring c w k μ Q := by
  refine c7_isW hR (fun n => ⟨fun q => ⟨fun q => absurd rfl q, fun _ => A1 (e7_no HQ kq.rf (if_neg n))⟩, fun q => ⟨fun q => absurd rfl q, fun _ => A1 (e7_no HQ kq.rf (if_neg n))⟩⟩)
    (fun y => ⟨fun q => ⟨fun _ => ⟨fun _ => A2 (e7_no HQ kq.rf ((if_pos y).trans (if_neg (by omega)))), fun q => absurd rfl q⟩, fun q => absurd q (by decide)⟩, fun q => ⟨fun _ => ⟨fun q => absurd q (by decide), fun _ => A0 ⟨⟨y.1.1, y.1.2.1⟩, ?_⟩⟩, fun q => absurd q (by decide)⟩⟩)
  have hq : q_ring cs c w k = _ := (if_pos y).trans (if_pos (by omega))
  obtain ⟨n, u, rfl, rfl, hn, hp, hu⟩ := y.nat
  simp only [Int.toNat_natCast] at hq ⊢
  exact s3_lay (hR n hn).1 (hR n hn).2 (by omega) fun μ1 o1 g1 => s3_codewordsAt ((hR n hn).1.G o1 (by omega)) g1 (hR n hn).2 hu (e7_yes HQ o1.k hq)
theorem s7_column (hR : krs μ cs) (HQ : KH Q μ (q_column cs c i d)) : wp_X7_column c i d μ Q := by
  refine c7_isP hR (fun n => B0 (e7_no HQ kq.rf (if_neg n))) (fun y => B1 ?_)
  have hq : q_column cs c i d = _ := if_pos y
  obtain ⟨n, u, rfl, rfl, hn, hp, hu⟩ := y.nat
  simp only [Int.toNat_natCast] at hq
  have hC := (hR n hn).2
  have h8 := hC.1
  refine c7_isD hR hn hu (fun q => B0 (e7_no HQ kq.rf (hq.trans (if_neg q)))) (fun q => B1 ⟨by omega, ?_⟩)
  rw [if_pos q] at hq
  simp only [Int.toNat_natCast]
  exact s3_lay (hR n hn).1 hC (by omega) fun μ1 o1 g1 => s3_codewordsWith ((hR n hn).1.G o1 (by omega)) g1 hC hu (e7_yes HQ o1.k hq)
theorem s7_centre (hR : krs μ cs) (HQ : KH Q μ (q_centre cs c a)) : wp_X7_centre c a μ Q := by
  refine c7_isK hR (fun n => A0 (e7_no HQ kq.rf (if_neg (fun q => n q.1)))) (fun y => A1 ⟨fun q => e7_no HQ kq.rf (if_neg (fun z => by omega)), fun q => ⟨fun q2 => ⟨⟨y.1, y.2.1⟩, ?_⟩, fun q2 => e7_no HQ kq.rf (if_neg (fun z => by omega))⟩⟩)
  have hq : q_centre cs c a = _ := if_pos ⟨y, by omega, q2⟩
  obtain ⟨n, rfl, hn, hp⟩ := y.nat
  simp only [Int.toNat_natCast] at hq ⊢
  have hC := (hR n hn).2
  have hpos := hC.pos
  rw [(hR n hn).1.2.2.2.1]
  refine ⟨fun q3 => ?_, fun q3 => e7_no HQ kq.rf (hq.trans (if_pos (by omega)))⟩
  rw [if_neg (by omega)] at hq
  have hcl : cnF (cs n) < cW (cs n) := by
    unfold cnF
    cases e : amO (fun _ => true) (msF (cs n)) (cW (cs n)) with
    | none => exact hpos
    | some b => exact (amO_some e).1
  refine s3_lay (hR n hn).1 hC (by omega) fun μ1 o1 g1 => ?_
  have hp1 := (hR n hn).1.G o1 (by omega)
  refine s3_middle hp1 g1 hC ⟨fun q4 => s3_farthest hp1 g1 hC hcl (e7_yes HQ o1.k (hq.trans (if_neg q4))), fun q4 => e7_yes HQ o1.k (hq.trans (if_pos q4))⟩
theorem s7_nearest (hR : krs μ cs) (HQ : KH Q μ (q_nearest cs c w)) : wp_X7_nearest c w μ Q := by
  refine c7_isW hR (fun n => B0 (e7_no HQ kq.rf (if_neg n))) (fun y => B1 ⟨⟨y.1.1, y.1.2.1⟩, ?_⟩)
  have hq : q_nearest cs c w = _ := if_pos y
  obtain ⟨n, u, rfl, rfl, hn, hp, hu⟩ := y.nat
  simp only [Int.toNat_natCast] at hq ⊢
  have hC := (hR n hn).2
  rw [(hR n hn).1.2.2.2.1]
  cases e : amO (cM (cs n)) (fun v => cF (cs n) u v) (cW (cs n)) with
  | none =>
    rw [e] at hq
    have h0 : ctF (cM (cs n)) (cW (cs n)) = 0 := ctF_zero.mpr (amO_none e)
    exact ⟨fun q3 => absurd (by omega) q3, fun q3 => e7_no HQ kq.rf hq⟩
  | some b =>
    rw [e] at hq
    have h0 : 0 < ctF (cM (cs n)) (cW (cs n)) := ctF_pos.mpr ⟨b, (amO_some e).1, (amO_some e).2.1⟩
    refine ⟨fun q3 => s3_lay (hR n hn).1 hC (by omega) fun μ1 o1 g1 => s3_closest ((hR n hn).1.G o1 (by omega)) g1 hC hu ?_, fun q3 => absurd q3 (by omega)⟩
    rw [e]
    exact e7_yes HQ o1.k hq
theorem s7_about (hR : krs μ cs) (HQ : KH Q μ (q_about cs c a)) : wp_X7_about c a μ Q := by
  refine c7_isK hR (fun n => A0 (e7_no HQ kq.rf (if_neg n))) (fun y => A1 ?_)
  have hq : q_about cs c a = _ := if_pos y
  obtain ⟨n, rfl, hn, hp⟩ := y.nat
  simp only [Int.toNat_natCast] at hq ⊢
  have hC := (hR n hn).2
  have h1 := (hR n hn).1
  have out : (a < 0 ∨ 5 < a) → q_about cs n a = (-1, 1) := fun h => by
    rw [hq, if_neg (by omega), if_neg (by omega), if_neg (by omega), if_neg (by omega), if_neg (by omega), if_neg (by omega)]
  refine ⟨fun q => e7_no HQ kq.rf (out (by omega)), fun q => ⟨fun q2 => ⟨⟨by omega, by omega⟩, ?_⟩, fun q2 => e7_no HQ kq.rf (out (by omega))⟩⟩
  refine ⟨fun e => ?_, fun e => ?_, fun e => ?_, fun e => ?_, fun e => ?_, fun e => ?_⟩
  · subst e; rw [h1.2.1]; exact e7_yes HQ kq.rf hq
  · subst e; rw [h1.2.2.1]; exact e7_yes HQ kq.rf hq
  · subst e; rw [h1.2.2.2.1]; exact e7_yes HQ kq.rf hq
  · subst e; exact s1_allWeights h1 hC (e7_yes HQ kq.rf hq)
  · subst e
    rw [if_neg (by decide), if_neg (by decide), if_neg (by decide), if_neg (by decide), if_pos rfl] at hq
    refine s3_lay h1 hC (by omega) fun μ1 o1 g1 => ?_
    have hp1 := h1.G o1 (by omega)
    rw [hp1.2.2.2.1]
    refine ⟨fun q3 => ?_, fun q3 => e7_yes HQ o1.k (hq.trans (if_pos (by omega)))⟩
    exact s3_radius hp1 g1 hC (by omega) (e7_yes HQ o1.k (hq.trans (if_neg (by omega))))
  · have e5 : a = 5 := by omega
    subst e5
    rw [if_neg (by decide), if_neg (by decide), if_neg (by decide), if_neg (by decide), if_neg (by decide), if_pos rfl] at hq
    refine s3_lay h1 hC (by omega) fun μ1 o1 g1 => ?_
    have hp1 := h1.G o1 (by omega)
    rw [hp1.2.2.2.1]
    refine ⟨fun q3 => s3_leastApart hp1 g1 hC (by omega) (e7_yes HQ o1.k hq), fun q3 => e7_yes HQ o1.k (hq.trans ?_)⟩
    have ha := apO_spec (C := cs n) (n := cW (cs n))
    cases e : apO (cs n) (cW (cs n)) with
    | none => rfl
    | some b =>
      exfalso
      rw [e] at ha
      obtain ⟨⟨x, y, ⟨p1, p2, p3, p4⟩, -⟩, -⟩ := ha
      have hu := ctF_up (p := cM (cs n)) (w := x) (b := false) p2
      rw [p3] at hu
      have h9 : 0 < ctF (fun v => if v = x then false else cM (cs n) v) (cW (cs n)) := ctF_pos.mpr ⟨y, by omega, by rw [if_neg (by omega)]; exact p4⟩
      have hu : ctF (fun v => if v = x then false else cM (cs n) v) (cW (cs n)) + 1 = ctF (cM (cs n)) (cW (cs n)) + 0 := hu
      omega
end KQ

/-! ===== the class: texts ===== -/
def kT (μ : Mem) (T : Nat → Int) (n : Nat) : Prop := μ.1 1 1 = (n : Int) ∧ n ≤ 600 ∧ ∀ j, j < n → μ.1 2 j = T j
def kNm (μ : Mem) (nl : List (List Nat)) : Prop := μ.1 1 11 = (nl.length : Int) ∧ nl.length ≤ 4 ∧ ∀ i, i < nl.length → μ.1 5 i = (nmC (nl.getD i []) : Int) ∧ okN (nl.getD i [])
/-- what a text's reading leaves alone -/
def fY (μ μ' : Mem) : Prop := (∀ q, (q = 0 ∨ q = 2 ∨ q = 3 ∨ q = 5 ∨ 22 ≤ q) → μ'.1 q = μ.1 q ∧ μ'.2 q = μ.2 q) ∧ ∀ j, ¬ (2 ≤ j ∧ j ≤ 7) → μ'.1 1 j = μ.1 1 j
theorem fY.tr {μ μ' μ'' : Mem} (h : fY μ μ') (h2 : fY μ' μ'') : fY μ μ'' := ⟨fun q a => ⟨(h2.1 q a).1.trans (h.1 q a).1, (h2.1 q a).2.trans (h.1 q a).2⟩, fun j a => (h2.2 j a).trans (h.2 j a)⟩
theorem fX.Y {μ μ' : Mem} (h : fX μ μ') : fY μ μ' := ⟨h.1, fun j a => h.2 j (by omega)⟩
theorem fY.I {μ μ' : Mem} {j : Nat} {v : Int} (h : fY μ μ') (hj : 2 ≤ j ∧ j ≤ 7) : fY μ (sI μ' 1 j v) := h.tr ⟨fun q a => ⟨sI_ne (by omega), rfl⟩, fun i a => sI_nj (by omega)⟩
theorem fY.rf {μ : Mem} : fY μ μ := ⟨fun _ _ => ⟨rfl, rfl⟩, fun _ _ => rfl⟩
section RD
variable {μ : Mem} {T : Nat → Int} {Q : Int → Mem → Prop}
theorem s5_read {n p : Nat} (hT : kT μ T n) (hp : p ≤ n) (hq : ∀ (v : Int) (μ' : Mem), fY μ μ' → (match trF T p with
    | Sum.inl e => v = 0 ∧ fE μ' e
    | Sum.inr acc => v = 1 ∧ μ'.1 1 6 = 0 ∧ acc.length ≤ 4 ∧ acR μ' acc) → Q v μ') : wp_X5_read p μ Q := by
  have h600 := hT.2.1
  intro μ1 e1 μ2 e2 μ3 e3 μ4 e4
  rw [hT.1, show max 0 (min (p : Int) (n : Int)) = (p : Int) by omega] at e1
  have y4 : fY μ μ4 := by rw [e4, e3, e2, e1]; exact (((fY.rf.I (by omega)).I (by omega)).I (by omega)).I (by omega)
  have T4 : rtS μ4 T p := ⟨by rw [e4, sI_nj (by omega), e3, sI_nj (by omega), e2, sI_nj (by omega), e1, sI_s], by omega, fun j hj => by rw [(y4.1 2 (by omega)).1]; exact hT.2.2 j (by omega)⟩
  generalize hR : trF T p = R at hq
  refine LP2_rule (fun (v2 : Int) (μ5 : Mem) => fY μ μ5 ∧ rtS μ5 T p ∧ μ5.1 1 6 = 0 ∧ ∃ (a : Nat) (acc : Ac), v2 = (acc.length : Int) ∧ acc.length ≤ 4 ∧ μ5.1 1 4 = (a : Int) ∧ a ≤ p ∧ acR μ5 acc ∧ R = txP T p (5 - acc.length) (tkF T p a) acc) (fun v2 _ => (5 - v2).toNat) ?_ ⟨y4, T4, by rw [e4, sI_nj (by omega), e3, sI_s], 0, [], rfl, by decide, by rw [e4, sI_nj (by omega), e3, sI_nj (by omega), e2, sI_s]; rfl, Nat.zero_le _, ⟨by rw [e4, sI_s]; rfl, fun i hi => absurd hi (Nat.not_lt_zero i)⟩, hR.symm⟩
  rintro X v2 μ5 ⟨y5, T5, z5, a, acc, rfl, hl4, h54, hap, hac, hRR⟩ hX
  refine ⟨fun c => absurd c (by omega), fun c => s5_readLine T5 z5 h54 hap hac hl4 (fun v μ6 x6 hP => ?_)⟩
  rw [show 5 - acc.length = (4 - acc.length) + 1 by omega] at hRR
  have hs : txP T p ((4 - acc.length) + 1) (tkF T p a) acc = match cdP T p (acc.map (fun a => a.1)) (tkF T p a) with
    | Sum.inl e => Sum.inl e
    | Sum.inr (t', C) => if isSg T t' 59 then txP T p (4 - acc.length) (nxT T p t') (acc ++ [(tNm T (nxT T p (tkF T p a)), C)]) else if tK t' = 0 then Sum.inr (acc ++ [(tNm T (nxT T p (tkF T p a)), C)]) else Sum.inl (1, tA t') := rfl
  rw [hs] at hRR
  have y6 := y5.tr x6.Y
  cases hc : cdP T p (acc.map (fun a => a.1)) (tkF T p a) with
  | inl e =>
    rw [hc] at hP hRR
    have hP : v = 0 ∧ fE μ6 e := hP
    rw [hRR] at hq
    exact ⟨fun q => absurd hP.1 q, fun _ => hq 0 μ6 y6 ⟨rfl, hP.2⟩⟩
  | inr x =>
    obtain ⟨t', C⟩ := x
    rw [hc] at hP hRR
    have hRR : R = if isSg T t' 59 then txP T p (4 - acc.length) (tkF T p (tB t')) (acc ++ [(tNm T (nxT T p (tkF T p a)), C)]) else if tK t' = 0 then Sum.inr (acc ++ [(tNm T (nxT T p (tkF T p a)), C)]) else Sum.inl (1, tA t') := hRR
    have hw : wkP T (Sum.inr (t', C)) = if isSg T t' 59 ∨ tK t' = 0 then Sum.inr (t', C) else Sum.inl (1, tA t') := rfl
    by_cases g : isSg T t' 59 ∨ tK t' = 0
    · rw [hw, if_pos g] at hP
      obtain ⟨rfl, hlt, z6, t6, hot6, ac6⟩ := hP
      generalize hnx : acc ++ [(tNm T (nxT T p (tkF T p a)), C)] = acc' at *
      have hl' : acc'.length = acc.length + 1 := by rw [← hnx, List.length_append]; rfl
      rw [t6.1]
      refine ⟨fun _ => ⟨fun c2 => ?_, fun c2 => ?_⟩, fun q => absurd q (by decide)⟩
      · have g9 : isSg T t' 59 := by
          rcases g with g | g
          · exact g
          · exact absurd (by rw [g]; rfl) c2
        rw [if_pos g9] at hRR
        refine ⟨inR_i (by omega) (by omega), hX _ _ ⟨y6, T5.X x6, z6, tB t', acc', by omega, by omega, t6.2.2, hot6.2.1, ac6, ?_⟩ (by omega)⟩
        rw [hRR, show 5 - acc'.length = 4 - acc.length by omega]
      · have g0 : tK t' = 0 := by omega
        rw [if_neg (fun q => by have := q.1; omega), if_pos g0] at hRR
        rw [hRR] at hq
        exact hq 1 μ6 y6 ⟨rfl, z6, by omega, ac6⟩
    · rw [hw, if_neg g] at hP
      have hP : v = 0 ∧ fE μ6 (1, tA t') := hP
      rw [if_neg (fun q => g (Or.inl q)), if_neg (fun q => g (Or.inr q))] at hRR
      rw [hRR] at hq
      exact ⟨fun q => absurd hP.1 q, fun _ => hq 0 μ6 y6 ⟨rfl, hP.2⟩⟩
/-- nothing but the codes, names and told has moved -/
def fH (μ μ' : Mem) : Prop := (∀ q, q ≠ 1 → q ≠ 5 → q < 83 ∨ 115 ≤ q → μ'.1 q = μ.1 q ∧ μ'.2 q = μ.2 q) ∧ ∀ j, j ≠ 11 → μ'.1 1 j = μ.1 1 j
theorem fH.rf {μ : Mem} : fH μ μ := ⟨fun _ _ _ _ => ⟨rfl, rfl⟩, fun _ _ => rfl⟩
theorem fH.tr {μ μ' μ'' : Mem} (h : fH μ μ') (h2 : fH μ' μ'') : fH μ μ'' := ⟨fun q a b c => ⟨(h2.1 q a b c).1.trans (h.1 q a b c).1, (h2.1 q a b c).2.trans (h.1 q a b c).2⟩, fun j a => (h2.2 j a).trans (h.2 j a)⟩
theorem oC.H {c : Nat} {μ μ' : Mem} (h : oC (83 + 4 * c) μ μ') (hc : c < 8) : fH μ μ' := ⟨fun q _ _ b => h q (by omega), fun j _ => by rw [(h 1 (by omega)).1]⟩
theorem acR.H {μ μ' : Mem} {acc : Ac} (h : acR μ acc) (h4 : acc.length ≤ 4) (ho : fH μ μ') : acR μ' acc := by
  refine ⟨by rw [ho.2 7 (by omega)]; exact h.1, fun i hi => ?_⟩
  obtain ⟨b1, b2, b3, b4⟩ := h.2 i hi
  refine ⟨by rw [(ho.1 4 (by omega) (by omega) (by omega)).1]; exact b1, b2, ?_, b4⟩
  unfold crep at *
  rw [(ho.1 _ (by omega) (by omega) (by omega)).1, (ho.1 _ (by omega) (by omega) (by omega)).1, (ho.1 _ (by omega) (by omega) (by omega)).1, (ho.1 (6 + 4 * i + 3) (by omega) (by omega) (by omega)).2]
  exact b3
theorem s5_handOut {acc : Ac} {R : Mem → Prop} (ha : acR μ acc) (h4 : acc.length ≤ 4) (hc : ∀ c, c < 8 → crep μ (83 + 4 * c) C0) (hq : ∀ μ', fH μ μ' → krs μ' (csA acc) → kNm μ' (acc.map (fun a => a.1)) → R μ') : wp_X5_handOut μ R := by
  intro μ1 e1
  rw [ha.1] at e1
  have o1 : fH μ μ1 := by rw [e1]; exact ⟨fun q a _ _ => ⟨sI_ne a, rfl⟩, fun j a => sI_nj a⟩
  have hc1 : ∀ c, c < 8 → crep μ1 (83 + 4 * c) C0 := fun c h8 => by
    have := hc c h8
    unfold crep at *
    rw [e1, sI_ne (by omega), sI_ne (by omega), sI_ne (by omega)]
    exact this
  refine LP2_rule (fun (v2 : Int) (μ2 : Mem) => fH μ μ2 ∧ μ2.1 1 11 = (acc.length : Int) ∧ ∃ i : Nat, v2 = (i : Int) ∧ i ≤ acc.length ∧ (∀ c, c < 8 → crep μ2 (83 + 4 * c) (if c < i then (acD acc c).2 else C0)) ∧ ∀ j, j < i → μ2.1 5 j = (nmC (acD acc j).1 : Int)) (fun v2 _ => ((acc.length : Int) - v2).toNat) ?_ ⟨o1, by rw [e1, sI_s], 0, rfl, Nat.zero_le _, fun c h8 => by rw [if_neg (Nat.not_lt_zero c)]; exact hc1 c h8, fun j hj => absurd hj (Nat.not_lt_zero j)⟩
  rintro X v2 μ2 ⟨o2, t2, i, rfl, hi, hcs, hnm⟩ hX
  have ha2 := ha.H h4 o2
  unfold wp_X5_handOut_10
  rw [ha2.1, Int.toNat_natCast]
  have done : i = acc.length → R μ2 := fun e => by
    subst e
    refine hq μ2 o2 (fun c h8 => ⟨hcs c h8, ?_⟩) ⟨by rw [t2, List.length_map], by rw [List.length_map]; exact h4, fun j hj => ?_⟩
    · unfold csA
      split
      · rename_i hlt; exact (ha2.2 c hlt).2.2.2.1
      · exact okC_0
    · rw [List.length_map] at hj
      rw [acD_m hj]
      exact ⟨hnm j hj, (ha2.2 j hj).2.1⟩
  refine ⟨fun c => done (by omega), fun c => ⟨fun c2 => absurd c2 (by omega), fun _ => ⟨by omega, by omega, ?_⟩⟩⟩
  obtain ⟨b1, b2, b3, b4, b5⟩ := ha2.2 i (by omega)
  refine s1_copy b3 b4.1 (by omega) (fun μ6 o6 p6 μ7 e7 => ⟨inR_i (by omega) (by omega), hX _ _ ⟨o2.tr ((o6.H (by omega)).tr ?_), ?_, i + 1, rfl, by omega, fun c' h8 => ?_, fun j hj => ?_⟩ (by omega)⟩)
  · rw [e7]; exact ⟨fun q _ a _ => ⟨sI_ne a, rfl⟩, fun j a => by rw [sI_ne (by omega)]⟩
  · rw [e7, sI_ne (by omega), (o6 1 (by omega)).1]; exact t2
  · have : crep μ6 (83 + 4 * c') (if c' < i + 1 then (acD acc c').2 else C0) := by
      by_cases e : c' = i
      · rw [e, if_pos (by omega)]; exact p6
      · have h9 := (hcs c' h8).to o6 (by omega)
        by_cases e2 : c' < i
        · rw [if_pos e2] at h9; rw [if_pos (by omega)]; exact h9
        · rw [if_neg e2] at h9; rw [if_neg (by omega)]; exact h9
    unfold crep at *
    rw [e7, sI_ne (by omega), sI_ne (by omega), sI_ne (by omega)]
    exact this
  · rw [e7]
    by_cases e : j = i
    · rw [e, sI_s, (o6 4 (by omega)).1]; exact b1
    · rw [sI_nj e, (o6 5 (by omega)).1]; exact hnm j (by omega)
/-- what a text leaves -/
def kxQ (Q : Int → Mem → Prop) (μ : Mem) (T : Nat → Int) (n : Nat) (cs : Nat → Cd) (hs : List (Nat → Cd)) (nl : List (List Nat)) (p : Int) : Prop := ∀ μ' : Mem, (∀ k, 115 ≤ k → μ'.1 k = μ.1 k ∧ μ'.2 k = μ.2 k) →
  ((¬ (0 ≤ p ∧ p ≤ (n : Int)) → krs μ' cs → khs μ' cs hs → kNm μ' nl → kT μ' T n → μ'.1 0 7 = μ.1 0 7 → μ'.1 0 8 = 2 → μ'.1 0 9 = -1 → Q (-1) μ') ∧
   (∀ e : Nat × Nat, 0 ≤ p → p ≤ (n : Int) → trF T p.toNat = Sum.inl e → krs μ' cs → khs μ' cs hs → kNm μ' nl → kT μ' T 0 → μ'.1 0 7 = (e.1 : Int) → μ'.1 0 8 = 4 → μ'.1 0 9 = (e.2 : Int) → Q (-1) μ') ∧
   (∀ acc, 0 ≤ p → p ≤ (n : Int) → trF T p.toNat = Sum.inr acc → krs μ' (csA acc) → khs μ' (csA acc) [] → kNm μ' (acc.map (fun a => a.1)) → kT μ' T 0 → μ'.1 0 7 = 0 → μ'.1 0 8 = 0 → μ'.1 0 9 = -1 → Q (acc.length : Int) μ'))
theorem krs.h {μ μ' : Mem} {cs : Nat → Cd} (h : krs μ cs) (hq : ∀ q, 83 ≤ q → q < 115 → μ'.1 q = μ.1 q ∧ μ'.2 q = μ.2 q) : krs μ' cs := fun c hc => ⟨by
  have h1 := (h c hc).1
  unfold crep at *
  rw [(hq _ (by omega) (by omega)).1, (hq _ (by omega) (by omega)).1, (hq _ (by omega) (by omega)).1, (hq (83 + 4 * c + 3) (by omega) (by omega)).2]
  exact h1, (h c hc).2⟩
theorem khs.h {μ μ' : Mem} {cs : Nat → Cd} {hs : List (Nat → Cd)} (h : khs μ cs hs) (hq : ∀ q, 27 ≤ q → q < 70 → μ'.1 q = μ.1 q ∧ μ'.2 q = μ.2 q) : khs μ' cs hs := by
  obtain ⟨h1, h2, nx, h3, h4, h5⟩ := h
  have e27 := (hq 27 (by omega) (by omega)).1
  have e29 := (hq 29 (by omega) (by omega)).1
  refine ⟨by rw [e27]; exact h1, h2, nx, by rw [e27]; exact h3, h4, fun i hi => ?_⟩
  obtain ⟨s, hs8, s1, s2, s3, s4⟩ := h5 i hi
  have hl : hpos nx i < 10 := Nat.mod_lt _ (by omega)
  refine ⟨s, hs8, by rw [e29]; exact s1, ?_, s3, s4⟩
  unfold crep at *
  rw [(hq _ (by omega) (by omega)).1, (hq _ (by omega) (by omega)).1, (hq _ (by omega) (by omega)).1, (hq (30 + 4 * hpos nx i + 3) (by omega) (by omega)).2]
  exact s2
theorem s7_text {n : Nat} {cs : Nat → Cd} {hs : List (Nat → Cd)} {nl : List (List Nat)} {p : Int} (hR : krs μ cs) (hH : khs μ cs hs) (hN : kNm μ nl) (hT : kT μ T n) (HQ : kxQ Q μ T n cs hs nl p) : wp_X7_text p μ Q := by
  have ref : ¬ (0 ≤ p ∧ p ≤ (n : Int)) → wp_X7_refuse 2 μ (fun r3 μ2 => Q r3 μ2) := fun nn => by
    rintro μ3 rfl μ4 rfl
    have e : ∀ q, q ≠ 0 → (sI (sI μ 0 8 2) 0 9 (-1)).1 q = μ.1 q := fun q a => by rw [sI_ne a, sI_ne a]
    refine (HQ _ (fun k hk => ⟨e k (by omega), rfl⟩)).1 nn (hR.h fun q a b => ⟨e q (by omega), rfl⟩) (hH.h fun q a b => ⟨e q (by omega), rfl⟩) ?_ ?_ (by rw [sI_nj (by omega), sI_nj (by omega)]) (by rw [sI_nj (by omega), sI_s]) sI_s
    · unfold kNm; rw [e 1 (by omega), e 5 (by omega)]; exact hN
    · unfold kT; rw [e 1 (by omega), e 2 (by omega)]; exact hT
  unfold wp_X7_text
  rw [hT.1]
  refine ⟨fun c => ref (by omega), fun c => ⟨fun c2 => ?_, fun c2 => ref (by omega)⟩⟩
  obtain ⟨m, rfl⟩ := Int.eq_ofNat_of_zero_le (show 0 ≤ p by omega)
  refine s5_read hT (by omega) (fun v μ5 y5 hP μ7 e7 μ8 e8 => ?_)
  have e76 : μ7.1 1 6 = μ5.1 1 6 := by rw [e7, sI_nj (by omega)]
  rw [e76] at e8
  have g8 : ∀ q, q ≠ 0 → q ≠ 1 → μ8.1 q = μ5.1 q ∧ μ8.2 q = μ5.2 q := fun q a b => by rw [e8, sI_ne a, e7, sI_ne b]; exact ⟨rfl, rfl⟩
  have g81 : ∀ j, j ≠ 1 → μ8.1 1 j = μ5.1 1 j := fun j a => by rw [e8, sI_ne (by omega), e7, sI_nj a]
  have hi8 : ∀ q, 22 ≤ q → μ8.1 q = μ.1 q ∧ μ8.2 q = μ.2 q := fun q a => ⟨(g8 q (by omega) (by omega)).1.trans (y5.1 q (by omega)).1, (g8 q (by omega) (by omega)).2.trans (y5.1 q (by omega)).2⟩
  have f81 : μ8.1 1 1 = ((0 : Nat) : Int) := by rw [e8, sI_ne (by omega), e7, sI_s]; rfl
  have f87 : μ8.1 0 7 = μ5.1 1 6 := by rw [e8, sI_s]
  have N8 : kNm μ8 nl := by
    unfold kNm
    rw [g81 11 (by omega), y5.2 11 (by omega), (g8 5 (by omega) (by omega)).1, (y5.1 5 (by omega)).1]
    exact hN
  cases hc : trF T m with
  | inl e =>
    rw [hc] at hP
    obtain ⟨rfl, e6, e3⟩ := hP
    refine ⟨fun q => absurd rfl q, fun _ => ?_⟩
    rintro μ3 rfl μ4 rfl μ20 e20
    have h13 : (sI (sI μ8 0 8 4) 0 9 (-1)).1 1 3 = (e.2 : Int) := by rw [sI_ne (by omega), sI_ne (by omega), g81 3 (by omega)]; exact e3
    rw [h13] at e20
    have g20 : ∀ q, q ≠ 0 → μ20.1 q = μ8.1 q := fun q a => by rw [e20, sI_ne a, sI_ne a, sI_ne a]
    have g202 : μ20.2 = μ8.2 := by rw [e20]; rfl
    refine (HQ _ (fun k hk => ⟨(g20 k (by omega)).trans (hi8 k (by omega)).1, by rw [g202]; exact (hi8 k (by omega)).2⟩)).2.1 e (by omega) c2 (by rw [Int.toNat_natCast]; exact hc) (hR.h fun q a b => ⟨(g20 q (by omega)).trans (hi8 q (by omega)).1, by rw [g202]; exact (hi8 q (by omega)).2⟩) (hH.h fun q a b => ⟨(g20 q (by omega)).trans (hi8 q (by omega)).1, by rw [g202]; exact (hi8 q (by omega)).2⟩) ?_ ?_ ?_ ?_ ?_
    · unfold kNm; rw [g20 1 (by omega), g20 5 (by omega)]; exact N8
    · exact ⟨by rw [g20 1 (by omega)]; exact f81, by omega, fun j hj => absurd hj (Nat.not_lt_zero j)⟩
    · rw [e20, sI_nj (by omega), sI_nj (by omega), sI_nj (by omega), f87]; exact e6
    · rw [e20, sI_nj (by omega), sI_nj (by omega), sI_s]
    · rw [e20, sI_s]
  | inr acc =>
    rw [hc] at hP
    obtain ⟨rfl, z6, h4, ac5⟩ := hP
    refine ⟨fun _ => ?_, fun q => absurd q (by decide)⟩
    have ac8 : acR μ8 acc := by
      refine ⟨by rw [g81 7 (by omega)]; exact ac5.1, fun i hi => ?_⟩
      obtain ⟨b1, b2, b3, b4⟩ := ac5.2 i hi
      refine ⟨by rw [(g8 4 (by omega) (by omega)).1]; exact b1, b2, ?_, b4⟩
      unfold crep at *
      rw [(g8 _ (by omega) (by omega)).1, (g8 _ (by omega) (by omega)).1, (g8 _ (by omega) (by omega)).1, (g8 (6 + 4 * i + 3) (by omega) (by omega)).2]
      exact b3
    refine LP2_rule (fun (v3 : Int) (μ9 : Mem) => fH μ8 μ9 ∧ ∃ i : Nat, v3 = (i : Int) ∧ i ≤ 8 ∧ ∀ c, c < i → crep μ9 (83 + 4 * c) C0) (fun v3 _ => (8 - v3).toNat) ?_ ⟨fH.rf, 0, rfl, by omega, fun c hc => absurd hc (Nat.not_lt_zero c)⟩
    rintro X v3 μ9 ⟨o9, i, rfl, hi, h9⟩ hX
    unfold wp_X7_text_74
    rw [Int.toNat_natCast]
    refine ⟨fun c3 => ?_, fun c3 => ⟨by omega, s1_clear (fun μ16 o16 r16 => ⟨inR_i (by omega) (by omega), hX _ _ ⟨o9.tr (o16.H (by omega)), i + 1, rfl, by omega, fun c' hc' => ?_⟩ (by omega)⟩)⟩⟩
    · refine s5_handOut (ac8.H h4 o9) h4 (fun c h8 => h9 c (by omega)) (fun μ11 o11 R11 N11 μ12 e12 => ?_)
      have o811 := o9.tr o11
      have e1211 : μ12.1 1 11 = (acc.length : Int) := by rw [e12, sI_ne (by omega), N11.1, List.length_map]
      show wp_X7_accept (μ12.1 1 11) μ12 (fun r14 μ13 => Q r14 μ13)
      rw [e1211]
      rintro μ13 rfl μ14 rfl
      have g14 : ∀ q, q ≠ 0 → q ≠ 27 → (sI (sI μ12 0 8 0) 0 9 (-1)).1 q = μ11.1 q := fun q a b => by rw [sI_ne a, sI_ne a, e12, sI_ne b]
      have g142 : (sI (sI μ12 0 8 0) 0 9 (-1)).2 = μ11.2 := by rw [e12]; rfl
      refine (HQ _ (fun k hk => ⟨?_, ?_⟩)).2.2 acc (by omega) c2 (by rw [Int.toNat_natCast]; exact hc) (R11.h fun q a b => ⟨g14 q (by omega) (by omega), by rw [g142]⟩) ?_ ?_ ?_ ?_ ?_ sI_s
      · rw [g14 k (by omega) (by omega), (o811.1 k (by omega) (by omega) (by omega)).1]; exact (hi8 k (by omega)).1
      · rw [g142, (o811.1 k (by omega) (by omega) (by omega)).2]; exact (hi8 k (by omega)).2
      · obtain ⟨h1, h2, nx, h3, h4', h5⟩ := hH
        refine ⟨by rw [sI_ne (by omega), sI_ne (by omega), e12, sI_s]; rfl, by decide, nx, ?_, h4', fun j hj => absurd hj (Nat.not_lt_zero j)⟩
        rw [sI_ne (by omega), sI_ne (by omega), e12, sI_nj (by omega), (o811.1 27 (by omega) (by omega) (by omega)).1, (hi8 27 (by omega)).1]; exact h3
      · unfold kNm; rw [g14 1 (by omega) (by omega), g14 5 (by omega) (by omega)]; exact N11
      · exact ⟨by rw [g14 1 (by omega) (by omega), o811.2 1 (by omega)]; exact f81, by omega, fun j hj => absurd hj (Nat.not_lt_zero j)⟩
      · rw [sI_nj (by omega), sI_nj (by omega), e12, sI_ne (by omega), (o811.1 0 (by omega) (by omega) (by omega)).1, f87]; exact z6
      · rw [sI_nj (by omega), sI_s]
    · by_cases e : c' = i
      · rw [e]; exact r16
      · exact (h9 c' (by omega)).to o16 (by omega)
theorem byte_k {w : Int} {s : Nat} (hs : s ≤ 24) : iand (iushr w (s : Int)) 255 = iand (ishr w (s : Int)) 255 := by
  unfold iand
  congr 1
  apply Int32.toBitVec_inj.mp
  rw [Int32.toBitVec_and, Int32.toBitVec_and]
  have e1 : (Int32.ofInt (iushr w (s : Int))).toBitVec = (Int32.ofInt w).toBitVec >>> s := by
    unfold iushr
    rw [Int32.ofInt_toInt]
    show ((Int32.ofInt w).toUInt32 >>> ((Int32.ofInt (s : Int)).toUInt32 &&& Int32.toUInt32 31)).toBitVec = _
    apply BitVec.eq_of_toNat_eq
    show ((Int32.ofInt w).toUInt32 >>> ((Int32.ofInt (s : Int)).toUInt32 &&& Int32.toUInt32 31)).toNat = _
    rw [UInt32.toNat_shiftRight, ish_k s (by omega), Nat.mod_eq_of_lt (by omega), BitVec.toNat_ushiftRight]
    rfl
  have e2 : (Int32.ofInt (ishr w (s : Int))).toBitVec = (Int32.ofInt w).toBitVec.sshiftRight s := by
    unfold ishr
    rw [Int32.ofInt_toInt]
    show BitVec.sshiftRight' (Int32.ofInt w).toBitVec ((Int32.ofInt (s : Int) &&& 31).toBitVec.smod 32) = _
    rw [ish_s s (by omega)]
    show (Int32.ofInt w).toBitVec.sshiftRight (BitVec.ofNat 32 s).toNat = _
    rw [BitVec.toNat_ofNat, Nat.mod_eq_of_lt (by omega)]
  rw [e1, e2]
  apply BitVec.eq_of_getLsbD_eq
  intro i hi
  rw [BitVec.getLsbD_and, BitVec.getLsbD_and]
  by_cases c : i < 8
  · rw [BitVec.getLsbD_ushiftRight, BitVec.getLsbD_sshiftRight, decide_eq_false (show ¬ 32 ≤ i by omega), if_pos (by omega), Bool.not_false, Bool.true_and]
  · have hz : ∀ j : Nat, j < 32 → 8 ≤ j → (Int32.ofInt 255).toBitVec.getLsbD j = false := by decide
    rw [hz i hi (by omega), Bool.and_false, Bool.and_false]
theorem s5_append {n : Nat} {w : Int} {R : Mem → Prop} (hT : kT μ T n) (hn : n + 4 ≤ 600) (hq : ∀ μ' : Mem, (∀ q, q ≠ 1 → q ≠ 2 → μ'.1 q = μ.1 q) → μ'.2 = μ.2 → (∀ j, j ≠ 1 → μ'.1 1 j = μ.1 1 j) → kT μ' (fun j => if j < n then T j else byF w (j - n)) (n + 4) → R μ') : wp_X5_append w μ R := by
  unfold wp_X5_append
  rw [hT.1]
  refine ⟨inR_i (by omega) (by omega), fun c => ?_, fun c => absurd (by omega) c⟩
  refine LP3_rule (fun (v1 v2 : Int) (μ2 : Mem) => v1 = w ∧ (∀ q, q ≠ 2 → μ2.1 q = μ.1 q) ∧ μ2.2 = μ.2 ∧ ∃ k : Nat, v2 = (k : Int) ∧ k ≤ 4 ∧ (∀ j, j < n → μ2.1 2 j = T j) ∧ ∀ j, j < k → μ2.1 2 (n + j) = byF w j) (fun _ v2 _ => (4 - v2).toNat) ?_ ⟨rfl, fun _ _ => rfl, rfl, 0, rfl, by omega, hT.2.2, fun j hj => absurd hj (Nat.not_lt_zero j)⟩
  rintro X v1 v2 μ2 ⟨rfl, o2, o22, k, rfl, hk, h1, h2⟩ hX
  have e11 : μ2.1 1 1 = (n : Int) := by rw [o2 1 (by omega)]; exact hT.1
  unfold wp_X5_append_15
  rw [e11]
  refine ⟨fun c2 => ⟨inR_i (by omega) (by omega), fun μ5 e5 => hq μ5 (fun q a b => by rw [e5, sI_ne a]; exact o2 q b) (by rw [e5]; exact o22) (fun j a => by rw [e5, sI_nj a, o2 1 (by omega)]) ⟨by rw [e5, sI_s]; omega, by omega, fun j hj => ?_⟩⟩, fun c2 => ⟨by omega, fun μ7 e7 => ⟨inR_i (by omega) (by omega), hX _ _ _ ⟨rfl, fun q a => by rw [e7, sI_ne a]; exact o2 q a, by rw [e7]; exact o22, k + 1, rfl, by omega, fun j hj => ?_, fun j hj => ?_⟩ (by omega)⟩⟩⟩
  · rw [e5, sI_ne (by omega)]
    show μ2.1 2 j = if j < n then T j else byF v1 (j - n)
    by_cases e : j < n
    · rw [if_pos e]; exact h1 j e
    · rw [if_neg e]
      have := h2 (j - n) (by omega)
      rw [show n + (j - n) = j by omega] at this
      exact this
  · rw [e7, sI_nj (by omega)]; exact h1 j hj
  · rw [show ((n : Int) + (k : Int)).toNat = n + k by omega] at e7
    rw [e7]
    by_cases e : j = k
    · rw [e, sI_s]
      unfold byF
      rw [show (24 : Int) - 8 * (k : Int) = ((24 - 8 * k : Nat) : Int) by omega, byte_k (by omega), show (24 : Int) - 8 * ((k % 4 : Nat) : Int) = ((24 - 8 * k : Nat) : Int) by omega]
    · rw [sI_nj (by omega)]; exact h2 j (by omega)
theorem byF_4 (w : Int) (j : Nat) : byF w (j + 4) = byF w j := by
  unfold byF
  rw [show (j + 4) % 4 = j % 4 by omega]
/-- what a feed leaves alone -/
def fFk (μ μ' : Mem) : Prop := (∀ q, q ≠ 1 → q ≠ 2 → μ'.1 q = μ.1 q) ∧ μ'.2 = μ.2 ∧ ∀ j, j ≠ 1 → μ'.1 1 j = μ.1 1 j
theorem fFk.tr {μ μ' μ'' : Mem} (h : fFk μ μ') (h2 : fFk μ' μ'') : fFk μ μ'' := ⟨fun q a b => (h2.1 q a b).trans (h.1 q a b), h2.2.1.trans h.2.1, fun j a => (h2.2.2 j a).trans (h.2.2 j a)⟩
theorem s7_feed {n : Nat} {a b c d e : Int} (hT : kT μ T n) (h0 : ¬ n + 20 ≤ 600 → Q (-1) μ) (h1 : n + 20 ≤ 600 → ∀ μ', fFk μ μ' → kT μ' (fdT T n a b c d e) (n + 20) → Q ((n + 20 : Nat) : Int) μ') : wp_X7_feed a b c d e μ Q := by
  have h600 := hT.2.1
  unfold wp_X7_feed wp_X5_hasRoom
  rw [hT.1]
  refine ⟨inR_i (by omega) (by omega), fun q => B0 (h0 (by omega)), fun q => B1 ?_⟩
  refine s5_append hT (by omega) (fun μ4 a1 a2 a3 T4 => s5_append T4 (by omega) (fun μ5 b1 b2 b3 T5 => s5_append T5 (by omega) (fun μ6 c1 c2 c3 T6 => s5_append T6 (by omega) (fun μ7 d1 d2 d3 T7 => s5_append T7 (by omega) (fun μ8 f1 f2 f3 T8 => ?_)))))
  have o4 : fFk μ μ4 := ⟨a1, a2, a3⟩
  have o5 : fFk μ4 μ5 := ⟨b1, b2, b3⟩
  have o6 : fFk μ5 μ6 := ⟨c1, c2, c3⟩
  have o7 : fFk μ6 μ7 := ⟨d1, d2, d3⟩
  have o8 : fFk μ7 μ8 := ⟨f1, f2, f3⟩
  have e20 : μ8.1 1 1 = ((n + 20 : Nat) : Int) := by rw [T8.1]
  rw [e20]
  refine h1 (by omega) μ8 ((((o4.tr o5).tr o6).tr o7).tr o8) ⟨e20, by omega, fun j hj => ?_⟩
  rw [T8.2.2 j (by omega)]
  dsimp only
  unfold fdT wsel
  by_cases k0 : j < n
  · rw [if_pos (show j < n + 4 + 4 + 4 + 4 by omega), if_pos (show j < n + 4 + 4 + 4 by omega), if_pos (show j < n + 4 + 4 by omega), if_pos (show j < n + 4 by omega), if_pos k0, if_pos k0]
  · rw [if_neg k0, if_neg k0]
    by_cases k1 : j < n + 4
    · rw [if_pos (show j < n + 4 + 4 + 4 + 4 by omega), if_pos (show j < n + 4 + 4 + 4 by omega), if_pos (show j < n + 4 + 4 by omega), if_pos k1, if_pos (show j - n < 4 by omega)]
    · by_cases k2 : j < n + 8
      · rw [if_pos (show j < n + 4 + 4 + 4 + 4 by omega), if_pos (show j < n + 4 + 4 + 4 by omega), if_pos (show j < n + 4 + 4 by omega), if_neg k1, if_neg (show ¬ j - n < 4 by omega), if_pos (show j - n < 8 by omega), show byF b (j - n) = byF b (j - (n + 4)) by rw [show j - n = (j - (n + 4)) + 4 by omega, byF_4]]
      · by_cases k3 : j < n + 12
        · rw [if_pos (show j < n + 4 + 4 + 4 + 4 by omega), if_pos (show j < n + 4 + 4 + 4 by omega), if_neg (show ¬ j < n + 4 + 4 by omega), if_neg (show ¬ j - n < 4 by omega), if_neg (show ¬ j - n < 8 by omega), if_pos (show j - n < 12 by omega), show byF c (j - n) = byF c (j - (n + 4 + 4)) by rw [show j - n = (j - (n + 4 + 4)) + 4 + 4 by omega, byF_4, byF_4]]
        · by_cases k4 : j < n + 16
          · rw [if_pos (show j < n + 4 + 4 + 4 + 4 by omega), if_neg (show ¬ j < n + 4 + 4 + 4 by omega), if_neg (show ¬ j - n < 4 by omega), if_neg (show ¬ j - n < 8 by omega), if_neg (show ¬ j - n < 12 by omega), if_pos (show j - n < 16 by omega), show byF d (j - n) = byF d (j - (n + 4 + 4 + 4)) by rw [show j - n = (j - (n + 4 + 4 + 4)) + 4 + 4 + 4 by omega, byF_4, byF_4, byF_4]]
          · rw [if_neg (show ¬ j < n + 4 + 4 + 4 + 4 by omega), if_neg (show ¬ j - n < 4 by omega), if_neg (show ¬ j - n < 8 by omega), if_neg (show ¬ j - n < 12 by omega), if_neg (show ¬ j - n < 16 by omega), show byF e (j - n) = byF e (j - (n + 4 + 4 + 4 + 4)) by rw [show j - n = (j - (n + 4 + 4 + 4 + 4)) + 4 + 4 + 4 + 4 by omega, byF_4, byF_4, byF_4, byF_4]]
theorem s5_letterOf {nl : List (List Nat)} {c k : Int} (hN : kNm μ nl) (h0 : ltO nl c k = none → Q (-1) μ) (h1 : ∀ v, ltO nl c k = some v → 0 ≤ v → Q v μ) : wp_X5_letterOf c k μ Q := by
  have h4 := hN.2.1
  have no : ¬ (0 ≤ c ∧ c < (nl.length : Int) ∧ 0 ≤ k ∧ k < ((nl.getD c.toNat []).length : Int)) → Q (-1) μ := fun n => h0 (if_neg n)
  unfold wp_X5_letterOf
  rw [hN.1]
  refine ⟨fun q => no (by omega), fun q => ⟨fun q2 => no (by omega), fun q2 => ⟨fun q3 => absurd q3 (by omega), fun q3 => ⟨fun q4 => no (by omega), fun q4 => ?_⟩⟩⟩⟩
  obtain ⟨n, rfl⟩ := Int.eq_ofNat_of_zero_le (show 0 ≤ c by omega)
  obtain ⟨m, rfl⟩ := Int.eq_ofNat_of_zero_le (show 0 ≤ k by omega)
  obtain ⟨e5, hok⟩ := hN.2.2 n (by omega)
  have hl6 := hok.2
  refine ⟨fun q5 => ⟨by omega, ?_⟩, fun q5 => no (fun y => by rw [Int.toNat_natCast] at y; omega)⟩
  have hb := nmC_b hok
  obtain ⟨p1, -⟩ := pow32_k m (by omega)
  have hd := nmC_dg hok m
  have hdl : nmC (nl.getD n []) / 2 ^ (5 * m) ≤ nmC (nl.getD n []) := Nat.div_le_self _ _
  have h26 := getD_26 hok m
  rw [Int.toNat_natCast, e5, show 5 * (m : Int) = ((5 * m : Nat) : Int) by omega, ishr_n (by omega) (by omega), show (31 : Int) = ((31 : Nat) : Int) from rfl, iand_n (by omega) (by omega), show (31 : Nat) = 2 ^ 5 - 1 from rfl, Nat.and_two_pow_sub_one_eq_mod, ← p1, show (2 : Nat) ^ 5 = 32 from rfl, hd]
  refine ⟨inR_i (by omega) (by omega), ?_⟩
  by_cases e : m < (nl.getD n []).length
  · refine h1 _ ?_ (by have := (hok.at e).1; omega)
    unfold ltO
    rw [Int.toNat_natCast, Int.toNat_natCast, if_pos (by omega)]
  · rw [getD_out (by omega)]
    exact no (fun y => by rw [Int.toNat_natCast] at y; omega)
end RD

/-! ===== the class: its reader, what stands in a line ===== -/
/-- nothing but the code in k and the token and fault has moved -/
def fD (k : Nat) (μ μ' : Mem) : Prop := (∀ q, q ≠ 1 → (q < k ∨ k + 4 ≤ q) → μ'.1 q = μ.1 q ∧ μ'.2 q = μ.2 q) ∧ (∀ j, ¬ (3 ≤ j ∧ j ≤ 6) → μ'.1 1 j = μ.1 1 j) ∧ μ'.2 1 = μ.2 1
theorem fD.rf {k : Nat} {μ : Mem} : fD k μ μ := ⟨fun _ _ _ => ⟨rfl, rfl⟩, fun _ _ => rfl, rfl⟩
theorem fD.tr {k : Nat} {μ μ' μ'' : Mem} (h : fD k μ μ') (h2 : fD k μ' μ'') : fD k μ μ'' := ⟨fun q a b => ⟨(h2.1 q a b).1.trans (h.1 q a b).1, (h2.1 q a b).2.trans (h.1 q a b).2⟩, fun j a => (h2.2.1 j a).trans (h.2.1 j a), h2.2.2.trans h.2.2⟩
theorem fA.D {k : Nat} {μ μ' : Mem} (h : fA μ μ') : fD k μ μ' := ⟨fun q a _ => ⟨h.1 q a, by rw [h.2.1]⟩, fun j a => h.2.2 j (by omega) (by omega) (by omega), by rw [h.2.1]⟩
theorem oC.D {k : Nat} {μ μ' : Mem} (h : oC k μ μ') (hk : 2 ≤ k) : fD k μ μ' := ⟨fun q _ b => h q b, fun j _ => by rw [(h 1 (by omega)).1], (h 1 (by omega)).2⟩
theorem fD.f {k : Nat} {μ μ' : Mem} {v : Int} (h : fD k μ μ') : fD k μ (sI μ' 1 6 v) := h.tr ⟨fun q a _ => ⟨sI_ne a, rfl⟩, fun j a => sI_nj (by omega), rfl⟩
theorem rtS.D {k : Nat} {μ μ' : Mem} {T : Nat → Int} {L : Nat} (h : rtS μ T L) (ho : fD k μ μ') (hk : 3 ≤ k) : rtS μ' T L := ⟨by rw [ho.2.1 2 (by omega)]; exact h.1, h.2.1, by rw [(ho.1 2 (by omega) (by omega)).1]; exact h.2.2⟩
theorem rkS.C {k : Nat} {μ μ' : Mem} {t : Tk} (h : rkS μ t) (ho : oC k μ μ') (hk : 2 ≤ k) : rkS μ' t := by
  unfold rkS at *
  rw [(ho 1 (by omega)).1]
  exact h
theorem crep.A {μ μ' : Mem} {k : Nat} {C : Cd} (h : crep μ k C) (ho : fA μ μ') (hk : 2 ≤ k) : crep μ' k C := by
  unfold crep at *
  rw [ho.1 k (by omega), ho.1 (k + 1) (by omega), ho.1 (k + 2) (by omega), ho.2.1]
  exact h
/-- a fault -/
def fE (μ : Mem) (e : Nat × Nat) : Prop := μ.1 1 6 = (e.1 : Int) ∧ μ.1 1 3 = (e.2 : Int)
def rrP (T : Nat → Int) (L k : Nat) (R : PR (Tk × Cd)) (v : Int) (μ : Mem) : Prop := match R with
  | Sum.inl e => v = 0 ∧ fE μ e
  | Sum.inr (t, C) => v = 1 ∧ μ.1 1 6 = 0 ∧ rkS μ t ∧ okT T L t ∧ crep μ k C ∧ okC C
theorem rrP_e {T : Nat → Int} {L k f : Nat} {μ : Mem} {t : Tk} (h : rkS μ t) : rrP T L k (Sum.inl (f, tA t)) 0 (sI μ 1 6 (f : Int)) := ⟨rfl, sI_s, by rw [sI_nj (by omega)]; exact h.2.1⟩
section RD
variable {μ : Mem} {T : Nat → Int} {L : Nat} {Q : Int → Mem → Prop}
theorem s7_isSize {v : Int} (h0 : ¬ (2 ≤ v ∧ v ≤ 4) → Q 0 μ) (h1 : 2 ≤ v ∧ v ≤ 4 → Q 1 μ) : wp_X7_isSize v μ Q := ⟨fun q => h0 (by omega), fun q => ⟨fun q2 => h0 (by omega), fun q2 => h1 (by omega)⟩⟩
theorem s7_isWeight {v : Int} (h0 : ¬ (1 ≤ v ∧ v ≤ 3) → Q 0 μ) (h1 : 1 ≤ v ∧ v ≤ 3 → Q 1 μ) : wp_X7_isWeight v μ Q := ⟨fun q => h0 (by omega), fun q => ⟨fun q2 => h0 (by omega), fun q2 => h1 (by omega)⟩⟩
theorem s5_readSizes {k p : Nat} (h : rtS μ T L) (hk : 6 ≤ k) (h6 : μ.1 1 6 = 0) (h4 : μ.1 1 4 = (p : Int)) (hp : p ≤ L) (hr : crep μ k C0) (hq : ∀ v μ', fD k μ μ' → rrP T L k (szP T L 9 (tkF T L p) C0) v μ' → Q v μ') : wp_X5_readSizes k μ Q := by
  refine s5_advance h h4 hp (fun μ1 o1 t1 => ?_)
  rw [t1.1]
  have ho1 := okT_tkF T hp
  generalize htk : tkF T L p = t0 at *
  have z6 : μ1.1 1 6 = 0 := by rw [o1.2.2 6 (by omega) (by omega) (by omega)]; exact h6
  refine ⟨fun c => ?_, fun c => s5_fail ⟨Or.inl rfl, hq _ _ (o1.D.f) ?_⟩⟩
  · generalize hR : szP T L 9 t0 C0 = R at hq
    refine LP3_rule (fun (v1 : Nat) (v2 : Int) (μ2 : Mem) => v1 = k ∧ fD k μ μ2 ∧ μ2.1 1 6 = 0 ∧ ∃ (t : Tk) (C : Cd), v2 = (cN C : Int) ∧ rkS μ2 t ∧ okT T L t ∧ crep μ2 k C ∧ okC C ∧ (∀ w, cM C w = false) ∧ R = (if tK t = 2 then szP T L (9 - cN C) t C else Sum.inr (t, C))) (fun _ v2 _ => (9 - v2).toNat) ?_ ⟨rfl, o1.D, z6, t0, C0, rfl, t1, ho1, hr.A o1 (by omega), okC_0, fun _ => rfl, by rw [if_pos (by omega)]; exact hR.symm⟩
    rintro X v1 v2 μ2 ⟨rfl, o2, z2, t, C, rfl, ht, hot, hr2, hC, hM, hRR⟩ hX
    have h8 := hC.1
    have hT2 := h.D o2 (by omega)
    unfold wp_X5_readSizes_20
    rw [ht.1]
    refine ⟨fun c2 => absurd c2 (by omega), fun _ => ⟨fun c2 => ?_, fun c2 => ?_⟩⟩
    · rw [if_neg (by omega)] at hRR
      rw [hRR] at hq
      exact hq 1 μ2 o2 ⟨rfl, z2, ht, hot, hr2, hC⟩
    · have hk2 : tK t = 2 := by omega
      rw [if_pos hk2, show 9 - cN C = (8 - cN C) + 1 by omega] at hRR
      have hs : szP T L ((8 - cN C) + 1) t C = if ¬ tK t = 2 then Sum.inl (1, tA t) else if ¬ (2 ≤ oneD T t ∧ oneD T t ≤ 4) then Sum.inl (2, tA t)
        else if cN C = 8 ∨ 256 < cW C * (oneD T t).toNat then Sum.inl (4, tA t)
        else if tK (nxT T L t) = 2 then szP T L (8 - cN C) (nxT T L t) (addP C (oneD T t).toNat 1) else Sum.inr (nxT T L t, addP C (oneD T t).toNat 1) := rfl
      rw [hs, if_neg (fun q => q hk2)] at hRR
      refine s5_singleDigit hT2 ht hot hk2 (s7_isSize (fun n => B0 (s5_fail ⟨Or.inl rfl, ?_⟩)) (fun y => B1 ?_))
      · rw [if_pos n] at hRR
        rw [hRR] at hq
        exact hq _ _ o2.f (rrP_e ht)
      · rw [if_neg (fun q => q y)] at hRR
        obtain ⟨s, hs⟩ := Int.eq_ofNat_of_zero_le (show 0 ≤ oneD T t by omega)
        rw [hs] at y hRR ⊢
        rw [Int.toNat_natCast] at hRR
        refine s1_addPlace hr2 hC hM (by omega) (show 1 ≤ 1 ∧ 1 ≤ 3 by omega) (fun hno => B0 (s5_fail ⟨Or.inl rfl, ?_⟩)) (fun μ10 hao o10 r10 => B1 ?_)
        · unfold addO at hno
          have hc : cN C = 8 ∨ 256 < cW C * s := by
            apply Classical.byContradiction
            intro hn
            rw [if_neg hn] at hno
            cases hno
          rw [if_pos hc] at hRR
          rw [hRR] at hq
          exact hq _ _ o2.f (rrP_e ht)
        · unfold addO at hao
          have hc : ¬ (cN C = 8 ∨ 256 < cW C * s) := fun hn => by rw [if_pos hn] at hao; cases hao
          rw [if_neg hc] at hRR
          have ht10 := ht.C o10 (by omega)
          have o10D := o2.tr (o10.D (by omega))
          refine s5_advance (h.D o10D (by omega)) ht10.2.2 hot.2.1 (fun μ13 o13 t13 => ⟨inR_i (by omega) (by omega), hX _ _ _ ⟨rfl, o10D.tr o13.D, ?_, nxT T L t, addP C s 1, rfl, t13, okT_tkF T hot.2.1, r10.A o13 (by omega), okC_addP hC hM (by omega) (by omega) (by omega) (by omega), hM, ?_⟩ (by omega)⟩)
          · rw [o13.2.2 6 (by omega) (by omega) (by omega), (o10 1 (by omega)).1]; exact z2
          · rw [hRR]
            show _ = (if tK (nxT T L t) = 2 then szP T L (9 - (cN C + 1)) (nxT T L t) (addP C s 1) else Sum.inr (nxT T L t, addP C s 1))
            rw [show 9 - (cN C + 1) = 8 - cN C by omega]
  · have hs : szP T L 9 t0 C0 = Sum.inl (1, tA t0) := if_pos (fun q => c (by rw [q]; rfl))
    rw [hs]
    exact rrP_e t1
theorem crep_setW {μ : Mem} {k i x : Nat} {C : Cd} (h : crep μ k C) : crep (sI μ (k + 2) i (x : Int)) k (setW C i x) := by
  obtain ⟨c0, c1, c2, c3, c4, c5⟩ := h
  refine ⟨by rw [sI_ne (by omega)]; exact c0, by rw [sI_ne (by omega)]; exact c1, by rw [sI_ne (by omega)]; exact c2, by rw [sI_ne (by omega)]; exact c3, fun j hj => ⟨by rw [sI_ne (by omega)]; exact (c4 j hj).1, ?_⟩, c5⟩
  show (sI μ (k + 2) i (x : Int)).1 (k + 2) j = ((if j = i then x else cT C j : Nat) : Int)
  by_cases e : j = i
  · rw [e, sI_s, if_pos rfl]
  · rw [sI_nj e, if_neg e]; exact (c4 j hj).2
theorem s5_readWeights {k : Nat} {t : Tk} {C : Cd} (h : rtS μ T L) (hk : 6 ≤ k) (h6 : μ.1 1 6 = 0) (ht : rkS μ t) (hot : okT T L t) (hr : crep μ k C) (hC : okC C) (hq : ∀ v μ', fD k μ μ' → rrP T L k (wtP T L (cN C) 0 (nxT T L t) C) v μ' → Q v μ') : wp_X5_readWeights k μ Q := by
  generalize hR : wtP T L (cN C) 0 (nxT T L t) C = R at hq
  have h8 := hC.1
  refine LP3_rule (fun (v1 : Nat) (v2 : Int) (μ2 : Mem) => v1 = k ∧ fD k μ μ2 ∧ μ2.1 1 6 = 0 ∧ ∃ (i p : Nat) (D : Cd), v2 = (i : Int) ∧ i ≤ cN C ∧ cN D = cN C ∧ μ2.1 1 4 = (p : Int) ∧ p ≤ L ∧ crep μ2 k D ∧ okC D ∧ R = wtP T L (cN C - i) i (tkF T L p) D) (fun _ v2 _ => ((cN C : Int) - v2).toNat) ?_ ⟨rfl, fD.rf, h6, 0, tB t, C, rfl, Nat.zero_le _, rfl, ht.2.2, hot.2.1, hr, hC, hR.symm⟩
  rintro X v1 v2 μ2 ⟨rfl, o2, z2, i, p, D, rfl, hi, hDn, hp4, hp, hr2, hD, hRR⟩ hX
  have hT2 := h.D o2 (by omega)
  unfold wp_X5_readWeights_2
  rw [hr2.2.1, hDn]
  refine ⟨fun c => s5_advance hT2 hp4 hp (fun μ3 o3 t3 => ?_), fun c => s5_advance hT2 hp4 hp (fun μ3 o3 t3 => ?_)⟩
  · have e : i = cN C := by omega
    subst e
    rw [Nat.sub_self] at hRR
    rw [hRR] at hq
    exact hq 1 μ3 (o2.tr o3.D) ⟨rfl, by rw [o3.2.2 6 (by omega) (by omega) (by omega)]; exact z2, t3, okT_tkF T hp, hr2.A o3 (by omega), hD⟩
  · rw [show cN C - i = (cN C - (i + 1)) + 1 by omega] at hRR
    have hs : wtP T L ((cN C - (i + 1)) + 1) i (tkF T L p) D = if ¬ tK (tkF T L p) = 2 then Sum.inl (1, tA (tkF T L p)) else if ¬ (1 ≤ oneD T (tkF T L p) ∧ oneD T (tkF T L p) ≤ 3) then Sum.inl (2, tA (tkF T L p)) else wtP T L (cN C - (i + 1)) (i + 1) (nxT T L (tkF T L p)) (setW D i (oneD T (tkF T L p)).toNat) := rfl
    rw [hs] at hRR
    have hot3 := okT_tkF T (L := L) hp
    generalize tkF T L p = t' at *
    rw [t3.1]
    refine ⟨fun c2 => ?_, fun c2 => s5_fail ⟨Or.inl rfl, ?_⟩⟩
    · have hk2 : tK t' = 2 := by omega
      rw [if_neg (fun q => q hk2)] at hRR
      refine s5_singleDigit (hT2.A o3) t3 hot3 hk2 (s7_isWeight (fun n => B0 (s5_fail ⟨Or.inl rfl, ?_⟩)) (fun y => B1 ⟨by omega, fun μ11 e11 => ⟨inR_i (by omega) (by omega), ?_⟩⟩))
      · rw [if_pos n] at hRR
        rw [hRR] at hq
        exact hq _ _ (o2.tr o3.D).f (rrP_e t3)
      · rw [if_neg (fun q => q y)] at hRR
        obtain ⟨s, hs⟩ := Int.eq_ofNat_of_zero_le (show 0 ≤ oneD T t' by omega)
        rw [hs] at y hRR e11
        rw [Int.toNat_natCast] at hRR e11
        have r11 : crep μ11 v1 (setW D i s) := by rw [e11]; exact crep_setW (hr2.A o3 (by omega))
        have o11 : fD v1 μ3 μ11 := by
          rw [e11]
          exact ⟨fun q a b => ⟨sI_ne (by omega), rfl⟩, fun j _ => by rw [sI_ne (by omega)], rfl⟩
        exact hX _ _ _ ⟨rfl, (o2.tr o3.D).tr o11, by rw [e11, sI_ne (by omega), o3.2.2 6 (by omega) (by omega) (by omega)]; exact z2, i + 1, tB t', setW D i s, rfl, by omega, hDn, by rw [e11, sI_ne (by omega)]; exact t3.2.2, hot3.2.1, r11, okC_setW hD (by omega), hRR⟩ (by omega)
    · rw [if_pos (fun q => c2 (by rw [q]; rfl))] at hRR
      rw [hRR] at hq
      exact hq _ _ (o2.tr o3.D).f (rrP_e t3)
/-- the words of a line, and what must stand behind them -/
def wkP (T : Nat → Int) (R : PR (Tk × Cd)) : PR (Tk × Cd) := match R with
  | Sum.inl e => Sum.inl e
  | Sum.inr (t, C) => if isSg T t 59 ∨ tK t = 0 then Sum.inr (t, C) else Sum.inl (1, tA t)
theorem s5_readCodewords {k p : Nat} {C : Cd} (h : rtS μ T L) (hk : 6 ≤ k) (h6 : μ.1 1 6 = 0) (h4 : μ.1 1 4 = (p : Int)) (hp : p ≤ L) (hr : crep μ k C) (hC : okC C) (h0 : 0 < cN C) (hq : ∀ v μ', fD k μ μ' → rrP T L k (wkP T (wsP T L 601 (tkF T L p) C)) v μ' → Q v μ') : wp_X5_readCodewords k μ Q := by
  generalize hR : wsP T L 601 (tkF T L p) C = R at hq
  have hL6 := h.2.1
  refine LP3_rule (fun (v1 : Nat) (v2 : Int) (μ2 : Mem) => v1 = k ∧ fD k μ μ2 ∧ μ2.1 1 6 = 0 ∧ ∃ (i p : Nat) (D : Cd), v2 = (i : Int) ∧ 2 * i ≤ p ∧ cN D = cN C ∧ μ2.1 1 4 = (p : Int) ∧ p ≤ L ∧ crep μ2 k D ∧ okC D ∧ R = wsP T L (601 - i) (tkF T L p) D) (fun _ v2 _ => (600 - v2).toNat) ?_ ⟨rfl, fD.rf, h6, 0, p, C, rfl, by omega, rfl, h4, hp, hr, hC, by rw [Nat.sub_zero]; exact hR.symm⟩
  rintro X v1 v2 μ2 ⟨rfl, o2, z2, i, p, D, rfl, hi, hDn, hp4, hp, hr2, hD, hRR⟩ hX
  have hT2 := h.D o2 (by omega)
  refine ⟨fun c => absurd c (by omega), fun c => s5_advance hT2 hp4 hp (fun μ3 o3 t3 => ?_)⟩
  rw [show 601 - i = (601 - (i + 1)) + 1 by omega] at hRR
  have hs : wsP T L ((601 - (i + 1)) + 1) (tkF T L p) D = match wdP T L (tkF T L p) D with
    | Sum.inl e => Sum.inl e
    | Sum.inr (t', C') => if isSg T t' 44 then wsP T L (601 - (i + 1)) (nxT T L t') C' else Sum.inr (t', C') := rfl
  rw [hs] at hRR
  have hot3 := okT_tkF T (L := L) hp
  have hge := tkF_ge T (L := L) hp
  generalize tkF T L p = t' at *
  have hw : wdP T L t' D = if ¬ tK t' = 2 then Sum.inl (1, tA t') else match nuP T t' D with
    | none => Sum.inl (2, tA t')
    | some w => if cM D w then Sum.inl (3, tA t') else Sum.inr (nxT T L t', setM D w true) := rfl
  have hT3 := hT2.A o3
  have hr3 := hr2.A o3 (by omega)
  have z3 : μ3.1 1 6 = 0 := by rw [o3.2.2 6 (by omega) (by omega) (by omega)]; exact z2
  have o3D := o2.tr (o3.D (k := v1))
  rw [t3.1]
  refine ⟨fun c2 => ?_, fun c2 => s5_fail ⟨Or.inl rfl, ?_⟩⟩
  · have hk2 : tK t' = 2 := by omega
    rw [if_neg (fun q => q hk2)] at hw
    obtain ⟨d1, d2, d3⟩ := hot3.2.2.2.1 hk2
    refine s5_numberIn hT3 t3 hot3 hk2 hr3 hD ?_
    cases hn : nuP T t' D with
    | none =>
      rw [hn] at hw
      rw [hw] at hRR
      rw [hRR] at hq
      exact ⟨fun q => absurd rfl q, fun _ => s5_fail ⟨Or.inl rfl, hq _ _ o3D.f (rrP_e t3)⟩⟩
    | some w =>
      rw [hn] at hw
      have hw : wdP T L t' D = if cM D w then Sum.inl (3, tA t') else Sum.inr (nxT T L t', setM D w true) := hw
      have hwl : w < cW D := by
        unfold nuP at hn
        by_cases e : tB t' - tA t' = cN D
        · rw [if_pos e] at hn
          exact nuF_lt (fun q hq2 => (d3 (tA t' + q) (by omega) (by omega)).1) hn
        · rw [if_neg e] at hn; cases hn
      refine ⟨fun _ => s1_holds hr3 hD ⟨fun q => ?_, fun q => s5_fail ⟨Or.inl rfl, ?_⟩⟩, fun q => absurd q (by show ¬ ((w : Nat) : Int) = -1; omega)⟩
      · rw [if_neg (by rw [bI_0.mp q]; decide)] at hw
        rw [hw] at hRR
        have hRR : R = if isSg T (tkF T L (tB t')) 44 then wsP T L (601 - (i + 1)) (nxT T L (tkF T L (tB t'))) (setM D w true) else Sum.inr (tkF T L (tB t'), setM D w true) := hRR
        refine s1_put hr3 hD hwl (fun μ13 o13 r13 => ?_)
        have t13 := t3.C o13 (by omega)
        have o13D := o3D.tr (o13.D (by omega))
        refine s5_advance (h.D o13D (by omega)) t13.2.2 hot3.2.1 (fun μ14 o14 t14 => ?_)
        have hot14 := okT_tkF T (L := L) hot3.2.1
        have hge14 := tkF_ge T (L := L) hot3.2.1
        have T14 := (h.D o13D (by omega)).A o14
        have r14 := r13.A o14 (by omega)
        have o14D := o13D.tr (o14.D (k := v1))
        have z14 : μ14.1 1 6 = 0 := by rw [o14.2.2 6 (by omega) (by omega) (by omega), (o13 1 (by omega)).1]; exact z3
        have hD14 := okC_setM hD hwl (by omega) true
        generalize tkF T L (tB t') = t2 at *
        have good : (isSg T t2 59 ∨ tK t2 = 0) → Q 1 μ14 := fun y => by
          have hn44 : ¬ isSg T t2 44 := fun z => by
            rcases y with y | y
            · have := y.2; have := z.2; omega
            · have := z.1; omega
          rw [if_neg hn44] at hRR
          have : wkP T R = Sum.inr (t2, setM D w true) := by rw [hRR]; exact if_pos y
          rw [this] at hq
          exact hq 1 μ14 o14D ⟨rfl, z14, t14, hot14, r14, hD14⟩
        rw [t14.1]
        refine ⟨fun q2 => good (Or.inr (by omega)), fun q2 => s5_isSign T14 t14 hot14 (fun n59 => A0 (s5_isSign T14 t14 hot14 (fun n44 => B0 (s5_fail ⟨Or.inl rfl, ?_⟩)) (fun y44 => B1 ⟨inR_i (by omega) (by omega), ?_⟩))) (fun y59 => A1 (good (Or.inl y59)))⟩
        · rw [if_neg n44] at hRR
          have : wkP T R = Sum.inl (1, tA t2) := by rw [hRR]; exact if_neg (fun y => by rcases y with y | y; exact n59 y; omega)
          rw [this] at hq
          exact hq _ _ o14D.f (rrP_e t14)
        · rw [if_pos y44] at hRR
          have hlt := hot14.2.2.2.2.2.1 y44.1
          exact hX _ _ _ ⟨rfl, o14D, z14, i + 1, tB t2, setM D w true, rfl, by omega, hDn, t14.2.2, hot14.2.1, r14, hD14, hRR⟩ (by omega)
      · rw [if_pos (bI_n0.mp q)] at hw
        rw [hw] at hRR
        rw [hRR] at hq
        exact hq _ _ o3D.f (rrP_e t3)
  · rw [if_pos (fun q => c2 (by rw [q]; rfl))] at hw
    rw [hw] at hRR
    rw [hRR] at hq
    exact hq _ _ o3D.f (rrP_e t3)
end RD

/-! fewest -/
theorem sL_s' {μ : Mem} {k j : Nat} {v : Int64} : (sL μ k j v).2 k j = v := if_pos ⟨rfl, rfl⟩
theorem mq_L {μ : Mem} {k j : Nat} {v : Int64} (hk : k = 122 ∨ k = 123) : mq μ (sL μ k j v) := ⟨fun q hq => ⟨rfl, sL_ne (by omega)⟩, fun _ _ _ => rfl, sL_ne (by omega)⟩
theorem mz.f {μ μ1 : Mem} {j : Nat} {v : Int} (h : mz μ μ1) (hj : 23 < j) : mz μ (sI μ1 115 j v) := ⟨h.1.tr (mq_f (Or.inr hj)), by rw [sI_nj (by omega)]; exact h.2⟩
theorem mz.L {μ μ1 : Mem} {k j : Nat} {v : Int64} (h : mz μ μ1) (hk : k = 122 ∨ k = 123) : mz μ (sL μ1 k j v) := ⟨h.1.tr (mq_L hk), h.2⟩
theorem mz.S {μ μ1 μ2 : Mem} (h : mz μ μ1) (hf : fS μ1 μ2) : mz μ μ2 := ⟨h.1.tr hf.mq, by rw [hf.2.2 0 (by omega) (by omega) (by omega)]; exact h.2⟩
def fwP (F : Option (List Nat) × Nat) (μ : Mem) (v : Int) : Prop := μ.1 115 24 = (F.2 : Int) ∧ match F.1 with
  | none => v = -2 ∧ μ.1 115 25 = 0
  | some l => v = (l.length : Int) ∧ μ.1 115 25 = (l.length : Int) ∧ l.length ≤ 8 ∧ ∀ i, i < l.length → μ.1 124 i = (l.getD i 0 : Int)
theorem skF_pos {C : Cd} (hC : okC C) : ¬ ctF noM (cW C) = cW C := by
  have h := hC.pos
  have h2 : ctF noM (cW C) = 0 := ctF_zero.mpr (fun _ _ => rfl)
  omega
section RX
variable {μ : Mem} {cs : Nat → Cd} {hs : List (Nat → Cd)} {Q : Int → Mem → Prop} {c w v i j k r a d p to one other size weight : Int}
theorem s_fewestOf {n r : Nat} {C : Cd} {μ1 : Mem} (hz1 : mz μ μ1) (hr : mrow μ1 n C) (hn : n < 8) (hC : okC C) (h81 : cW C ≤ 81) (HQ : ∀ μ' v, mz μ μ' → fwP (fwF C r) μ' v → Q v μ') : wp_X8_fewestOf n r μ1 Q := by
  have hrow : ∀ μ', mz μ μ' → mrow μ' n C := fun μ' h => hr.to ((h.1.1 117 (by omega)).1.trans (hz1.1.1 117 (by omega)).1.symm)
  refine s_words hr (by omega) hC (fun μ3 e3 => ?_)
  have hz3 : mz μ μ3 := by rw [e3]; exact hz1.f (by omega)
  refine s_ballOf (hrow _ hz3) (by omega) hC (fun μ6 e6 => ?_)
  have hz6 : mz μ μ6 := by rw [e6]; exact hz3.f (by omega)
  have h26 : μ6.1 115 26 = (cW C : Int) := by rw [e6, sI_nj (by omega), e3, sI_s]
  have h27 : μ6.1 115 27 = (blF C r : Int) := by rw [e6, sI_s]
  refine LP4_rule (fun (v1 v2 v3 : Int) (μ7 : Mem) => v1 = (n : Int) ∧ v2 = (r : Int) ∧ mz μ μ7 ∧ μ7.1 115 26 = (cW C : Int) ∧ μ7.1 115 27 = (blF C r : Int) ∧ ∃ w : Nat, v3 = (w : Int) ∧ w ≤ cW C ∧ ∀ u, u < w → ∀ x, x < 128 → bt2 (μ7.2 122 u) (μ7.2 123 u) x = bwF C r u x) (fun _ _ v3 _ => ((cW C : Int) - v3).toNat) ?_ ⟨rfl, rfl, hz6, h26, h27, 0, rfl, Nat.zero_le _, fun u hu => absurd hu (Nat.not_lt_zero u)⟩
  rintro X v1 v2 v3 μ7 ⟨rfl, rfl, hz7, k26, k27, w, rfl, hw, hb⟩ hX
  unfold wp_X8_fewestOf_21
  rw [k26]
  refine ⟨fun q => ?_, fun q => ?_⟩
  · have ew : w = cW C := by omega
    subst ew
    intro μ8 e8 μ9 e9
    have hz9 : mz μ μ9 := by rw [e9, e8]; exact (hz7.f (by omega)).f (by omega)
    have hM : skM μ9 C r := ⟨by rw [e9, e8, sI_nj (by omega), sI_nj (by omega)]; exact k26, by rw [e9, e8, sI_nj (by omega), sI_nj (by omega)]; exact k27, by rw [e9, e8, sI_2, sI_2]; exact hb⟩
    have i24 : μ9.1 115 24 = ((0 : Nat) : Int) := by rw [e9, sI_nj (by omega), e8, sI_s]; rfl
    have i28 : μ9.1 115 28 = 0 := by rw [e9, sI_s]
    refine LP3_rule (fun (v1 v3 : Int) (μ2 : Mem) => v1 = (n : Int) ∧ mz μ μ2 ∧ skM μ2 C r ∧ ∃ m s : Nat, v3 = (m : Int) ∧ 1 ≤ m ∧ m ≤ 9 ∧ μ2.1 115 24 = (s : Int) ∧ s ≤ 60000 ∧ ((μ2.1 115 28 = 0 ∧ s < 60000 ∧ tpF C r (9 - m) m s = fwF C r) ∨ (μ2.1 115 28 = 1 ∧ s = 60000 ∧ fwF C r = (none, 60000)))) (fun _ v3 _ => (9 - v3).toNat) ?_ ⟨rfl, hz9, hM, 1, 0, rfl, Nat.le_refl _, by omega, i24, by omega, Or.inl ⟨i28, by omega, rfl⟩⟩
    rintro X3 v1 v3 μ2 ⟨rfl, hz2, hM2, m, s, rfl, hm1, hm9, g24, hs, hcase⟩ hX3
    have stop : fwF C r = (none, s) → ∀ μ11, μ11 = sI μ2 115 25 0 → Q (-2) μ11 := fun hF μ11 e11 => HQ _ _ (by rw [e11]; exact hz2.f (by omega)) (by
      rw [hF]
      exact ⟨by rw [e11, sI_nj (by omega)]; exact g24, rfl, by rw [e11, sI_s]⟩)
    refine ⟨fun q3 => ?_, fun q3 => ⟨fun q4 => ?_, fun q4 => fun μ14 e14 => ?_⟩⟩
    · refine stop ?_
      rcases hcase with ⟨-, -, hT⟩ | ⟨-, e, hT⟩
      · rw [show m = 9 by omega] at hT
        exact hT.symm
      · rw [hT, e]
    · rcases hcase with ⟨h0, -, -⟩ | ⟨-, e, hT⟩
      · exact absurd h0 q4
      · exact stop (by rw [hT, e])
    · rcases hcase with ⟨-, hs6, hT⟩ | ⟨h1, -, -⟩
      rotate_left
      · rw [h1] at q4; exact absurd q4 (by decide)
      have hf14 : fS μ2 μ14 := by rw [e14]; exact fS.rf.f (by omega)
      have hM14 := hM2.to hf14
      obtain ⟨kk, hkk⟩ : ∃ kk, 9 - m = kk + 1 := ⟨9 - m - 1, by omega⟩
      rw [hkk] at hT
      have hU : tpF C r (kk + 1) m s = (match skF C r m noM s with
        | none => (none, 60000)
        | some (some l, s') => (some l, s')
        | some (none, s') => if s' = 60000 then (none, 60000) else tpF C r kk (m + 1) s') := rfl
      rw [hU] at hT
      refine s_seeks hC h81 m (by omega) 12 (by omega) 0 0 noM s 0 μ14 _ (fun x hx => by unfold bt2; rw [bt_0, bt_0, ite_self]; rfl) (fun x hx => by cases hx) hM14 (by rw [e14, sI_nj (by omega)]; exact g24) hs (by rw [e14, sI_s]; rfl) (by omega) (by rw [e14, sI_nj (by omega)]; exact q4) (fun v μ15 hP => ?_)
      obtain ⟨p1, p2, p3⟩ := hP
      have hz15 : mz μ μ15 := (hz2.S hf14).S p1
      have hM15 := hM14.to p1
      rcases hR : skF C r m noM s with _ | ⟨_ | l, s'⟩
      · rw [hR] at p3 hT
        obtain ⟨rfl, p25, p24, p28⟩ := p3
        exact ⟨fun _ => ⟨inR_i (by omega) (by omega), hX3 _ _ _ ⟨rfl, hz15, hM15, m + 1, 60000, rfl, by omega, by omega, p24, by omega, Or.inr ⟨p28 (by omega), rfl, hT.symm⟩⟩ (by omega)⟩, fun x => absurd rfl x⟩
      · rw [hR] at p3 hT
        obtain ⟨rfl, p25, p24, p0, p60, p28, p281⟩ := p3
        have hT : (if s' = 60000 then (none, 60000) else tpF C r kk (m + 1) s') = fwF C r := hT
        refine ⟨fun _ => ⟨inR_i (by omega) (by omega), ?_⟩, fun x => absurd rfl x⟩
        by_cases e6 : s' = 60000
        · rw [if_pos e6] at hT
          exact hX3 _ _ _ ⟨rfl, hz15, hM15, m + 1, s', rfl, by omega, by omega, p24, p60, Or.inr ⟨p281 (by omega) e6, e6, hT.symm⟩⟩ (by omega)
        · rw [if_neg e6, show kk = 9 - (m + 1) by omega] at hT
          exact hX3 _ _ _ ⟨rfl, hz15, hM15, m + 1, s', rfl, by omega, by omega, p24, p60, Or.inl ⟨p28 (by omega), by omega, hT⟩⟩ (by omega)
      · rw [hR] at p3 hT
        obtain ⟨rfl, p24, p60, p25, pn, p124⟩ := p3
        rw [Nat.zero_add] at p25
        refine ⟨fun x => absurd x (by decide), fun _ => HQ _ _ hz15 ?_⟩
        rw [← hT]
        exact ⟨p24, p25, p25, by omega, fun i hi => by have := p124 i hi; rw [Nat.zero_add] at this; exact this⟩
  · refine ⟨by omega, fun μ20 e20 μ21 e21 => ?_⟩
    rw [Int.toNat_natCast] at e20 e21
    have hz21 : mz μ μ21 := by rw [e21, e20]; exact (hz7.L (by omega)).L (by omega)
    refine LP5_rule (fun (v1 v2 v3 v4 : Int) (μ2 : Mem) => v1 = (n : Int) ∧ v2 = (r : Int) ∧ v3 = (w : Int) ∧ mz μ μ2 ∧ μ2.1 115 = μ7.1 115 ∧ (∀ u, u ≠ w → μ2.2 122 u = μ7.2 122 u ∧ μ2.2 123 u = μ7.2 123 u) ∧ ∃ v : Nat, v4 = (v : Int) ∧ v ≤ cW C ∧ ∀ x, x < 128 → bt2 (μ2.2 122 w) (μ2.2 123 w) x = (decide (x < v) && decide (cF C w x ≤ r))) (fun _ _ _ v4 _ => ((cW C : Int) - v4).toNat) ?_ ⟨rfl, rfl, rfl, hz21, by rw [e21, e20]; rfl, fun u hu => ⟨by rw [e21, sL_ne (by omega), e20, sL_nj hu], by rw [e21, sL_nj hu, e20, sL_ne (by omega)]⟩, 0, rfl, Nat.zero_le _, fun x hx => by
      rw [e21, sL_ne (k := 123) (q := 122) (by omega), e20, sL_s', sL_s', decide_eq_false (Nat.not_lt_zero x)]
      unfold bt2
      rw [bt_0, bt_0, ite_self]; rfl⟩
    rintro X5 v1 v2 v3 v4 μ2 ⟨rfl, rfl, rfl, hz2, h115, hoth, v, rfl, hv, hbv⟩ hX5
    unfold wp_X8_fewestOf_46
    rw [h115, k26]
    refine ⟨fun q2 => ⟨inR_i (by omega) (by omega), hX _ _ _ _ ⟨rfl, rfl, hz2, by rw [h115]; exact k26, by rw [h115]; exact k27, w + 1, rfl, by omega, fun u hu x hx => ?_⟩ (by omega)⟩, fun q2 => ?_⟩
    · by_cases e : u = w
      · rw [e, hbv x hx, show v = cW C by omega]; rfl
      · rw [(hoth u e).1, (hoth u e).2]; exact hb u (by omega) x hx
    · refine s_farOf (hrow _ hz2) (by omega) hC (by omega) (by omega) ⟨fun q3 => ⟨fun q4 => ⟨by omega, fun μ29 e29 => ?_⟩, fun q4 => ⟨by omega, fun μ32 e32 => ?_⟩⟩, fun q3 => ?_⟩
      · rw [Int.toNat_natCast, show (v : Int) - 64 = ((v - 64 : Nat) : Int) by omega] at e29
        refine ⟨inR_i (by omega) (by omega), hX5 _ _ _ _ _ ⟨rfl, rfl, rfl, by rw [e29]; exact hz2.L (by omega), by rw [e29]; exact h115, fun u hu => ⟨by rw [e29, sL_ne (by omega)]; exact (hoth u hu).1, by rw [e29, sL_nj hu]; exact (hoth u hu).2⟩, v + 1, rfl, by omega, fun x hx => ?_⟩ (by omega)⟩
        have hx2 := hbv x hx
        rw [e29, sL_ne (k := 123) (q := 122) (by omega), sL_s']
        unfold bt2 at hx2 ⊢
        by_cases hx6 : x < 64
        · rw [if_pos hx6] at hx2 ⊢
          rw [hx2, decide_eq_true (show x < v by omega), decide_eq_true (show x < v + 1 by omega)]
        · rw [if_neg hx6] at hx2 ⊢
          rw [bt_or, hx2, bt_one (by omega) (by omega)]
          by_cases ex : x = v
          · rw [ex, decide_eq_true (show v - 64 = v - 64 from rfl), decide_eq_true (show v < v + 1 by omega), decide_eq_true (show cF C w v ≤ r by omega), Bool.or_true]; rfl
          · rw [decide_eq_false (show ¬ x - 64 = v - 64 by omega), Bool.or_false, show decide (x < v + 1) = decide (x < v) from decide_eq_decide.mpr (by omega)]
      · rw [Int.toNat_natCast] at e32
        refine ⟨inR_i (by omega) (by omega), hX5 _ _ _ _ _ ⟨rfl, rfl, rfl, by rw [e32]; exact hz2.L (by omega), by rw [e32]; exact h115, fun u hu => ⟨by rw [e32, sL_nj hu]; exact (hoth u hu).1, by rw [e32, sL_ne (by omega)]; exact (hoth u hu).2⟩, v + 1, rfl, by omega, fun x hx => ?_⟩ (by omega)⟩
        have hx2 := hbv x hx
        rw [e32, sL_ne (k := 122) (q := 123) (by omega), sL_s']
        unfold bt2 at hx2 ⊢
        by_cases hx6 : x < 64
        · rw [if_pos hx6] at hx2 ⊢
          rw [bt_or, hx2, bt_one (by omega) (by omega)]
          by_cases ex : x = v
          · rw [ex, decide_eq_true (show v = v from rfl), decide_eq_true (show v < v + 1 by omega), decide_eq_true (show cF C w v ≤ r by omega), Bool.or_true]; rfl
          · rw [decide_eq_false ex, Bool.or_false, show decide (x < v + 1) = decide (x < v) from decide_eq_decide.mpr (by omega)]
        · rw [if_neg hx6] at hx2 ⊢
          rw [hx2, decide_eq_false (show ¬ x < v by omega), decide_eq_false (show ¬ x < v + 1 by omega)]
      · refine ⟨inR_i (by omega) (by omega), hX5 _ _ _ _ _ ⟨rfl, rfl, rfl, hz2, h115, hoth, v + 1, rfl, by omega, fun x hx => ?_⟩ (by omega)⟩
        rw [hbv x hx]
        by_cases ex : x = v
        · rw [ex, decide_eq_false (show ¬ cF C w v ≤ r by omega), Bool.and_false, Bool.and_false]
        · rw [show decide (x < v + 1) = decide (x < v) from decide_eq_decide.mpr (by omega)]
theorem s8_fewest (hR : mrs μ cs) (HQ : QH Q μ (q_fewest cs c r a)) : wp_X8_fewest c r a μ Q := by
  intro μ1 e1
  have hz := mz_0 e1
  have hR1 := hR.to hz.1
  refine c_isK hR1 (fun n => A0 (e_ref HQ hz (if_neg (fun q => n q.1)))) (fun y => A1 ?_)
  refine c_in (fun n => B0 (e_ref HQ hz (if_neg (fun q => n q.2)))) (fun y2 => B1 ?_)
  have hq : q_fewest cs c r a = _ := if_pos ⟨y, y2⟩
  refine c_isR (fun n => B0 (e_ref HQ hz (hq.trans (if_neg n)))) (fun y3 => B1 ?_)
  rw [if_pos y3] at hq
  obtain ⟨n, rfl, hn, hp⟩ := y.nat
  obtain ⟨m, rfl, hm⟩ := y3.nat
  simp only [Int.toNat_natCast] at hq
  have hC := (hR n hn).2
  refine s_words (hR1 n hn).1 (by omega) hC ⟨fun q => ?_, fun q => e_ref HQ hz (hq.trans (if_neg (by omega)))⟩
  rw [if_pos (by omega)] at hq
  refine s_fewestOf hz (hR1 n hn).1 hn hC (by omega) (fun μ2 v hz2 hF => ?_)
  obtain ⟨f24, hF⟩ := hF
  refine ⟨fun a0 => ⟨fun a1 => ⟨inR_i (by omega) (by omega), ?_⟩, fun a1 => e_good HQ hz2 (hq.trans ?_)⟩, fun a0 => e_good HQ hz2 (hq.trans ?_)⟩
  · rcases hl : (fwF (cs n) m).1 with _ | l
    · rw [hl] at hF
      rw [hF.2]
      refine ⟨fun _ => e_good HQ hz2 (hq.trans ?_), fun x => absurd x (by omega)⟩
      unfold lfI
      rw [if_neg a1, hl]
    · rw [hl] at hF
      obtain ⟨f1, f2, f3, f4⟩ := hF
      rw [f2]
      refine ⟨fun q2 => e_good HQ hz2 (hq.trans ?_), fun q2 => ⟨by omega, e_good HQ hz2 (hq.trans ?_)⟩⟩
      · unfold lfI
        rw [if_neg a1, hl]
        show ((if a = 0 then (l.length : Int) else if a - 2 < (l.length : Int) then (l.getD (a - 2).toNat 0 : Int) else -2), (0 : Int)) = _
        rw [if_neg a0, if_neg (by omega)]
      · unfold lfI
        rw [if_neg a1, hl, f4 (a - 2).toNat (by omega)]
        show ((if a = 0 then (l.length : Int) else if a - 2 < (l.length : Int) then (l.getD (a - 2).toNat 0 : Int) else -2), (0 : Int)) = _
        rw [if_neg a0, if_pos (by omega)]
  · unfold lfI
    rw [if_pos a1, f24]
  · unfold lfI
    rw [if_neg (by omega)]
    rcases hl : (fwF (cs n) m).1 with _ | l
    · rw [hl] at hF; rw [hF.1]
    · rw [hl] at hF
      show ((if a = 0 then (l.length : Int) else _), (0 : Int)) = _
      rw [if_pos a0, hF.1]
end RX

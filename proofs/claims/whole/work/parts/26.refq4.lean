/-! ===== the reference: radius, apart, about ===== -/
section RE
variable {μ : Mem} {cs : Nat → Cd} {Q : Int → Mem → Prop} {c w v i k r a d : Int}
theorem hl24 {C : Cd} (hC : okC C) (h : ¬ ctF (cM C) (cW C) = 0) : hlF C 24 = 0 := by
  obtain ⟨v, hv, hm⟩ := ctF_pos.mp (show 0 < ctF (cM C) (cW C) by omega)
  refine ctF_zero.mpr (fun w hw => decide_eq_false (fun e => ?_))
  have h0 : 0 < tmF C 24 w := ctF_pos.mpr ⟨v, hv, by rw [hm, decide_eq_true (hC.far w v)]; rfl⟩
  omega
theorem s_radius {n : Nat} {C : Cd} (h : mrow μ n C) (hn : n < 14) (hC : okC C) (hq : ∀ μ', o121 μ μ' → Q (if ctF (cM C) (cW C) = 0 then -2 else ((rdF C : Nat) : Int)) μ') : wp_X8_radius n μ Q := by
  refine s_many h hn hC ⟨fun q => ?_, fun q => ?_⟩
  · have q' : ¬ ctF (cM C) (cW C) = 0 := by omega
    rw [if_neg q'] at hq
    have h24 := hl24 hC q'
    refine LP3_rule (fun (v1 v2 : Int) (μ2 : Mem) => v1 = (n : Int) ∧ o121 μ μ2 ∧ ∃ i : Nat, v2 = (i : Int) ∧ i ≤ 24 ∧ lsF (fun r => decide (hlF C r = 0)) (25 - i) i = rdF C) (fun _ v2 _ => (24 - v2).toNat) ?_ ⟨rfl, o121.rf, 0, rfl, by omega, rfl⟩
    rintro X v1 v2 μ2 ⟨rfl, ho, i, rfl, hi, hl⟩ hX
    have h2 := h.to (ho.1 117 (by omega))
    obtain ⟨j, hj⟩ : ∃ j, 25 - i = j + 1 := ⟨24 - i, by omega⟩
    rw [hj] at hl
    have hl' : (if decide (hlF C i = 0) = true then i else lsF (fun r => decide (hlF C r = 0)) j (i + 1)) = rdF C := hl
    refine s_covers h2 hn hC (fun μ' ho2 ht => ⟨fun q2 => ?_, fun q2 => ?_⟩)
    · rw [if_pos (decide_eq_true (by omega))] at hl'
      rw [hl']
      exact hq μ' ⟨fun k hk => (ho2.1 k hk).trans (ho.1 k hk), ho2.2.trans ho.2⟩
    · have hne : i ≠ 24 := fun e => by rw [e] at q2; omega
      rw [if_neg (by simp; omega)] at hl'
      refine ⟨inR_i (by omega) (by omega), hX _ _ _ ⟨rfl, ⟨fun k hk => (ho2.1 k hk).trans (ho.1 k hk), ho2.2.trans ho.2⟩, i + 1, rfl, by omega, ?_⟩ (by omega)⟩
      rw [show 25 - (i + 1) = j by omega]
      exact hl'
  · rw [if_pos (by omega)] at hq
    exact hq μ o121.rf
theorem mnO_s {p : Nat → Bool} {f : Nat → Nat} {b : Option Nat} {n : Nat} : mnO p f b (n + 1) = if p n then (match mnO p f b n with
      | none => some (f n)
      | some a => if f n < a then some (f n) else some a) else mnO p f b n := rfl
theorem s_apart {n : Nat} {C : Cd} (h : mrow μ n C) (hn : n < 14) (hC : okC C) (hq : Q (oI (apO C (cW C))) μ) : wp_X8_apart n μ Q := by
  have h8 := hC.2.2.2.1
  refine LP4_rule (fun (v1 v2 v3 : Int) (μ2 : Mem) => v1 = (n : Int) ∧ μ2 = μ ∧ ∃ i : Nat, v3 = (i : Int) ∧ i ≤ cW C ∧ v2 = oI (apO C i)) (fun _ _ v3 _ => ((cW C : Int) - v3).toNat) ?_ ⟨rfl, rfl, 0, rfl, Nat.zero_le _, rfl⟩
  rintro X v1 v2 v3 μ2 ⟨rfl, rfl, i, rfl, hi, rfl⟩ hX
  refine s_words h hn hC ⟨fun q => ?_, fun q => ?_⟩
  · have e : i = cW C := by omega
    subst e
    exact hq
  · generalize hpe : (fun v => cM C i && cM C v) = p
    generalize hfe : (fun v => cF C i v) = f
    have hpj : ∀ j, p j = (cM C i && cM C j) := fun j => by rw [← hpe]
    have hfj : ∀ j, f j = cF C i j := fun j => by rw [← hfe]
    have hap : apO C (i + 1) = mnO p f (apO C i) i := by rw [← hpe, ← hfe]; rfl
    refine LP5_rule (fun (v1 v2 v3 v4 : Int) (μ3 : Mem) => v1 = (n : Int) ∧ μ3 = μ2 ∧ v3 = (i : Int) ∧ ∃ j : Nat, v4 = (j : Int) ∧ j ≤ i ∧ v2 = oI (mnO p f (apO C i) j)) (fun _ _ _ v4 _ => ((i : Int) - v4).toNat) ?_ ⟨rfl, rfl, rfl, 0, rfl, Nat.zero_le _, rfl⟩
    rintro X5 v1 v2 v3 v4 μ3 ⟨rfl, rfl, rfl, j, rfl, hj, rfl⟩ hX5
    refine ⟨fun q2 => ?_, fun q2 => ?_⟩
    · have e : j = i := by omega
      subst e
      exact ⟨inR_i (by omega) (by omega), hX _ _ _ _ ⟨rfl, rfl, j + 1, rfl, by omega, by rw [hap]⟩ (by omega)⟩
    · have hs := mnO_s (p := p) (f := f) (b := apO C i) (n := j)
      have skip : p j = false → inR ((j : Int) + 1) ∧ X5 (n : Int) (oI (mnO p f (apO C i) j)) (i : Int) ((j : Int) + 1) μ3 := fun hm => by
        rw [hm, if_neg (by decide)] at hs
        exact ⟨inR_i (by omega) (by omega), hX5 _ _ _ _ _ ⟨rfl, rfl, rfl, j + 1, rfl, by omega, by rw [hs]⟩ (by omega)⟩
      refine s_isIn h hn (by omega) ⟨fun q3 => skip (by rw [hpj, bI_0.mp q3]; rfl), fun q3 => s_isIn h hn (by omega) ⟨fun q4 => ?_, fun q4 => skip (by rw [hpj, bI_0.mp q4, Bool.and_false])⟩⟩
      rw [show p j = true by rw [hpj, bI_n0.mp q3, bI_n0.mp q4]; rfl, if_pos rfl] at hs
      refine s_farOf h hn hC (by omega) (by omega) ?_
      rw [← hfj]
      cases hm : mnO p f (apO C i) j with
      | none =>
        rw [hm] at hs
        refine ⟨fun _ => ⟨inR_i (by omega) (by omega), hX5 _ _ _ _ _ ⟨rfl, rfl, rfl, j + 1, rfl, by omega, by rw [hs]; rfl⟩ (by omega)⟩, fun q => absurd rfl q⟩
      | some a =>
        rw [hm] at hs
        have hs : mnO p f (apO C i) (j + 1) = if f j < a then some (f j) else some a := hs
        refine ⟨fun q => absurd q (by show ¬ (a : Int) = -2; omega), fun _ => ⟨fun q5 => ?_, fun q5 => ?_⟩⟩
        · have q5 : (a : Int) ≤ (f j : Int) := q5
          rw [if_neg (by omega)] at hs
          exact ⟨inR_i (by omega) (by omega), hX5 _ _ _ _ _ ⟨rfl, rfl, rfl, j + 1, rfl, by omega, by rw [hs]⟩ (by omega)⟩
        · have q5 : ¬ (a : Int) ≤ (f j : Int) := q5
          rw [if_pos (by omega)] at hs
          exact ⟨inR_i (by omega) (by omega), hX5 _ _ _ _ _ ⟨rfl, rfl, rfl, j + 1, rfl, by omega, by rw [hs]; rfl⟩ (by omega)⟩
theorem s8_about (hR : mrs μ cs) (HQ : QH Q μ (q_about cs c a)) : wp_X8_about c a μ Q := by
  intro μ1 e1
  have hz := mz_0 e1
  have hR1 := hR.to hz.1
  refine c_isK hR1 (fun n => B0 (e_ref HQ hz (if_neg n))) (fun y => B1 ?_)
  have hq : q_about cs c a = _ := if_pos y
  obtain ⟨n, rfl, hn, hp⟩ := y.nat
  simp only [Int.toNat_natCast] at hq
  have hC := (hR n hn).2
  have h1 := (hR1 n hn).1
  refine ⟨fun q => ?_, fun q => ?_, fun q => ?_, fun q => ?_, fun q => ?_, fun q => ?_, fun q => ?_⟩
  · subst q; exact s_places h1 (by omega) (e_good HQ hz hq)
  · subst q; exact s_words h1 (by omega) hC (e_good HQ hz hq)
  · subst q; exact s_many h1 (by omega) hC (e_good HQ hz hq)
  · subst q; exact s_weights h1 (by omega) hC (e_good HQ hz hq)
  · subst q
    refine s_radius h1 (by omega) hC (fun μ' ho => e_good HQ (ho.mz hz) (hq.trans ?_))
    rw [if_neg (by decide), if_neg (by decide), if_neg (by decide), if_neg (by decide), if_pos rfl]
    by_cases h0 : ctF (cM (cs n)) (cW (cs n)) = 0
    · rw [if_pos h0, if_pos h0]
    · rw [if_neg h0, if_neg h0]
  · subst q; exact s_apart h1 (by omega) hC (e_good HQ hz hq)
  · refine e_ref HQ hz (hq.trans ?_)
    rw [if_neg (by omega), if_neg (by omega), if_neg (by omega), if_neg (by omega), if_neg (by omega), if_neg (by omega)]
end RE

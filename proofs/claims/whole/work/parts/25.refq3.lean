/-! ===== the reference: idle words, sums, centres ===== -/
theorem smF_s {t : Nat → Nat} {n : Nat} : smF t (n + 1) = smF t n + t n := rfl
section RD
variable {μ : Mem} {cs : Nat → Cd} {Q : Int → Mem → Prop} {c w v i k r a d : Int}
theorem s_isIdle {n r w : Nat} {C : Cd} (h : mrow μ n C) (hn : n < 14) (hC : okC C) (hw : w < cW C) (ht : ∀ u, u < cW C → μ.1 121 u = (tmF C r u : Nat)) (hq : Q (bI (idF C r w)) μ) : wp_X8_isIdle n w r μ Q := by
  have h8 := hC.2.2.2.1
  refine LP5_rule (fun (v1 v2 v3 v4 : Int) (μ' : Mem) => v1 = (n : Int) ∧ v2 = (w : Int) ∧ v3 = (r : Int) ∧ μ' = μ ∧ ∃ i : Nat, v4 = (i : Int) ∧ i ≤ cW C ∧ ctF (loF C r w) i = 0) (fun _ _ _ v4 _ => ((cW C : Int) - v4).toNat) ?_ ⟨rfl, rfl, rfl, rfl, 0, rfl, Nat.zero_le _, rfl⟩
  rintro X v1 v2 v3 v4 μ' ⟨rfl, rfl, rfl, rfl, i, rfl, hi, h0⟩ hX
  refine s_words h hn hC ⟨fun q => ?_, fun q => ?_⟩
  · have e : i = cW C := by omega
    subst e
    rw [show idF C r w = true from decide_eq_true h0] at hq
    exact hq
  · have hs : ctF (loF C r w) (i + 1) = ctF (loF C r w) i + (if loF C r w i then 1 else 0) := rfl
    have hlo : loF C r w i = (decide (tmF C r i = 1) && decide (cF C w i ≤ r)) := rfl
    refine ⟨by omega, ?_⟩
    rw [Int.toNat_natCast, ht i (by omega)]
    refine ⟨fun q2 => ?_, fun q2 => ?_⟩
    · rw [hlo, decide_eq_false (show ¬ tmF C r i = 1 by omega)] at hs
      exact ⟨inR_i (by omega) (by omega), hX _ _ _ _ _ ⟨rfl, rfl, rfl, rfl, i + 1, rfl, by omega, by rw [hs, h0]; rfl⟩ (by omega)⟩
    · refine s_farOf h hn hC (by omega) (by omega) ⟨fun q3 => ?_, fun q3 => ?_⟩
      · rw [hlo, decide_eq_false (show ¬ cF C w i ≤ r by omega), Bool.and_false] at hs
        exact ⟨inR_i (by omega) (by omega), hX _ _ _ _ _ ⟨rfl, rfl, rfl, rfl, i + 1, rfl, by omega, by rw [hs, h0]; rfl⟩ (by omega)⟩
      · have hp : 0 < ctF (loF C r w) (cW C) := ctF_pos.mpr ⟨i, by omega, by rw [hlo, decide_eq_true (show tmF C r i = 1 by omega), decide_eq_true (show cF C w i ≤ r by omega)]; rfl⟩
        rw [show idF C r w = false from decide_eq_false (by omega)] at hq
        exact hq
theorem s8_idle (hR : mrs μ cs) (rk : inR k) (HQ : QH Q μ (q_idle cs c r k)) : wp_X8_idle c r k μ Q := by
  intro μ1 e1
  have hz := mz_0 e1
  have hR1 := hR.to hz.1
  refine c_isK hR1 (fun n => A0 (e_ref HQ hz (if_neg (fun q => n q.1)))) (fun y => A1 ⟨fun y2 => ?_, fun n => e_ref HQ hz (if_neg (fun q => n q.2))⟩)
  have hq : q_idle cs c r k = _ := if_pos ⟨y, y2⟩
  refine c_isR (fun n => B0 (e_ref HQ hz (hq.trans (if_neg n)))) (fun y3 => B1 ?_)
  rw [if_pos y3] at hq
  obtain ⟨n, rfl, hn, hp⟩ := y.nat
  obtain ⟨m, rfl, hm⟩ := y3.nat
  simp only [Int.toNat_natCast] at hq
  have h8 := (hR n hn).2.2.2.2.1
  refine s_covers (hR1 n hn).1 (by omega) (hR1 n hn).2 (fun μ' ho ht => ?_)
  have hz2 := ho.mz hz
  have hR2 := hR.to hz2.1
  generalize hpe : (fun w => cM (cs n) w && idF (cs n) m w) = p at hq
  refine LP5_rule (fun (v1 v2 v4 v5 : Int) (μ2 : Mem) => v1 = (n : Int) ∧ v2 = (m : Int) ∧ μ2 = μ' ∧ ∃ i : Nat, v5 = (i : Int) ∧ i ≤ cW (cs n) ∧ kthO p k i = none ∧ v4 = k - (ctF p i : Nat) ∧ 0 ≤ v4) (fun _ _ _ v5 _ => ((cW (cs n) : Int) - v5).toNat) ?_ ⟨rfl, rfl, rfl, 0, rfl, Nat.zero_le _, rfl, (Int.sub_zero k).symm, y2⟩
  rintro X v1 v2 v4 v5 μ2 ⟨rfl, rfl, rfl, i, rfl, hi, hk, e3, h0⟩ hX
  have rk2 := rk.2
  refine s_words (hR2 n hn).1 (by omega) (hR n hn).2 ⟨fun q => ?_, fun q => ?_⟩
  · have e : i = cW (cs n) := by omega
    subst e
    exact e_good HQ hz2 (by rw [hq, kthF_miss hk])
  · have hs : ctF p (i + 1) = ctF p i + (if p i then 1 else 0) := rfl
    have hpi : p i = (cM (cs n) i && idF (cs n) m i) := by rw [← hpe]
    have skip : p i = false → inR ((i : Int) + 1) ∧ X (n : Int) (m : Int) v4 ((i : Int) + 1) μ2 := fun hm => by
      rw [hm] at hs
      exact ⟨inR_i (by omega) (by omega), hX _ _ _ _ _ ⟨rfl, rfl, rfl, i + 1, rfl, by omega, kthO_0 hk (fun q => by rw [hm] at q; exact absurd q.1 (by decide)), by rw [hs, if_neg (by decide)]; omega, h0⟩ (by omega)⟩
    refine s_isIn (hR2 n hn).1 (by omega) (by omega) ⟨fun q2 => skip (by rw [hpi, bI_0.mp q2]; rfl), fun q2 => ?_⟩
    refine s_isIdle (hR2 n hn).1 (by omega) (hR n hn).2 (by omega) ht ⟨fun q3 => ⟨fun q4 => ?_, fun q4 => ?_⟩, fun q3 => skip (by rw [hpi, bI_0.mp q3, Bool.and_false])⟩
    · rw [hpi, bI_n0.mp q2, bI_n0.mp q3] at hs
      exact ⟨inR_i (by omega) (by omega), inR_i (by omega) (by omega), hX _ _ _ _ _ ⟨rfl, rfl, rfl, i + 1, rfl, by omega, kthO_0 hk (fun q => by omega), by rw [hs]; simp; omega, by omega⟩ (by omega)⟩
    · exact e_good HQ hz2 (by rw [hq, kthF_hit hk (by rw [hpi, bI_n0.mp q2, bI_n0.mp q3]; rfl) (by omega) (by omega)])
theorem s8_excess (hR : mrs μ cs) (HQ : QH Q μ (q_excess cs c r)) : wp_X8_excess c r μ Q := by
  intro μ1 e1
  have hz := mz_0 e1
  have hR1 := hR.to hz.1
  refine c_isK hR1 (fun n => B0 (e_ref HQ hz (if_neg n))) (fun y => B1 ?_)
  have hq : q_excess cs c r = _ := if_pos y
  refine c_isR (fun n => B0 (e_ref HQ hz (hq.trans (if_neg n)))) (fun y3 => B1 ?_)
  rw [if_pos y3] at hq
  obtain ⟨n, rfl, hn, hp⟩ := y.nat
  obtain ⟨m, rfl, hm⟩ := y3.nat
  simp only [Int.toNat_natCast] at hq
  have h8 := (hR n hn).2.2.2.2.1
  refine s_covers (hR1 n hn).1 (by omega) (hR1 n hn).2 (fun μ' ho ht => ?_)
  have hz2 := ho.mz hz
  have hR2 := hR.to hz2.1
  refine LP4_rule (fun (v1 v3 v4 : Int) (μ2 : Mem) => v1 = (n : Int) ∧ μ2 = μ' ∧ ∃ i : Nat, v4 = (i : Int) ∧ i ≤ cW (cs n) ∧ v3 = ((smF (fun w => tmF (cs n) m w - 1) i : Nat) : Int) ∧ smF (fun w => tmF (cs n) m w - 1) i ≤ 256 * i) (fun _ _ v4 _ => ((cW (cs n) : Int) - v4).toNat) ?_ ⟨rfl, rfl, 0, rfl, Nat.zero_le _, rfl, Nat.le_refl _⟩
  rintro X v1 v3 v4 μ2 ⟨rfl, rfl, i, rfl, hi, rfl, hb⟩ hX
  refine s_words (hR2 n hn).1 (by omega) (hR n hn).2 ⟨fun q => ?_, fun q => ?_⟩
  · have e : i = cW (cs n) := by omega
    subst e
    exact e_good HQ hz2 hq
  · have hs := smF_s (t := fun w => tmF (cs n) m w - 1) (n := i)
    have hti : tmF (cs n) m i ≤ cW (cs n) := ctF_le _ _
    refine ⟨by omega, ?_⟩
    rw [Int.toNat_natCast, ht i (by omega)]
    have fin : ∀ s1 : Int, s1 = ((tmF (cs n) m i - 1 : Nat) : Int) → wp_X8_excess_78 Q X (n : Int) (i : Int) ((smF (fun w => tmF (cs n) m w - 1) i : Nat) : Int) s1 μ2 := by
      intro s1 es
      exact ⟨inR_i (by omega) (by omega), fun x e => ⟨inR_i (by omega) (by omega), hX _ _ _ _ ⟨rfl, rfl, i + 1, rfl, by omega, by rw [e, es, hs]; omega, by rw [hs]; omega⟩ (by omega)⟩⟩
    exact ⟨fun q2 => fin 0 (by omega), fun q2 => ⟨inR_i (by omega) (by omega), fin _ (by omega)⟩⟩
theorem blF_pos {C : Cd} (hC : okC C) (r : Nat) : 0 < blF C r := ctF_pos.mpr ⟨0, hC.pos, decide_eq_true (by rw [cF_self]; exact Nat.zero_le _)⟩
theorem s8_bound (hR : mrs μ cs) (HQ : QH Q μ (q_bound cs c r)) : wp_X8_bound c r μ Q := by
  intro μ1 e1
  have hz := mz_0 e1
  have hR1 := hR.to hz.1
  refine c_isK hR1 (fun n => B0 (e_ref HQ hz (if_neg n))) (fun y => B1 ?_)
  have hq : q_bound cs c r = _ := if_pos y
  refine c_isR (fun n => B0 (e_ref HQ hz (hq.trans (if_neg n)))) (fun y3 => B1 ?_)
  rw [if_pos y3] at hq
  obtain ⟨n, rfl, hn, hp⟩ := y.nat
  obtain ⟨m, rfl, hm⟩ := y3.nat
  simp only [Int.toNat_natCast] at hq
  have h8 := (hR n hn).2.2.2.2.1
  have hb := blF_pos (hR n hn).2 m
  have hl : blF (cs n) m ≤ cW (cs n) := ctF_le _ _
  refine s_ballOf (hR1 n hn).1 (by omega) (hR1 n hn).2 (s_words (hR1 n hn).1 (by omega) (hR1 n hn).2 ⟨inR_i (by omega) (by omega), ⟨by omega, by omega⟩, e_good HQ hz hq⟩)
theorem s8_pairs (hR : mrs μ cs) (HQ : QH Q μ (q_pairs cs c k)) : wp_X8_pairs c k μ Q := by
  intro μ1 e1
  have hz := mz_0 e1
  have hR1 := hR.to hz.1
  refine c_isK hR1 (fun n => B0 (e_ref HQ hz (if_neg n))) (fun y => B1 ?_)
  have hq : q_pairs cs c k = _ := if_pos y
  refine ⟨fun y2 => ?_, fun n => e_ref HQ hz (hq.trans (if_neg n))⟩
  rw [if_pos y2] at hq
  obtain ⟨n, rfl, hn, hp⟩ := y.nat
  simp only [Int.toNat_natCast] at hq
  have h8 := (hR n hn).2.2.2.2.1
  generalize hge : (fun w => ctF (fun v => cM (cs n) w && cM (cs n) v && decide ((cF (cs n) w v : Int) = k)) w) = g
  have hpr : prF (cs n) k = smF g (cW (cs n)) := by rw [← hge]; rfl
  have hgi : ∀ w, g w = ctF (fun v => cM (cs n) w && cM (cs n) v && decide ((cF (cs n) w v : Int) = k)) w := fun w => by rw [← hge]
  refine LP5_rule (fun (v1 v2 v3 v4 : Int) (μ2 : Mem) => v1 = (n : Int) ∧ v2 = k ∧ μ2 = μ1 ∧ ∃ i : Nat, v4 = (i : Int) ∧ i ≤ cW (cs n) ∧ v3 = ((smF g i : Nat) : Int) ∧ smF g i ≤ 256 * i) (fun _ _ _ v4 _ => ((cW (cs n) : Int) - v4).toNat) ?_ ⟨rfl, rfl, rfl, 0, rfl, Nat.zero_le _, rfl, Nat.le_refl _⟩
  rintro X v1 v2 v3 v4 μ2 ⟨rfl, rfl, rfl, i, rfl, hi, rfl, hb⟩ hX
  refine s_words (hR1 n hn).1 (by omega) (hR n hn).2 ⟨fun q => ?_, fun q => ?_⟩
  · have e : i = cW (cs n) := by omega
    subst e
    exact e_good HQ hz (by rw [hq, hpr])
  · generalize hpe : (fun v => cM (cs n) i && cM (cs n) v && decide ((cF (cs n) i v : Int) = v2)) = p
    have hpj : ∀ j, p j = (cM (cs n) i && cM (cs n) j && decide ((cF (cs n) i j : Int) = v2)) := fun j => by rw [← hpe]
    have hgp : g i = ctF p i := by rw [hgi i, hpe]
    refine LP6_rule (fun (v1 v2' v3 v4 v5 : Int) (μ3 : Mem) => v1 = (n : Int) ∧ v2' = v2 ∧ μ3 = μ2 ∧ v4 = (i : Int) ∧ ∃ j : Nat, v5 = (j : Int) ∧ j ≤ i ∧ v3 = ((smF g i : Nat) : Int) + ((ctF p j : Nat) : Int)) (fun _ _ _ _ v5 _ => ((i : Int) - v5).toNat) ?_ ⟨rfl, rfl, rfl, rfl, 0, rfl, Nat.zero_le _, by simp [ctF]⟩
    rintro X6 v1 v2' v3 v4 v5 μ3 ⟨rfl, rfl, rfl, rfl, j, rfl, hj, rfl⟩ hX6
    have hl := ctF_le p j
    refine ⟨fun q2 => ?_, fun q2 => ?_⟩
    · have e : j = i := by omega
      subst e
      have hs := smF_s (t := g) (n := j)
      exact ⟨inR_i (by omega) (by omega), hX _ _ _ _ _ ⟨rfl, rfl, rfl, j + 1, rfl, by omega, by rw [hs, hgp]; omega, by rw [hs, hgp]; omega⟩ (by omega)⟩
    · have hs : ctF p (j + 1) = ctF p j + (if p j then 1 else 0) := rfl
      have fin : ∀ s1 : Int, s1 = (if p j then 1 else 0) → wp_X8_pairs_93 Q X X6 (n : Int) v2' (i : Int) (j : Int) (((smF g i : Nat) : Int) + ((ctF p j : Nat) : Int)) s1 μ3 := by
        intro s1 es
        have h01 : 0 ≤ s1 ∧ s1 ≤ 1 := by rw [es]; split <;> omega
        refine ⟨inR_i (by omega) (by omega), fun x e => ⟨inR_i (by omega) (by omega), hX6 _ _ _ _ _ _ ⟨rfl, rfl, rfl, rfl, j + 1, rfl, by omega, ?_⟩ (by omega)⟩⟩
        rw [e, es, hs]
        cases p j <;> simp <;> omega
      refine s_isIn (hR1 n hn).1 (by omega) (by omega) ⟨fun q3 => ?_, fun q3 => ?_⟩
      · exact fin 0 (by rw [hpj, bI_0.mp q3]; rfl)
      · refine s_isIn (hR1 n hn).1 (by omega) (by omega) ⟨fun q4 => ?_, fun q4 => ?_⟩
        · exact fin 0 (by rw [hpj, bI_0.mp q4, Bool.and_false]; rfl)
        · refine s_farOf (hR1 n hn).1 (by omega) (hR n hn).2 (by omega) (by omega) ⟨fun q5 => ?_, fun q5 => ?_⟩
          · exact fin 0 (by rw [hpj, decide_eq_false q5, Bool.and_false]; rfl)
          · exact fin 1 (by rw [hpj, decide_eq_true q5, bI_n0.mp q3, bI_n0.mp q4]; rfl)
theorem mxF_s {p : Nat → Bool} {f : Nat → Nat} {n : Nat} : mxF p f (n + 1) = if p n = true ∧ mxF p f n < f n then f n else mxF p f n := rfl
theorem mxF_le {p : Nat → Bool} {f : Nat → Nat} {b : Nat} (h : ∀ v, f v ≤ b) : ∀ n, mxF p f n ≤ b
  | 0 => Nat.zero_le _
  | n + 1 => by
    rw [mxF_s]
    split
    · exact h n
    · exact mxF_le h n
theorem s_mostOf {n w : Nat} {C : Cd} (h : mrow μ n C) (hn : n < 14) (hC : okC C) (hw : w < cW C) (hq : Q (msF C w : Nat) μ) : wp_X8_mostOf n w μ Q := by
  have h8 := hC.2.2.2.1
  refine LP5_rule (fun (v1 v2 v3 v4 : Int) (μ' : Mem) => v1 = (n : Int) ∧ v2 = (w : Int) ∧ μ' = μ ∧ ∃ i : Nat, v4 = (i : Int) ∧ i ≤ cW C ∧ v3 = ((mxF (cM C) (fun v => cF C w v) i : Nat) : Int)) (fun _ _ _ v4 _ => ((cW C : Int) - v4).toNat) ?_ ⟨rfl, rfl, rfl, 0, rfl, Nat.zero_le _, rfl⟩
  rintro X v1 v2 v3 v4 μ' ⟨rfl, rfl, rfl, i, rfl, hi, rfl⟩ hX
  refine s_words h hn hC ⟨fun q => ?_, fun q => ?_⟩
  · have e : i = cW C := by omega
    subst e
    exact hq
  · have hs := mxF_s (p := cM C) (f := fun v => cF C w v) (n := i)
    refine s_isIn h hn (by omega) ⟨fun q2 => ?_, fun q2 => ?_⟩
    · rw [if_neg (fun y => by rw [bI_0.mp q2] at y; exact absurd y.1 (by decide))] at hs
      exact ⟨inR_i (by omega) (by omega), hX _ _ _ _ _ ⟨rfl, rfl, rfl, i + 1, rfl, by omega, by rw [hs]⟩ (by omega)⟩
    · refine s_farOf h hn hC (by omega) (by omega) ⟨fun q3 => ?_, fun q3 => ?_⟩
      · rw [if_neg (fun y => by have := y.2; omega)] at hs
        exact ⟨inR_i (by omega) (by omega), hX _ _ _ _ _ ⟨rfl, rfl, rfl, i + 1, rfl, by omega, by rw [hs]⟩ (by omega)⟩
      · rw [if_pos ⟨bI_n0.mp q2, by omega⟩] at hs
        exact s_farOf h hn hC (by omega) (by omega) ⟨inR_i (by omega) (by omega), hX _ _ _ _ _ ⟨rfl, rfl, rfl, i + 1, rfl, by omega, by rw [hs]⟩ (by omega)⟩
theorem amO_s0 {p : Nat → Bool} {f : Nat → Nat} {n : Nat} (h : amO p f n = none) : amO p f (n + 1) = if p n then some n else none := by simp only [amO, h]
theorem amO_s1 {p : Nat → Bool} {f : Nat → Nat} {n b : Nat} (h : amO p f n = some b) : amO p f (n + 1) = if p n = true ∧ f n < f b then some n else some b := by simp only [amO, h]
theorem amO_lt {p : Nat → Bool} {f : Nat → Nat} : ∀ {n b : Nat}, amO p f n = some b → b < n ∧ p b = true
  | 0, b, h => by simp [amO] at h
  | n + 1, b, h => by
    cases hm : amO p f n with
    | none =>
      rw [amO_s0 hm] at h
      split at h
      · rename_i hp
        have e : n = b := Option.some.inj h
        subst e
        exact ⟨Nat.lt_succ_self _, hp⟩
      · cases h
    | some a =>
      rw [amO_s1 hm] at h
      split at h
      · rename_i hp
        have e : n = b := Option.some.inj h
        subst e
        exact ⟨Nat.lt_succ_self _, hp.1⟩
      · have e : a = b := Option.some.inj h
        subst e
        have := amO_lt (n := n) hm
        exact ⟨by omega, this.2⟩
theorem s8_centre (hR : mrs μ cs) (HQ : QH Q μ (q_centre cs c a)) : wp_X8_centre c a μ Q := by
  intro μ1 e1
  have hz := mz_0 e1
  have hR1 := hR.to hz.1
  refine c_isK hR1 (fun n => A0 (e_ref HQ hz (if_neg (fun q => n q.1)))) (fun y => A1 ?_)
  refine c_in (fun n => B0 (e_ref HQ hz (if_neg (fun q => n q.2)))) (fun y2 => B1 ?_)
  have hq : q_centre cs c a = _ := if_pos ⟨y, y2⟩
  obtain ⟨n, rfl, hn, hp⟩ := y.nat
  simp only [Int.toNat_natCast] at hq
  have h8 := (hR n hn).2.2.2.2.1
  have hC := (hR n hn).2
  have hpos := hC.pos
  refine s_many (hR1 n hn).1 (by omega) hC ⟨fun q => ?_, fun q => e_ref HQ hz (hq.trans (if_pos (by omega)))⟩
  rw [if_neg (by omega)] at hq
  refine LP5_rule (fun (v1 v2 v3 v4 : Int) (μ2 : Mem) => v1 = (n : Int) ∧ v2 = a ∧ μ2 = μ1 ∧ ∃ i b : Nat, v4 = (i : Int) ∧ v3 = (b : Int) ∧ i ≤ cW (cs n) ∧ amO (fun _ => true) (msF (cs n)) i = some b) (fun _ _ _ v4 _ => ((cW (cs n) : Int) - v4).toNat) ?_ ⟨rfl, rfl, rfl, 1, 0, rfl, rfl, hpos, rfl⟩
  rintro X v1 v2 v3 v4 μ2 ⟨rfl, rfl, rfl, i, b, rfl, rfl, hi, hb⟩ hX
  have hbl := (amO_lt hb).1
  refine s_words (hR1 n hn).1 (by omega) hC ⟨fun q2 => ?_, fun q2 => ?_⟩
  · have e : i = cW (cs n) := by omega
    subst e
    have hcn : cnF (cs n) = b := by unfold cnF; rw [hb]; rfl
    rw [hcn] at hq
    refine ⟨fun q3 => ?_, fun q3 => ?_⟩
    · exact s_mostOf (hR1 n hn).1 (by omega) hC hbl (e_good HQ hz (hq.trans (if_neg q3)))
    · exact e_good HQ hz (hq.trans (if_pos q3))
  · have hs := amO_s1 hb
    refine s_mostOf (hR1 n hn).1 (by omega) hC (by omega) (s_mostOf (hR1 n hn).1 (by omega) hC (by omega) ⟨fun q3 => ?_, fun q3 => ?_⟩)
    · rw [if_neg (fun y => by have := y.2; omega)] at hs
      exact ⟨inR_i (by omega) (by omega), hX _ _ _ _ _ ⟨rfl, rfl, rfl, i + 1, b, rfl, rfl, by omega, hs⟩ (by omega)⟩
    · rw [if_pos ⟨rfl, by omega⟩] at hs
      exact ⟨inR_i (by omega) (by omega), hX _ _ _ _ _ ⟨rfl, rfl, rfl, i + 1, i, rfl, rfl, by omega, hs⟩ (by omega)⟩
theorem s8_nearest (hR : mrs μ cs) (HQ : QH Q μ (q_nearest cs c w)) : wp_X8_nearest c w μ Q := by
  intro μ1 e1
  have hz := mz_0 e1
  have hR1 := hR.to hz.1
  refine c_isWd hR1 (fun n => B0 (e_ref HQ hz (if_neg n))) (fun y => B1 ?_)
  have hq : q_nearest cs c w = _ := if_pos y
  obtain ⟨n, u, rfl, rfl, hn, hp, hu⟩ := y.nat
  simp only [Int.toNat_natCast] at hq
  have h8 := (hR n hn).2.2.2.2.1
  have hC := (hR n hn).2
  generalize hfe : (fun v => cF (cs n) u v) = f at hq
  have hf : ∀ v, f v = cF (cs n) u v := fun v => by rw [← hfe]
  refine LP5_rule (fun (v1 v2 v3 v4 : Int) (μ2 : Mem) => v1 = (n : Int) ∧ v2 = (u : Int) ∧ μ2 = μ1 ∧ ∃ i : Nat, v4 = (i : Int) ∧ i ≤ cW (cs n) ∧ ((amO (cM (cs n)) f i = none ∧ v3 = -1) ∨ ∃ b : Nat, amO (cM (cs n)) f i = some b ∧ v3 = (b : Int))) (fun _ _ _ v4 _ => ((cW (cs n) : Int) - v4).toNat) ?_ ⟨rfl, rfl, rfl, 0, rfl, Nat.zero_le _, Or.inl ⟨rfl, rfl⟩⟩
  rintro X v1 v2 v3 v4 μ2 ⟨rfl, rfl, rfl, i, rfl, hi, hb⟩ hX
  refine s_words (hR1 n hn).1 (by omega) hC ⟨fun q2 => ?_, fun q2 => ?_⟩
  · have e : i = cW (cs n) := by omega
    subst e
    rcases hb with ⟨hb, rfl⟩ | ⟨b, hb, rfl⟩
    · exact ⟨fun q => absurd rfl q, fun _ => e_ref HQ hz (by rw [hq, hb])⟩
    · exact ⟨fun _ => e_good HQ hz (by rw [hq, hb]), fun q => absurd q (by omega)⟩
  · refine s_isIn (hR1 n hn).1 (by omega) (by omega) ⟨fun q3 => ?_, fun q3 => ?_⟩
    · have hm := bI_0.mp q3
      refine ⟨inR_i (by omega) (by omega), hX _ _ _ _ _ ⟨rfl, rfl, rfl, i + 1, rfl, by omega, ?_⟩ (by omega)⟩
      rcases hb with ⟨hb, e⟩ | ⟨b, hb, e⟩
      · exact Or.inl ⟨by rw [amO_s0 hb, hm]; rfl, e⟩
      · exact Or.inr ⟨b, by rw [amO_s1 hb, if_neg (fun y => by rw [hm] at y; exact absurd y.1 (by decide))], e⟩
    · have hm := bI_n0.mp q3
      rcases hb with ⟨hb, rfl⟩ | ⟨b, hb, rfl⟩
      · exact ⟨fun _ => ⟨inR_i (by omega) (by omega), hX _ _ _ _ _ ⟨rfl, rfl, rfl, i + 1, rfl, by omega, Or.inr ⟨i, by rw [amO_s0 hb, hm]; rfl, rfl⟩⟩ (by omega)⟩, fun q => absurd rfl q⟩
      · have hbl := (amO_lt hb).1
        refine ⟨fun q => absurd q (by omega), fun _ => s_farOf (hR1 n hn).1 (by omega) hC (by omega) (by omega) (s_farOf (hR1 n hn).1 (by omega) hC (by omega) (by omega) ⟨fun q4 => ?_, fun q4 => ?_⟩)⟩
        · exact ⟨inR_i (by omega) (by omega), hX _ _ _ _ _ ⟨rfl, rfl, rfl, i + 1, rfl, by omega, Or.inr ⟨b, by rw [amO_s1 hb, if_neg (fun y => by have := y.2; rw [hf, hf] at this; omega)], rfl⟩⟩ (by omega)⟩
        · exact ⟨inR_i (by omega) (by omega), hX _ _ _ _ _ ⟨rfl, rfl, rfl, i + 1, rfl, by omega, Or.inr ⟨i, by rw [amO_s1 hb, if_pos ⟨hm, by rw [hf, hf]; omega⟩], rfl⟩⟩ (by omega)⟩
theorem s8_ring (hR : mrs μ cs) (HQ : QH Q μ (q_ring cs c w k)) : wp_X8_ring c w k μ Q := by
  intro μ1 e1
  have hz := mz_0 e1
  have hR1 := hR.to hz.1
  refine c_isWd hR1 (fun n => B0 (e_ref HQ hz (if_neg n))) (fun y => B1 ?_)
  have hq : q_ring cs c w k = _ := if_pos y
  refine ⟨fun y2 => ?_, fun n => e_ref HQ hz (hq.trans (if_neg n))⟩
  rw [if_pos y2] at hq
  obtain ⟨n, u, rfl, rfl, hn, hp, hu⟩ := y.nat
  simp only [Int.toNat_natCast] at hq
  have h8 := (hR n hn).2.2.2.2.1
  have hC := (hR n hn).2
  generalize hpe : (fun v => cM (cs n) v && decide ((cF (cs n) u v : Int) = k)) = p at hq
  have hpj : ∀ j, p j = (cM (cs n) j && decide ((cF (cs n) u j : Int) = k)) := fun j => by rw [← hpe]
  refine LP6_rule (fun (v1 v2 v3 v4 v5 : Int) (μ2 : Mem) => v1 = (n : Int) ∧ v2 = (u : Int) ∧ v3 = k ∧ μ2 = μ1 ∧ ∃ i : Nat, v5 = (i : Int) ∧ i ≤ cW (cs n) ∧ v4 = ((ctF p i : Nat) : Int)) (fun _ _ _ _ v5 _ => ((cW (cs n) : Int) - v5).toNat) ?_ ⟨rfl, rfl, rfl, rfl, 0, rfl, Nat.zero_le _, rfl⟩
  rintro X v1 v2 v3 v4 v5 μ2 ⟨rfl, rfl, rfl, rfl, i, rfl, hi, rfl⟩ hX
  have hl := ctF_le p i
  refine s_words (hR1 n hn).1 (by omega) hC ⟨fun q2 => ?_, fun q2 => ?_⟩
  · have e : i = cW (cs n) := by omega
    subst e
    exact e_good HQ hz hq
  · have hs : ctF p (i + 1) = ctF p i + (if p i then 1 else 0) := rfl
    have fin : ∀ s1 : Int, s1 = (if p i then 1 else 0) → wp_X8_ring_75 Q X (n : Int) (u : Int) v3 (i : Int) ((ctF p i : Nat) : Int) s1 μ2 := by
      intro s1 es
      have h01 : 0 ≤ s1 ∧ s1 ≤ 1 := by rw [es]; split <;> omega
      refine ⟨inR_i (by omega) (by omega), fun x e => ⟨inR_i (by omega) (by omega), hX _ _ _ _ _ _ ⟨rfl, rfl, rfl, rfl, i + 1, rfl, by omega, ?_⟩ (by omega)⟩⟩
      rw [e, es, hs]
      cases p i <;> simp
    refine s_isIn (hR1 n hn).1 (by omega) (by omega) ⟨fun q3 => fin 0 (by rw [hpj, bI_0.mp q3]; rfl), fun q3 => s_farOf (hR1 n hn).1 (by omega) hC (by omega) (by omega) ⟨fun q4 => fin 0 (by rw [hpj, decide_eq_false q4, Bool.and_false]; rfl), fun q4 => fin 1 (by rw [hpj, decide_eq_true q4, bI_n0.mp q3]; rfl)⟩⟩
theorem s8_column (hR : mrs μ cs) (HQ : QH Q μ (q_column cs c i d)) : wp_X8_column c i d μ Q := by
  intro μ1 e1
  have hz := mz_0 e1
  have hR1 := hR.to hz.1
  refine c_isPl hR1 (fun n => B0 (e_ref HQ hz (if_neg n))) (fun y => B1 ?_)
  have hq : q_column cs c i d = _ := if_pos y
  obtain ⟨n, u, rfl, rfl, hn, hp, hu⟩ := y.nat
  simp only [Int.toNat_natCast] at hq
  have h8 := (hR n hn).2.2.2.2.1
  have hC := (hR n hn).2
  have hsz := hC.2.1 u hu
  refine s_sizeOf (hR1 n hn).1 (by omega) hC hu ⟨inR_i (by omega) (by omega), c_in (fun n => B0 (e_ref HQ hz (hq.trans (if_neg (fun q => n (by omega)))))) (fun y2 => B1 ?_)⟩
  rw [if_pos (by omega)] at hq
  generalize hpe : (fun w => cM (cs n) w && decide ((cD (cs n) w u : Int) = d)) = p at hq
  have hpj : ∀ j, p j = (cM (cs n) j && decide ((cD (cs n) j u : Int) = d)) := fun j => by rw [← hpe]
  refine LP6_rule (fun (v1 v2 v3 v4 v5 : Int) (μ2 : Mem) => v1 = (n : Int) ∧ v2 = (u : Int) ∧ v3 = d ∧ μ2 = μ1 ∧ ∃ i : Nat, v5 = (i : Int) ∧ i ≤ cW (cs n) ∧ v4 = ((ctF p i : Nat) : Int)) (fun _ _ _ _ v5 _ => ((cW (cs n) : Int) - v5).toNat) ?_ ⟨rfl, rfl, rfl, rfl, 0, rfl, Nat.zero_le _, rfl⟩
  rintro X v1 v2 v3 v4 v5 μ2 ⟨rfl, rfl, rfl, rfl, i, rfl, hi, rfl⟩ hX
  have hl := ctF_le p i
  refine s_words (hR1 n hn).1 (by omega) hC ⟨fun q2 => ?_, fun q2 => ?_⟩
  · have e : i = cW (cs n) := by omega
    subst e
    exact e_good HQ hz hq
  · have hs : ctF p (i + 1) = ctF p i + (if p i then 1 else 0) := rfl
    have fin : ∀ s1 : Int, s1 = (if p i then 1 else 0) → wp_X8_column_87 Q X (n : Int) (u : Int) v3 (i : Int) ((ctF p i : Nat) : Int) s1 μ2 := by
      intro s1 es
      have h01 : 0 ≤ s1 ∧ s1 ≤ 1 := by rw [es]; split <;> omega
      refine ⟨inR_i (by omega) (by omega), fun x e => ⟨inR_i (by omega) (by omega), hX _ _ _ _ _ _ ⟨rfl, rfl, rfl, rfl, i + 1, rfl, by omega, ?_⟩ (by omega)⟩⟩
      rw [e, es, hs]
      cases p i <;> simp
    refine s_isIn (hR1 n hn).1 (by omega) (by omega) ⟨fun q3 => fin 0 (by rw [hpj, bI_0.mp q3]; rfl), fun q3 => s_digitOf (hR1 n hn).1 (by omega) hC (by omega) hu ⟨fun q4 => fin 0 (by rw [hpj, decide_eq_false q4, Bool.and_false]; rfl), fun q4 => fin 1 (by rw [hpj, decide_eq_true q4, bI_n0.mp q3]; rfl)⟩⟩
theorem s8_worth (hR : mrs μ cs) (HQ : QH Q μ (q_worth cs c w r)) : wp_X8_worth c w r μ Q := by
  intro μ1 e1
  have hz := mz_0 e1
  have hR1 := hR.to hz.1
  refine c_isWd hR1 (fun n => B0 (e_ref HQ hz (if_neg n))) (fun y => B1 ?_)
  have hq : q_worth cs c w r = _ := if_pos y
  refine c_isR (fun n => B0 (e_ref HQ hz (hq.trans (if_neg n)))) (fun y2 => B1 ?_)
  rw [if_pos y2] at hq
  obtain ⟨n, u, rfl, rfl, hn, hp, hu⟩ := y.nat
  obtain ⟨m, rfl, hm⟩ := y2.nat
  simp only [Int.toNat_natCast] at hq
  have h8 := (hR n hn).2.2.2.2.1
  have hC := (hR n hn).2
  refine s_isIn (hR1 n hn).1 (by omega) (by omega) ⟨fun q => ?_, fun q => e_ref HQ hz (by rw [hq, bI_0.mp q]; rfl)⟩
  rw [bI_n0.mp q, if_pos rfl] at hq
  refine s_covers (hR1 n hn).1 (by omega) hC (fun μ' ho ht => ?_)
  have hz2 := ho.mz hz
  have hR2 := hR.to hz2.1
  generalize hpe : loF (cs n) m u = p at hq
  have hpj : ∀ j, p j = (decide (tmF (cs n) m j = 1) && decide (cF (cs n) u j ≤ m)) := fun j => by rw [← hpe]; rfl
  refine LP6_rule (fun (v1 v2 v3 v4 v5 : Int) (μ2 : Mem) => v1 = (n : Int) ∧ v2 = (u : Int) ∧ v3 = (m : Int) ∧ μ2 = μ' ∧ ∃ i : Nat, v5 = (i : Int) ∧ i ≤ cW (cs n) ∧ v4 = ((ctF p i : Nat) : Int)) (fun _ _ _ _ v5 _ => ((cW (cs n) : Int) - v5).toNat) ?_ ⟨rfl, rfl, rfl, rfl, 0, rfl, Nat.zero_le _, rfl⟩
  rintro X v1 v2 v3 v4 v5 μ2 ⟨rfl, rfl, rfl, rfl, i, rfl, hi, rfl⟩ hX
  have hl := ctF_le p i
  refine s_words (hR2 n hn).1 (by omega) hC ⟨fun q2 => ?_, fun q2 => ?_⟩
  · have e : i = cW (cs n) := by omega
    subst e
    exact e_good HQ hz2 hq
  · have hs : ctF p (i + 1) = ctF p i + (if p i then 1 else 0) := rfl
    have fin : ∀ s1 : Int, s1 = (if p i then 1 else 0) → wp_X8_worth_102 Q X (n : Int) (u : Int) (m : Int) (i : Int) ((ctF p i : Nat) : Int) s1 μ2 := by
      intro s1 es
      have h01 : 0 ≤ s1 ∧ s1 ≤ 1 := by rw [es]; split <;> omega
      refine ⟨inR_i (by omega) (by omega), fun x e => ⟨inR_i (by omega) (by omega), hX _ _ _ _ _ _ ⟨rfl, rfl, rfl, rfl, i + 1, rfl, by omega, ?_⟩ (by omega)⟩⟩
      rw [e, es, hs]
      cases p i <;> simp
    refine ⟨by omega, ?_⟩
    rw [Int.toNat_natCast, ht i (by omega)]
    refine ⟨fun q3 => fin 0 (by rw [hpj, decide_eq_false (show ¬ tmF (cs n) m i = 1 by omega)]; rfl), fun q3 => s_farOf (hR2 n hn).1 (by omega) hC (by omega) (by omega) ⟨fun q4 => fin 0 (by rw [hpj, decide_eq_false (show ¬ cF (cs n) u i ≤ m by omega), Bool.and_false]; rfl), fun q4 => fin 1 (by rw [hpj, decide_eq_true (show tmF (cs n) m i = 1 by omega), decide_eq_true (show cF (cs n) u i ≤ m by omega)]; rfl)⟩⟩
end RD

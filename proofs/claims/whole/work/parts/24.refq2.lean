/-! ===== the reference: what is covered ===== -/
def o121 (μ μ' : Mem) : Prop := (∀ k, k ≠ 121 → μ'.1 k = μ.1 k) ∧ μ'.2 = μ.2
theorem o121.rf {μ : Mem} : o121 μ μ := ⟨fun _ _ => rfl, rfl⟩
theorem o121.set {μ μ' : Mem} {j : Nat} {v : Int} (h : o121 μ μ') : o121 μ (sI μ' 121 j v) := ⟨fun k hk => (sI_ne hk).trans (h.1 k hk), h.2⟩
theorem o121.mq {μ μ' : Mem} (h : o121 μ μ') : mq μ μ' := ⟨fun k hk => ⟨h.1 k (by omega), by rw [h.2]⟩, fun j _ _ => by rw [h.1 115 (by omega)], by rw [h.2]⟩
theorem o121.mz {μ μ1 μ' : Mem} (h : o121 μ1 μ') (hz : mz μ μ1) : mz μ μ' := ⟨hz.1.tr h.mq, by rw [h.1 115 (by omega)]; exact hz.2⟩
section RC
variable {μ : Mem} {cs : Nat → Cd} {Q : Int → Mem → Prop} {c w v i k r a d : Int}
theorem s_covers {n r : Nat} {C : Cd} (h : mrow μ n C) (hn : n < 14) (hC : okC C) (hq : ∀ μ', o121 μ μ' → (∀ u, u < cW C → μ'.1 121 u = (tmF C r u : Nat)) → Q (hlF C r : Nat) μ') : wp_X8_covers n r μ Q := by
  have h8 := hC.2.2.2.1
  refine LP5_rule (fun (v1 v2 v3 v4 : Int) (μ' : Mem) => v1 = (n : Int) ∧ v2 = (r : Int) ∧ o121 μ μ' ∧ ∃ i : Nat, v4 = (i : Int) ∧ i ≤ cW C ∧ v3 = ((ctF (fun w => decide (tmF C r w = 0)) i : Nat) : Int) ∧ ∀ u, u < i → μ'.1 121 u = (tmF C r u : Nat)) (fun _ _ _ v4 _ => ((cW C : Int) - v4).toNat) ?_ ⟨rfl, rfl, o121.rf, 0, rfl, Nat.zero_le _, rfl, fun u hu => absurd hu (Nat.not_lt_zero u)⟩
  rintro X v1 v2 v3 v4 μ' ⟨rfl, rfl, ho, i, rfl, hi, rfl, ht⟩ hX
  have h' := h.to (ho.1 117 (by omega))
  refine s_words h' hn hC ⟨fun q => ?_, fun q => ?_⟩
  · have e : i = cW C := by omega
    subst e
    exact hq μ' ho ht
  · refine ⟨by omega, fun μ5 e5 => ?_⟩
    simp only [Int.toNat_natCast] at e5
    refine LP6_rule (fun (v1 v2 v3 v4 v5 : Int) (μ2 : Mem) => v1 = (n : Int) ∧ v2 = (r : Int) ∧ v3 = ((ctF (fun w => decide (tmF C r w = 0)) i : Nat) : Int) ∧ v4 = (i : Int) ∧ o121 μ μ2 ∧ (∀ u, u < i → μ2.1 121 u = (tmF C r u : Nat)) ∧ ∃ j : Nat, v5 = (j : Int) ∧ j ≤ cW C ∧ μ2.1 121 i = ((ctF (fun v => cM C v && decide (cF C i v ≤ r)) j : Nat) : Int)) (fun _ _ _ _ v5 _ => ((cW C : Int) - v5).toNat) ?_ ⟨rfl, rfl, rfl, rfl, by rw [e5]; exact ho.set, fun u hu => by rw [e5, sI_nj (by omega)]; exact ht u hu, 0, rfl, Nat.zero_le _, by rw [e5, sI_s]; rfl⟩
    rintro X6 v1 v2 v3 v4 v5 μ2 ⟨rfl, rfl, rfl, rfl, ho2, ht2, j, rfl, hj, htj⟩ hX6
    have h2 := h.to (ho2.1 117 (by omega))
    have hl := ctF_le (fun v => cM C v && decide (cF C i v ≤ r)) j
    have hli := ctF_le (fun w => decide (tmF C r w = 0)) i
    refine s_words h2 hn hC ⟨fun q2 => ?_, fun q2 => ?_⟩
    · have e : j = cW C := by omega
      subst e
      have htj' : μ2.1 121 i = (tmF C r i : Nat) := htj
      have hs : ctF (fun w => decide (tmF C r w = 0)) (i + 1) = ctF (fun w => decide (tmF C r w = 0)) i + (if decide (tmF C r i = 0) then 1 else 0) := rfl
      have ht3 : ∀ u, u < i + 1 → μ2.1 121 u = (tmF C r u : Nat) := fun u hu => by
        by_cases e : u = i
        · rw [e]; exact htj'
        · exact ht2 u (by omega)
      simp only [Int.toNat_natCast]
      refine ⟨by omega, fun q3 => ?_, fun q3 => ?_⟩
      · rw [decide_eq_false (by rw [htj'] at q3; omega)] at hs
        exact ⟨inR_i (by omega) (by omega), fun x e => ⟨inR_i (by omega) (by omega), hX _ _ _ _ _ ⟨rfl, rfl, ho2, i + 1, rfl, by omega, by rw [e, hs]; simp, ht3⟩ (by omega)⟩⟩
      · rw [decide_eq_true (by rw [htj'] at q3; omega)] at hs
        exact ⟨inR_i (by omega) (by omega), fun x e => ⟨inR_i (by omega) (by omega), hX _ _ _ _ _ ⟨rfl, rfl, ho2, i + 1, rfl, by omega, by rw [e, hs]; simp, ht3⟩ (by omega)⟩⟩
    · have hs : ctF (fun v => cM C v && decide (cF C i v ≤ r)) (j + 1) = ctF (fun v => cM C v && decide (cF C i v ≤ r)) j + (if cM C j && decide (cF C i j ≤ r) then 1 else 0) := rfl
      have fin : ∀ s3 : Int, (((ctF (fun v => cM C v && decide (cF C i v ≤ r)) j : Nat) : Int) + s3 = ((ctF (fun v => cM C v && decide (cF C i v ≤ r)) (j + 1) : Nat) : Int)) → 0 ≤ s3 → s3 ≤ 1 → wp_X8_covers_72 Q X X6 (n : Int) (r : Int) ((ctF (fun w => decide (tmF C r w = 0)) i : Nat) : Int) (i : Int) (j : Int) (i : Int) (μ2.1 121 i) s3 μ2 := by
        intro s3 es h0 h1
        rw [htj]
        refine ⟨by omega, inR_i (by omega) (by omega), fun μ20 e20 => ⟨inR_i (by omega) (by omega), hX6 _ _ _ _ _ _ ⟨rfl, rfl, rfl, rfl, by rw [e20]; exact ho2.set, fun u hu => ?_, j + 1, rfl, by omega, ?_⟩ (by omega)⟩⟩
        · rw [e20, Int.toNat_natCast, sI_nj (by omega)]; exact ht2 u hu
        · rw [e20, Int.toNat_natCast, sI_s]; exact es
      simp only [Int.toNat_natCast]
      refine ⟨by omega, s_isIn h2 hn (by omega) ⟨fun q3 => ?_, fun q3 => ?_⟩⟩
      · have := bI_0.mp q3
        rw [this] at hs
        exact fin 0 (by rw [hs]; simp) (by omega) (by omega)
      · have := bI_n0.mp q3
        rw [this] at hs
        refine s_farOf h2 hn hC (by omega) (by omega) ⟨fun q4 => ?_, fun q4 => ?_⟩
        · rw [decide_eq_false (by omega)] at hs
          exact fin 0 (by rw [hs]; simp) (by omega) (by omega)
        · rw [decide_eq_true (by omega)] at hs
          exact fin 1 (by rw [hs]; simp) (by omega) (by omega)
theorem s8_covered (hR : mrs μ cs) (HQ : QH Q μ (q_covered cs c r)) : wp_X8_covered c r μ Q := by
  intro μ1 e1
  have hz := mz_0 e1
  have hR1 := hR.to hz.1
  refine c_isK hR1 (fun n => B0 (e_ref HQ hz (if_neg n))) (fun y => B1 ?_)
  have hq : q_covered cs c r = _ := if_pos y
  refine c_isR (fun n => A0 (e_ref HQ hz (hq.trans (if_neg n)))) (fun y2 => A1 ?_)
  rw [if_pos y2] at hq
  obtain ⟨n, rfl, hn, hp⟩ := y.nat
  obtain ⟨m, rfl, hm⟩ := y2.nat
  simp only [Int.toNat_natCast] at hq
  have h8 := (hR n hn).2.2.2.2.1
  have hl := ctF_le (fun w => decide (tmF (cs n) m w = 0)) (cW (cs n))
  refine s_words (hR1 n hn).1 (by omega) (hR1 n hn).2 (s_covers (hR1 n hn).1 (by omega) (hR1 n hn).2 (fun μ' ho ht => ⟨?_, e_good HQ (ho.mz hz) hq⟩))
  unfold hlF
  exact inR_i (by omega) (by omega)
theorem s8_times (hR : mrs μ cs) (HQ : QH Q μ (q_times cs c w r)) : wp_X8_times c w r μ Q := by
  intro μ1 e1
  have hz := mz_0 e1
  have hR1 := hR.to hz.1
  refine c_isWd hR1 (fun n => B0 (e_ref HQ hz (if_neg n))) (fun y => B1 ?_)
  have hq : q_times cs c w r = _ := if_pos y
  refine c_isR (fun n => B0 (e_ref HQ hz (hq.trans (if_neg n)))) (fun y2 => B1 ?_)
  rw [if_pos y2] at hq
  obtain ⟨n, u, rfl, rfl, hn, hp, hu⟩ := y.nat
  obtain ⟨m, rfl, hm⟩ := y2.nat
  simp only [Int.toNat_natCast] at hq
  have h8 := (hR n hn).2.2.2.2.1
  refine s_covers (hR1 n hn).1 (by omega) (hR1 n hn).2 (fun μ' ho ht => ⟨by omega, ?_⟩)
  rw [Int.toNat_natCast, ht u hu]
  exact e_good HQ (ho.mz hz) hq
theorem s8_table (hR : mrs μ cs) (HQ : QH Q μ (q_table cs c r k)) : wp_X8_table c r k μ Q := by
  intro μ1 e1
  have hz := mz_0 e1
  have hR1 := hR.to hz.1
  refine c_isK hR1 (fun n => B0 (e_ref HQ hz (if_neg n))) (fun y => B1 ?_)
  have hq : q_table cs c r k = _ := if_pos y
  refine c_isR (fun n => A0 (e_ref HQ hz (hq.trans (if_neg (fun q => n q.1))))) (fun y2 => A1 ⟨fun y3 => ?_, fun n => e_ref HQ hz (hq.trans (if_neg (fun q => n q.2)))⟩)
  rw [if_pos ⟨y2, y3⟩] at hq
  obtain ⟨n, rfl, hn, hp⟩ := y.nat
  obtain ⟨m, rfl, hm⟩ := y2.nat
  simp only [Int.toNat_natCast] at hq
  have h8 := (hR n hn).2.2.2.2.1
  refine s_covers (hR1 n hn).1 (by omega) (hR1 n hn).2 (fun μ' ho ht => ?_)
  refine LP5_rule (fun (v1 v3 v4 v5 : Int) (μ2 : Mem) => v1 = (n : Int) ∧ v3 = k ∧ μ2 = μ' ∧ ∃ i : Nat, v5 = (i : Int) ∧ i ≤ cW (cs n) ∧ v4 = ((ctF (fun w => decide ((tmF (cs n) m w : Int) = k)) i : Nat) : Int)) (fun _ _ _ v5 _ => ((cW (cs n) : Int) - v5).toNat) ?_ ⟨rfl, rfl, rfl, 0, rfl, Nat.zero_le _, rfl⟩
  rintro X v1 v3 v4 v5 μ2 ⟨rfl, rfl, rfl, i, rfl, hi, rfl⟩ hX
  have hz2 := ho.mz hz
  refine s_words (hR.to hz2.1 n hn).1 (by omega) (hR n hn).2 ⟨fun q => ?_, fun q => ?_⟩
  · have e : i = cW (cs n) := by omega
    subst e
    exact e_good HQ hz2 hq
  · have hl := ctF_le (fun w => decide ((tmF (cs n) m w : Int) = v3)) i
    have hs : ctF (fun w => decide ((tmF (cs n) m w : Int) = v3)) (i + 1) = ctF (fun w => decide ((tmF (cs n) m w : Int) = v3)) i + (if decide ((tmF (cs n) m i : Int) = v3) then 1 else 0) := rfl
    refine ⟨by omega, ?_⟩
    rw [Int.toNat_natCast, ht i (by omega)]
    refine ⟨fun q2 => ?_, fun q2 => ?_⟩
    · rw [decide_eq_false q2] at hs
      exact ⟨inR_i (by omega) (by omega), fun x e => ⟨inR_i (by omega) (by omega), hX _ _ _ _ _ ⟨rfl, rfl, rfl, i + 1, rfl, by omega, by rw [e, hs]; simp⟩ (by omega)⟩⟩
    · rw [decide_eq_true q2] at hs
      exact ⟨inR_i (by omega) (by omega), fun x e => ⟨inR_i (by omega) (by omega), hX _ _ _ _ _ ⟨rfl, rfl, rfl, i + 1, rfl, by omega, by rw [e, hs]; simp⟩ (by omega)⟩⟩
theorem s8_word (hR : mrs μ cs) (rk : inR k) (HQ : QH Q μ (q_word cs c k)) : wp_X8_word c k μ Q := by
  intro μ1 e1
  have hz := mz_0 e1
  have hR1 := hR.to hz.1
  refine c_isK hR1 (fun n => A0 (e_ref HQ hz (if_neg (fun q => n q.1)))) (fun y => A1 ⟨fun y2 => ?_, fun n => e_ref HQ hz (if_neg (fun q => n q.2))⟩)
  have hq : q_word cs c k = _ := if_pos ⟨y, y2⟩
  obtain ⟨n, rfl, hn, hp⟩ := y.nat
  simp only [Int.toNat_natCast] at hq
  have h8 := (hR n hn).2.2.2.2.1
  refine LP4_rule (fun (v1 v3 v4 : Int) (μ2 : Mem) => v1 = (n : Int) ∧ μ2 = μ1 ∧ ∃ i : Nat, v4 = (i : Int) ∧ i ≤ cW (cs n) ∧ kthO (cM (cs n)) k i = none ∧ v3 = k - (ctF (cM (cs n)) i : Nat) ∧ 0 ≤ v3) (fun _ _ v4 _ => ((cW (cs n) : Int) - v4).toNat) ?_ ⟨rfl, rfl, 0, rfl, Nat.zero_le _, rfl, (Int.sub_zero k).symm, y2⟩
  rintro X v1 v3 v4 μ2 ⟨rfl, rfl, i, rfl, hi, hk, e3, h0⟩ hX
  have rk2 := rk.2
  refine s_words (hR1 n hn).1 (by omega) (hR n hn).2 ⟨fun q => ?_, fun q => ?_⟩
  · have e : i = cW (cs n) := by omega
    subst e
    exact e_good HQ hz (by rw [hq, kthF_miss hk])
  · have hs : ctF (cM (cs n)) (i + 1) = ctF (cM (cs n)) i + (if cM (cs n) i then 1 else 0) := rfl
    refine s_isIn (hR1 n hn).1 (by omega) (by omega) ⟨fun q2 => ⟨fun q3 => ?_, fun q3 => ?_⟩, fun q2 => ?_⟩
    · have hm := bI_n0.mp q2
      rw [hm] at hs
      exact ⟨inR_i (by omega) (by omega), inR_i (by omega) (by omega), hX _ _ _ _ ⟨rfl, rfl, i + 1, rfl, by omega, kthO_0 hk (fun q => by omega), by rw [hs, if_pos rfl]; omega, by omega⟩ (by omega)⟩
    · exact e_good HQ hz (by rw [hq, kthF_hit hk (bI_n0.mp q2) (by omega) (by omega)])
    · have hm := bI_0.mp q2
      rw [hm] at hs
      exact ⟨inR_i (by omega) (by omega), hX _ _ _ _ ⟨rfl, rfl, i + 1, rfl, by omega, kthO_0 hk (fun q => by rw [hm] at q; exact absurd q.1 (by decide)), by rw [hs, if_neg (by decide)]; omega, h0⟩ (by omega)⟩
theorem s8_ballAt (hR : mrs μ cs) (rk : inR k) (HQ : QH Q μ (q_ballAt cs c w r k)) : wp_X8_ballAt c w r k μ Q := by
  intro μ1 e1
  have hz := mz_0 e1
  have hR1 := hR.to hz.1
  refine c_isWd hR1 (fun n => A0 (e_ref HQ hz (if_neg (fun q => n q.1)))) (fun y => A1 ⟨fun y2 => ?_, fun n => e_ref HQ hz (if_neg (fun q => n q.2))⟩)
  have hq : q_ballAt cs c w r k = _ := if_pos ⟨y, y2⟩
  refine c_isR (fun n => B0 (e_ref HQ hz (hq.trans (if_neg n)))) (fun y3 => B1 ?_)
  rw [if_pos y3] at hq
  obtain ⟨n, u, rfl, rfl, hn, hp, hu⟩ := y.nat
  obtain ⟨m, rfl, hm⟩ := y3.nat
  simp only [Int.toNat_natCast] at hq
  have h8 := (hR n hn).2.2.2.2.1
  generalize hpe : (fun v => decide (cF (cs n) u v ≤ m)) = p at hq
  refine LP6_rule (fun (v1 v2 v3 v5 v6 : Int) (μ2 : Mem) => v1 = (n : Int) ∧ v2 = (u : Int) ∧ v3 = (m : Int) ∧ μ2 = μ1 ∧ ∃ i : Nat, v6 = (i : Int) ∧ i ≤ cW (cs n) ∧ kthO p k i = none ∧ v5 = k - (ctF p i : Nat) ∧ 0 ≤ v5) (fun _ _ _ _ v6 _ => ((cW (cs n) : Int) - v6).toNat) ?_ ⟨rfl, rfl, rfl, rfl, 0, rfl, Nat.zero_le _, rfl, (Int.sub_zero k).symm, y2⟩
  rintro X v1 v2 v3 v5 v6 μ2 ⟨rfl, rfl, rfl, rfl, i, rfl, hi, hk, e3, h0⟩ hX
  have rk2 := rk.2
  refine s_words (hR1 n hn).1 (by omega) (hR n hn).2 ⟨fun q => ?_, fun q => ?_⟩
  · have e : i = cW (cs n) := by omega
    subst e
    exact e_good HQ hz (by rw [hq, kthF_miss hk])
  · have hs : ctF p (i + 1) = ctF p i + (if p i then 1 else 0) := rfl
    have hpi : p i = decide (cF (cs n) u i ≤ m) := by rw [← hpe]
    refine s_farOf (hR1 n hn).1 (by omega) (hR n hn).2 (by omega) (by omega) ⟨fun q2 => ⟨fun q3 => ?_, fun q3 => ?_⟩, fun q2 => ?_⟩
    · rw [hpi, decide_eq_true (by omega)] at hs
      exact ⟨inR_i (by omega) (by omega), inR_i (by omega) (by omega), hX _ _ _ _ _ _ ⟨rfl, rfl, rfl, rfl, i + 1, rfl, by omega, kthO_0 hk (fun q => by omega), by rw [hs, if_pos rfl]; omega, by omega⟩ (by omega)⟩
    · exact e_good HQ hz (by rw [hq, kthF_hit hk (by rw [hpi]; exact decide_eq_true (by omega)) (by omega) (by omega)])
    · have hm : p i = false := by rw [hpi]; exact decide_eq_false (by omega)
      rw [hm] at hs
      exact ⟨inR_i (by omega) (by omega), hX _ _ _ _ _ _ ⟨rfl, rfl, rfl, rfl, i + 1, rfl, by omega, kthO_0 hk (fun q => by rw [hm] at q; exact absurd q.1 (by decide)), by rw [hs, if_neg (by decide)]; omega, h0⟩ (by omega)⟩
theorem s8_hole (hR : mrs μ cs) (rk : inR k) (HQ : QH Q μ (q_hole cs c r k)) : wp_X8_hole c r k μ Q := by
  intro μ1 e1
  have hz := mz_0 e1
  have hR1 := hR.to hz.1
  refine c_isK hR1 (fun n => A0 (e_ref HQ hz (if_neg (fun q => n q.1)))) (fun y => A1 ⟨fun y2 => ?_, fun n => e_ref HQ hz (if_neg (fun q => n q.2))⟩)
  have hq : q_hole cs c r k = _ := if_pos ⟨y, y2⟩
  refine c_isR (fun n => B0 (e_ref HQ hz (hq.trans (if_neg n)))) (fun y3 => B1 ?_)
  rw [if_pos y3] at hq
  obtain ⟨n, rfl, hn, hp⟩ := y.nat
  obtain ⟨m, rfl, hm⟩ := y3.nat
  simp only [Int.toNat_natCast] at hq
  have h8 := (hR n hn).2.2.2.2.1
  refine s_covers (hR1 n hn).1 (by omega) (hR1 n hn).2 (fun μ' ho ht => ?_)
  have hz2 := ho.mz hz
  generalize hpe : (fun w => decide (tmF (cs n) m w = 0)) = p at hq
  have hhl : hlF (cs n) m = ctF p (cW (cs n)) := by rw [← hpe]; rfl
  refine LP5_rule (fun (v1 v4 v5 v6 : Int) (μ2 : Mem) => v1 = (n : Int) ∧ v5 = (hlF (cs n) m : Nat) ∧ μ2 = μ' ∧ ∃ i : Nat, v6 = (i : Int) ∧ i ≤ cW (cs n) ∧ kthO p k i = none ∧ v4 = k - (ctF p i : Nat) ∧ 0 ≤ v4) (fun _ _ _ v6 _ => ((cW (cs n) : Int) - v6).toNat) ?_ ⟨rfl, rfl, rfl, 0, rfl, Nat.zero_le _, rfl, (Int.sub_zero k).symm, y2⟩
  rintro X v1 v4 v5 v6 μ2 ⟨rfl, rfl, rfl, i, rfl, hi, hk, e3, h0⟩ hX
  have rk2 := rk.2
  refine s_words (hR.to hz2.1 n hn).1 (by omega) (hR n hn).2 ⟨fun q => ?_, fun q => ⟨fun q2 => ?_, fun q2 => ?_⟩⟩
  · have e : i = cW (cs n) := by omega
    subst e
    exact e_good HQ hz2 (by rw [hq, kthF_miss hk])
  · have hall := ctF_zero.mp (show ctF p (cW (cs n)) = 0 by omega)
    have hnone : ∀ j, j ≤ cW (cs n) → kthO p k j = none := by
      intro j
      induction j with
      | zero => intro _; rfl
      | succ j ih => intro hj; exact kthO_0 (ih (by omega)) (fun q => by rw [hall j (by omega)] at q; exact absurd q.1 (by decide))
    exact e_good HQ hz2 (by rw [hq, kthF_miss (hnone _ (Nat.le_refl _))])
  · have hs : ctF p (i + 1) = ctF p i + (if p i then 1 else 0) := rfl
    have hpi : p i = decide (tmF (cs n) m i = 0) := by rw [← hpe]
    refine ⟨by omega, ?_⟩
    rw [Int.toNat_natCast, ht i (by omega)]
    refine ⟨fun q3 => ⟨fun q4 => ?_, fun q4 => ?_⟩, fun q3 => ?_⟩
    · rw [hpi, decide_eq_true (by omega)] at hs
      exact ⟨inR_i (by omega) (by omega), inR_i (by omega) (by omega), hX _ _ _ _ _ ⟨rfl, rfl, rfl, i + 1, rfl, by omega, kthO_0 hk (fun q => by omega), by rw [hs, if_pos rfl]; omega, by omega⟩ (by omega)⟩
    · exact e_good HQ hz2 (by rw [hq, kthF_hit hk (by rw [hpi]; exact decide_eq_true (by omega)) (by omega) (by omega)])
    · have hm : p i = false := by rw [hpi]; exact decide_eq_false (by omega)
      rw [hm] at hs
      exact ⟨inR_i (by omega) (by omega), hX _ _ _ _ _ ⟨rfl, rfl, rfl, i + 1, rfl, by omega, kthO_0 hk (fun q => by rw [hm] at q; exact absurd q.1 (by decide)), by rw [hs, if_neg (by decide)]; omega, h0⟩ (by omega)⟩
end RC

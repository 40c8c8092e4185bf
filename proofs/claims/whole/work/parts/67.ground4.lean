/-! the class: the ground, its counts -/
theorem ct0 {p : Nat → Bool} {n : Nat} (h : p n = false) : ctF p (n + 1) = ctF p n := by
  show ctF p n + (if p n then 1 else 0) = _
  rw [h]; rfl
theorem ct1 {p : Nat → Bool} {n : Nat} (h : p n = true) : ctF p (n + 1) = ctF p n + 1 := by
  show ctF p n + (if p n then 1 else 0) = _
  rw [h]; rfl
/-- v more go by before the one -/
def kI (p : Nat → Bool) (k : Int) (i : Nat) (v : Int) : Prop := kthO p k i = none ∧ v = k - (ctF p i : Int) ∧ 0 ≤ v
theorem kI.z {p : Nat → Bool} {k : Int} (h : 0 ≤ k) : kI p k 0 k := ⟨rfl, by show k = k - ((0 : Nat) : Int); omega, h⟩
theorem kI.no {p : Nat → Bool} {k v : Int} {i : Nat} (h : kI p k i v) (h2 : p i = false) : kI p k (i + 1) v := ⟨kthO_0 h.1 (fun q => by rw [h2] at q; exact absurd q.1 (by decide)), by rw [ct0 h2]; exact h.2.1, h.2.2⟩
theorem kI.go {p : Nat → Bool} {k v : Int} {i : Nat} (h : kI p k i v) (h2 : p i = true) (h3 : ¬ v = 0) : kI p k (i + 1) (v + (-1)) := by
  obtain ⟨a, b, c⟩ := h
  exact ⟨kthO_0 a (fun q => by omega), by rw [ct1 h2]; omega, by omega⟩
theorem kI.hit {p : Nat → Bool} {k v : Int} {i n : Nat} (h : kI p k i v) (h2 : p i = true) (h3 : v = 0) (hn : i < n) : kthF p n k = (i : Int) := by
  obtain ⟨a, b, c⟩ := h
  exact kthF_hit a h2 (by omega) hn
section CC
variable {μ : Mem} {C : Cd} {Q : Int → Mem → Prop}
theorem s3_inBall {w r : Nat} {k : Int} (hg : grS μ C (cN C)) (hC : okC C) (hw : w < cW C) (hk : 0 ≤ k) (rk : inR k) (hq : Q (kthF (fun v => decide (cF C w v ≤ r)) (cW C) k) μ) : wp_X3_inBall w r k μ Q := by
  have hw8 := hC.2.2.2.1
  have g0 : μ.1 70 0 = (cW C : Int) := hg.1
  refine LP5_rule (fun (v1 v2 v4 v5 : Int) (μ2 : Mem) => v1 = (w : Int) ∧ v2 = (r : Int) ∧ μ2 = μ ∧ ∃ i : Nat, v5 = (i : Int) ∧ i ≤ cW C ∧ kI (fun v => decide (cF C w v ≤ r)) k i v4) (fun _ _ _ v5 _ => ((cW C : Int) - v5).toNat) ?_ ⟨rfl, rfl, rfl, 0, rfl, Nat.zero_le _, kI.z hk⟩
  rintro X v1 v2 v4 v5 μ2 ⟨rfl, rfl, rfl, i, rfl, hi, hv⟩ hX
  have hv1 := hv.2.1
  have hv2 := hv.2.2
  unfold inR at rk
  unfold wp_X3_inBall_6
  rw [g0]
  refine ⟨fun c => ?_, fun c => s3_distance hg hC hw (by omega) ⟨fun c2 => ?_, fun c2 => ⟨fun c3 => ?_, fun c3 => ?_⟩⟩⟩
  · have e : i = cW C := by omega
    subst e
    rw [kthF_miss hv.1] at hq
    exact hq
  · exact ⟨inR_i (by omega) (by omega), hX _ _ _ _ _ ⟨rfl, rfl, rfl, i + 1, rfl, by omega, hv.no (decide_eq_false (by omega))⟩ (by omega)⟩
  · exact ⟨inR_i (by omega) (by omega), inR_i (by omega) (by omega), hX _ _ _ _ _ ⟨rfl, rfl, rfl, i + 1, rfl, by omega, hv.go (decide_eq_true (by omega)) c3⟩ (by omega)⟩
  · rw [hv.hit (decide_eq_true (by omega)) c3 (show i < cW C by omega)] at hq
    exact hq
theorem s3_fewestByCount {r : Nat} (hg : grS μ C (cN C)) (hC : okC C) (hq : Q (((cW C : Int) + (blF C r : Int) - 1) / (blF C r : Int)) μ) : wp_X3_fewestByCount r μ Q := by
  have hw8 := hC.2.2.2.1
  have g0 : μ.1 70 0 = (cW C : Int) := hg.1
  have hp := hC.pos
  have hl := ctF_le (fun v => decide (cF C 0 v ≤ r)) (cW C)
  have h1 : 0 < blF C r := ctF_pos.mpr ⟨0, by omega, decide_eq_true (by rw [cF_self]; omega)⟩
  have e : blF C r = ctF (fun v => decide (cF C 0 v ≤ r)) (cW C) := rfl
  refine s3_ballSize hg hC ?_
  rw [g0]
  exact ⟨fun _ => ⟨inR_i (by omega) (by omega), ⟨by omega, by omega⟩, hq⟩, fun c => absurd c (by omega)⟩
theorem s3_withTimes {t : Nat → Nat} {k : Int} (hg : grS μ C (cN C)) (hC : okC C) (ht : ∀ x, x < cW C → μ.1 72 x = (t x : Int)) (hq : Q ((ctF (fun w => decide ((t w : Int) = k)) (cW C) : Nat) : Int) μ) : wp_X3_withTimes k μ Q := by
  have hw8 := hC.2.2.2.1
  have g0 : μ.1 70 0 = (cW C : Int) := hg.1
  refine LP4_rule (fun (v1 v2 v3 : Int) (μ2 : Mem) => v1 = k ∧ μ2 = μ ∧ ∃ i : Nat, v3 = (i : Int) ∧ i ≤ cW C ∧ v2 = ((ctF (fun w => decide ((t w : Int) = k)) i : Nat) : Int)) (fun _ _ v3 _ => ((cW C : Int) - v3).toNat) ?_ ⟨rfl, rfl, 0, rfl, Nat.zero_le _, rfl⟩
  rintro X v1 v2 v3 μ2 ⟨rfl, rfl, i, rfl, hi, rfl⟩ hX
  have hl := ctF_le (fun w => decide ((t w : Int) = v1)) i
  unfold wp_X3_withTimes_4
  rw [g0, Int.toNat_natCast]
  refine ⟨fun c => ?_, fun c => ⟨by omega, ?_⟩⟩
  · have e : i = cW C := by omega
    subst e
    exact hq
  · rw [ht i (by omega)]
    refine ⟨fun c2 => ⟨inR_i (by omega) (by omega), hX _ _ _ _ ⟨rfl, rfl, i + 1, rfl, by omega, by rw [ct0 (decide_eq_false c2)]⟩ (by omega)⟩, fun c2 => ⟨inR_i (by omega) (by omega), inR_i (by omega) (by omega), hX _ _ _ _ ⟨rfl, rfl, i + 1, rfl, by omega, by rw [ct1 (decide_eq_true c2)]; omega⟩ (by omega)⟩⟩
theorem s3_timesTooMany {t : Nat → Nat} (hg : grS μ C (cN C)) (hC : okC C) (ht : ∀ x, x < cW C → μ.1 72 x = (t x : Int)) (hb : ∀ x, t x ≤ 256) (hq : Q ((smF (fun w => t w - 1) (cW C) : Nat) : Int) μ) : wp_X3_timesTooMany μ Q := by
  have hw8 := hC.2.2.2.1
  have g0 : μ.1 70 0 = (cW C : Int) := hg.1
  refine LP3_rule (fun (v1 v3 : Int) (μ2 : Mem) => μ2 = μ ∧ ∃ i : Nat, v3 = (i : Int) ∧ i ≤ cW C ∧ v1 = ((smF (fun w => t w - 1) i : Nat) : Int)) (fun _ v3 _ => ((cW C : Int) - v3).toNat) ?_ ⟨rfl, 0, rfl, Nat.zero_le _, rfl⟩
  rintro X v1 v3 μ2 ⟨rfl, i, rfl, hi, rfl⟩ hX
  have hl := smF_le (t := fun w => t w - 1) (c := 256) (n := i) (fun j _ => by have := hb j; show t j - 1 ≤ 256; omega)
  have hs : smF (fun w => t w - 1) (i + 1) = smF (fun w => t w - 1) i + (t i - 1) := rfl
  have hbi := hb i
  unfold wp_X3_timesTooMany_4
  rw [g0, Int.toNat_natCast]
  refine ⟨fun c => ?_, fun c => ⟨by omega, ?_⟩⟩
  · have e : i = cW C := by omega
    subst e
    exact hq
  · rw [ht i (by omega)]
    refine ⟨fun c2 => ⟨inR_i (by omega) (by omega), hX _ _ _ ⟨rfl, i + 1, rfl, by omega, by rw [hs]; omega⟩ (by omega)⟩, fun c2 => ⟨inR_i (by omega) (by omega), fun x5 e5 => ⟨inR_i (by omega) (by omega), hX _ _ _ ⟨rfl, i + 1, rfl, by omega, by rw [hs]; omega⟩ (by omega)⟩⟩⟩
theorem s3_holeAt {t : Nat → Nat} {k : Int} (hg : grS μ C (cN C)) (hC : okC C) (ht : ∀ x, x < cW C → μ.1 72 x = (t x : Int)) (hk : 0 ≤ k) (rk : inR k) (hq : Q (kthF (fun w => decide (t w = 0)) (cW C) k) μ) : wp_X3_holeAt k μ Q := by
  have hw8 := hC.2.2.2.1
  have g0 : μ.1 70 0 = (cW C : Int) := hg.1
  refine LP3_rule (fun (v2 v3 : Int) (μ2 : Mem) => μ2 = μ ∧ ∃ i : Nat, v3 = (i : Int) ∧ i ≤ cW C ∧ kI (fun w => decide (t w = 0)) k i v2) (fun _ v3 _ => ((cW C : Int) - v3).toNat) ?_ ⟨rfl, 0, rfl, Nat.zero_le _, kI.z hk⟩
  rintro X v2 v3 μ2 ⟨rfl, i, rfl, hi, hv⟩ hX
  have hv1 := hv.2.1
  have hv2 := hv.2.2
  unfold inR at rk
  unfold wp_X3_holeAt_4
  rw [g0, Int.toNat_natCast]
  refine ⟨fun c => ?_, fun c => ⟨by omega, ?_⟩⟩
  · have e : i = cW C := by omega
    subst e
    rw [kthF_miss hv.1] at hq
    exact hq
  · rw [ht i (by omega)]
    refine ⟨fun c2 => ?_, fun c2 => ⟨fun c3 => ?_, fun c3 => ?_⟩⟩
    · exact ⟨inR_i (by omega) (by omega), hX _ _ _ ⟨rfl, i + 1, rfl, by omega, hv.no (decide_eq_false (by omega))⟩ (by omega)⟩
    · exact ⟨inR_i (by omega) (by omega), inR_i (by omega) (by omega), hX _ _ _ ⟨rfl, i + 1, rfl, by omega, hv.go (decide_eq_true (by omega)) c3⟩ (by omega)⟩
    · rw [hv.hit (decide_eq_true (by omega)) c3 (show i < cW C by omega)] at hq
      exact hq
theorem s3_onlyBy {t : Nat → Nat} {w r : Nat} (hg : grS μ C (cN C)) (hC : okC C) (ht : ∀ x, x < cW C → μ.1 72 x = (t x : Int)) (hw : w < cW C) (hq : Q ((ctF (fun v => decide (t v = 1) && decide (cF C w v ≤ r)) (cW C) : Nat) : Int) μ) : wp_X3_onlyBy w r μ Q := by
  have hw8 := hC.2.2.2.1
  have g0 : μ.1 70 0 = (cW C : Int) := hg.1
  refine LP5_rule (fun (v1 v2 v3 v4 : Int) (μ2 : Mem) => v1 = (w : Int) ∧ v2 = (r : Int) ∧ μ2 = μ ∧ ∃ i : Nat, v4 = (i : Int) ∧ i ≤ cW C ∧ v3 = ((ctF (fun v => decide (t v = 1) && decide (cF C w v ≤ r)) i : Nat) : Int)) (fun _ _ _ v4 _ => ((cW C : Int) - v4).toNat) ?_ ⟨rfl, rfl, rfl, 0, rfl, Nat.zero_le _, rfl⟩
  rintro X v1 v2 v3 v4 μ2 ⟨rfl, rfl, rfl, i, rfl, hi, rfl⟩ hX
  have hl := ctF_le (fun v => decide (t v = 1) && decide (cF C w v ≤ r)) i
  unfold wp_X3_onlyBy_5
  rw [g0, Int.toNat_natCast]
  refine ⟨fun c => ?_, fun c => ⟨by omega, ?_⟩⟩
  · have e : i = cW C := by omega
    subst e
    exact hq
  · rw [ht i (by omega)]
    refine ⟨fun c2 => ⟨inR_i (by omega) (by omega), hX _ _ _ _ _ ⟨rfl, rfl, rfl, i + 1, rfl, by omega, ?_⟩ (by omega)⟩, fun c2 => s3_distance hg hC hw (by omega) ⟨fun c3 => ⟨inR_i (by omega) (by omega), hX _ _ _ _ _ ⟨rfl, rfl, rfl, i + 1, rfl, by omega, ?_⟩ (by omega)⟩, fun c3 => ⟨inR_i (by omega) (by omega), inR_i (by omega) (by omega), hX _ _ _ _ _ ⟨rfl, rfl, rfl, i + 1, rfl, by omega, ?_⟩ (by omega)⟩⟩⟩
    · rw [ct0 (by rw [decide_eq_false (show ¬ t i = 1 by omega), Bool.false_and])]
    · rw [ct0 (by rw [decide_eq_false (show ¬ cF C w i ≤ r by omega), Bool.and_false])]
    · rw [ct1 (by rw [decide_eq_true (show t i = 1 by omega), decide_eq_true (show cF C w i ≤ r by omega), Bool.and_true])]; omega
theorem s3_idleAt {p r : Nat} {k : Int} (hp : crep μ p C) (hg : grS μ C (cN C)) (hC : okC C) (ht : ∀ x, x < cW C → μ.1 72 x = (tmF C r x : Int)) (hk : 0 ≤ k) (rk : inR k) (hq : Q (kthF (fun w => cM C w && idF C r w) (cW C) k) μ) : wp_X3_idleAt p r k μ Q := by
  have hw8 := hC.2.2.2.1
  have g0 : μ.1 70 0 = (cW C : Int) := hg.1
  refine LP5_rule (fun (v1 : Nat) (v2 v4 v5 : Int) (μ2 : Mem) => v1 = p ∧ v2 = (r : Int) ∧ μ2 = μ ∧ ∃ i : Nat, v5 = (i : Int) ∧ i ≤ cW C ∧ kI (fun w => cM C w && idF C r w) k i v4) (fun _ _ _ v5 _ => ((cW C : Int) - v5).toNat) ?_ ⟨rfl, rfl, rfl, 0, rfl, Nat.zero_le _, kI.z hk⟩
  rintro X v1 v2 v4 v5 μ2 ⟨rfl, rfl, rfl, i, rfl, hi, hv⟩ hX
  have hv1 := hv.2.1
  have hv2 := hv.2.2
  unfold inR at rk
  unfold wp_X3_idleAt_6
  rw [g0]
  refine ⟨fun c => ?_, fun c => s1_holds hp hC ⟨fun c2 => ?_, fun c2 => s3_onlyBy hg hC ht (by omega) ⟨fun c3 => ?_, fun c3 => ⟨fun c4 => ?_, fun c4 => ?_⟩⟩⟩⟩
  · have e : i = cW C := by omega
    subst e
    rw [kthF_miss hv.1] at hq
    exact hq
  · exact ⟨inR_i (by omega) (by omega), hX _ _ _ _ _ ⟨rfl, rfl, rfl, i + 1, rfl, by omega, hv.no (by rw [bI_0.mp c2, Bool.false_and])⟩ (by omega)⟩
  · exact ⟨inR_i (by omega) (by omega), hX _ _ _ _ _ ⟨rfl, rfl, rfl, i + 1, rfl, by omega, hv.no (by rw [show idF C r i = false from decide_eq_false (fun q => c3 (congrArg Int.ofNat q)), Bool.and_false])⟩ (by omega)⟩
  · exact ⟨inR_i (by omega) (by omega), inR_i (by omega) (by omega), hX _ _ _ _ _ ⟨rfl, rfl, rfl, i + 1, rfl, by omega, hv.go (by rw [bI_n0.mp c2, show idF C r i = true from decide_eq_true (Int.ofNat.inj c3), Bool.and_true]) c4⟩ (by omega)⟩
  · rw [hv.hit (by rw [bI_n0.mp c2, show idF C r i = true from decide_eq_true (Int.ofNat.inj c3), Bool.and_true]) c4 (show i < cW C by omega)] at hq
    exact hq
theorem s3_codewordsAt {p w : Nat} {k : Int} (hp : crep μ p C) (hg : grS μ C (cN C)) (hC : okC C) (hw : w < cW C) (hq : Q ((ctF (fun v => cM C v && decide ((cF C w v : Int) = k)) (cW C) : Nat) : Int) μ) : wp_X3_codewordsAt p w k μ Q := by
  have hw8 := hC.2.2.2.1
  have g0 : μ.1 70 0 = (cW C : Int) := hg.1
  refine LP6_rule (fun (v1 : Nat) (v2 v3 v4 v5 : Int) (μ2 : Mem) => v1 = p ∧ v2 = (w : Int) ∧ v3 = k ∧ μ2 = μ ∧ ∃ i : Nat, v5 = (i : Int) ∧ i ≤ cW C ∧ v4 = ((ctF (fun v => cM C v && decide ((cF C w v : Int) = k)) i : Nat) : Int)) (fun _ _ _ _ v5 _ => ((cW C : Int) - v5).toNat) ?_ ⟨rfl, rfl, rfl, rfl, 0, rfl, Nat.zero_le _, rfl⟩
  rintro X v1 v2 v3 v4 v5 μ2 ⟨rfl, rfl, rfl, rfl, i, rfl, hi, rfl⟩ hX
  have hl := ctF_le (fun v => cM C v && decide ((cF C w v : Int) = v3)) i
  unfold wp_X3_codewordsAt_6
  rw [g0]
  refine ⟨fun c => ?_, fun c => s1_holds hp hC ⟨fun c2 => ⟨inR_i (by omega) (by omega), hX _ _ _ _ _ _ ⟨rfl, rfl, rfl, rfl, i + 1, rfl, by omega, ?_⟩ (by omega)⟩, fun c2 => s3_distance hg hC hw (by omega) ⟨fun c3 => ⟨inR_i (by omega) (by omega), hX _ _ _ _ _ _ ⟨rfl, rfl, rfl, rfl, i + 1, rfl, by omega, ?_⟩ (by omega)⟩, fun c3 => ⟨inR_i (by omega) (by omega), inR_i (by omega) (by omega), hX _ _ _ _ _ _ ⟨rfl, rfl, rfl, rfl, i + 1, rfl, by omega, ?_⟩ (by omega)⟩⟩⟩⟩
  · have e : i = cW C := by omega
    subst e
    exact hq
  · rw [ct0 (by rw [bI_0.mp c2, Bool.false_and])]
  · rw [ct0 (by rw [decide_eq_false c3, Bool.and_false])]
  · rw [ct1 (by rw [bI_n0.mp c2, decide_eq_true c3, Bool.and_true])]; omega
theorem s3_codewordsWith {p j : Nat} {k : Int} (hp : crep μ p C) (hg : grS μ C (cN C)) (hC : okC C) (hj : j < cN C) (hq : Q ((ctF (fun w => cM C w && decide ((cD C w j : Int) = k)) (cW C) : Nat) : Int) μ) : wp_X3_codewordsWith p j k μ Q := by
  have hw8 := hC.2.2.2.1
  have g0 : μ.1 70 0 = (cW C : Int) := hg.1
  refine LP6_rule (fun (v1 : Nat) (v2 v3 v4 v5 : Int) (μ2 : Mem) => v1 = p ∧ v2 = (j : Int) ∧ v3 = k ∧ μ2 = μ ∧ ∃ i : Nat, v5 = (i : Int) ∧ i ≤ cW C ∧ v4 = ((ctF (fun w => cM C w && decide ((cD C w j : Int) = k)) i : Nat) : Int)) (fun _ _ _ _ v5 _ => ((cW C : Int) - v5).toNat) ?_ ⟨rfl, rfl, rfl, rfl, 0, rfl, Nat.zero_le _, rfl⟩
  rintro X v1 v2 v3 v4 v5 μ2 ⟨rfl, rfl, rfl, rfl, i, rfl, hi, rfl⟩ hX
  have hl := ctF_le (fun w => cM C w && decide ((cD C w j : Int) = v3)) i
  unfold wp_X3_codewordsWith_6
  rw [g0]
  refine ⟨fun c => ?_, fun c => s1_holds hp hC ⟨fun c2 => ⟨inR_i (by omega) (by omega), hX _ _ _ _ _ _ ⟨rfl, rfl, rfl, rfl, i + 1, rfl, by omega, ?_⟩ (by omega)⟩, fun c2 => s3_digitAt hg hC (by omega) hj ⟨fun c3 => ⟨inR_i (by omega) (by omega), hX _ _ _ _ _ _ ⟨rfl, rfl, rfl, rfl, i + 1, rfl, by omega, ?_⟩ (by omega)⟩, fun c3 => ⟨inR_i (by omega) (by omega), inR_i (by omega) (by omega), hX _ _ _ _ _ _ ⟨rfl, rfl, rfl, rfl, i + 1, rfl, by omega, ?_⟩ (by omega)⟩⟩⟩⟩
  · have e : i = cW C := by omega
    subst e
    exact hq
  · rw [ct0 (by rw [bI_0.mp c2, Bool.false_and])]
  · rw [ct0 (by rw [decide_eq_false c3, Bool.and_false])]
  · rw [ct1 (by rw [bI_n0.mp c2, decide_eq_true c3, Bool.and_true])]; omega
theorem s3_farthest {p w : Nat} (hp : crep μ p C) (hg : grS μ C (cN C)) (hC : okC C) (hw : w < cW C) (hq : Q (msF C w : Nat) μ) : wp_X3_farthest p w μ Q := by
  have hw8 := hC.2.2.2.1
  have g0 : μ.1 70 0 = (cW C : Int) := hg.1
  refine LP5_rule (fun (v1 : Nat) (v2 v3 v4 : Int) (μ2 : Mem) => v1 = p ∧ v2 = (w : Int) ∧ μ2 = μ ∧ ∃ i : Nat, v4 = (i : Int) ∧ i ≤ cW C ∧ v3 = ((mxF (cM C) (fun v => cF C w v) i : Nat) : Int)) (fun _ _ _ v4 _ => ((cW C : Int) - v4).toNat) ?_ ⟨rfl, rfl, rfl, 0, rfl, Nat.zero_le _, rfl⟩
  rintro X v1 v2 v3 v4 μ2 ⟨rfl, rfl, rfl, i, rfl, hi, rfl⟩ hX
  have hs : mxF (cM C) (fun v => cF C w v) (i + 1) = if cM C i = true ∧ mxF (cM C) (fun v => cF C w v) i < cF C w i then cF C w i else mxF (cM C) (fun v => cF C w v) i := rfl
  unfold wp_X3_farthest_5
  rw [g0]
  refine ⟨fun c => ?_, fun c => s1_holds hp hC ⟨fun c2 => ⟨inR_i (by omega) (by omega), hX _ _ _ _ _ ⟨rfl, rfl, rfl, i + 1, rfl, by omega, ?_⟩ (by omega)⟩, fun c2 => s3_distance hg hC hw (by omega) fun x8 e8 => ⟨inR_i (by omega) (by omega), hX _ _ _ _ _ ⟨rfl, rfl, rfl, i + 1, rfl, by omega, ?_⟩ (by omega)⟩⟩⟩
  · have e : i = cW C := by omega
    subst e
    exact hq
  · rw [hs, if_neg (fun q => by rw [bI_0.mp c2] at q; exact absurd q.1 (by decide))]
  · rw [hs, e8]
    by_cases e : mxF (cM C) (fun v => cF C w v) i < cF C w i
    · rw [if_pos ⟨bI_n0.mp c2, e⟩]; omega
    · rw [if_neg (fun q => e q.2)]; omega
theorem msF_le (hC : okC C) (w : Nat) : msF C w ≤ 24 := by
  unfold msF
  generalize cW C = n
  induction n with
  | zero => exact Nat.zero_le _
  | succ n ih =>
    have := hC.far w n
    show (if cM C n = true ∧ mxF (cM C) (fun v => cF C w v) n < cF C w n then cF C w n else mxF (cM C) (fun v => cF C w v) n) ≤ 24
    split <;> omega
/-- the first with the least, as a loop keeps it: the best and its f (or 0 and M) -/
def amI (o : Option Nat) (f : Nat → Nat) (b l : Int) : Prop := (o = none ∧ b = 0 ∧ l = 2147483647) ∨ ∃ x : Nat, o = some x ∧ b = (x : Int) ∧ l = (f x : Int)
theorem amO_no {q : Nat → Bool} {f : Nat → Nat} {n : Nat} (h : q n = false) : amO q f (n + 1) = amO q f n := by
  show (match amO q f n with | none => if q n then some n else none | some b => if q n = true ∧ f n < f b then some n else some b) = _
  cases amO q f n with
  | none => show (if q n then some n else none) = none; rw [h]; rfl
  | some b => show (if q n = true ∧ f n < f b then some n else some b) = some b; rw [if_neg (fun x => by rw [h] at x; exact absurd x.1 (by decide))]
theorem amI.keep {q : Nat → Bool} {f : Nat → Nat} {n : Nat} {b l : Int} (h : amI (amO q f n) f b l) (hf : f n ≤ 1000) (h2 : l ≤ (f n : Int)) : amI (amO q f (n + 1)) f b l := by
  rcases h with ⟨h0, h3, h4⟩ | ⟨x, h0, h3, h4⟩
  · exact absurd h2 (by omega)
  · refine Or.inr ⟨x, ?_, h3, h4⟩
    show (match amO q f n with | none => if q n then some n else none | some b => if q n = true ∧ f n < f b then some n else some b) = _
    rw [h0]
    exact if_neg (fun y => absurd y.2 (by omega))
theorem amI.new {q : Nat → Bool} {f : Nat → Nat} {n : Nat} {b l : Int} (h : amI (amO q f n) f b l) (hq : q n = true) (h2 : ¬ l ≤ (f n : Int)) : amI (amO q f (n + 1)) f (n : Int) (f n : Int) := by
  refine Or.inr ⟨n, ?_, rfl, rfl⟩
  show (match amO q f n with | none => if q n then some n else none | some b => if q n = true ∧ f n < f b then some n else some b) = _
  rcases h with ⟨h0, h3, h4⟩ | ⟨x, h0, h3, h4⟩
  · rw [h0]; show (if q n then some n else none) = some n; rw [hq]; rfl
  · rw [h0]; exact if_pos ⟨hq, by omega⟩
theorem s3_middle {p : Nat} (hp : crep μ p C) (hg : grS μ C (cN C)) (hC : okC C) (hq : Q (cnF C : Nat) μ) : wp_X3_middle p μ Q := by
  have hw8 := hC.2.2.2.1
  have g0 : μ.1 70 0 = (cW C : Int) := hg.1
  refine LP5_rule (fun (v1 : Nat) (v2 v3 v4 : Int) (μ2 : Mem) => v1 = p ∧ μ2 = μ ∧ ∃ i : Nat, v4 = (i : Int) ∧ i ≤ cW C ∧ amI (amO (fun _ => true) (msF C) i) (msF C) v2 v3) (fun _ _ _ v4 _ => ((cW C : Int) - v4).toNat) ?_ ⟨rfl, rfl, 0, rfl, Nat.zero_le _, Or.inl ⟨rfl, rfl, rfl⟩⟩
  rintro X v1 v2 v3 v4 μ2 ⟨rfl, rfl, i, rfl, hi, ha⟩ hX
  have hm := msF_le hC i
  unfold wp_X3_middle_8
  rw [g0]
  refine ⟨fun c => ?_, fun c => s3_farthest hp hg hC (by omega) ⟨fun c2 => ⟨inR_i (by omega) (by omega), hX _ _ _ _ _ ⟨rfl, rfl, i + 1, rfl, by omega, ha.keep (by omega) c2⟩ (by omega)⟩, fun c2 => ⟨inR_i (by omega) (by omega), hX _ _ _ _ _ ⟨rfl, rfl, i + 1, rfl, by omega, ha.new rfl c2⟩ (by omega)⟩⟩⟩
  have e : i = cW C := by omega
  subst e
  rcases ha with ⟨h0, h3, h4⟩ | ⟨x, h0, h3, h4⟩
  · rw [h3]; unfold cnF at hq; rw [h0] at hq; exact hq
  · rw [h3]; unfold cnF at hq; rw [h0] at hq; exact hq
theorem s3_closest {p w : Nat} (hp : crep μ p C) (hg : grS μ C (cN C)) (hC : okC C) (hw : w < cW C) (hq : Q (((amO (cM C) (fun v => cF C w v) (cW C)).getD 0 : Nat) : Int) μ) : wp_X3_closest p w μ Q := by
  have hw8 := hC.2.2.2.1
  have g0 : μ.1 70 0 = (cW C : Int) := hg.1
  refine LP6_rule (fun (v1 : Nat) (v2 v3 v4 v5 : Int) (μ2 : Mem) => v1 = p ∧ v2 = (w : Int) ∧ μ2 = μ ∧ ∃ i : Nat, v5 = (i : Int) ∧ i ≤ cW C ∧ amI (amO (cM C) (fun v => cF C w v) i) (fun v => cF C w v) v3 v4) (fun _ _ _ _ v5 _ => ((cW C : Int) - v5).toNat) ?_ ⟨rfl, rfl, rfl, 0, rfl, Nat.zero_le _, Or.inl ⟨rfl, rfl, rfl⟩⟩
  rintro X v1 v2 v3 v4 v5 μ2 ⟨rfl, rfl, rfl, i, rfl, hi, ha⟩ hX
  have hm := hC.far w i
  unfold wp_X3_closest_9
  rw [g0]
  refine ⟨fun c => ?_, fun c => s1_holds hp hC ⟨fun c2 => ⟨inR_i (by omega) (by omega), hX _ _ _ _ _ _ ⟨rfl, rfl, rfl, i + 1, rfl, by omega, ?_⟩ (by omega)⟩, fun c2 => s3_distance hg hC hw (by omega) ⟨fun c3 => ⟨inR_i (by omega) (by omega), hX _ _ _ _ _ _ ⟨rfl, rfl, rfl, i + 1, rfl, by omega, ha.keep (by show cF C w i ≤ 1000; omega) c3⟩ (by omega)⟩, fun c3 => s3_distance hg hC hw (by omega) ⟨inR_i (by omega) (by omega), hX _ _ _ _ _ _ ⟨rfl, rfl, rfl, i + 1, rfl, by omega, ha.new (f := fun v => cF C w v) (bI_n0.mp c2) c3⟩ (by omega)⟩⟩⟩⟩
  · have e : i = cW C := by omega
    subst e
    rcases ha with ⟨h0, h3, h4⟩ | ⟨x, h0, h3, h4⟩
    · rw [h3]; rw [h0] at hq; exact hq
    · rw [h3]; rw [h0] at hq; exact hq
  · rw [amO_no (bI_0.mp c2)]; exact ha
end CC

/-! the class: what a code tells -/
section CC
variable {μ : Mem} {k : Nat} {C : Cd} {Q : Int → Mem → Prop}
theorem s1_codeword {a : Int} (h : crep μ k C) (hC : okC C) (ha : 0 ≤ a) (ha2 : a ≤ 2147483647) (hq : Q (kthF (cM C) (cW C) a) μ) : wp_X1_codeword k a μ Q := by
  have h8 := hC.2.2.2.1
  refine LP4_rule (fun (v0 : Nat) (v2 v3 : Int) (μ2 : Mem) => v0 = k ∧ μ2 = μ ∧ ∃ i : Nat, v3 = (i : Int) ∧ i ≤ cW C ∧ v2 = a - (ctF (cM C) i : Int) ∧ 0 ≤ v2 ∧ kthO (cM C) a i = none) (fun _ _ v3 _ => ((cW C : Int) - v3).toNat) ?_ ⟨rfl, rfl, 0, rfl, Nat.zero_le _, by show a = a - 0; omega, ha, rfl⟩
  rintro X v0 v2 v3 μ2 ⟨rfl, rfl, i, rfl, hi, e2, h2, hk⟩ hX
  have hs : ctF (cM C) (i + 1) = ctF (cM C) i + (if cM C i then 1 else 0) := rfl
  unfold wp_X1_codeword_4
  rw [h.2.2.1]
  refine ⟨fun q => ?_, fun q => s1_holds h hC ⟨fun q2 => ?_, fun q2 => ⟨fun q3 => ?_, fun q3 => ?_⟩⟩⟩
  · have ei : i = cW C := by omega
    subst ei
    rw [kthF_miss hk] at hq; exact hq
  · have hm := bI_0.mp q2
    rw [hm] at hs
    have hs : ctF (cM C) (i + 1) = ctF (cM C) i := hs
    exact ⟨inR_i (by omega) (by omega), hX _ _ _ _ ⟨rfl, rfl, i + 1, rfl, by omega, by rw [hs]; exact e2, h2, kthO_0 hk (fun y => by rw [hm] at y; exact absurd y.1 (by decide))⟩ (by omega)⟩
  · have hm := bI_n0.mp q2
    rw [hm] at hs
    have hs : ctF (cM C) (i + 1) = ctF (cM C) i + 1 := hs
    exact ⟨inR_i (by omega) (by omega), inR_i (by omega) (by omega), hX _ _ _ _ ⟨rfl, rfl, i + 1, rfl, by omega, by omega, by omega, kthO_0 hk (fun y => by have := y.2; omega)⟩ (by omega)⟩
  · rw [kthF_hit hk (bI_n0.mp q2) (by omega) (by omega)] at hq; exact hq
theorem s1_allWeights (h : crep μ k C) (hC : okC C) (hq : Q (smF (cT C) (cN C) : Nat) μ) : wp_X1_allWeights k μ Q := by
  have h8 := hC.1
  refine LP4_rule (fun (v0 : Nat) (v1 v2 : Int) (μ2 : Mem) => v0 = k ∧ μ2 = μ ∧ ∃ i : Nat, v2 = (i : Int) ∧ i ≤ cN C ∧ v1 = ((smF (cT C) i : Nat) : Int)) (fun _ _ v2 _ => ((cN C : Int) - v2).toNat) ?_ ⟨rfl, rfl, 0, rfl, Nat.zero_le _, rfl⟩
  rintro X v0 v1 v2 μ2 ⟨rfl, rfl, i, rfl, hi, rfl⟩ hX
  unfold wp_X1_allWeights_4
  rw [h.2.1]
  refine ⟨fun q => ?_, fun q => ⟨by omega, ?_⟩⟩
  · have ei : i = cN C := by omega
    subst ei
    exact hq
  · have hs : smF (cT C) (i + 1) = smF (cT C) i + cT C i := rfl
    have hl : smF (cT C) i ≤ 3 * i := smF_le fun j hj => (hC.2.2.1 j (by omega)).2
    have ht := hC.2.2.1 i (by omega)
    rw [Int.toNat_natCast, (h.2.2.2.2.1 i (by omega)).2]
    exact ⟨inR_i (by omega) (by omega), fun x3 e3 => ⟨inR_i (by omega) (by omega), hX _ _ _ _ ⟨rfl, rfl, i + 1, rfl, by omega, by rw [e3, hs]; omega⟩ (by omega)⟩⟩
theorem s1_hasSpaceOf {p : Nat} {D : Cd} (h : crep μ k C) (hC : okC C) (hp : crep μ p D) (h0 : ¬ spE C D → Q 0 μ) (h1 : spE C D → Q 1 μ) : wp_X1_hasSpaceOf k p μ Q := by
  have h8 := hC.1
  unfold wp_X1_hasSpaceOf
  rw [h.2.1, hp.2.1]
  refine ⟨fun q => ?_, fun q => h0 (fun y => q (by rw [y.1]))⟩
  have en : cN C = cN D := by omega
  refine LP4_rule (fun (v0 v1 : Nat) (v2 : Int) (μ2 : Mem) => v0 = k ∧ v1 = p ∧ μ2 = μ ∧ ∃ i : Nat, v2 = (i : Int) ∧ i ≤ cN C ∧ ∀ j, j < i → cS C j = cS D j ∧ cT C j = cT D j) (fun _ _ v2 _ => ((cN C : Int) - v2).toNat) ?_ ⟨rfl, rfl, rfl, 0, rfl, Nat.zero_le _, fun j hj => absurd hj (Nat.not_lt_zero j)⟩
  rintro X v0 v1 v2 μ2 ⟨rfl, rfl, rfl, i, rfl, hi, hj⟩ hX
  unfold wp_X1_hasSpaceOf_15
  rw [h.2.1]
  refine ⟨fun q2 => h1 ⟨en, fun j hj2 => hj j (by omega)⟩, fun q2 => ⟨by omega, ?_⟩⟩
  rw [Int.toNat_natCast, (h.2.2.2.2.1 i (by omega)).1, (h.2.2.2.2.1 i (by omega)).2, (hp.2.2.2.2.1 i (by omega)).1, (hp.2.2.2.2.1 i (by omega)).2]
  refine ⟨fun q3 => h0 (fun y => q3 (by rw [(y.2 i (by omega)).1])), fun q3 => ⟨fun q4 => ⟨inR_i (by omega) (by omega), hX _ _ _ _ ⟨rfl, rfl, rfl, i + 1, rfl, by omega, fun j hj2 => ?_⟩ (by omega)⟩, fun q4 => h0 (fun y => q4 (by rw [(y.2 i (by omega)).2]))⟩⟩
  by_cases e : j = i
  · rw [e]; exact ⟨by omega, by omega⟩
  · exact hj j (by omega)
theorem s1_hasWordsOf {p : Nat} {D : Cd} (h : crep μ k C) (hp : crep μ p D) (h0 : ¬ (∀ w, w < 256 → cM C w = cM D w) → Q 0 μ) (h1 : (∀ w, w < 256 → cM C w = cM D w) → Q 1 μ) : wp_X1_hasWordsOf k p μ Q := by
  refine LP4_rule (fun (v0 v1 : Nat) (v2 : Int) (μ2 : Mem) => v0 = k ∧ v1 = p ∧ μ2 = μ ∧ ∃ i : Nat, v2 = (i : Int) ∧ i ≤ 4 ∧ ∀ j, j < i → μ.2 (k + 3) j = μ.2 (p + 3) j) (fun _ _ v2 _ => (4 - v2).toNat) ?_ ⟨rfl, rfl, rfl, 0, rfl, by omega, fun j hj => absurd hj (Nat.not_lt_zero j)⟩
  rintro X v0 v1 v2 μ2 ⟨rfl, rfl, rfl, i, rfl, hi, hj⟩ hX
  refine ⟨fun q => h1 (fun w hw => ?_), fun q => ⟨by omega, ?_⟩⟩
  · rw [← h.2.2.2.2.2 w hw, ← hp.2.2.2.2.2 w hw, hj _ (by omega)]
  · rw [Int.toNat_natCast, lcm_eq]
    refine ⟨fun q2 => ⟨inR_i (by omega) (by omega), hX _ _ _ _ ⟨rfl, rfl, rfl, i + 1, rfl, by omega, fun j hj2 => ?_⟩ (by omega)⟩, fun q2 => h0 (fun y => q2 (bt_ext fun j hj2 => ?_))⟩
    · by_cases e : j = i
      · rw [e]; exact q2
      · exact hj j (by omega)
    · have h3 := h.2.2.2.2.2 (64 * i + j) (by omega)
      have h4 := hp.2.2.2.2.2 (64 * i + j) (by omega)
      rw [show (64 * i + j) / 64 = i by omega, show (64 * i + j) % 64 = j by omega] at h3 h4
      rw [h3, h4]; exact y _ (by omega)
theorem s1_endsAsBegins {p : Nat} {D : Cd} (h : crep μ k C) (hC : okC C) (hp : crep μ p D) (hn : 0 < cN C) (hd : 0 < cN D) (h0 : ¬ (cS C (cN C - 1) = cS D 0 ∧ cT C (cN C - 1) = cT D 0) → Q 0 μ) (h1 : (cS C (cN C - 1) = cS D 0 ∧ cT C (cN C - 1) = cT D 0) → Q 1 μ) : wp_X1_endsAsBegins k p μ Q := by
  have h8 := hC.1
  unfold wp_X1_endsAsBegins
  rw [h.2.1, hp.2.1]
  refine ⟨fun q => absurd q (by omega), fun _ => ⟨fun _ => ⟨inR_i (by omega) (by omega), fun x3 e3 => ⟨by omega, ?_⟩⟩, fun q => absurd (show (1 : Int) ≤ (cN D : Int) by omega) q⟩⟩
  rw [show x3.toNat = cN C - 1 by omega, (h.2.2.2.2.1 (cN C - 1) (by omega)).1, (h.2.2.2.2.1 (cN C - 1) (by omega)).2, (hp.2.2.2.2.1 0 hd).1, (hp.2.2.2.2.1 0 hd).2]
  exact ⟨fun q => h0 (fun y => q (by rw [y.1])), fun q => ⟨fun q2 => h0 (fun y => q2 (by rw [y.2])), fun q2 => h1 ⟨by omega, by omega⟩⟩⟩
theorem s1_wordsOf {a b : Nat} (h : crep μ k C) (hC : okC C) (hab : a ≤ b) (hb : b ≤ cN C) (hq : Q (wdF (fun q => cS C (a + q)) (b - a) : Nat) μ) : wp_X1_wordsOf k a b μ Q := by
  have h8 := hC.1
  have hle : ∀ i, i ≤ b - a → wdF (fun q => cS C (a + q)) i ≤ 256 := fun i hi => by
    have h1 := wdF_split (cS C) a i
    have h2 := hC.wd (i := a + i) (by omega)
    have h3 : 1 ≤ wdF (cS C) a := wdF_pos fun j hj => by have := (hC.2.1 j (by omega)).1; omega
    have h4 := Nat.mul_le_mul_right (wdF (fun q => cS C (a + q)) i) h3
    omega
  refine LP5_rule (fun (v0 : Nat) (v2 v3 v4 : Int) (μ2 : Mem) => v0 = k ∧ v2 = (b : Int) ∧ μ2 = μ ∧ ∃ i : Nat, v4 = ((a + i : Nat) : Int) ∧ a + i ≤ b ∧ v3 = ((wdF (fun q => cS C (a + q)) i : Nat) : Int)) (fun _ _ _ v4 _ => ((b : Int) - v4).toNat) ?_ ⟨rfl, rfl, rfl, 0, rfl, hab, rfl⟩
  rintro X v0 v2 v3 v4 μ2 ⟨rfl, rfl, rfl, i, rfl, hi, rfl⟩ hX
  refine ⟨fun q => ?_, fun q => ⟨by omega, ?_⟩⟩
  · have ei : i = b - a := by omega
    subst ei
    exact hq
  · have hs : wdF (fun q => cS C (a + q)) (i + 1) = wdF (fun q => cS C (a + q)) i * cS C (a + i) := rfl
    have hl := hle (i + 1) (by omega)
    rw [Int.toNat_natCast, (h.2.2.2.2.1 (a + i) (by omega)).1, ← Int.natCast_mul, ← hs]
    exact ⟨inR_n (by omega), fun x3 e3 => ⟨inR_i (by omega) (by omega), hX _ _ _ _ _ ⟨rfl, rfl, rfl, i + 1, by omega, by omega, e3⟩ (by omega)⟩⟩
end CC

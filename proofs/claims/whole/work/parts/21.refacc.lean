/-! ===== the reference: its accessors ===== -/
theorem inR_n {a : Nat} (h : a ≤ 2147483647) : inR (a : Int) := ⟨by omega, by omega⟩
theorem inR_i {a : Int} (h : -2147483648 ≤ a) (h2 : a ≤ 2147483647) : inR a := ⟨h, h2⟩
def bI (b : Bool) : Int := if b then 1 else 0
theorem bI_t : bI true = 1 := rfl
theorem bI_f : bI false = 0 := rfl
theorem bI_0 {b : Bool} : bI b = 0 ↔ b = false := by cases b <;> simp [bI]
theorem bI_1 {b : Bool} : bI b = 1 ↔ b = true := by cases b <;> simp [bI]
theorem bI_n0 {b : Bool} : ¬ bI b = 0 ↔ b = true := by cases b <;> simp [bI]
theorem bI_01 (b : Bool) : bI b = 0 ∨ bI b = 1 := by cases b <;> simp [bI]
def rowOf (g : Nat → Int) (c : Nat) (C : Cd) : Prop := g (273 * c) = (cN C : Int) ∧ (∀ i, i < cN C → g (273 * c + 1 + i) = (cS C i : Int) ∧ g (273 * c + 9 + i) = (cT C i : Int)) ∧ ∀ w, w < 256 → g (273 * c + 17 + w) = bI (cM C w)
def mrow (μ : Mem) (c : Nat) (C : Cd) : Prop := rowOf (μ.1 117) c C
theorem rowOf.to {g g' : Nat → Int} {c : Nat} {C : Cd} (h : rowOf g c C) (h8 : cN C ≤ 8) (e : ∀ k, 273 * c ≤ k → k < 273 * c + 273 → g' k = g k) : rowOf g' c C :=
  ⟨by rw [e _ (by omega) (by omega)]; exact h.1, fun i hi => ⟨by rw [e _ (by omega) (by omega)]; exact (h.2.1 i hi).1, by rw [e _ (by omega) (by omega)]; exact (h.2.1 i hi).2⟩, fun w hw => by rw [e _ (by omega) (by omega)]; exact h.2.2 w hw⟩
theorem rowOf.mv {g g' : Nat → Int} {c d : Nat} {C : Cd} (h : rowOf g c C) (h8 : cN C ≤ 8) (e : ∀ k, k < 273 → g' (273 * d + k) = g (273 * c + k)) : rowOf g' d C :=
  ⟨by have := e 0 (by omega); rw [Nat.add_zero, Nat.add_zero] at this; rw [this]; exact h.1, fun i hi => ⟨by have := e (1 + i) (by omega); rw [← Nat.add_assoc, ← Nat.add_assoc] at this; rw [this]; exact (h.2.1 i hi).1, by have := e (9 + i) (by omega); rw [← Nat.add_assoc, ← Nat.add_assoc] at this; rw [this]; exact (h.2.1 i hi).2⟩, fun w hw => by have := e (17 + w) (by omega); rw [← Nat.add_assoc, ← Nat.add_assoc] at this; rw [this]; exact h.2.2 w hw⟩
theorem mrow.to {μ μ' : Mem} {c : Nat} {C : Cd} (h : mrow μ c C) (e : μ'.1 117 = μ.1 117) : mrow μ' c C := by
  unfold mrow
  rw [e]
  exact h
theorem sI_ne {μ : Mem} {k j : Nat} {v : Int} {q : Nat} (h : q ≠ k) : (sI μ k j v).1 q = μ.1 q := funext fun b => if_neg (fun w => h w.1)
theorem sI_nj {μ : Mem} {k j : Nat} {v : Int} {q i : Nat} (h : i ≠ j) : (sI μ k j v).1 q i = μ.1 q i := if_neg (fun w => h w.2)
theorem sI_2 {μ : Mem} {k j : Nat} {v : Int} : (sI μ k j v).2 = μ.2 := rfl
theorem sL_1 {μ : Mem} {k j : Nat} {v : Int64} : (sL μ k j v).1 = μ.1 := rfl
theorem sL_ne {μ : Mem} {k j : Nat} {v : Int64} {q : Nat} (h : q ≠ k) : (sL μ k j v).2 q = μ.2 q := funext fun b => if_neg (fun w => h w.1)
theorem sL_nj {μ : Mem} {k j : Nat} {v : Int64} {q i : Nat} (h : i ≠ j) : (sL μ k j v).2 q i = μ.2 q i := if_neg (fun w => h w.2)
section RA
variable {μ : Mem} {c : Nat} {C : Cd} {Q : Int → Mem → Prop}
theorem s_in {a b d : Int} (hq : Q (bI (decide (b ≤ a ∧ a ≤ d))) μ) : wp_X8_in a b d μ Q := by
  refine ⟨fun h => ?_, fun h => ⟨fun h2 => ?_, fun h2 => ?_⟩⟩
  · rw [decide_eq_false (by omega)] at hq; exact hq
  · rw [decide_eq_false (by omega)] at hq; exact hq
  · rw [decide_eq_true (by omega)] at hq; exact hq
theorem s_places (h : mrow μ c C) (hc : c < 14) (hq : Q (cN C) μ) : wp_X8_places c μ Q := by
  refine ⟨by omega, ?_⟩
  rw [show (273 * (c : Int)).toNat = 273 * c by omega, h.1]
  exact hq
theorem s_sizeOf {i : Nat} (h : mrow μ c C) (hc : c < 14) (hC : okC C) (hi : i < cN C) (hq : Q (cS C i) μ) : wp_X8_sizeOf c i μ Q := by
  have h8 := hC.1
  refine ⟨by omega, ?_⟩
  rw [show (273 * (c : Int) + 1 + (i : Int)).toNat = 273 * c + 1 + i by omega, (h.2.1 i hi).1]
  exact hq
theorem s_weightOf {i : Nat} (h : mrow μ c C) (hc : c < 14) (hC : okC C) (hi : i < cN C) (hq : Q (cT C i) μ) : wp_X8_weightOf c i μ Q := by
  have h8 := hC.1
  refine ⟨by omega, ?_⟩
  rw [show (273 * (c : Int) + 9 + (i : Int)).toNat = 273 * c + 9 + i by omega, (h.2.1 i hi).2]
  exact hq
theorem s_isIn {w : Nat} (h : mrow μ c C) (hc : c < 14) (hw : w < 256) (hq : Q (bI (cM C w)) μ) : wp_X8_isIn c w μ Q := by
  refine ⟨by omega, ?_⟩
  rw [show (273 * (c : Int) + 17 + (w : Int)).toNat = 273 * c + 17 + w by omega, h.2.2 w hw]
  cases hm : cM C w
  · rw [hm] at hq; exact ⟨fun _ => hq, fun q => absurd q (by decide)⟩
  · rw [hm] at hq; exact ⟨fun q => absurd rfl q, fun _ => hq⟩
theorem okC.wd {C : Cd} (h : okC C) {i : Nat} (hi : i ≤ cN C) : wdF (cS C) i ≤ 256 := Nat.le_trans (wdF_mono (fun j hj => by have := (h.2.1 j hj).1; omega) hi) h.2.2.2.1
theorem s_words (h : mrow μ c C) (hc : c < 14) (hC : okC C) (hq : Q (cW C) μ) : wp_X8_words c μ Q := by
  refine LP4_rule (fun (v1 v2 v3 : Int) (μ' : Mem) => v1 = (c : Int) ∧ μ' = μ ∧ ∃ i : Nat, v3 = (i : Int) ∧ i ≤ cN C ∧ v2 = (wdF (cS C) i : Nat)) (fun _ _ v3 _ => ((cN C : Int) - v3).toNat) ?_ ⟨rfl, rfl, 0, rfl, Nat.zero_le _, rfl⟩
  rintro X v1 v2 v3 μ' ⟨rfl, rfl, i, rfl, hi, rfl⟩ hX
  have h8 := hC.1
  refine s_places h hc ⟨fun q => ?_, fun q => ?_⟩
  · have e : i = cN C := by omega
    subst e
    exact hq
  · have hw := hC.wd (i := i + 1) (by omega)
    have e : ((wdF (cS C) i : Nat) : Int) * (cS C i : Int) = (wdF (cS C) (i + 1) : Nat) := by
      show _ = ((wdF (cS C) i * cS C i : Nat) : Int)
      rw [Int.natCast_mul]
    refine s_sizeOf h hc hC (by omega) ⟨by rw [e]; exact inR_n (by omega), fun x6 e6 => ⟨inR_i (by omega) (by omega), hX _ _ _ _ ⟨rfl, rfl, i + 1, rfl, by omega, e6.trans e⟩ (by omega)⟩⟩
theorem s_weights (h : mrow μ c C) (hc : c < 14) (hC : okC C) (hq : Q (smF (cT C) (cN C) : Nat) μ) : wp_X8_weights c μ Q := by
  refine LP4_rule (fun (v1 v2 v3 : Int) (μ' : Mem) => v1 = (c : Int) ∧ μ' = μ ∧ ∃ i : Nat, v3 = (i : Int) ∧ i ≤ cN C ∧ v2 = (smF (cT C) i : Nat) ∧ smF (cT C) i ≤ 3 * i) (fun _ _ v3 _ => ((cN C : Int) - v3).toNat) ?_ ⟨rfl, rfl, 0, rfl, Nat.zero_le _, rfl, Nat.le_refl _⟩
  rintro X v1 v2 v3 μ' ⟨rfl, rfl, i, rfl, hi, rfl, h3⟩ hX
  have h8 := hC.1
  refine s_places h hc ⟨fun q => ?_, fun q => ?_⟩
  · have e : i = cN C := by omega
    subst e
    exact hq
  · have ht := (hC.2.2.1 i (by omega)).2
    have e : ((smF (cT C) i : Nat) : Int) + (cT C i : Int) = (smF (cT C) (i + 1) : Nat) := by
      show _ = ((smF (cT C) i + cT C i : Nat) : Int)
      omega
    have h4 : smF (cT C) (i + 1) ≤ 3 * (i + 1) := by
      show smF (cT C) i + cT C i ≤ _
      omega
    refine s_weightOf h hc hC (by omega) ⟨by rw [e]; exact inR_n (by omega), fun x6 e6 => ⟨inR_i (by omega) (by omega), hX _ _ _ _ ⟨rfl, rfl, i + 1, rfl, by omega, e6.trans e, h4⟩ (by omega)⟩⟩
theorem s_many (h : mrow μ c C) (hc : c < 14) (hC : okC C) (hq : Q (ctF (cM C) (cW C) : Nat) μ) : wp_X8_many c μ Q := by
  refine LP4_rule (fun (v1 v2 v3 : Int) (μ' : Mem) => v1 = (c : Int) ∧ μ' = μ ∧ ∃ i : Nat, v3 = (i : Int) ∧ i ≤ cW C ∧ v2 = (ctF (cM C) i : Nat)) (fun _ _ v3 _ => ((cW C : Int) - v3).toNat) ?_ ⟨rfl, rfl, 0, rfl, Nat.zero_le _, rfl⟩
  rintro X v1 v2 v3 μ' ⟨rfl, rfl, i, rfl, hi, rfl⟩ hX
  have h8 := hC.2.2.2.1
  refine s_words h hc hC ⟨fun q => ?_, fun q => ?_⟩
  · have e : i = cW C := by omega
    subst e
    exact hq
  · have hl := ctF_le (cM C) i
    have hs : ctF (cM C) (i + 1) = ctF (cM C) i + (if cM C i then 1 else 0) := rfl
    refine s_isIn h hc (by omega) ⟨fun q => ?_, fun q => ?_⟩
    · have hm := bI_0.mp q
      rw [hm] at hs
      exact ⟨inR_i (by omega) (by omega), fun x7 e7 => ⟨inR_i (by omega) (by omega), hX _ _ _ _ ⟨rfl, rfl, i + 1, rfl, by omega, by rw [e7, hs]; simp⟩ (by omega)⟩⟩
    · have hm := bI_n0.mp q
      rw [hm] at hs
      exact ⟨inR_i (by omega) (by omega), fun x7 e7 => ⟨inR_i (by omega) (by omega), hX _ _ _ _ ⟨rfl, rfl, i + 1, rfl, by omega, by rw [e7, hs]; simp⟩ (by omega)⟩⟩
theorem s_farOf {w v : Nat} (h : mrow μ c C) (hc : c < 14) (hC : okC C) (hw : w ≤ 1000) (hv : v ≤ 1000) (hq : Q (cF C w v : Nat) μ) : wp_X8_farOf c w v μ Q := by
  have h8 := hC.1
  refine s_places h hc ⟨inR_i (by omega) (by omega), fun x3 e3 => ?_⟩
  refine LP6_rule (fun (v1 v4 v5 v6 v7 : Int) (μ' : Mem) => v1 = (c : Int) ∧ μ' = μ ∧ ∃ (i a b s : Nat), v7 = (i : Int) - 1 ∧ i ≤ cN C ∧ v4 = (a : Int) ∧ v5 = (b : Int) ∧ v6 = (s : Int) ∧ s + frF (cS C) (cT C) i a b = cF C w v) (fun _ _ _ _ v7 _ => (v7 + 1).toNat) ?_ ⟨rfl, rfl, cN C, w, v, 0, e3, Nat.le_refl _, rfl, rfl, rfl, by unfold cF; omega⟩
  rintro X v1 v4 v5 v6 v7 μ' ⟨rfl, rfl, i, a, b, s, rfl, hi, rfl, rfl, rfl, hs⟩ hX
  have hf := hC.far w v
  refine ⟨fun q => ?_, fun q => ?_⟩
  · have e : i = 0 := by omega
    subst e
    have e2 : s = cF C w v := by simpa [frF] using hs
    rw [e2]
    exact hq
  · obtain ⟨j, rfl⟩ : ∃ j, i = j + 1 := ⟨i - 1, by omega⟩
    have hsz := hC.2.1 j (by omega)
    have ht := hC.2.2.1 j (by omega)
    rw [show ((j + 1 : Nat) : Int) - 1 = (j : Int) by omega]
    have hs' : s + (frF (cS C) (cT C) j (a / cS C j) (b / cS C j) + (if a % cS C j = b % cS C j then 0 else cT C j)) = cF C w v := hs
    have em : ∀ z : Nat, (z : Int) % (cS C j : Int) = ((z % cS C j : Nat) : Int) := fun z => (Int.natCast_emod z (cS C j)).symm
    have ed : ∀ z : Nat, (z : Int) / (cS C j : Int) = ((z / cS C j : Nat) : Int) := fun z => (Int.natCast_ediv z (cS C j)).symm
    refine s_sizeOf h hc hC (by omega) ⟨⟨by omega, by omega⟩, ⟨by omega, by omega⟩, fun q2 => ?_, fun q2 => ?_⟩
    · rw [em, em] at q2
      rw [if_pos (by omega)] at hs'
      exact ⟨⟨by omega, by omega⟩, fun x12 e12 => ⟨⟨by omega, by omega⟩, fun x14 e14 => ⟨inR_i (by omega) (by omega), hX _ _ _ _ _ _ ⟨rfl, rfl, j, a / cS C j, b / cS C j, s, by omega, by omega, by rw [e12, ed], by rw [e14, ed], rfl, by omega⟩ (by omega)⟩⟩⟩
    · rw [em, em] at q2
      rw [if_neg (by omega)] at hs'
      refine s_weightOf h hc hC (by omega) ⟨inR_i (by omega) (by omega), fun x18 e18 => ?_⟩
      exact ⟨⟨by omega, by omega⟩, fun x12 e12 => ⟨⟨by omega, by omega⟩, fun x14 e14 => ⟨inR_i (by omega) (by omega), hX _ _ _ _ _ _ ⟨rfl, rfl, j, a / cS C j, b / cS C j, s + cT C j, by omega, by omega, by rw [e12, ed], by rw [e14, ed], by omega, by omega⟩ (by omega)⟩⟩⟩
theorem s_digitOf {w i : Nat} (h : mrow μ c C) (hc : c < 14) (hC : okC C) (hw : w ≤ 1000) (hi : i < cN C) (hq : Q (cD C w i : Nat) μ) : wp_X8_digitOf c w i μ Q := by
  have h8 := hC.1
  refine s_places h hc ⟨inR_i (by omega) (by omega), fun x3 e3 => ?_⟩
  refine LP5_rule (fun (v1 v3 v4 v5 : Int) (μ' : Mem) => v1 = (c : Int) ∧ μ' = μ ∧ v3 = (i : Int) ∧ ∃ (j a : Nat), v5 = (j : Int) ∧ i ≤ j ∧ j < cN C ∧ v4 = (a : Int) ∧ dgF (cS C) (j + 1) a i = cD C w i) (fun _ _ _ v5 _ => v5.toNat) ?_ ⟨rfl, rfl, rfl, cN C - 1, w, by omega, by omega, by omega, rfl, by unfold cD; rw [show cN C - 1 + 1 = cN C by omega]⟩
  rintro X v1 v3 v4 v5 μ' ⟨rfl, rfl, rfl, j, a, rfl, hij, hj, rfl, hd⟩ hX
  have hsz := hC.2.1 j hj
  have em : ∀ z : Nat, (z : Int) % (cS C j : Int) = ((z % cS C j : Nat) : Int) := fun z => (Int.natCast_emod z (cS C j)).symm
  have ed : ∀ z : Nat, (z : Int) / (cS C j : Int) = ((z / cS C j : Nat) : Int) := fun z => (Int.natCast_ediv z (cS C j)).symm
  have hd' : (if i = j then a % cS C j else dgF (cS C) j (a / cS C j) i) = cD C w i := hd
  refine ⟨fun q => ?_, fun q => ?_⟩
  · have e : i = j := by omega
    subst e
    rw [if_pos rfl] at hd'
    refine s_sizeOf h hc hC hi ⟨⟨by omega, by omega⟩, ?_⟩
    rw [em, hd']
    exact hq
  · rw [if_neg (by omega)] at hd'
    refine s_sizeOf h hc hC hj ⟨⟨by omega, by omega⟩, fun x12 e12 => ⟨inR_i (by omega) (by omega), hX _ _ _ _ _ ⟨rfl, rfl, rfl, j - 1, a / cS C j, by omega, by omega, by omega, by rw [e12, ed], by rw [show j - 1 + 1 = j by omega]; exact hd'⟩ (by omega)⟩⟩
end RA

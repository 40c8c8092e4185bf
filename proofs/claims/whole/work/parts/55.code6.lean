/-! the class: longer, joined, shorter -/
theorem div_of_lt {w a d : Nat} (h1 : a * d ≤ w) (h2 : w < (a + 1) * d) : w / d = a ∧ w % d = w - a * d := by
  have hd : 0 < d := by
    cases d with
    | zero => rw [Nat.mul_zero] at h2; omega
    | succ d => omega
  have e : (a + 1) * d = a * d + d := by rw [Nat.add_mul, Nat.one_mul]
  have := mul_div_mod (a := a) (b := w - a * d) (d := d) (by omega)
  rw [show a * d + (w - a * d) = w by omega] at this
  exact this
section CC
variable {μ : Mem} {k : Nat} {N A B : Cd} {Q : Mem → Prop}
def lgM (A : Cd) (s a x : Nat) : Bool := decide (x < a * s) && cM A (x / s)
theorem s1_putLonger {p s : Nat} (h : crep μ k (mkM N noM)) (hN : okC N) (hn : 0 < cN N) (hp : crep μ p A) (hA : okC A) (hd : p + 4 ≤ k ∨ k + 4 ≤ p) (hs : 1 ≤ s ∧ s ≤ 4) (hw : cW N = cW A * s)
    (hQ : ∀ μ', oC k μ μ' → crep μ' k (mkM N (lgM A s (cW A))) → Q μ') : wp_X1_putLonger k p s μ Q := by
  have h8 := hN.2.2.2.1
  have a8 := hA.2.2.2.1
  refine LP5_rule (fun (v0 v1 : Nat) (v2 v3 : Int) (μ2 : Mem) => v0 = k ∧ v1 = p ∧ v2 = (s : Int) ∧ oC k μ μ2 ∧ ∃ a : Nat, v3 = (a : Int) ∧ a ≤ cW A ∧ crep μ2 k (mkM N (lgM A s a))) (fun _ _ _ v3 _ => ((cW A : Int) - v3).toNat) ?_ ⟨rfl, rfl, rfl, oC.rf, 0, rfl, Nat.zero_le _, h.ext fun w => by unfold lgM; rw [decide_eq_false (by omega)]; rfl⟩
  rintro X v0 v1 v2 v3 μ2 ⟨rfl, rfl, rfl, ho, a, rfl, ha, hr⟩ hX
  have hp2 := hp.to ho (by omega)
  have hle : ∀ b, b ≤ cW A → b * s ≤ cW N := fun b hb => by rw [hw]; exact Nat.mul_le_mul_right _ hb
  have es : (a + 1) * s = a * s + s := by rw [Nat.add_mul, Nat.one_mul]
  unfold wp_X1_putLonger_2
  rw [hp2.2.2.1]
  refine ⟨fun c1 => ?_, fun c1 => s1_holds hp2 hA ⟨fun c2 => ⟨inR_i (by omega) (by omega), hX _ _ _ _ _ ⟨rfl, rfl, rfl, ho, a + 1, rfl, by omega, hr.ext fun w => ?_⟩ (by omega)⟩, fun c2 => ?_⟩⟩
  · have ea : a = cW A := by omega
    subst ea
    exact hQ μ2 ho hr
  · unfold lgM
    by_cases e : w < a * s
    · rw [decide_eq_true e, decide_eq_true (by omega)]
    · rw [decide_eq_false e, Bool.false_and]
      by_cases e2 : w < (a + 1) * s
      · rw [(div_of_lt (by omega) e2).1, bI_0.mp c2, Bool.and_false]
      · rw [decide_eq_false e2, Bool.false_and]
  · have hl1 := hle (a + 1) (by omega)
    refine LP6_rule (fun (w0 w1 : Nat) (w2 w3 w4 : Int) (μ3 : Mem) => w0 = v0 ∧ w1 = v1 ∧ w2 = (s : Int) ∧ w3 = (a : Int) ∧ oC v0 μ μ3 ∧ ∃ d : Nat, w4 = (d : Int) ∧ d ≤ s ∧ crep μ3 v0 (mkM N (fun x => decide (x < a * s + d) && cM A (x / s)))) (fun _ _ _ _ w4 _ => ((s : Int) - w4).toNat) ?_ ⟨rfl, rfl, rfl, rfl, ho, 0, rfl, Nat.zero_le _, hr⟩
    rintro X6 w0 w1 w2 w3 w4 μ3 ⟨rfl, rfl, rfl, rfl, ho3, d, rfl, hds, hr3⟩ hX6
    refine ⟨fun c3 => ⟨inR_i (by omega) (by omega), hX _ _ _ _ _ ⟨rfl, rfl, rfl, ho3, a + 1, rfl, by omega, hr3.ext fun w => ?_⟩ (by omega)⟩, fun c3 => ?_⟩
    · unfold lgM
      rw [show d = s by omega, es]
    · rw [← Int.natCast_mul, show ((a * s : Nat) : Int) + (d : Int) = ((a * s + d : Nat) : Int) by omega]
      refine ⟨inR_n (by omega), s1_putM hr3 hN hn (fun w hw2 => ?_) (by omega) (fun μ4 ho4 hr4 => ⟨inR_i (by omega) (by omega), hX6 _ _ _ _ _ _ ⟨rfl, rfl, rfl, rfl, ho3.tr ho4, d + 1, rfl, by omega, hr4.ext fun w => ?_⟩ (by omega)⟩)⟩
      · rw [Bool.and_eq_true, decide_eq_true_eq] at hw2; omega
      · by_cases e : w = a * s + d
        · rw [if_pos e, e, (mul_div_mod (show d < s by omega)).1, bI_n0.mp c2, decide_eq_true (by omega)]; rfl
        · rw [if_neg e, show decide (w < a * s + (d + 1)) = decide (w < a * s + d) from decide_eq_decide.mpr (by omega)]
/-- heads before tails: the words of A, each with the tails that its last digit allows -/
def jnM (A B : Cd) (t s a x : Nat) : Bool := decide (x < a * t) && (cM A (x / t) && cM B (x / t % s * t + x % t))
theorem s1_putJoined {p q t : Nat} (h : crep μ k (mkM N noM)) (hN : okC N) (hn : 0 < cN N) (hp : crep μ p A) (hA : okC A) (hq : crep μ q B) (hB : okC B) (hnB : 0 < cN B) (hd : p + 4 ≤ k ∨ k + 4 ≤ p) (hd2 : q + 4 ≤ k ∨ k + 4 ≤ q)
    (ht : t = wdF (fun i => cS B (1 + i)) (cN B - 1)) (hw : cW N = cW A * t)
    (hQ : ∀ μ', oC k μ μ' → crep μ' k (mkM N (jnM A B t (cS B 0) (cW A))) → Q μ') : wp_X1_putJoined k p q μ Q := by
  have h8 := hN.2.2.2.1
  have a8 := hA.2.2.2.1
  have b8 := hB.2.2.2.1
  have hs := hB.2.1 0 hnB
  have hBt : cW B = cS B 0 * t := by
    have := wdF_shift (cS B) (cN B - 1)
    rw [show cN B - 1 + 1 = cN B by omega] at this
    rw [ht]; exact this
  have htp : 1 ≤ t := by rw [ht]; exact wdF_pos fun i hi => by have := (hB.2.1 (1 + i) (by omega)).1; omega
  unfold wp_X1_putJoined
  rw [hq.2.1, (hq.2.2.2.2.1 0 hnB).1]
  refine s1_wordsOf (a := 1) (b := cN B) hq hB (by omega) (Nat.le_refl _) ?_
  rw [← ht]
  generalize hse : cS B 0 = s at *
  have t256 : t ≤ 256 := by
    have h1 : 1 * t ≤ s * t := Nat.mul_le_mul_right _ (by omega)
    omega
  refine LP8_rule (fun (v0 v1 v2 : Nat) (v3 v4 v5 v6 : Int) (μ2 : Mem) => v0 = k ∧ v1 = p ∧ v2 = q ∧ v3 = (s : Int) ∧ v4 = (t : Int) ∧ oC k μ μ2 ∧ ∃ a : Nat, v6 = (a : Int) ∧ a ≤ cW A ∧ v5 = ((a % s : Nat) : Int) ∧ crep μ2 k (mkM N (jnM A B t s a))) (fun _ _ _ _ _ _ v6 _ => ((cW A : Int) - v6).toNat) ?_ ⟨rfl, rfl, rfl, rfl, rfl, oC.rf, 0, rfl, Nat.zero_le _, by rw [Nat.zero_mod]; rfl, h.ext fun w => by unfold jnM; rw [decide_eq_false (by omega)]; rfl⟩
  rintro X v0 v1 v2 v3 v4 v5 v6 μ2 ⟨rfl, rfl, rfl, rfl, rfl, ho, a, rfl, ha, rfl, hr⟩ hX
  have hp2 := hp.to ho (by omega)
  have hq2 := hq.to ho (by omega)
  have hle : ∀ b, b ≤ cW A → b * t ≤ cW N := fun b hb => by rw [hw]; exact Nat.mul_le_mul_right _ hb
  have es : (a + 1) * t = a * t + t := by rw [Nat.add_mul, Nat.one_mul]
  have hms : a % s < s := Nat.mod_lt _ (by omega)
  have next : ∀ μ3, oC v0 μ μ3 → a < cW A → crep μ3 v0 (mkM N (jnM A B t s (a + 1))) → wp_X1_putJoined_59 Q X v0 v1 v2 (s : Int) (t : Int) ((a % s : Nat) : Int) (a : Int) μ3 := by
    intro μ3 ho3 haA hr3
    refine ⟨inR_i (by omega) (by omega), fun c1 => ⟨inR_i (by omega) (by omega), hX _ _ _ _ _ _ _ _ ⟨rfl, rfl, rfl, rfl, rfl, ho3, a + 1, rfl, by omega, ?_, hr3⟩ (by omega)⟩, fun c1 => ⟨inR_i (by omega) (by omega), fun x10 e10 => ⟨inR_i (by omega) (by omega), hX _ _ _ _ _ _ _ _ ⟨rfl, rfl, rfl, rfl, rfl, ho3, a + 1, rfl, by omega, ?_, hr3⟩ (by omega)⟩⟩⟩
    · have : (a + 1) % s = 0 := by rw [Nat.add_mod, Nat.mod_eq_of_lt (show 1 < s by omega), show a % s + 1 = s by omega, Nat.mod_self]
      rw [this]; rfl
    · have : (a + 1) % s = a % s + 1 := by rw [Nat.add_mod, Nat.mod_eq_of_lt (show 1 < s by omega), Nat.mod_eq_of_lt (by omega)]
      rw [e10, this]; rfl
  unfold wp_X1_putJoined_24
  rw [hp2.2.2.1]
  refine ⟨fun c1 => ?_, fun c1 => s1_holds hp2 hA ⟨fun c2 => next μ2 ho (by omega) (hr.ext fun w => ?_), fun c2 => ?_⟩⟩
  · have ea : a = cW A := by omega
    subst ea
    exact hQ μ2 ho hr
  · unfold jnM
    by_cases e : w < a * t
    · rw [decide_eq_true e, decide_eq_true (by omega)]
    · rw [decide_eq_false e, Bool.false_and]
      by_cases e2 : w < (a + 1) * t
      · rw [(div_of_lt (by omega) e2).1, bI_0.mp c2, Bool.false_and, Bool.and_false]
      · rw [decide_eq_false e2, Bool.false_and]
  · have hl1 := hle (a + 1) (by omega)
    have hm1 : a % s * t + t ≤ cW B := by
      rw [hBt]
      have := Nat.mul_le_mul_right t (show a % s + 1 ≤ s by omega)
      rw [Nat.add_mul, Nat.one_mul] at this
      exact this
    rw [← Int.natCast_mul, ← Int.natCast_mul]
    refine ⟨inR_n (by omega), inR_n (by omega), s1_putBehind hr hN hn (fun w hw2 => ?_) hq2 hB hd2 (by omega) (by omega) (fun μ3 ho3 hr3 => next μ3 (ho.tr ho3) (by omega) (hr3.ext fun w => ?_))⟩
    · unfold jnM at hw2
      rw [Bool.and_eq_true, decide_eq_true_eq] at hw2
      omega
    · unfold behM jnM
      by_cases e : w < a * t
      · rw [decide_eq_true e, decide_eq_true (show w < (a + 1) * t by omega), decide_eq_false (by omega), Bool.false_and, Bool.or_false]
      · rw [decide_eq_false e, Bool.false_and, Bool.false_or]
        by_cases e2 : w < (a + 1) * t
        · obtain ⟨d1, d2⟩ := div_of_lt (show a * t ≤ w by omega) e2
          rw [decide_eq_true e2, decide_eq_true (by omega), d1, d2, bI_n0.mp c2, Bool.true_and, Bool.true_and]
        · rw [decide_eq_false e2, decide_eq_false (by omega), Bool.false_and, Bool.false_and]
def shM (A : Cd) (T s d x : Nat) : Bool := cM A ((x / T * s + d) * T + x % T)
theorem s1_putShorter {p i d : Nat} (h : crep μ k (mkM N noM)) (hN : okC N) (hn : 0 < cN N) (hp : crep μ p A) (hA : okC A) (hd : p + 4 ≤ k ∨ k + 4 ≤ p) (hi : i < cN A) (hdd : d < cS A i) (hw : cW N = wdF (cS A) i * tlF A i)
    (hQ : ∀ μ', oC k μ μ' → crep μ' k (mkM N (fun x => decide (x < wdF (cS A) i * tlF A i) && shM A (tlF A i) (cS A i) d x)) → Q μ') : wp_X1_putShorter k p i d μ Q := by
  have h8 := hN.2.2.2.1
  have a8 := hA.2.2.2.1
  have n8 := hA.1
  have hsz := hA.2.1 i hi
  have hWA := cW_tl hi
  have hTp := tlF_pos hA i
  refine ⟨by omega, ?_⟩
  have s0 : wdF (fun q => cS A (0 + q)) (i - 0) = wdF (cS A) i := by rw [Nat.sub_zero]; exact wdF_cong fun j _ => by rw [Nat.zero_add]
  refine s1_wordsOf (a := 0) (b := i) hp hA (Nat.zero_le _) (by omega) ?_
  rw [s0]
  refine ⟨inR_i (by omega) (by omega), ?_⟩
  rw [hp.2.1, show (i : Int) + 1 = ((i + 1 : Nat) : Int) by omega]
  refine s1_wordsOf (a := i + 1) (b := cN A) hp hA (by omega) (Nat.le_refl _) ?_
  have st : wdF (fun q => cS A (i + 1 + q)) (cN A - (i + 1)) = tlF A i := by unfold tlF; rw [show cN A - (i + 1) = cN A - 1 - i by omega]
  rw [st, Int.toNat_natCast, (hp.2.2.2.2.1 i hi).1]
  generalize tlF A i = T at *
  generalize wdF (cS A) i = HH at *
  generalize cS A i = s at *
  refine LP8_rule (fun (v0 v1 : Nat) (v3 v4 v5 v6 v7 : Int) (μ2 : Mem) => v0 = k ∧ v1 = p ∧ v3 = (d : Int) ∧ v4 = (s : Int) ∧ v5 = (HH : Int) ∧ v6 = (T : Int) ∧ oC k μ μ2 ∧ ∃ a : Nat, v7 = (a : Int) ∧ a ≤ HH ∧ crep μ2 k (mkM N (fun x => decide (x < a * T) && shM A T s d x))) (fun _ _ _ _ _ _ v7 _ => ((HH : Int) - v7).toNat) ?_ ⟨rfl, rfl, rfl, rfl, rfl, rfl, oC.rf, 0, rfl, Nat.zero_le _, h.ext fun w => by rw [decide_eq_false (by omega)]; rfl⟩
  rintro X v0 v1 v3 v4 v5 v6 v7 μ2 ⟨rfl, rfl, rfl, rfl, rfl, rfl, ho, a, rfl, ha, hr⟩ hX
  refine ⟨fun c1 => ?_, fun c1 => ?_⟩
  · have ea : a = HH := by omega
    subst ea
    exact hQ μ2 ho hr
  have es : (a + 1) * T = a * T + T := by rw [Nat.add_mul, Nat.one_mul]
  have hl1 : (a + 1) * T ≤ HH * T := Nat.mul_le_mul_right _ (by omega)
  have hl2 : (a * s + d) * T + T ≤ HH * s * T := by
    have h1 := div_add_lt (show a < HH by omega) hdd
    have := Nat.mul_le_mul_right T (show a * s + d + 1 ≤ HH * s by omega)
    rw [Nat.add_mul, Nat.one_mul] at this
    exact this
  have hH : HH ≤ HH * T := Nat.le_mul_of_pos_right _ (by omega)
  have e1 : (a : Int) * (T : Int) = ((a * T : Nat) : Int) := (Int.natCast_mul _ _).symm
  have e2 : ((a : Int) * (s : Int) + (d : Int)) * (T : Int) = (((a * s + d) * T : Nat) : Int) := by rw [Int.natCast_mul, Int.natCast_add, Int.natCast_mul]
  rw [e1, e2]
  refine ⟨inR_n (by omega), inR_n (by omega), s1_putBehind hr hN hn (fun w hw2 => ?_) (hp.to ho (by omega)) hA hd (by omega) (by omega) (fun μ3 ho3 hr3 => ⟨inR_i (by omega) (by omega), hX _ _ _ _ _ _ _ _ ⟨rfl, rfl, rfl, rfl, rfl, rfl, ho.tr ho3, a + 1, rfl, by omega, hr3.ext fun w => ?_⟩ (by omega)⟩)⟩
  · rw [Bool.and_eq_true, decide_eq_true_eq] at hw2
    have := Nat.mul_le_mul_right T ha
    omega
  · show ((decide (w < a * T) && shM A T s d w) || (decide (a * T ≤ w ∧ w < a * T + T) && cM A ((a * s + d) * T + (w - a * T)))) = (decide (w < (a + 1) * T) && shM A T s d w)
    by_cases e : w < a * T
    · rw [decide_eq_true e, decide_eq_true (show w < (a + 1) * T by omega), decide_eq_false (by omega), Bool.false_and, Bool.or_false]
    · rw [decide_eq_false e, Bool.false_and, Bool.false_or]
      by_cases e3 : w < (a + 1) * T
      · obtain ⟨d1, d2⟩ := div_of_lt (show a * T ≤ w by omega) e3
        unfold shM
        rw [decide_eq_true e3, decide_eq_true (by omega), d1, d2]
      · rw [decide_eq_false e3, decide_eq_false (by omega), Bool.false_and, Bool.false_and]
end CC

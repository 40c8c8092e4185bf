/-! the class: pairs, longer, mixed -/
section CC
variable {μ : Mem} {k : Nat} {N A B : Cd} {Q : Mem → Prop}
def paM (A B : Cd) (a x : Nat) : Bool := decide (x < a * cW B) && (cM A (x / cW B) && cM B (x % cW B))
theorem s1_putPairs {p q : Nat} (h : crep μ k (mkM N noM)) (hN : okC N) (hn : 0 < cN N) (hp : crep μ p A) (hA : okC A) (hq : crep μ q B) (hB : okC B) (hd : p + 4 ≤ k ∨ k + 4 ≤ p) (hd2 : q + 4 ≤ k ∨ k + 4 ≤ q) (hw : cW N = cW A * cW B)
    (hQ : ∀ μ', oC k μ μ' → crep μ' k (mkM N (paM A B (cW A))) → Q μ') : wp_X1_putPairs k p q μ Q := by
  have h8 := hN.2.2.2.1
  have a8 := hA.2.2.2.1
  have b8 := hB.2.2.2.1
  have bp := hB.pos
  refine LP5_rule (fun (v0 v1 v2 : Nat) (v3 : Int) (μ2 : Mem) => v0 = k ∧ v1 = p ∧ v2 = q ∧ oC k μ μ2 ∧ ∃ a : Nat, v3 = (a : Int) ∧ a ≤ cW A ∧ crep μ2 k (mkM N (paM A B a))) (fun _ _ _ v3 _ => ((cW A : Int) - v3).toNat) ?_ ⟨rfl, rfl, rfl, oC.rf, 0, rfl, Nat.zero_le _, h.ext fun w => by unfold paM; rw [decide_eq_false (by omega)]; rfl⟩
  rintro X v0 v1 v2 v3 μ2 ⟨rfl, rfl, rfl, ho, a, rfl, ha, hr⟩ hX
  have hp2 := hp.to ho (by omega)
  have hq2 := hq.to ho (by omega)
  have hle : ∀ b, b ≤ cW A → b * cW B ≤ cW N := fun b hb => by rw [hw]; exact Nat.mul_le_mul_right _ hb
  have hMt : ∀ w, paM A B a w = true → w < cW N := fun w hw2 => by
    unfold paM at hw2
    rw [Bool.and_eq_true, decide_eq_true_eq] at hw2
    have := hle a ha
    omega
  have es : (a + 1) * cW B = a * cW B + cW B := by rw [Nat.add_mul, Nat.one_mul]
  unfold wp_X1_putPairs_2
  rw [hp2.2.2.1]
  refine ⟨fun c1 => ?_, fun c1 => s1_holds hp2 hA ⟨fun c2 => ⟨inR_i (by omega) (by omega), hX _ _ _ _ _ ⟨rfl, rfl, rfl, ho, a + 1, rfl, by omega, hr.ext fun w => ?_⟩ (by omega)⟩, fun c2 => ?_⟩⟩
  · have ea : a = cW A := by omega
    subst ea
    exact hQ μ2 ho hr
  · unfold paM
    by_cases e : w < a * cW B
    · rw [decide_eq_true e, decide_eq_true (by omega)]
    · rw [decide_eq_false e, Bool.false_and]
      by_cases e2 : w < (a + 1) * cW B
      · have : w / cW B = a := by
          have h1 := Nat.div_lt_of_lt_mul (show w < cW B * (a + 1) by rw [Nat.mul_comm]; exact e2)
          have h2 := (Nat.le_div_iff_mul_le (show 0 < cW B by omega)).mpr (show a * cW B ≤ w by omega)
          omega
        rw [this, bI_0.mp c2, Bool.false_and, Bool.and_false]
      · rw [decide_eq_false e2, Bool.false_and]
  · have hl1 := hle (a + 1) (by omega)
    rw [hq2.2.2.1, ← Int.natCast_mul]
    refine ⟨inR_n (by omega), s1_putBehind (start := 0) hr hN hn hMt hq2 hB hd2 (by omega) (by omega) (fun μ3 ho3 hr3 => ⟨inR_i (by omega) (by omega), hX _ _ _ _ _ ⟨rfl, rfl, rfl, ho.tr ho3, a + 1, rfl, by omega, hr3.ext fun w => ?_⟩ (by omega)⟩)⟩
    unfold behM paM
    rw [Nat.zero_add]
    by_cases e : w < a * cW B
    · rw [decide_eq_true e, decide_eq_true (show w < (a + 1) * cW B by omega), decide_eq_false (by omega), Bool.false_and, Bool.or_false]
    · rw [decide_eq_false e, Bool.false_and, Bool.false_or]
      by_cases e2 : w < (a + 1) * cW B
      · have hdm := Nat.div_add_mod w (cW B)
        have hdv : w / cW B = a := by
          have h1 := Nat.div_lt_of_lt_mul (show w < cW B * (a + 1) by rw [Nat.mul_comm]; exact e2)
          have h2 := (Nat.le_div_iff_mul_le (show 0 < cW B by omega)).mpr (show a * cW B ≤ w by omega)
          omega
        have hmd : w % cW B = w - a * cW B := by rw [hdv, Nat.mul_comm] at hdm; omega
        rw [decide_eq_true e2, decide_eq_true (by omega), hdv, bI_n0.mp c2, hmd, Bool.true_and, Bool.true_and]
      · rw [decide_eq_false e2, decide_eq_false (by omega), Bool.false_and, Bool.false_and]
def miM (A B : Cd) (a : Int) (i x : Nat) : Bool := decide (x < i) && mixB a (cM A x) (cM B x)
theorem s1_putMixed {p q : Nat} {a : Int} (h : crep μ k (mkM N noM)) (hN : okC N) (hn : 0 < cN N) (hp : crep μ p A) (hA : okC A) (hq : crep μ q B) (hB : okC B) (hd : p + 4 ≤ k ∨ k + 4 ≤ p) (hd2 : q + 4 ≤ k ∨ k + 4 ≤ q)
    (hQ : ∀ μ', oC k μ μ' → crep μ' k (mkM N (miM A B a (cW N))) → Q μ') : wp_X1_putMixed k p q a μ Q := by
  have h8 := hN.2.2.2.1
  refine LP6_rule (fun (v0 v1 v2 : Nat) (v3 v4 : Int) (μ2 : Mem) => v0 = k ∧ v1 = p ∧ v2 = q ∧ v3 = a ∧ oC k μ μ2 ∧ ∃ i : Nat, v4 = (i : Int) ∧ i ≤ cW N ∧ crep μ2 k (mkM N (miM A B a i))) (fun _ _ _ _ v4 _ => ((cW N : Int) - v4).toNat) ?_ ⟨rfl, rfl, rfl, rfl, oC.rf, 0, rfl, Nat.zero_le _, h.ext fun w => by unfold miM; rw [decide_eq_false (by omega)]; rfl⟩
  rintro X v0 v1 v2 v3 v4 μ2 ⟨rfl, rfl, rfl, rfl, ho, i, rfl, hi, hr⟩ hX
  have hp2 := hp.to ho (by omega)
  have hq2 := hq.to ho (by omega)
  have hMt : ∀ w, miM A B v3 i w = true → w < cW N := fun w hw2 => by
    unfold miM at hw2
    rw [Bool.and_eq_true, decide_eq_true_eq] at hw2
    omega
  have hW : μ2.1 v0 2 = (cW N : Int) := hr.2.2.1
  unfold wp_X1_putMixed_3
  rw [hW]
  refine ⟨fun c1 => ?_, fun c1 => ?_⟩
  · have ei : i = cW N := by omega
    subst ei
    exact hQ μ2 ho hr
  have fin : ∀ s0 : Int, s0 = bI (mixB v3 (cM A i) (cM B i)) → wp_X1_putMixed_75 Q X v0 v1 v2 v3 (i : Int) s0 μ2 := by
    rintro s0 rfl
    refine ⟨fun c2 => ⟨inR_i (by omega) (by omega), hX _ _ _ _ _ _ ⟨rfl, rfl, rfl, rfl, ho, i + 1, rfl, by omega, hr.ext fun w => ?_⟩ (by omega)⟩, fun c2 => s1_putM hr hN hn hMt (by omega) (fun μ3 ho3 hr3 => ⟨inR_i (by omega) (by omega), hX _ _ _ _ _ _ ⟨rfl, rfl, rfl, rfl, ho.tr ho3, i + 1, rfl, by omega, hr3.ext fun w => ?_⟩ (by omega)⟩)⟩
    · unfold miM
      by_cases e : w = i
      · rw [e, bI_0.mp c2, Bool.and_false, Bool.and_false]
      · rw [show decide (w < i + 1) = decide (w < i) from decide_eq_decide.mpr (by omega)]
    · unfold miM
      by_cases e : w = i
      · rw [if_pos e, e, bI_n0.mp c2, decide_eq_true (by omega)]; rfl
      · rw [if_neg e, show decide (w < i + 1) = decide (w < i) from decide_eq_decide.mpr (by omega)]
  refine s1_holds hp2 hA (s1_holds hq2 hB ?_)
  refine ⟨fun n0 => ⟨fun c2 => fin 0 ?_, fun c2 => ⟨fun n1 => ⟨fun c3 => fin 0 ?_, fun c3 => fin 1 ?_⟩, fun n1 => ⟨fun c3 => fin 0 ?_, fun c3 => fin 1 ?_⟩⟩⟩, fun n0 => ⟨fun c2 => fin 1 ?_, fun c2 => ⟨fun c3 => fin 0 ?_, fun c3 => fin 1 ?_⟩⟩⟩
  · unfold mixB; rw [if_neg n0, bI_0.mp c2]; split <;> rfl
  · unfold mixB; rw [if_neg n0, if_neg n1, bI_n0.mp c2, bI_n0.mp c3]; rfl
  · unfold mixB; rw [if_neg n0, if_neg n1, bI_n0.mp c2, bI_0.mp c3]; rfl
  · unfold mixB; rw [if_neg n0, if_pos n1, bI_n0.mp c2, show cM B i = false by cases e : cM B i <;> simp_all [bI]]; rfl
  · unfold mixB; rw [if_neg n0, if_pos n1, bI_n0.mp c2, bI_1.mp c3]; rfl
  · unfold mixB; rw [if_pos n0, bI_n0.mp c2]; rfl
  · unfold mixB; rw [if_pos n0, bI_0.mp c2, bI_0.mp c3]; rfl
  · unfold mixB; rw [if_pos n0, bI_0.mp c2, bI_n0.mp c3]; rfl
end CC

/-! the class: times -/
/-- nothing but the times has moved -/
def o72 (μ μ' : Mem) : Prop := (∀ q, q ≠ 72 → μ'.1 q = μ.1 q) ∧ μ'.2 = μ.2
theorem o72.rf {μ : Mem} : o72 μ μ := ⟨fun _ _ => rfl, rfl⟩
theorem o72.tr {μ μ' μ'' : Mem} (h : o72 μ μ') (h2 : o72 μ' μ'') : o72 μ μ'' := ⟨fun q a => (h2.1 q a).trans (h.1 q a), h2.2.trans h.2⟩
theorem o72.I {μ μ' : Mem} {j : Nat} {v : Int} (h : o72 μ μ') : o72 μ (sI μ' 72 j v) := h.tr ⟨fun p a => sI_ne a, rfl⟩
theorem grS.t {μ μ' : Mem} {C : Cd} {i : Nat} (h : grS μ C i) (ho : o72 μ μ') : grS μ' C i := by
  unfold grS at *
  rw [ho.1 70 (by omega), ho.1 71 (by omega)]
  exact h
theorem crep.t {μ μ' : Mem} {k : Nat} {C : Cd} (h : crep μ k C) (ho : o72 μ μ') (hk : k + 4 ≤ 72 ∨ 73 ≤ k) : crep μ' k C := by
  unfold crep at *
  rw [ho.1 k (by omega), ho.1 (k + 1) (by omega), ho.1 (k + 2) (by omega), ho.2]
  exact h
section CC
variable {μ : Mem} {C : Cd} {Q : Mem → Prop}
theorem s_fillI {q n : Nat} {v : Int} (hn : n ≤ 1000) (hq : ∀ μ' : Mem, μ'.2 = μ.2 → (∀ p, p ≠ q → μ'.1 p = μ.1 p) → (∀ j, j < n → μ'.1 q j = v) → Q μ') : wp_J7_fill_53178 q n v μ Q := by
  refine LP6_rule (fun (v0 nv0 : Nat) (v1 v3 v4 : Int) (μ2 : Mem) => v0 = q ∧ nv0 = n ∧ v1 = v ∧ v4 = (n : Int) ∧ μ2.2 = μ.2 ∧ (∀ p, p ≠ q → μ2.1 p = μ.1 p) ∧ ∃ i : Nat, v3 = (i : Int) ∧ i ≤ n ∧ ∀ j, j < i → μ2.1 q j = v) (fun _ _ _ v3 _ _ => ((n : Int) - v3).toNat) ?_ ⟨rfl, rfl, rfl, rfl, rfl, fun _ _ => rfl, 0, rfl, Nat.zero_le _, fun j hj => absurd hj (Nat.not_lt_zero j)⟩
  rintro X v0 nv0 v1 v3 v4 μ2 ⟨rfl, rfl, rfl, rfl, h1, h2, i, rfl, hi, hz⟩ hX
  refine ⟨fun q2 => hq μ2 h1 h2 (fun j hj => hz j (by omega)), fun q2 => ⟨by omega, fun μ3 e3 => ⟨inR_i (by omega) (by omega), hX _ _ _ _ _ _ ⟨rfl, rfl, rfl, rfl, by rw [e3]; exact h1, fun p hp => by rw [e3, sI_ne hp]; exact h2 p hp, i + 1, rfl, by omega, fun j hj => ?_⟩ (by omega)⟩⟩⟩
  rw [Int.toNat_natCast] at e3
  by_cases e : j = i
  · rw [e, e3, sI_s]
  · rw [e3, sI_nj e]; exact hz j (by omega)
/-- a word's ball is counted -/
theorem s3_addTimes {w r : Nat} {s : Int} (hg : grS μ C (cN C)) (hC : okC C) (hw : w < cW C) (hs : -1 ≤ s ∧ s ≤ 1) (hb : ∀ x, x < cW C → -1000 ≤ μ.1 72 x ∧ μ.1 72 x ≤ 1000)
    (hq : ∀ μ', o72 μ μ' → (∀ x, x < cW C → μ'.1 72 x = μ.1 72 x + (if cF C w x ≤ r then s else 0)) → Q μ') : wp_X3_addTimes w r s μ Q := by
  have hw8 := hC.2.2.2.1
  refine LP5_rule (fun (v1 v2 v3 v4 : Int) (μ2 : Mem) => v1 = (w : Int) ∧ v2 = (r : Int) ∧ v3 = s ∧ o72 μ μ2 ∧ ∃ i : Nat, v4 = (i : Int) ∧ i ≤ cW C ∧ (∀ x, x < i → μ2.1 72 x = μ.1 72 x + (if cF C w x ≤ r then s else 0)) ∧ ∀ x, i ≤ x → μ2.1 72 x = μ.1 72 x) (fun _ _ _ v4 _ => ((cW C : Int) - v4).toNat) ?_ ⟨rfl, rfl, rfl, o72.rf, 0, rfl, Nat.zero_le _, fun x hx => absurd hx (Nat.not_lt_zero x), fun _ _ => rfl⟩
  rintro X v1 v2 v3 v4 μ2 ⟨rfl, rfl, rfl, ho, i, rfl, hi, h1, h2⟩ hX
  have hg2 := hg.t ho
  have g0 : μ2.1 70 0 = (cW C : Int) := hg2.1
  unfold wp_X3_addTimes_3
  rw [g0]
  refine ⟨fun c => hq μ2 ho (fun x hx => h1 x (by omega)), fun c => s3_distance hg2 hC hw (by omega) ⟨fun c2 => ⟨inR_i (by omega) (by omega), hX _ _ _ _ _ ⟨rfl, rfl, rfl, ho, i + 1, rfl, by omega, fun x hx => ?_, fun x hx => h2 x (by omega)⟩ (by omega)⟩, fun c2 => ⟨by omega, ?_⟩⟩⟩
  · by_cases e : x = i
    · rw [e, if_neg (by omega), h2 i (Nat.le_refl _), Int.add_zero]
    · exact h1 x (by omega)
  · have hbi := hb i (by omega)
    rw [Int.toNat_natCast, h2 i (Nat.le_refl _)]
    refine ⟨inR_i (by omega) (by omega), fun μ8 e8 => ⟨inR_i (by omega) (by omega), hX _ _ _ _ _ ⟨rfl, rfl, rfl, by rw [e8]; exact ho.I, i + 1, rfl, by omega, fun x hx => ?_, fun x hx => by rw [e8, sI_nj (by omega)]; exact h2 x (by omega)⟩ (by omega)⟩⟩
    by_cases e : x = i
    · rw [e, e8, sI_s, if_pos (by omega)]
    · rw [e8, sI_nj e]; exact h1 x (by omega)
theorem s3_countTimes {p r : Nat} (hp : crep μ p C) (hC : okC C) (hg : grS μ C (cN C)) (hk : p + 4 ≤ 72 ∨ 73 ≤ p) (hq : ∀ μ', o72 μ μ' → (∀ x, x < cW C → μ'.1 72 x = (tmF C r x : Int)) → Q μ') : wp_X3_countTimes p r μ Q := by
  have hw8 := hC.2.2.2.1
  refine s_fillI (by omega) (fun μ1 f1 f2 f3 => ?_)
  have o1 : o72 μ μ1 := ⟨f2, f1⟩
  refine LP4_rule (fun (v1 : Nat) (v2 v3 : Int) (μ2 : Mem) => v1 = p ∧ v2 = (r : Int) ∧ o72 μ μ2 ∧ ∃ i : Nat, v3 = (i : Int) ∧ i ≤ cW C ∧ ∀ x, x < cW C → μ2.1 72 x = ((ctF (fun v => cM C v && decide (cF C x v ≤ r)) i : Nat) : Int)) (fun _ _ v3 _ => ((cW C : Int) - v3).toNat) ?_ ⟨rfl, rfl, o1, 0, rfl, Nat.zero_le _, fun x hx => f3 x (by omega)⟩
  rintro X v1 v2 v3 μ2 ⟨rfl, rfl, ho, i, rfl, hi, ht⟩ hX
  have hg2 := hg.t ho
  have hp2 := hp.t ho hk
  have g0 : μ2.1 70 0 = (cW C : Int) := hg2.1
  unfold wp_X3_countTimes_10
  rw [g0]
  have hs : ∀ x, ctF (fun v => cM C v && decide (cF C x v ≤ r)) (i + 1) = ctF (fun v => cM C v && decide (cF C x v ≤ r)) i + (if (cM C i && decide (cF C x i ≤ r)) = true then 1 else 0) := fun x => rfl
  refine ⟨fun c => ?_, fun c => s1_holds hp2 hC ⟨fun c2 => ⟨inR_i (by omega) (by omega), hX _ _ _ _ ⟨rfl, rfl, ho, i + 1, rfl, by omega, fun x hx => ?_⟩ (by omega)⟩, fun c2 => ?_⟩⟩
  · have e : i = cW C := by omega
    subst e
    exact hq μ2 ho ht
  · rw [hs, bI_0.mp c2, Bool.false_and, if_neg (by decide)]; exact ht x hx
  · refine s3_addTimes (s := 1) hg2 hC (by omega) (by omega) (fun x hx => ?_) (fun μ3 ho3 ht3 => ⟨inR_i (by omega) (by omega), hX _ _ _ _ ⟨rfl, rfl, ho.tr ho3, i + 1, rfl, by omega, fun x hx => ?_⟩ (by omega)⟩)
    · have := ctF_le (fun v => cM C v && decide (cF C x v ≤ r)) i
      rw [ht x hx]; omega
    · rw [ht3 x hx, ht x hx, hs, bI_n0.mp c2, Bool.true_and, cF_symm C i x]
      by_cases e : cF C x i ≤ r
      · rw [if_pos e, decide_eq_true e]; rfl
      · rw [if_neg e, decide_eq_false e]; rfl
end CC

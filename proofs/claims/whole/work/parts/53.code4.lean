/-! the class: words put into a code -/
def mkM (N : Cd) (M : Nat → Bool) : Cd := (cN N, cS N, cT N, M)
theorem mkM_set (N : Cd) (M : Nat → Bool) (w : Nat) (b : Bool) : setM (mkM N M) w b = mkM N (fun v => if v = w then b else M v) := rfl
theorem okC_mkM {N : Cd} {M : Nat → Bool} (h : okC N) (hn : 0 < cN N) (hM : ∀ w, M w = true → w < cW N) : okC (mkM N M) := ⟨h.1, h.2.1, h.2.2.1, h.2.2.2.1, hM, fun h0 => absurd (show cN N = 0 from h0) (by omega)⟩
section CC
variable {μ : Mem} {k : Nat} {C N : Cd} {M : Nat → Bool} {Q : Mem → Prop}
theorem crep.ext {M' : Nat → Bool} (h : crep μ k (mkM N M)) (e : ∀ w, M w = M' w) : crep μ k (mkM N M') := by
  rw [show M' = M from funext fun w => (e w).symm]; exact h
/-- a put, in what the marks become -/
theorem s1_putM {x : Nat} (h : crep μ k (mkM N M)) (hN : okC N) (hn : 0 < cN N) (hM : ∀ w, M w = true → w < cW N) (hx : x < cW N) (hq : ∀ μ', oC k μ μ' → crep μ' k (mkM N (fun v => if v = x then true else M v)) → Q μ') : wp_X1_put k x μ Q :=
  s1_put h (okC_mkM hN hn hM) hx (fun μ' ho hr => hq μ' ho hr)
def behM (M : Nat → Bool) (D : Cd) (base start many x : Nat) : Bool := M x || (decide (base ≤ x ∧ x < base + many) && cM D (start + (x - base)))
theorem s1_putBehind {p base start many : Nat} {D : Cd} (h : crep μ k (mkM N M)) (hN : okC N) (hn : 0 < cN N) (hM : ∀ w, M w = true → w < cW N) (hp : crep μ p D) (hD : okC D) (hd : p + 4 ≤ k ∨ k + 4 ≤ p) (hb : base + many ≤ cW N) (hs : start + many ≤ 1000)
    (hq : ∀ μ', oC k μ μ' → crep μ' k (mkM N (behM M D base start many)) → Q μ') : wp_X1_putBehind k base p start many μ Q := by
  have h8 := hN.2.2.2.1
  refine LP7_rule (fun (v0 : Nat) (v1 : Int) (v2 : Nat) (v3 v4 v5 : Int) (μ2 : Mem) => v0 = k ∧ v1 = (base : Int) ∧ v2 = p ∧ v3 = (start : Int) ∧ v4 = (many : Int) ∧ oC k μ μ2 ∧ ∃ t : Nat, v5 = (t : Int) ∧ t ≤ many ∧ crep μ2 k (mkM N (behM M D base start t))) (fun _ _ _ _ _ v5 _ => ((many : Int) - v5).toNat) ?_ ⟨rfl, rfl, rfl, rfl, rfl, oC.rf, 0, rfl, Nat.zero_le _, h.ext fun w => by
    unfold behM
    rw [decide_eq_false (by omega), Bool.false_and, Bool.or_false]⟩
  rintro X v0 v1 v2 v3 v4 v5 μ2 ⟨rfl, rfl, rfl, rfl, rfl, ho, t, rfl, ht, hr⟩ hX
  have hMt : ∀ w, behM M D base start t w = true → w < cW N := fun w hw => by
    unfold behM at hw
    rw [Bool.or_eq_true, Bool.and_eq_true, decide_eq_true_eq] at hw
    rcases hw with hw | hw
    · exact hM w hw
    · omega
  refine ⟨fun q => ?_, fun q => ⟨inR_i (by omega) (by omega), ?_⟩⟩
  · have et : t = many := by omega
    subst et
    exact hq μ2 ho hr
  rw [show (start : Int) + (t : Int) = ((start + t : Nat) : Int) by omega, show (base : Int) + (t : Int) = ((base + t : Nat) : Int) by omega]
  refine s1_holds (hp.to ho (by omega)) hD ⟨fun q2 => ⟨inR_i (by omega) (by omega), hX _ _ _ _ _ _ _ ⟨rfl, rfl, rfl, rfl, rfl, ho, t + 1, rfl, by omega, hr.ext fun w => ?_⟩ (by omega)⟩, fun q2 => ⟨inR_n (by omega), s1_putM hr hN hn hMt (by omega) (fun μ3 ho3 hr3 => ⟨inR_i (by omega) (by omega), hX _ _ _ _ _ _ _ ⟨rfl, rfl, rfl, rfl, rfl, ho.tr ho3, t + 1, rfl, by omega, hr3.ext fun w => ?_⟩ (by omega)⟩)⟩⟩
  · unfold behM
    by_cases e : w = base + t
    · rw [e, show start + (base + t - base) = start + t by omega, bI_0.mp q2, Bool.and_false, Bool.and_false]
    · rw [show decide (base ≤ w ∧ w < base + (t + 1)) = decide (base ≤ w ∧ w < base + t) from decide_eq_decide.mpr (by omega)]
  · unfold behM
    by_cases e : w = base + t
    · rw [if_pos e, e, show start + (base + t - base) = start + t by omega, bI_n0.mp q2, decide_eq_true (by omega), Bool.and_true, Bool.or_true]
    · rw [if_neg e, show decide (base ≤ w ∧ w < base + (t + 1)) = decide (base ≤ w ∧ w < base + t) from decide_eq_decide.mpr (by omega)]
end CC

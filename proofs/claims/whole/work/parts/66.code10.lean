/-! the class: words swapped -/
theorem grS.o {μ μ' : Mem} {C : Cd} {i k : Nat} (h : grS μ C i) (ho : oC k μ μ') (hk : k + 4 ≤ 70 ∨ 72 ≤ k) : grS μ' C i := by
  unfold grS at *
  rw [(ho 70 (by omega)).1, (ho 71 (by omega)).1]
  exact h
section CC
variable {μ : Mem} {k : Nat} {A : Cd} {Q : Mem → Prop}
theorem s1_putSwapped {p i j : Nat} (h : crep μ k (mkM (swP A i j noM) noM)) (hp : crep μ p A) (hA : okC A) (hg : grS μ A (cN A)) (hk : k + 4 ≤ 70 ∨ 72 ≤ k) (hd : p + 4 ≤ k ∨ k + 4 ≤ p) (hi : i < cN A) (hj : j < cN A) (hq : ∀ μ', oC k μ μ' → crep μ' k (swC A i j) → Q μ') : wp_X1_putSwapped k p i j μ Q := by
  have h8 := hA.1
  have hw8 := hA.2.2.2.1
  have hN : okC (swP A i j noM) := okC_swP hA hi hj (fun {x} hx => by cases hx)
  have hWN : cW (swP A i j noM) = cW A := cW_swP hA hi hj noM
  have hpre : ∀ n, n ≤ cN A → wdF (fun q => cS A (sw i j q)) n ≤ 256 := fun n hn => Nat.le_trans (wdF_mono (N := cN A) (fun q hq2 => by have := (hA.2.1 _ (sw_lt hi hj hq2)).1; omega) hn) (by show cW (swP A i j noM) ≤ 256; rw [hWN]; exact hw8)
  have hM : ∀ w x, imgM (swN A i j) (cM A) w x = true → x < cW (swP A i j noM) := fun w x hx => by rw [hWN]; exact imgM_lt (fun v _ => swN_lt hA hi hj v) hx
  refine LP6_rule (fun (v0 v1 : Nat) (v3 v4 v5 : Int) (μ2 : Mem) => v0 = k ∧ v1 = p ∧ v3 = (i : Int) ∧ v4 = (j : Int) ∧ oC k μ μ2 ∧ ∃ w : Nat, v5 = (w : Int) ∧ w ≤ cW A ∧ crep μ2 k (mkM (swP A i j noM) (imgM (swN A i j) (cM A) w))) (fun _ _ _ _ v5 _ => ((cW A : Int) - v5).toNat) ?_ ⟨rfl, rfl, rfl, rfl, oC.rf, 0, rfl, Nat.zero_le _, h⟩
  rintro X v0 v1 v3 v4 v5 μ2 ⟨rfl, rfl, rfl, rfl, ho, w, rfl, hw, hr⟩ hX
  have hp2 := hp.to ho (by omega)
  have hg2 := hg.o ho hk
  unfold wp_X1_putSwapped_3
  rw [hp2.2.2.1]
  refine ⟨fun c => ?_, fun c => s1_holds hp2 hA ⟨fun c2 => ⟨inR_i (by omega) (by omega), hX _ _ _ _ _ _ ⟨rfl, rfl, rfl, rfl, ho, w + 1, rfl, by omega, hr.ext fun x => ?_⟩ (by omega)⟩, fun c2 => ?_⟩⟩
  · have e : w = cW A := by omega
    subst e
    exact hq μ2 ho hr
  · show imgM (swN A i j) (cM A) w x = (imgM (swN A i j) (cM A) w x || (cM A w && decide (swN A i j w = x)))
    rw [bI_0.mp c2, Bool.false_and, Bool.or_false]
  refine LP8_rule (fun (w0 w1 : Nat) (w3 w4 w5 w6 w7 : Int) (μ3 : Mem) => w0 = v0 ∧ w1 = v1 ∧ w3 = (i : Int) ∧ w4 = (j : Int) ∧ w5 = (w : Int) ∧ μ3 = μ2 ∧ ∃ n : Nat, w7 = (n : Int) ∧ n ≤ cN A ∧ w6 = (hn_ A i j w n : Int)) (fun _ _ _ _ _ _ w7 _ => ((cN A : Int) - w7).toNat) ?_ ⟨rfl, rfl, rfl, rfl, rfl, rfl, 0, rfl, Nat.zero_le _, rfl⟩
  rintro X8 w0 w1 w3 w4 w5 w6 w7 μ3 ⟨rfl, rfl, rfl, rfl, rfl, rfl, n, rfl, hn, rfl⟩ hX8
  unfold wp_X1_putSwapped_27
  rw [hp2.2.1]
  refine ⟨fun c3 => ?_, fun c3 => ?_⟩
  · have e : n = cN A := by omega
    subst e
    have hlt := swN_lt hA hi hj w
    refine s1_putM (x := swN A i j w) hr hN (show 0 < cN A by omega) (hM w) (by rw [hWN]; exact hlt) (fun μ4 ho4 hr4 => ⟨inR_i (by omega) (by omega), hX _ _ _ _ _ _ ⟨rfl, rfl, rfl, rfl, ho.tr ho4, w + 1, rfl, by omega, hr4.ext fun x => ?_⟩ (by omega)⟩)
    show (if x = swN A i j w then true else imgM (swN A i j) (cM A) w x) = (imgM (swN A i j) (cM A) w x || (cM A w && decide (swN A i j w = x)))
    rw [bI_n0.mp c2, Bool.true_and]
    by_cases ex : x = swN A i j w
    · rw [if_pos ex, decide_eq_true ex.symm, Bool.or_true]
    · rw [if_neg ex, decide_eq_false (fun e => ex e.symm), Bool.or_false]
  · have hs := sw_lt hi hj (show n < cN A by omega)
    have hl1 : hn_ A i j w (n + 1) < wdF (fun q => cS A (sw i j q)) (n + 1) := hn_lt fun q hq2 => cD_lt hA (sw_lt hi hj (by omega)) w
    have hp1 := hpre (n + 1) (by omega)
    have es : hn_ A i j w (n + 1) = hn_ A i j w n * cS A (sw i j n) + cD A w (sw i j n) := rfl
    have fin : (0 ≤ (sw i j n : Int) ∧ (sw i j n : Int) < 8) ∧ wp_X3_digitAt (w : Int) (sw i j n : Int) μ3 (fun r13 μ12 => inR (((hn_ A i j w n : Int) * (μ3.1 (w1 + 1) ((sw i j n : Int).toNat))) + r13) ∧ ∀ x14 : Int, x14 = (((hn_ A i j w n : Int) * (μ3.1 (w1 + 1) ((sw i j n : Int).toNat))) + r13) → inR ((n : Int) + 1) ∧ X8 w0 w1 (i : Int) (j : Int) (w : Int) x14 ((n : Int) + 1) μ12) := by
      rw [Int.toNat_natCast, (hp2.2.2.2.2.1 _ hs).1, ← Int.natCast_mul]
      exact ⟨by omega, s3_digitAt hg2 hA (by omega) hs ⟨inR_i (by omega) (by omega), fun x14 e14 => ⟨inR_i (by omega) (by omega), hX8 _ _ _ _ _ _ _ _ ⟨rfl, rfl, rfl, rfl, rfl, rfl, n + 1, rfl, by omega, by rw [e14, es]; exact (Int.natCast_add _ _).symm⟩ (by omega)⟩⟩⟩
    rw [← swI] at fin
    refine ⟨fun a1 => ⟨fun a2 => ?_, fun a2 => ?_⟩, fun a1 => ?_⟩
    · rw [if_neg a1, if_neg a2] at fin; exact fin
    · rw [if_neg a1, if_pos a2] at fin; exact fin
    · rw [if_pos a1] at fin; exact fin
end CC

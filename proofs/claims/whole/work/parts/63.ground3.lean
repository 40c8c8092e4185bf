/-! the class: the ball's size, times -/
section CC
variable {μ : Mem} {C : Cd}
theorem s3_ballSize {r : Nat} {Q : Int → Mem → Prop} (hg : grS μ C (cN C)) (hC : okC C) (hq : Q (blF C r : Nat) μ) : wp_X3_ballSize r μ Q := by
  have hw8 := hC.2.2.2.1
  have hp := hC.pos
  have g0 : μ.1 70 0 = (cW C : Int) := hg.1
  refine LP4_rule (fun (v1 v2 v3 : Int) (μ2 : Mem) => v1 = (r : Int) ∧ μ2 = μ ∧ ∃ i : Nat, v3 = (i : Int) ∧ i ≤ cW C ∧ v2 = ((ctF (fun v => decide (cF C 0 v ≤ r)) i : Nat) : Int)) (fun _ _ v3 _ => ((cW C : Int) - v3).toNat) ?_ ⟨rfl, rfl, 0, rfl, Nat.zero_le _, rfl⟩
  rintro X v1 v2 v3 μ2 ⟨rfl, rfl, i, rfl, hi, rfl⟩ hX
  have hl := ctF_le (fun v => decide (cF C 0 v ≤ r)) i
  have hs : ctF (fun v => decide (cF C 0 v ≤ r)) (i + 1) = ctF (fun v => decide (cF C 0 v ≤ r)) i + (if decide (cF C 0 i ≤ r) = true then 1 else 0) := rfl
  unfold wp_X3_ballSize_4
  rw [g0]
  refine ⟨fun c => ?_, fun c => s3_distance (a := 0) hg hC (by omega) (by omega) ⟨fun c2 => ?_, fun c2 => ?_⟩⟩
  · have e : i = cW C := by omega
    subst e
    exact hq
  · rw [decide_eq_false (show ¬ cF C 0 i ≤ r by omega), if_neg (by decide)] at hs
    exact ⟨inR_i (by omega) (by omega), hX _ _ _ _ ⟨rfl, rfl, i + 1, rfl, by omega, by rw [hs]; rfl⟩ (by omega)⟩
  · rw [decide_eq_true (show cF C 0 i ≤ r by omega), if_pos rfl] at hs
    exact ⟨inR_i (by omega) (by omega), inR_i (by omega) (by omega), hX _ _ _ _ ⟨rfl, rfl, i + 1, rfl, by omega, by rw [hs]; omega⟩ (by omega)⟩
end CC

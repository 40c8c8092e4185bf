/-! the class: places but one, places swapped -/
theorem crep.pl {μ : Mem} {k : Nat} {C D : Cd} (h : crep μ k C) (h1 : cN D = cN C) (h2 : ∀ i, i < cN C → cS D i = cS C i ∧ cT D i = cT C i) (h3 : cM D = cM C) : crep μ k D := by
  have hw : cW D = cW C := by unfold cW; rw [h1]; exact wdF_cong fun i hi => (h2 i hi).1
  unfold crep at *
  rw [h1, hw, h3]
  exact ⟨h.1, h.2.1, h.2.2.1, h.2.2.2.1, fun i hi => by rw [(h2 i hi).1, (h2 i hi).2]; exact h.2.2.2.2.1 i hi, h.2.2.2.2.2⟩
section CC
variable {μ : Mem} {k : Nat} {A : Cd} {Q : Mem → Prop}
theorem s1_addPlacesSwapped {p i j : Nat} (h : crep μ k C0) (hp : crep μ p A) (hA : okC A) (hd : p + 4 ≤ k ∨ k + 4 ≤ p) (hi : i < cN A) (hj : j < cN A) (hq : ∀ μ', oC k μ μ' → crep μ' k (swP A i j noM) → Q μ') : wp_X1_addPlacesSwapped k p i j μ Q := by
  have h8 := hA.1
  have hpos : ∀ q, q < cN A → 1 ≤ cS A (sw i j q) := fun q hq2 => by have := (hA.2.1 _ (sw_lt hi hj hq2)).1; omega
  have hall : wdF (fun q => cS A (sw i j q)) (cN A) ≤ 256 := by
    have := cW_swP hA hi hj noM
    show cW (swP A i j noM) ≤ 256
    rw [this]; exact hA.2.2.2.1
  have hpre : ∀ n, n ≤ cN A → wdF (fun q => cS A (sw i j q)) n ≤ 256 := fun n hn => Nat.le_trans (wdF_mono (N := cN A) hpos hn) hall
  have okP : ∀ n, n ≤ cN A → okC (n, (fun q => cS A (sw i j q)), (fun q => cT A (sw i j q)), noM) := fun n hn => ⟨by show n ≤ 8; omega, fun q (hq2 : q < n) => hA.2.1 _ (sw_lt hi hj (by omega)), fun q (hq2 : q < n) => hA.2.2.1 _ (sw_lt hi hj (by omega)), hpre n hn, fun w hw => (by cases hw), fun _ _ => rfl⟩
  refine LP6_rule (fun (v0 v1 : Nat) (v2 v3 v4 : Int) (μ2 : Mem) => v0 = k ∧ v1 = p ∧ v2 = (i : Int) ∧ v3 = (j : Int) ∧ oC k μ μ2 ∧ ∃ n : Nat, v4 = (n : Int) ∧ n ≤ cN A ∧ crep μ2 k (n, (fun q => cS A (sw i j q)), (fun q => cT A (sw i j q)), noM)) (fun _ _ _ _ v4 _ => ((cN A : Int) - v4).toNat) ?_ ⟨rfl, rfl, rfl, rfl, oC.rf, 0, rfl, Nat.zero_le _, h.pl rfl (fun q hq2 => absurd hq2 (Nat.not_lt_zero q)) rfl⟩
  rintro X v0 v1 v2 v3 v4 μ2 ⟨rfl, rfl, rfl, rfl, ho, n, rfl, hn, hr⟩ hX
  have hp2 := hp.to ho (by omega)
  unfold wp_X1_addPlacesSwapped_3
  rw [hp2.2.1]
  refine ⟨fun c => ?_, fun c => ?_⟩
  · have e : n = cN A := by omega
    subst e
    exact hq μ2 ho hr
  have hs := sw_lt hi hj (show n < cN A by omega)
  have fin : (0 ≤ (sw i j n : Int) ∧ (sw i j n : Int) < 8) ∧ wp_X1_addPlace v0 (μ2.1 (v1 + 1) ((sw i j n : Int).toNat)) (μ2.1 (v1 + 2) ((sw i j n : Int).toNat)) μ2 (fun _ μ5 => inR ((n : Int) + 1) ∧ X v0 v1 (i : Int) (j : Int) ((n : Int) + 1) μ5) := by
    rw [Int.toNat_natCast, (hp2.2.2.2.2.1 _ hs).1, (hp2.2.2.2.2.1 _ hs).2]
    have hw1 := hpre (n + 1) (by omega)
    refine ⟨by omega, s1_addPlace hr (okP n hn) (fun _ => rfl) (hA.2.1 _ hs) (hA.2.2.1 _ hs) (fun hno => ?_) (fun μ3 _ ho3 hr3 => ⟨inR_i (by omega) (by omega), hX _ _ _ _ _ _ ⟨rfl, rfl, rfl, rfl, ho.tr ho3, n + 1, rfl, by omega, hr3.pl rfl (fun q (hq2 : q < n + 1) => ?_) rfl⟩ (by omega)⟩)⟩
    · have hao : addO (n, (fun q => cS A (sw i j q)), (fun q => cT A (sw i j q)), noM) (cS A (sw i j n)) (cT A (sw i j n)) = if n = 8 ∨ 256 < wdF (fun q => cS A (sw i j q)) (n + 1) then none else some (addP (n, (fun q => cS A (sw i j q)), (fun q => cT A (sw i j q)), noM) (cS A (sw i j n)) (cT A (sw i j n))) := rfl
      rw [hao, if_neg (by omega)] at hno
      cases hno
    · show cS A (sw i j q) = (if q = n then cS A (sw i j n) else cS A (sw i j q)) ∧ cT A (sw i j q) = (if q = n then cT A (sw i j n) else cT A (sw i j q))
      by_cases e : q = n
      · rw [if_pos e, if_pos e, e]; exact ⟨rfl, rfl⟩
      · rw [if_neg e, if_neg e]; exact ⟨rfl, rfl⟩
  rw [← swI] at fin
  refine ⟨fun a1 => ⟨fun a2 => ?_, fun a2 => ?_⟩, fun a1 => ?_⟩
  · rw [if_neg a1, if_neg a2] at fin; exact fin
  · rw [if_neg a1, if_pos a2] at fin; exact fin
  · rw [if_pos a1] at fin; exact fin
end CC

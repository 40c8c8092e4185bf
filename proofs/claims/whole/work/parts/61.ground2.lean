/-! the class: the ground laid; digits -/
theorem pk_dg {s : Nat → Nat} {i : Nat} : ∀ {n w : Nat}, (∀ j, j < n → 1 ≤ s j ∧ s j ≤ 4) → i < n → pkF s n w / 4 ^ i % 4 = dgF s n w i
  | 0, _, _, h => absurd h (Nat.not_lt_zero i)
  | n + 1, w, hs, h => by
    have hA := pkF_lt (n := n) (w / s n) fun j hj => hs j (by omega)
    have hsn := hs n (by omega)
    have hd : w % s n < 4 := by have := Nat.mod_lt w (show 0 < s n by omega); omega
    show (pkF s n (w / s n) + w % s n * 4 ^ n) / 4 ^ i % 4 = (if i = n then w % s n else dgF s n (w / s n) i)
    by_cases e : i = n
    · rw [if_pos e, e, Nat.mul_comm, Nat.add_mul_div_left _ _ (Nat.pow_pos (by omega)), Nat.div_eq_of_lt hA, Nat.zero_add, Nat.mod_eq_of_lt hd]
    · rw [if_neg e, ← pk_dg (n := n) (fun j hj => hs j (by omega)) (by omega)]
      have hp : 4 ^ n = 4 ^ i * (4 ^ (n - i - 1) * 4) := by rw [← Nat.pow_succ, ← Nat.pow_add]; congr 1; omega
      rw [hp, Nat.mul_left_comm, Nat.add_mul_div_left _ _ (Nat.pow_pos (by omega)), ← Nat.mul_assoc, Nat.add_mul_mod_self_right]
section CC
variable {μ : Mem} {C : Cd}
theorem s3_lay {p : Nat} {Q : Mem → Prop} (hp : crep μ p C) (hC : okC C) (hk : p + 4 ≤ 70 ∨ 72 ≤ p) (hq : ∀ μ', oG μ μ' → grS μ' C (cN C) → Q μ') : wp_X3_lay p μ Q := by
  have h8 := hC.1
  intro μ1 e1 μ2 e2 μ3 e3 μ4 e4
  have o4 : oG μ μ4 := by rw [e4, e3, e2, e1]; exact (((oG.rf.I (by omega)).I (by omega)).I (by omega)).I (by omega)
  refine LP3_rule (fun (v1 : Nat) (v2 : Int) (μ5 : Mem) => v1 = p ∧ oG μ μ5 ∧ ∃ i : Nat, v2 = (i : Int) ∧ i ≤ cN C ∧ grS μ5 C i) (fun _ v2 _ => ((cN C : Int) - v2).toNat) ?_ ⟨rfl, o4, 0, rfl, Nat.zero_le _, by rw [e4, sI_ne (by omega), e3, sI_nj (by omega), e2, sI_nj (by omega), e1, sI_s]; rfl, by rw [e4, sI_ne (by omega), e3, sI_nj (by omega), e2, sI_s]; rfl, by rw [e4, sI_ne (by omega), e3, sI_s]; rfl, fun w hw => by
    have hw : w < 1 := hw
    rw [show w = 0 by omega, e4, sI_s]; rfl⟩
  rintro X v1 v2 μ5 ⟨rfl, ho, i, rfl, hi, hg⟩ hX
  have hp5 := hp.G ho hk
  unfold wp_X3_lay_24
  rw [hp5.2.1]
  refine ⟨fun c => ?_, fun c => ⟨by omega, ?_⟩⟩
  · have e : i = cN C := by omega
    subst e
    exact hq μ5 ho hg
  · rw [Int.toNat_natCast, (hp5.2.2.2.2.1 i (by omega)).1, (hp5.2.2.2.2.1 i (by omega)).2]
    exact s3_layPlace hg hC (by omega) (fun μ6 ho6 hg6 => ⟨inR_i (by omega) (by omega), hX _ _ _ ⟨rfl, ho.tr ho6, i + 1, rfl, by omega, hg6⟩ (by omega)⟩)
theorem s3_digitAt {w i : Nat} {Q : Int → Mem → Prop} (hg : grS μ C (cN C)) (hC : okC C) (hw : w < cW C) (hi : i < cN C) (hq : Q (cD C w i : Nat) μ) : wp_X3_digitAt w i μ Q := by
  have h8 := hC.1
  have hw8 := hC.2.2.2.1
  have hs : ∀ j, j < cN C → 1 ≤ cS C j ∧ cS C j ≤ 4 := fun j hj => by have := hC.2.1 j hj; omega
  have hl := pkF_lt w hs
  obtain ⟨-, p2⟩ := pow4_k (cN C) (by omega)
  obtain ⟨p1, -⟩ := pow4_k i (by omega)
  refine ⟨by omega, ?_⟩
  have hd : pkF (cS C) (cN C) w / 2 ^ (2 * i) ≤ pkF (cS C) (cN C) w := Nat.div_le_self _ _
  rw [Int.toNat_natCast, hg.2.2.2 w hw, show 2 * (i : Int) = ((2 * i : Nat) : Int) by omega, ishr_n (by omega) (by omega), show (3 : Int) = ((3 : Nat) : Int) from rfl, iand_n (by omega) (by omega), show (3 : Nat) = 2 ^ 2 - 1 from rfl, Nat.and_two_pow_sub_one_eq_mod, ← p1, show (2 : Nat) ^ 2 = 4 from rfl, pk_dg hs hi]
  exact hq
end CC

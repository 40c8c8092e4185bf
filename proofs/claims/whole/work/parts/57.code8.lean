/-! the class: shifted, second half -/
section CC
variable {μ : Mem} {k : Nat} {N A B : Cd} {Q : Mem → Prop}
theorem s1_putShifted {p i c : Nat} (h : crep μ k (mkM A noM)) (hn : 0 < cN A) (hp : crep μ p A) (hA : okC A) (hd : p + 4 ≤ k ∨ k + 4 ≤ p) (hi : i < cN A) (hc : c ≤ 3)
    (hQ : ∀ μ', oC k μ μ' → crep μ' k (siC A i c) → Q μ') : wp_X1_putShifted k p i c μ Q := by
  have a8 := hA.2.2.2.1
  have n8 := hA.1
  have hsz := hA.2.1 i hi
  have hWA := cW_tl hi
  have hTp := tlF_pos hA i
  have hφ : ∀ w, w < cW A → siN A i c w = _ := fun w hw => siN_eq hA (k := c) hi hw
  refine ⟨by omega, ?_⟩
  have s0 : wdF (fun q => cS A (0 + q)) (i - 0) = wdF (cS A) i := by rw [Nat.sub_zero]; exact wdF_cong fun j _ => by rw [Nat.zero_add]
  refine s1_wordsOf (a := 0) (b := i) hp hA (Nat.zero_le _) (by omega) ?_
  rw [s0]
  refine ⟨inR_i (by omega) (by omega), ?_⟩
  rw [hp.2.1, show (i : Int) + 1 = ((i + 1 : Nat) : Int) by omega]
  refine s1_wordsOf (a := i + 1) (b := cN A) hp hA (by omega) (Nat.le_refl _) ?_
  have st : wdF (fun q => cS A (i + 1 + q)) (cN A - (i + 1)) = tlF A i := by unfold tlF; rw [show cN A - (i + 1) = cN A - 1 - i by omega]
  rw [st, Int.toNat_natCast, (hp.2.2.2.2.1 i hi).1]
  have hM : ∀ b, ∀ w, imgM (siN A i c) (cM A) b w = true → w < cW A := fun b w hw => imgM_lt (fun v _ => siN_lt hA v) hw
  have hQ2 : ∀ μ', oC k μ μ' → crep μ' k (mkM A (imgM (siN A i c) (cM A) (cW A))) → Q μ' := hQ
  generalize siN A i c = φ at *
  generalize tlF A i = T at *
  generalize wdF (cS A) i = HH at *
  generalize cS A i = s at *
  have hH : HH ≤ HH * s * T := by
    have h1 : HH * 1 ≤ HH * s := Nat.mul_le_mul_left _ (by omega)
    have h2 : HH * s * 1 ≤ HH * s * T := Nat.mul_le_mul_left _ hTp
    omega
  refine ⟨fun _ => ?_, fun y => absurd (show (2 : Int) ≤ (s : Int) by omega) y⟩
  refine LP8_rule (fun (v0 v1 : Nat) (v3 v4 v5 v6 v7 : Int) (μ2 : Mem) => v0 = k ∧ v1 = p ∧ v3 = (c : Int) ∧ v4 = (s : Int) ∧ v5 = (HH : Int) ∧ v6 = (T : Int) ∧ oC k μ μ2 ∧ ∃ a : Nat, v7 = (a : Int) ∧ a ≤ HH ∧ crep μ2 k (mkM A (imgM φ (cM A) (a * s * T)))) (fun _ _ _ _ _ _ v7 _ => ((HH : Int) - v7).toNat) ?_ ⟨rfl, rfl, rfl, rfl, rfl, rfl, oC.rf, 0, rfl, Nat.zero_le _, h.ext fun w => by rw [Nat.zero_mul, Nat.zero_mul]; rfl⟩
  rintro X v0 v1 v3 v4 v5 v6 v7 μ2 ⟨rfl, rfl, rfl, rfl, rfl, rfl, ho, a, rfl, ha, hr⟩ hX
  refine ⟨fun c1 => ?_, fun c1 => ?_⟩
  · have ea : a = HH := by omega
    subst ea
    rw [hWA] at hQ2
    exact hQ2 μ2 ho hr
  refine LP9_rule (fun (w0 w1 : Nat) (w3 w4 w5 w6 w7 w8 : Int) (μ3 : Mem) => w0 = v0 ∧ w1 = v1 ∧ w3 = (c : Int) ∧ w4 = (s : Int) ∧ w5 = (HH : Int) ∧ w6 = (T : Int) ∧ w7 = (a : Int) ∧ oC v0 μ μ3 ∧ ∃ d : Nat, w8 = (d : Int) ∧ d ≤ s ∧ crep μ3 v0 (mkM A (imgM φ (cM A) ((a * s + d) * T)))) (fun _ _ _ _ _ _ _ w8 _ => ((s : Int) - w8).toNat) ?_ ⟨rfl, rfl, rfl, rfl, rfl, rfl, rfl, ho, 0, rfl, Nat.zero_le _, hr⟩
  rintro X9 w0 w1 w3 w4 w5 w6 w7 w8 μ3 ⟨rfl, rfl, rfl, rfl, rfl, rfl, rfl, ho3, d, rfl, hds, hr3⟩ hX9
  refine ⟨fun c2 => ⟨inR_i (by omega) (by omega), hX _ _ _ _ _ _ _ _ ⟨rfl, rfl, rfl, rfl, rfl, rfl, ho3, a + 1, rfl, by omega, hr3.ext fun w => ?_⟩ (by omega)⟩, fun c2 => ?_⟩
  · rw [show d = s by omega, show a * s + s = (a + 1) * s by rw [Nat.add_mul, Nat.one_mul]]
  have hds2 : d < s := by omega
  have hmd : (d + c) % s < s := Nat.mod_lt _ (by omega)
  have blk : ∀ e, e < s → (a * s + e) * T + T ≤ HH * s * T := fun e he => by
    have h1 := div_add_lt (show a < HH by omega) he
    have := Nat.mul_le_mul_right T (show a * s + e + 1 ≤ HH * s by omega)
    rw [Nat.add_mul, Nat.one_mul] at this
    exact this
  have hb1 := blk d hds2
  have hb2 := blk _ hmd
  have em : ((d : Int) + (c : Int)) % (s : Int) = (((d + c) % s : Nat) : Int) := by rw [Int.natCast_emod, Int.natCast_add]
  refine ⟨inR_i (by omega) (by omega), by omega, fun x13 e13 => ?_⟩
  rw [em] at e13
  subst e13
  have q1 : ((a : Int) * (s : Int) + (((d + c) % s : Nat) : Int)) * (T : Int) = (((a * s + (d + c) % s) * T : Nat) : Int) := by rw [Int.natCast_mul, Int.natCast_add, Int.natCast_mul]
  have q2 : ((a : Int) * (s : Int) + (d : Int)) * (T : Int) = (((a * s + d) * T : Nat) : Int) := by rw [Int.natCast_mul, Int.natCast_add, Int.natCast_mul]
  rw [q1, q2]
  refine ⟨inR_n (by omega), fun x14 e14 => ?_⟩
  subst e14
  refine ⟨inR_n (by omega), s1_putBehind hr3 hA hn (hM _) (hp.to ho3 (by omega)) hA hd (by omega) (by omega) (fun μ4 ho4 hr4 => ⟨inR_i (by omega) (by omega), hX9 _ _ _ _ _ _ _ _ _ ⟨rfl, rfl, rfl, rfl, rfl, rfl, rfl, ho3.tr ho4, d + 1, rfl, by omega, hr4.ext fun w => ?_⟩ (by omega)⟩)⟩
  have hbl := imgM_block (φ := φ) (m := cM A) (B := (a * s + d) * T) (base := (a * s + (d + c) % s) * T) (T := T) (fun t ht => by
    rw [hφ _ (by rw [hWA]; omega)]
    obtain ⟨r1, r2⟩ := mul_div_mod (a := a * s + d) ht
    obtain ⟨r3, r4⟩ := mul_div_mod (a := a) hds2
    rw [r1, r2, r3, r4]) w
  rw [show (a * s + (d + 1)) * T = (a * s + d) * T + T by rw [← Nat.add_assoc, Nat.add_mul, Nat.one_mul], hbl]
  rfl
end CC

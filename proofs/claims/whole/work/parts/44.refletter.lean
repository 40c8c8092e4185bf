/-! letter of the reference -/
theorem nmW_take {l : List Nat} {m : Nat} (h : m < l.length) : nmW (l.take (m + 1)) = nmW (l.take m) * 32 + l.getD m 0 := by
  rw [List.take_add_one, List.getElem?_eq_getElem h, List.getD_eq_getElem?_getD, List.getElem?_eq_getElem h]
  exact nmW_s _ _
theorem okN.take {l : List Nat} (h : okN l) (m : Nat) : okN (l.take m) := ⟨fun x hx => h.1 x (List.mem_of_mem_take hx), by rw [List.length_take]; have := h.2; omega⟩
theorem okN.at {l : List Nat} (h : okN l) {m : Nat} (hm : m < l.length) : 1 ≤ l.getD m 0 ∧ l.getD m 0 ≤ 26 := by
  rw [List.getD_eq_getElem?_getD, List.getElem?_eq_getElem hm]
  exact h.1 _ (List.getElem_mem hm)
def ltO (nl : List (List Nat)) (c k : Int) : Option Int := if 0 ≤ c ∧ c < (nl.length : Int) ∧ 0 ≤ k ∧ k < ((nl.getD c.toNat []).length : Int) then some (((nl.getD c.toNat []).getD k.toNat 0 : Int) - 1) else none
section RR
variable {μ : Mem} {Q : Int → Mem → Prop}
theorem s8_letter {nl : List (List Nat)} {c k : Int} (hN : mN μ nl)
    (h0 : ltO nl c k = none → ∀ μ', μ' = sI (sI μ 115 0 0) 115 0 1 → Q 0 μ')
    (h1 : ∀ v, ltO nl c k = some v → ∀ μ', μ' = sI μ 115 0 0 → Q v μ') : wp_X8_letter c k μ Q := by
  have h4 := hN.2.1
  intro μ1 e1
  have a17 : μ1.1 115 17 = (nl.length : Int) := by rw [e1, sI_nj (by omega)]; exact hN.1
  have aL : μ1.2 = μ.2 := by rw [e1]; rfl
  rw [a17]
  refine ⟨inR_i (by omega) (by omega), c_in (fun n => ⟨fun _ => ?_, fun y => absurd rfl y⟩) (fun y => ⟨fun y2 => absurd y2 (by decide), fun _ => ⟨by omega, ?_⟩⟩)⟩
  · have hno : ltO nl c k = none := if_neg (fun z => n ⟨z.1, by omega⟩)
    exact ⟨inR_i (by omega) (by omega), c_in (fun n2 => ⟨fun y => absurd rfl y, fun _ => fun μ19 e19 => h0 hno μ19 (by rw [e19, e1])⟩) (fun y => absurd y (by omega))⟩
  obtain ⟨m, rfl⟩ := Int.eq_ofNat_of_zero_le y.1
  have hm : m < nl.length := by omega
  obtain ⟨b1, b2⟩ := hN.2.2 m hm
  rw [Int.toNat_natCast, aL, b1]
  generalize hl : nl.getD m [] = l at *
  have hb : ∀ j, nmW (l.take j) < 1073741824 := fun j => nmW_b (b2.take j)
  have hlen := b2.2
  have hlt : ltO nl (m : Int) k = if 0 ≤ (m : Int) ∧ (m : Int) < (nl.length : Int) ∧ 0 ≤ k ∧ k < (l.length : Int) then some ((l.getD k.toNat 0 : Int) - 1) else none := by
    unfold ltO; rw [Int.toNat_natCast, hl]
  refine LP5_rule (fun (v1 v2 v3 : Int) (v4 : Int64) (μ2 : Mem) => v1 = (m : Int) ∧ v2 = k ∧ μ2 = μ1 ∧ ∃ i : Nat, v3 = (i : Int) ∧ i ≤ l.length ∧ v4 = lnI (nmW (l.take (l.length - i)))) (fun _ _ v3 _ _ => ((l.length : Int) - v3).toNat) ?_ ⟨rfl, rfl, rfl, 0, rfl, Nat.zero_le _, by rw [Nat.sub_zero, List.take_length]⟩
  rintro X v1 v2 v3 v4 μ2 ⟨rfl, rfl, rfl, i, rfl, hi, rfl⟩ hX
  have hst : i < l.length → nmW (l.take (l.length - i)) = nmW (l.take (l.length - (i + 1))) * 32 + l.getD (l.length - (i + 1)) 0 := fun h => by
    have := nmW_take (l := l) (m := l.length - (i + 1)) (by omega)
    rw [show l.length - (i + 1) + 1 = l.length - i by omega] at this
    exact this
  unfold wp_X8_letter_29
  rw [lcm_le, lnI_toInt (hb _)]
  refine ⟨fun q => ?_, fun q => ?_⟩
  · have ei : i = l.length := by
      by_cases e : i = l.length
      · exact e
      · have h2 := hst (by omega)
        have h3 := b2.at (m := l.length - (i + 1)) (by omega)
        omega
    subst ei
    refine ⟨inR_i (by omega) (by omega), c_in (fun n2 => ⟨fun y => absurd rfl y, fun _ => fun μ19 e19 => h0 (by rw [hlt, if_neg (by omega)]) μ19 (by rw [e19, e1])⟩) (fun y3 => ⟨fun _ => ⟨by omega, inR_i (by omega) (by omega), fun x11 e11 => ?_⟩, fun y => absurd y (by decide)⟩)⟩
    obtain ⟨kk, rfl⟩ := Int.eq_ofNat_of_zero_le y3.1
    rw [if_pos (by omega)] at hlt
    rw [Int.toNat_natCast] at hlt ⊢
    rw [aL, b1]
    refine LP4_rule (fun (v2 : Int) (v4 : Int64) (v6 : Int) (μ3 : Mem) => v2 = (kk : Int) ∧ μ3 = μ2 ∧ ∃ i : Nat, v6 = (i : Int) ∧ kk ≤ i ∧ i < l.length ∧ v4 = lnI (nmW (l.take (i + 1)))) (fun _ _ v6 _ => v6.toNat) ?_ ⟨rfl, rfl, l.length - 1, by omega, by omega, by omega, by rw [show l.length - 1 + 1 = l.length by omega, List.take_length]⟩
    rintro X4 w2 w4 w6 μ3 ⟨rfl, rfl, i, rfl, hki, hil, rfl⟩ hX4
    have hti := nmW_take (l := l) hil
    have hli := b2.at hil
    refine ⟨fun q2 => ?_, fun q2 => fun y17 e17 => ⟨inR_i (by omega) (by omega), hX4 _ _ _ _ ⟨rfl, rfl, i - 1, by omega, by omega, by omega, ?_⟩ (by omega)⟩⟩
    · have e : i = kk := by omega
      subst e
      rw [lnI_rem (hb _)]
      have e2 : nmW (l.take (i + 1)) % 32 = l.getD i 0 := by rw [hti]; omega
      rw [e2]
      exact ⟨inR_i (by omega) (by omega), h1 _ hlt μ3 e1⟩
    · rw [e17, lnI_div (hb _), show i - 1 + 1 = i by omega]
      congr 1
      rw [hti]; omega
  · have hlt2 : i < l.length := by
      by_cases e : i = l.length
      · rw [e, Nat.sub_self] at q; exact absurd (show ((0 : Nat) : Int) ≤ 0 by decide) q
      · omega
    refine ⟨inR_i (by omega) (by omega), fun y24 e24 => hX _ _ _ _ _ ⟨rfl, rfl, rfl, i + 1, rfl, by omega, ?_⟩ (by omega)⟩
    have h2 := hst hlt2
    have h3 := b2.at (m := l.length - (i + 1)) (by omega)
    rw [e24, lnI_div (hb _)]
    congr 1
    omega
theorem s8_bytes (hq : ∀ μ', μ' = sI μ 115 0 0 → Q (μ.1 115 4) μ') : wp_X8_bytes μ Q := by
  intro μ1 e1
  rw [show μ1.1 115 4 = μ.1 115 4 by rw [e1, sI_nj (by omega)]]
  exact hq μ1 e1
theorem s8_trouble (hq : ∀ μ', μ' = sI μ 115 0 0 → Q (μ.1 115 1) μ') : wp_X8_trouble μ Q := by
  intro μ1 e1
  rw [show μ1.1 115 1 = μ.1 115 1 by rw [e1, sI_nj (by omega)]]
  exact hq μ1 e1
theorem s8_fault (hq : ∀ μ', μ' = sI μ 115 0 0 → Q (μ.1 115 7) μ') : wp_X8_fault μ Q := by
  intro μ1 e1
  rw [show μ1.1 115 7 = μ.1 115 7 by rw [e1, sI_nj (by omega)]]
  exact hq μ1 e1
theorem s8_where (hq : ∀ μ', μ' = sI μ 115 0 0 → Q (μ.1 115 2) μ') : wp_X8_where μ Q := by
  intro μ1 e1
  rw [show μ1.1 115 2 = μ.1 115 2 by rw [e1, sI_nj (by omega)]]
  exact hq μ1 e1
end RR

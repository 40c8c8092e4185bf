/-! the class: places but one -/
section CC
variable {μ : Mem} {k : Nat} {A : Cd} {Q : Mem → Prop}
theorem s1_addPlacesBut {p i : Nat} (h : crep μ k C0) (hp : crep μ p A) (hA : okC A) (hd : p + 4 ≤ k ∨ k + 4 ≤ p) (hi : i < cN A) (hq : ∀ μ', oC k μ μ' → crep μ' k (shP A i) → Q μ') : wp_X1_addPlacesBut k p i μ Q := by
  have h8 := hA.1
  have hok := okC_shP hA hi
  have hall : wdF (dropS (cS A) i) (cN A - 1) ≤ 256 := hok.2.2.2.1
  have hsz : ∀ q, q < cN A - 1 → 2 ≤ dropS (cS A) i q ∧ dropS (cS A) i q ≤ 4 := fun q h2 => hok.2.1 q h2
  have hwt : ∀ q, q < cN A - 1 → 1 ≤ dropS (cT A) i q ∧ dropS (cT A) i q ≤ 3 := fun q h2 => hok.2.2.1 q h2
  have hpre : ∀ n, n ≤ cN A - 1 → wdF (dropS (cS A) i) n ≤ 256 := fun n hn => Nat.le_trans (wdF_mono (N := cN A - 1) (fun q hq2 => by have := (hsz q hq2).1; omega) hn) hall
  have okP : ∀ n, n ≤ cN A - 1 → okC (n, dropS (cS A) i, dropS (cT A) i, noM) := fun n hn => ⟨by show n ≤ 8; omega, fun q (hq2 : q < n) => hsz q (by omega), fun q (hq2 : q < n) => hwt q (by omega), hpre n hn, fun w hw => (by cases hw), fun _ _ => rfl⟩
  refine LP5_rule (fun (v0 v1 : Nat) (v2 v3 : Int) (μ2 : Mem) => v0 = k ∧ v1 = p ∧ v2 = (i : Int) ∧ oC k μ μ2 ∧ ∃ n m : Nat, v3 = (n : Int) ∧ n ≤ cN A ∧ m = (if n ≤ i then n else n - 1) ∧ crep μ2 k (m, dropS (cS A) i, dropS (cT A) i, noM)) (fun _ _ _ v3 _ => ((cN A : Int) - v3).toNat) ?_ ⟨rfl, rfl, rfl, oC.rf, 0, 0, rfl, Nat.zero_le _, by rw [if_pos (Nat.zero_le _)], h.pl rfl (fun q hq2 => absurd hq2 (Nat.not_lt_zero q)) rfl⟩
  rintro X v0 v1 v2 v3 μ2 ⟨rfl, rfl, rfl, ho, n, m, rfl, hn, hm, hr⟩ hX
  have hp2 := hp.to ho (by omega)
  unfold wp_X1_addPlacesBut_2
  rw [hp2.2.1]
  refine ⟨fun c => ?_, fun c => ⟨fun c2 => ?_, fun c2 => ⟨by omega, ?_⟩⟩⟩
  · have e : m = cN A - 1 := by rw [hm, if_neg (by omega)]; omega
    subst e
    exact hq μ2 ho hr
  · refine ⟨inR_i (by omega) (by omega), hX _ _ _ _ _ ⟨rfl, rfl, rfl, ho, n + 1, m, rfl, by omega, ?_, hr⟩ (by omega)⟩
    rw [hm, if_pos (by omega), if_neg (by omega)]; omega
  · have hs : n < cN A := by omega
    rw [Int.toNat_natCast, (hp2.2.2.2.2.1 _ hs).1, (hp2.2.2.2.2.1 _ hs).2]
    have hmn : m ≤ cN A - 2 ∧ m + 1 ≤ cN A - 1 := by rw [hm]; split <;> omega
    have e1 : cS A n = dropS (cS A) i m ∧ cT A n = dropS (cT A) i m := by
      unfold dropS
      rw [hm]
      by_cases e : n ≤ i
      · rw [if_pos e, if_pos (by omega), if_pos (by omega)]; exact ⟨rfl, rfl⟩
      · rw [if_neg e, if_neg (by omega), if_neg (by omega), show n - 1 + 1 = n by omega]; exact ⟨rfl, rfl⟩
    rw [e1.1, e1.2]
    have hw1 := hpre (m + 1) (by omega)
    refine s1_addPlace hr (okP m (by omega)) (fun _ => rfl) (hsz m (by omega)) (hwt m (by omega)) (fun hno => ?_) (fun μ3 _ ho3 hr3 => ⟨inR_i (by omega) (by omega), hX _ _ _ _ _ ⟨rfl, rfl, rfl, ho.tr ho3, n + 1, m + 1, rfl, by omega, ?_, hr3.pl rfl (fun q (hq2 : q < m + 1) => ?_) rfl⟩ (by omega)⟩)
    · have hao : addO (m, dropS (cS A) i, dropS (cT A) i, noM) (dropS (cS A) i m) (dropS (cT A) i m) = if m = 8 ∨ 256 < wdF (dropS (cS A) i) (m + 1) then none else some (addP (m, dropS (cS A) i, dropS (cT A) i, noM) (dropS (cS A) i m) (dropS (cT A) i m)) := rfl
      rw [hao, if_neg (by omega)] at hno
      cases hno
    · rw [hm]
      by_cases e : n ≤ i
      · rw [if_pos e, if_pos (by omega)]
      · rw [if_neg e, if_neg (by omega)]; omega
    · show dropS (cS A) i q = (if q = m then dropS (cS A) i m else dropS (cS A) i q) ∧ dropS (cT A) i q = (if q = m then dropS (cT A) i m else dropS (cT A) i q)
      by_cases e : q = m
      · rw [if_pos e, if_pos e, e]; exact ⟨rfl, rfl⟩
      · rw [if_neg e, if_neg e]; exact ⟨rfl, rfl⟩
end CC

/-! the class: a code made, copied -/
theorem cpI_at {μ : Mem} {k0 s0 k1 d0 n j : Nat} (h : d0 ≤ j) (h2 : j < d0 + n) : (cpI μ k0 s0 k1 d0 n).1 k1 j = μ.1 k0 (s0 + (j - d0)) := if_pos ⟨rfl, h, h2⟩
theorem cpI_ne {μ : Mem} {k0 s0 k1 d0 n q : Nat} (h : q ≠ k1) : (cpI μ k0 s0 k1 d0 n).1 q = μ.1 q := funext fun b => if_neg (fun w => h w.1)
theorem cpL_at {μ : Mem} {k0 s0 k1 d0 n j : Nat} (h : d0 ≤ j) (h2 : j < d0 + n) : (cpL μ k0 s0 k1 d0 n).2 k1 j = μ.2 k0 (s0 + (j - d0)) := if_pos ⟨rfl, h, h2⟩
theorem cpL_ne {μ : Mem} {k0 s0 k1 d0 n q : Nat} (h : q ≠ k1) : (cpL μ k0 s0 k1 d0 n).2 q = μ.2 q := funext fun b => if_neg (fun w => h w.1)
section CC
variable {μ : Mem} {k : Nat} {C : Cd}
theorem s_fillL {q n : Nat} {v : Int64} {Q : Mem → Prop} (hn : n ≤ 1000) (hq : ∀ μ', μ'.1 = μ.1 → (∀ p, p ≠ q → μ'.2 p = μ.2 p) → (∀ j, j < n → μ'.2 q j = v) → Q μ') : wp_J7_fill_d0a16 q n v μ Q := by
  refine LP6_rule (fun (v0 nv0 : Nat) (v1 : Int64) (v3 v4 : Int) (μ2 : Mem) => v0 = q ∧ nv0 = n ∧ v1 = v ∧ v4 = (n : Int) ∧ μ2.1 = μ.1 ∧ (∀ p, p ≠ q → μ2.2 p = μ.2 p) ∧ ∃ i : Nat, v3 = (i : Int) ∧ i ≤ n ∧ ∀ j, j < i → μ2.2 q j = v) (fun _ _ _ v3 _ _ => ((n : Int) - v3).toNat) ?_ ⟨rfl, rfl, rfl, rfl, rfl, fun _ _ => rfl, 0, rfl, Nat.zero_le _, fun j hj => absurd hj (Nat.not_lt_zero j)⟩
  rintro X v0 nv0 v1 v3 v4 μ2 ⟨rfl, rfl, rfl, rfl, h1, h2, i, rfl, hi, hz⟩ hX
  refine ⟨fun q2 => hq μ2 h1 h2 (fun j hj => hz j (by omega)), fun q2 => ⟨by omega, fun μ3 e3 => ⟨inR_i (by omega) (by omega), hX _ _ _ _ _ _ ⟨rfl, rfl, rfl, rfl, by rw [e3]; exact h1, fun p hp => by rw [e3, sL_ne hp]; exact h2 p hp, i + 1, rfl, by omega, fun j hj => ?_⟩ (by omega)⟩⟩⟩
  rw [Int.toNat_natCast] at e3
  by_cases e : j = i
  · rw [e, e3, sL_s']
  · rw [e3, sL_nj e]; exact hz j (by omega)
theorem s1_dropAll {Q : Mem → Prop} (hq : ∀ μ' : Mem, (∀ q j, ¬ (q = k ∧ j = 3) → μ'.1 q j = μ.1 q j) → μ'.1 k 3 = 0 → (∀ p, p ≠ k + 3 → μ'.2 p = μ.2 p) → (∀ j, j < 4 → μ'.2 (k + 3) j = 0) → Q μ') : wp_X1_dropAll k μ Q := by
  intro μ1 e1
  refine s_fillL (by omega) (fun μ' h1 h2 h3 => hq μ' (fun q j hn => ?_) (by rw [h1, e1, sI_s]) (fun p hp => by rw [h2 p hp, e1]; rfl) h3)
  rw [h1, e1]
  exact if_neg hn
/-- all of the code but its words -/
def cspc (μ : Mem) (k : Nat) (C : Cd) (t n : Int) : Prop := μ.1 k 0 = t ∧ μ.1 k 1 = (cN C : Int) ∧ μ.1 k 2 = (cW C : Int) ∧ μ.1 k 3 = n ∧ ∀ i, i < cN C → μ.1 (k + 1) i = (cS C i : Int) ∧ μ.1 (k + 2) i = (cT C i : Int)
def spC (C : Cd) : Cd := (cN C, cS C, cT C, noM)
theorem ctF_noM (n : Nat) : ctF noM n = 0 := ctF_zero.mpr (fun _ _ => rfl)
theorem zero_bits {f : Nat → Int64} (h : ∀ j, j < 4 → f j = 0) : ∀ w, w < 256 → bt (f (w / 64)) (w % 64) = false := fun w hw => by rw [h _ (by omega), bt_0]
theorem s1_clear {Q : Mem → Prop} (hq : ∀ μ', oC k μ μ' → crep μ' k C0 → Q μ') : wp_X1_clear k μ Q := by
  intro μ1 e1 μ2 e2 μ3 e3
  refine s1_dropAll (fun μ' h1 h2 h3 h4 => hq μ' (fun q hq2 => ⟨funext fun j => ?_, ?_⟩) ⟨?_, ?_, ?_, ?_, fun i hi => absurd hi (Nat.not_lt_zero i), fun w hw => zero_bits h4 w hw⟩)
  · rw [h1 q j (by omega), e3, sI_ne (by omega), e2, sI_ne (by omega), e1, sI_ne (by omega)]
  · rw [h3 q (by omega), e3, e2, e1]; rfl
  · rw [h1 k 0 (by omega), e3, sI_nj (by omega), e2, sI_nj (by omega), e1, sI_s]; rfl
  · rw [h1 k 1 (by omega), e3, sI_nj (by omega), e2, sI_s]; rfl
  · rw [h1 k 2 (by omega), e3, sI_s]; rfl
  · rw [h2]; rfl
theorem s1_copySpace0 {p : Nat} {Q : Mem → Prop} (h : crep μ p C) (h8 : cN C ≤ 8) (hd : p + 4 ≤ k ∨ k + 4 ≤ p) (hq : ∀ μ', oC k μ μ' → cspc μ' k C 1 0 → (∀ j, j < 4 → μ'.2 (k + 3) j = 0) → Q μ') : wp_X1_copySpace k p μ Q := by
  intro μ1 e1 μ2 e2 μ3 e3 μ5 e5 μ7 e7
  have o2 : μ1.1 p 1 = (cN C : Int) := by rw [e1, sI_ne (by omega)]; exact h.2.1
  rw [o2] at e2
  have o3 : μ2.1 p 2 = (cW C : Int) := by rw [e2, sI_ne (by omega), e1, sI_ne (by omega)]; exact h.2.2.1
  rw [o3] at e3
  have o37 : oC k μ μ3 := by rw [e3, e2, e1]; exact ((oC.rf.I (by omega)).I (by omega)).I (by omega)
  have o5 : oC k μ μ5 := o37.tr (by rw [e5]; exact fun q hq2 => ⟨cpI_ne (by omega), rfl⟩)
  have o7 : oC k μ μ7 := o5.tr (by rw [e7]; exact fun q hq2 => ⟨cpI_ne (by omega), rfl⟩)
  have f7 : ∀ j, μ7.1 k j = μ3.1 k j := fun j => by rw [e7, cpI_ne (by omega), e5, cpI_ne (by omega)]
  refine s1_dropAll (fun μ' h1 h2 h3 h4 => hq μ' (o7.tr fun q hq2 => ⟨funext fun j => h1 q j (by omega), h3 q (by omega)⟩) ⟨?_, ?_, ?_, h2, fun i hi => ⟨?_, ?_⟩⟩ h4)
  · rw [h1 k 0 (by omega), f7, e3, sI_nj (by omega), e2, sI_nj (by omega), e1, sI_s]
  · rw [h1 k 1 (by omega), f7, e3, sI_nj (by omega), e2, sI_s]
  · rw [h1 k 2 (by omega), f7, e3, sI_s]
  · rw [h1 (k + 1) i (by omega), e7, cpI_ne (by omega), e5, cpI_at (Nat.zero_le _) (by omega), Nat.zero_add, Nat.sub_zero, (o37 (p + 1) (by omega)).1]
    exact (h.2.2.2.2.1 i hi).1
  · rw [h1 (k + 2) i (by omega), e7, cpI_at (Nat.zero_le _) (by omega), Nat.zero_add, Nat.sub_zero, (o5 (p + 2) (by omega)).1]
    exact (h.2.2.2.2.1 i hi).2
theorem s1_copySpace {p : Nat} {Q : Mem → Prop} (h : crep μ p C) (h8 : cN C ≤ 8) (hn : 0 < cN C) (hd : p + 4 ≤ k ∨ k + 4 ≤ p) (hq : ∀ μ', oC k μ μ' → crep μ' k (spC C) → Q μ') : wp_X1_copySpace k p μ Q :=
  s1_copySpace0 h h8 hd (fun μ' ho hs hb => hq μ' ho ⟨by rw [hs.1, show decide (0 < cN (spC C)) = true from decide_eq_true hn]; rfl, hs.2.1, hs.2.2.1, by rw [hs.2.2.2.1]; show 0 = ((ctF noM (cW (spC C)) : Nat) : Int); rw [ctF_noM]; rfl, hs.2.2.2.2, fun w hw => zero_bits hb w hw⟩)
theorem s1_copy {p : Nat} {Q : Mem → Prop} (h : crep μ p C) (h8 : cN C ≤ 8) (hd : p + 4 ≤ k ∨ k + 4 ≤ p) (hq : ∀ μ', oC k μ μ' → crep μ' k C → Q μ') : wp_X1_copy k p μ Q := by
  refine s1_copySpace0 h h8 hd (fun μ1 ho hs hb => ?_)
  have h1 := h.to ho (by omega)
  rw [h1.1]
  refine ⟨bI_01 _, fun μ3 e3 μ4 e4 μ6 e6 => ?_⟩
  have o3 : μ3.1 p 3 = ((ctF (cM C) (cW C) : Nat) : Int) := by rw [e3, sI_ne (by omega)]; exact h1.2.2.2.1
  rw [o3] at e4
  have o4 : oC k μ μ4 := by rw [e4, e3]; exact (ho.I (by omega)).I (by omega)
  have o6 : oC k μ μ6 := o4.tr (by rw [e6]; exact fun q hq2 => ⟨rfl, cpL_ne (by omega)⟩)
  have f : ∀ q j, ¬ (q = k ∧ (j = 0 ∨ j = 3)) → μ6.1 q j = μ1.1 q j := fun q j hn => by
    rw [e6, e4, e3]
    show (if q = k ∧ j = 3 then _ else if q = k ∧ j = 0 then _ else μ1.1 q j) = _
    rw [if_neg (by omega), if_neg (by omega)]
  refine hq μ6 o6 ⟨?_, by rw [f k 1 (by omega)]; exact hs.2.1, by rw [f k 2 (by omega)]; exact hs.2.2.1, ?_, fun i hi => ⟨by rw [f _ _ (by omega)]; exact (hs.2.2.2.2 i hi).1, by rw [f _ _ (by omega)]; exact (hs.2.2.2.2 i hi).2⟩, fun w hw => ?_⟩
  · rw [e6]
    show μ4.1 k 0 = _
    rw [e4, sI_nj (by omega), e3, sI_s]
  · rw [e6]
    show μ4.1 k 3 = _
    rw [e4, sI_s]
  · rw [e6, cpL_at (Nat.zero_le _) (by omega), Nat.zero_add, Nat.sub_zero, (o4 (p + 3) (by omega)).2]
    exact h.2.2.2.2.2 w hw
/-- the class's codes, as far as they are made: no word in them yet -/
theorem s1_addPlace {s t : Nat} {Q : Int → Mem → Prop} (h : crep μ k C) (hC : okC C) (hM : ∀ w, cM C w = false) (hs : 2 ≤ s ∧ s ≤ 4) (ht : 1 ≤ t ∧ t ≤ 3) (h0 : addO C s t = none → Q 0 μ) (h1 : ∀ μ', addO C s t = some (addP C s t) → oC k μ μ' → crep μ' k (addP C s t) → Q 1 μ') : wp_X1_addPlace k s t μ Q := by
  have h8 := hC.1
  have hw8 := hC.2.2.2.1
  have hmul : cW C * s ≤ 256 * 4 := Nat.mul_le_mul hw8 hs.2
  refine ⟨fun q => absurd q (by omega), fun _ => ⟨fun q => absurd q (by omega), fun _ => ⟨fun y => absurd y (by decide), fun _ => ?_⟩⟩⟩
  refine ⟨fun q => absurd q (by omega), fun _ => ⟨fun q => absurd q (by omega), fun _ => ⟨fun y => absurd y (by decide), fun _ => ?_⟩⟩⟩
  unfold wp_X1_hasRoomFor
  rw [h.2.1, h.2.2.1, ← Int.natCast_mul]
  have hao : addO C s t = if cN C = 8 ∨ 256 < cW C * s then none else some (addP C s t) := rfl
  refine ⟨fun q => ⟨fun y => absurd rfl y, fun _ => h0 (by rw [hao, if_pos (Or.inl (by omega))])⟩, fun q => ⟨inR_n (by omega), fun q2 => ⟨fun y => absurd rfl y, fun _ => h0 (by rw [hao, if_pos (Or.inr (by omega))])⟩, fun q2 => ⟨fun _ => fun μ10 e10 => ?_, fun y => absurd y (by decide)⟩⟩⟩
  rw [if_neg (by omega)] at hao
  have a1 : μ10.1 k 1 = (cN C : Int) := by rw [e10, sI_nj (by omega)]; exact h.2.1
  rw [a1, Int.toNat_natCast]
  refine ⟨by omega, fun μ12 e12 => ?_⟩
  have a2 : μ12.1 k 1 = (cN C : Int) := by rw [e12, sI_ne (by omega)]; exact a1
  rw [a2, Int.toNat_natCast]
  refine ⟨by omega, fun μ14 e14 => ?_⟩
  have a3 : μ14.1 k 1 = (cN C : Int) := by rw [e14, sI_ne (by omega)]; exact a2
  rw [a3]
  refine ⟨inR_i (by omega) (by omega), fun μ16 e16 => ?_⟩
  have a4 : μ16.1 k 2 = (cW C : Int) := by rw [e16, sI_nj (by omega), e14, sI_ne (by omega), e12, sI_ne (by omega), e10, sI_nj (by omega)]; exact h.2.2.1
  rw [a4, ← Int.natCast_mul]
  refine ⟨inR_n (by omega), fun μ18 e18 => h1 μ18 hao (by rw [e18, e16, e14, e12, e10]; exact ((((oC.rf.I (by omega)).I (by omega)).I (by omega)).I (by omega)).I (by omega)) ⟨?_, ?_, ?_, ?_, fun i hi => ⟨?_, ?_⟩, fun w hw => ?_⟩⟩
  · rw [e18, sI_nj (by omega), e16, sI_nj (by omega), e14, sI_ne (by omega), e12, sI_ne (by omega), e10, sI_s]
    rw [show decide (0 < cN (addP C s t)) = true from decide_eq_true (Nat.succ_pos _)]; rfl
  · rw [e18, sI_nj (by omega), e16, sI_s]; rfl
  · rw [e18, sI_s, cW_addP]
  · rw [e18, sI_nj (by omega), e16, sI_nj (by omega), e14, sI_ne (by omega), e12, sI_ne (by omega), e10, sI_nj (by omega), h.2.2.2.1]
    show _ = ((ctF (cM C) (cW (addP C s t)) : Nat) : Int)
    rw [ctF_zero.mpr (fun j _ => hM j), ctF_zero.mpr (fun j _ => hM j)]
  · have hi : i < cN C + 1 := hi
    rw [e18, sI_ne (by omega), e16, sI_ne (by omega), e14, sI_ne (by omega), e12]
    show _ = ((if i = cN C then s else cS C i : Nat) : Int)
    by_cases e : i = cN C
    · rw [if_pos e, e, sI_s]
    · rw [if_neg e, sI_nj e, e10, sI_ne (by omega)]; exact (h.2.2.2.2.1 i (by omega)).1
  · have hi : i < cN C + 1 := hi
    rw [e18, sI_ne (by omega), e16, sI_ne (by omega), e14]
    show _ = ((if i = cN C then t else cT C i : Nat) : Int)
    by_cases e : i = cN C
    · rw [if_pos e, e, sI_s]
    · rw [if_neg e, sI_nj e, e12, sI_ne (by omega), e10, sI_ne (by omega)]; exact (h.2.2.2.2.1 i (by omega)).2
  · rw [e18, e16, e14, e12, e10]
    exact h.2.2.2.2.2 w hw
theorem s1_addPlaces {p f : Nat} {D : Cd} {Q : Int → Mem → Prop} (h : crep μ k C) (hC : okC C) (hM : ∀ w, cM C w = false) (hp : crep μ p D) (hD : okC D) (hd : p + 4 ≤ k ∨ k + 4 ≤ p) (hf : f ≤ cN D)
    (h0 : layF D f (cN D - f) C = none → ∀ μ', oC k μ μ' → Q 0 μ') (h1 : ∀ N', layF D f (cN D - f) C = some N' → okC N' → (∀ w, cM N' w = false) → ∀ μ', oC k μ μ' → crep μ' k N' → Q 1 μ') : wp_X1_addPlaces k p f μ Q := by
  have h8 := hD.1
  refine LP4_rule (fun (v0 v1 : Nat) (v3 : Int) (μ2 : Mem) => v0 = k ∧ v1 = p ∧ oC k μ μ2 ∧ ∃ (m : Nat) (N1 : Cd), v3 = ((f + m : Nat) : Int) ∧ f + m ≤ cN D ∧ layF D f m C = some N1 ∧ okC N1 ∧ (∀ w, cM N1 w = false) ∧ crep μ2 k N1) (fun _ _ v3 _ => ((cN D : Int) - v3).toNat) ?_ ⟨rfl, rfl, oC.rf, 0, C, rfl, hf, rfl, hC, hM, h⟩
  rintro X v0 v1 v3 μ2 ⟨rfl, rfl, ho, m, N1, rfl, hm, hL, hN, hNM, hr⟩ hX
  have hp2 := hp.to ho (by omega)
  unfold wp_X1_addPlaces_2
  rw [hp2.2.1]
  refine ⟨fun q => ?_, fun q => ⟨by omega, ?_⟩⟩
  · have em : m = cN D - f := by omega
    rw [em] at hL
    exact h1 N1 hL hN hNM μ2 ho hr
  · have hi : f + m < cN D := by omega
    rw [Int.toNat_natCast, (hp2.2.2.2.2.1 _ hi).1, (hp2.2.2.2.2.1 _ hi).2]
    have hls := layF_s hL
    refine s1_addPlace hr hN hNM (hD.2.1 _ hi) (hD.2.2.1 _ hi) (fun hno => ⟨fun y => absurd rfl y, fun _ => h0 (layF_none (m := m + 1) (by rw [hls]; exact hno) (by omega)) μ2 ho⟩) (fun μ3 hys ho3 hr3 => ⟨fun _ => ⟨inR_i (by omega) (by omega), hX _ _ _ _ ⟨rfl, rfl, ho.tr ho3, m + 1, addP N1 _ _, by omega, by omega, by rw [hls]; exact hys, ?_, hNM, hr3⟩ (by omega)⟩, fun y => absurd y (by decide)⟩)
    have hao : addO N1 (cS D (f + m)) (cT D (f + m)) = if cN N1 = 8 ∨ 256 < cW N1 * cS D (f + m) then none else some (addP N1 (cS D (f + m)) (cT D (f + m))) := rfl
    rw [hao] at hys
    split at hys
    · cases hys
    · have := hN.1
      exact okC_addP hN hNM (by omega) (hD.2.1 _ hi) (hD.2.2.1 _ hi) (by omega)
end CC

/-! ===== the reference: codes put together ===== -/
theorem cW_addP (N : Cd) (s t : Nat) : cW (addP N s t) = cW N * s := by
  show wdF (fun i => if i = cN N then s else cS N i) (cN N) * (if cN N = cN N then s else cS N (cN N)) = wdF (cS N) (cN N) * s
  rw [if_pos rfl, wdF_cong (s' := cS N) (fun i hi => if_neg (by omega))]
theorem okC_addP {N : Cd} {s t : Nat} (h : okC N) (hm : ∀ w, cM N w = false) (h8 : cN N < 8) (hs : 2 ≤ s ∧ s ≤ 4) (ht : 1 ≤ t ∧ t ≤ 3) (hw : cW N * s ≤ 256) : okC (addP N s t) := by
  refine ⟨h8, fun i hi => ?_, fun i hi => ?_, by rw [cW_addP]; exact hw, fun w hw2 => ?_, fun h0 => absurd h0 (Nat.succ_ne_zero _)⟩
  · show 2 ≤ (if i = cN N then s else cS N i) ∧ (if i = cN N then s else cS N i) ≤ 4
    have hi : i < cN N + 1 := hi
    split
    · exact hs
    · exact h.2.1 i (by omega)
  · show 1 ≤ (if i = cN N then t else cT N i) ∧ (if i = cN N then t else cT N i) ≤ 3
    have hi : i < cN N + 1 := hi
    split
    · exact ht
    · exact h.2.2.1 i (by omega)
  · have hw2 : cM N w = true := hw2
    rw [hm w] at hw2
    cases hw2
def addO (N : Cd) (s t : Nat) : Option Cd := if cN N = 8 ∨ 256 < cW N * s then none else some (addP N s t)
/-- m places of D, from f on, behind those of N -/
def layF (D : Cd) (f : Nat) : Nat → Cd → Option Cd
  | 0, N => some N
  | m + 1, N => match layF D f m N with
    | none => none
    | some N' => addO N' (cS D (f + m)) (cT D (f + m))
theorem layF_none {D N : Cd} {f m : Nat} (h : layF D f m N = none) : ∀ {k : Nat}, m ≤ k → layF D f k N = none := by
  intro k hk
  induction k with
  | zero => rw [show m = 0 by omega] at h; exact h
  | succ k ih =>
    by_cases e : m = k + 1
    · rw [← e]; exact h
    · simp only [layF, ih (by omega)]
theorem layF_s {D N N' : Cd} {f m : Nat} (h : layF D f m N = some N') : layF D f (m + 1) N = addO N' (cS D (f + m)) (cT D (f + m)) := by simp only [layF, h]
theorem layF_W {D N : Cd} {f : Nat} : ∀ {m : Nat} {N' : Cd}, layF D f m N = some N' → cW N' = cW N * wdF (fun i => cS D (f + i)) m ∧ cN N' = cN N + m ∧ cM N' = cM N ∧ (∀ i, i < cN N → cS N' i = cS N i ∧ cT N' i = cT N i) ∧ ∀ i, i < m → cS N' (cN N + i) = cS D (f + i) ∧ cT N' (cN N + i) = cT D (f + i)
  | 0, N', h => by
    cases h
    exact ⟨(Nat.mul_one _).symm, rfl, rfl, fun _ _ => ⟨rfl, rfl⟩, fun i hi => absurd hi (Nat.not_lt_zero i)⟩
  | m + 1, N', h => by
    cases hm : layF D f m N with
    | none => rw [layF_none hm (Nat.le_succ m)] at h; cases h
    | some N1 =>
      rw [layF_s hm] at h
      obtain ⟨h1, h2, h3, h4, h5⟩ := layF_W hm
      unfold addO at h
      split at h
      · cases h
      · cases h
        refine ⟨by rw [cW_addP, h1, Nat.mul_assoc]; rfl, by show cN N1 + 1 = _; omega, h3, fun i hi => ?_, fun i hi => ?_⟩
        · show (if i = cN N1 then _ else cS N1 i) = _ ∧ (if i = cN N1 then _ else cT N1 i) = _
          rw [if_neg (by omega), if_neg (by omega)]
          exact h4 i hi
        · show (if cN N + i = cN N1 then _ else cS N1 (cN N + i)) = _ ∧ (if cN N + i = cN N1 then _ else cT N1 (cN N + i)) = _
          by_cases e : i = m
          · rw [if_pos (by omega), if_pos (by omega), e]
            exact ⟨rfl, rfl⟩
          · rw [if_neg (by omega), if_neg (by omega)]
            exact h5 i (by omega)
theorem layF_some {C : Cd} (hC : okC C) : ∀ {m : Nat}, m ≤ cN C → ∃ N, layF C 0 m C0 = some N
  | 0, _ => ⟨C0, rfl⟩
  | m + 1, h => by
    obtain ⟨N, hN⟩ := layF_some hC (m := m) (by omega)
    obtain ⟨h1, h2, -⟩ := layF_W hN
    have h8 := hC.1
    have hw := hC.wd (i := m + 1) h
    have e1 : cW C0 = 1 := rfl
    have e2 : cN C0 = 0 := rfl
    have e3 : wdF (fun i => cS C (0 + i)) m = wdF (cS C) m := wdF_cong fun i _ => by rw [Nat.zero_add]
    rw [layF_s hN]
    refine ⟨_, if_neg ?_⟩
    rw [h1, h2, e1, e2, e3, Nat.one_mul, Nat.zero_add]
    have : wdF (cS C) m * cS C m = wdF (cS C) (m + 1) := rfl
    omega
section RU
variable {μ : Mem} {cs : Nat → Cd} {hs : List (Nat → Cd)} {Q : Int → Mem → Prop} {c w v i k r a d p to one other : Int}
theorem s_laysPlaces {d f : Nat} {D N : Cd} (hd : d < 8) (hD : okC D) (hf : f ≤ cN D) (hr : mrow μ d D) (hN : mrow μ 12 N) (hNo : okC N) (hnm : ∀ w, cM N w = false)
    (h0 : layF D f (cN D - f) N = none → ∀ μ', orow μ μ' 12 → Q 0 μ') (h1 : ∀ N', layF D f (cN D - f) N = some N' → okC N' → (∀ w, cM N' w = false) → ∀ μ', orow μ μ' 12 → mrow μ' 12 N' → Q 1 μ') : wp_X8_laysPlaces d f μ Q := by
  have h8 := hD.1
  refine LP3_rule (fun (v1 v3 : Int) (μ2 : Mem) => v1 = (d : Int) ∧ orow μ μ2 12 ∧ ∃ (m : Nat) (N1 : Cd), v3 = ((f + m : Nat) : Int) ∧ f + m ≤ cN D ∧ layF D f m N = some N1 ∧ okC N1 ∧ (∀ w, cM N1 w = false) ∧ mrow μ2 12 N1) (fun _ v3 _ => ((cN D : Int) - v3).toNat) ?_ ⟨rfl, orow.rf, 0, N, rfl, hf, rfl, hNo, hnm, hN⟩
  rintro X v1 v3 μ2 ⟨rfl, ho, m, N1, rfl, hm, hl, hN1, hm1, hr1⟩ hX
  have hrd := ho.row (by omega) h8 hr
  have hN8 := hN1.1
  have hNw := hN1.2.2.2.1
  refine s_places hrd (by omega) ⟨fun q => ?_, fun q => ?_⟩
  · rw [show m = cN D - f by omega] at hl
    exact h1 N1 hl hN1 hm1 μ2 ho hr1
  · have hsz := hD.2.1 (f + m) (by omega)
    have htt := hD.2.2.1 (f + m) (by omega)
    have hs := layF_s hl
    refine s_places (c := 12) hr1 (by omega) ⟨fun q2 => ?_, fun q2 => ?_⟩
    · rw [show addO N1 _ _ = none from if_pos (Or.inl (by omega))] at hs
      exact h0 (layF_none hs (by omega)) μ2 ho
    · refine s_words (c := 12) hr1 (by omega) hN1 (s_sizeOf hrd (by omega) hD (by omega) ?_)
      have e : ((cW N1 : Nat) : Int) * (cS D (f + m) : Int) = ((cW N1 * cS D (f + m) : Nat) : Int) := (Int.natCast_mul _ _).symm
      have hb : cW N1 * cS D (f + m) ≤ 256 * 4 := Nat.mul_le_mul hNw hsz.2
      rw [e]
      refine ⟨inR_n (by omega), fun q3 => ?_, fun q3 => ?_⟩
      · rw [show addO N1 _ _ = some (addP N1 (cS D (f + m)) (cT D (f + m))) from if_neg (by omega)] at hs
        refine s_sizeOf hrd (by omega) hD (by omega) (s_weightOf hrd (by omega) hD (by omega) (s_adds (c := 12) (by omega) hr1 (by omega) (fun μ4 ho4 hr4 => ⟨inR_i (by omega) (by omega), hX _ _ _ ⟨rfl, ho.tr ho4, m + 1, _, by omega, by omega, hs, okC_addP hN1 hm1 (by omega) hsz htt (by omega), hm1, hr4⟩ (by omega)⟩)))
      · rw [show addO N1 _ _ = none from if_pos (Or.inr (by omega))] at hs
        exact h0 (layF_none hs (by omega)) μ2 ho
/-- marks set one behind another -/
def mkC (N : Cd) (b g : Nat → Bool) (i : Nat) : Cd := (cN N, cS N, cT N, fun x => if x < i then g x else b x)
theorem mkC_0 (N : Cd) (g : Nat → Bool) : mkC N (cM N) g 0 = N := by
  unfold mkC
  simp only [Nat.not_lt_zero, if_false]
theorem mkC_s (N : Cd) (b g : Nat → Bool) (i : Nat) : setM (mkC N b g i) i (g i) = mkC N b g (i + 1) := by
  have h : (fun v => if v = i then g i else (if v < i then g v else b v)) = (fun x => if x < i + 1 then g x else b x) := by
    funext x
    by_cases e : x = i
    · subst e; simp
    · by_cases h : x < i
      · rw [if_neg e, if_pos h, if_pos (by omega)]
      · rw [if_neg e, if_neg h, if_neg (by omega)]
  show (cN N, cS N, cT N, (fun v => if v = i then g i else (if v < i then g v else b v))) = (cN N, cS N, cT N, (fun x => if x < i + 1 then g x else b x))
  rw [h]
theorem mkC_s_old (b g : Nat → Bool) (i x : Nat) : (if x = i then g i else (if x < i then g x else b x)) = (if x < i + 1 then g x else b x) := by
  by_cases e : x = i
  · subst e; simp
  · by_cases h : x < i
    · rw [if_neg e, if_pos h, if_pos (by omega)]
    · rw [if_neg e, if_neg h, if_neg (by omega)]
theorem okC_mkC {N : Cd} {b g : Nat → Bool} {i : Nat} (h : okC N) (hn : 0 < cN N) (hi : i ≤ cW N) (hb : ∀ w, b w = true → w < cW N) : okC (mkC N b g i) := ⟨h.1, h.2.1, h.2.2.1, h.2.2.2.1, fun w hw => by
    have hw : (if w < i then g w else b w) = true := hw
    show w < cW N
    split at hw
    · omega
    · exact hb w hw, fun h0 => absurd (show cN N = 0 from h0) (by omega)⟩
theorem div_add_lt {a b c d : Nat} (h : a < c) (hb : b < d) : a * d + b < c * d := by
  have : (a + 1) * d ≤ c * d := Nat.mul_le_mul_right _ h
  rw [Nat.add_mul, Nat.one_mul] at this
  omega
theorem mul_div_mod {a b d : Nat} (hb : b < d) : (a * d + b) / d = a ∧ (a * d + b) % d = b := by
  refine ⟨?_, ?_⟩
  · rw [Nat.mul_comm, Nat.mul_add_div (by omega), Nat.div_eq_of_lt hb, Nat.add_zero]
  · rw [Nat.mul_comm, Nat.mul_add_mod, Nat.mod_eq_of_lt hb]
def noM : Nat → Bool := fun _ => false
/-! sum -/
def sumC (N A B : Cd) : Cd := mkC N noM (fun x => cM A (x / cW B) && cM B (x % cW B)) (cW A * cW B)
abbrev AR : Type := (Int × Int) × (Nat → Cd) × List (Nat → Cd)
def a_no (cs : Nat → Cd) (hs : List (Nat → Cd)) (t : Int) : AR := ((-1, t), cs, hs)
def a_yes (cs : Nat → Cd) (hs : List (Nat → Cd)) (to : Int) (C : Cd) : AR := (((ctF (cM C) (cW C) : Nat), 0), updC cs to.toNat C, push10 cs hs)
def a_sum (cs : Nat → Cd) (hs : List (Nat → Cd)) (to one other : Int) : AR := if (0 ≤ to ∧ to < 8) ∧ isK cs one ∧ isK cs other then
    (match layF (cs one.toNat) 0 (cN (cs one.toNat)) C0 with
      | none => a_no cs hs 3
      | some N1 => match layF (cs other.toNat) 0 (cN (cs other.toNat)) N1 with
        | none => a_no cs hs 3
        | some N2 => a_yes cs hs to (sumC N2 (cs one.toNat) (cs other.toNat)))
  else a_no cs hs 1
theorem s8_sum (hR : mrs μ cs) (hH : mhs μ hs) (HQ : QB Q μ (a_sum cs hs to one other)) : wp_X8_sum to one other μ Q := by
  intro μ1 e1
  have hm := ms_0 hR hH e1
  refine c_isTo (fun n => A0 (a_ref (HQ.at (if_neg (fun q => n q.1))) hm rfl)) (fun yt => A1 ?_)
  refine c_isK hm.2.1 (fun n => A0 (a_ref (HQ.at (if_neg (fun q => n q.2.1))) hm rfl)) (fun y1 => A1 ?_)
  refine c_isK hm.2.1 (fun n => B0 (a_ref (HQ.at (if_neg (fun q => n q.2.2))) hm rfl)) (fun y2 => B1 ?_)
  have hq : a_sum cs hs to one other = _ := if_pos ⟨yt, y1, y2⟩
  obtain ⟨t, rfl⟩ := Int.eq_ofNat_of_zero_le yt.1
  obtain ⟨n, rfl, hn, hp⟩ := y1.nat
  obtain ⟨m, rfl, hm8, hp2⟩ := y2.nat
  simp only [Int.toNat_natCast] at hq
  have hA := (hR n hn).2
  have hB := (hR m hm8).2
  refine s_clears (c := 12) (by omega) (fun μ2 ho2 hr2 => ?_)
  have hm2 := hm.w ho2 (by omega)
  refine s_laysPlaces (f := 0) hn hA (Nat.zero_le _) (hm2.2.1 n hn).1 hr2 okC_0 (fun _ => rfl) (fun h0 μ3 ho3 => A0 ?_) (fun N1 hl1 hN1 hm1 μ3 ho3 hr3 => A1 ?_)
  · rw [show layF (cs n) 0 (cN (cs n)) C0 = none from h0] at hq
    exact a_ref (HQ.at hq) (hm2.w ho3 (by omega)) rfl
  have hl1 : layF (cs n) 0 (cN (cs n)) C0 = some N1 := hl1
  rw [hl1] at hq
  have hm3 := hm2.w ho3 (by omega)
  refine s_laysPlaces (f := 0) hm8 hB (Nat.zero_le _) (hm3.2.1 m hm8).1 hr3 hN1 hm1 (fun h0 μ4 ho4 => B0 ?_) (fun N2 hl2 hN2 hm2' μ4 ho4 hr4 => B1 ?_)
  · have hq : a_sum cs hs (t : Int) (n : Int) (m : Int) = (match layF (cs m) 0 (cN (cs m)) N1 with
        | none => a_no cs hs 3
        | some N2 => a_yes cs hs (t : Int) (sumC N2 (cs n) (cs m))) := hq
    rw [show layF (cs m) 0 (cN (cs m)) N1 = none from h0] at hq
    exact a_ref (HQ.at hq) (hm3.w ho4 (by omega)) rfl
  have hl2 : layF (cs m) 0 (cN (cs m)) N1 = some N2 := hl2
  have hq : a_sum cs hs (t : Int) (n : Int) (m : Int) = (match layF (cs m) 0 (cN (cs m)) N1 with
        | none => a_no cs hs 3
        | some N2 => a_yes cs hs (t : Int) (sumC N2 (cs n) (cs m))) := hq
  rw [hl2] at hq
  have hm4 := hm3.w ho4 (by omega)
  have hWn : cW N2 = cW (cs n) * cW (cs m) := by
    rw [(layF_W hl2).1, (layF_W hl1).1]
    have e1 : wdF (fun i => cS (cs n) (0 + i)) (cN (cs n)) = cW (cs n) := wdF_cong fun i _ => by rw [Nat.zero_add]
    have e2 : wdF (fun i => cS (cs m) (0 + i)) (cN (cs m)) = cW (cs m) := wdF_cong fun i _ => by rw [Nat.zero_add]
    rw [e1, e2, show cW C0 = 1 from rfl, Nat.one_mul]
  have hNn : 0 < cN N2 := by have := (layF_W hl2).2.1; omega
  have hNw := hN2.2.2.2.1
  have hBw := hB.2.2.2.1
  have hAw := hA.2.2.2.1
  generalize hge : (fun x => cM (cs n) (x / cW (cs m)) && cM (cs m) (x % cW (cs m))) = g
  have hg : ∀ x, g x = (cM (cs n) (x / cW (cs m)) && cM (cs m) (x % cW (cs m))) := fun x => by rw [← hge]
  have hsum : sumC N2 (cs n) (cs m) = mkC N2 noM g (cW (cs n) * cW (cs m)) := by rw [← hge]; rfl
  have hr4' : mrow μ4 12 (mkC N2 noM g 0) := by
    have : mkC N2 noM g 0 = N2 := by
      rw [show noM = cM N2 from (funext fun w => (hm2' w).symm)]
      exact mkC_0 N2 g
    rw [this]; exact hr4
  refine s_words (hm4.2.1 m hm8).1 (by omega) hB ?_
  refine LP6_rule (fun (v1 v2 v3 v4 v5 : Int) (μ5 : Mem) => v1 = (t : Int) ∧ v2 = (n : Int) ∧ v3 = (m : Int) ∧ v4 = (cW (cs m) : Int) ∧ ∃ w : Nat, v5 = (w : Int) ∧ w ≤ cW (cs n) ∧ orow μ4 μ5 12 ∧ mrow μ5 12 (mkC N2 noM g (w * cW (cs m)))) (fun _ _ _ _ v5 _ => ((cW (cs n) : Int) - v5).toNat) ?_ ⟨rfl, rfl, rfl, rfl, 0, rfl, Nat.zero_le _, orow.rf, by rw [Nat.zero_mul]; exact hr4'⟩
  rintro X v1 v2 v3 v4 v5 μ5 ⟨rfl, rfl, rfl, rfl, w, rfl, hw, ho5, hr5⟩ hX
  have hm5 := hm4.w ho5 (by omega)
  refine s_words (hm5.2.1 n hn).1 (by omega) hA ⟨fun q => ?_, fun q => ?_⟩
  · have e : w = cW (cs n) := by omega
    subst e
    have hC' : okC (sumC N2 (cs n) (cs m)) := okC_mkC hN2 hNn (by omega) (fun w hw => by cases hw)
    rw [← hsum] at hr5
    exact s_becomes (by omega) hm5 hr5 hC' (fun μ6 hm6 => a_good (HQ.at hq) hm6 rfl)
  · refine LP7_rule (fun (v1 v2 v3 v4 v5 v6 : Int) (μ6 : Mem) => v1 = (t : Int) ∧ v2 = (n : Int) ∧ v3 = (m : Int) ∧ v4 = (cW (cs m) : Int) ∧ v5 = (w : Int) ∧ ∃ v : Nat, v6 = (v : Int) ∧ v ≤ cW (cs m) ∧ orow μ4 μ6 12 ∧ mrow μ6 12 (mkC N2 noM g (w * cW (cs m) + v))) (fun _ _ _ _ _ v6 _ => ((cW (cs m) : Int) - v6).toNat) ?_ ⟨rfl, rfl, rfl, rfl, rfl, 0, rfl, Nat.zero_le _, ho5, hr5⟩
    rintro X7 v1 v2 v3 v4 v5 v6 μ6 ⟨rfl, rfl, rfl, rfl, rfl, v, rfl, hv, ho6, hr6⟩ hX7
    have hm6 := hm4.w ho6 (by omega)
    refine ⟨fun q2 => ?_, fun q2 => ?_⟩
    · have e : v = cW (cs m) := by omega
      subst e
      refine ⟨inR_i (by omega) (by omega), hX _ _ _ _ _ _ ⟨rfl, rfl, rfl, rfl, w + 1, rfl, by omega, ho6, ?_⟩ (by omega)⟩
      rw [Nat.add_mul, Nat.one_mul]
      exact hr6
    · have hlt := div_add_lt (show w < cW (cs n) by omega) (show v < cW (cs m) by omega)
      obtain ⟨ed, em⟩ := mul_div_mod (a := w) (show v < cW (cs m) by omega)
      have ec : (w : Int) * (cW (cs m) : Int) + (v : Int) = ((w * cW (cs m) + v : Nat) : Int) := by rw [Int.natCast_add, Int.natCast_mul]
      have hgx : g (w * cW (cs m) + v) = (cM (cs n) w && cM (cs m) v) := by rw [hg, ed, em]
      have fin : ∀ (b : Bool) (p2 : Int), p2 = bI b → b = g (w * cW (cs m) + v) → wp_X8_marks 12 ((w * cW (cs m) + v : Nat) : Int) p2 μ6 (fun μ7 => inR ((v : Int) + 1) ∧ X7 (t : Int) (n : Int) (m : Int) (cW (cs m) : Int) (w : Int) ((v : Int) + 1) μ7) := by
        intro b p2 hb1 hb2
        refine s_marks (c := 12) (by omega) hr6 (by omega) hN2.1 hb1 (fun μ7 ho7 hr7 => ⟨inR_i (by omega) (by omega), hX7 _ _ _ _ _ _ _ ⟨rfl, rfl, rfl, rfl, rfl, v + 1, rfl, by omega, ho6.tr ho7, ?_⟩ (by omega)⟩)
        rw [hb2, mkC_s] at hr7
        exact hr7
      rw [ec]
      refine s_isIn (hm6.2.1 n hn).1 (by omega) (by omega) ⟨fun q3 => ⟨inR_n (by omega), ?_⟩, fun q3 => s_isIn (hm6.2.1 m hm8).1 (by omega) (by omega) ⟨fun q4 => ⟨inR_n (by omega), ?_⟩, fun q4 => ⟨inR_n (by omega), ?_⟩⟩⟩
      · exact fin false 0 rfl (by rw [hgx, bI_0.mp q3]; rfl)
      · exact fin false 0 rfl (by rw [hgx, bI_0.mp q4, Bool.and_false])
      · exact fin true 1 rfl (by rw [hgx, bI_n0.mp q3, bI_n0.mp q4]; rfl)
end RU

/-! ===== the reference: join, longer, mix, holes ===== -/
theorem wdF_shift (s : Nat → Nat) : ∀ n, wdF s (n + 1) = s 0 * wdF (fun i => s (1 + i)) n
  | 0 => by
    show 1 * s 0 = s 0 * 1
    omega
  | n + 1 => by
    show wdF s (n + 1) * s (n + 1) = s 0 * (wdF (fun i => s (1 + i)) n * s (1 + n))
    rw [wdF_shift s n, Nat.mul_assoc, Nat.add_comm 1 n]
def joinC (N A B : Cd) : Cd := mkC N noM (fun x => cM A (x / (cW B / cS B 0)) && cM B ((x / (cW B / cS B 0) % cS B 0) * (cW B / cS B 0) + x % (cW B / cS B 0))) (cW A * (cW B / cS B 0))
def a_join (cs : Nat → Cd) (hs : List (Nat → Cd)) (to one other : Int) : AR := if (0 ≤ to ∧ to < 8) ∧ isK cs one ∧ isK cs other then
    (if cS (cs one.toNat) (cN (cs one.toNat) - 1) = cS (cs other.toNat) 0 ∧ cT (cs one.toNat) (cN (cs one.toNat) - 1) = cT (cs other.toNat) 0 then
      (match layF (cs one.toNat) 0 (cN (cs one.toNat)) C0 with
        | none => a_no cs hs 3
        | some N1 => match layF (cs other.toNat) 1 (cN (cs other.toNat) - 1) N1 with
          | none => a_no cs hs 3
          | some N2 => a_yes cs hs to (joinC N2 (cs one.toNat) (cs other.toNat)))
      else a_no cs hs 5)
  else a_no cs hs 1
def longC (N A : Cd) (s : Nat) : Cd := mkC N noM (fun x => cM A (x / s)) (cW A * s)
def a_longer (cs : Nat → Cd) (hs : List (Nat → Cd)) (to c size weight : Int) : AR := if (0 ≤ to ∧ to < 8) ∧ isK cs c then
    (if (2 ≤ size ∧ size ≤ 4) ∧ (1 ≤ weight ∧ weight ≤ 3) then
      (match layF (cs c.toNat) 0 (cN (cs c.toNat)) C0 with
        | none => a_no cs hs 3
        | some N1 => match addO N1 size.toNat weight.toNat with
          | none => a_no cs hs 3
          | some N2 => a_yes cs hs to (longC N2 (cs c.toNat) size.toNat))
      else a_no cs hs 2)
  else a_no cs hs 1
def mixB (a : Int) (x y : Bool) : Bool := if a = 0 then x || y else if a = 1 then x && y else x && !y
def mixC (A B : Cd) (a : Int) : Cd := mkC A (cM A) (fun x => mixB a (cM A x) (cM B x)) (cW A)
def a_mix (cs : Nat → Cd) (hs : List (Nat → Cd)) (to one other a : Int) : AR := if (0 ≤ to ∧ to < 8) ∧ isK cs one ∧ isK cs other ∧ 0 ≤ a ∧ a ≤ 2 then
    (if spB (cs one.toNat) (cs other.toNat) then a_yes cs hs to (mixC (cs one.toNat) (cs other.toNat) a) else a_no cs hs 5)
  else a_no cs hs 1
def holC (C : Cd) (r : Nat) : Cd := mkC C (cM C) (fun x => decide (tmF C r x = 0)) (cW C)
def a_holes (cs : Nat → Cd) (hs : List (Nat → Cd)) (to c r : Int) : AR := if (0 ≤ to ∧ to < 8) ∧ isK cs c then (if isRr r then a_yes cs hs to (holC (cs c.toNat) r.toNat) else a_no cs hs 2) else a_no cs hs 1
section RV
variable {μ : Mem} {cs : Nat → Cd} {hs : List (Nat → Cd)} {Q : Int → Mem → Prop} {c w v i k r a d p to one other size weight : Int}
theorem s8_join (hR : mrs μ cs) (hH : mhs μ hs) (HQ : QB Q μ (a_join cs hs to one other)) : wp_X8_join to one other μ Q := by
  intro μ1 e1
  have hm := ms_0 hR hH e1
  refine c_isTo (fun n => A0 (a_ref (HQ.at (if_neg (fun q => n q.1))) hm rfl)) (fun yt => A1 ?_)
  refine c_isK hm.2.1 (fun n => A0 (a_ref (HQ.at (if_neg (fun q => n q.2.1))) hm rfl)) (fun y1 => A1 ?_)
  refine c_isK hm.2.1 (fun n => B0 (a_ref (HQ.at (if_neg (fun q => n q.2.2))) hm rfl)) (fun y2 => B1 ?_)
  have hq : a_join cs hs to one other = _ := if_pos ⟨yt, y1, y2⟩
  obtain ⟨t, rfl⟩ := Int.eq_ofNat_of_zero_le yt.1
  obtain ⟨n, rfl, hn, hp⟩ := y1.nat
  obtain ⟨m, rfl, hm8, hp2⟩ := y2.nat
  simp only [Int.toNat_natCast] at hq
  have hA := (hR n hn).2
  have hB := (hR m hm8).2
  have hA8 := hA.1
  have hB8 := hB.1
  refine s_places (hm.2.1 n hn).1 (by omega) ⟨inR_i (by omega) (by omega), fun x17 e17 => ?_⟩
  have e17 : x17 = ((cN (cs n) - 1 : Nat) : Int) := by omega
  subst e17
  generalize hla : cN (cs n) - 1 = la at hq
  refine s_sizeOf (hm.2.1 n hn).1 (by omega) hA (by omega) (s_sizeOf (i := 0) (hm.2.1 m hm8).1 (by omega) hB (by omega) ⟨fun q => a_ref (HQ.at (hq.trans (if_neg (fun y => q (by rw [y.1]))))) hm rfl, fun q => ?_⟩)
  refine s_weightOf (hm.2.1 n hn).1 (by omega) hA (by omega) (s_weightOf (i := 0) (hm.2.1 m hm8).1 (by omega) hB (by omega) ⟨fun qw => ?_, fun qw => a_ref (HQ.at (hq.trans (if_neg (fun y => qw (by rw [y.2]))))) hm rfl⟩)
  have hss : cS (cs n) la = cS (cs m) 0 := by omega
  rw [if_pos ⟨hss, by omega⟩] at hq
  refine s_clears (c := 12) (by omega) (fun μ2 ho2 hr2 => ?_)
  have hm2 := hm.w ho2 (by omega)
  refine s_laysPlaces (f := 0) hn hA (Nat.zero_le _) (hm2.2.1 n hn).1 hr2 okC_0 (fun _ => rfl) (fun h0 μ3 ho3 => A0 ?_) (fun N1 hl1 hN1 hm1 μ3 ho3 hr3 => A1 ?_)
  · rw [show layF (cs n) 0 (cN (cs n)) C0 = none from h0] at hq
    exact a_ref (HQ.at hq) (hm2.w ho3 (by omega)) rfl
  have hl1 : layF (cs n) 0 (cN (cs n)) C0 = some N1 := hl1
  rw [hl1] at hq
  have hq : a_join cs hs (t : Int) (n : Int) (m : Int) = (match layF (cs m) 1 (cN (cs m) - 1) N1 with
        | none => a_no cs hs 3
        | some N2 => a_yes cs hs (t : Int) (joinC N2 (cs n) (cs m))) := hq
  have hm3 := hm2.w ho3 (by omega)
  refine s_laysPlaces (f := 1) hm8 hB (by omega) (hm3.2.1 m hm8).1 hr3 hN1 hm1 (fun h0 μ4 ho4 => B0 ?_) (fun N2 hl2 hN2 hm2' μ4 ho4 hr4 => B1 ?_)
  · rw [h0] at hq
    exact a_ref (HQ.at hq) (hm3.w ho4 (by omega)) rfl
  rw [hl2] at hq
  have hm4 := hm3.w ho4 (by omega)
  have hsz0 := hB.2.1 0 hp2
  generalize hwe : wdF (fun i => cS (cs m) (1 + i)) (cN (cs m) - 1) = wide
  have hW2 : cW (cs m) = cS (cs m) 0 * wide := by
    have := wdF_shift (cS (cs m)) (cN (cs m) - 1)
    rw [show cN (cs m) - 1 + 1 = cN (cs m) by omega, hwe] at this
    exact this
  have hdiv : cW (cs m) / cS (cs m) 0 = wide := by rw [hW2, Nat.mul_comm, Nat.mul_div_cancel _ (by omega)]
  have hWn : cW N2 = cW (cs n) * wide := by
    rw [(layF_W hl2).1, (layF_W hl1).1, hwe]
    have e1 : wdF (fun i => cS (cs n) (0 + i)) (cN (cs n)) = cW (cs n) := wdF_cong fun i _ => by rw [Nat.zero_add]
    rw [e1, show cW C0 = 1 from rfl, Nat.one_mul]
  have hNn : 0 < cN N2 := by have := (layF_W hl2).2.1; have := (layF_W hl1).2.1; omega
  have hNw := hN2.2.2.2.1
  have hBw := hB.2.2.2.1
  have hAw := hA.2.2.2.1
  generalize hse : cS (cs m) 0 = s at *
  have hwle : wide ≤ 256 := by
    have : 1 * wide ≤ s * wide := Nat.mul_le_mul_right _ (by omega)
    omega
  generalize hge : (fun x => cM (cs n) (x / wide) && cM (cs m) ((x / wide % s) * wide + x % wide)) = g
  have hg : ∀ x, g x = (cM (cs n) (x / wide) && cM (cs m) ((x / wide % s) * wide + x % wide)) := fun x => by rw [← hge]
  have hjoin : joinC N2 (cs n) (cs m) = mkC N2 noM g (cW (cs n) * wide) := by rw [← hge]; unfold joinC; rw [hse, hdiv]
  have hr4' : mrow μ4 12 (mkC N2 noM g 0) := by
    have : mkC N2 noM g 0 = N2 := by
      rw [show noM = cM N2 from (funext fun w => (hm2' w).symm)]
      exact mkC_0 N2 g
    rw [this]; exact hr4
  refine s_sizeOf (hm4.2.1 n hn).1 (by omega) hA (by omega) ?_
  rw [hss]
  refine s_words (hm4.2.1 m hm8).1 (by omega) hB ⟨⟨by omega, by omega⟩, fun x45 e45 => ?_⟩
  have e45 : x45 = (wide : Int) := by rw [e45, ← Int.natCast_ediv, hdiv]
  subst e45
  refine LP7_rule (fun (v1 v2 v3 v5 v6 v7 : Int) (μ5 : Mem) => v1 = (t : Int) ∧ v2 = (n : Int) ∧ v3 = (m : Int) ∧ v5 = (s : Int) ∧ v6 = (wide : Int) ∧ ∃ w : Nat, v7 = (w : Int) ∧ w ≤ cW (cs n) ∧ orow μ4 μ5 12 ∧ mrow μ5 12 (mkC N2 noM g (w * wide))) (fun _ _ _ _ _ v7 _ => ((cW (cs n) : Int) - v7).toNat) ?_ ⟨rfl, rfl, rfl, rfl, rfl, 0, rfl, Nat.zero_le _, orow.rf, by rw [Nat.zero_mul]; exact hr4'⟩
  rintro X v1 v2 v3 v5 v6 v7 μ5 ⟨rfl, rfl, rfl, rfl, rfl, w, rfl, hw, ho5, hr5⟩ hX
  have hm5 := hm4.w ho5 (by omega)
  refine s_words (hm5.2.1 n hn).1 (by omega) hA ⟨fun q => ?_, fun q => ?_⟩
  · have e : w = cW (cs n) := by omega
    subst e
    have hC' : okC (joinC N2 (cs n) (cs m)) := by rw [hjoin]; exact okC_mkC hN2 hNn (by omega) (fun w hw => by cases hw)
    rw [← hjoin] at hr5
    exact s_becomes (by omega) hm5 hr5 hC' (fun μ6 hm6 => a_good (HQ.at hq) hm6 rfl)
  · refine LP8_rule (fun (v1 v2 v3 v5 v6 v7 v8 : Int) (μ6 : Mem) => v1 = (t : Int) ∧ v2 = (n : Int) ∧ v3 = (m : Int) ∧ v5 = (s : Int) ∧ v6 = (wide : Int) ∧ v7 = (w : Int) ∧ ∃ v : Nat, v8 = (v : Int) ∧ v ≤ wide ∧ orow μ4 μ6 12 ∧ mrow μ6 12 (mkC N2 noM g (w * wide + v))) (fun _ _ _ _ _ _ v8 _ => ((wide : Int) - v8).toNat) ?_ ⟨rfl, rfl, rfl, rfl, rfl, rfl, 0, rfl, Nat.zero_le _, ho5, hr5⟩
    rintro X8 v1 v2 v3 v5 v6 v7 v8 μ6 ⟨rfl, rfl, rfl, rfl, rfl, rfl, v, rfl, hv, ho6, hr6⟩ hX8
    have hm6 := hm4.w ho6 (by omega)
    refine ⟨fun q2 => ?_, fun q2 => ?_⟩
    · have e : v = wide := by omega
      subst e
      refine ⟨inR_i (by omega) (by omega), hX _ _ _ _ _ _ _ ⟨rfl, rfl, rfl, rfl, rfl, w + 1, rfl, by omega, ho6, ?_⟩ (by omega)⟩
      rw [Nat.add_mul, Nat.one_mul]
      exact hr6
    · have hlt := div_add_lt (show w < cW (cs n) by omega) (show v < wide by omega)
      obtain ⟨ed, em⟩ := mul_div_mod (a := w) (show v < wide by omega)
      have hms : w % s < s := Nat.mod_lt _ (by omega)
      have hlt2 := div_add_lt hms (show v < wide by omega)
      have ec : (w : Int) * (wide : Int) + (v : Int) = ((w * wide + v : Nat) : Int) := by rw [Int.natCast_add, Int.natCast_mul]
      have ec2 : (w : Int) % (s : Int) * (wide : Int) + (v : Int) = ((w % s * wide + v : Nat) : Int) := by rw [Int.natCast_add, Int.natCast_mul, Int.natCast_emod]
      have hgx : g (w * wide + v) = (cM (cs n) w && cM (cs m) (w % s * wide + v)) := by rw [hg, ed, em]
      have fin : ∀ (b : Bool) (p2 : Int), p2 = bI b → b = g (w * wide + v) → wp_X8_marks 12 ((w * wide + v : Nat) : Int) p2 μ6 (fun μ7 => inR ((v : Int) + 1) ∧ X8 (t : Int) (n : Int) (m : Int) (s : Int) (wide : Int) (w : Int) ((v : Int) + 1) μ7) := by
        intro b p2 hb1 hb2
        refine s_marks (c := 12) (by omega) hr6 (by omega) hN2.1 hb1 (fun μ7 ho7 hr7 => ⟨inR_i (by omega) (by omega), hX8 _ _ _ _ _ _ _ _ ⟨rfl, rfl, rfl, rfl, rfl, rfl, v + 1, rfl, by omega, ho6.tr ho7, ?_⟩ (by omega)⟩)
        rw [hb2, mkC_s] at hr7
        exact hr7
      rw [ec, ec2]
      refine s_isIn (hm6.2.1 n hn).1 (by omega) (by omega) ⟨fun q3 => ⟨inR_n (by omega), ?_⟩, fun q3 => ⟨⟨by omega, by omega⟩, inR_n (by omega), s_isIn (hm6.2.1 m hm8).1 (by omega) (by omega) ⟨fun q4 => ⟨inR_n (by omega), ?_⟩, fun q4 => ⟨inR_n (by omega), ?_⟩⟩⟩⟩
      · exact fin false 0 rfl (by rw [hgx, bI_0.mp q3]; rfl)
      · exact fin false 0 rfl (by rw [hgx, bI_0.mp q4, Bool.and_false])
      · exact fin true 1 rfl (by rw [hgx, bI_n0.mp q3, bI_n0.mp q4]; rfl)
theorem s8_longer (hR : mrs μ cs) (hH : mhs μ hs) (HQ : QB Q μ (a_longer cs hs to c size weight)) : wp_X8_longer to c size weight μ Q := by
  intro μ1 e1
  have hm := ms_0 hR hH e1
  refine c_isTo (fun n => A0 (a_ref (HQ.at (if_neg (fun q => n q.1))) hm rfl)) (fun yt => A1 ?_)
  refine c_isK hm.2.1 (fun n => B0 (a_ref (HQ.at (if_neg (fun q => n q.2))) hm rfl)) (fun y1 => B1 ?_)
  have hq : a_longer cs hs to c size weight = _ := if_pos ⟨yt, y1⟩
  refine c_in (fun n => A0 (a_ref (HQ.at (hq.trans (if_neg (fun q => n q.1)))) hm rfl)) (fun y2 => A1 ?_)
  refine c_in (fun n => B0 (a_ref (HQ.at (hq.trans (if_neg (fun q => n q.2)))) hm rfl)) (fun y3 => B1 ?_)
  rw [if_pos ⟨y2, y3⟩] at hq
  obtain ⟨t, rfl⟩ := Int.eq_ofNat_of_zero_le yt.1
  obtain ⟨n, rfl, hn, hp⟩ := y1.nat
  obtain ⟨s, rfl⟩ := Int.eq_ofNat_of_zero_le (show 0 ≤ size by omega)
  obtain ⟨wt, rfl⟩ := Int.eq_ofNat_of_zero_le (show 0 ≤ weight by omega)
  simp only [Int.toNat_natCast] at hq
  have hA := (hR n hn).2
  have hA8 := hA.1
  have hAw := hA.2.2.2.1
  obtain ⟨N1, hl1⟩ := layF_some hA (Nat.le_refl _)
  have hW1 := layF_W hl1
  have hN1n : cN N1 = cN (cs n) := by rw [hW1.2.1]; exact Nat.zero_add _
  have hN1w : cW N1 = cW (cs n) := by
    rw [hW1.1, show cW C0 = 1 from rfl, Nat.one_mul]
    exact wdF_cong fun i _ => by rw [Nat.zero_add]
  rw [hl1] at hq
  have hq : a_longer cs hs (t : Int) (n : Int) (s : Int) (wt : Int) = (match addO N1 s wt with
          | none => a_no cs hs 3
          | some N2 => a_yes cs hs (t : Int) (longC N2 (cs n) s)) := hq
  have ew : ((cW (cs n) : Nat) : Int) * (s : Int) = ((cW (cs n) * s : Nat) : Int) := (Int.natCast_mul _ _).symm
  have hb : cW (cs n) * s ≤ 256 * 4 := Nat.mul_le_mul hAw (by omega)
  refine s_places (hm.2.1 n hn).1 (by omega) ⟨fun q => a_ref (HQ.at (hq.trans (by rw [show addO N1 s wt = none from if_pos (Or.inl (by omega))]))) hm rfl, fun q => ?_⟩
  refine s_words (hm.2.1 n hn).1 (by omega) hA ?_
  rw [ew]
  refine ⟨inR_n (by omega), fun q2 => ?_, fun q2 => a_ref (HQ.at (hq.trans (by rw [show addO N1 s wt = none from if_pos (Or.inr (by rw [hN1w]; omega))]))) hm rfl⟩
  rw [show addO N1 s wt = some (addP N1 s wt) from if_neg (by rw [hN1w]; omega)] at hq
  refine s_clears (c := 12) (by omega) (fun μ2 ho2 hr2 => ?_)
  have hm2 := hm.w ho2 (by omega)
  refine s_laysPlaces (f := 0) hn hA (Nat.zero_le _) (hm2.2.1 n hn).1 hr2 okC_0 (fun _ => rfl) (fun h0 μ3 ho3 => ?_) (fun N1' hl1' hN1 hm1 μ3 ho3 hr3 => ?_)
  · rw [show layF (cs n) 0 (cN (cs n) - 0) C0 = some N1 from hl1] at h0
    cases h0
  rw [show layF (cs n) 0 (cN (cs n) - 0) C0 = some N1 from hl1] at hl1'
  cases hl1'
  have hm3 := hm2.w ho3 (by omega)
  refine s_adds (c := 12) (by omega) hr3 (by omega) (fun μ4 ho4 hr4 => ?_)
  have hm4 := hm3.w ho4 (by omega)
  have hN2 : okC (addP N1 s wt) := okC_addP hN1 hm1 (by omega) ⟨by omega, by omega⟩ ⟨by omega, by omega⟩ (by rw [hN1w]; omega)
  have hWn : cW (addP N1 s wt) = cW (cs n) * s := by rw [cW_addP, hN1w]
  generalize hge : (fun x => cM (cs n) (x / s)) = g
  have hg : ∀ x, g x = cM (cs n) (x / s) := fun x => by rw [← hge]
  have hlong : longC (addP N1 s wt) (cs n) s = mkC (addP N1 s wt) noM g (cW (cs n) * s) := by rw [← hge]; rfl
  have hr4' : mrow μ4 12 (mkC (addP N1 s wt) noM g 0) := by
    have : mkC (addP N1 s wt) noM g 0 = addP N1 s wt := by
      rw [show noM = cM (addP N1 s wt) from (funext fun w => (hm1 w).symm)]
      exact mkC_0 _ g
    rw [this]; exact hr4
  refine LP6_rule (fun (v1 v2 v3 v5 v6 : Int) (μ5 : Mem) => v1 = (t : Int) ∧ v2 = (n : Int) ∧ v3 = (s : Int) ∧ v5 = 1 ∧ ∃ w : Nat, v6 = (w : Int) ∧ w ≤ cW (cs n) ∧ orow μ4 μ5 12 ∧ mrow μ5 12 (mkC (addP N1 s wt) noM g (w * s))) (fun _ _ _ _ v6 _ => ((cW (cs n) : Int) - v6).toNat) ?_ ⟨rfl, rfl, rfl, rfl, 0, rfl, Nat.zero_le _, orow.rf, by rw [Nat.zero_mul]; exact hr4'⟩
  rintro X v1 v2 v3 v5 v6 μ5 ⟨rfl, rfl, rfl, rfl, w, rfl, hw, ho5, hr5⟩ hX
  have hm5 := hm4.w ho5 (by omega)
  refine ⟨fun q => absurd q (by decide), fun _ => s_words (hm5.2.1 n hn).1 (by omega) hA ⟨fun q => ?_, fun q => ?_⟩⟩
  · have e : w = cW (cs n) := by omega
    subst e
    have hC' : okC (longC (addP N1 s wt) (cs n) s) := okC_mkC hN2 (Nat.succ_pos _) (by omega) (fun w hw => by cases hw)
    rw [← hlong] at hr5
    exact s_becomes (by omega) hm5 hr5 hC' (fun μ6 hm6 => a_good (HQ.at hq) hm6 rfl)
  · refine LP7_rule (fun (v1 v2 v3 v5 v6 v7 : Int) (μ6 : Mem) => v1 = (t : Int) ∧ v2 = (n : Int) ∧ v3 = (s : Int) ∧ v5 = 1 ∧ v6 = (w : Int) ∧ ∃ v : Nat, v7 = (v : Int) ∧ v ≤ s ∧ orow μ4 μ6 12 ∧ mrow μ6 12 (mkC (addP N1 s wt) noM g (w * s + v))) (fun _ _ _ _ _ v7 _ => ((s : Int) - v7).toNat) ?_ ⟨rfl, rfl, rfl, rfl, rfl, 0, rfl, Nat.zero_le _, ho5, hr5⟩
    rintro X7 v1 v2 v3 v5 v6 v7 μ6 ⟨rfl, rfl, rfl, rfl, rfl, v, rfl, hv, ho6, hr6⟩ hX7
    have hm6 := hm4.w ho6 (by omega)
    refine ⟨fun q3 => ?_, fun q3 => ?_⟩
    · have e : v = s := by omega
      subst e
      refine ⟨inR_i (by omega) (by omega), hX _ _ _ _ _ _ ⟨rfl, rfl, rfl, rfl, w + 1, rfl, by omega, ho6, ?_⟩ (by omega)⟩
      rw [Nat.add_mul, Nat.one_mul]
      exact hr6
    · have hlt := div_add_lt (show w < cW (cs n) by omega) (show v < s by omega)
      obtain ⟨ed, em⟩ := mul_div_mod (a := w) (show v < s by omega)
      have ec : (w : Int) * (s : Int) + (v : Int) = ((w * s + v : Nat) : Int) := by rw [Int.natCast_add, Int.natCast_mul]
      refine s_isIn (hm6.2.1 n hn).1 (by omega) (by omega) ?_
      rw [ec]
      refine ⟨inR_n (by omega), s_marks (c := 12) (b := cM (cs n) w) (by omega) hr6 (by omega) hN2.1 rfl (fun μ7 ho7 hr7 => ⟨inR_i (by omega) (by omega), hX7 _ _ _ _ _ _ _ ⟨rfl, rfl, rfl, rfl, rfl, v + 1, rfl, by omega, ho6.tr ho7, ?_⟩ (by omega)⟩)⟩
      rw [show cM (cs n) w = g (w * s + v) by rw [hg, ed], mkC_s] at hr7
      exact hr7
theorem s8_mix (hR : mrs μ cs) (hH : mhs μ hs) (HQ : QB Q μ (a_mix cs hs to one other a)) : wp_X8_mix to one other a μ Q := by
  intro μ1 e1
  have hm := ms_0 hR hH e1
  refine c_isTo (fun n => A0 (a_ref (HQ.at (if_neg (fun q => n q.1))) hm rfl)) (fun yt => A1 ?_)
  refine c_isK hm.2.1 (fun n => A0 (a_ref (HQ.at (if_neg (fun q => n q.2.1))) hm rfl)) (fun y1 => A1 ?_)
  refine c_isK hm.2.1 (fun n => A0 (a_ref (HQ.at (if_neg (fun q => n q.2.2.1))) hm rfl)) (fun y2 => A1 ?_)
  refine c_in (fun n => B0 (a_ref (HQ.at (if_neg (fun q => n q.2.2.2))) hm rfl)) (fun y3 => B1 ?_)
  have hq : a_mix cs hs to one other a = _ := if_pos ⟨yt, y1, y2, y3⟩
  obtain ⟨t, rfl⟩ := Int.eq_ofNat_of_zero_le yt.1
  obtain ⟨n, rfl, hn, hp⟩ := y1.nat
  obtain ⟨m, rfl, hm8, hp2⟩ := y2.nat
  simp only [Int.toNat_natCast] at hq
  have hA := (hR n hn).2
  have hB := (hR m hm8).2
  have hAw := hA.2.2.2.1
  refine s_areOfOne (hm.2.1 n hn).1 (hm.2.1 m hm8).1 (by omega) (by omega) hA hB ⟨fun q => ?_, fun q => a_ref (HQ.at (hq.trans (if_neg (by rw [bI_0.mp q]; decide)))) hm rfl⟩
  rw [if_pos (bI_n0.mp q)] at hq
  have hsp := spB_iff.mp (bI_n0.mp q)
  have hWm : cW (cs m) = cW (cs n) := by
    show wdF (cS (cs m)) (cN (cs m)) = wdF (cS (cs n)) (cN (cs n))
    rw [← hsp.1]
    exact wdF_cong fun i hi => (hsp.2 i hi).1.symm
  refine s_copies_row (d := 12) (by omega) (by omega) (hm.2.1 n hn).1 hA.1 (fun μ2 ho2 hr2 => ?_)
  have hm2 := hm.w ho2 (by omega)
  generalize hge : (fun x => mixB a (cM (cs n) x) (cM (cs m) x)) = g
  have hg : ∀ x, g x = mixB a (cM (cs n) x) (cM (cs m) x) := fun x => by rw [← hge]
  have hmix : mixC (cs n) (cs m) a = mkC (cs n) (cM (cs n)) g (cW (cs n)) := by rw [← hge]; rfl
  refine LP6_rule (fun (v1 v2 v3 v4 v5 : Int) (μ5 : Mem) => v1 = (t : Int) ∧ v2 = (n : Int) ∧ v3 = (m : Int) ∧ v4 = a ∧ ∃ w : Nat, v5 = (w : Int) ∧ w ≤ cW (cs n) ∧ orow μ2 μ5 12 ∧ mrow μ5 12 (mkC (cs n) (cM (cs n)) g w)) (fun _ _ _ _ v5 _ => ((cW (cs n) : Int) - v5).toNat) ?_ ⟨rfl, rfl, rfl, rfl, 0, rfl, Nat.zero_le _, orow.rf, by rw [mkC_0]; exact hr2⟩
  rintro X v1 v2 v3 v4 v5 μ5 ⟨rfl, rfl, rfl, rfl, w, rfl, hw, ho5, hr5⟩ hX
  have hm5 := hm2.w ho5 (by omega)
  refine s_words (hm5.2.1 n hn).1 (by omega) hA ⟨fun q2 => ?_, fun q2 => ?_⟩
  · have e : w = cW (cs n) := by omega
    subst e
    have hC' : okC (mixC (cs n) (cs m) v4) := okC_mkC hA hp (Nat.le_refl _) hA.2.2.2.2.1
    rw [← hmix] at hr5
    exact s_becomes (by omega) hm5 hr5 hC' (fun μ6 hm6 => a_good (HQ.at hq) hm6 rfl)
  · have fin : ∀ (b : Bool) (p2 : Int), p2 = bI b → b = g w → wp_X8_marks 12 (w : Int) p2 μ5 (fun μ7 => inR ((w : Int) + 1) ∧ X (t : Int) (n : Int) (m : Int) v4 ((w : Int) + 1) μ7) := by
      intro b p2 hb1 hb2
      refine s_marks (c := 12) (by omega) hr5 (by omega) hA.1 hb1 (fun μ7 ho7 hr7 => ⟨inR_i (by omega) (by omega), hX _ _ _ _ _ _ ⟨rfl, rfl, rfl, rfl, w + 1, rfl, by omega, ho5.tr ho7, ?_⟩ (by omega)⟩)
      rw [hb2, mkC_s] at hr7
      exact hr7
    refine s_isIn (hm5.2.1 n hn).1 (by omega) (by omega) (s_isIn (hm5.2.1 m hm8).1 (by omega) (by omega) ⟨fun q3 => ⟨fun q4 => ⟨fun q5 => ?_, fun q5 => ⟨fun q6 => ?_, fun q6 => ?_⟩⟩, fun q4 => ⟨fun q5 => ?_, fun q5 => ⟨fun q6 => ?_, fun q6 => ?_⟩⟩⟩, fun q3 => ⟨fun q4 => ?_, fun q4 => ⟨fun q5 => ?_, fun q5 => ?_⟩⟩⟩)
    · exact fin false 0 rfl (by rw [hg, mixB, if_neg q3, if_neg q4, bI_0.mp q5]; rfl)
    · exact fin false 0 rfl (by rw [hg, mixB, if_neg q3, if_neg q4, bI_n0.mp q6, Bool.not_true, Bool.and_false])
    · exact fin true 1 rfl (by rw [hg, mixB, if_neg q3, if_neg q4, bI_n0.mp q5, bI_0.mp q6]; rfl)
    · exact fin false 0 rfl (by rw [hg, mixB, if_neg q3, if_pos q4, bI_0.mp q5]; rfl)
    · exact fin false 0 rfl (by rw [hg, mixB, if_neg q3, if_pos q4, bI_0.mp q6, Bool.and_false])
    · exact fin true 1 rfl (by rw [hg, mixB, if_neg q3, if_pos q4, bI_n0.mp q5, bI_n0.mp q6]; rfl)
    · exact fin true 1 rfl (by rw [hg, mixB, if_pos q3, bI_n0.mp q4]; rfl)
    · exact fin false 0 rfl (by rw [hg, mixB, if_pos q3, bI_0.mp q4, bI_0.mp q5]; rfl)
    · exact fin true 1 rfl (by rw [hg, mixB, if_pos q3, bI_n0.mp q5, Bool.or_true])
theorem s8_holes (hR : mrs μ cs) (hH : mhs μ hs) (HQ : QB Q μ (a_holes cs hs to c r)) : wp_X8_holes to c r μ Q := by
  intro μ1 e1
  have hm := ms_0 hR hH e1
  refine c_isTo (fun n => A0 (a_ref (HQ.at (if_neg (fun q => n q.1))) hm rfl)) (fun yt => A1 ?_)
  refine c_isK hm.2.1 (fun n => B0 (a_ref (HQ.at (if_neg (fun q => n q.2))) hm rfl)) (fun y1 => B1 ?_)
  have hq : a_holes cs hs to c r = _ := if_pos ⟨yt, y1⟩
  refine c_isR (fun n => B0 (a_ref (HQ.at (hq.trans (if_neg n))) hm rfl)) (fun y2 => B1 ?_)
  rw [if_pos y2] at hq
  obtain ⟨t, rfl⟩ := Int.eq_ofNat_of_zero_le yt.1
  obtain ⟨n, rfl, hn, hp⟩ := y1.nat
  obtain ⟨rr, rfl, hrr⟩ := y2.nat
  simp only [Int.toNat_natCast] at hq
  have hA := (hR n hn).2
  have hAw := hA.2.2.2.1
  refine s_covers (hm.2.1 n hn).1 (by omega) hA (fun μ2 ho2 ht => ?_)
  have hm2 := hm.c ho2
  refine s_copies_row (d := 12) (by omega) (by omega) (hm2.2.1 n hn).1 hA.1 (fun μ3 ho3 hr3 => ?_)
  have hm3 := hm2.w ho3 (by omega)
  generalize hge : (fun x => decide (tmF (cs n) rr x = 0)) = g
  have hg : ∀ x, g x = decide (tmF (cs n) rr x = 0) := fun x => by rw [← hge]
  have hhol : holC (cs n) rr = mkC (cs n) (cM (cs n)) g (cW (cs n)) := by rw [← hge]; rfl
  have hhl : hlF (cs n) rr = ctF g (cW (cs n)) := by rw [← hge]; rfl
  refine LP5_rule (fun (v1 v2 v4 v5 : Int) (μ5 : Mem) => v1 = (t : Int) ∧ v2 = (n : Int) ∧ v4 = (hlF (cs n) rr : Nat) ∧ ∃ w : Nat, v5 = (w : Int) ∧ w ≤ cW (cs n) ∧ orow μ3 μ5 12 ∧ mrow μ5 12 (mkC (cs n) (cM (cs n)) g w)) (fun _ _ _ v5 _ => ((cW (cs n) : Int) - v5).toNat) ?_ ⟨rfl, rfl, rfl, 0, rfl, Nat.zero_le _, orow.rf, by rw [mkC_0]; exact hr3⟩
  rintro X v1 v2 v4 v5 μ5 ⟨rfl, rfl, rfl, w, rfl, hw, ho5, hr5⟩ hX
  have hm5 := hm3.w ho5 (by omega)
  refine s_words (hm5.2.1 n hn).1 (by omega) hA ⟨fun q2 => ?_, fun q2 => ?_⟩
  · have e : w = cW (cs n) := by omega
    subst e
    have hC' : okC (holC (cs n) rr) := okC_mkC hA hp (Nat.le_refl _) hA.2.2.2.2.1
    rw [← hhol] at hr5
    exact s_becomes (by omega) hm5 hr5 hC' (fun μ6 hm6 => a_good (HQ.at hq) hm6 rfl)
  · have fin : ∀ (b : Bool) (p2 : Int), p2 = bI b → b = g w → wp_X8_marks 12 (w : Int) p2 μ5 (fun μ7 => inR ((w : Int) + 1) ∧ X (t : Int) (n : Int) ((hlF (cs n) rr : Nat) : Int) ((w : Int) + 1) μ7) := by
      intro b p2 hb1 hb2
      refine s_marks (c := 12) (by omega) hr5 (by omega) hA.1 hb1 (fun μ7 ho7 hr7 => ⟨inR_i (by omega) (by omega), hX _ _ _ _ _ ⟨rfl, rfl, rfl, w + 1, rfl, by omega, ho5.tr ho7, ?_⟩ (by omega)⟩)
      rw [hb2, mkC_s] at hr7
      exact hr7
    have ht5 : μ5.1 121 w = (tmF (cs n) rr w : Nat) := by rw [ho5.1 121 (by omega), ho3.1 121 (by omega)]; exact ht w (by omega)
    refine ⟨fun q3 => fin false 0 rfl ?_, fun q3 => ⟨by omega, ?_⟩⟩
    · have := ctF_zero.mp (show ctF g (cW (cs n)) = 0 by omega) w (by omega)
      exact this.symm
    · rw [Int.toNat_natCast, ht5]
      exact ⟨fun q4 => fin false 0 rfl (by rw [hg]; exact (decide_eq_false (by omega)).symm), fun q4 => fin true 1 rfl (by rw [hg]; exact (decide_eq_true (by omega)).symm)⟩
end RV

/-! ===== the class: acts ===== -/
def ks (μ0 μ : Mem) (cs : Nat → Cd) (hs : List (Nat → Cd)) : Prop := kf μ0 μ ∧ krs μ cs ∧ khs μ cs hs
theorem ks.f {μ0 μ μ' : Mem} {cs : Nat → Cd} {hs : List (Nat → Cd)} (h : ks μ0 μ cs hs) (hf : kf μ μ') : ks μ0 μ' cs hs := ⟨h.1.tr hf, h.2.1.f hf, h.2.2.to hf⟩
theorem KA.as {Q : Int → Mem → Prop} {μ : Mem} {R R' : AR} (h : KA Q μ R) (e : R.2 = R'.2) (e2 : R.1.2 = R'.1.2) : KA (fun _ μ' => Q R.1.1 μ') μ R' := fun μ' a b c d => h μ' a (by rw [e]; exact b) (by rw [e]; exact c) (by rw [e2]; exact d)
theorem mkM_no {N : Cd} (h : ∀ w, cM N w = false) : mkM N noM = N := by
  show (cN N, cS N, cT N, noM) = N
  rw [show noM = cM N from funext fun w => (h w).symm]
theorem mkM_and (N : Cd) (g : Nat → Bool) (i : Nat) : mkM N (fun x => decide (x < i) && g x) = mkC N noM g i := by
  show (cN N, cS N, cT N, fun x => decide (x < i) && g x) = (cN N, cS N, cT N, fun x => if x < i then g x else noM x)
  congr 3
  funext x
  by_cases e : x < i
  · rw [if_pos e, decide_eq_true e, Bool.true_and]
  · rw [if_neg e, decide_eq_false e, Bool.false_and]; rfl
theorem mkC_base {A : Cd} (h : okC A) (g : Nat → Bool) : mkC A (cM A) g (cW A) = mkC A noM g (cW A) := by
  show (cN A, cS A, cT A, fun x => if x < cW A then g x else cM A x) = (cN A, cS A, cT A, fun x => if x < cW A then g x else noM x)
  congr 3
  funext x
  by_cases e : x < cW A
  · rw [if_pos e, if_pos e]
  · rw [if_neg e, if_neg e]
    cases hx : cM A x
    · rfl
    · exact absurd (h.2.2.2.2.1 x hx) e
section KZ
variable {μ μ0 : Mem} {cs : Nat → Cd} {hs : List (Nat → Cd)} {Q P : Int → Mem → Prop} {c w v i j k r a d p to one other size weight : Int}
theorem a7_no {R : AR} {t : Int} (HQ : KA Q μ0 R) (h : ks μ0 μ cs hs) (ho : R = a_no cs hs t) : wp_X7_refuse t μ Q := e7_ano HQ h.2.1 h.2.2 h.1 ho
theorem a7_noB {R : AR} {t : Int} (HQ : KA Q μ0 R) (h : ks μ0 μ cs hs) (ho : R = a_noB cs hs t) : wp_X7_refuse t μ (fun _ μ4 => Q 0 μ4) := by
  subst ho
  exact e7_ano (HQ.as (R' := a_no cs hs t) rfl rfl) h.2.1 h.2.2 h.1 rfl
theorem a7_yes {R : AR} {t : Nat} {C : Cd} {x : Int} (HQ : KA Q μ0 R) (h : ks μ0 μ cs hs) (ht : t < 8) (hf : crep μ 23 C) (hC : okC C) (hx : x = μ.1 23 3) (ho : R = a_yes cs hs t C) : wp_X7_act t x μ Q := by
  rw [hx, hf.2.2.2.1]
  exact s7_act ht h.2.1 h.2.2 h.1 hf hC HQ (by rw [ho]; unfold a_yes; rw [Int.toNat_natCast])
theorem a7_yesB {R : AR} {t : Nat} {C : Cd} {x : Int} (HQ : KA Q μ0 R) (h : ks μ0 μ cs hs) (ht : t < 8) (hf : crep μ 23 C) (hC : okC C) (hx : x = μ.1 23 3) (ho : R = a_yesB cs hs t C) : wp_X7_act t x μ (fun _ μ4 => Q 1 μ4) := by
  subst ho
  exact a7_yes (HQ.as (R' := a_yes cs hs t C) rfl rfl) h ht hf hC hx rfl
theorem c7_isTo (h0 : ¬ (0 ≤ to ∧ to < 8) → P 0 μ) (h1 : 0 ≤ to ∧ to < 8 → P 1 μ) : wp_X7_isSlot to μ P :=
  ⟨fun q => h0 (by omega), fun q => ⟨fun q2 => h0 (by omega), fun q2 => h1 (by omega)⟩⟩
theorem s7_set {b : Bool} (hR : krs μ cs) (hH : khs μ cs hs) (hp : p = bI b) (HQ : KA Q μ (a_set cs hs c w b)) : wp_X7_set c w p μ Q := by
  have hS : ks μ μ cs hs := ⟨kf.rf, hR, hH⟩
  refine c7_isW hR (fun n => B0 (a7_no HQ hS (if_neg n))) (fun y => B1 ⟨⟨y.1.1, y.1.2.1⟩, ?_⟩)
  have hq : a_set cs hs c w b = _ := if_pos y
  obtain ⟨n, m, rfl, rfl, hn, h0, hm⟩ := y.nat
  simp only [Int.toNat_natCast] at hq ⊢
  have hC := (hR n hn).2
  refine s1_holds (hR n hn).1 hC ⟨fun q => ?_, fun q => a7_no HQ hS (hq.trans (if_pos ?_))⟩
  · have hne : ¬ cM (cs n) m = b := fun e => q (by rw [e, hp])
    rw [if_neg hne] at hq
    refine s1_copy (hR n hn).1 hC.1 (by omega) (fun μ1 o1 p1 => ⟨fun q2 => ?_, fun q2 => ?_⟩)
    · have hb : b = false := bI_0.mp (by rw [← hp]; exact q2)
      subst hb
      refine s1_drop p1 hC hm (fun μ2 o2 p2 => s7_act hn ((hS.f o1.kf).f o2.kf).2.1 ((hS.f o1.kf).f o2.kf).2.2 ((hS.f o1.kf).f o2.kf).1 p2 (okC_setM hC hm h0 false) HQ (hq.trans ?_))
      rw [p2.2.2.2.1]; rfl
    · have hb : b = true := bI_n0.mp (by rw [← hp]; exact q2)
      subst hb
      refine s1_put p1 hC hm (fun μ2 o2 p2 => s7_act hn ((hS.f o1.kf).f o2.kf).2.1 ((hS.f o1.kf).f o2.kf).2.2 ((hS.f o1.kf).f o2.kf).1 p2 (okC_setM hC hm h0 true) HQ (hq.trans ?_))
      rw [p2.2.2.2.1]; rfl
  · rw [hp] at q
    cases h1 : cM (cs n) m <;> cases h2 : b <;> rw [h1, h2] at q <;> first | rfl | exact absurd q (by decide)
theorem s7_greedy (hR : krs μ cs) (hH : khs μ cs hs) (HQ : KA Q μ (a_greedy cs hs c r)) : wp_X7_greedy c r μ Q := by
  have hS : ks μ μ cs hs := ⟨kf.rf, hR, hH⟩
  refine f7_K hR (fun n => A1 (a7_no HQ hS (if_neg n))) (fun y n => A2 (a7_no HQ hS ((if_pos y).trans (if_neg n)))) (fun y y2 => A0 ⟨⟨y.1, y.2.1⟩, ?_⟩)
  have hq : a_greedy cs hs c r = _ := (if_pos y).trans (if_pos y2)
  obtain ⟨n, rfl, hn, h0⟩ := y.nat
  obtain ⟨m, rfl, hm⟩ := y2.nat
  simp only [Int.toNat_natCast] at hq ⊢
  have hC := (hR n hn).2
  refine s1_copy (hR n hn).1 hC.1 (by omega) (fun μ1 o1 p1 => s7_layTimes p1 hC (by omega) (fun μ2 o2 p2 g2 t2 => s3_fill p2 g2 hC h0 (by omega) t2 (fun μ3 o3 p3 hC3 => ?_)))
  have hS3 := ((hS.f o1.kf).f o2.kf).f o3.kf
  exact s7_act hn hS3.2.1 hS3.2.2 hS3.1 p3 hC3 HQ (hq.trans (by unfold a_new; rw [Int.toNat_natCast]))
theorem s7_thin (hR : krs μ cs) (hH : khs μ cs hs) (HQ : KA Q μ (a_thin cs hs c r)) : wp_X7_thin c r μ Q := by
  have hS : ks μ μ cs hs := ⟨kf.rf, hR, hH⟩
  refine f7_K hR (fun n => A1 (a7_no HQ hS (if_neg n))) (fun y n => A2 (a7_no HQ hS ((if_pos y).trans (if_neg n)))) (fun y y2 => A0 ⟨⟨y.1, y.2.1⟩, ?_⟩)
  have hq : a_thin cs hs c r = _ := (if_pos y).trans (if_pos y2)
  obtain ⟨n, rfl, hn, h0⟩ := y.nat
  obtain ⟨m, rfl, hm⟩ := y2.nat
  simp only [Int.toNat_natCast] at hq ⊢
  have hC := (hR n hn).2
  refine s1_copy (hR n hn).1 hC.1 (by omega) (fun μ1 o1 p1 => s7_layTimes p1 hC (by omega) (fun μ2 o2 p2 g2 t2 => s3_weed p2 g2 hC h0 (by omega) t2 (fun μ3 o3 p3 hC3 => ?_)))
  have hS3 := ((hS.f o1.kf).f o2.kf).f o3.kf
  exact s7_act hn hS3.2.1 hS3.2.2 hS3.1 p3 hC3 HQ (hq.trans (by unfold a_new; rw [Int.toNat_natCast]))
theorem s7_sum (hR : krs μ cs) (hH : khs μ cs hs) (HQ : KA Q μ (a_sum cs hs to one other)) : wp_X7_sum to one other μ Q := by
  have hS : ks μ μ cs hs := ⟨kf.rf, hR, hH⟩
  refine c7_isTo (fun n => A0 (a7_no HQ hS (if_neg (fun q => n q.1)))) (fun yt => A1 ?_)
  refine c7_isK hR (fun n => A0 (a7_no HQ hS (if_neg (fun q => n q.2.1)))) (fun y1 => A1 ?_)
  refine c7_isK hR (fun n => B0 (a7_no HQ hS (if_neg (fun q => n q.2.2)))) (fun y2 => B1 ?_)
  have hq : a_sum cs hs to one other = _ := if_pos ⟨yt, y1, y2⟩
  obtain ⟨t, rfl⟩ := Int.eq_ofNat_of_zero_le yt.1
  obtain ⟨n, rfl, hn, hp⟩ := y1.nat
  obtain ⟨m, rfl, hm8, hp2⟩ := y2.nat
  simp only [Int.toNat_natCast] at hq ⊢
  have hA := (hR n hn).2
  have hB := (hR m hm8).2
  refine s1_clear (fun μ2 o2 r2 => ⟨by omega, ?_⟩)
  have hS2 := hS.f o2.kf
  refine s1_addPlaces (f := 0) r2 okC_0 (fun _ => rfl) (hS2.2.1 n hn).1 hA (by omega) (Nat.zero_le _) (fun h0 μ3 o3 => A0 ?_) (fun N1 hl1 hN1 hm1 μ3 o3 r3 => A1 ⟨by omega, ?_⟩)
  · rw [show layF (cs n) 0 (cN (cs n)) C0 = none from h0] at hq
    exact a7_no HQ (hS2.f o3.kf) hq
  have hl1 : layF (cs n) 0 (cN (cs n)) C0 = some N1 := hl1
  rw [hl1] at hq
  have hq : a_sum cs hs (t : Int) (n : Int) (m : Int) = (match layF (cs m) 0 (cN (cs m)) N1 with
        | none => a_no cs hs 3
        | some N2 => a_yes cs hs (t : Int) (sumC N2 (cs n) (cs m))) := hq
  have hS3 := hS2.f o3.kf
  refine s1_addPlaces (f := 0) r3 hN1 hm1 (hS3.2.1 m hm8).1 hB (by omega) (Nat.zero_le _) (fun h0 μ4 o4 => B0 ?_) (fun N2 hl2 hN2 hm2' μ4 o4 r4 => B1 ?_)
  · rw [show layF (cs m) 0 (cN (cs m)) N1 = none from h0] at hq
    exact a7_no HQ (hS3.f o4.kf) hq
  have hl2 : layF (cs m) 0 (cN (cs m)) N1 = some N2 := hl2
  rw [hl2] at hq
  have hWn : cW N2 = cW (cs n) * cW (cs m) := by
    rw [(layF_W hl2).1, (layF_W hl1).1]
    have e1 : wdF (fun i => cS (cs n) (0 + i)) (cN (cs n)) = cW (cs n) := wdF_cong fun i _ => by rw [Nat.zero_add]
    have e2 : wdF (fun i => cS (cs m) (0 + i)) (cN (cs m)) = cW (cs m) := wdF_cong fun i _ => by rw [Nat.zero_add]
    rw [e1, e2, show cW C0 = 1 from rfl, Nat.one_mul]
  have hNn : 0 < cN N2 := by have := (layF_W hl2).2.1; omega
  have hS4 := hS3.f o4.kf
  rw [← mkM_no hm2'] at r4
  refine s1_putPairs r4 hN2 hNn (hS4.2.1 n hn).1 hA (hS4.2.1 m hm8).1 hB (by omega) (by omega) hWn (fun μ5 o5 r5 => ?_)
  have e5 : mkM N2 (paM (cs n) (cs m) (cW (cs n))) = sumC N2 (cs n) (cs m) := mkM_and N2 (fun x => cM (cs n) (x / cW (cs m)) && cM (cs m) (x % cW (cs m))) (cW (cs n) * cW (cs m))
  rw [e5] at r5
  exact a7_yes HQ (hS4.f o5.kf) (by omega) r5 (okC_mkC hN2 hNn (by omega) (fun w hw => by cases hw)) rfl hq
theorem s7_join (hR : krs μ cs) (hH : khs μ cs hs) (HQ : KA Q μ (a_join cs hs to one other)) : wp_X7_join to one other μ Q := by
  have hS : ks μ μ cs hs := ⟨kf.rf, hR, hH⟩
  refine c7_isTo (fun n => A0 (a7_no HQ hS (if_neg (fun q => n q.1)))) (fun yt => A1 ?_)
  refine c7_isK hR (fun n => A0 (a7_no HQ hS (if_neg (fun q => n q.2.1)))) (fun y1 => A1 ?_)
  refine c7_isK hR (fun n => B0 (a7_no HQ hS (if_neg (fun q => n q.2.2)))) (fun y2 => B1 ?_)
  have hq : a_join cs hs to one other = _ := if_pos ⟨yt, y1, y2⟩
  obtain ⟨t, rfl⟩ := Int.eq_ofNat_of_zero_le yt.1
  obtain ⟨n, rfl, hn, hp⟩ := y1.nat
  obtain ⟨m, rfl, hm8, hp2⟩ := y2.nat
  simp only [Int.toNat_natCast] at hq ⊢
  have hA := (hR n hn).2
  have hB := (hR m hm8).2
  refine ⟨by omega, by omega, s1_endsAsBegins (hR n hn).1 hA (hR m hm8).1 hp hp2 (fun q => B0 (a7_no HQ hS (hq.trans (if_neg q)))) (fun q => B1 ?_)⟩
  rw [if_pos q] at hq
  refine s1_clear (fun μ2 o2 r2 => ?_)
  have hS2 := hS.f o2.kf
  refine s1_addPlaces (f := 0) r2 okC_0 (fun _ => rfl) (hS2.2.1 n hn).1 hA (by omega) (Nat.zero_le _) (fun h0 μ3 o3 => A0 ?_) (fun N1 hl1 hN1 hm1 μ3 o3 r3 => A1 ?_)
  · rw [show layF (cs n) 0 (cN (cs n)) C0 = none from h0] at hq
    exact a7_no HQ (hS2.f o3.kf) hq
  have hl1 : layF (cs n) 0 (cN (cs n)) C0 = some N1 := hl1
  rw [hl1] at hq
  have hq : a_join cs hs (t : Int) (n : Int) (m : Int) = (match layF (cs m) 1 (cN (cs m) - 1) N1 with
        | none => a_no cs hs 3
        | some N2 => a_yes cs hs (t : Int) (joinC N2 (cs n) (cs m))) := hq
  have hS3 := hS2.f o3.kf
  refine s1_addPlaces (f := 1) r3 hN1 hm1 (hS3.2.1 m hm8).1 hB (by omega) (by omega) (fun h0 μ4 o4 => B0 ?_) (fun N2 hl2 hN2 hm2' μ4 o4 r4 => B1 ?_)
  · rw [h0] at hq
    exact a7_no HQ (hS3.f o4.kf) hq
  rw [hl2] at hq
  have hsz0 := hB.2.1 0 hp2
  generalize hwe : wdF (fun i => cS (cs m) (1 + i)) (cN (cs m) - 1) = wide
  have hW2 : cW (cs m) = cS (cs m) 0 * wide := by
    have := wdF_shift (cS (cs m)) (cN (cs m) - 1)
    rw [show cN (cs m) - 1 + 1 = cN (cs m) by omega, hwe] at this
    exact this
  have hdiv : cW (cs m) / cS (cs m) 0 = wide := by rw [hW2, Nat.mul_comm, Nat.mul_div_cancel _ (by omega)]
  have hWn : cW N2 = cW (cs n) * wide := by
    rw [(layF_W hl2).1, (layF_W hl1).1, hwe]
    have e1 : wdF (fun i => cS (cs n) (0 + i)) (cN (cs n)) = cW (cs n) := wdF_cong fun i _ => by rw [Nat.zero_add]
    rw [e1, show cW C0 = 1 from rfl, Nat.one_mul]
  have hNn : 0 < cN N2 := by have := (layF_W hl2).2.1; have := (layF_W hl1).2.1; omega
  have hS4 := hS3.f o4.kf
  rw [← mkM_no hm2'] at r4
  refine s1_putJoined (t := wide) r4 hN2 hNn (hS4.2.1 n hn).1 hA (hS4.2.1 m hm8).1 hB hp2 (by omega) (by omega) hwe.symm hWn (fun μ5 o5 r5 => ?_)
  have e5 : mkM N2 (jnM (cs n) (cs m) wide (cS (cs m) 0) (cW (cs n))) = joinC N2 (cs n) (cs m) := by
    unfold joinC
    rw [hdiv]
    exact mkM_and N2 (fun x => cM (cs n) (x / wide) && cM (cs m) (x / wide % cS (cs m) 0 * wide + x % wide)) (cW (cs n) * wide)
  rw [e5] at r5
  exact a7_yes HQ (hS4.f o5.kf) (by omega) r5 (okC_mkC hN2 hNn (by rw [hdiv]; omega) (fun w hw => by cases hw)) rfl hq
theorem s7_longer (hR : krs μ cs) (hH : khs μ cs hs) (HQ : KA Q μ (a_longer cs hs to c size weight)) : wp_X7_longer to c size weight μ Q := by
  have hS : ks μ μ cs hs := ⟨kf.rf, hR, hH⟩
  -- the flags
  have f40 : ∀ s0 s1 : Int, (s0 = 0 ∧ ¬ ((0 ≤ to ∧ to < 8) ∧ isK cs c)) ∨ (s0 = 1 ∧ (0 ≤ to ∧ to < 8) ∧ isK cs c) → (s1 = 0 ∧ ¬ ((2 ≤ size ∧ size ≤ 4) ∧ (1 ≤ weight ∧ weight ≤ 3))) ∨ (s1 = 1 ∧ (2 ≤ size ∧ size ≤ 4) ∧ (1 ≤ weight ∧ weight ≤ 3)) → wp_X7_longer_40 Q to c size weight s0 s1 μ := by
    intro s0 s1 h0 h1
    rcases h0 with ⟨rfl, n⟩ | ⟨rfl, yt, y⟩
    · exact ⟨fun q => absurd rfl q, fun _ => A1 (a7_no HQ hS (if_neg n))⟩
    · refine ⟨fun _ => ?_, fun q => absurd q (by decide)⟩
      rcases h1 with ⟨rfl, n⟩ | ⟨rfl, y2, y3⟩
      · exact ⟨fun _ => A2 (a7_no HQ hS ((if_pos ⟨yt, y⟩).trans (if_neg n))), fun q => absurd rfl q⟩
      · refine ⟨fun q => absurd q (by decide), fun _ => A0 ?_⟩
        have hq : a_longer cs hs to c size weight = _ := (if_pos ⟨yt, y⟩).trans (if_pos ⟨y2, y3⟩)
        obtain ⟨t, rfl⟩ := Int.eq_ofNat_of_zero_le yt.1
        obtain ⟨n, rfl, hn, hp⟩ := y.nat
        obtain ⟨s, rfl⟩ := Int.eq_ofNat_of_zero_le (show 0 ≤ size by omega)
        obtain ⟨u, rfl⟩ := Int.eq_ofNat_of_zero_le (show 0 ≤ weight by omega)
        simp only [Int.toNat_natCast] at hq ⊢
        have hA := (hR n hn).2
        refine s1_clear (fun μ2 o2 r2 => ⟨by omega, ?_⟩)
        have hS2 := hS.f o2.kf
        refine s1_addPlaces (f := 0) r2 okC_0 (fun _ => rfl) (hS2.2.1 n hn).1 hA (by omega) (Nat.zero_le _) (fun h0 μ3 o3 => A0 ?_) (fun N1 hl1 hN1 hm1 μ3 o3 r3 => A1 ?_)
        · rw [show layF (cs n) 0 (cN (cs n)) C0 = none from h0] at hq
          exact a7_no HQ (hS2.f o3.kf) hq
        have hl1 : layF (cs n) 0 (cN (cs n)) C0 = some N1 := hl1
        rw [hl1] at hq
        have hq : a_longer cs hs (t : Int) (n : Int) (s : Int) (u : Int) = (match addO N1 s u with
              | none => a_no cs hs 3
              | some N2 => a_yes cs hs (t : Int) (longC N2 (cs n) s)) := hq
        have hS3 := hS2.f o3.kf
        refine s1_addPlace r3 hN1 hm1 (by omega) (by omega) (fun h0 => B0 ?_) (fun μ4 hao o4 r4 => B1 ?_)
        · rw [h0] at hq
          exact a7_no HQ hS3 hq
        rw [hao] at hq
        have hao2 := hao
        unfold addO at hao2
        have h8w : ¬ (cN N1 = 8 ∨ 256 < cW N1 * s) := fun q => by rw [if_pos q] at hao2; cases hao2
        have hN18 := hN1.1
        have hN2 := okC_addP hN1 hm1 (by omega) (show 2 ≤ s ∧ s ≤ 4 by omega) (show 1 ≤ u ∧ u ≤ 3 by omega) (by omega)
        have hW1 : cW N1 = cW (cs n) := by
          rw [(layF_W hl1).1, show wdF (fun i => cS (cs n) (0 + i)) (cN (cs n)) = cW (cs n) from wdF_cong fun i _ => by rw [Nat.zero_add], show cW C0 = 1 from rfl, Nat.one_mul]
        have hW2 : cW (addP N1 s u) = cW (cs n) * s := by
          have e1 : wdF (cS (addP N1 s u)) (cN N1) = cW N1 := wdF_cong fun i hi => if_neg (by omega)
          show wdF (cS (addP N1 s u)) (cN N1) * (if cN N1 = cN N1 then s else cS N1 (cN N1)) = _
          rw [e1, if_pos rfl, hW1]
        have hS4 := hS3.f o4.kf
        have hNn : 0 < cN (addP N1 s u) := Nat.succ_pos _
        rw [← mkM_no (N := addP N1 s u) hm1] at r4
        refine s1_putLonger r4 hN2 hNn (hS4.2.1 n hn).1 hA (by omega) (by omega) hW2 (fun μ5 o5 r5 => ?_)
        have e5 : mkM (addP N1 s u) (lgM (cs n) s (cW (cs n))) = longC (addP N1 s u) (cs n) s := mkM_and (addP N1 s u) (fun x => cM (cs n) (x / s)) (cW (cs n) * s)
        rw [e5] at r5
        exact a7_yes HQ (hS4.f o5.kf) (by omega) r5 (okC_mkC hN2 hNn (by omega) (fun w hw => by cases hw)) rfl hq
  have f20 : ∀ s0 : Int, (s0 = 0 ∧ ¬ ((0 ≤ to ∧ to < 8) ∧ isK cs c)) ∨ (s0 = 1 ∧ (0 ≤ to ∧ to < 8) ∧ isK cs c) → wp_X7_longer_20 Q to c size weight s0 μ := by
    intro s0 h0
    refine ⟨fun q => A0 (f40 s0 0 h0 (Or.inl ⟨rfl, by omega⟩)), fun q => ⟨fun q2 => A0 (f40 s0 0 h0 (Or.inl ⟨rfl, by omega⟩)), fun q2 => A1 ⟨fun q3 => A0 (f40 s0 0 h0 (Or.inl ⟨rfl, by omega⟩)), fun q3 => ⟨fun q4 => A0 (f40 s0 0 h0 (Or.inl ⟨rfl, by omega⟩)), fun q4 => A1 (f40 s0 1 h0 (Or.inr ⟨rfl, by omega, by omega⟩))⟩⟩⟩⟩
  exact c7_isTo (fun n => A0 (f20 0 (Or.inl ⟨rfl, fun q => n q.1⟩))) (fun yt => A1 (c7_isK hR (fun n => A0 (f20 0 (Or.inl ⟨rfl, fun q => n q.2⟩))) (fun y => A1 (f20 1 (Or.inr ⟨rfl, yt, y⟩)))))
theorem s7_shorter (hR : krs μ cs) (hH : khs μ cs hs) (HQ : KA Q μ (a_shorter cs hs to c i d)) : wp_X7_shorter to c i d μ Q := by
  have hS : ks μ μ cs hs := ⟨kf.rf, hR, hH⟩
  refine c7_isTo (fun n => A0 (a7_no HQ hS (if_neg (fun q => n q.1)))) (fun yt => A1 ?_)
  refine c7_isP hR (fun n => B0 (a7_no HQ hS (if_neg (fun q => n q.2)))) (fun y => B1 ?_)
  have hq : a_shorter cs hs to c i d = _ := if_pos ⟨yt, y⟩
  obtain ⟨t, rfl⟩ := Int.eq_ofNat_of_zero_le yt.1
  obtain ⟨n, u, rfl, rfl, hn, hp, hu⟩ := y.nat
  simp only [Int.toNat_natCast] at hq
  have hA := (hR n hn).2
  refine c7_isD hR hn hu (fun q => B0 (a7_no HQ hS (hq.trans (if_neg q)))) (fun q => B1 ⟨by omega, ?_⟩)
  rw [if_pos q] at hq
  obtain ⟨e, rfl⟩ := Int.eq_ofNat_of_zero_le q.1
  simp only [Int.toNat_natCast] at hq ⊢
  rw [(hR n hn).1.2.1]
  refine ⟨fun q2 => ?_, fun q2 => a7_no HQ hS (hq.trans (if_pos (by omega)))⟩
  rw [if_neg (by omega)] at hq
  refine s1_clear (fun μ2 o2 r2 => ?_)
  have hS2 := hS.f o2.kf
  refine s1_addPlacesBut r2 (hS2.2.1 n hn).1 hA (by omega) hu (fun μ3 o3 r3 => ?_)
  have hS3 := hS2.f o3.kf
  have hok := okC_shP hA hu
  have hn3 : 0 < cN (shP (cs n) u) := by show 0 < cN (cs n) - 1; omega
  have r3' : crep μ3 23 (mkM (shP (cs n) u) noM) := r3
  refine s1_putShorter r3' hok hn3 (hS3.2.1 n hn).1 hA (by omega) hu (by omega) (cW_shP hu) (fun μ5 o5 r5 => ?_)
  have e5 : mkM (shP (cs n) u) (fun x => decide (x < wdF (cS (cs n)) u * tlF (cs n) u) && shM (cs n) (tlF (cs n) u) (cS (cs n) u) e x) = shC (cs n) u e := by
    unfold shC
    rw [cW_shP hu]
    exact mkM_and (shP (cs n) u) (fun x => cM (cs n) ((x / tlF (cs n) u * cS (cs n) u + e) * tlF (cs n) u + x % tlF (cs n) u)) _
  rw [e5] at r5
  exact a7_yes HQ (hS3.f o5.kf) (by omega) r5 (okC_mkC hok hn3 (Nat.le_refl _) (fun w hw => by cases hw)) rfl hq
theorem s7_swap (hR : krs μ cs) (hH : khs μ cs hs) (HQ : KA Q μ (a_swap cs hs to c i j)) : wp_X7_swap to c i j μ Q := by
  have hS : ks μ μ cs hs := ⟨kf.rf, hR, hH⟩
  refine c7_isTo (fun n => A0 (a7_noB HQ hS (if_neg (fun q => n q.1)))) (fun yt => A1 ?_)
  refine c7_isP hR (fun n => A0 (a7_noB HQ hS (if_neg (fun q => n q.2.1)))) (fun y => A1 ?_)
  refine c7_isP hR (fun n => B0 (a7_noB HQ hS (if_neg (fun q => n q.2.2)))) (fun y2 => B1 ?_)
  have hq : a_swap cs hs to c i j = _ := if_pos ⟨yt, y, y2⟩
  obtain ⟨t, rfl⟩ := Int.eq_ofNat_of_zero_le yt.1
  obtain ⟨n, u, rfl, rfl, hn, hp, hu⟩ := y.nat
  obtain ⟨n', x, e, rfl, -, -, hx⟩ := y2.nat
  obtain rfl : n = n' := by omega
  simp only [Int.toNat_natCast] at hq ⊢
  have hA := (hR n hn).2
  refine ⟨by omega, s3_lay (hR n hn).1 hA (by omega) fun μ1 o1 g1 => s1_clear (fun μ2 o2 r2 => ?_)⟩
  have hS2 := (hS.f o1.k.kf).f o2.kf
  have g2 := g1.o o2 (by omega)
  refine s1_addPlacesSwapped r2 (hS2.2.1 n hn).1 hA (by omega) hu hx (fun μ3 o3 r3 => ?_)
  have hS3 := hS2.f o3.kf
  have g3 := g2.o o3 (by omega)
  have r3' : crep μ3 23 (mkM (swP (cs n) u x noM) noM) := r3
  exact s1_putSwapped r3' (hS3.2.1 n hn).1 hA g3 (by omega) (by omega) hu hx (fun μ4 o4 r4 => a7_yesB HQ (hS3.f o4.kf) (by omega) r4 (okC_swC hA hu hx) rfl hq)
theorem s7_shift (hR : krs μ cs) (hH : khs μ cs hs) (HQ : KA Q μ (a_shift cs hs to c i k)) : wp_X7_shift to c i k μ Q := by
  have hS : ks μ μ cs hs := ⟨kf.rf, hR, hH⟩
  have f37 : ∀ s0 s1 : Int, (s0 = 0 ∧ ¬ ((0 ≤ to ∧ to < 8) ∧ isPl cs c i)) ∨ (s0 = 1 ∧ (0 ≤ to ∧ to < 8) ∧ isPl cs c i) → (s1 = 0 ∧ ¬ (0 ≤ k ∧ k ≤ 3)) ∨ (s1 = 1 ∧ 0 ≤ k ∧ k ≤ 3) → wp_X7_shift_37 Q to c i k s0 s1 μ := by
    intro s0 s1 h0 h1
    rcases h0 with ⟨rfl, n⟩ | ⟨rfl, yt, y⟩
    · exact ⟨fun q => absurd rfl q, fun _ => A1 (a7_noB HQ hS (if_neg n))⟩
    · refine ⟨fun _ => ?_, fun q => absurd q (by decide)⟩
      rcases h1 with ⟨rfl, n⟩ | ⟨rfl, y2⟩
      · exact ⟨fun _ => A2 (a7_noB HQ hS ((if_pos ⟨yt, y⟩).trans (if_neg n))), fun q => absurd rfl q⟩
      · refine ⟨fun q => absurd q (by decide), fun _ => A0 ?_⟩
        have hq : a_shift cs hs to c i k = _ := (if_pos ⟨yt, y⟩).trans (if_pos y2)
        obtain ⟨t, rfl⟩ := Int.eq_ofNat_of_zero_le yt.1
        obtain ⟨n, u, rfl, rfl, hn, hp, hu⟩ := y.nat
        obtain ⟨e, rfl⟩ := Int.eq_ofNat_of_zero_le y2.1
        simp only [Int.toNat_natCast] at hq ⊢
        have hA := (hR n hn).2
        refine ⟨by omega, s1_copySpace (hR n hn).1 hA.1 hp (by omega) (fun μ2 o2 r2 => ?_)⟩
        have hS2 := hS.f o2.kf
        have r2' : crep μ2 23 (mkM (cs n) noM) := r2
        exact s1_putShifted r2' hp (hS2.2.1 n hn).1 hA (by omega) hu (by omega) (fun μ3 o3 r3 => a7_yesB HQ (hS2.f o3.kf) (by omega) r3 (okC_siC hA hp) rfl hq)
  have f21 : ∀ s0 : Int, (s0 = 0 ∧ ¬ ((0 ≤ to ∧ to < 8) ∧ isPl cs c i)) ∨ (s0 = 1 ∧ (0 ≤ to ∧ to < 8) ∧ isPl cs c i) → wp_X7_shift_21 Q to c i k s0 μ := fun s0 h0 =>
    ⟨fun q => f37 s0 0 h0 (Or.inl ⟨rfl, by omega⟩), fun q => ⟨fun q2 => f37 s0 0 h0 (Or.inl ⟨rfl, by omega⟩), fun q2 => f37 s0 1 h0 (Or.inr ⟨rfl, by omega, by omega⟩)⟩⟩
  exact c7_isTo (fun n => A0 (f21 0 (Or.inl ⟨rfl, fun q => n q.1⟩))) (fun yt => A1 (c7_isP hR (fun n => A0 (f21 0 (Or.inl ⟨rfl, fun q => n q.2⟩))) (fun y => A1 (f21 1 (Or.inr ⟨rfl, yt, y⟩)))))
theorem s7_mix (hR : krs μ cs) (hH : khs μ cs hs) (HQ : KA Q μ (a_mix cs hs to one other a)) : wp_X7_mix to one other a μ Q := by
  have hS : ks μ μ cs hs := ⟨kf.rf, hR, hH⟩
  refine c7_isTo (fun n => A0 (a7_no HQ hS (if_neg (fun q => n q.1)))) (fun yt => A1 ?_)
  refine c7_isK hR (fun n => A0 (a7_no HQ hS (if_neg (fun q => n q.2.1)))) (fun y1 => A1 ?_)
  refine c7_isK hR (fun n => A0 (a7_no HQ hS (if_neg (fun q => n q.2.2.1)))) (fun y2 => A1 ⟨fun q => a7_no HQ hS (if_neg (fun z => by omega)), fun q => ⟨fun q2 => ?_, fun q2 => a7_no HQ hS (if_neg (fun z => by omega))⟩⟩)
  have hq : a_mix cs hs to one other a = _ := if_pos ⟨yt, y1, y2, by omega, q2⟩
  obtain ⟨t, rfl⟩ := Int.eq_ofNat_of_zero_le yt.1
  obtain ⟨n, rfl, hn, hp⟩ := y1.nat
  obtain ⟨m, rfl, hm8, hp2⟩ := y2.nat
  simp only [Int.toNat_natCast] at hq ⊢
  have hA := (hR n hn).2
  have hB := (hR m hm8).2
  refine ⟨by omega, by omega, s1_hasSpaceOf (hR n hn).1 hA (hR m hm8).1 (fun z => B0 (a7_no HQ hS (hq.trans (if_neg (fun e => z (spB_iff.mp e)))))) (fun z => B1 ?_)⟩
  rw [if_pos (spB_iff.mpr z)] at hq
  refine s1_copySpace (hR n hn).1 hA.1 hp (by omega) (fun μ2 o2 r2 => ?_)
  have hS2 := hS.f o2.kf
  have r2' : crep μ2 23 (mkM (cs n) noM) := r2
  refine s1_putMixed r2' hA hp (hS2.2.1 n hn).1 hA (hS2.2.1 m hm8).1 hB (by omega) (by omega) (fun μ3 o3 r3 => ?_)
  have e3 : mkM (cs n) (miM (cs n) (cs m) a (cW (cs n))) = mixC (cs n) (cs m) a := (mkM_and (cs n) (fun x => mixB a (cM (cs n) x) (cM (cs m) x)) (cW (cs n))).trans (mkC_base hA _).symm
  rw [e3] at r3
  exact a7_yes HQ (hS2.f o3.kf) (by omega) r3 (okC_mkC hA hp (Nat.le_refl _) (fun w hw => hA.2.2.2.2.1 w hw)) rfl hq
theorem s7_holes (hR : krs μ cs) (hH : khs μ cs hs) (HQ : KA Q μ (a_holes cs hs to c r)) : wp_X7_holes to c r μ Q := by
  have hS : ks μ μ cs hs := ⟨kf.rf, hR, hH⟩
  have no : ¬ ((0 ≤ to ∧ to < 8) ∧ isK cs c) → wp_X7_holes_19 Q to c r μ := fun h => f7_0 (A1 (a7_no HQ hS (if_neg h)))
  refine c7_isTo (fun n => A0 (no fun q => n q.1)) (fun yt => A1 (c7_isK hR (fun n => A0 (no fun q => n q.2)) (fun y => A1 (f7_1 (fun n => A2 (a7_no HQ hS ((if_pos ⟨yt, y⟩).trans (if_neg n)))) (fun y2 => A0 ⟨⟨y.1, y.2.1⟩, ?_⟩)))))
  have hq : a_holes cs hs to c r = _ := (if_pos ⟨yt, y⟩).trans (if_pos y2)
  obtain ⟨t, rfl⟩ := Int.eq_ofNat_of_zero_le yt.1
  obtain ⟨n, rfl, hn, hp⟩ := y.nat
  obtain ⟨m, rfl, hm⟩ := y2.nat
  simp only [Int.toNat_natCast] at hq ⊢
  have hA := (hR n hn).2
  have h8 := hA.2.2.2.1
  refine s7_layTimes (hR n hn).1 hA (by omega) (fun μ1 o1 p1 g1 t1 => s1_copySpace p1 hA.1 hp (by omega) (fun μ2 o2 r2 => ?_))
  have t2 : ∀ x, x < cW (cs n) → μ2.1 72 x = (tmF (cs n) m x : Int) := fun x hx => by rw [(o2 72 (by omega)).1]; exact t1 x hx
  have hS2 := (hS.f o1.kf).f o2.kf
  have r2' : crep μ2 23 (mkM (cs n) (fun x => decide (x < 0) && decide (tmF (cs n) m x = 0))) := by
    rw [show (fun x => decide (x < 0) && decide (tmF (cs n) m x = 0)) = noM from funext fun x => by rw [decide_eq_false (Nat.not_lt_zero x), Bool.false_and]; rfl]
    exact r2
  refine LP3_rule (fun (v1 v5 : Int) (μ3 : Mem) => v1 = (t : Int) ∧ oC 23 μ2 μ3 ∧ ∃ x : Nat, v5 = (x : Int) ∧ x ≤ cW (cs n) ∧ crep μ3 23 (mkM (cs n) (fun y => decide (y < x) && decide (tmF (cs n) m y = 0)))) (fun _ v5 _ => ((cW (cs n) : Int) - v5).toNat) ?_ ⟨rfl, oC.rf, 0, rfl, Nat.zero_le _, r2'⟩
  rintro X v1 v5 μ3 ⟨rfl, o3, x, rfl, hx, r3⟩ hX
  have w3 : μ3.1 23 2 = (cW (cs n) : Int) := r3.2.2.1
  unfold wp_X7_holes_68
  rw [w3, Int.toNat_natCast]
  have hM : ∀ w, (decide (w < x) && decide (tmF (cs n) m w = 0)) = true → w < cW (cs n) := fun w hw => by
    rw [Bool.and_eq_true] at hw
    have := of_decide_eq_true hw.1
    omega
  refine ⟨fun q => ?_, fun q => ⟨by omega, ?_⟩⟩
  · have e : x = cW (cs n) := by omega
    subst e
    have e3 : mkM (cs n) (fun y => decide (y < cW (cs n)) && decide (tmF (cs n) m y = 0)) = holC (cs n) m := (mkM_and (cs n) (fun y => decide (tmF (cs n) m y = 0)) (cW (cs n))).trans (mkC_base hA _).symm
    rw [e3] at r3
    exact a7_yes HQ (hS2.f o3.kf) (by omega) r3 (okC_mkC hA hp (Nat.le_refl _) (fun w hw => hA.2.2.2.2.1 w hw)) rfl hq
  · rw [(o3 72 (by omega)).1, t2 x (by omega)]
    refine ⟨fun q2 => ⟨inR_i (by omega) (by omega), hX _ _ _ ⟨rfl, o3, x + 1, rfl, by omega, ?_⟩ (by omega)⟩, fun q2 => s1_putM r3 hA hp hM (by omega) (fun μ4 o4 r4 => ⟨inR_i (by omega) (by omega), hX _ _ _ ⟨rfl, o3.tr o4, x + 1, rfl, by omega, ?_⟩ (by omega)⟩)⟩
    · rw [show (fun y => decide (y < x + 1) && decide (tmF (cs n) m y = 0)) = (fun y => decide (y < x) && decide (tmF (cs n) m y = 0)) from funext fun y => ?_]
      · exact r3
      · by_cases e : y = x
        · rw [e, decide_eq_false (show ¬ tmF (cs n) m x = 0 by omega), Bool.and_false, Bool.and_false]
        · rw [show decide (y < x + 1) = decide (y < x) from decide_eq_decide.mpr (by omega)]
    · rw [show (fun y => decide (y < x + 1) && decide (tmF (cs n) m y = 0)) = (fun v => if v = x then true else (decide (v < x) && decide (tmF (cs n) m v = 0))) from funext fun y => ?_]
      · exact r4
      · by_cases e : y = x
        · rw [if_pos e, e, decide_eq_true (show tmF (cs n) m x = 0 by omega), decide_eq_true (show x < x + 1 by omega)]; rfl
        · rw [if_neg e, show decide (y < x + 1) = decide (y < x) from decide_eq_decide.mpr (by omega)]
end KZ

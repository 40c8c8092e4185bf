/-! ===== the reference: shorter, swap, shift ===== -/
theorem wdF_split (s : Nat → Nat) (a : Nat) : ∀ b, wdF s (a + b) = wdF s a * wdF (fun q => s (a + q)) b
  | 0 => (Nat.mul_one _).symm
  | b + 1 => by
    show wdF s (a + b) * s (a + b) = wdF s a * (wdF (fun q => s (a + q)) b * s (a + b))
    rw [wdF_split s a b, Nat.mul_assoc]
/-- how many words the places behind i make -/
def tlF (C : Cd) (i : Nat) : Nat := wdF (fun q => cS C (i + 1 + q)) (cN C - 1 - i)
theorem cW_tl {C : Cd} {i : Nat} (hi : i < cN C) : cW C = wdF (cS C) i * cS C i * tlF C i := by
  have h := wdF_split (cS C) (i + 1) (cN C - 1 - i)
  rw [show i + 1 + (cN C - 1 - i) = cN C by omega] at h
  exact h
theorem dgF_div (s : Nat → Nat) (i : Nat) : ∀ (n w : Nat), dgF s (i + 1 + n) w i = w / wdF (fun q => s (i + 1 + q)) n % s i
  | 0, w => by
    show (if i = i then w % s i else _) = w / 1 % s i
    rw [if_pos rfl, Nat.div_one]
  | n + 1, w => by
    show (if i = i + 1 + n then _ else dgF s (i + 1 + n) (w / s (i + 1 + n)) i) = w / (wdF (fun q => s (i + 1 + q)) n * s (i + 1 + n)) % s i
    rw [if_neg (by omega), dgF_div s i n, Nat.div_div_eq_div_mul, Nat.mul_comm]
theorem cD_tl {C : Cd} {i : Nat} (hi : i < cN C) (w : Nat) : cD C w i = w / tlF C i % cS C i := by
  have h := dgF_div (cS C) i (cN C - 1 - i) w
  rw [show i + 1 + (cN C - 1 - i) = cN C by omega] at h
  exact h
theorem tlF_pos {C : Cd} (h : okC C) (i : Nat) : 1 ≤ tlF C i := wdF_pos fun q hq => by have := (h.2.1 (i + 1 + q) (by omega)).1; omega
theorem rowOf.ext {g : Nat → Int} {c : Nat} {C D : Cd} (h : rowOf g c C) (h1 : cN D = cN C) (h2 : ∀ i, i < cN C → cS D i = cS C i ∧ cT D i = cT C i) (h3 : ∀ w, w < 256 → cM D w = cM C w) : rowOf g c D :=
  ⟨by rw [h1]; exact h.1, fun i hi => by rw [(h2 i (by omega)).1, (h2 i (by omega)).2]; exact h.2.1 i (by omega), fun w hw => by rw [h3 w hw]; exact h.2.2 w hw⟩
def dropS (f : Nat → Nat) (i : Nat) : Nat → Nat := fun j => if j < i then f j else f (j + 1)
theorem wdF_drop (s : Nat → Nat) (i : Nat) : ∀ n, wdF (dropS s i) (i + n) = wdF s i * wdF (fun q => s (i + 1 + q)) n
  | 0 => by
    show wdF (dropS s i) i = wdF s i * 1
    rw [Nat.mul_one]
    exact wdF_cong fun j hj => if_pos hj
  | n + 1 => by
    show wdF (dropS s i) (i + n) * dropS s i (i + n) = wdF s i * (wdF (fun q => s (i + 1 + q)) n * s (i + 1 + n))
    rw [wdF_drop s i n, Nat.mul_assoc]
    congr 2
    show (if i + n < i then _ else s (i + n + 1)) = _
    rw [if_neg (by omega), show i + n + 1 = i + 1 + n by omega]
/-- without place i: the words that have digit d there -/
def shP (C : Cd) (i : Nat) : Cd := (cN C - 1, dropS (cS C) i, dropS (cT C) i, noM)
def shC (C : Cd) (i d : Nat) : Cd := mkC (shP C i) noM (fun x => cM C ((x / tlF C i * cS C i + d) * tlF C i + x % tlF C i)) (cW (shP C i))
theorem cW_shP {C : Cd} {i : Nat} (hi : i < cN C) : cW (shP C i) = wdF (cS C) i * tlF C i := by
  have h := wdF_drop (cS C) i (cN C - 1 - i)
  rw [show i + (cN C - 1 - i) = cN C - 1 by omega] at h
  exact h
theorem okC_shP {C : Cd} {i : Nat} (h : okC C) (hi : i < cN C) : okC (shP C i) := by
  have h8 := h.1
  have hw := h.2.2.2.1
  refine ⟨by show cN C - 1 ≤ 8; omega, fun j hj => ?_, fun j hj => ?_, ?_, fun w hw => (by cases hw), fun _ _ => rfl⟩
  · have hj : j < cN C - 1 := hj
    show 2 ≤ (if j < i then cS C j else cS C (j + 1)) ∧ (if j < i then cS C j else cS C (j + 1)) ≤ 4
    split
    · exact h.2.1 j (by omega)
    · exact h.2.1 (j + 1) (by omega)
  · have hj : j < cN C - 1 := hj
    show 1 ≤ (if j < i then cT C j else cT C (j + 1)) ∧ (if j < i then cT C j else cT C (j + 1)) ≤ 3
    split
    · exact h.2.2.1 j (by omega)
    · exact h.2.2.1 (j + 1) (by omega)
  · rw [cW_shP hi]
    rw [cW_tl hi] at hw
    have h2 := (h.2.1 i hi).1
    have : wdF (cS C) i * 1 ≤ wdF (cS C) i * cS C i := Nat.mul_le_mul_left _ (by omega)
    have := Nat.mul_le_mul_right (tlF C i) this
    rw [Nat.mul_one] at this
    omega
def a_shorter (cs : Nat → Cd) (hs : List (Nat → Cd)) (to c i d : Int) : AR := if (0 ≤ to ∧ to < 8) ∧ isPl cs c i then
    (if 0 ≤ d ∧ d < (cS (cs c.toNat) i.toNat : Int) then (if cN (cs c.toNat) = 1 then a_no cs hs 5 else a_yes cs hs to (shC (cs c.toNat) i.toNat d.toNat)) else a_no cs hs 2)
  else a_no cs hs 1
/-- of three numbers in one -/
theorem tri {h s e T t : Nat} (he : e < s) (ht : t < T) : ((h * s + e) * T + t) / T / s = h ∧ ((h * s + e) * T + t) / T % s = e ∧ ((h * s + e) * T + t) % T = t := by
  obtain ⟨h1, h2⟩ := mul_div_mod (a := h * s + e) ht
  obtain ⟨h3, h4⟩ := mul_div_mod (a := h) he
  exact ⟨by rw [h1, h3], by rw [h1, h4], h2⟩
theorem tri_of {s T : Nat} (w : Nat) : w = (w / T / s * s + w / T % s) * T + w % T := by
  have h1 : w / T / s * s + w / T % s = w / T := by rw [Nat.mul_comm]; exact Nat.div_add_mod _ _
  rw [h1, Nat.mul_comm]
  exact (Nat.div_add_mod _ _).symm
section RX
variable {μ : Mem} {cs : Nat → Cd} {hs : List (Nat → Cd)} {Q : Int → Mem → Prop} {c w v i j k r a d p to one other size weight : Int}
theorem s8_shorter (hR : mrs μ cs) (hH : mhs μ hs) (HQ : QB Q μ (a_shorter cs hs to c i d)) : wp_X8_shorter to c i d μ Q := by
  intro μ1 e1
  have hm := ms_0 hR hH e1
  refine c_isTo (fun n => A0 (a_ref (HQ.at (if_neg (fun q => n q.1))) hm rfl)) (fun yt => A1 ?_)
  refine c_isPl hm.2.1 (fun n => B0 (a_ref (HQ.at (if_neg (fun q => n q.2))) hm rfl)) (fun y1 => B1 ?_)
  have hq : a_shorter cs hs to c i d = _ := if_pos ⟨yt, y1⟩
  obtain ⟨t, rfl⟩ := Int.eq_ofNat_of_zero_le yt.1
  obtain ⟨n, u, rfl, rfl, hn, hp, hu⟩ := y1.nat
  simp only [Int.toNat_natCast] at hq
  have hC := (hR n hn).2
  have h8 := hC.1
  have hw8 := hC.2.2.2.1
  have hsz := hC.2.1 u hu
  refine s_sizeOf (hm.2.1 n hn).1 (by omega) hC hu ⟨inR_i (by omega) (by omega), c_in (fun n => B0 (a_ref (HQ.at (hq.trans (if_neg (fun q => n (by omega))))) hm rfl)) (fun y2 => B1 ?_)⟩
  rw [if_pos (by omega)] at hq
  obtain ⟨dd, rfl⟩ := Int.eq_ofNat_of_zero_le y2.1
  simp only [Int.toNat_natCast] at hq
  have hdd : dd < cS (cs n) u := by omega
  refine s_places (hm.2.1 n hn).1 (by omega) ⟨fun q => ?_, fun q => a_ref (HQ.at (hq.trans (if_pos (by omega)))) hm rfl⟩
  rw [if_neg (by omega)] at hq
  have hP := okC_shP hC hu
  have hWP := cW_shP hu
  have hWC := cW_tl hu
  have hTpos := tlF_pos hC u
  have hP256 := hP.2.2.2.1
  generalize hTe : tlF (cs n) u = T at *
  generalize hHe : wdF (cS (cs n)) u = HH at *
  generalize hse : cS (cs n) u = s at *
  refine s_clears (c := 12) (by omega) (fun μ2 ho2 hr2 => ?_)
  have hm2 := hm.w ho2 (by omega)
  refine LP7_rule (fun (v1 v2 v3 v4 v5 v6 : Int) (μ3 : Mem) => v1 = (t : Int) ∧ v2 = (n : Int) ∧ v3 = (u : Int) ∧ v4 = (dd : Int) ∧ orow μ2 μ3 12 ∧ ∃ k : Nat, v6 = (k : Int) ∧ k ≤ cN (cs n) ∧ v5 = ((wdF (fun q => cS (cs n) (u + 1 + q)) (k - 1 - u) : Nat) : Int) ∧ mrow μ3 12 ((if k ≤ u then k else k - 1), dropS (cS (cs n)) u, dropS (cT (cs n)) u, noM)) (fun _ _ _ _ _ v6 _ => ((cN (cs n) : Int) - v6).toNat) ?_ ⟨rfl, rfl, rfl, rfl, orow.rf, 0, rfl, Nat.zero_le _, by rw [show 0 - 1 - u = 0 by omega]; rfl, by
    rw [if_pos (Nat.zero_le _)]
    exact rowOf.ext hr2 rfl (fun i hi => absurd hi (Nat.not_lt_zero i)) (fun _ _ => rfl)⟩
  rintro X v1 v2 v3 v4 v5 v6 μ3 ⟨rfl, rfl, rfl, rfl, ho3, k, rfl, hk, rfl, hr3⟩ hX
  have hm3 := hm2.w ho3 (by omega)
  refine s_places (hm3.2.1 n hn).1 (by omega) ⟨fun q2 => ?_, fun q2 => ?_⟩
  · -- all places stand: the words
    have ek : k = cN (cs n) := by omega
    subst ek
    rw [if_neg (by omega)] at hr3
    have eT : wdF (fun q => cS (cs n) (u + 1 + q)) (cN (cs n) - 1 - u) = T := hTe
    rw [eT]
    generalize hge : (fun x => cM (cs n) ((x / T * s + dd) * T + x % T)) = g
    have hg : ∀ x, g x = cM (cs n) ((x / T * s + dd) * T + x % T) := fun x => by rw [← hge]
    have hshC : shC (cs n) u dd = mkC (shP (cs n) u) noM g (HH * T) := by rw [← hge, ← hWP]; unfold shC; rw [hTe, hse]
    refine LP7_rule (fun (v1 v2 v3 v4 v5 v6 : Int) (μ4 : Mem) => v1 = (t : Int) ∧ v2 = (n : Int) ∧ v3 = (u : Int) ∧ v4 = (dd : Int) ∧ v5 = (T : Int) ∧ ∃ w : Nat, v6 = (w : Int) ∧ w ≤ cW (cs n) ∧ orow μ3 μ4 12 ∧ mrow μ4 12 (cN (cs n) - 1, dropS (cS (cs n)) u, dropS (cT (cs n)) u, fun x => decide ((x / T * s + dd) * T + x % T < w) && (decide (x < HH * T) && g x))) (fun _ _ _ _ _ v6 _ => ((cW (cs n) : Int) - v6).toNat) ?_ ⟨rfl, rfl, rfl, rfl, rfl, 0, rfl, Nat.zero_le _, orow.rf, by
      refine rowOf.ext hr3 rfl (fun _ _ => ⟨rfl, rfl⟩) (fun x _ => ?_)
      show (decide ((x / T * s + dd) * T + x % T < 0) && (decide (x < HH * T) && g x)) = false
      rw [decide_eq_false (Nat.not_lt_zero _)]; rfl⟩
    rintro X2 v1 v2 v3 v4 v5 v6 μ4 ⟨rfl, rfl, rfl, rfl, rfl, w, rfl, hw, ho4, hr4⟩ hX2
    have hm4 := hm3.w ho4 (by omega)
    refine s_words (hm4.2.1 n hn).1 (by omega) hC ⟨fun q3 => ?_, fun q3 => ?_⟩
    · have ew : w = cW (cs n) := by omega
      subst ew
      have hr5 : mrow μ4 12 (shC (cs n) u dd) := by
        rw [hshC]
        refine rowOf.ext hr4 rfl (fun _ _ => ⟨rfl, rfl⟩) (fun x _ => ?_)
        show (if x < HH * T then g x else false) = (decide ((x / T * s + dd) * T + x % T < cW (cs n)) && (decide (x < HH * T) && g x))
        by_cases hx : x < HH * T
        · have h1 : x / T < HH := Nat.div_lt_of_lt_mul (by rw [Nat.mul_comm]; exact hx)
          have h2 := div_add_lt h1 hdd
          have h3 := div_add_lt h2 (Nat.mod_lt x (show 0 < T by omega))
          rw [if_pos hx, decide_eq_true hx, decide_eq_true (by omega), Bool.true_and, Bool.true_and]
        · rw [if_neg hx, decide_eq_false hx, Bool.false_and, Bool.and_false]
      have hC' : okC (shC (cs n) u dd) := by rw [hshC]; exact okC_mkC hP (by show 0 < cN (cs n) - 1; omega) (by omega) (fun w hw => by cases hw)
      exact s_becomes (by omega) hm4 hr5 hC' (fun μ6 hm6 => a_good (HQ.at hq) hm6 rfl)
    · -- one word more
      have key : ∀ x, (x / T * s + dd) * T + x % T = w → w / T % s = dd ∧ x = w / T / s * T + w % T := by
        intro x hx
        obtain ⟨a1, a2, a3⟩ := tri (h := x / T) hdd (Nat.mod_lt x (show 0 < T by omega))
        rw [hx] at a1 a2 a3
        refine ⟨a2, ?_⟩
        rw [a1, a3, Nat.mul_comm]
        exact (Nat.div_add_mod _ _).symm
      have step : (¬ (cM (cs n) w = true ∧ w / T % s = dd)) → ∀ x, (decide ((x / T * s + dd) * T + x % T < w + 1) && (decide (x < HH * T) && g x)) = (decide ((x / T * s + dd) * T + x % T < w) && (decide (x < HH * T) && g x)) := by
        intro hno x
        by_cases hx : (x / T * s + dd) * T + x % T = w
        · have hgx : g x = false := by
            rw [hg, hx]
            cases hmw : cM (cs n) w
            · rfl
            · exact absurd ⟨hmw, (key x hx).1⟩ hno
          rw [hgx, Bool.and_false, Bool.and_false, Bool.and_false]
        · by_cases hl : (x / T * s + dd) * T + x % T < w
          · rw [decide_eq_true hl, decide_eq_true (by omega)]
          · rw [decide_eq_false hl, decide_eq_false (by omega)]
      have skip : (¬ (cM (cs n) w = true ∧ w / T % s = dd)) → ∀ μ5, μ5 = μ4 → inR ((w : Int) + 1) ∧ X2 (t : Int) (n : Int) (u : Int) (dd : Int) (T : Int) ((w : Int) + 1) μ5 := by
        rintro hno μ5 rfl
        exact ⟨inR_i (by omega) (by omega), hX2 _ _ _ _ _ _ _ ⟨rfl, rfl, rfl, rfl, rfl, w + 1, rfl, by omega, ho4, rowOf.ext hr4 rfl (fun _ _ => ⟨rfl, rfl⟩) (fun x _ => step hno x)⟩ (by omega)⟩
      refine s_isIn (hm4.2.1 n hn).1 (by omega) (by omega) ⟨fun q4 => skip (fun y => by rw [bI_0.mp q4] at y; exact absurd y.1 (by decide)) μ4 rfl, fun q4 => ?_⟩
      refine s_digitOf (hm4.2.1 n hn).1 (by omega) hC (by omega) hu ?_
      rw [cD_tl hu, hTe, hse]
      refine ⟨fun q5 => skip (fun y => q5 (by rw [y.2])) μ4 rfl, fun q5 => ?_⟩
      have q5 : w / T % s = dd := by omega
      have hmw := bI_n0.mp q4
      refine ⟨⟨by omega, by omega⟩, s_sizeOf (hm4.2.1 n hn).1 (by omega) hC hu ?_⟩
      rw [hse]
      have hwT : w / T / s < HH := by
        apply Nat.div_lt_of_lt_mul
        apply Nat.div_lt_of_lt_mul
        rw [Nat.mul_comm s HH, Nat.mul_comm T]
        omega
      have hlt := div_add_lt hwT (Nat.mod_lt w (show 0 < T by omega))
      have ec : (w : Int) / (T : Int) / (s : Int) * (T : Int) + (w : Int) % (T : Int) = ((w / T / s * T + w % T : Nat) : Int) := by
        rw [Int.natCast_add, Int.natCast_mul, Int.natCast_ediv, Int.natCast_ediv, Int.natCast_emod]
      have ed : (w : Int) / (T : Int) = ((w / T : Nat) : Int) := (Int.natCast_ediv _ _).symm
      rw [ec]
      refine ⟨⟨by rw [ed]; exact Int.natCast_nonneg _, by omega⟩, ⟨by omega, by omega⟩, inR_n (by omega), s_marks (c := 12) (b := true) (by omega) hr4 (by omega) (by show cN (cs n) - 1 ≤ 8; omega) rfl (fun μ5 ho5 hr5 => ⟨inR_i (by omega) (by omega), hX2 _ _ _ _ _ _ _ ⟨rfl, rfl, rfl, rfl, rfl, w + 1, rfl, by omega, ho4.tr ho5, rowOf.ext hr5 rfl (fun _ _ => ⟨rfl, rfl⟩) (fun x _ => ?_)⟩ (by omega)⟩)⟩
      show (decide ((x / T * s + dd) * T + x % T < w + 1) && (decide (x < HH * T) && g x)) = (if x = w / T / s * T + w % T then true else (decide ((x / T * s + dd) * T + x % T < w) && (decide (x < HH * T) && g x)))
      by_cases hx : x = w / T / s * T + w % T
      · rw [if_pos hx]
        obtain ⟨b1, b2⟩ := mul_div_mod (a := w / T / s) (Nat.mod_lt w (show 0 < T by omega))
        have hww : (x / T * s + dd) * T + x % T = w := by
          rw [hx, b1, b2, ← q5]
          exact (tri_of w).symm
        rw [hg, hww, hmw, decide_eq_true (Nat.lt_succ_self w), decide_eq_true (by rw [hx]; exact hlt)]
        rfl
      · rw [if_neg hx]
        by_cases hl : (x / T * s + dd) * T + x % T < w
        · rw [decide_eq_true hl, decide_eq_true (by omega)]
        · have : ¬ (x / T * s + dd) * T + x % T = w := fun e => hx (key x e).2
          rw [decide_eq_false hl, decide_eq_false (by omega)]
  · -- a place more
    have fin : ∀ μ4 : Mem, orow μ2 μ4 12 → mrow μ4 12 ((if k + 1 ≤ u then k + 1 else k), dropS (cS (cs n)) u, dropS (cT (cs n)) u, noM) → wp_X8_shorter_113 Q X (t : Int) (n : Int) (u : Int) (dd : Int) ((wdF (fun q => cS (cs n) (u + 1 + q)) (k - 1 - u) : Nat) : Int) (k : Int) μ4 := by
      intro μ4 ho4 hr4
      have hm4 := hm2.w ho4 (by omega)
      have hr4' : mrow μ4 12 ((if k + 1 ≤ u then k + 1 else k + 1 - 1), dropS (cS (cs n)) u, dropS (cT (cs n)) u, noM) := hr4
      refine ⟨fun q3 => ⟨inR_i (by omega) (by omega), hX _ _ _ _ _ _ _ ⟨rfl, rfl, rfl, rfl, ho4, k + 1, rfl, by omega, by rw [show k + 1 - 1 - u = 0 by omega, show k - 1 - u = 0 by omega], hr4'⟩ (by omega)⟩, fun q3 => ?_⟩
      have hsk := hC.2.1 k (by omega)
      have es : k + 1 - 1 - u = (k - 1 - u) + 1 := by omega
      have eW : wdF (fun q => cS (cs n) (u + 1 + q)) (k - 1 - u + 1) = wdF (fun q => cS (cs n) (u + 1 + q)) (k - 1 - u) * cS (cs n) k := by
        show _ * cS (cs n) (u + 1 + (k - 1 - u)) = _
        rw [show u + 1 + (k - 1 - u) = k by omega]
      have hle : wdF (fun q => cS (cs n) (u + 1 + q)) (k - 1 - u + 1) ≤ T := by
        rw [← hTe]
        exact wdF_mono (fun q hq2 => by have := (hC.2.1 (u + 1 + q) (by omega)).1; omega) (by omega)
      have hT256 : T ≤ 256 := by
        have h1 : 1 ≤ HH * s := by
          have hh : 1 ≤ HH := by rw [← hHe]; exact wdF_pos fun q hq2 => by have := (hC.2.1 q (by omega)).1; omega
          exact Nat.mul_le_mul hh (show 1 ≤ s by omega)
        have := Nat.mul_le_mul_right T h1
        omega
      have ec : ((wdF (fun q => cS (cs n) (u + 1 + q)) (k - 1 - u) : Nat) : Int) * (cS (cs n) k : Int) = ((wdF (fun q => cS (cs n) (u + 1 + q)) (k - 1 - u + 1) : Nat) : Int) := by rw [eW, Int.natCast_mul]
      refine s_sizeOf (hm4.2.1 n hn).1 (by omega) hC (by omega) ?_
      rw [ec]
      exact ⟨inR_n (by omega), fun x49 e49 => ⟨inR_i (by omega) (by omega), hX _ _ _ _ _ _ _ ⟨rfl, rfl, rfl, rfl, ho4, k + 1, rfl, by omega, by rw [es]; exact e49, hr4'⟩ (by omega)⟩⟩
    refine ⟨fun q3 => fin μ3 ho3 ?_, fun q3 => ?_⟩
    · have e : k = u := by omega
      subst e
      rw [if_pos (Nat.le_refl _)] at hr3
      rw [if_neg (by omega)]
      exact hr3
    · refine s_sizeOf (hm3.2.1 n hn).1 (by omega) hC (by omega) (s_weightOf (hm3.2.1 n hn).1 (by omega) hC (by omega) (s_adds (c := 12) (by omega) hr3 (by show (if k ≤ u then k else k - 1) < 8; split <;> omega) (fun μ4 ho4 hr4 => fin μ4 (ho3.tr ho4) (rowOf.ext hr4 ?_ (fun j hj => ?_) (fun _ _ => rfl)))))
      · show (if k + 1 ≤ u then k + 1 else k) = (if k ≤ u then k else k - 1) + 1
        by_cases hku : k < u
        · rw [if_pos (by omega), if_pos (by omega)]
        · rw [if_neg (by omega), if_neg (by omega)]; omega
      · have hj : j < (if k ≤ u then k else k - 1) + 1 := hj
        show dropS (cS (cs n)) u j = (if j = (if k ≤ u then k else k - 1) then cS (cs n) k else dropS (cS (cs n)) u j) ∧ dropS (cT (cs n)) u j = (if j = (if k ≤ u then k else k - 1) then cT (cs n) k else dropS (cT (cs n)) u j)
        by_cases ej : j = (if k ≤ u then k else k - 1)
        · rw [if_pos ej, if_pos ej]
          unfold dropS
          by_cases hku : k < u
          · rw [if_pos (by omega)] at ej
            rw [if_pos (by omega), if_pos (by omega), ej]; exact ⟨rfl, rfl⟩
          · rw [if_neg (by omega)] at ej
            rw [if_neg (by omega), if_neg (by omega), ej, show k - 1 + 1 = k by omega]; exact ⟨rfl, rfl⟩
        · rw [if_neg ej, if_neg ej]; exact ⟨rfl, rfl⟩
end RX

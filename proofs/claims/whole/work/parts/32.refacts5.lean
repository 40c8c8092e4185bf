/-! swap, shift: numbers made of digits -/
def hn (s d : Nat → Nat) : Nat → Nat
  | 0 => 0
  | k + 1 => hn s d k * s k + d k
theorem hn_lt {s d : Nat → Nat} : ∀ {k : Nat}, (∀ i, i < k → d i < s i) → hn s d k < wdF s k
  | 0, _ => Nat.one_pos
  | k + 1, h => div_add_lt (hn_lt (k := k) fun i hi => h i (by omega)) (h k (by omega))
def imgM (φ : Nat → Nat) (m : Nat → Bool) : Nat → Nat → Bool
  | 0, _ => false
  | W + 1, x => imgM φ m W x || (m W && decide (φ W = x))
theorem imgM_lt {φ : Nat → Nat} {m : Nat → Bool} {B : Nat} : ∀ {W x : Nat}, (∀ w, w < W → φ w < B) → imgM φ m W x = true → x < B
  | 0, _, _, h => by cases h
  | W + 1, x, hφ, h => by
    have h : (imgM φ m W x || (m W && decide (φ W = x))) = true := h
    cases h1 : imgM φ m W x
    · rw [h1, Bool.false_or, Bool.and_eq_true, decide_eq_true_eq] at h
      rw [← h.2]; exact hφ W (by omega)
    · exact imgM_lt (fun w hw => hφ w (by omega)) h1
theorem dgF_lt {s : Nat → Nat} {i : Nat} : ∀ {n w : Nat}, i < n → 1 ≤ s i → dgF s n w i < s i
  | 0, _, h, _ => absurd h (Nat.not_lt_zero i)
  | n + 1, w, h, hs => by
    show (if i = n then w % s n else dgF s n (w / s n) i) < s i
    by_cases e : i = n
    · rw [if_pos e, ← e]; exact Nat.mod_lt _ hs
    · rw [if_neg e]; exact dgF_lt (by omega) hs
theorem cD_lt {C : Cd} (h : okC C) {i : Nat} (hi : i < cN C) (w : Nat) : cD C w i < cS C i := dgF_lt hi (by have := (h.2.1 i hi).1; omega)
def sw (i j k : Nat) : Nat := if k = i then j else if k = j then i else k
theorem sw_lt {i j k n : Nat} (hi : i < n) (hj : j < n) (hk : k < n) : sw i j k < n := by
  unfold sw; split
  · exact hj
  · split
    · exact hi
    · exact hk
def upN (s : Nat → Nat) (i a : Nat) : Nat → Nat := fun q => if q = i then a else s q
theorem wdF_up {s : Nat → Nat} {i a : Nat} : ∀ {n : Nat}, i < n → wdF (upN s i a) n * s i = wdF s n * a
  | 0, h => absurd h (Nat.not_lt_zero i)
  | n + 1, h => by
    show wdF (upN s i a) n * upN s i a n * s i = wdF s n * s n * a
    by_cases e : i = n
    · subst e
      have h1 : wdF (upN s i a) i = wdF s i := wdF_cong (fun q hq => if_neg (by omega))
      rw [h1, show upN s i a i = a from if_pos rfl, Nat.mul_assoc, Nat.mul_assoc, Nat.mul_comm a]
    · have h1 := wdF_up (s := s) (a := a) (n := n) (i := i) (by omega)
      rw [show upN s i a n = s n from if_neg (by omega), Nat.mul_right_comm, h1, Nat.mul_right_comm]
theorem wdF_sw {s : Nat → Nat} {i j n : Nat} (hi : i < n) (hj : j < n) (hp : 1 ≤ s j) : wdF (fun q => s (sw i j q)) n = wdF s n := by
  have e : wdF (fun q => s (sw i j q)) n = wdF (upN (upN s i (s j)) j (s i)) n := wdF_cong fun q hq => by
    show s (sw i j q) = (if q = j then s i else if q = i then s j else s q)
    unfold sw
    by_cases h1 : q = i
    · rw [if_pos h1]
      by_cases h2 : q = j
      · rw [if_pos h2, ← h1, ← h2]
      · rw [if_neg h2, if_pos h1]
    · rw [if_neg h1, if_neg h1]
      by_cases h2 : q = j
      · rw [if_pos h2, if_pos h2]
      · rw [if_neg h2, if_neg h2]
  have h1 := wdF_up (s := upN s i (s j)) (i := j) (a := s i) hj
  have h2 := wdF_up (s := s) (i := i) (a := s j) hi
  have h3 : upN s i (s j) j = s j := by
    show (if j = i then s j else s j) = s j
    exact ite_self _
  rw [h3, h2] at h1
  rw [e]
  exact Nat.eq_of_mul_eq_mul_right hp h1
def swN (C : Cd) (i j w : Nat) : Nat := hn (fun q => cS C (sw i j q)) (fun q => cD C w (sw i j q)) (cN C)
def swP (C : Cd) (i j : Nat) (m : Nat → Bool) : Cd := (cN C, (fun q => cS C (sw i j q)), (fun q => cT C (sw i j q)), m)
def swC (C : Cd) (i j : Nat) : Cd := swP C i j (imgM (swN C i j) (cM C) (cW C))
theorem cW_swP {C : Cd} (h : okC C) {i j : Nat} (hi : i < cN C) (hj : j < cN C) (m : Nat → Bool) : cW (swP C i j m) = cW C := wdF_sw (s := cS C) hi hj (by have := (h.2.1 j hj).1; omega)
theorem swN_lt {C : Cd} (h : okC C) {i j : Nat} (hi : i < cN C) (hj : j < cN C) (w : Nat) : swN C i j w < cW C := by
  rw [← cW_swP h hi hj noM]
  exact hn_lt fun q hq => cD_lt h (sw_lt hi hj hq) w
abbrev hn_ (C : Cd) (i j w k : Nat) : Nat := hn (fun q => cS C (sw i j q)) (fun q => cD C w (sw i j q)) k
abbrev hs_ (C : Cd) (i k w n : Nat) : Nat := hn (cS C) (fun q => if q = i then (cD C w q + k) % cS C q else cD C w q) n
theorem okC_swP {C : Cd} (h : okC C) {i j : Nat} (hi : i < cN C) (hj : j < cN C) {m : Nat → Bool} (hm : ∀ {x}, m x = true → x < cW C) : okC (swP C i j m) :=
  ⟨h.1, fun q hq => h.2.1 _ (sw_lt hi hj hq), fun q hq => h.2.2.1 _ (sw_lt hi hj hq), by rw [cW_swP h hi hj]; exact h.2.2.2.1,
   fun w hw => by rw [cW_swP h hi hj]; exact hm hw, fun h0 => absurd (show cN C = 0 from h0) (by omega)⟩
theorem okC_swC {C : Cd} (h : okC C) {i j : Nat} (hi : i < cN C) (hj : j < cN C) : okC (swC C i j) :=
  ⟨h.1, fun q hq => h.2.1 _ (sw_lt hi hj hq), fun q hq => h.2.2.1 _ (sw_lt hi hj hq), by unfold swC; rw [cW_swP h hi hj]; exact h.2.2.2.1,
   fun w hw => by unfold swC; rw [cW_swP h hi hj]; exact imgM_lt (fun v _ => swN_lt h hi hj v) hw, fun h0 => absurd (show cN C = 0 from h0) (by omega)⟩
def siN (C : Cd) (i k w : Nat) : Nat := hn (cS C) (fun q => if q = i then (cD C w q + k) % cS C q else cD C w q) (cN C)
def siC (C : Cd) (i k : Nat) : Cd := (cN C, cS C, cT C, imgM (siN C i k) (cM C) (cW C))
theorem siD_lt {C : Cd} (h : okC C) {i k w q : Nat} (hq : q < cN C) : (if q = i then (cD C w q + k) % cS C q else cD C w q) < cS C q := by
  split
  · exact Nat.mod_lt _ (by have := (h.2.1 q hq).1; omega)
  · exact cD_lt h hq w
theorem siN_lt {C : Cd} (h : okC C) {i k : Nat} (w : Nat) : siN C i k w < cW C := hn_lt fun q hq => siD_lt h hq
theorem okC_siC {C : Cd} (h : okC C) {i k : Nat} (hn : 0 < cN C) : okC (siC C i k) :=
  ⟨h.1, h.2.1, h.2.2.1, h.2.2.2.1, fun w hw => imgM_lt (fun v _ => siN_lt h v) hw, fun h0 => absurd (show cN C = 0 from h0) (by omega)⟩
def a_noB (cs : Nat → Cd) (hs : List (Nat → Cd)) (t : Int) : AR := ((0, t), cs, hs)
def a_yesB (cs : Nat → Cd) (hs : List (Nat → Cd)) (to : Int) (C : Cd) : AR := ((1, 0), updC cs to.toNat C, push10 cs hs)
def a_swap (cs : Nat → Cd) (hs : List (Nat → Cd)) (to c i j : Int) : AR := if (0 ≤ to ∧ to < 8) ∧ isPl cs c i ∧ isPl cs c j then a_yesB cs hs to (swC (cs c.toNat) i.toNat j.toNat) else a_noB cs hs 1
def a_shift (cs : Nat → Cd) (hs : List (Nat → Cd)) (to c i k : Int) : AR := if (0 ≤ to ∧ to < 8) ∧ isPl cs c i then (if 0 ≤ k ∧ k ≤ 3 then a_yesB cs hs to (siC (cs c.toNat) i.toNat k.toNat) else a_noB cs hs 2) else a_noB cs hs 1
section RX
variable {μ : Mem} {cs : Nat → Cd} {hs : List (Nat → Cd)} {Q : Int → Mem → Prop} {c w v i j k r a d p to one other size weight : Int}
theorem QB.b {R : AR} (h : QB Q μ R) (h01 : R.1.1 = 0 ∨ R.1.1 = 1) : QB (fun r μ' => (r = 0 ∨ r = 1) ∧ Q r μ') μ R := fun μ' h1 h2 h3 h4 => ⟨h01, h μ' h1 h2 h3 h4⟩
theorem QB.ofE {R R' : AR} (h : QB Q μ R) (e : R = R') : QB Q μ R' := by rw [← e]; exact h
theorem a_grR {μ2 : Mem} {t : Int} (HQ : QB Q μ (a_noB cs hs t)) (hm : ms μ μ2 cs hs) (ht : ¬ t = 0) : wp_X8_granted t μ2 (fun r μ' => (r = 0 ∨ r = 1) ∧ Q r μ') := a_gr1 (HQ.b (Or.inl rfl)) hm ht rfl
theorem a_becB {μ2 : Mem} {t : Nat} {C : Cd} (HQ : QB Q μ (a_yesB cs hs t C)) (ht : t < 8) (hm : ms μ μ2 cs hs) (hr : mrow μ2 12 C) (hC : okC C) : wp_X8_becomes t μ2 (fun _ μ3 => wp_X8_granted 0 μ3 (fun r μ' => (r = 0 ∨ r = 1) ∧ Q r μ')) := by
  refine s_becomes ht hm hr hC (fun μ3 hm3 => ?_)
  rintro μ4 rfl μ5 rfl
  have h5 : mq μ3 (sI (sI μ3 115 1 0) 115 2 (-1)) := end_mq
  exact a_gr0 (HQ.b (Or.inr rfl)) (hm3.q h5 (by rw [sI_nj (by omega), sI_nj (by omega)]; exact hm3.2.2.2)) rfl
theorem swI (i j k : Nat) : (if (k : Int) = (i : Int) then (j : Int) else if (k : Int) = (j : Int) then (i : Int) else (k : Int)) = (sw i j k : Int) := by
  unfold sw
  by_cases h1 : k = i
  · rw [if_pos h1, if_pos (by omega)]
  · rw [if_neg h1, if_neg (by omega)]
    by_cases h2 : k = j
    · rw [if_pos h2, if_pos (by omega)]
    · rw [if_neg h2, if_neg (by omega)]
theorem s8_swap (hR : mrs μ cs) (hH : mhs μ hs) (HQ : QB Q μ (a_swap cs hs to c i j)) : wp_X8_swap to c i j μ Q := by
  intro μ1 e1
  have hm := ms_0 hR hH e1
  refine c_isTo (fun n => A0 (a_grR (HQ.ofE (if_neg (fun q => n q.1))) hm (by decide))) (fun yt => A1 ?_)
  refine c_isPl hm.2.1 (fun n => A0 (a_grR (HQ.ofE (if_neg (fun q => n q.2.1))) hm (by decide))) (fun y1 => A1 ?_)
  refine c_isPl hm.2.1 (fun n => B0 (a_grR (HQ.ofE (if_neg (fun q => n q.2.2))) hm (by decide))) (fun y2 => B1 ?_)
  have hq : a_swap cs hs to c i j = _ := if_pos ⟨yt, y1, y2⟩
  obtain ⟨t, rfl⟩ := Int.eq_ofNat_of_zero_le yt.1
  obtain ⟨n, u, rfl, rfl, hn, hp, hu⟩ := y1.nat
  obtain ⟨n', z, en, rfl, hn', hp', hz⟩ := y2.nat
  have en : n = n' := by omega
  subst en
  simp only [Int.toNat_natCast] at hq
  have hC := (hR n hn).2
  have h8 := hC.1
  have hw8 := hC.2.2.2.1
  have hWs : ∀ m, cW (swP (cs n) u z m) = cW (cs n) := fun m => cW_swP hC hu hz m
  have hpre : ∀ k, k ≤ cN (cs n) → wdF (fun q => cS (cs n) (sw u z q)) k ≤ 256 := fun k hk => Nat.le_trans (wdF_mono (N := cN (cs n)) (fun q hq2 => by have := (hC.2.1 (sw u z q) (sw_lt hu hz hq2)).1; omega) hk) (by have := hWs noM; unfold cW at this; show wdF (cS (swP (cs n) u z noM)) (cN (swP (cs n) u z noM)) ≤ 256; rw [this]; exact hw8)
  refine s_clears (c := 12) (by omega) (fun μ2 ho2 hr2 => ?_)
  have hm2 := hm.w ho2 (by omega)
  refine LP6_rule (fun (v1 v2 v3 v4 v5 : Int) (μ3 : Mem) => v1 = (t : Int) ∧ v2 = (n : Int) ∧ v3 = (u : Int) ∧ v4 = (z : Int) ∧ ∃ k : Nat, v5 = (k : Int) ∧ k ≤ cN (cs n) ∧ orow μ2 μ3 12 ∧ mrow μ3 12 (k, (fun q => cS (cs n) (sw u z q)), (fun q => cT (cs n) (sw u z q)), noM)) (fun _ _ _ _ v5 _ => ((cN (cs n) : Int) - v5).toNat) ?_ ⟨rfl, rfl, rfl, rfl, 0, rfl, Nat.zero_le _, orow.rf, rowOf.ext hr2 rfl (fun i hi => absurd hi (Nat.not_lt_zero i)) (fun _ _ => rfl)⟩
  rintro X v1 v2 v3 v4 v5 μ3 ⟨rfl, rfl, rfl, rfl, k, rfl, hk, ho3, hr3⟩ hX
  have hm3 := hm2.w ho3 (by omega)
  refine s_places (hm3.2.1 n hn).1 (by omega) ⟨fun q => ?_, fun q => ?_⟩
  · have ek : k = cN (cs n) := by omega
    subst ek
    refine LP6_rule (fun (v1 v2 v3 v4 v5 : Int) (μ4 : Mem) => v1 = (t : Int) ∧ v2 = (n : Int) ∧ v3 = (u : Int) ∧ v4 = (z : Int) ∧ ∃ w : Nat, v5 = (w : Int) ∧ w ≤ cW (cs n) ∧ orow μ3 μ4 12 ∧ mrow μ4 12 (swP (cs n) u z (imgM (swN (cs n) u z) (cM (cs n)) w))) (fun _ _ _ _ v5 _ => ((cW (cs n) : Int) - v5).toNat) ?_ ⟨rfl, rfl, rfl, rfl, 0, rfl, Nat.zero_le _, orow.rf, hr3⟩
    rintro X2 v1 v2 v3 v4 v5 μ4 ⟨rfl, rfl, rfl, rfl, w, rfl, hw, ho4, hr4⟩ hX2
    have hm4 := hm3.w ho4 (by omega)
    refine s_words (hm4.2.1 n hn).1 (by omega) hC ⟨fun q2 => ?_, fun q2 => ?_⟩
    · have ew : w = cW (cs n) := by omega
      subst ew
      exact a_becB (HQ.ofE hq) (by omega) hm4 hr4 (okC_swC hC hu hz)
    · refine LP8_rule (fun (v1 v2 v3 v4 v5 v6 v7 : Int) (μ5 : Mem) => v1 = (t : Int) ∧ v2 = (n : Int) ∧ v3 = (u : Int) ∧ v4 = (z : Int) ∧ v5 = (w : Int) ∧ μ5 = μ4 ∧ ∃ k : Nat, v7 = (k : Int) ∧ k ≤ cN (cs n) ∧ v6 = (hn_ (cs n) u z w k : Int)) (fun _ _ _ _ _ _ v7 _ => ((cN (cs n) : Int) - v7).toNat) ?_ ⟨rfl, rfl, rfl, rfl, rfl, rfl, 0, rfl, Nat.zero_le _, rfl⟩
      rintro X3 v1 v2 v3 v4 v5 v6 v7 μ5 ⟨rfl, rfl, rfl, rfl, rfl, rfl, k, rfl, hk3, rfl⟩ hX3
      refine s_places (hm4.2.1 n hn).1 (by omega) ⟨fun q3 => ?_, fun q3 => ?_⟩
      · have ek : k = cN (cs n) := by omega
        subst ek
        have hlt := swN_lt hC hu hz w
        refine s_isIn (hm4.2.1 n hn).1 (by omega) (by omega) ⟨fun q4 => ?_, fun q4 => ?_⟩
        · refine ⟨inR_i (by omega) (by omega), hX2 _ _ _ _ _ _ ⟨rfl, rfl, rfl, rfl, w + 1, rfl, by omega, ho4, rowOf.ext hr4 rfl (fun _ _ => ⟨rfl, rfl⟩) (fun x _ => ?_)⟩ (by omega)⟩
          show (imgM (swN (cs n) u z) (cM (cs n)) w x || (cM (cs n) w && decide (swN (cs n) u z w = x))) = imgM (swN (cs n) u z) (cM (cs n)) w x
          rw [bI_0.mp q4, Bool.false_and, Bool.or_false]
        · refine s_marks (c := 12) (b := true) (w := swN (cs n) u z w) (by omega) hr4 (by omega) h8 rfl (fun μ6 ho6 hr6 => ⟨inR_i (by omega) (by omega), hX2 _ _ _ _ _ _ ⟨rfl, rfl, rfl, rfl, w + 1, rfl, by omega, ho4.tr ho6, rowOf.ext hr6 rfl (fun _ _ => ⟨rfl, rfl⟩) (fun x _ => ?_)⟩ (by omega)⟩)
          show (imgM (swN (cs n) u z) (cM (cs n)) w x || (cM (cs n) w && decide (swN (cs n) u z w = x))) = (if x = swN (cs n) u z w then true else imgM (swN (cs n) u z) (cM (cs n)) w x)
          rw [bI_n0.mp q4, Bool.true_and]
          by_cases ex : x = swN (cs n) u z w
          · rw [if_pos ex, decide_eq_true ex.symm, Bool.or_true]
          · rw [if_neg ex, decide_eq_false (fun e => ex e.symm), Bool.or_false]
      · have hsk : sw u z k < cN (cs n) := sw_lt hu hz (by omega)
        have hd := cD_lt hC hsk w
        have hl1 : hn_ (cs n) u z w (k + 1) < wdF (fun q => cS (cs n) (sw u z q)) (k + 1) := hn_lt fun q hq2 => cD_lt hC (sw_lt hu hz (by omega)) w
        have hp1 := hpre (k + 1) (by omega)
        have es : hn_ (cs n) u z w (k + 1) = hn_ (cs n) u z w k * cS (cs n) (sw u z k) + cD (cs n) w (sw u z k) := rfl
        refine s_sizeOf (c := 12) hr4 (by omega) (okC_swP hC hu hz (imgM_lt (fun v _ => swN_lt hC hu hz v))) (show k < cN (cs n) by omega) ?_
        have fin : inR ((hn_ (cs n) u z w k : Int) * (cS (cs n) (sw u z k) : Int)) ∧ wp_X8_swap_176 Q X2 X3 (t : Int) (n : Int) (u : Int) (z : Int) (w : Int) (k : Int) ((hn_ (cs n) u z w k : Int) * (cS (cs n) (sw u z k) : Int)) (n : Int) (w : Int) (sw u z k : Int) μ5 := by
          rw [← Int.natCast_mul]
          refine ⟨inR_n (by omega), s_digitOf (hm4.2.1 n hn).1 (by omega) hC (by omega) hsk ⟨inR_i (by omega) (by omega), fun x45 e45 => ⟨inR_i (by omega) (by omega), hX3 _ _ _ _ _ _ _ _ ⟨rfl, rfl, rfl, rfl, rfl, rfl, k + 1, rfl, by omega, by rw [e45, es]; exact (Int.natCast_add _ _).symm⟩ (by omega)⟩⟩⟩
        rw [← swI] at fin
        refine ⟨fun a1 => ⟨fun a2 => ?_, fun a2 => ?_⟩, fun a1 => ?_⟩
        · rw [if_neg a1, if_neg a2] at fin; exact fin
        · rw [if_neg a1, if_pos a2] at fin; exact fin
        · rw [if_pos a1] at fin; exact fin
  · have hsk : sw u z k < cN (cs n) := sw_lt hu hz (by omega)
    have fin : wp_X8_swap_80 Q X (t : Int) (n : Int) (u : Int) (z : Int) (k : Int) (sw u z k : Int) μ3 := by
      refine s_sizeOf (hm3.2.1 n hn).1 (by omega) hC hsk (s_weightOf (hm3.2.1 n hn).1 (by omega) hC hsk (s_adds (c := 12) (by omega) hr3 (show k < 8 by omega) (fun μ4 ho4 hr4 => ⟨inR_i (by omega) (by omega), hX _ _ _ _ _ _ ⟨rfl, rfl, rfl, rfl, k + 1, rfl, by omega, ho3.tr ho4, rowOf.ext hr4 rfl (fun q hq2 => ?_) (fun _ _ => rfl)⟩ (by omega)⟩)))
      show cS (cs n) (sw u z q) = (if q = k then cS (cs n) (sw u z k) else cS (cs n) (sw u z q)) ∧ cT (cs n) (sw u z q) = (if q = k then cT (cs n) (sw u z k) else cT (cs n) (sw u z q))
      by_cases e : q = k
      · rw [if_pos e, if_pos e, e]; exact ⟨rfl, rfl⟩
      · rw [if_neg e, if_neg e]; exact ⟨rfl, rfl⟩
    rw [← swI] at fin
    refine ⟨fun a1 => ⟨fun a2 => ?_, fun a2 => ?_⟩, fun a1 => ?_⟩
    · rw [if_neg a1, if_neg a2] at fin; exact fin
    · rw [if_neg a1, if_pos a2] at fin; exact fin
    · rw [if_pos a1] at fin; exact fin
theorem s8_shift (hR : mrs μ cs) (hH : mhs μ hs) (HQ : QB Q μ (a_shift cs hs to c i k)) : wp_X8_shift to c i k μ Q := by
  intro μ1 e1
  have hm := ms_0 hR hH e1
  refine c_isTo (fun n => A0 (a_grR (HQ.ofE (if_neg (fun q => n q.1))) hm (by decide))) (fun yt => A1 ?_)
  refine c_isPl hm.2.1 (fun n => B0 (a_grR (HQ.ofE (if_neg (fun q => n q.2))) hm (by decide))) (fun y1 => B1 ?_)
  have hq : a_shift cs hs to c i k = _ := if_pos ⟨yt, y1⟩
  refine c_in (fun n => B0 (a_grR (HQ.ofE (hq.trans (if_neg (fun q => n (by omega))))) hm (by decide))) (fun y2 => B1 ?_)
  rw [if_pos (by omega)] at hq
  obtain ⟨t, rfl⟩ := Int.eq_ofNat_of_zero_le yt.1
  obtain ⟨n, u, rfl, rfl, hn, hp, hu⟩ := y1.nat
  obtain ⟨z, rfl⟩ := Int.eq_ofNat_of_zero_le y2.1
  simp only [Int.toNat_natCast] at hq
  have hC := (hR n hn).2
  have h8 := hC.1
  have hw8 := hC.2.2.2.1
  refine s_clears (c := 12) (by omega) (fun μ2 ho2 hr2 => ?_)
  have hm2 := hm.w ho2 (by omega)
  obtain ⟨N0, hN0⟩ := layF_some hC (Nat.le_refl (cN (cs n)))
  refine s_laysPlaces (f := 0) hn hC (Nat.zero_le _) (hm2.2.1 n hn).1 hr2 okC_0 (fun _ => rfl) (fun h => ?_) (fun N' hN' hNo hnm μ3 ho3 hr3 => ?_)
  · rw [Nat.sub_zero, hN0] at h; cases h
  obtain ⟨-, hNn, -, -, hNs⟩ := layF_W hN'
  have hm3 := hm2.w ho3 (by omega)
  have hr3' : mrow μ3 12 (cN (cs n), cS (cs n), cT (cs n), imgM (siN (cs n) u z) (cM (cs n)) 0) := rowOf.ext hr3 (by rw [hNn]; show cN (cs n) = 0 + (cN (cs n) - 0); omega) (fun q hq2 => by
    have h := hNs q (by rw [hNn] at hq2; have hq2 : q < 0 + (cN (cs n) - 0) := hq2; omega)
    have h : cS N' (0 + q) = cS (cs n) (0 + q) ∧ cT N' (0 + q) = cT (cs n) (0 + q) := h
    rw [Nat.zero_add] at h
    exact ⟨h.1.symm, h.2.symm⟩) (fun x _ => (hnm x).symm)
  refine LP7_rule (fun (v1 v2 v3 v4 v5 v6 : Int) (μ4 : Mem) => v1 = (t : Int) ∧ v2 = (n : Int) ∧ v3 = (u : Int) ∧ v4 = (z : Int) ∧ v5 = 1 ∧ ∃ w : Nat, v6 = (w : Int) ∧ w ≤ cW (cs n) ∧ orow μ3 μ4 12 ∧ mrow μ4 12 (cN (cs n), cS (cs n), cT (cs n), imgM (siN (cs n) u z) (cM (cs n)) w)) (fun _ _ _ _ _ v6 _ => ((cW (cs n) : Int) - v6).toNat) ?_ ⟨rfl, rfl, rfl, rfl, rfl, 0, rfl, Nat.zero_le _, orow.rf, hr3'⟩
  rintro X2 v1 v2 v3 v4 v5 v6 μ4 ⟨rfl, rfl, rfl, rfl, rfl, w, rfl, hw, ho4, hr4⟩ hX2
  have hm4 := hm3.w ho4 (by omega)
  refine ⟨fun q => absurd q (by decide), fun _ => s_words (hm4.2.1 n hn).1 (by omega) hC ⟨fun q2 => ?_, fun q2 => ?_⟩⟩
  · have ew : w = cW (cs n) := by omega
    subst ew
    exact a_becB (HQ.ofE hq) (by omega) hm4 hr4 (okC_siC hC hp)
  · refine LP9_rule (fun (v1 v2 v3 v4 v5 v6 v7 v8 : Int) (μ5 : Mem) => v1 = (t : Int) ∧ v2 = (n : Int) ∧ v3 = (u : Int) ∧ v4 = (z : Int) ∧ v5 = 1 ∧ v6 = (w : Int) ∧ μ5 = μ4 ∧ ∃ k : Nat, v8 = (k : Int) ∧ k ≤ cN (cs n) ∧ v7 = (hs_ (cs n) u z w k : Int)) (fun _ _ _ _ _ _ _ v8 _ => ((cN (cs n) : Int) - v8).toNat) ?_ ⟨rfl, rfl, rfl, rfl, rfl, rfl, rfl, 0, rfl, Nat.zero_le _, rfl⟩
    rintro X3 v1 v2 v3 v4 v5 v6 v7 v8 μ5 ⟨rfl, rfl, rfl, rfl, rfl, rfl, rfl, k, rfl, hk3, rfl⟩ hX3
    refine s_places (hm4.2.1 n hn).1 (by omega) ⟨fun q3 => ?_, fun q3 => ?_⟩
    · have ek : k = cN (cs n) := by omega
      subst ek
      have hlt := siN_lt hC (i := u) (k := z) w
      refine s_isIn (hm4.2.1 n hn).1 (by omega) (by omega) ⟨fun q4 => ?_, fun q4 => ?_⟩
      · refine ⟨inR_i (by omega) (by omega), hX2 _ _ _ _ _ _ _ ⟨rfl, rfl, rfl, rfl, rfl, w + 1, rfl, by omega, ho4, rowOf.ext hr4 rfl (fun _ _ => ⟨rfl, rfl⟩) (fun x _ => ?_)⟩ (by omega)⟩
        show (imgM (siN (cs n) u z) (cM (cs n)) w x || (cM (cs n) w && decide (siN (cs n) u z w = x))) = imgM (siN (cs n) u z) (cM (cs n)) w x
        rw [bI_0.mp q4, Bool.false_and, Bool.or_false]
      · refine s_marks (c := 12) (b := true) (w := siN (cs n) u z w) (by omega) hr4 (by omega) h8 rfl (fun μ6 ho6 hr6 => ⟨inR_i (by omega) (by omega), hX2 _ _ _ _ _ _ _ ⟨rfl, rfl, rfl, rfl, rfl, w + 1, rfl, by omega, ho4.tr ho6, rowOf.ext hr6 rfl (fun _ _ => ⟨rfl, rfl⟩) (fun x _ => ?_)⟩ (by omega)⟩)
        show (imgM (siN (cs n) u z) (cM (cs n)) w x || (cM (cs n) w && decide (siN (cs n) u z w = x))) = (if x = siN (cs n) u z w then true else imgM (siN (cs n) u z) (cM (cs n)) w x)
        rw [bI_n0.mp q4, Bool.true_and]
        by_cases ex : x = siN (cs n) u z w
        · rw [if_pos ex, decide_eq_true ex.symm, Bool.or_true]
        · rw [if_neg ex, decide_eq_false (fun e => ex e.symm), Bool.or_false]
    · have hkn : k < cN (cs n) := by omega
      have hd := cD_lt hC hkn w
      have hl1 : hs_ (cs n) u z w (k + 1) < wdF (cS (cs n)) (k + 1) := hn_lt fun q hq2 => siD_lt hC (by omega)
      have hp1 := hC.wd (i := k + 1) (by omega)
      have es : hs_ (cs n) u z w (k + 1) = hs_ (cs n) u z w k * cS (cs n) k + (if k = u then (cD (cs n) w k + z) % cS (cs n) k else cD (cs n) w k) := rfl
      have hsz := hC.2.1 k hkn
      refine s_sizeOf (hm4.2.1 n hn).1 (by omega) hC hkn ⟨fun a1 => ?_, fun a1 => ?_⟩
      · rw [if_neg (by omega)] at es
        rw [← Int.natCast_mul]
        exact s_digitOf (hm4.2.1 n hn).1 (by omega) hC (by omega) hkn ⟨inR_n (by omega), inR_i (by omega) (by omega), fun x46 e46 => ⟨inR_i (by omega) (by omega), hX3 _ _ _ _ _ _ _ _ _ ⟨rfl, rfl, rfl, rfl, rfl, rfl, rfl, k + 1, rfl, by omega, by rw [e46, es]; exact (Int.natCast_add _ _).symm⟩ (by omega)⟩⟩
      · rw [if_pos (by omega)] at es
        rw [← Int.natCast_mul]
        have em : ((cD (cs n) w k : Int) + (z : Int)) % (cS (cs n) k : Int) = (((cD (cs n) w k + z) % cS (cs n) k : Nat) : Int) := by rw [Int.natCast_emod, Int.natCast_add]
        refine s_digitOf (hm4.2.1 n hn).1 (by omega) hC (by omega) hkn (s_sizeOf (hm4.2.1 n hn).1 (by omega) hC hkn ⟨inR_i (by omega) (by omega), ⟨by omega, by omega⟩, inR_n (by omega), ?_⟩)
        rw [em]
        exact ⟨inR_i (by omega) (by omega), fun x46 e46 => ⟨inR_i (by omega) (by omega), hX3 _ _ _ _ _ _ _ _ _ ⟨rfl, rfl, rfl, rfl, rfl, rfl, rfl, k + 1, rfl, by omega, by rw [e46, es]; exact (Int.natCast_add _ _).symm⟩ (by omega)⟩⟩
end RX

/-! the reader of the reference: weights, words -/
theorem LP2_gh {A0 A1 : Type} {F : (A0 → A1 → Prop) → A0 → A1 → Prop} (I : Nat → A0 → A1 → Prop) (h : ∀ (X : A0 → A1 → Prop) (n : Nat) (a0 : A0) (a1 : A1), I n a0 a1 → (∀ (m : Nat) (b0 : A0) (b1 : A1), m < n → I m b0 b1 → X b0 b1) → F X a0 a1) {n : Nat} {a0 : A0} {a1 : A1} (hi : I n a0 a1) : LP2 F a0 a1 := by
  have key : ∀ (m k : Nat) (b0 : A0) (b1 : A1), I k b0 b1 → k < m → (Nat.rec (motive := fun _ => A0 → A1 → Prop) (fun _ _ => False) (fun _ ih => F ih) m) b0 b1 := by
    intro m
    induction m with
    | zero => intro k b0 b1 _ hk; exact absurd hk (Nat.not_lt_zero k)
    | succ m ih => intro k b0 b1 hI hk; exact h _ k b0 b1 hI (fun j c0 c1 hj hI2 => ih j c0 c1 hI2 (by omega))
  exact ⟨n + 1, key (n + 1) n a0 a1 hi (Nat.lt_succ_self n)⟩
theorem LP1_gh {A0 : Type} {F : (A0 → Prop) → A0 → Prop} (I : Nat → A0 → Prop) (h : ∀ (X : A0 → Prop) (n : Nat) (a0 : A0), I n a0 → (∀ (m : Nat) (b0 : A0), m < n → I m b0 → X b0) → F X a0) {n : Nat} {a0 : A0} (hi : I n a0) : LP1 F a0 := by
  have key : ∀ (m k : Nat) (b0 : A0), I k b0 → k < m → (Nat.rec (motive := fun _ => A0 → Prop) (fun _ => False) (fun _ ih => F ih) m) b0 := by
    intro m
    induction m with
    | zero => intro k b0 _ hk; exact absurd hk (Nat.not_lt_zero k)
    | succ m ih => intro k b0 hI hk; exact h _ k b0 hI (fun j c0 hj hI2 => ih j c0 hI2 (by omega))
  exact ⟨n + 1, key (n + 1) n a0 hi (Nat.lt_succ_self n)⟩
theorem okC_setW {C : Cd} (h : okC C) {i x : Nat} (hx : 1 ≤ x ∧ x ≤ 3) : okC (setW C i x) := ⟨h.1, h.2.1, fun j hj => by
    show 1 ≤ (if j = i then x else cT C j) ∧ (if j = i then x else cT C j) ≤ 3
    split
    · exact hx
    · exact h.2.2.1 j hj, h.2.2.2.1, h.2.2.2.2.1, h.2.2.2.2.2⟩
theorem nuF_none {T : Nat → Int} {S : Nat → Nat} {a k : Nat} (h : nuF T S a k = none) : ∀ {m : Nat}, k ≤ m → nuF T S a m = none := by
  intro m hm
  induction m with
  | zero => rw [show k = 0 by omega] at h; exact h
  | succ m ih =>
    by_cases e : k = m + 1
    · rw [← e]; exact h
    · simp only [nuF, ih (by omega)]
theorem nuF_s {T : Nat → Int} {S : Nat → Nat} {a k v : Nat} (h : nuF T S a k = some v) : nuF T S a (k + 1) = if T (a + k) - 48 < (S k : Int) then some (v * S k + (T (a + k) - 48).toNat) else none := by simp only [nuF, h]
theorem nuF_lt {T : Nat → Int} {S : Nat → Nat} {a : Nat} : ∀ {k v : Nat}, (∀ j, j < k → 48 ≤ T (a + j)) → nuF T S a k = some v → v < wdF S k
  | 0, v, _, h => by cases h; exact Nat.one_pos
  | k + 1, v, hd, h => by
    cases hk : nuF T S a k with
    | none => rw [nuF_none hk (Nat.le_succ k)] at h; cases h
    | some u =>
      rw [nuF_s hk] at h
      have h1 := nuF_lt (fun j hj => hd j (by omega)) hk
      have h2 := hd k (by omega)
      split at h
      · cases h
        show u * S k + (T (a + k) - 48).toNat < wdF S k * S k
        exact div_add_lt h1 (by omega)
      · cases h
section RR
variable {μ : Mem} {Q : Mem → Prop} {T : Nat → Int} {L : Nat} {c : Nat}
theorem s_readWeights {t : Tk} {C : Cd} (hc : c < 14) (h : tpS μ T L) (h7 : μ.1 115 7 = 0) (ht : tkS μ T t) (ho : okT T L t) (hr : mrow μ c C) (hC : okC C)
    (hq : ∀ μ', fR c μ μ' → rdP T L c (wtP T L (cN C) 0 (nxT T L t) C) μ' → Q μ') : wp_X8_readWeights c μ Q := by
  have h8 := hC.1
  refine s_goOn (p := tB t) h h7 ht.2.2.1 ho.2.1 (fun μ1 hf1 ht1 => ?_)
  have g71 : μ1.1 115 7 = 0 := by rw [hf1.2 7 (by omega) (by omega) (by omega) (by omega)]; exact h7
  refine LP3_rule (fun (v1 v2 : Int) (μ2 : Mem) => v1 = (c : Int) ∧ fR c μ μ2 ∧ ∃ (i : Nat) (t2 : Tk) (C2 : Cd), v2 = (i : Int) ∧ i ≤ cN C ∧ cN C2 = cN C ∧ μ2.1 115 7 = 0 ∧ tkS μ2 T t2 ∧ okT T L t2 ∧ mrow μ2 c C2 ∧ okC C2 ∧ wtP T L (cN C) 0 (nxT T L t) C = wtP T L (cN C - i) i t2 C2) (fun _ v2 _ => ((cN C : Int) - v2).toNat) ?_ ⟨rfl, hf1.fR, 0, nxT T L t, C, rfl, Nat.zero_le _, rfl, g71, ht1, okT_tkF T ho.2.1, hr.to (hf1.1 117 (by omega)).1, hC, rfl⟩
  rintro X v1 v2 μ2 ⟨rfl, hf2, i, t2, C2, rfl, hi, hN2, g7, gt, go, gr, gC, hS⟩ hX
  have h2 := h.fR hf2
  refine s_places gr hc ⟨fun q => hq μ2 hf2 ?_, fun q => ⟨fun x => absurd g7 x, fun _ => ?_⟩⟩
  · rw [hS, show cN C - i = 0 by omega]
    exact ⟨g7, gt, go, gr, gC⟩
  have hU : wtP T L (cN C - i) i t2 C2 = if ¬ tK t2 = 2 then Sum.inl (1, tA t2) else if ¬ (1 ≤ oneD T t2 ∧ oneD T t2 ≤ 3) then Sum.inl (2, tA t2) else wtP T L (cN C - (i + 1)) (i + 1) (nxT T L t2) (setW C2 i (oneD T t2).toNat) := by
    rw [show cN C - i = (cN C - (i + 1)) + 1 by omega]; rfl
  rw [hU] at hS
  have bad : ∀ f : Nat, 0 < f → wtP T L (cN C) 0 (nxT T L t) C = Sum.inl (f, tA t2) → wp_X8_flaw f μ2 (fun μ11 => wp_X8_readWeights_55 Q X c (i : Int) μ11) := fun f hf0 he => s_flaw (c := c) g7 gt hf0 (fun μ3 hf3 hl3 => ⟨fun x => absurd x hl3.pos.1, fun _ => hq μ3 (hf2.tr hf3) (by rw [he]; exact hl3)⟩)
  rw [gt.1]
  refine ⟨fun q2 => ?_, fun q2 => bad 1 (by omega) (by rw [hS, if_pos (fun e => q2 (kM_2.mpr e))])⟩
  have k2 : tK t2 = 2 := kM_2.mp q2
  rw [if_neg (fun x => x k2)] at hS
  refine s_oneDigit h2 gt go k2 ?_
  refine c_in (fun n => B0 (bad 2 (by omega) (by rw [hS, if_pos n]))) (fun y => B1 ?_)
  rw [if_neg (fun x => x y)] at hS
  obtain ⟨d, hd⟩ := Int.eq_ofNat_of_zero_le (show 0 ≤ oneD T t2 by omega)
  have hd2 : 1 ≤ d ∧ d ≤ 3 := by omega
  rw [hd, Int.toNat_natCast] at hS
  refine ⟨fun _ => ?_, fun x => absurd (Int.le_of_eq g7) x⟩
  refine s_oneDigit h2 gt go k2 ⟨by omega, fun μ4 e4 => ?_⟩
  rw [hd, show ((273 * (c : Int)) + 9 + (i : Int)).toNat = 273 * c + 9 + i by omega] at e4
  have ho4 : orow μ2 μ4 c := by rw [e4]; exact orow.rf.set (by omega) (by omega)
  have hr4 : mrow μ4 c (setW C2 i d) := by
    refine ⟨by rw [e4, sI_nj (by omega)]; exact gr.1, fun j (hj : j < cN C2) => ⟨by rw [e4, sI_nj (by omega)]; exact (gr.2.1 j hj).1, ?_⟩, fun w hw => by rw [e4, sI_nj (by omega)]; exact gr.2.2 w hw⟩
    show μ4.1 117 (273 * c + 9 + j) = ((if j = i then d else cT C2 j : Nat) : Int)
    by_cases e : j = i
    · rw [if_pos e, e, e4, sI_s]
    · rw [if_neg e, e4, sI_nj (by omega)]; exact (gr.2.1 j hj).2
  have hf4 : fR c μ μ4 := hf2.tr ho4.fR
  have g74 : μ4.1 115 7 = 0 := by rw [ho4.1 115 (by omega)]; exact g7
  have gt4 := gt.o ho4
  refine s_goOn (p := tB t2) (h.fR hf4) g74 gt4.2.2.1 go.2.1 (fun μ5 hf5 ht5 => ?_)
  have g75 : μ5.1 115 7 = 0 := by rw [hf5.2 7 (by omega) (by omega) (by omega) (by omega)]; exact g74
  exact ⟨inR_i (by omega) (by omega), hX _ _ _ ⟨rfl, hf4.tr hf5.fR, i + 1, nxT T L t2, setW C2 i d, rfl, by omega, hN2, g75, ht5, okT_tkF T go.2.1, hr4.to (hf5.1 117 (by omega)).1, okC_setW gC hd2, hS⟩ (by omega)⟩
theorem s_readWord {t : Tk} {C : Cd} (hc : c < 14) (h : tpS μ T L) (h7 : μ.1 115 7 = 0) (ht : tkS μ T t) (ho : okT T L t) (hr : mrow μ c C) (hC : okC C) (hn : 0 < cN C)
    (hq : ∀ μ', fR c μ μ' → rdP T L c (wdP T L t C) μ' → Q μ') : wp_X8_readWord c μ Q := by
  have h8 := hC.1
  have h600 := h.2.1
  have hw8 := hC.2.2.2.1
  unfold wp_X8_readWord
  rw [ht.1]
  refine ⟨fun q => ?_, fun q => ?_⟩
  rotate_left
  · have hR : wdP T L t C = Sum.inl (1, tA t) := if_pos (fun e => q (kM_2.mpr e))
    exact s_flaw (c := c) (f := 1) h7 ht (by omega) (fun μ3 hf3 hl3 => ⟨fun x => absurd x hl3.pos.1, fun _ => hq μ3 hf3 (by rw [hR]; exact hl3)⟩)
  have k2 : tK t = 2 := kM_2.mp q
  obtain ⟨t1, t2, t3⟩ := ho.2.2.2.1 k2
  have t4 := ho.2.1
  have hR0 : wdP T L t C = match nuP T t C with
    | none => Sum.inl (2, tA t)
    | some w => if cM C w then Sum.inl (3, tA t) else Sum.inr (nxT T L t, setM C w true) := if_neg (fun x => x k2)
  have badN : nuP T t C = none → ∀ v3 : Int, wp_X8_readWord_117 Q c 0 v3 μ := by
    intro hno v3
    rw [hno] at hR0
    refine ⟨fun x => absurd rfl x, fun _ => s_flaw (c := c) (f := 2) h7 ht (by omega) (fun μ3 hf3 hl3 => ⟨fun _ => s_goOn_f hl3 (hq μ3 hf3 (by rw [hR0]; exact hl3)), fun x => absurd x hl3.pos.2⟩)⟩
  refine ⟨fun _ => s_places hr hc ?_, fun x => absurd (Int.le_of_eq h7) x⟩
  rw [ht.2.1, ht.2.2.1]
  have loop : ∀ s0 : Int, (s0 = 1 ∧ tB t - tA t = cN C) ∨ (s0 = 0 ∧ nuP T t C = none) → wp_X8_readWord_43 Q c s0 μ := by
    intro s0 hs0
    refine LP5_rule (fun (v1 v2 v3 v4 : Int) (μ2 : Mem) => v1 = (c : Int) ∧ μ2 = μ ∧ ((v2 = 0 ∧ nuP T t C = none) ∨ (v2 = 1 ∧ tB t - tA t = cN C ∧ ∃ k w : Nat, v4 = (k : Int) ∧ k ≤ cN C ∧ v3 = (w : Int) ∧ nuF T (cS C) (tA t) k = some w))) (fun _ v2 _ v4 _ => ((cN C : Int) - v4).toNat + v2.toNat) ?_ ⟨rfl, rfl, hs0.elim (fun x => Or.inr ⟨x.1, x.2, 0, 0, rfl, Nat.zero_le _, rfl, rfl⟩) (fun x => Or.inl x)⟩
    rintro X v1 v2 v3 v4 μ2 ⟨rfl, rfl, hcase⟩ hX
    refine ⟨fun q2 => ?_, fun q2 => ?_⟩
    · rcases hcase with ⟨rfl, hno⟩ | ⟨e, -⟩
      · exact badN hno v3
      · omega
    rcases hcase with ⟨e, -⟩ | ⟨rfl, hlen, k, w, rfl, hk, rfl, hnu⟩
    · exact absurd e q2
    have hwl := nuF_lt (fun j hj => (t3 (tA t + j) (by omega) (by omega)).1) hnu
    have hwk := hC.wd hk
    refine s_places hr hc ⟨fun q3 => ?_, fun q3 => ?_⟩
    · have ek : k = cN C := by omega
      subst ek
      have hnP : nuP T t C = some w := by unfold nuP; rw [if_pos hlen]; exact hnu
      rw [hnP] at hR0
      have hR0 : wdP T L t C = if cM C w then Sum.inl (3, tA t) else Sum.inr (nxT T L t, setM C w true) := hR0
      refine ⟨fun _ => ?_, fun x => absurd x (by decide)⟩
      refine s_isIn hr hc (by omega) ⟨fun q4 => ⟨fun x => absurd h7 x, fun _ => ?_⟩, fun q4 => ?_⟩
      · rw [bI_0.mp q4, if_neg (by decide)] at hR0
        refine s_marks (b := true) hc hr (by omega) h8 rfl (fun μ4 ho4 hr4 => ?_)
        have g74 : μ4.1 115 7 = 0 := by rw [ho4.1 115 (by omega)]; exact h7
        have gt4 := ht.o ho4
        refine s_goOn (p := tB t) (h.fR (c := c) ho4.fR) g74 gt4.2.2.1 ho.2.1 (fun μ5 hf5 ht5 => hq μ5 (ho4.fR.tr hf5.fR) ?_)
        rw [hR0]
        exact ⟨by rw [hf5.2 7 (by omega) (by omega) (by omega) (by omega)]; exact g74, ht5, okT_tkF T ho.2.1, hr4.to (hf5.1 117 (by omega)).1, okC_setM hC hwl hn true⟩
      · rw [bI_n0.mp q4, if_pos rfl] at hR0
        exact s_flaw (c := c) (f := 3) h7 ht (by omega) (fun μ3 hf3 hl3 => ⟨fun _ => s_goOn_f hl3 (hq μ3 hf3 (by rw [hR0]; exact hl3)), fun x => absurd x hl3.pos.2⟩)
    · have hdj := t3 (tA t + k) (by omega) (by omega)
      have hsz := hC.2.1 k (by omega)
      have hns := nuF_s (T := T) (S := cS C) hnu
      have hw1 := hC.wd (i := k + 1) (by omega)
      have hmul : w * cS C k ≤ 256 * 4 := Nat.mul_le_mul (by omega) hsz.2
      rw [ht.2.1]
      rw [show ((tA t : Int) + (k : Int)).toNat = tA t + k by omega, h.2.2 (tA t + k) (by omega)]
      refine ⟨by omega, inR_i (by omega) (by omega), fun x22 e22 => ?_⟩
      have fin : ∀ s0 : Int, (s0 = 1 ∧ x22 < (cS C k : Int)) ∨ (s0 = 0 ∧ ¬ x22 < (cS C k : Int)) → wp_X8_readWord_97 Q X c (w : Int) (k : Int) x22 s0 μ2 := by
        intro s0 hs
        refine s_sizeOf hr hc hC (by omega) ?_
        rw [← Int.natCast_mul]
        refine ⟨inR_i (by omega) (by omega), fun x29 e29 => ⟨inR_i (by omega) (by omega), hX _ _ _ _ _ ⟨rfl, rfl, ?_⟩ ?_⟩⟩
        · rcases hs with ⟨rfl, hx⟩ | ⟨rfl, hx⟩
          · refine Or.inr ⟨rfl, hlen, k + 1, w * cS C k + (T (tA t + k) - 48).toNat, rfl, by omega, by rw [e29, e22]; omega, ?_⟩
            rw [hns, if_pos (by omega)]
          · refine Or.inl ⟨rfl, ?_⟩
            unfold nuP
            rw [if_pos hlen]
            exact nuF_none (k := k + 1) (by rw [hns, if_neg (by omega)]) (by omega)
        · rcases hs with ⟨rfl, hx⟩ | ⟨rfl, hx⟩ <;> omega
      exact s_sizeOf hr hc hC (by omega) ⟨fun q4 => fin 0 (Or.inr ⟨rfl, by omega⟩), fun q4 => fin 1 (Or.inl ⟨rfl, by omega⟩)⟩
  refine ⟨inR_i (by omega) (by omega), fun q2 => loop 0 (Or.inr ⟨rfl, by unfold nuP; rw [if_neg (by omega)]⟩), fun q2 => loop 1 (Or.inl ⟨rfl, by omega⟩)⟩
end RR

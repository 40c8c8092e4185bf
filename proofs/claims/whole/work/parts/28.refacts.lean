/-! ===== the reference: acts ===== -/
def mg (μ μ' : Mem) : Prop := (∀ k, k < 115 ∨ k = 116 ∨ k = 119 ∨ 125 ≤ k → μ'.1 k = μ.1 k ∧ μ'.2 k = μ.2 k) ∧ μ'.1 115 4 = μ.1 115 4 ∧ μ'.1 115 7 = μ.1 115 7 ∧ μ'.1 115 17 = μ.1 115 17
theorem mg.rf {μ : Mem} : mg μ μ := ⟨fun _ _ => ⟨rfl, rfl⟩, rfl, rfl, rfl⟩
theorem mg.tr {μ μ' μ'' : Mem} (h : mg μ μ') (h2 : mg μ' μ'') : mg μ μ'' := ⟨fun k hk => ⟨(h2.1 k hk).1.trans (h.1 k hk).1, (h2.1 k hk).2.trans (h.1 k hk).2⟩, h2.2.1.trans h.2.1, h2.2.2.1.trans h.2.2.1, h2.2.2.2.trans h.2.2.2⟩
theorem mq.mg {μ μ' : Mem} (h : mq μ μ') : mg μ μ' := ⟨fun k hk => h.1 k (by omega), h.2.1 4 (by omega) (by omega), h.2.1 7 (by omega) (by omega), h.2.1 17 (by omega) (by omega)⟩
theorem orow.mg {μ μ' : Mem} {c : Nat} (h : orow μ μ' c) : mg μ μ' := ⟨fun k hk => ⟨h.1 k (by omega), by rw [h.2.1]⟩, by rw [h.1 115 (by omega)], by rw [h.1 115 (by omega)], by rw [h.1 115 (by omega)]⟩
def QA (Q : Int → Mem → Prop) (μ : Mem) (o : Int × Int) (cs : Nat → Cd) (hs : List (Nat → Cd)) : Prop := ∀ μ', mg μ μ' → mrs μ' cs → mhs μ' hs → mtr μ' o.2 → Q o.1 μ'
/-- in the midst of an act -/
def ms (μ μ2 : Mem) (cs : Nat → Cd) (hs : List (Nat → Cd)) : Prop := mg μ μ2 ∧ mrs μ2 cs ∧ mhs μ2 hs ∧ μ2.1 115 0 = 0
theorem ms_0 {μ μ1 : Mem} {cs : Nat → Cd} {hs : List (Nat → Cd)} (hR : mrs μ cs) (hH : mhs μ hs) (e : μ1 = sI μ 115 0 0) : ms μ μ1 cs hs := by
  have hz := mz_0 e
  exact ⟨hz.1.mg, hR.to hz.1, hH.to (hz.1.1 118 (by omega)).1 (hz.1.2.1 19 (by omega) (by omega)), hz.2⟩
theorem ms.q {μ μ1 μ2 : Mem} {cs : Nat → Cd} {hs : List (Nat → Cd)} (h : ms μ μ1 cs hs) (hq : mq μ1 μ2) (h0 : μ2.1 115 0 = 0) : ms μ μ2 cs hs := ⟨h.1.tr hq.mg, h.2.1.to hq, h.2.2.1.to (hq.1 118 (by omega)).1 (hq.2.1 19 (by omega) (by omega)), h0⟩
theorem ms.c {μ μ1 μ2 : Mem} {cs : Nat → Cd} {hs : List (Nat → Cd)} (h : ms μ μ1 cs hs) (ho : o121 μ1 μ2) : ms μ μ2 cs hs := h.q ho.mq (by rw [ho.1 115 (by omega)]; exact h.2.2.2)
theorem ms.w {μ μ1 μ2 : Mem} {cs : Nat → Cd} {hs : List (Nat → Cd)} {c : Nat} (h : ms μ μ1 cs hs) (ho : orow μ1 μ2 c) (hc : 8 ≤ c) : ms μ μ2 cs hs := ⟨h.1.tr ho.mg, fun d hd => ⟨ho.row (by omega) (h.2.1 d hd).2.1 (h.2.1 d hd).1, (h.2.1 d hd).2⟩, h.2.2.1.to (ho.1 118 (by omega)) (by rw [ho.1 115 (by omega)]), by rw [ho.1 115 (by omega)]; exact h.2.2.2⟩
theorem end_tr {μ2 : Mem} {t : Int} (h0 : μ2.1 115 0 = 0) : mtr (sI (sI μ2 115 1 t) 115 2 (-1)) t := ⟨by rw [sI_nj (by omega), sI_nj (by omega)]; exact h0, by rw [sI_nj (by omega), sI_s], sI_s⟩
theorem end_mq {μ2 : Mem} {t : Int} : mq μ2 (sI (sI μ2 115 1 t) 115 2 (-1)) := (mq_f (by omega)).tr (mq_f (by omega))
theorem ms.e {μ μ2 : Mem} {cs : Nat → Cd} {hs : List (Nat → Cd)} {Q : Int → Mem → Prop} {o : Int × Int} (h : ms μ μ2 cs hs) (HQ : QA Q μ o cs hs) : Q o.1 (sI (sI μ2 115 1 o.2) 115 2 (-1)) := by
  have hq : mq μ2 (sI (sI μ2 115 1 o.2) 115 2 (-1)) := end_mq
  exact HQ _ (h.1.tr hq.mg) (h.2.1.to hq) (h.2.2.1.to (hq.1 118 (by omega)).1 (hq.2.1 19 (by omega) (by omega))) (end_tr h.2.2.2)
section RT
variable {μ : Mem} {cs : Nat → Cd} {hs : List (Nat → Cd)} {Q : Int → Mem → Prop} {c w v i k r a d p to one other : Int} {o : Int × Int}
theorem a_ref {μ2 : Mem} {t : Int} (HQ : QA Q μ o cs hs) (hm : ms μ μ2 cs hs) (ho : o = (-1, t)) : wp_X8_refused t μ2 Q := by
  rintro μ3 rfl μ4 rfl
  subst ho
  exact hm.e HQ
theorem a_good {μ2 : Mem} {v : Int} (HQ : QA Q μ o cs hs) (hm : ms μ μ2 cs hs) (ho : o = (v, 0)) : wp_X8_good v μ2 Q := by
  rintro μ3 rfl μ4 rfl
  subst ho
  exact hm.e HQ
theorem a_gr1 {μ2 : Mem} {t : Int} (HQ : QA Q μ o cs hs) (hm : ms μ μ2 cs hs) (ht : ¬ t = 0) (ho : o = (0, t)) : wp_X8_granted t μ2 Q := by
  rintro μ3 rfl μ4 rfl
  subst ho
  exact ⟨fun _ => hm.e HQ, fun q => absurd q ht⟩
theorem a_gr0 {μ2 : Mem} (HQ : QA Q μ o cs hs) (hm : ms μ μ2 cs hs) (ho : o = (1, 0)) : wp_X8_granted 0 μ2 Q := by
  rintro μ3 rfl μ4 rfl
  subst ho
  exact ⟨fun q => absurd rfl q, fun _ => hm.e HQ⟩
def updC (cs : Nat → Cd) (to : Nat) (C : Cd) : Nat → Cd := fun c => if c = to then C else cs c
theorem ms.rem {μ2 μ3 : Mem} (h : ms μ μ2 cs hs) (hk : ∀ k, k ≠ 115 → k ≠ 118 → μ3.1 k = μ2.1 k) (hj : ∀ j, j ≠ 19 → μ3.1 115 j = μ2.1 115 j) (h2 : μ3.2 = μ2.2) (hH : mhs μ3 (push10 cs hs)) : ms μ μ3 cs (push10 cs hs) :=
  ⟨h.1.tr ⟨fun k hk2 => ⟨hk k (by omega) (by omega), by rw [h2]⟩, hj 4 (by omega), hj 7 (by omega), hj 17 (by omega)⟩, fun d hd => ⟨(h.2.1 d hd).1.to (hk 117 (by omega) (by omega)), (h.2.1 d hd).2⟩, hH, by rw [hj 0 (by omega)]; exact h.2.2.2⟩
/-- a code's row is written anew, by what only touches that row -/
theorem ms.put {μ2 μ3 : Mem} {t : Nat} {C : Cd} (h : ms μ μ2 cs hs) (ho : orow μ2 μ3 t) (hr : mrow μ3 t C) (hC : okC C) : ms μ μ3 (updC cs t C) hs :=
  ⟨h.1.tr ho.mg, fun e he => by
    unfold updC
    by_cases q : e = t
    · rw [if_pos q, q]; exact ⟨hr, hC⟩
    · rw [if_neg q]; exact ⟨ho.row q (h.2.1 e he).2.1 (h.2.1 e he).1, (h.2.1 e he).2⟩, h.2.2.1.to (ho.1 118 (by omega)) (by rw [ho.1 115 (by omega)]), by rw [ho.1 115 (by omega)]; exact h.2.2.2⟩
theorem s_becomes {μ2 : Mem} {t : Nat} {C : Cd} (ht : t < 8) (hm : ms μ μ2 cs hs) (hr : mrow μ2 12 C) (hC : okC C) (hq : ∀ μ3, ms μ μ3 (updC cs t C) (push10 cs hs) → wp_X8_good (ctF (cM C) (cW C) : Nat) μ3 Q) : wp_X8_becomes t μ2 Q := by
  refine s_remembers hm.2.1 hm.2.2.1 (fun μ3 hk hj h2 hH => ?_)
  have hm3 := hm.rem hk hj h2 hH
  have hr3 : mrow μ3 12 C := hr.to (hk 117 (by omega) (by omega))
  refine s_copies_row (c := 12) (by omega) (by omega) hr3 hC.1 (fun μ4 ho4 hr4 => ?_)
  exact s_many hr4 (by omega) hC (hq μ4 (hm3.put ho4 hr4 hC))
/-! set -/
theorem okC_setM {C : Cd} (h : okC C) {w : Nat} (hw : w < cW C) (hn : 0 < cN C) (b : Bool) : okC (setM C w b) := ⟨h.1, h.2.1, h.2.2.1, h.2.2.2.1, fun v hv => by
    have hv : (if v = w then b else cM C v) = true := hv
    show v < cW C
    by_cases e : v = w
    · rw [e]; exact hw
    · rw [if_neg e] at hv; exact h.2.2.2.2.1 v hv, fun h0 => absurd (show cN C = 0 from h0) (by omega)⟩
def a_set (cs : Nat → Cd) (hs : List (Nat → Cd)) (c w : Int) (b : Bool) : (Int × Int) × (Nat → Cd) × List (Nat → Cd) := if isWd cs c w then (if cM (cs c.toNat) w.toNat = b then ((-1, 5), cs, hs) else (((ctF (cM (setM (cs c.toNat) w.toNat b)) (cW (cs c.toNat)) : Nat), 0), updC cs c.toNat (setM (cs c.toNat) w.toNat b), push10 cs hs)) else ((-1, 1), cs, hs)
def QB (Q : Int → Mem → Prop) (μ : Mem) (R : (Int × Int) × (Nat → Cd) × List (Nat → Cd)) : Prop := QA Q μ R.1 R.2.1 R.2.2
theorem QB.at {R R' : (Int × Int) × (Nat → Cd) × List (Nat → Cd)} (h : QB Q μ R) (e : R = R') : QA Q μ R'.1 R'.2.1 R'.2.2 := by rw [← e]; exact h
theorem s8_set {b : Bool} (hR : mrs μ cs) (hH : mhs μ hs) (hp : p = bI b) (HQ : QB Q μ (a_set cs hs c w b)) : wp_X8_set c w p μ Q := by
  intro μ1 e1
  have hm := ms_0 hR hH e1
  refine c_isWd hm.2.1 (fun n => B0 (a_ref (HQ.at (if_neg n)) hm rfl)) (fun y => B1 ?_)
  have hq : a_set cs hs c w b = _ := if_pos y
  obtain ⟨n, u, rfl, rfl, hn, hp2, hu⟩ := y.nat
  simp only [Int.toNat_natCast] at hq
  have hC := (hR n hn).2
  have h8 := hC.2.2.2.1
  subst hp
  refine s_isIn (hm.2.1 n hn).1 (by omega) (by omega) ⟨fun q => ?_, fun q => ?_⟩
  · rw [if_neg (fun e => q (by rw [e]))] at hq
    refine s_remembers hm.2.1 hm.2.2.1 (fun μ3 hk hj h2 hH3 => ?_)
    have hm3 := hm.rem hk hj h2 hH3
    have hC' := okC_setM hC hu hp2 b
    refine s_marks (b := b) (by omega) (hm3.2.1 n hn).1 (by omega) hC.1 rfl (fun μ4 ho4 hr4 => ?_)
    exact s_many hr4 (by omega) hC' (a_good (HQ.at hq) (hm3.put ho4 hr4 hC') rfl)
  · rw [if_pos (by cases h1 : cM (cs n) u <;> cases b <;> simp_all [bI])] at hq
    exact a_ref (HQ.at hq) hm rfl
/-! undo -/
def a_undo (cs : Nat → Cd) (hs : List (Nat → Cd)) : (Int × Int) × (Nat → Cd) × List (Nat → Cd) := match hs with
  | [] => ((-1, 5), cs, [])
  | h :: t => (((t.length : Nat), 0), h, t)
theorem s8_undo (hR : mrs μ cs) (hH : mhs μ hs) (HQ : QB Q μ (a_undo cs hs)) : wp_X8_undo μ Q := by
  intro μ1 e1
  have hm := ms_0 hR hH e1
  obtain ⟨hl, h10, hrow⟩ := hm.2.2.1
  cases hs with
  | nil =>
    have h0 : μ1.1 115 19 = 0 := hl
    exact ⟨fun q => absurd h0 q, fun _ => a_ref (HQ.at rfl) hm rfl⟩
  | cons h t =>
    have hl' : μ1.1 115 19 = ((t.length + 1 : Nat) : Int) := hl
    have h10' : t.length + 1 ≤ 10 := h10
    refine ⟨fun _ => ?_, fun q => absurd q (by omega)⟩
    rw [hl']
    refine ⟨inR_i (by omega) (by omega), fun μ4 e4 => ?_⟩
    rw [show ((t.length + 1 : Nat) : Int) - 1 = (t.length : Int) by omega] at e4
    refine LP2_rule (fun (v1 : Int) (μ2 : Mem) => (∀ k, k ≠ 117 → μ2.1 k = μ4.1 k) ∧ μ2.2 = μ4.2 ∧ ∃ i : Nat, v1 = (i : Int) ∧ i ≤ 2184 ∧ ∀ k, k < i → μ2.1 117 k = μ4.1 118 (t.length * 2184 + k)) (fun v1 _ => (2184 - v1).toNat) ?_ ⟨fun _ _ => rfl, rfl, 0, rfl, by omega, fun k hk => absurd hk (Nat.not_lt_zero k)⟩
    rintro X v1 μ2 ⟨hk2, h22, i, rfl, hi, hnew⟩ hX
    have e2 : μ2.1 115 19 = (t.length : Int) := by rw [hk2 115 (by omega), e4, sI_s]
    have e118 : μ4.1 118 = μ1.1 118 := by rw [e4, sI_ne (by omega)]
    unfold wp_X8_undo_30
    rw [e2]
    refine ⟨fun q => ?_, fun q => ?_⟩
    · refine a_good (HQ.at rfl) ⟨hm.1.tr ⟨fun k hk => ⟨by rw [hk2 k (by omega), e4, sI_ne (by omega)], by rw [h22, e4, sI_2]⟩, by rw [hk2 115 (by omega), e4, sI_nj (by omega)], by rw [hk2 115 (by omega), e4, sI_nj (by omega)], by rw [hk2 115 (by omega), e4, sI_nj (by omega)]⟩, fun c hc => ?_, ⟨e2, (by show t.length ≤ 10; omega), fun i' hi' c hc => ?_⟩, by rw [hk2 115 (by omega), e4, sI_nj (by omega)]; exact hm.2.2.2⟩ rfl
      · have h0 := hrow 0 (Nat.succ_pos _) c hc
        refine ⟨rowOf.to h0.1 h0.2.1 (fun k h1 h3 => ?_), h0.2⟩
        show μ2.1 117 k = μ1.1 118 ((t.length + 1 - 1 - 0) * 2184 + k)
        rw [hnew k (by omega), e118, show t.length + 1 - 1 - 0 = t.length by omega]
      · have h0 := hrow (i' + 1) (Nat.succ_lt_succ hi') c hc
        have h0 : rowOf (fun k => μ1.1 118 ((t.length + 1 - 1 - (i' + 1)) * 2184 + k)) c (hAt t i' c) ∧ okC (hAt t i' c) := h0
        rw [hk2 118 (by omega), e118]
        rw [show t.length + 1 - 1 - (i' + 1) = t.length - 1 - i' by omega] at h0
        exact h0
    · refine ⟨by omega, by omega, fun μ10 e10 => ⟨inR_i (by omega) (by omega), hX _ _ ⟨fun k hk => ?_, ?_, i + 1, rfl, by omega, fun k hk => ?_⟩ (by omega)⟩⟩
      · rw [e10, sI_ne hk]; exact hk2 k hk
      · rw [e10]; exact h22
      · rw [e10, show (((t.length : Int) * 8) * 273 + (i : Int)).toNat = t.length * 2184 + i by omega, Int.toNat_natCast]
        by_cases e : k = i
        · rw [e, sI_s, hk2 118 (by omega)]
        · rw [sI_nj e]; exact hnew k (by omega)
/-! same, mix, holes -/
def spE (C D : Cd) : Prop := cN C = cN D ∧ ∀ i, i < cN C → cS C i = cS D i ∧ cT C i = cT D i
abbrev spB (C D : Cd) : Bool := decide (cN C = cN D) && (List.range (cN C)).all (fun i => decide (cS C i = cS D i) && decide (cT C i = cT D i))
theorem spB_iff {C D : Cd} : spB C D = true ↔ spE C D := by
  unfold spB spE
  simp only [Bool.and_eq_true, decide_eq_true_eq, List.all_eq_true, List.mem_range]
theorem s_areOfOne {n m : Nat} {C D : Cd} (h1 : mrow μ n C) (h2 : mrow μ m D) (hn : n < 14) (hm : m < 14) (hC : okC C) (hD : okC D) (hq : Q (bI (spB C D)) μ) : wp_X8_areOfOne n m μ Q := by
  have h8 := hC.1
  have loop : ∀ v3 : Int, (v3 = 0 ∧ spB C D = false) ∨ (v3 = 1 ∧ cN C = cN D) → LP5 (wp_X8_areOfOne_22 Q) (n : Int) (m : Int) v3 0 μ := by
    intro v3 h3
    refine LP5_rule (fun (v1 v2 v3 v4 : Int) (μ2 : Mem) => v1 = (n : Int) ∧ v2 = (m : Int) ∧ μ2 = μ ∧ ∃ i : Nat, v4 = (i : Int) ∧ i ≤ cN C ∧ ((v3 = 0 ∧ spB C D = false) ∨ (v3 = 1 ∧ cN C = cN D ∧ ∀ j, j < i → cS C j = cS D j ∧ cT C j = cT D j))) (fun _ _ _ v4 _ => ((cN C : Int) - v4).toNat) ?_ ⟨rfl, rfl, rfl, 0, rfl, Nat.zero_le _, h3.imp id (fun h => ⟨h.1, h.2, fun j hj => absurd hj (Nat.not_lt_zero j)⟩)⟩
    rintro X v1 v2 v3 v4 μ2 ⟨rfl, rfl, rfl, i, rfl, hi, hv⟩ hX
    rcases hv with ⟨rfl, hf⟩ | ⟨rfl, hnn, hall⟩
    · rw [hf] at hq
      exact ⟨fun _ => ⟨Or.inl rfl, hq⟩, fun q => absurd rfl q⟩
    · refine ⟨fun q => absurd q (by decide), fun _ => s_places h1 hn ⟨fun q => ⟨Or.inr rfl, ?_⟩, fun q => ?_⟩⟩
      · have e : i = cN C := by omega
        subst e
        rw [spB_iff.mpr ⟨hnn, hall⟩] at hq
        exact hq
      · have no : (¬ (cS C i = cS D i ∧ cT C i = cT D i)) → wp_X8_areOfOne_74 Q X (n : Int) (m : Int) (i : Int) μ2 := fun hne =>
          ⟨inR_i (by omega) (by omega), hX _ _ _ _ _ ⟨rfl, rfl, rfl, i + 1, rfl, by omega, Or.inl ⟨rfl, by
            cases hb : spB C D
            · rfl
            · exact absurd ((spB_iff.mp hb).2 i (by omega)) hne⟩⟩ (by omega)⟩
        refine s_sizeOf h1 hn hC (by omega) (s_sizeOf h2 hm hD (by omega) ⟨fun q2 => no (fun y => q2 (by rw [y.1])), fun q2 => ?_⟩)
        refine s_weightOf h1 hn hC (by omega) (s_weightOf h2 hm hD (by omega) ⟨fun q3 => no (fun y => q3 (by rw [y.2])), fun q3 => ?_⟩)
        refine ⟨inR_i (by omega) (by omega), hX _ _ _ _ _ ⟨rfl, rfl, rfl, i + 1, rfl, by omega, Or.inr ⟨rfl, hnn, fun j hj => ?_⟩⟩ (by omega)⟩
        by_cases e : j = i
        · subst e; exact ⟨by omega, by omega⟩
        · exact hall j (by omega)
  refine s_places h1 hn (s_places h2 hm ⟨fun q => loop 0 (Or.inl ⟨rfl, ?_⟩), fun q => loop 1 (Or.inr ⟨rfl, by omega⟩)⟩)
  cases hb : spB C D
  · rfl
  · exact absurd (spB_iff.mp hb).1 (fun e => q (by rw [e]))
abbrev mkB (C D : Cd) : Bool := (List.range (cW C)).all (fun w => decide (cM C w = cM D w))
def q_same (cs : Nat → Cd) (c d : Int) : Int × Int := if isK cs c ∧ isK cs d then (bI (spB (cs c.toNat) (cs d.toNat) && mkB (cs c.toNat) (cs d.toNat)), 0) else (-1, 1)
theorem s8_same (hR : mrs μ cs) (HQ : QH Q μ (q_same cs c d)) : wp_X8_same c d μ Q := by
  intro μ1 e1
  have hz := mz_0 e1
  have hR1 := hR.to hz.1
  refine c_isK hR1 (fun n => A0 (e_ref HQ hz (if_neg (fun q => n q.1)))) (fun y => A1 ?_)
  refine c_isK hR1 (fun n => B0 (e_ref HQ hz (if_neg (fun q => n q.2)))) (fun y2 => B1 ?_)
  have hq : q_same cs c d = _ := if_pos ⟨y, y2⟩
  obtain ⟨n, rfl, hn, hp⟩ := y.nat
  obtain ⟨m, rfl, hm, hp2⟩ := y2.nat
  simp only [Int.toNat_natCast] at hq
  have hC := (hR n hn).2
  have h8 := hC.2.2.2.1
  refine s_areOfOne (hR1 n hn).1 (hR1 m hm).1 (by omega) (by omega) hC (hR m hm).2 ?_
  have fin : ∀ b : Bool, q_same cs (n : Int) (m : Int) = (bI b, 0) → wp_X8_same_80 Q (bI b) μ1 := by
    intro b hb
    refine ⟨fun q => e_good HQ hz (by rw [hb, q]), fun q => e_good HQ hz (by rw [hb, bI_n0.mp q]; rfl)⟩
  refine LP5_rule (fun (v1 v2 v3 v4 : Int) (μ2 : Mem) => v1 = (n : Int) ∧ v2 = (m : Int) ∧ μ2 = μ1 ∧ ∃ i : Nat, v4 = (i : Int) ∧ i ≤ cW (cs n) ∧ ((v3 = 0 ∧ (spB (cs n) (cs m) && mkB (cs n) (cs m)) = false) ∨ (v3 = 1 ∧ spB (cs n) (cs m) = true ∧ ∀ j, j < i → cM (cs n) j = cM (cs m) j))) (fun _ _ _ v4 _ => ((cW (cs n) : Int) - v4).toNat) ?_ ⟨rfl, rfl, rfl, 0, rfl, Nat.zero_le _, by
    cases hb : spB (cs n) (cs m)
    · exact Or.inl ⟨rfl, rfl⟩
    · exact Or.inr ⟨rfl, rfl, fun j hj => absurd hj (Nat.not_lt_zero j)⟩⟩
  rintro X v1 v2 v3 v4 μ2 ⟨rfl, rfl, rfl, i, rfl, hi, hv⟩ hX
  rcases hv with ⟨rfl, hf⟩ | ⟨rfl, hsp, hall⟩
  · exact ⟨fun _ => fin false (by rw [hq, hf]), fun q => absurd rfl q⟩
  · refine ⟨fun q => absurd q (by decide), fun _ => s_words (hR1 n hn).1 (by omega) hC ⟨fun q => fin true ?_, fun q => ?_⟩⟩
    · rw [hq, hsp, Bool.true_and, show mkB (cs n) (cs m) = true from List.all_eq_true.mpr (fun w hw => decide_eq_true (hall w (by have := List.mem_range.mp hw; omega)))]
    · refine s_isIn (hR1 n hn).1 (by omega) (by omega) (s_isIn (hR1 m hm).1 (by omega) (by omega) ⟨fun q2 => ?_, fun q2 => ?_⟩)
      · refine ⟨inR_i (by omega) (by omega), hX _ _ _ _ _ ⟨rfl, rfl, rfl, i + 1, rfl, by omega, Or.inl ⟨rfl, ?_⟩⟩ (by omega)⟩
        rw [hsp, Bool.true_and]
        cases hb : mkB (cs n) (cs m)
        · rfl
        · have := of_decide_eq_true (List.all_eq_true.mp hb i (List.mem_range.mpr (by omega)))
          exact absurd (by rw [this]) q2
      · refine ⟨inR_i (by omega) (by omega), hX _ _ _ _ _ ⟨rfl, rfl, rfl, i + 1, rfl, by omega, Or.inr ⟨rfl, hsp, fun j hj => ?_⟩⟩ (by omega)⟩
        by_cases e : j = i
        · subst e
          cases h1 : cM (cs n) j <;> cases h2 : cM (cs m) j <;> simp_all [bI]
        · exact hall j (by omega)
end RT

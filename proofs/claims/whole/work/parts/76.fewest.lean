/-! ===== the class: fewest ===== -/
def sgP (F : Option (List Nat) × Nat) (μ : Mem) : Prop := μ.1 74 4 = (F.2 : Int) ∧ match F.1 with
  | some l => μ.1 74 5 = 0 ∧ μ.1 74 3 = (l.length : Int) ∧ l.length ≤ 8 ∧ ∀ i, i < l.length → μ.1 78 i = (l.getD i 0 : Int)
  | none => μ.1 74 5 = 1
theorem sk_60000 {C : Cd} {r n : Nat} (hp : 1 ≤ cW C) : skF C r n noM 60000 = none ∨ skF C r n noM 60000 = some (none, 60000) := by
  have h0 : ¬ ctF noM (cW C) = cW C := by rw [ctF_noM]; omega
  cases n with
  | zero => exact Or.inr (if_neg h0)
  | succ n =>
    have hs : skF C r (n + 1) noM 60000 = if ctF noM (cW C) = cW C then some (some [], 60000) else if (n + 1) * blF C r < cW C - ctF noM (cW C) then some (none, 60000) else goF (skF C r n) (bwF C r) noM (cdF (fun w => bwF C r w (fsF noM)) 0 (cW C)) 60000 := rfl
    rw [hs, if_neg h0]
    by_cases c : (n + 1) * blF C r < cW C - ctF noM (cW C)
    · rw [if_pos c]; exact Or.inr rfl
    · rw [if_neg c]; exact goF_60000 _ _ _ _
/-- what the search's run leaves alone -/
def gRn (μ μ' : Mem) : Prop := (∀ q, (q < 74 ∨ 79 ≤ q) → μ'.1 q = μ.1 q ∧ μ'.2 q = μ.2 q)
theorem gRn.tr {μ μ' μ'' : Mem} (h : gRn μ μ') (h2 : gRn μ' μ'') : gRn μ μ'' := fun q a => ⟨(h2 q a).1.trans (h q a).1, (h2 q a).2.trans (h q a).2⟩
theorem gS.R {μ μ' : Mem} (h : gS μ μ') : gRn μ μ' := fun q a => ⟨h.1 q (by omega) (by omega), by rw [h.2.1]⟩
theorem oB.R {μ μ' : Mem} (h : oB 75 μ μ') : gRn μ μ' := fun q a => h q (by omega)
theorem gRn.I {μ : Mem} {j : Nat} {v : Int} : gRn μ (sI μ 74 j v) := fun q a => ⟨sI_ne (by omega), rfl⟩
theorem gRn.k {μ μ' : Mem} (h : gRn μ μ') : kq μ μ' := ⟨fun q _ b => h q (by omega), fun j _ _ => by rw [(h 0 (by omega)).1], (h 0 (by omega)).2⟩
section CS
variable {μ : Mem} {C : Cd}
theorem s6_run {r : Nat} {R : Mem → Prop} (hg : grS μ C (cN C)) (hC : okC C) (h81 : cW C ≤ 81) (hq : ∀ μ', gRn μ μ' → sgP (fwF C r) μ' → R μ') : wp_X6_run r μ R := by
  have hpos := hC.pos
  refine s0_lay hg hC h81 (by omega) (fun μ1 o1 b1 μ2 e2 μ3 e3 μ4 e4 => ?_)
  have g4 : gRn μ μ4 := by rw [e4, e3, e2]; exact ((o1.R.tr gRn.I).tr gRn.I).tr gRn.I
  have b4 : blS μ4 75 C r := by
    have : gS μ1 μ4 := by rw [e4, e3, e2]; exact ((gS.rf.f (by omega)).f (by omega)).f (by omega)
    exact b1.g this
  have h44 : μ4.1 74 4 = ((0 : Nat) : Int) := by rw [e4, sI_nj (by omega), e3, sI_s]; rfl
  have h45 : μ4.1 74 5 = 0 := by rw [e4, sI_s]
  generalize hF : fwF C r = F at hq
  refine LP2_rule (fun (v3 : Int) (μ5 : Mem) => gRn μ μ5 ∧ blS μ5 75 C r ∧ μ5.1 74 5 = 0 ∧ ∃ n s : Nat, v3 = (n : Int) ∧ 1 ≤ n ∧ n ≤ 9 ∧ μ5.1 74 4 = (s : Int) ∧ s ≤ 60000 ∧ (F = tpF C r (9 - n) n s ∨ (s = 60000 ∧ F = (none, 60000)))) (fun v3 _ => (9 - v3).toNat) ?_ ⟨g4, b4, h45, 1, 0, rfl, by omega, by omega, h44, by omega, Or.inl hF.symm⟩
  rintro X v3 μ5 ⟨g5, b5, h55, n, s, rfl, hn1, hn9, h54, hs, hFF⟩ hX
  refine ⟨fun c μ6 e6 => ?_, fun c μ7 e7 => ?_⟩
  · have e9 : n = 9 := by omega
    subst e9
    refine hq μ6 (g5.tr (by rw [e6]; exact gRn.I)) ?_
    have F1 : F = (none, s) := by
      rcases hFF with h | ⟨h1, h2⟩
      · exact h
      · rw [h1]; exact h2
    rw [F1]
    exact ⟨by rw [e6, sI_nj (by omega)]; exact h54, by rw [e6]; exact sI_s⟩
  · have b7 : blS μ7 75 C r := by
      unfold blS at *
      rw [e7, sI_ne (by omega)]
      exact b5
    have g7 : gRn μ μ7 := g5.tr (by rw [e7]; exact gRn.I)
    refine s0_all (R := fun y z μ10 => wp_X6_seek 12 0 y z μ10 _) b7.1 h81 (fun y z hyz => ?_)
    have h72 : μ7.1 74 2 = ((0 + n : Nat) : Int) := by rw [e7, sI_s, Nat.zero_add]
    have h74 : μ7.1 74 4 = (s : Int) := by rw [e7, sI_nj (by omega)]; exact h54
    have h75 : μ7.1 74 5 = 0 := by rw [e7, sI_nj (by omega)]; exact h55
    refine s6_seek hC h81 n (by omega) 12 (by omega) y z noM s 0 μ7 _ (fun x hx => by rw [hyz x hx]; show _ = (decide (x < cW C) && !false); rw [Bool.not_false, Bool.and_true]) b7 h72 (by omega) h74 hs h75 (fun v μ12 hP => ?_)
    have g12 := g7.tr hP.1.R
    have b12 := b7.g hP.1
    have hP2 := hP.2.2
    cases hR : skF C r n noM s with
    | none =>
      rw [hR] at hP2
      obtain ⟨rfl, p4, p5⟩ := hP2
      have F1 : F = (none, 60000) := by
        rcases hFF with h | ⟨h1, h2⟩
        · rw [h, show 9 - n = (8 - n) + 1 by omega]
          simp only [tpF, hR]
        · exact h2
      refine ⟨fun q => absurd rfl q, fun _ => ⟨fun q => absurd q (by omega), fun _ => hq μ12 g12 ?_⟩⟩
      rw [F1]
      exact ⟨p4, p5⟩
    | some o =>
      obtain ⟨o1, s'⟩ := o
      cases o1 with
      | none =>
        rw [hR] at hP2
        obtain ⟨rfl, p4, p6, p7, p5⟩ := hP2
        refine ⟨fun q => absurd rfl q, fun _ => ⟨fun _ => ⟨inR_i (by omega) (by omega), hX _ _ ⟨g12, b12, p5, n + 1, s', rfl, by omega, by omega, p4, p7, ?_⟩ (by omega)⟩, fun q => absurd p5 q⟩⟩
        rcases hFF with h | ⟨h1, h2⟩
        · by_cases e6 : s' = 60000
          · refine Or.inr ⟨e6, ?_⟩
            rw [h, show 9 - n = (8 - n) + 1 by omega]
            simp only [tpF, hR, if_pos e6]
          · refine Or.inl ?_
            rw [h, show 9 - n = (9 - (n + 1)) + 1 by omega]
            simp only [tpF, hR, if_neg e6]
        · refine Or.inr ⟨by omega, h2⟩
      | some l =>
        rw [hR] at hP2
        obtain ⟨rfl, p4, p7, p3, pn, p5, pl⟩ := hP2
        refine ⟨fun _ => hq μ12 g12 ?_, fun q => absurd q (by decide)⟩
        rcases hFF with h | ⟨h1, h2⟩
        · have F1 : F = (some l, s') := by
            rw [h, show 9 - n = (8 - n) + 1 by omega]
            simp only [tpF, hR]
          rw [F1]
          exact ⟨p4, p5, by rw [p3, Nat.zero_add], by omega, fun i hi => by have := pl i hi; rw [Nat.zero_add] at this; exact this⟩
        · exfalso
          subst h1
          rcases sk_60000 (C := C) (r := r) (n := n) hpos with h | h <;> rw [hR] at h <;> cases h
theorem s6_told {F : Option (List Nat) × Nat} {a : Int} {Q : Int → Mem → Prop} (h : sgP F μ) (ha : 0 ≤ a ∧ a ≤ 9) (hq : Q (lfI F a) μ) : wp_X6_told a μ Q := by
  unfold lfI at hq
  refine ⟨fun c => ?_, fun c => ?_⟩
  · rw [if_neg c] at hq
    obtain ⟨h1, h2⟩ := h
    cases hF : F.1 with
    | none =>
      rw [hF] at h2 hq
      exact ⟨fun q => absurd q (by omega), fun _ => hq⟩
    | some l =>
      rw [hF] at h2 hq
      obtain ⟨p5, p3, p8, pl⟩ := h2
      refine ⟨fun _ => ⟨fun c2 => ⟨inR_i (by omega) (by omega), fun x4 e4 => ?_⟩, fun c2 => ?_⟩, fun q => absurd p5 q⟩
      · have hq : Q (if a = 0 then (l.length : Int) else if a - 2 < (l.length : Int) then (l.getD (a - 2).toNat 0 : Int) else -2) μ := hq
        rw [if_neg c2] at hq
        rw [p3]
        refine ⟨fun c3 => absurd c3 (by omega), fun c3 => ⟨fun c4 => ?_, fun c4 => ⟨by omega, ?_⟩⟩⟩
        · rw [if_neg (by omega)] at hq; exact hq
        · rw [if_pos (by omega), ← pl (a - 2).toNat (by omega)] at hq
          rw [e4]
          exact hq
      · have hq : Q (if a = 0 then (l.length : Int) else if a - 2 < (l.length : Int) then (l.getD (a - 2).toNat 0 : Int) else -2) μ := hq
        rw [if_pos c2] at hq
        rw [p3]
        exact hq
  · rw [if_pos c] at hq
    rw [h.1]
    exact hq
end CS
theorem cM_out {C : Cd} (h : okC C) {w : Nat} (hw : ¬ w < cW C) : cM C w = false := by
  cases e : cM C w
  · rfl
  · exact absurd (h.2.2.2.2.1 w e) hw
theorem mkB_all {A B : Cd} (hA : okC A) (hB : okC B) (hs : spB A B = true) (h : mkB A B = true) : ∀ w, w < 256 → cM A w = cM B w := fun w _ => by
  have hsp := spB_iff.mp hs
  have hW : cW B = cW A := by
    unfold cW
    rw [← hsp.1]
    exact wdF_cong fun i hi => (hsp.2 i hi).1.symm
  by_cases e : w < cW A
  · exact of_decide_eq_true (List.all_eq_true.mp h w (List.mem_range.mpr e))
  · rw [cM_out hA e, cM_out hB (by rw [hW]; exact e)]
theorem mkB_of {A B : Cd} (hA : okC A) (h : ∀ w, w < 256 → cM A w = cM B w) : mkB A B = true := List.all_eq_true.mpr (fun w hw => decide_eq_true (h w (by have := List.mem_range.mp hw; have := hA.2.2.2.1; omega)))
section KQ
variable {μ : Mem} {cs : Nat → Cd} {Q P : Int → Mem → Prop} {c r a d : Int}
theorem s7_fewest (hR : krs μ cs) (HQ : KH Q μ (q_fewest cs c r a)) : wp_X7_fewest c r a μ Q := by
  have no : ¬ (isK cs c ∧ 0 ≤ a ∧ a ≤ 9) → wp_X7_fewest_22 Q c r a μ := fun h => f7_0 (A1 (e7_no HQ kq.rf (if_neg h)))
  refine c7_isK hR (fun n => A0 (no fun q => n q.1)) (fun y => A1 ⟨fun q => no fun z => by omega, fun q => ⟨fun q2 => no fun z => by omega, fun q2 => f7_1 (fun n => A2 (e7_no HQ kq.rf ((if_pos ⟨y, by omega, by omega⟩).trans (if_neg n)))) (fun y2 => A0 ⟨⟨y.1, y.2.1⟩, ?_⟩)⟩⟩)
  have hq : q_fewest cs c r a = _ := (if_pos ⟨y, by omega, by omega⟩).trans (if_pos y2)
  obtain ⟨n, rfl, hn, hp⟩ := y.nat
  obtain ⟨m, rfl, hm⟩ := y2.nat
  simp only [Int.toNat_natCast] at hq ⊢
  have hC := (hR n hn).2
  rw [(hR n hn).1.2.2.1]
  refine ⟨fun q3 => ?_, fun q3 => e7_no HQ kq.rf (hq.trans (if_neg (by omega)))⟩
  rw [if_pos (by omega)] at hq
  exact s3_lay (hR n hn).1 hC (by omega) fun μ1 o1 g1 => s6_run g1 hC (by omega) fun μ2 g2 hs => s6_told hs (by omega) (e7_yes HQ (o1.k.tr g2.k) hq)
theorem s7_same (hR : krs μ cs) (HQ : KH Q μ (q_same cs c d)) : wp_X7_same c d μ Q := by
  refine c7_isK hR (fun n => A0 (e7_no HQ kq.rf (if_neg (fun q => n q.1)))) (fun y => A1 (c7_isK hR (fun n => B0 (e7_no HQ kq.rf (if_neg (fun q => n q.2)))) (fun y2 => B1 ⟨⟨y.1, y.2.1⟩, ⟨y2.1, y2.2.1⟩, ?_⟩)))
  have hq : q_same cs c d = _ := if_pos ⟨y, y2⟩
  obtain ⟨n, rfl, hn, hp⟩ := y.nat
  obtain ⟨m, rfl, hm, hp2⟩ := y2.nat
  simp only [Int.toNat_natCast] at hq ⊢
  have hA := (hR n hn).2
  have hB := (hR m hm).2
  refine s1_hasSpaceOf (hR n hn).1 hA (hR m hm).1 (fun z => A0 (A0 (e7_yes HQ kq.rf (hq.trans ?_)))) (fun z => A1 (s1_hasWordsOf (hR n hn).1 (hR m hm).1 (fun z2 => A0 (A0 (e7_yes HQ kq.rf (hq.trans ?_)))) (fun z2 => A1 (A1 (e7_yes HQ kq.rf (hq.trans ?_))))))
  · have : spB (cs n) (cs m) = false := Bool.eq_false_iff.mpr (fun e => z (spB_iff.mp e))
    rw [this, Bool.false_and]; rfl
  · have : mkB (cs n) (cs m) = false := Bool.eq_false_iff.mpr (fun e => z2 (mkB_all hA hB (spB_iff.mpr z) e))
    rw [this, Bool.and_false]; rfl
  · have : mkB (cs n) (cs m) = true := mkB_of hA z2
    rw [this, spB_iff.mpr z]; rfl
end KQ

/-! the class: greedy and thin -/
/-- the same space -/
def sp (D C : Cd) : Prop := cN D = cN C ∧ cS D = cS C ∧ cT D = cT C
theorem sp.rf {C : Cd} : sp C C := ⟨rfl, rfl, rfl⟩
theorem sp.W {D C : Cd} (h : sp D C) : cW D = cW C := by unfold cW; rw [h.1, h.2.1]
theorem sp.F {D C : Cd} (h : sp D C) (a b : Nat) : cF D a b = cF C a b := by unfold cF; rw [h.1, h.2.1, h.2.2]
theorem sp.set {D C : Cd} (h : sp D C) (w : Nat) (b : Bool) : sp (setM D w b) C := h
theorem grS.sp {μ : Mem} {D C : Cd} {i : Nat} (h : grS μ C i) (hs : sp D C) : grS μ D i := by
  unfold grS odB hvB at *
  rw [hs.2.1, hs.2.2]
  exact h
/-- nothing but the code in p and the times and gains has moved -/
def oW (p : Nat) (μ μ' : Mem) : Prop := ∀ q, (q < p ∨ p + 4 ≤ q) → q ≠ 72 → q ≠ 73 → μ'.1 q = μ.1 q ∧ μ'.2 q = μ.2 q
theorem oW.rf {p : Nat} {μ : Mem} : oW p μ μ := fun _ _ _ _ => ⟨rfl, rfl⟩
theorem oW.tr {p : Nat} {μ μ' μ'' : Mem} (h : oW p μ μ') (h2 : oW p μ' μ'') : oW p μ μ'' := fun q a b c => ⟨(h2 q a b c).1.trans (h q a b c).1, (h2 q a b c).2.trans (h q a b c).2⟩
theorem oC.W {p : Nat} {μ μ' : Mem} (h : oC p μ μ') : oW p μ μ' := fun q a _ _ => h q a
/-- nothing but the times and gains has moved -/
def oT (μ μ' : Mem) : Prop := (∀ q, q ≠ 72 → q ≠ 73 → μ'.1 q = μ.1 q) ∧ μ'.2 = μ.2
theorem oT.rf {μ : Mem} : oT μ μ := ⟨fun _ _ _ => rfl, rfl⟩
theorem oT.tr {μ μ' μ'' : Mem} (h : oT μ μ') (h2 : oT μ' μ'') : oT μ μ'' := ⟨fun q a b => (h2.1 q a b).trans (h.1 q a b), h2.2.trans h.2⟩
theorem oT.W {p : Nat} {μ μ' : Mem} (h : oT μ μ') : oW p μ μ' := fun q _ b c => ⟨h.1 q b c, by rw [h.2]⟩
theorem o72.T {μ μ' : Mem} (h : o72 μ μ') : oT μ μ' := ⟨fun q a _ => h.1 q a, h.2⟩
theorem grS.T {μ μ' : Mem} {C : Cd} {i : Nat} (h : grS μ C i) (ho : oT μ μ') : grS μ' C i := by
  unfold grS at *
  rw [ho.1 70 (by omega) (by omega), ho.1 71 (by omega) (by omega)]
  exact h
theorem crep.T {μ μ' : Mem} {k : Nat} {C : Cd} (h : crep μ k C) (ho : oT μ μ') (hk : k + 4 ≤ 72 ∨ 74 ≤ k) : crep μ' k C := by
  unfold crep at *
  rw [ho.1 k (by omega) (by omega), ho.1 (k + 1) (by omega) (by omega), ho.1 (k + 2) (by omega) (by omega), ho.2]
  exact h
/-- nothing but the gains has moved -/
def o73 (μ μ' : Mem) : Prop := (∀ q, q ≠ 73 → μ'.1 q = μ.1 q) ∧ μ'.2 = μ.2
theorem o73.rf {μ : Mem} : o73 μ μ := ⟨fun _ _ => rfl, rfl⟩
theorem o73.tr {μ μ' μ'' : Mem} (h : o73 μ μ') (h2 : o73 μ' μ'') : o73 μ μ'' := ⟨fun q a => (h2.1 q a).trans (h.1 q a), h2.2.trans h.2⟩
theorem o73.I {μ μ' : Mem} {j : Nat} {v : Int} (h : o73 μ μ') : o73 μ (sI μ' 73 j v) := h.tr ⟨fun p a => sI_ne a, rfl⟩
theorem o73.T {μ μ' : Mem} (h : o73 μ μ') : oT μ μ' := ⟨fun q _ b => h.1 q b, h.2⟩
/-- what the gains say, n holes looked at -/
def gnI (μ : Mem) (C : Cd) (r n : Nat) : Prop := ∀ v, v < cW C → μ.1 73 v = ((ctF (fun x => decide (μ.1 72 x = 0) && decide (cF C v x ≤ r)) n : Nat) : Int)
theorem tm_add {C : Cd} {r b x : Nat} (hb : b < cW C) : tmF (setM C b true) r x = 0 ↔ (tmF C r x = 0 ∧ ¬ cF C x b ≤ r) := by
  unfold tmF
  rw [ctF_zero, ctF_zero]
  constructor
  · intro h
    refine ⟨fun v hv => ?_, fun hc => ?_⟩
    · have := h v hv
      have this : ((if v = b then true else cM C v) && decide (cF C x v ≤ r)) = false := this
      by_cases e : v = b
      · rw [if_pos e, Bool.true_and] at this
        rw [this, Bool.and_false]
      · rw [if_neg e] at this; exact this
    · have := h b hb
      have this : ((if b = b then true else cM C b) && decide (cF C x b ≤ r)) = false := this
      rw [if_pos rfl, decide_eq_true hc] at this
      cases this
  · rintro ⟨h, hc⟩ v hv
    show ((if v = b then true else cM C v) && decide (cF C x v ≤ r)) = false
    by_cases e : v = b
    · rw [e, decide_eq_false hc, Bool.and_false]
    · rw [if_neg e]; exact h v hv
theorem tm_drop {C : Cd} {r w x : Nat} (hw : w < cW C) (hm : cM C w = true) : tmF (setM C w false) r x + (if cF C x w ≤ r then 1 else 0) = tmF C r x := by
  have h := ctF_up (p := fun v => cM C v && decide (cF C x v ≤ r)) (w := w) (b := false) hw
  have e : tmF (setM C w false) r x = ctF (fun v => if v = w then false else (cM C v && decide (cF C x v ≤ r))) (cW C) := ctF_cong fun v hv => by
    show ((if v = w then false else cM C v) && decide (cF C x v ≤ r)) = _
    by_cases e : v = w
    · rw [if_pos e, if_pos e, Bool.false_and]
    · rw [if_neg e, if_neg e]
  have e2 : tmF C r x = ctF (fun v => cM C v && decide (cF C x v ≤ r)) (cW C) := rfl
  rw [e, e2]
  have h : ctF (fun v => if v = w then false else (cM C v && decide (cF C x v ≤ r))) (cW C) + (if (cM C w && decide (cF C x w ≤ r)) = true then 1 else 0) = ctF (fun v => cM C v && decide (cF C x v ≤ r)) (cW C) + 0 := h
  rw [hm, Bool.true_and] at h
  by_cases c : cF C x w ≤ r
  · rw [if_pos c]; rw [decide_eq_true c, if_pos rfl] at h; omega
  · rw [if_neg c]; rw [decide_eq_false c, if_neg (by decide)] at h; omega
theorem grF_0 {r k n : Nat} {C : Cd} (h : hlF C r = 0) : grF r k C n = (C, n) := by
  cases k with
  | zero => rfl
  | succ k => exact if_pos h
theorem grF_n {r k n : Nat} {C : Cd} (h : ¬ hlF C r = 0) : grF r (k + 1) C n = grF r k (setM C (axF (gnF C r) (cW C)) true) (n + 1) := if_neg h
section CC
variable {μ : Mem} {C : Cd}
theorem s3_addGains {w r : Nat} {s : Int} {Q : Mem → Prop} (hg : grS μ C (cN C)) (hC : okC C) (hw : w < cW C) (hs : -1 ≤ s ∧ s ≤ 1) (hb : ∀ x, x < cW C → -1000 ≤ μ.1 73 x ∧ μ.1 73 x ≤ 1000)
    (hq : ∀ μ', o73 μ μ' → (∀ x, x < cW C → μ'.1 73 x = μ.1 73 x + (if cF C w x ≤ r then s else 0)) → Q μ') : wp_X3_addGains w r s μ Q := by
  have hw8 := hC.2.2.2.1
  refine LP5_rule (fun (v1 v2 v3 v4 : Int) (μ2 : Mem) => v1 = (w : Int) ∧ v2 = (r : Int) ∧ v3 = s ∧ o73 μ μ2 ∧ ∃ i : Nat, v4 = (i : Int) ∧ i ≤ cW C ∧ (∀ x, x < i → μ2.1 73 x = μ.1 73 x + (if cF C w x ≤ r then s else 0)) ∧ ∀ x, i ≤ x → μ2.1 73 x = μ.1 73 x) (fun _ _ _ v4 _ => ((cW C : Int) - v4).toNat) ?_ ⟨rfl, rfl, rfl, o73.rf, 0, rfl, Nat.zero_le _, fun x hx => absurd hx (Nat.not_lt_zero x), fun _ _ => rfl⟩
  rintro X v1 v2 v3 v4 μ2 ⟨rfl, rfl, rfl, ho, i, rfl, hi, h1, h2⟩ hX
  have hg2 := hg.T ho.T
  have g0 : μ2.1 70 0 = (cW C : Int) := hg2.1
  unfold wp_X3_addGains_3
  rw [g0]
  refine ⟨fun c => hq μ2 ho (fun x hx => h1 x (by omega)), fun c => s3_distance hg2 hC hw (by omega) ⟨fun c2 => ⟨inR_i (by omega) (by omega), hX _ _ _ _ _ ⟨rfl, rfl, rfl, ho, i + 1, rfl, by omega, fun x hx => ?_, fun x hx => h2 x (by omega)⟩ (by omega)⟩, fun c2 => ⟨by omega, ?_⟩⟩⟩
  · by_cases e : x = i
    · rw [e, if_neg (by omega), h2 i (Nat.le_refl _), Int.add_zero]
    · exact h1 x (by omega)
  · have hbi := hb i (by omega)
    rw [Int.toNat_natCast, h2 i (Nat.le_refl _)]
    refine ⟨inR_i (by omega) (by omega), fun μ8 e8 => ⟨inR_i (by omega) (by omega), hX _ _ _ _ _ ⟨rfl, rfl, rfl, by rw [e8]; exact ho.I, i + 1, rfl, by omega, fun x hx => ?_, fun x hx => by rw [e8, sI_nj (by omega)]; exact h2 x (by omega)⟩ (by omega)⟩⟩
    by_cases e : x = i
    · rw [e, e8, sI_s, if_pos (by omega)]
    · rw [e8, sI_nj e]; exact h1 x (by omega)
theorem s3_mostGain {f : Nat → Nat} {Q : Int → Mem → Prop} (hg : grS μ C (cN C)) (hC : okC C) (hf : ∀ x, x < cW C → μ.1 73 x = (f x : Int)) (hq : Q (axF f (cW C) : Nat) μ) : wp_X3_mostGain μ Q := by
  have hw8 := hC.2.2.2.1
  have hp := hC.pos
  have g0 : μ.1 70 0 = (cW C : Int) := hg.1
  have a1 : axF f 1 = 0 := by
    show (if f (axF f 0) < f 0 then 0 else axF f 0) = 0
    split <;> rfl
  refine LP3_rule (fun (v1 v2 : Int) (μ2 : Mem) => μ2 = μ ∧ ∃ i : Nat, v2 = (i : Int) ∧ 1 ≤ i ∧ i ≤ cW C ∧ v1 = (axF f i : Int)) (fun _ v2 _ => ((cW C : Int) - v2).toNat) ?_ ⟨rfl, 1, rfl, by omega, by omega, by rw [a1]; rfl⟩
  rintro X v1 v2 μ2 ⟨rfl, i, rfl, h1, hi, rfl⟩ hX
  have hl := axF_lt (f := f) (n := i) (by omega)
  have hs : axF f (i + 1) = if f (axF f i) < f i then i else axF f i := rfl
  unfold wp_X3_mostGain_4
  rw [g0, Int.toNat_natCast, Int.toNat_natCast]
  refine ⟨fun c => ?_, fun c => ⟨by omega, by omega, ?_⟩⟩
  · have e : i = cW C := by omega
    subst e
    exact hq
  · rw [hf i (by omega), hf _ (by omega)]
    refine ⟨fun c2 => ⟨inR_i (by omega) (by omega), hX _ _ _ ⟨rfl, i + 1, rfl, by omega, by omega, by rw [hs, if_neg (by omega)]⟩ (by omega)⟩, fun c2 => ⟨inR_i (by omega) (by omega), hX _ _ _ ⟨rfl, i + 1, rfl, by omega, by omega, by rw [hs, if_pos (by omega)]⟩ (by omega)⟩⟩
theorem s3_fillHolesNear {b r : Nat} {Q : Mem → Prop} (hg : grS μ C (cN C)) (hC : okC C) (hb : b < cW C) (hgi : gnI μ C r (cW C))
    (hq : ∀ μ', oT μ μ' → gnI μ' C r (cW C) → (∀ x, x < cW C → μ'.1 72 x = if μ.1 72 x = 0 ∧ cF C b x ≤ r then 1 else μ.1 72 x) → Q μ') : wp_X3_fillHolesNear b r μ Q := by
  have hw8 := hC.2.2.2.1
  refine LP4_rule (fun (v1 v2 v3 : Int) (μ2 : Mem) => v1 = (b : Int) ∧ v2 = (r : Int) ∧ oT μ μ2 ∧ gnI μ2 C r (cW C) ∧ ∃ i : Nat, v3 = (i : Int) ∧ i ≤ cW C ∧ (∀ x, x < i → μ2.1 72 x = if μ.1 72 x = 0 ∧ cF C b x ≤ r then 1 else μ.1 72 x) ∧ ∀ x, i ≤ x → μ2.1 72 x = μ.1 72 x) (fun _ _ v3 _ => ((cW C : Int) - v3).toNat) ?_ ⟨rfl, rfl, oT.rf, hgi, 0, rfl, Nat.zero_le _, fun x hx => absurd hx (Nat.not_lt_zero x), fun _ _ => rfl⟩
  rintro X v1 v2 v3 μ2 ⟨rfl, rfl, ho, hgi2, i, rfl, hi, h1, h2⟩ hX
  have hg2 := hg.T ho
  have g0 : μ2.1 70 0 = (cW C : Int) := hg2.1
  unfold wp_X3_fillHolesNear_2
  rw [g0, Int.toNat_natCast, h2 i (Nat.le_refl _)]
  refine ⟨fun c => hq μ2 ho hgi2 (fun x hx => h1 x (by omega)), fun c => ⟨by omega, fun c2 => ⟨inR_i (by omega) (by omega), hX _ _ _ _ ⟨rfl, rfl, ho, hgi2, i + 1, rfl, by omega, fun x hx => ?_, fun x hx => h2 x (by omega)⟩ (by omega)⟩, fun c2 => s3_distance hg2 hC hb (by omega) ⟨fun c3 => ⟨inR_i (by omega) (by omega), hX _ _ _ _ ⟨rfl, rfl, ho, hgi2, i + 1, rfl, by omega, fun x hx => ?_, fun x hx => h2 x (by omega)⟩ (by omega)⟩, fun c3 μ9 e9 => ?_⟩⟩⟩
  · by_cases e : x = i
    · rw [e, if_neg (fun q => c2 q.1), h2 i (Nat.le_refl _)]
    · exact h1 x (by omega)
  · by_cases e : x = i
    · rw [e, if_neg (fun q => by omega), h2 i (Nat.le_refl _)]
    · exact h1 x (by omega)
  · have o9 : oT μ2 μ9 := by rw [e9]; exact (o72.rf.I).T
    have hg9 := hg2.T o9
    have hz : μ2.1 72 i = 0 := by rw [h2 i (Nat.le_refl _)]; exact c2
    have hgain : ∀ v, v < cW C → μ9.1 73 v = ((ctF (fun x => decide (μ2.1 72 x = 0) && decide (cF C v x ≤ r)) (cW C) : Nat) : Int) := fun v hv => by rw [e9, sI_ne (by omega)]; exact hgi2 v hv
    refine s3_addGains (s := -1) hg9 hC (by omega) (by omega) (fun x hx => ?_) (fun μ10 ho10 ht10 => ⟨inR_i (by omega) (by omega), hX _ _ _ _ ⟨rfl, rfl, ho.tr (o9.tr ho10.T), fun v hv => ?_, i + 1, rfl, by omega, fun x hx => ?_, fun x hx => ?_⟩ (by omega)⟩)
    · have := ctF_le (fun y => decide (μ2.1 72 y = 0) && decide (cF C x y ≤ r)) (cW C)
      rw [hgain x hx]; omega
    · rw [ht10 v hv, hgain v hv]
      have hu := ctF_up (p := fun y => decide (μ2.1 72 y = 0) && decide (cF C v y ≤ r)) (w := i) (b := false) (n := cW C) (by omega)
      have e1 : ctF (fun x => decide (μ10.1 72 x = 0) && decide (cF C v x ≤ r)) (cW C) = ctF (fun x => if x = i then false else (decide (μ2.1 72 x = 0) && decide (cF C v x ≤ r))) (cW C) := ctF_cong fun x hx => by
        rw [ho10.1 72 (by omega), e9]
        by_cases e : x = i
        · rw [if_pos e, e, sI_s, decide_eq_false (by omega), Bool.false_and]
        · rw [if_neg e, sI_nj e]
      have hu : ctF (fun x => if x = i then false else (decide (μ2.1 72 x = 0) && decide (cF C v x ≤ r))) (cW C) + (if (decide (μ2.1 72 i = 0) && decide (cF C v i ≤ r)) = true then 1 else 0) = ctF (fun x => decide (μ2.1 72 x = 0) && decide (cF C v x ≤ r)) (cW C) + 0 := hu
      rw [decide_eq_true hz, Bool.true_and] at hu
      rw [e1, cF_symm C i v]
      by_cases c4 : cF C v i ≤ r
      · rw [if_pos c4]; rw [decide_eq_true c4, if_pos rfl] at hu; omega
      · rw [if_neg c4]; rw [decide_eq_false c4, if_neg (by decide)] at hu; omega
    · rw [ho10.1 72 (by omega), e9]
      by_cases e : x = i
      · rw [e, sI_s, if_pos ⟨c2, by omega⟩]
      · rw [sI_nj e]; exact h1 x (by omega)
    · rw [ho10.1 72 (by omega), e9, sI_nj (by omega)]; exact h2 x (by omega)
theorem s3_fill {p r : Nat} {Q : Int → Mem → Prop} (hp : crep μ p C) (hg : grS μ C (cN C)) (hC : okC C) (h0 : 0 < cN C) (hk : p + 4 ≤ 70 ∨ 74 ≤ p) (ht : ∀ x, x < cW C → μ.1 72 x = (tmF C r x : Int))
    (hq : ∀ μ', oW p μ μ' → crep μ' p (grF r 256 C 0).1 → okC (grF r 256 C 0).1 → Q ((grF r 256 C 0).2 : Nat) μ') : wp_X3_fill p r μ Q := by
  have hw8 := hC.2.2.2.1
  generalize hR : grF r 256 C 0 = R at hq
  refine s_fillI (by omega) (fun μ1 f1 f2 f3 => ?_)
  have o1 : o73 μ μ1 := ⟨f2, f1⟩
  have t1 : ∀ x, μ1.1 72 x = μ.1 72 x := fun x => by rw [o1.1 72 (by omega)]
  -- the turns
  have turns : ∀ μ2 : Mem, o73 μ μ2 → gnI μ2 C r (cW C) → LP5 (wp_X3_fill_45 Q) p r 0 0 μ2 := by
    intro μ2 ho2 hg2
    refine LP5_rule (fun (v1 : Nat) (v2 v3 v4 : Int) (μ3 : Mem) => v1 = p ∧ v2 = (r : Int) ∧ oW p μ μ3 ∧ gnI μ3 C r (cW C) ∧ ∃ (t : Nat) (D : Cd), v3 = (t : Int) ∧ v4 = (t : Int) ∧ t ≤ cW C ∧ crep μ3 p D ∧ okC D ∧ sp D C ∧ (∀ x, x < cW C → (μ3.1 72 x = 0 ↔ tmF D r x = 0)) ∧ hlF D r + t ≤ cW C ∧ R = grF r (256 - t) D t)
      (fun _ _ _ v4 _ => ((cW C : Int) - v4).toNat) ?_ ⟨rfl, rfl, ho2.T.W, hg2, 0, C, rfl, rfl, Nat.zero_le _, hp.T ho2.T (by omega), hC, sp.rf, fun x hx => by rw [ho2.1 72 (by omega), ht x hx]; omega, by have := ctF_le (fun w => decide (tmF C r w = 0)) (cW C); show ctF _ _ + 0 ≤ _; omega, by rw [Nat.sub_zero]; exact hR.symm⟩
    rintro X v1 v2 v3 v4 μ3 ⟨rfl, rfl, ho3, hgi3, t, D, rfl, rfl, htW, hp3, hD, hsp, htm, hh, hgr⟩ hX
    have hgC : grS μ3 C (cN C) := by
      unfold grS
      rw [(ho3 70 (by omega) (by omega) (by omega)).1, (ho3 71 (by omega) (by omega) (by omega)).1]
      exact hg
    have g0 : μ3.1 70 0 = (cW C : Int) := hgC.1
    have done : hlF D r = 0 → Q (t : Int) μ3 := fun hz => by
      have e := hgr.trans (grF_0 hz)
      have h9 := hq μ3 ho3
      rw [e] at h9
      exact h9 hp3 hD
    unfold wp_X3_fill_45
    rw [g0]
    have hgn : ∀ v, v < cW C → μ3.1 73 v = (gnF D r v : Int) := fun v hv => by
      rw [hgi3 v hv]
      congr 1
      unfold gnF
      rw [hsp.W]
      refine ctF_cong fun x hx => ?_
      unfold hoF
      rw [hsp.F, decide_eq_decide.mpr (htm x hx)]
    have hax := axF_lt (f := gnF D r) (n := cW C) (by have := hC.pos; omega)
    refine ⟨fun c => done (by omega), fun c => s3_mostGain hgC hC hgn ⟨by omega, ?_⟩⟩
    rw [Int.toNat_natCast, hgn _ hax]
    refine ⟨fun c2 => ?_, fun c2 => done ?_⟩
    · refine s1_put hp3 hD (by rw [hsp.W]; exact hax) (fun μ8 o8 hp8 => ?_)
      have hg8 := hgC.o o8 (by omega)
      have hgi8 : gnI μ8 C r (cW C) := by
        unfold gnI
        rw [(o8 72 (by omega)).1, (o8 73 (by omega)).1]
        exact hgi3
      refine s3_fillHolesNear hg8 hC hax hgi8 (fun μ9 o9 hgi9 ht9 => ?_)
      have hgp : 0 < gnF D r (axF (gnF D r) (cW C)) := by omega
      have hdec := hlF_setM (C := D) (r := r) (b := axF (gnF D r) (cW C)) (by rw [hsp.W]; exact hax) hgp
      have hne : ¬ hlF D r = 0 := by omega
      refine ⟨inR_i (by omega) (by omega), inR_i (by omega) (by omega), hX _ _ _ _ _ ⟨rfl, rfl, ho3.tr (o8.W.tr o9.W), hgi9, t + 1, setM D (axF (gnF D r) (cW C)) true, rfl, rfl, by omega, hp8.T o9 (by omega), okC_setM hD (by rw [hsp.W]; exact hax) (by rw [hsp.1]; exact h0) true, hsp.set _ _, fun x hx => ?_, by omega, ?_⟩ (by omega)⟩
      · rw [ht9 x hx, (o8 72 (by omega)).1, tm_add (by rw [hsp.W]; exact hax), ← htm x hx, hsp.F, cF_symm C x]
        by_cases e : μ3.1 72 x = 0 ∧ cF C (axF (gnF D r) (cW C)) x ≤ r
        · rw [if_pos e]; omega
        · rw [if_neg e]; omega
      · rw [hgr, show 256 - t = (256 - (t + 1)) + 1 by omega, grF_n hne, hsp.W]
    · apply Classical.byContradiction
      intro hne
      have hb := gn_best (C := D) (r := r) (by omega)
      rw [hsp.W] at hb
      omega
  refine LP4_rule (fun (v1 : Nat) (v2 v3 : Int) (μ2 : Mem) => v1 = p ∧ v2 = (r : Int) ∧ o73 μ μ2 ∧ ∃ i : Nat, v3 = (i : Int) ∧ i ≤ cW C ∧ gnI μ2 C r i) (fun _ _ v3 _ => ((cW C : Int) - v3).toNat) ?_ ⟨rfl, rfl, o1, 0, rfl, Nat.zero_le _, fun v hv => f3 v (by omega)⟩
  rintro X v1 v2 v3 μ2 ⟨rfl, rfl, ho, i, rfl, hi, hgi⟩ hX
  have hg2 := hg.T ho.T
  have g0 : μ2.1 70 0 = (cW C : Int) := hg2.1
  unfold wp_X3_fill_10
  rw [g0, Int.toNat_natCast]
  refine ⟨fun c => ?_, fun c => ⟨by omega, fun c2 => ⟨inR_i (by omega) (by omega), hX _ _ _ _ ⟨rfl, rfl, ho, i + 1, rfl, by omega, fun v hv => ?_⟩ (by omega)⟩, fun c2 => ?_⟩⟩
  · have e : i = cW C := by omega
    subst e
    exact turns μ2 ho hgi
  · rw [ct0 (by rw [decide_eq_false c2, Bool.false_and])]; exact hgi v hv
  · refine s3_addGains (s := 1) hg2 hC (by omega) (by omega) (fun x hx => ?_) (fun μ3 ho3 ht3 => ⟨inR_i (by omega) (by omega), hX _ _ _ _ ⟨rfl, rfl, ho.tr ho3, i + 1, rfl, by omega, fun v hv => ?_⟩ (by omega)⟩)
    · have := ctF_le (fun y => decide (μ2.1 72 y = 0) && decide (cF C x y ≤ r)) i
      rw [hgi x hx]; omega
    · rw [ht3 v hv, hgi v hv, ho3.1 72 (by omega), cF_symm C i v]
      by_cases c3 : cF C v i ≤ r
      · rw [if_pos c3, ct1 (by rw [decide_eq_true c2, decide_eq_true c3]; rfl)]; rfl
      · rw [if_neg c3, ct0 (by rw [decide_eq_false c3, Bool.and_false]), Int.add_zero]
theorem s3_weed {p r : Nat} {Q : Int → Mem → Prop} (hp : crep μ p C) (hg : grS μ C (cN C)) (hC : okC C) (h0 : 0 < cN C) (hk : p + 4 ≤ 70 ∨ 74 ≤ p) (ht : ∀ x, x < cW C → μ.1 72 x = (tmF C r x : Int))
    (hq : ∀ μ', oW p μ μ' → crep μ' p (thF r (cW C) C 0).1 → okC (thF r (cW C) C 0).1 → Q ((thF r (cW C) C 0).2 : Nat) μ') : wp_X3_weed p r μ Q := by
  have hw8 := hC.2.2.2.1
  have hpos := hC.pos
  generalize hR : thF r (cW C) C 0 = R at hq
  have g0 : μ.1 70 0 = (cW C : Int) := hg.1
  unfold wp_X3_weed
  rw [g0]
  refine ⟨inR_i (by omega) (by omega), fun x1 e1 => ?_⟩
  refine LP5_rule (fun (v1 : Nat) (v2 v3 v4 : Int) (μ3 : Mem) => v1 = p ∧ v2 = (r : Int) ∧ oW p μ μ3 ∧ ∃ (t n : Nat) (D : Cd), v3 = (t : Int) ∧ v4 = (n : Int) - 1 ∧ t + n ≤ cW C ∧ crep μ3 p D ∧ okC D ∧ sp D C ∧ (∀ x, x < cW C → μ3.1 72 x = (tmF D r x : Int)) ∧ R = thF r n D t)
    (fun _ _ _ v4 _ => (v4 + 1).toNat) ?_ ⟨rfl, rfl, oW.rf, 0, cW C, C, rfl, by omega, by omega, hp, hC, sp.rf, ht, hR.symm⟩
  rintro X v1 v2 v3 v4 μ3 ⟨rfl, rfl, ho3, t, n, D, rfl, rfl, htW, hp3, hD, hsp, htm, hth⟩ hX
  have hgD : grS μ3 D (cN D) := by
    rw [hsp.1]
    refine grS.sp ?_ hsp
    unfold grS
    rw [(ho3 70 (by omega) (by omega) (by omega)).1, (ho3 71 (by omega) (by omega) (by omega)).1]
    exact hg
  refine ⟨fun c => ?_, fun c => ?_⟩
  · have e : n = 0 := by omega
    subst e
    have := hq μ3 ho3
    rw [hth] at this
    exact this hp3 hD
  · obtain ⟨w, rfl⟩ : ∃ w, n = w + 1 := ⟨n - 1, by omega⟩
    have hwW : w < cW D := by rw [hsp.W]; omega
    have hs : thF r (w + 1) D t = if cM D w = true ∧ idF D r w = true then thF r w (setM D w false) (t + 1) else thF r w D t := rfl
    rw [show ((w + 1 : Nat) : Int) - 1 = (w : Int) by omega]
    have htD : ∀ x, x < cW D → μ3.1 72 x = (tmF D r x : Int) := fun x hx => htm x (by rw [← hsp.W]; exact hx)
    refine s1_holds hp3 hD ⟨fun c2 => ⟨inR_i (by omega) (by omega), hX _ _ _ _ _ ⟨rfl, rfl, ho3, t, w, D, rfl, by omega, by omega, hp3, hD, hsp, htm, ?_⟩ (by omega)⟩, fun c2 => s3_onlyBy hgD hD htD hwW ⟨fun c3 => ⟨inR_i (by omega) (by omega), hX _ _ _ _ _ ⟨rfl, rfl, ho3, t, w, D, rfl, by omega, by omega, hp3, hD, hsp, htm, ?_⟩ (by omega)⟩, fun c3 => s1_drop hp3 hD hwW (fun μ12 o12 hp12 => ?_)⟩⟩
    · rw [hth, hs, if_neg (fun q => by rw [bI_0.mp c2] at q; exact absurd q.1 (by decide))]
    · rw [hth, hs, if_neg (fun q => c3 (congrArg Int.ofNat (of_decide_eq_true q.2)))]
    · have hg12 := hgD.o o12 (by omega)
      have t12 : ∀ x, x < cW D → μ12.1 72 x = (tmF D r x : Int) := fun x hx => by rw [(o12 72 (by omega)).1]; exact htD x hx
      refine s3_addTimes (s := -1) hg12 hD hwW (by omega) (fun x hx => ?_) (fun μ13 o13 h13 => ⟨inR_i (by omega) (by omega), inR_i (by omega) (by omega), hX _ _ _ _ _ ⟨rfl, rfl, ho3.tr (o12.W.tr o13.T.W), t + 1, w, setM D w false, rfl, by omega, by omega, hp12.T o13.T (by omega), okC_setM hD hwW (by rw [hsp.1]; exact h0) false, hsp.set _ _, fun x hx => ?_, ?_⟩ (by omega)⟩)
      · have := ctF_le (fun v => cM D v && decide (cF D x v ≤ r)) (cW D)
        have e : tmF D r x = ctF (fun v => cM D v && decide (cF D x v ≤ r)) (cW D) := rfl
        have hWW := hsp.W
        rw [t12 x hx]; omega
      · have hx' : x < cW D := by rw [hsp.W]; exact hx
        have := tm_drop (r := r) (x := x) hwW (bI_n0.mp c2)
        rw [h13 x hx', t12 x hx', cF_symm D w x]
        by_cases c4 : cF D x w ≤ r
        · rw [if_pos c4] at this ⊢; omega
        · rw [if_neg c4] at this ⊢; omega
      · rw [hth, hs, if_pos ⟨bI_n0.mp c2, decide_eq_true (Int.ofNat.inj c3)⟩]
end CC

/-! ===== the class: the search ===== -/
theorem ct_two {a b : Bool} {e s : Nat} (he : e < s) : ctF (fun d => if d = e then a else b) s = (if a then 1 else 0) + (s - 1) * (if b then 1 else 0) := by
  have h := ctF_up (p := fun _ => b) (w := e) (b := a) he
  have hc : ∀ n, ctF (fun _ => b) n = n * (if b then 1 else 0) := by
    intro n
    induction n with
    | zero => rw [Nat.zero_mul]; rfl
    | succ n ih =>
      show ctF (fun _ => b) n + (if b then 1 else 0) = _
      rw [ih, Nat.add_mul, Nat.one_mul]
  rw [hc] at h
  have h3 : (s - 1) * (if b = true then 1 else 0) + (if b = true then 1 else 0) = s * (if b = true then 1 else 0) := by
    conv => rhs; rw [show s = s - 1 + 1 by omega, Nat.add_mul, Nat.one_mul]
  omega
theorem ct_blocks {p P P' : Nat → Bool} {s e : Nat} (he : e < s) (hp : ∀ y d, d < s → p (y * s + d) = if d = e then P y else P' y) : ∀ m, ctF p (m * s) = ctF P m + (s - 1) * ctF P' m
  | 0 => by rw [Nat.zero_mul]; rfl
  | m + 1 => by
    rw [Nat.add_mul, Nat.one_mul, ctF_split, ct_blocks he hp m]
    have h2 : ctF (fun d => p (m * s + d)) s = ctF (fun d => if d = e then P m else P' m) s := ctF_cong fun d hd => hp m d hd
    rw [h2, ct_two he]
    show _ = ctF P m + (if P m then 1 else 0) + (s - 1) * (ctF P' m + (if P' m then 1 else 0))
    rw [Nat.mul_add]
    omega
/-- every ball is as large as that of 0 -/
theorem ball_same {s t : Nat → Nat} : ∀ {n : Nat} (w r : Nat), (∀ i, i < n → 1 ≤ s i) → ctF (fun x => decide (frF s t n w x ≤ r)) (wdF s n) = ctF (fun x => decide (frF s t n 0 x ≤ r)) (wdF s n)
  | 0, w, r, _ => rfl
  | n + 1, w, r, hs => by
    have hsn := hs n (by omega)
    have key : ∀ v, ctF (fun x => decide (frF s t (n + 1) v x ≤ r)) (wdF s n * s n) = ctF (fun y => decide (frF s t n (v / s n) y ≤ r)) (wdF s n) + (s n - 1) * ctF (fun y => decide (frF s t n (v / s n) y + t n ≤ r)) (wdF s n) := fun v => by
      refine ct_blocks (e := v % s n) (Nat.mod_lt _ (by omega)) (fun y d hd => ?_) (wdF s n)
      obtain ⟨ed, em⟩ := mul_div_mod (a := y) hd
      show decide (frF s t n (v / s n) ((y * s n + d) / s n) + (if v % s n = (y * s n + d) % s n then 0 else t n) ≤ r) = _
      rw [ed, em]
      by_cases e : d = v % s n
      · rw [if_pos e, if_pos e.symm, Nat.add_zero]
      · rw [if_neg e, if_neg (fun q => e q.symm)]
    show ctF (fun x => decide (frF s t (n + 1) w x ≤ r)) (wdF s n * s n) = ctF (fun x => decide (frF s t (n + 1) 0 x ≤ r)) (wdF s n * s n)
    rw [key w, key 0, Nat.zero_div]
    have h1 := ball_same (s := s) (t := t) (n := n) (w / s n) r (fun i hi => hs i (by omega))
    rw [h1]
    by_cases c : t n ≤ r
    · have h2 := ball_same (s := s) (t := t) (n := n) (w / s n) (r - t n) (fun i hi => hs i (by omega))
      have e : ∀ v, ctF (fun y => decide (frF s t n v y + t n ≤ r)) (wdF s n) = ctF (fun y => decide (frF s t n v y ≤ r - t n)) (wdF s n) := fun v => ctF_cong fun y _ => decide_eq_decide.mpr (by omega)
      rw [e, e, h2]
    · have e : ∀ v, ctF (fun y => decide (frF s t n v y + t n ≤ r)) (wdF s n) = 0 := fun v => ctF_zero.mpr fun y _ => decide_eq_false (by omega)
      rw [e, e]
theorem bw_count {C : Cd} (hC : okC C) (r w : Nat) : ctF (fun x => bwF C r w x) (cW C) = blF C r := by
  have h := ball_same (s := cS C) (t := cT C) (n := cN C) w r (fun i hi => by have := (hC.2.1 i hi).1; omega)
  have e : ctF (fun x => bwF C r w x) (cW C) = ctF (fun x => decide (frF (cS C) (cT C) (cN C) w x ≤ r)) (wdF (cS C) (cN C)) := ctF_cong fun x hx => by
    unfold bwF
    rw [decide_eq_true hx, Bool.true_and]
    rfl
  rw [e, h]
  rfl
theorem bwF_symm {C : Cd} {r w x : Nat} (hw : w < cW C) (hx : x < cW C) : bwF C r w x = bwF C r x w := by
  unfold bwF
  rw [decide_eq_true hw, decide_eq_true hx, cF_symm]
theorem cdF_len (p : Nat → Bool) : ∀ (k w : Nat), (cdF p w k).length = ctF (fun i => p (w + i)) k
  | 0, w => rfl
  | k + 1, w => by
    have h := ctF_split (fun i => p (w + i)) 1 k
    have e1 : ctF (fun i => p (w + i)) 1 = if p w then 1 else 0 := by
      show 0 + (if p (w + 0) then 1 else 0) = _
      rw [Nat.zero_add]; rfl
    have e2 : ctF (fun i => p (w + (1 + i))) k = ctF (fun i => p (w + 1 + i)) k := ctF_cong fun i _ => by rw [Nat.add_assoc]
    have ih := cdF_len p k (w + 1)
    rw [show k + 1 = 1 + k by omega, h, e1, e2, ← ih]
    show (cdF p w (1 + k)).length = _
    rw [show 1 + k = k + 1 by omega]
    show (if p w then w :: cdF p (w + 1) k else cdF p (w + 1) k).length = _
    by_cases c : p w = true
    · rw [if_pos c, if_pos c, List.length_cons]; omega
    · rw [if_neg c, if_neg c]; omega
theorem cdF_cons {p : Nat → Bool} : ∀ {k w x : Nat} {t : List Nat}, cdF p w k = x :: t → w ≤ x ∧ x < w + k ∧ p x = true ∧ (∀ y, w ≤ y → y < x → p y = false) ∧ t = cdF p (x + 1) (w + k - (x + 1))
  | 0, w, x, t, h => by cases h
  | k + 1, w, x, t, h => by
    have h : (if p w then w :: cdF p (w + 1) k else cdF p (w + 1) k) = x :: t := h
    by_cases c : p w = true
    · rw [if_pos c] at h
      obtain ⟨rfl, rfl⟩ := List.cons.inj h
      exact ⟨by omega, by omega, c, fun y a b => absurd b (by omega), by rw [show w + (k + 1) - (w + 1) = k by omega]⟩
    · rw [if_neg c] at h
      obtain ⟨a1, a2, a3, a4, a5⟩ := cdF_cons h
      refine ⟨by omega, by omega, a3, fun y b1 b2 => ?_, by rw [a5, show w + 1 + k - (x + 1) = w + (k + 1) - (x + 1) by omega]⟩
      by_cases e : y = w
      · rw [e]; exact Bool.eq_false_iff.mpr c
      · exact a4 y (by omega) b2
/-- what the class's search leaves alone -/
def gS (μ μ' : Mem) : Prop := (∀ k, k ≠ 74 → k ≠ 78 → μ'.1 k = μ.1 k) ∧ μ'.2 = μ.2 ∧ ∀ j, j ≠ 3 → j ≠ 4 → j ≠ 5 → μ'.1 74 j = μ.1 74 j
theorem gS.rf {μ : Mem} : gS μ μ := ⟨fun _ _ _ => rfl, rfl, fun _ _ _ _ => rfl⟩
theorem gS.tr {μ μ' μ'' : Mem} (h : gS μ μ') (h2 : gS μ' μ'') : gS μ μ'' := ⟨fun k a b => (h2.1 k a b).trans (h.1 k a b), h2.2.1.trans h.2.1, fun j a b c => (h2.2.2 j a b c).trans (h.2.2 j a b c)⟩
theorem gS.f {μ μ' : Mem} {j : Nat} {v : Int} (h : gS μ μ') (hj : j = 3 ∨ j = 4 ∨ j = 5) : gS μ (sI μ' 74 j v) := h.tr ⟨fun k a _ => sI_ne a, rfl, fun i a b c => sI_nj (by omega)⟩
theorem gS.t {μ μ' : Mem} {j : Nat} {v : Int} (h : gS μ μ') : gS μ (sI μ' 78 j v) := h.tr ⟨fun k _ a => sI_ne a, rfl, fun i _ _ _ => by rw [sI_ne (by omega)]⟩
theorem blS.g {μ μ' : Mem} {C : Cd} {r : Nat} (h : blS μ 75 C r) (hf : gS μ μ') : blS μ' 75 C r := by
  unfold blS at *
  rw [hf.1 75 (by omega) (by omega), hf.2.1]
  exact h
def gP (R : Rs) (n s t : Nat) (μ μ' : Mem) (v : Int) : Prop := gS μ μ' ∧ (∀ i, i < t → μ'.1 78 i = μ.1 78 i) ∧ match R with
  | some (some l, s') => v = 1 ∧ μ'.1 74 4 = (s' : Int) ∧ s' ≤ 60000 ∧ μ'.1 74 3 = ((t + l.length : Nat) : Int) ∧ l.length ≤ n ∧ μ'.1 74 5 = 0 ∧ ∀ i, i < l.length → μ'.1 78 (t + i) = (l.getD i 0 : Int)
  | some (none, s') => v = 0 ∧ μ'.1 74 4 = (s' : Int) ∧ s ≤ s' ∧ s' ≤ 60000 ∧ μ'.1 74 5 = 0
  | none => v = 0 ∧ μ'.1 74 4 = 60000 ∧ μ'.1 74 5 = 1
theorem open_ct {A : Nat → Bool} {a b : Int64} {W : Nat} (hW : W ≤ 81) (hU : ∀ x, x < 128 → bt2 a b x = (decide (x < W) && !A x)) : ctF (bt2 a b) 128 = W - ctF A W := by
  have h1 : ctF (bt2 a b) 128 = ctF (bt2 a b) W := ctF_none (by omega) (fun k h1 h2 => by rw [hU k h2, decide_eq_false (by omega), Bool.false_and])
  have h2 : ctF (bt2 a b) W = ctF (fun x => !A x) W := ctF_cong fun k hk => by rw [hU k (by omega), decide_eq_true hk, Bool.true_and]
  have h3 : ∀ n, ctF (fun x => !A x) n + ctF A n = n := by
    intro n
    induction n with
    | zero => rfl
    | succ n ih =>
      show ctF (fun x => !A x) n + (if (!A n) = true then 1 else 0) + (ctF A n + (if A n = true then 1 else 0)) = n + 1
      cases A n <;> simp <;> omega
  have := h3 W
  rw [h1, h2]
  omega
theorem s6_seek {C : Cd} {r : Nat} (hC : okC C) (h81 : cW C ≤ 81) : ∀ (n : Nat), n ≤ 8 → ∀ (f : Nat), n < f → ∀ (a b : Int64) (A : Nat → Bool) (s t : Nat) (μ : Mem) (Q : Int → Mem → Prop), (∀ x, x < 128 → bt2 a b x = (decide (x < cW C) && !A x)) → blS μ 75 C r → μ.1 74 2 = ((t + n : Nat) : Int) → t + n ≤ 8 → μ.1 74 4 = (s : Int) → s ≤ 60000 → μ.1 74 5 = 0 →
    (∀ v μ', gP (skF C r n A s) n s t μ μ' v → Q v μ') → wp_X6_seek f t a b μ Q := by
  intro n
  induction n with
  | zero =>
    intro _ f hf a b A s t μ Q hU hM h2 ht8 h4 hs h5 hQ
    obtain ⟨f', rfl⟩ : ∃ f', f = f' + 1 := ⟨f - 1, by omega⟩
    show wp_X6_seek_b (wp_X6_seek f') (t : Int) a b μ Q
    have hct := open_ct h81 hU
    have hAle := ctF_le A (cW C)
    refine s0_countOf ⟨fun q => ?_, fun q μ37 e37 => ?_⟩
    · rw [h2]
      refine ⟨inR_i (by omega) (by omega), fun x4 e4 => ?_⟩
      have hR : skF C r 0 A s = some (none, s) := if_neg (by omega)
      rw [hR] at hQ
      have done : Q 0 μ := hQ 0 μ ⟨gS.rf, fun _ _ => rfl, rfl, h4, Nat.le_refl _, hs, h5⟩
      exact ⟨fun _ => done, fun _ => ⟨fun _ => done, fun c => absurd (by omega) c⟩⟩
    · have hR : skF C r 0 A s = some (some [], s) := if_pos (by omega)
      rw [hR] at hQ
      refine hQ 1 μ37 ⟨by rw [e37]; exact gS.rf.f (by omega), fun i _ => by rw [e37, sI_ne (by omega)], rfl, by rw [e37, sI_nj (by omega)]; exact h4, hs, by rw [e37, sI_s]; rfl, Nat.zero_le _, by rw [e37, sI_nj (by omega)]; exact h5, fun i hi => absurd hi (Nat.not_lt_zero i)⟩
  | succ n ih =>
    intro hn8 f hf a b A s t μ Q hU hM h2 ht8 h4 hs h5 hQ
    obtain ⟨f', rfl⟩ : ∃ f', f = f' + 1 := ⟨f - 1, by omega⟩
    show wp_X6_seek_b (wp_X6_seek f') (t : Int) a b μ Q
    have hct := open_ct h81 hU
    have hAle := ctF_le A (cW C)
    have hblw : blF C r ≤ cW C := ctF_le _ _
    refine s0_countOf ⟨fun q => ?_, fun q μ37 e37 => ?_⟩
    · rw [h2, hM.2.1]
      refine ⟨inR_i (by omega) (by omega), fun x4 e4 => ?_⟩
      have ex : x4 = ((n + 1 : Nat) : Int) := by omega
      subst ex
      have hmul : (n + 1) * blF C r ≤ 8 * 81 := Nat.mul_le_mul (by omega) (by omega)
      refine ⟨fun c => absurd c (by omega), fun _ => ⟨fun c => absurd c (by omega), fun _ => ?_⟩⟩
      rw [← Int.natCast_mul]
      have hcov : ¬ ctF A (cW C) = cW C := by omega
      have hsk : skF C r (n + 1) A s = if ctF A (cW C) = cW C then some (some [], s) else if (n + 1) * blF C r < cW C - ctF A (cW C) then some (none, s) else goF (skF C r n) (bwF C r) A (cdF (fun w => bwF C r w (fsF A)) 0 (cW C)) s := rfl
      rw [if_neg hcov] at hsk
      refine ⟨inR_n (by omega), fun c => ?_, fun c => ?_⟩
      · rw [if_neg (by omega)] at hsk
        rw [hsk] at hQ
        -- the first open word
        obtain ⟨k0, hk0, hk1⟩ := ctF_pos.mp (show 0 < ctF (bt2 a b) 128 by omega)
        obtain ⟨fi, hf1, hf2, hf3⟩ := least1 (p := bt2 a b) ⟨k0, hk0, hk1⟩
        have hfu := hU fi hf1
        rw [hf2] at hfu
        have hfW : fi < cW C := by
          cases hd : decide (fi < cW C) with
          | true => exact of_decide_eq_true hd
          | false => rw [hd, Bool.false_and] at hfu; exact absurd hfu (by decide)
        have hfA : A fi = false := by
          cases hA : A fi with
          | false => rfl
          | true => rw [hA] at hfu; simp at hfu
        have hfirst : lsF (bt2 a b) 128 0 = fi := lsF_at hf2 (Nat.zero_le _) (by omega) (fun x _ hx => hf3 x hx)
        have hfs : fsF A = fi := lsF_at (by rw [hfA]; rfl) (Nat.zero_le _) (by omega) (fun x _ hx => by
          have := hU x (by omega)
          rw [hf3 x hx, decide_eq_true (by omega), Bool.true_and] at this
          exact this.symm)
        refine s0_firstOf ?_
        rw [hfirst, hM.1, Int.toNat_natCast]
        rw [hfs] at hQ
        refine ⟨fun _ => ⟨by omega, ?_⟩, fun c => absurd (by omega) c⟩
        have hlen : (cdF (fun w => bwF C r w fi) 0 (cW C)).length = blF C r := by
          rw [cdF_len, ← bw_count hC r fi]
          refine ctF_cong fun i hi => ?_
          rw [Nat.zero_add]
          exact bwF_symm hi hfW
        have hcdW : ∀ x, bwF C r x fi = true → x < cW C → bwF C r fi x = true := fun x h1 h2 => by rw [bwF_symm hfW h2]; exact h1
        refine LP7_rule (fun (v1 : Int) (v2 v4 v9 v11 : Int64) (v13 : Int) (μ2 : Mem) => v1 = (t : Int) ∧ v2 = a ∧ v4 = b ∧ gS μ μ2 ∧ (∀ i, i < t → μ2.1 78 i = μ.1 78 i) ∧ μ2.1 74 5 = 0 ∧ ∃ k w0 s2 : Nat, v13 = (k : Int) ∧ w0 ≤ cW C ∧ μ2.1 74 4 = (s2 : Int) ∧ s ≤ s2 ∧ s2 ≤ 60000 ∧ (∀ x, x < 128 → bt2 v9 v11 x = (decide (w0 ≤ x) && bwF C r fi x)) ∧ k + (cdF (fun w => bwF C r w fi) w0 (cW C - w0)).length = blF C r ∧ goF (skF C r n) (bwF C r) A (cdF (fun w => bwF C r w fi) 0 (cW C)) s = goF (skF C r n) (bwF C r) A (cdF (fun w => bwF C r w fi) w0 (cW C - w0)) s2)
          (fun _ _ _ _ _ v13 _ => ((blF C r : Int) - v13).toNat) ?_ ⟨rfl, rfl, rfl, gS.rf, fun _ _ => rfl, h5, 0, 0, s, rfl, Nat.zero_le _, h4, Nat.le_refl _, hs, fun x hx => by rw [decide_eq_true (Nat.zero_le x), Bool.true_and]; exact hM.2.2 fi hfW x hx, by rw [Nat.zero_add]; exact hlen, rfl⟩
        rintro X v1 v2 v4 v9 v11 v13 μ2 ⟨rfl, rfl, rfl, hg2, hlow, h52, k, w0, s2, rfl, hw0, h42, hss, hs2, hrest, hk, hgo⟩ hX
        rw [hgo] at hQ
        have hM2 := hM.g hg2
        unfold wp_X6_seek_105
        rw [hM2.2.1, h42]
        refine ⟨fun c => ?_, fun c => ⟨fun c2 => ?_, fun c2 μ36 e36 => ?_⟩⟩
        · have hnil : cdF (fun w => bwF C r w fi) w0 (cW C - w0) = [] := List.length_eq_zero_iff.mp (by omega)
          rw [hnil] at hQ
          exact hQ 0 μ2 ⟨hg2, hlow, rfl, h42, hss, hs2, h52⟩
        · cases hl : cdF (fun w => bwF C r w fi) w0 (cW C - w0) with
          | nil => rw [hl, List.length_nil] at hk; omega
          | cons w tl =>
            obtain ⟨w1, w2, w3, w4, w5⟩ := cdF_cons hl
            have hwW : w < cW C := by omega
            have w3 : bwF C r w fi = true := w3
            have hwf : bwF C r fi w = true := hcdW w w3 hwW
            have hfw : lsF (bt2 v9 v11) 128 0 = w := lsF_at (by rw [hrest w (by omega), decide_eq_true w1, hwf]; rfl) (Nat.zero_le _) (by omega) (fun x _ hx => by
              rw [hrest x (by omega)]
              by_cases e : w0 ≤ x
              · have h9 : bwF C r x fi = false := w4 x e hx
                rw [bwF_symm hfW (show x < cW C by omega), h9, Bool.and_false]
              · rw [decide_eq_false e, Bool.false_and])
            refine s0_firstOf ?_
            rw [hfw, hM2.1]
            simp only [Int.toNat_natCast]
            refine ⟨fun _ => ?_, fun c3 => absurd (by omega) c3⟩
            refine s0_lowBit (fun y hy y21 e21 => s0_highBit (by omega) (fun z hz y24 e24 => ?_))
            rw [h42]
            refine ⟨inR_i (by omega) (by omega), fun μ26 e26 => ⟨by omega, fun μ28 e28 => ⟨by omega, inR_i (by omega) (by omega), ?_⟩⟩⟩
            have g28 : gS μ2 μ28 := by rw [e28, e26]; exact (gS.rf.f (by omega)).t
            have hM28 := hM2.g g28
            have hbw := hM28.2.2 w hwW
            rw [show (t : Int) + 1 = ((t + 1 : Nat) : Int) by omega]
            have e278 : μ28.1 74 2 = ((t + 1 + n : Nat) : Int) := by rw [g28.2.2 2 (by omega) (by omega) (by omega), hg2.2.2 2 (by omega) (by omega) (by omega), h2]; congr 1; omega
            have e478 : μ28.1 74 4 = ((s2 + 1 : Nat) : Int) := by rw [e28, sI_ne (by omega), e26, sI_s]; omega
            have e578 : μ28.1 74 5 = 0 := by rw [e28, sI_ne (by omega), e26, sI_nj (by omega)]; exact h52
            have e78 : μ28.1 78 t = (w : Int) := by rw [e28, sI_s]
            have l78 : ∀ i, i < t → μ28.1 78 i = μ.1 78 i := fun i hi => by rw [e28, sI_nj (by omega), e26, sI_ne (by omega)]; exact hlow i hi
            rw [hl] at hQ
            have hgs : goF (skF C r n) (bwF C r) A (w :: tl) s2 = if s2 = 60000 then none else match skF C r n (fun x => A x || bwF C r w x) (s2 + 1) with
              | none => none
              | some (some l, s') => some (some (w :: l), s')
              | some (none, s') => goF (skF C r n) (bwF C r) A tl s' := rfl
            rw [if_neg (by omega)] at hgs
            refine ih (by omega) f' (by omega) _ _ (fun x => A x || bwF C r w x) (s2 + 1) (t + 1) μ28 _ (fun x hx => ?_) hM28 e278 (by omega) e478 (by omega) e578 (fun v μ31 hP => ?_)
            · have hx1 := hU x hx
              have hx2 := hbw x hx
              unfold bt2 at *
              by_cases c6 : x < 64
              · rw [if_pos c6] at hx1 hx2 ⊢
                rw [bt_and, bt_xor, bt_m1 c6, hx1, hx2]
                cases decide (x < cW C) <;> cases A x <;> cases bwF C r w x <;> rfl
              · rw [if_neg c6] at hx1 hx2 ⊢
                rw [bt_and, bt_xor, bt_m1 (by omega), hx1, hx2]
                cases decide (x < cW C) <;> cases A x <;> cases bwF C r w x <;> rfl
            · have hg31 : gS μ μ31 := (hg2.tr g28).tr hP.1
              have low31 : ∀ i, i < t → μ31.1 78 i = μ.1 78 i := fun i hi => by rw [hP.2.1 i (by omega)]; exact l78 i hi
              have at31 : μ31.1 78 t = (w : Int) := by rw [hP.2.1 t (by omega)]; exact e78
              have hP2 := hP.2.2
              cases hR : skF C r n (fun x => A x || bwF C r w x) (s2 + 1) with
              | none =>
                rw [hR] at hP2 hgs
                rw [hgs] at hQ
                obtain ⟨rfl, p4, p5⟩ := hP2
                refine ⟨fun _ => ⟨fun c5 => absurd c5 (by omega), fun _ => hQ 0 μ31 ⟨hg31, low31, rfl, p4, p5⟩⟩, fun c5 => absurd rfl c5⟩
              | some o =>
                obtain ⟨o1, s'⟩ := o
                cases o1 with
                | none =>
                  rw [hR] at hP2 hgs
                  obtain ⟨rfl, p4, p6, p7, p5⟩ := hP2
                  refine ⟨fun _ => ⟨fun _ => ⟨inR_i (by omega) (by omega), hX _ _ _ _ _ _ _ ⟨rfl, rfl, rfl, hg31, low31, p5, k + 1, w + 1, s', by omega, by omega, p4, by omega, p7, fun x hx => ?_, ?_, ?_⟩ (by omega)⟩, fun c5 => absurd p5 c5⟩, fun c5 => absurd rfl c5⟩
                  · have hx1 := hrest x hx
                    have hx2 := bt2_bits hy hz hx
                    have goal : bt2 y21 y24 x = (bt2 v9 v11 x && !bt2 y z x) := by
                      rw [e21, e24]
                      unfold bt2
                      by_cases c6 : x < 64
                      · rw [if_pos c6, if_pos c6, if_pos c6, bt_and, bt_xor, bt_m1 c6, Bool.xor_true]
                      · rw [if_neg c6, if_neg c6, if_neg c6, bt_and, bt_xor, bt_m1 (by omega), Bool.xor_true]
                    rw [goal, hx1, hx2]
                    by_cases e : x = w
                    · rw [e, decide_eq_true rfl, decide_eq_false (show ¬ w + 1 ≤ w by omega)]; simp
                    · rw [decide_eq_false e]
                      by_cases e2 : w + 1 ≤ x
                      · rw [decide_eq_true e2, decide_eq_true (show w0 ≤ x by omega)]; simp
                      · rw [decide_eq_false e2, Bool.false_and]
                        by_cases e3 : w0 ≤ x
                        · have h9 : bwF C r x fi = false := w4 x e3 (by omega)
                          rw [bwF_symm hfW (show x < cW C by omega), h9]; simp
                        · rw [decide_eq_false e3]; rfl
                  · rw [hl, List.length_cons, w5, show w0 + (cW C - w0) - (w + 1) = cW C - (w + 1) by omega] at hk
                    omega
                  · rw [hgo, hl, hgs, w5, show w0 + (cW C - w0) - (w + 1) = cW C - (w + 1) by omega]
                | some l =>
                  rw [hR] at hP2 hgs
                  rw [hgs] at hQ
                  obtain ⟨rfl, p4, p7, p3, pn, p5, pl⟩ := hP2
                  refine ⟨fun c5 => absurd c5 (by decide), fun _ => hQ 1 μ31 ⟨hg31, low31, rfl, p4, p7, by rw [p3, List.length_cons]; congr 1; omega, by rw [List.length_cons]; omega, p5, fun i hi => ?_⟩⟩
                  rw [List.length_cons] at hi
                  cases i with
                  | zero => exact at31
                  | succ i =>
                    have := pl i (by omega)
                    rw [show t + (i + 1) = t + 1 + i by omega, this]
                    rfl
        · have e6 : s2 = 60000 := by omega
          cases hl : cdF (fun w => bwF C r w fi) w0 (cW C - w0) with
          | nil => rw [hl, List.length_nil] at hk; omega
          | cons w tl =>
            rw [hl] at hQ
            have hgs : goF (skF C r n) (bwF C r) A (w :: tl) s2 = none := if_pos e6
            rw [hgs] at hQ
            exact hQ 0 μ36 ⟨by rw [e36]; exact hg2.f (by omega), fun i hi => by rw [e36, sI_ne (by omega)]; exact hlow i hi, rfl, by rw [e36, sI_nj (by omega), h42, e6]; rfl, by rw [e36, sI_s]⟩
      · rw [if_pos (by omega)] at hsk
        rw [hsk] at hQ
        exact hQ 0 μ ⟨gS.rf, fun _ _ => rfl, rfl, h4, Nat.le_refl _, hs, h5⟩
    · have hR : skF C r (n + 1) A s = some (some [], s) := if_pos (by omega)
      rw [hR] at hQ
      exact hQ 1 μ37 ⟨by rw [e37]; exact gS.rf.f (by omega), fun i _ => by rw [e37, sI_ne (by omega)], rfl, by rw [e37, sI_nj (by omega)]; exact h4, hs, by rw [e37, sI_s]; rfl, Nat.zero_le _, by rw [e37, sI_nj (by omega)]; exact h5, fun i hi => absurd hi (Nat.not_lt_zero i)⟩

/-! the search -/
def bt2 (a b : Int64) (x : Nat) : Bool := if x < 64 then bt a x else bt b (x - 64)
theorem bt2_or (a b c d : Int64) (x : Nat) : bt2 (a ||| c) (b ||| d) x = (bt2 a b x || bt2 c d x) := by
  unfold bt2
  split
  · exact bt_or _ _ _
  · exact bt_or _ _ _
theorem ct_bt2 (a b : Int64) : ctF (bt2 a b) 128 = ctF (bt a) 64 + ctF (bt b) 64 := by
  have h1 : ctF (bt2 a b) 64 = ctF (bt a) 64 := ctF_cong fun k hk => if_pos hk
  have h2 : ctF (fun i => bt2 a b (64 + i)) 64 = ctF (bt b) 64 := ctF_cong fun k hk => by
    unfold bt2
    rw [if_neg (by omega), show 64 + k - 64 = k by omega]
  rw [show 128 = 64 + 64 from rfl, ctF_split, h1, h2]
theorem ctF_none {p : Nat → Bool} {m : Nat} : ∀ {n : Nat}, m ≤ n → (∀ k, m ≤ k → k < n → p k = false) → ctF p n = ctF p m
  | 0, h, _ => by rw [show m = 0 by omega]
  | n + 1, h, h0 => by
    by_cases e : m = n + 1
    · rw [e]
    · show ctF p n + (if p n then 1 else 0) = _
      rw [h0 n (by omega) (by omega), ctF_none (n := n) (by omega) (fun k h1 h2 => h0 k h1 (by omega))]
      rfl
abbrev Rs : Type := Option (Option (List Nat) × Nat)
def cdF (p : Nat → Bool) (w : Nat) : Nat → List Nat
  | 0 => []
  | k + 1 => if p w then w :: cdF p (w + 1) k else cdF p (w + 1) k
def goF (st : (Nat → Bool) → Nat → Rs) (bl : Nat → Nat → Bool) (A : Nat → Bool) : List Nat → Nat → Rs
  | [], s => some (none, s)
  | w :: t, s => if s = 60000 then none else match st (fun x => A x || bl w x) (s + 1) with
    | none => none
    | some (some l, s') => some (some (w :: l), s')
    | some (none, s') => goF st bl A t s'
def bwF (C : Cd) (r w x : Nat) : Bool := decide (x < cW C) && decide (cF C w x ≤ r)
def fsF (A : Nat → Bool) : Nat := lsF (fun x => !A x) 128 0
def skF (C : Cd) (r : Nat) : Nat → (Nat → Bool) → Nat → Rs
  | 0, A, s => if ctF A (cW C) = cW C then some (some [], s) else some (none, s)
  | n + 1, A, s => if ctF A (cW C) = cW C then some (some [], s) else if (n + 1) * blF C r < cW C - ctF A (cW C) then some (none, s)
      else goF (skF C r n) (bwF C r) A (cdF (fun w => bwF C r w (fsF A)) 0 (cW C)) s
def tpF (C : Cd) (r : Nat) : Nat → Nat → Nat → Option (List Nat) × Nat
  | 0, _, s => (none, s)
  | k + 1, n, s => match skF C r n noM s with
    | none => (none, 60000)
    | some (some l, s') => (some l, s')
    | some (none, s') => if s' = 60000 then (none, 60000) else tpF C r k (n + 1) s'
def fwF (C : Cd) (r : Nat) : Option (List Nat) × Nat := tpF C r 8 1 0
def lfI (F : Option (List Nat) × Nat) (a : Int) : Int := if a = 1 then (F.2 : Int) else match F.1 with
  | none => -2
  | some l => if a = 0 then (l.length : Int) else if a - 2 < (l.length : Int) then (l.getD (a - 2).toNat 0 : Int) else -2
def q_fewest (cs : Nat → Cd) (c r a : Int) : Int × Int := if isK cs c ∧ 0 ≤ a ∧ a ≤ 9 then (if isRr r then (if cW (cs c.toNat) ≤ 81 then (lfI (fwF (cs c.toNat) r.toNat) a, 0) else (-1, 5)) else (-1, 2)) else (-1, 1)
theorem lsF_at {P : Nat → Bool} {k : Nat} (hk : P k = true) : ∀ {n r : Nat}, r ≤ k → k < r + n → (∀ x, r ≤ x → x < k → P x = false) → lsF P n r = k
  | 0, r, h1, h2, _ => absurd h2 (by omega)
  | n + 1, r, h1, h2, h3 => by
    show (if P r then r else lsF P n (r + 1)) = k
    by_cases e : r = k
    · rw [e, hk]; rfl
    · rw [h3 r (Nat.le_refl _) (by omega)]
      exact lsF_at hk (by omega) (by omega) (fun x h4 h5 => h3 x (by omega) h5)
theorem goF_60000 (st : (Nat → Bool) → Nat → Rs) (bl : Nat → Nat → Bool) (A : Nat → Bool) (l : List Nat) : goF st bl A l 60000 = none ∨ goF st bl A l 60000 = some (none, 60000) := by
  cases l with
  | nil => exact Or.inr rfl
  | cons w t => exact Or.inl (if_pos rfl)
/-- what the search leaves alone -/
def fS (μ μ' : Mem) : Prop := (∀ k, k ≠ 115 → k ≠ 124 → μ'.1 k = μ.1 k) ∧ μ'.2 = μ.2 ∧ ∀ j, j ≠ 24 → j ≠ 25 → j ≠ 28 → μ'.1 115 j = μ.1 115 j
theorem fS.rf {μ : Mem} : fS μ μ := ⟨fun _ _ _ => rfl, rfl, fun _ _ _ _ => rfl⟩
theorem fS.tr {μ μ' μ'' : Mem} (h : fS μ μ') (h2 : fS μ' μ'') : fS μ μ'' := ⟨fun k a b => (h2.1 k a b).trans (h.1 k a b), h2.2.1.trans h.2.1, fun j a b c => (h2.2.2 j a b c).trans (h.2.2 j a b c)⟩
theorem fS.f {μ μ' : Mem} {j : Nat} {v : Int} (h : fS μ μ') (hj : j = 24 ∨ j = 25 ∨ j = 28) : fS μ (sI μ' 115 j v) := h.tr ⟨fun k a _ => sI_ne a, rfl, fun i a b c => sI_nj (by omega)⟩
theorem fS.t {μ μ' : Mem} {j : Nat} {v : Int} (h : fS μ μ') : fS μ (sI μ' 124 j v) := h.tr ⟨fun k _ a => sI_ne a, rfl, fun i _ _ _ => by rw [sI_ne (by omega)]⟩
theorem fS.mq {μ μ' : Mem} (h : fS μ μ') : mq μ μ' := ⟨fun k hk => ⟨h.1 k (by omega) (by omega), by rw [h.2.1]⟩, fun j a b => h.2.2 j (by omega) (by omega) (by omega), by rw [h.2.1]⟩
/-- what stands laid for the search -/
def skM (μ : Mem) (C : Cd) (r : Nat) : Prop := μ.1 115 26 = (cW C : Int) ∧ μ.1 115 27 = (blF C r : Int) ∧ ∀ w, w < cW C → ∀ x, x < 128 → bt2 (μ.2 122 w) (μ.2 123 w) x = bwF C r w x
theorem skM.to {μ μ' : Mem} {C : Cd} {r : Nat} (h : skM μ C r) (hf : fS μ μ') : skM μ' C r := ⟨by rw [hf.2.2 26 (by omega) (by omega) (by omega)]; exact h.1, by rw [hf.2.2 27 (by omega) (by omega) (by omega)]; exact h.2.1, by rw [hf.2.1]; exact h.2.2⟩
def skP (R : Rs) (n s t : Nat) (μ μ' : Mem) (v : Int) : Prop := fS μ μ' ∧ (∀ i, i < t → μ'.1 124 i = μ.1 124 i) ∧ match R with
  | some (some l, s') => v = 1 ∧ μ'.1 115 24 = (s' : Int) ∧ s' ≤ 60000 ∧ μ'.1 115 25 = ((t + l.length : Nat) : Int) ∧ l.length ≤ n ∧ ∀ i, i < l.length → μ'.1 124 (t + i) = (l.getD i 0 : Int)
  | some (none, s') => v = 0 ∧ μ'.1 115 25 = (t : Int) ∧ μ'.1 115 24 = (s' : Int) ∧ s ≤ s' ∧ s' ≤ 60000 ∧ (s' < 60000 → μ'.1 115 28 = 0) ∧ (s < 60000 → s' = 60000 → μ'.1 115 28 = 1)
  | none => v = 0 ∧ μ'.1 115 25 = (t : Int) ∧ μ'.1 115 24 = 60000 ∧ (s < 60000 → μ'.1 115 28 = 1)
theorem lcm_bt2 {a b : Int64} {k : Nat} (h : k < 128) : (k < 64 → (lcm_ ((lshr a (k : Int)) &&& (1 : Int64)) (1 : Int64) = 0 ↔ bt2 a b k = true)) ∧ (64 ≤ k → (lcm_ ((lshr b ((k : Int) - 64)) &&& (1 : Int64)) (1 : Int64) = 0 ↔ bt2 a b k = true)) := by
  refine ⟨fun q => ?_, fun q => ?_⟩
  · unfold bt2
    rw [if_pos q]; exact lcm_shr q
  · unfold bt2
    rw [if_neg (by omega), show (k : Int) - 64 = ((k - 64 : Nat) : Int) by omega]; exact lcm_shr (by omega)
theorem s_bits {μ : Mem} {Q : Int → Mem → Prop} {a b : Int64} {m : Nat} (h : ctF (bt a) 64 + ctF (bt b) 64 = m) (hq : Q (m : Int) μ) : wp_X8_bits a b μ Q := by
  have h1 := ctF_le (bt a) 64
  have h2 := ctF_le (bt b) 64
  refine s_bitCount (s_bitCount ⟨inR_i (by omega) (by omega), ?_⟩)
  rw [show ((ctF (bt a) 64 : Nat) : Int) + ((ctF (bt b) 64 : Nat) : Int) = (m : Int) by omega]
  exact hq
theorem s_seeks {C : Cd} {r : Nat} {c : Int} (hC : okC C) (h81 : cW C ≤ 81) : ∀ (n : Nat), n ≤ 8 → ∀ (f : Nat), n < f → ∀ (a b : Int64) (A : Nat → Bool) (s t : Nat) (μ : Mem) (Q : Int → Mem → Prop), (∀ x, x < 128 → bt2 a b x = A x) → (∀ x, A x = true → x < cW C) → skM μ C r → μ.1 115 24 = (s : Int) → s ≤ 60000 → μ.1 115 25 = (t : Int) → t + n ≤ 8 → μ.1 115 28 = 0 → (∀ v μ', skP (skF C r n A s) n s t μ μ' v → Q v μ') → wp_X8_seeks f c (n : Int) a b μ Q := by
  intro n
  induction n with
  | zero =>
    intro _ f hf a b A s t μ Q hA hAl hM h24 hs h25 htn h28 hQ
    obtain ⟨f', rfl⟩ : ∃ f', f = f' + 1 := ⟨f - 1, by omega⟩
    show wp_X8_seeks_b (wp_X8_seeks f') c ((0 : Nat) : Int) a b μ Q
    have hct : ctF (bt a) 64 + ctF (bt b) 64 = ctF A (cW C) := by
      rw [← ct_bt2, ctF_cong hA, ctF_none (m := cW C) (by omega) (fun k h1 h2 => by
        cases h : A k
        · rfl
        · exact absurd (hAl k h) (by omega))]
    have hle := ctF_le A (cW C)
    refine s_bits hct ?_
    rw [hM.1]
    refine ⟨inR_i (by omega) (by omega), fun x3 e3 => ⟨fun q => ⟨fun _ => hQ _ _ ?_, fun w => absurd rfl w⟩, fun q => hQ _ _ ?_⟩⟩
    · have hR : skF C r 0 A s = some (none, s) := if_neg (by omega)
      rw [hR]
      exact ⟨fS.rf, fun _ _ => rfl, rfl, h25, h24, Nat.le_refl _, hs, fun _ => h28, fun h1 h2 => by omega⟩
    · have hR : skF C r 0 A s = some (some [], s) := if_pos (by omega)
      rw [hR]
      exact ⟨fS.rf, fun _ _ => rfl, rfl, h24, hs, h25, Nat.le_refl 0, fun i hi => absurd hi (Nat.not_lt_zero i)⟩
  | succ n ih =>
    intro hn8 f hf a b A s t μ Q hA hAl hM h24 hs h25 htn h28 hQ
    obtain ⟨f', rfl⟩ : ∃ f', f = f' + 1 := ⟨f - 1, by omega⟩
    show wp_X8_seeks_b (wp_X8_seeks f') c ((n + 1 : Nat) : Int) a b μ Q
    have hct : ctF (bt a) 64 + ctF (bt b) 64 = ctF A (cW C) := by
      rw [← ct_bt2, ctF_cong hA, ctF_none (m := cW C) (by omega) (fun k h1 h2 => by
        cases h : A k
        · rfl
        · exact absurd (hAl k h) (by omega))]
    have hle := ctF_le A (cW C)
    have hbl : blF C r ≤ cW C := ctF_le _ _
    have hmul : (n + 1) * blF C r ≤ 8 * 81 := Nat.mul_le_mul hn8 (by omega)
    have hmc : ((n + 1 : Nat) : Int) * (blF C r : Int) = (((n + 1) * blF C r : Nat) : Int) := (Int.natCast_mul _ _).symm
    have hU : skF C r (n + 1) A s = if ctF A (cW C) = cW C then some (some [], s) else if (n + 1) * blF C r < cW C - ctF A (cW C) then some (none, s) else goF (skF C r n) (bwF C r) A (cdF (fun w => bwF C r w (fsF A)) 0 (cW C)) s := rfl
    refine s_bits hct ?_
    rw [hM.1, hM.2.1, hmc]
    refine ⟨inR_i (by omega) (by omega), fun x3 e3 => ⟨fun q => ⟨fun w => absurd w (by omega), fun _ => ⟨inR_n (by omega), fun q2 => ?_, fun q2 => hQ _ _ ?_⟩⟩, fun q => hQ _ _ ?_⟩⟩
    rotate_left
    · rw [hU, if_neg (by omega), if_pos (by omega)]
      exact ⟨fS.rf, fun _ _ => rfl, rfl, h25, h24, Nat.le_refl _, hs, fun _ => h28, fun h1 h2 => by omega⟩
    · rw [hU, if_pos (by omega)]
      exact ⟨fS.rf, fun _ _ => rfl, rfl, h24, hs, h25, Nat.zero_le _, fun i hi => absurd hi (Nat.not_lt_zero i)⟩
    rw [if_neg (by omega), if_neg (by omega)] at hU
    -- an open word
    obtain ⟨z, hz, hAz⟩ : ∃ z, z < cW C ∧ A z = false := by
      apply Classical.byContradiction
      intro hno
      have : ctF A (cW C) = cW C := by
        rw [ctF_cong (q := fun _ => true) (fun k hk => by
          cases h : A k
          · exact absurd ⟨k, hk, h⟩ hno
          · rfl)]
        clear hno hU hQ
        generalize cW C = m
        induction m with
        | zero => rfl
        | succ m ih => show ctF (fun _ => true) m + 1 = m + 1; rw [ih]
      omega
    refine LP6_rule (fun (v1 v2 : Int) (v3 v5 : Int64) (v8 : Int) (μ2 : Mem) => v1 = c ∧ v2 = ((n + 1 : Nat) : Int) ∧ v3 = a ∧ v5 = b ∧ μ2 = μ ∧ ∃ k : Nat, v8 = (k : Int) ∧ k ≤ z ∧ ∀ x, x < k → A x = true) (fun _ _ _ _ v8 _ => ((z : Int) - v8).toNat) ?_ ⟨rfl, rfl, rfl, rfl, rfl, 0, rfl, Nat.zero_le _, fun x hx => absurd hx (Nat.not_lt_zero x)⟩
    rintro X v1 v2 v3 v5 v8 μ2 ⟨rfl, rfl, rfl, rfl, rfl, k, rfl, hk, hall⟩ hX
    have hkc := lcm_bt2 (a := v3) (b := v5) (k := k) (by omega)
    rw [hA k (by omega)] at hkc
    have nextX : A k = true → inR ((k : Int) + 1) ∧ X v1 ((n + 1 : Nat) : Int) v3 v5 ((k : Int) + 1) μ2 := fun hk1 => by
      have : k ≠ z := fun e => by rw [e, hAz] at hk1; cases hk1
      exact ⟨inR_i (by omega) (by omega), hX _ _ _ _ _ _ ⟨rfl, rfl, rfl, rfl, rfl, k + 1, rfl, by omega, fun x hx => by
        by_cases e : x = k
        · rw [e]; exact hk1
        · exact hall x (by omega)⟩ (by omega)⟩
    have loop : A k = false → LP7 (wp_X8_seeks_85 Q (wp_X8_seeks f')) v1 ((n + 1 : Nat) : Int) v3 v5 (k : Int) 0 μ2 := by
      intro hk0
      have hfs : fsF A = k := lsF_at (by show (!A k) = true; rw [hk0]; rfl) (Nat.zero_le _) (by omega) (fun x _ hx => by show (!A x) = false; rw [hall x hx]; rfl)
      rw [hfs] at hU
      refine LP7_rule (fun (w1 w2 : Int) (w3 w5 : Int64) (w8 w9 : Int) (μ3 : Mem) => w1 = v1 ∧ w2 = ((n + 1 : Nat) : Int) ∧ w3 = v3 ∧ w5 = v5 ∧ w8 = (k : Int) ∧ fS μ2 μ3 ∧ (∀ i, i < t → μ3.1 124 i = μ2.1 124 i) ∧ ∃ w s1 : Nat, w9 = (w : Int) ∧ w ≤ cW C ∧ μ3.1 115 24 = (s1 : Int) ∧ s ≤ s1 ∧ s1 ≤ 60000 ∧ (s1 = 60000 → s = 60000) ∧ μ3.1 115 25 = (t : Int) ∧ μ3.1 115 28 = 0 ∧ skF C r (n + 1) A s = goF (skF C r n) (bwF C r) A (cdF (fun w => bwF C r w k) w (cW C - w)) s1) (fun _ _ _ _ _ w9 _ => ((cW C : Int) - w9).toNat) ?_ ⟨rfl, rfl, rfl, rfl, rfl, fS.rf, fun _ _ => rfl, 0, s, rfl, Nat.zero_le _, h24, Nat.le_refl _, hs, id, h25, h28, hU⟩
      rintro X7 w1 w2 w3 w5 w8 w9 μ3 ⟨rfl, rfl, rfl, rfl, rfl, hf3, h124, w, s1, rfl, hw, g24, hs1, hs2, hs3, g25, g28, hG⟩ hX7
      have hM3 := hM.to hf3
      unfold wp_X8_seeks_85
      rw [hM3.1]
      refine ⟨fun q3 => hQ _ _ ?_, fun q3 => ?_⟩
      · have ew : w = cW C := by omega
        rw [hG, show cW C - w = 0 by omega]
        exact ⟨hf3, h124, rfl, g25, g24, hs1, hs2, fun _ => g28, fun h1 h2 => by omega⟩
      have hball := hM3.2.2 w (by omega)
      have hcw : cW C - w = (cW C - (w + 1)) + 1 := by omega
      have hcd : cdF (fun w => bwF C r w k) w (cW C - w) = if bwF C r w k then w :: cdF (fun w => bwF C r w k) (w + 1) (cW C - (w + 1)) else cdF (fun w => bwF C r w k) (w + 1) (cW C - (w + 1)) := by rw [hcw]; rfl
      rw [hcd] at hG
      have hkc2 := lcm_bt2 (a := μ3.2 122 w) (b := μ3.2 123 w) (k := k) (by omega)
      rw [hball k (by omega)] at hkc2
      have no : bwF C r w k = false → wp_X8_seeks_151 Q (wp_X8_seeks f') X7 w1 ((n + 1 : Nat) : Int) w3 w5 (k : Int) (w : Int) 0 μ3 := by
        intro hb
        rw [hb, if_neg (by decide)] at hG
        exact ⟨fun x => absurd rfl x, fun _ => ⟨inR_i (by omega) (by omega), hX7 _ _ _ _ _ _ _ ⟨rfl, rfl, rfl, rfl, rfl, hf3, h124, w + 1, s1, rfl, by omega, g24, hs1, hs2, hs3, g25, g28, hG⟩ (by omega)⟩⟩
      have yes : bwF C r w k = true → wp_X8_seeks_151 Q (wp_X8_seeks f') X7 w1 ((n + 1 : Nat) : Int) w3 w5 (k : Int) (w : Int) 1 μ3 := by
        intro hb
        rw [hb, if_pos rfl] at hG
        refine ⟨fun _ => ?_, fun x => absurd x (by decide)⟩
        rw [g24]
        refine ⟨fun q4 => ?_, fun q4 => hQ _ _ ?_⟩
        rotate_left
        · rw [hG]
          have : s1 = 60000 := by omega
          rw [show goF (skF C r n) (bwF C r) A (w :: cdF (fun w => bwF C r w k) (w + 1) (cW C - (w + 1))) s1 = none from if_pos this]
          exact ⟨hf3, h124, rfl, g25, by rw [g24, this]; rfl, fun h1 => by omega⟩
        refine ⟨inR_i (by omega) (by omega), fun μ18 e18 => ?_⟩
        have k18 : μ18.1 115 25 = (t : Int) := by rw [e18, sI_nj (by omega)]; exact g25
        rw [k18]
        refine ⟨by omega, fun μ20 e20 => ?_⟩
        rw [Int.toNat_natCast] at e20
        have k20 : μ20.1 115 25 = (t : Int) := by rw [e20, sI_ne (by omega)]; exact k18
        rw [k20]
        refine ⟨inR_i (by omega) (by omega), fun μ22 e22 => ?_⟩
        have hf18 : fS μ3 μ18 := by rw [e18]; exact fS.rf.f (by omega)
        have hf20 : fS μ3 μ20 := by rw [e20]; exact hf18.t
        have hf22 : fS μ3 μ22 := by rw [e22]; exact hf20.f (by omega)
        have m25 : μ22.1 115 25 = ((t + 1 : Nat) : Int) := by rw [e22, sI_s]; rfl
        have m24 : μ22.1 115 24 = ((s1 + 1 : Nat) : Int) := by rw [e22, sI_nj (by omega), e20, sI_ne (by omega), e18, sI_s]; rfl
        have m28 : μ22.1 115 28 = 0 := by rw [e22, sI_nj (by omega), e20, sI_ne (by omega), e18, sI_nj (by omega)]; exact g28
        have m124 : μ22.1 124 t = (w : Int) := by rw [e22, sI_ne (by omega), e20, sI_s]
        have mo124 : ∀ i, i < t → μ22.1 124 i = μ3.1 124 i := fun i hi => by rw [e22, sI_ne (by omega), e20, sI_nj (by omega), e18, sI_ne (by omega)]
        have hM22 := hM3.to hf22
        refine ⟨by omega, inR_i (by omega) (by omega), ?_⟩
        rw [Int.toNat_natCast, show ((n + 1 : Nat) : Int) - 1 = (n : Int) by omega]
        refine ih (by omega) f' (by omega) _ _ (fun x => A x || bwF C r w x) (s1 + 1) (t + 1) μ22 _ (fun x hx => by rw [bt2_or, hA x hx, hM22.2.2 w (by omega) x hx]) (fun x hx => ?_) hM22 m24 (by omega) m25 (by omega) m28 (fun v μ25 hP => ?_)
        · cases hax : A x
          · rw [hax, Bool.false_or] at hx
            unfold bwF at hx
            rw [Bool.and_eq_true, decide_eq_true_eq] at hx
            exact hx.1
          · exact hAl x hax
        obtain ⟨p1, p2, p3⟩ := hP
        have hf25 : fS μ2 μ25 := (hf3.tr hf22).tr p1
        have hG2 : goF (skF C r n) (bwF C r) A (w :: cdF (fun w => bwF C r w k) (w + 1) (cW C - (w + 1))) s1 = (match skF C r n (fun x => A x || bwF C r w x) (s1 + 1) with
          | none => none
          | some (some l, s') => some (some (w :: l), s')
          | some (none, s') => goF (skF C r n) (bwF C r) A (cdF (fun w => bwF C r w k) (w + 1) (cW C - (w + 1))) s') := if_neg (by omega)
        rw [hG2] at hG
        -- taken back
        have back : v = 0 → μ25.1 115 25 = ((t + 1 : Nat) : Int) → (∀ i, i < t → μ25.1 124 i = μ2.1 124 i) := fun _ _ i hi => by rw [p2 i (by omega), mo124 i hi]; exact h124 i hi
        rcases hR : skF C r n (fun x => A x || bwF C r w x) (s1 + 1) with _ | ⟨_ | l, s'⟩
        · rw [hR] at p3 hG
          obtain ⟨rfl, p25, p24, p28⟩ := p3
          refine ⟨fun _ => ?_, fun x => absurd rfl x⟩
          rw [p25]
          refine ⟨inR_i (by omega) (by omega), fun μ29 e29 => ?_⟩
          have n24 : μ29.1 115 24 = 60000 := by rw [e29, sI_nj (by omega)]; exact p24
          refine ⟨fun x => absurd n24 x, fun _ => fun μ33 e33 => ?_⟩
          have n28 : μ33.1 115 28 = 1 := by rw [e33, sI_s]
          refine ⟨fun x => absurd (n28.symm.trans x) (by decide), fun _ => hQ _ _ ?_⟩
          rw [hG]
          refine ⟨?_, fun i hi => ?_, rfl, ?_, ?_, fun _ => n28⟩
          · rw [e33, e29]; exact (hf25.f (by omega)).f (by omega)
          · rw [e33, sI_ne (by omega), e29, sI_ne (by omega)]; exact back rfl p25 i hi
          · rw [e33, sI_nj (by omega), e29, sI_s]; omega
          · rw [e33, sI_nj (by omega)]; exact n24
        · rw [hR] at p3 hG
          obtain ⟨rfl, p25, p24, p0, p60, p28, p281⟩ := p3
          have hG : skF C r (n + 1) A s = goF (skF C r n) (bwF C r) A (cdF (fun w => bwF C r w k) (w + 1) (cW C - (w + 1))) s' := hG
          refine ⟨fun _ => ?_, fun x => absurd rfl x⟩
          rw [p25]
          refine ⟨inR_i (by omega) (by omega), fun μ29 e29 => ?_⟩
          have n24 : μ29.1 115 24 = (s' : Int) := by rw [e29, sI_nj (by omega)]; exact p24
          have n25 : μ29.1 115 25 = (t : Int) := by rw [e29, sI_s]; omega
          have n124 : ∀ i, i < t → μ29.1 124 i = μ2.1 124 i := fun i hi => by rw [e29, sI_ne (by omega)]; exact back rfl p25 i hi
          have hf29 : fS μ2 μ29 := by rw [e29]; exact hf25.f (by omega)
          rw [n24]
          refine ⟨fun q5 => ?_, fun q5 => fun μ33 e33 => ?_⟩
          · have n28 : μ29.1 115 28 = 0 := by rw [e29, sI_nj (by omega)]; exact p28 (by omega)
            exact ⟨fun _ => ⟨inR_i (by omega) (by omega), hX7 _ _ _ _ _ _ _ ⟨rfl, rfl, rfl, rfl, rfl, hf29, n124, w + 1, s', rfl, by omega, n24, by omega, p60, fun h => by omega, n25, n28, hG⟩ (by omega)⟩, fun x => absurd n28 x⟩
          · have es : s' = 60000 := by omega
            subst es
            have n28 : μ33.1 115 28 = 1 := by rw [e33, sI_s]
            have hf33 : fS μ2 μ33 := by rw [e33]; exact hf29.f (by omega)
            have m33 : ∀ i, i < t → μ33.1 124 i = μ2.1 124 i := fun i hi => by rw [e33, sI_ne (by omega)]; exact n124 i hi
            have o25 : μ33.1 115 25 = (t : Int) := by rw [e33, sI_nj (by omega)]; exact n25
            have o24 : μ33.1 115 24 = 60000 := by rw [e33, sI_nj (by omega)]; exact n24
            refine ⟨fun x => absurd (n28.symm.trans x) (by decide), fun _ => hQ _ _ ?_⟩
            rcases goF_60000 (skF C r n) (bwF C r) A (cdF (fun w => bwF C r w k) (w + 1) (cW C - (w + 1))) with hh | hh
            · rw [hG, hh]; exact ⟨hf33, m33, rfl, o25, o24, fun _ => n28⟩
            · rw [hG, hh]; exact ⟨hf33, m33, rfl, o25, o24, by omega, Nat.le_refl _, fun x => absurd x (Nat.lt_irrefl _), fun _ _ => n28⟩
        · rw [hR] at p3 hG
          obtain ⟨rfl, p24, p60, p25, pn, p124⟩ := p3
          refine ⟨fun x => absurd x (by decide), fun _ => hQ _ _ ?_⟩
          rw [hG]
          refine ⟨hf25, fun i hi => by rw [p2 i (by omega), mo124 i hi]; exact h124 i hi, rfl, p24, p60, by rw [p25, List.length_cons]; omega, by rw [List.length_cons]; omega, fun i hi => ?_⟩
          cases i with
          | zero => rw [Nat.add_zero, p2 t (by omega), m124]; rfl
          | succ i =>
            rw [List.length_cons] at hi
            have := p124 i (by omega)
            rw [show t + (i + 1) = t + 1 + i by omega, this]; rfl
      refine ⟨fun q4 => ⟨by omega, ?_⟩, fun q4 => ⟨by omega, ?_⟩⟩
      · rw [Int.toNat_natCast, hkc2.2 (by omega)]
        refine ⟨fun q5 => no (by cases h : bwF C r w k <;> simp_all), fun q5 => yes q5⟩
      · rw [Int.toNat_natCast, hkc2.1 (by omega)]
        refine ⟨fun q5 => no (by cases h : bwF C r w k <;> simp_all), fun q5 => yes q5⟩
    refine ⟨fun q3 => ?_, fun q3 => ?_⟩
    · rw [hkc.2 (by omega)]
      exact ⟨fun q4 => loop (by cases h : A k <;> simp_all), fun q4 => nextX q4⟩
    · rw [hkc.1 (by omega)]
      exact ⟨fun q4 => loop (by cases h : A k <;> simp_all), fun q4 => nextX q4⟩

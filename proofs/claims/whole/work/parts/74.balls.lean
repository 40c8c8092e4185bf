/-! ===== the class: two rows of bits; balls ===== -/
theorem lsF_no {P : Nat → Bool} : ∀ {n r : Nat}, (∀ x, r ≤ x → x < r + n → P x = false) → lsF P n r = r + n
  | 0, r, _ => rfl
  | n + 1, r, h => by
    show (if P r then r else lsF P n (r + 1)) = r + (n + 1)
    rw [h r (Nat.le_refl _) (by omega), if_neg (by decide), lsF_no (n := n) (fun x a b => h x (by omega) (by omega))]
    omega
theorem least1 {p : Nat → Bool} : ∀ {n : Nat}, (∃ k, k < n ∧ p k = true) → ∃ m, m < n ∧ p m = true ∧ ∀ j, j < m → p j = false
  | 0, h => by obtain ⟨k, hk, _⟩ := h; exact absurd hk (Nat.not_lt_zero k)
  | n + 1, h => by
    by_cases e : ∃ k, k < n ∧ p k = true
    · obtain ⟨m, h1, h2, h3⟩ := least1 e
      exact ⟨m, by omega, h2, h3⟩
    · obtain ⟨k, hk, hp⟩ := h
      have hn : ∀ j, j < n → p j = false := fun j hj => by
        cases hj2 : p j
        · rfl
        · exact absurd ⟨j, hj, hj2⟩ e
      by_cases ek : k = n
      · subst ek
        exact ⟨k, by omega, hp, hn⟩
      · exact absurd ⟨k, by omega, hp⟩ e
theorem uN_one {k : Nat} (h : k < 64) : uN (lshl 1 (k : Int)) = 2 ^ k := by
  unfold uN
  rw [lshl_eq 1 h, BitVec.toNat_shiftLeft]
  show 1 <<< k % 2 ^ 64 = 2 ^ k
  rw [Nat.shiftLeft_eq, Nat.one_mul]
  exact Nat.mod_eq_of_lt (Nat.pow_lt_pow_right (by omega) h)
theorem bt_pre {k : Nat} (h : k < 64) (j : Nat) : bt (lshl 1 (k : Int) - 1) j = decide (j < k) := by
  have e1 : uN 1 = 1 := by decide
  have h1 : 1 ≤ 2 ^ k := Nat.one_le_two_pow
  rw [bt_uN, uN_sub (by rw [e1, uN_one h]; exact h1), e1, uN_one h, Nat.testBit_two_pow_sub_one]
theorem uN_neg {a : Int64} (h : uN a ≠ 0) : uN (-a) = 18446744073709551616 - uN a := by
  have hl := uN_lt a
  unfold uN at *
  rw [Int64.toBitVec_neg, BitVec.toNat_neg]
  show (18446744073709551616 - a.toBitVec.toNat) % 18446744073709551616 = _
  exact Nat.mod_eq_of_lt (by omega)
/-- the lowest bit alone -/
theorem bt_low {a : Int64} {m : Nat} (hm : m < 64) (h1 : bt a m = true) (h2 : ∀ j, j < m → bt a j = false) {j : Nat} (hj : j < 64) : bt (a &&& -a) j = decide (j = m) := by
  have hx : uN a % 2 ^ m = 0 := by
    apply Nat.eq_of_testBit_eq
    intro i
    rw [Nat.testBit_mod_two_pow, Nat.zero_testBit]
    by_cases e : i < m
    · rw [decide_eq_true e, Bool.true_and, ← bt_uN, h2 i e]
    · rw [decide_eq_false e, Bool.false_and]
  have hodd : uN a / 2 ^ m % 2 = 1 := by
    have : (uN a / 2 ^ m).testBit 0 = true := by rw [Nat.testBit_div_two_pow, Nat.zero_add, ← bt_uN]; exact h1
    rw [Nat.testBit_zero] at this
    exact of_decide_eq_true this
  obtain ⟨q, hq⟩ : ∃ q, uN a / 2 ^ m = 2 * q + 1 := ⟨uN a / 2 ^ m / 2, by omega⟩
  have hdm := Nat.div_add_mod (uN a) (2 ^ m)
  rw [hx, Nat.add_zero, hq] at hdm
  have hl := uN_lt a
  have hp : 2 ^ m * (2 * 2 ^ (63 - m)) = 18446744073709551616 := by
    rw [show 2 * 2 ^ (63 - m) = 2 ^ (64 - m) by rw [Nat.mul_comm, ← Nat.pow_succ]; congr 1; omega, ← Nat.pow_add, show m + (64 - m) = 64 by omega]
  have hpm : 0 < 2 ^ m := Nat.pow_pos (by omega)
  have hq63 : q < 2 ^ (63 - m) := by
    apply Classical.byContradiction
    intro hn
    have h3 : 2 ^ m * (2 * 2 ^ (63 - m)) ≤ 2 ^ m * (2 * q + 1) := Nat.mul_le_mul_left _ (by omega)
    omega
  have hna : uN (-a) = 2 ^ m * (2 * (2 ^ (63 - m) - (q + 1)) + 1) := by
    have h0 : uN a ≠ 0 := by
      rw [← hdm]
      exact Nat.ne_of_gt (Nat.mul_pos hpm (by omega))
    rw [uN_neg h0, ← hp, ← hdm, ← Nat.mul_sub]
    congr 1
    omega
  rw [bt_and, bt_uN, bt_uN, hna, ← hdm, Nat.testBit_two_pow_mul, Nat.testBit_two_pow_mul]
  by_cases c : m ≤ j
  · rw [decide_eq_true c, Bool.true_and, Bool.true_and]
    by_cases e : j = m
    · subst e
      rw [decide_eq_true rfl, Nat.sub_self, Nat.testBit_zero, Nat.testBit_zero, decide_eq_true (show (2 * q + 1) % 2 = 1 by omega), decide_eq_true (show (2 * (2 ^ (63 - j) - (q + 1)) + 1) % 2 = 1 by omega)]
      rfl
    · rw [decide_eq_false e]
      obtain ⟨i, hi⟩ : ∃ i, j - m = i + 1 := ⟨j - m - 1, by omega⟩
      rw [hi, Nat.testBit_succ, Nat.testBit_succ, show (2 * q + 1) / 2 = q by omega, show (2 * (2 ^ (63 - m) - (q + 1)) + 1) / 2 = 2 ^ (63 - m) - (q + 1) by omega, Nat.testBit_two_pow_sub_succ hq63]
      cases q.testBit i
      · rfl
      · simp
  · rw [decide_eq_false c, Bool.false_and, Bool.false_and, decide_eq_false (by omega)]
theorem bt2_hi {a b : Int64} {x : Nat} (h : 128 ≤ x) : bt2 a b x = false := by
  unfold bt2
  rw [if_neg (by omega)]
  exact bt_hi (by omega)
theorem ct_pre (m n : Nat) (h : m ≤ n) : ctF (fun j => decide (j < m)) n = m := by
  rw [ctF_none h (fun k h1 _ => decide_eq_false (by omega))]
  induction m with
  | zero => rfl
  | succ m ih =>
    rw [ct1 (decide_eq_true (by omega))]
    rw [ctF_cong (q := fun j => decide (j < m)) (fun k hk => decide_eq_decide.mpr (by omega)), ih (by omega)]
theorem low_count {a : Int64} {m : Nat} (hm : m < 64) (h1 : bt a m = true) (h2 : ∀ j, j < m → bt a j = false) : ctF (bt ((a &&& -a) - 1)) 64 = m := by
  have e : (a &&& -a) = lshl 1 (m : Int) := bt_ext fun j hj => by rw [bt_low hm h1 h2 hj, bt_one hm hj]
  rw [e, show bt (lshl 1 (m : Int) - 1) = (fun j => decide (j < m)) from funext fun j => bt_pre hm j]
  exact ct_pre m 64 (by omega)
theorem ne0_bt {a : Int64} (h : ¬ a = 0) : ∃ k, k < 64 ∧ bt a k = true := by
  apply Classical.byContradiction
  intro hn
  refine h (bt_ext fun k hk => ?_)
  rw [bt_0]
  cases e : bt a k
  · rfl
  · exact absurd ⟨k, hk, e⟩ hn
section CB
variable {μ : Mem} {C : Cd} {Q : Int → Mem → Prop}
theorem s0_countOf {a b : Int64} (hq : Q (ctF (bt2 a b) 128 : Nat) μ) : wp_X0_countOf a b μ Q := by
  have h1 := ctF_le (bt a) 64
  have h2 := ctF_le (bt b) 64
  refine s_bitCount (s_bitCount ⟨inR_i (by omega) (by omega), ?_⟩)
  rw [show ((ctF (bt a) 64 : Nat) : Int) + ((ctF (bt b) 64 : Nat) : Int) = ((ctF (bt2 a b) 128 : Nat) : Int) by rw [ct_bt2]; omega]
  exact hq
theorem s0_firstOf {a b : Int64} (hq : Q (lsF (bt2 a b) 128 0 : Nat) μ) : wp_X0_firstOf a b μ Q := by
  unfold wp_X0_firstOf
  rw [lcm_eq]
  refine ⟨fun c => s_bitCount ?_, fun c => s_bitCount ?_⟩
  · have ha : ∀ x, x < 64 → bt2 a b x = false := fun x hx => by unfold bt2; rw [if_pos hx, c, bt_0]
    by_cases hb : b = 0
    · subst hb
      have e : ctF (bt (((0 : Int64) &&& -0) - 1)) 64 = 64 := by decide
      rw [e]
      have hn : lsF (bt2 a 0) 128 0 = 0 + 128 := lsF_no fun x _ _ => by
        by_cases hx : x < 64
        · exact ha x hx
        · unfold bt2; rw [if_neg hx, bt_0]
      rw [hn] at hq
      exact ⟨inR_i (by omega) (by omega), hq⟩
    · obtain ⟨m, hm, h1, h2⟩ := least1 (ne0_bt hb)
      rw [low_count hm h1 h2]
      have hn : lsF (bt2 a b) 128 0 = 64 + m := lsF_at (by unfold bt2; rw [if_neg (by omega), show 64 + m - 64 = m by omega]; exact h1) (by omega) (by omega) (fun x _ hx => by
        by_cases hx6 : x < 64
        · exact ha x hx6
        · unfold bt2; rw [if_neg hx6]; exact h2 _ (by omega))
      rw [hn] at hq
      exact ⟨inR_i (by omega) (by omega), hq⟩
  · obtain ⟨m, hm, h1, h2⟩ := least1 (ne0_bt c)
    rw [low_count hm h1 h2]
    have hn : lsF (bt2 a b) 128 0 = m := lsF_at (by unfold bt2; rw [if_pos hm]; exact h1) (by omega) (by omega) (fun x _ hx => by unfold bt2; rw [if_pos (by omega)]; exact h2 x hx)
    rw [hn] at hq
    exact hq
theorem s0_lowBit {w : Nat} {R : Int64 → Mem → Prop} (hq : ∀ y, (∀ j, j < 64 → bt y j = decide (j = w)) → R y μ) : wp_X0_lowBit w μ R := by
  refine ⟨fun c => hq 0 (fun j hj => by rw [bt_0, decide_eq_false (by omega)]), fun c => hq _ (fun j hj => bt_one (by omega) hj)⟩
theorem s0_highBit {w : Nat} {R : Int64 → Mem → Prop} (hw : w < 128) (hq : ∀ y, (∀ j, j < 64 → bt y j = decide (j + 64 = w)) → R y μ) : wp_X0_highBit w μ R := by
  refine ⟨fun c => ?_, fun c => hq 0 (fun j hj => by rw [bt_0, decide_eq_false (by omega)])⟩
  rw [show (w : Int) - 64 = ((w - 64 : Nat) : Int) by omega]
  exact hq _ (fun j hj => by rw [bt_one (by omega) hj]; exact decide_eq_decide.mpr (by omega))
theorem bt2_bits {y z : Int64} {w : Nat} (h1 : ∀ j, j < 64 → bt y j = decide (j = w)) (h2 : ∀ j, j < 64 → bt z j = decide (j + 64 = w)) {x : Nat} (hx : x < 128) : bt2 y z x = decide (x = w) := by
  unfold bt2
  by_cases c : x < 64
  · rw [if_pos c, h1 x c]
  · rw [if_neg c, h2 _ (by omega)]; exact decide_eq_decide.mpr (by omega)
/-- all words -/
theorem s0_all {k W : Nat} {R : Int64 → Int64 → Mem → Prop} (hk : μ.1 k 0 = (W : Int)) (hW : W ≤ 81) (hq : ∀ y z, (∀ x, x < 128 → bt2 y z x = decide (x < W)) → R y z μ) : wp_X0_lowAll k μ (fun y μ8 => wp_X0_highAll k μ8 (fun z μ10 => R y z μ10)) := by
  have hi : ∀ y, (∀ j, j < 64 → bt y j = decide (j < W)) → wp_X0_highAll k μ (fun z μ10 => R y z μ10) := fun y hy => by
    have fin : ∀ z, (∀ j, j < 64 → bt z j = decide (j + 64 < W)) → R y z μ := fun z hz => hq y z (fun x hx => by
      unfold bt2
      by_cases c : x < 64
      · rw [if_pos c, hy x c]
      · rw [if_neg c, hz _ (by omega)]; exact decide_eq_decide.mpr (by omega))
    unfold wp_X0_highAll
    rw [hk]
    refine ⟨fun c => fin 0 (fun j hj => by rw [bt_0, decide_eq_false (by omega)]), fun c => ?_⟩
    rw [show (W : Int) - 64 = ((W - 64 : Nat) : Int) by omega]
    exact fin _ (fun j hj => by rw [bt_pre (by omega)]; exact decide_eq_decide.mpr (by omega))
  unfold wp_X0_lowAll
  rw [hk]
  refine ⟨fun c => hi _ (fun j hj => bt_pre (by omega) j), fun c => hi _ (fun j hj => by rw [bt_m1 hj, decide_eq_true (by omega)])⟩
/-- nothing but the balls in k has moved -/
def oB (k : Nat) (μ μ' : Mem) : Prop := ∀ q, (q < k ∨ k + 3 ≤ q) → μ'.1 q = μ.1 q ∧ μ'.2 q = μ.2 q
theorem oB.rf {k : Nat} {μ : Mem} : oB k μ μ := fun _ _ => ⟨rfl, rfl⟩
theorem oB.tr {k : Nat} {μ μ' μ'' : Mem} (h : oB k μ μ') (h2 : oB k μ' μ'') : oB k μ μ'' := fun q hq => ⟨(h2 q hq).1.trans (h q hq).1, (h2 q hq).2.trans (h q hq).2⟩
theorem oB.I {k : Nat} {μ μ' : Mem} {q j : Nat} {v : Int} (h : oB k μ μ') (hq : k ≤ q ∧ q < k + 3) : oB k μ (sI μ' q j v) := h.tr fun p hp => ⟨sI_ne (by omega), rfl⟩
theorem oB.L {k : Nat} {μ μ' : Mem} {q j : Nat} {v : Int64} (h : oB k μ μ') (hq : k ≤ q ∧ q < k + 3) : oB k μ (sL μ' q j v) := h.tr fun p hp => ⟨rfl, sL_ne (by omega)⟩
theorem grS.B {μ μ' : Mem} {C : Cd} {i k : Nat} (h : grS μ C i) (ho : oB k μ μ') (hk : 72 ≤ k) : grS μ' C i := by
  unfold grS at *
  rw [(ho 70 (by omega)).1, (ho 71 (by omega)).1]
  exact h
def blS (μ : Mem) (k : Nat) (C : Cd) (r : Nat) : Prop := μ.1 k 0 = (cW C : Int) ∧ μ.1 k 1 = (blF C r : Int) ∧ ∀ w, w < cW C → ∀ x, x < 128 → bt2 (μ.2 (k + 1) w) (μ.2 (k + 2) w) x = bwF C r w x
theorem s0_layBall {k w r : Nat} {R : Mem → Prop} (hg : grS μ C (cN C)) (hC : okC C) (h81 : cW C ≤ 81) (hk : μ.1 k 0 = (cW C : Int)) (hw : w < cW C)
    (hq : ∀ y z, (∀ x, x < 128 → bt2 y z x = bwF C r w x) → R (sL (sL μ (k + 1) w y) (k + 2) w z)) : wp_X0_layBall k w r μ R := by
  refine LP7_rule (fun (v0 : Nat) (v2 v3 : Int) (v4 v6 : Int64) (v8 : Int) (μ2 : Mem) => v0 = k ∧ v2 = (w : Int) ∧ v3 = (r : Int) ∧ μ2 = μ ∧ ∃ i : Nat, v8 = (i : Int) ∧ i ≤ cW C ∧ ∀ x, x < 128 → bt2 v4 v6 x = (decide (x < i) && decide (cF C w x ≤ r))) (fun _ _ _ _ _ v8 _ => ((cW C : Int) - v8).toNat) ?_ ⟨rfl, rfl, rfl, rfl, 0, rfl, Nat.zero_le _, fun x hx => by
    unfold bt2
    rw [bt_0, bt_0, decide_eq_false (Nat.not_lt_zero x), Bool.false_and]
    split <;> rfl⟩
  rintro X v0 v2 v3 v4 v6 v8 μ2 ⟨rfl, rfl, rfl, rfl, i, rfl, hi, hb⟩ hX
  unfold wp_X0_layBall_9
  rw [hk, Int.toNat_natCast]
  refine ⟨fun c => ⟨by omega, ?_⟩, fun c => s3_distance hg hC hw (by omega) ⟨fun c2 => ⟨inR_i (by omega) (by omega), hX _ _ _ _ _ _ _ ⟨rfl, rfl, rfl, rfl, i + 1, rfl, by omega, fun x hx => ?_⟩ (by omega)⟩, fun c2 => s0_lowBit (fun y hy y11 e11 => s0_highBit (by omega) (fun z hz y14 e14 => ⟨inR_i (by omega) (by omega), hX _ _ _ _ _ _ _ ⟨rfl, rfl, rfl, rfl, i + 1, rfl, by omega, fun x hx => ?_⟩ (by omega)⟩))⟩⟩
  · rintro μ3 rfl μ4 rfl
    have e : i = cW C := by omega
    subst e
    exact hq v4 v6 (fun x hx => hb x hx)
  · rw [hb x hx]
    by_cases e : x = i
    · rw [e, decide_eq_false (show ¬ cF C w i ≤ r by omega), Bool.and_false, Bool.and_false]
    · rw [show decide (x < i + 1) = decide (x < i) from decide_eq_decide.mpr (by omega)]
  · rw [e11, e14, bt2_or, hb x hx, bt2_bits hy hz hx]
    by_cases e : x = i
    · rw [e, decide_eq_true (show cF C w i ≤ r by omega), decide_eq_true (show i < i + 1 by omega), decide_eq_true rfl, Bool.or_true]; rfl
    · rw [show decide (x < i + 1) = decide (x < i) from decide_eq_decide.mpr (by omega), decide_eq_false e, Bool.or_false]
theorem s0_lay {k r : Nat} {R : Mem → Prop} (hg : grS μ C (cN C)) (hC : okC C) (h81 : cW C ≤ 81) (hk : 72 ≤ k) (hq : ∀ μ', oB k μ μ' → blS μ' k C r → R μ') : wp_X0_lay k r μ R := by
  have g0 : μ.1 70 0 = (cW C : Int) := hg.1
  intro μ1 e1
  rw [g0] at e1
  have o1 : oB k μ μ1 := by rw [e1]; exact oB.rf.I (by omega)
  refine s3_ballSize (hg.B o1 hk) hC (fun μ4 e4 => ?_)
  have o4 : oB k μ μ4 := by rw [e4]; exact o1.I (by omega)
  have k0 : μ4.1 k 0 = (cW C : Int) := by rw [e4, sI_nj (by omega), e1, sI_s]; omega
  have k1 : μ4.1 k 1 = (blF C r : Int) := by rw [e4, sI_s]
  refine LP4_rule (fun (v0 : Nat) (v2 v3 : Int) (μ2 : Mem) => v0 = k ∧ v2 = (r : Int) ∧ oB k μ μ2 ∧ μ2.1 = μ4.1 ∧ ∃ i : Nat, v3 = (i : Int) ∧ i ≤ cW C ∧ ∀ w, w < i → ∀ x, x < 128 → bt2 (μ2.2 (k + 1) w) (μ2.2 (k + 2) w) x = bwF C r w x) (fun _ _ v3 _ => ((cW C : Int) - v3).toNat) ?_ ⟨rfl, rfl, o4, rfl, 0, rfl, Nat.zero_le _, fun w hw => absurd hw (Nat.not_lt_zero w)⟩
  rintro X v0 v2 v3 μ2 ⟨rfl, rfl, o2, h2, i, rfl, hi, hb⟩ hX
  unfold wp_X0_lay_24
  rw [h2, k0]
  refine ⟨fun c => ?_, fun c => s0_layBall (hg.B o2 hk) hC h81 (by rw [h2]; exact k0) (by omega) (fun y z hyz => ⟨inR_i (by omega) (by omega), hX _ _ _ _ ⟨rfl, rfl, (o2.L (by omega)).L (by omega), h2, i + 1, rfl, by omega, fun w hw x hx => ?_⟩ (by omega)⟩)⟩
  · have e : i = cW C := by omega
    subst e
    exact hq μ2 o2 ⟨by rw [h2]; exact k0, by rw [h2]; exact k1, hb⟩
  · rw [sL_ne (show v0 + 1 ≠ v0 + 2 by omega)]
    by_cases e : w = i
    · rw [e, sL_s, sL_s]; exact hyz x hx
    · rw [sL_nj e, sL_nj e, sL_ne (show v0 + 2 ≠ v0 + 1 by omega)]; exact hb w (by omega) x hx
end CB

/-! the class: distance -/
theorem bm_bit (f : Nat → Bool) : ∀ {n : Nat}, n ≤ 8 → ∀ j, (bmF f n).testBit j = (decide (j % 2 = 0 ∧ j / 2 < n) && f (j / 2))
  | 0, _, j => by rw [decide_eq_false (by omega), Bool.false_and]; exact Nat.zero_testBit j
  | n + 1, hn, j => by
    have h1 := bm_bit f (n := n) (by omega) j
    obtain ⟨p1, -⟩ := pow4_k n (by omega)
    have hl := bmF_lt f n
    have e : bmF f (n + 1) = 2 ^ (2 * n) * (if f n then 1 else 0) + bmF f n := by
      show bmF f n + (if f n then 4 ^ n else 0) = _
      rw [← p1]
      split <;> omega
    rw [p1] at hl
    rw [e, Nat.testBit_two_pow_mul_add _ hl]
    by_cases c : j < 2 * n
    · rw [if_pos c, h1, show decide (j % 2 = 0 ∧ j / 2 < n + 1) = decide (j % 2 = 0 ∧ j / 2 < n) from decide_eq_decide.mpr (by omega)]
    · rw [if_neg c]
      by_cases d : j = 2 * n
      · rw [d, Nat.sub_self, decide_eq_true (by omega), show 2 * n / 2 = n by omega, Bool.true_and]
        cases f n <;> rfl
      · have h0 : (if f n then 1 else 0 : Nat).testBit (j - 2 * n) = false := by
          obtain ⟨q, hq⟩ : ∃ q, j - 2 * n = q + 1 := ⟨j - 2 * n - 1, by omega⟩
          rw [hq]
          cases f n
          · exact Nat.zero_testBit _
          · rw [Nat.testBit_succ]; exact Nat.zero_testBit _
        rw [h0, decide_eq_false (by omega), Bool.false_and]
theorem bm_and (f g : Nat → Bool) {n : Nat} (hn : n ≤ 8) : bmF f n &&& bmF g n = bmF (fun i => f i && g i) n := by
  apply Nat.eq_of_testBit_eq
  intro j
  rw [Nat.testBit_and, bm_bit f hn, bm_bit g hn, bm_bit _ hn]
  cases decide (j % 2 = 0 ∧ j / 2 < n) <;> rfl
theorem ct_pair (p : Nat → Bool) : ∀ n, ctF p (2 * n) = ctF (fun i => p (2 * i)) n + ctF (fun i => p (2 * i + 1)) n
  | 0 => rfl
  | n + 1 => by
    show ctF p (2 * n + 1 + 1) = (ctF (fun i => p (2 * i)) n + (if p (2 * n) then 1 else 0)) + (ctF (fun i => p (2 * i + 1)) n + (if p (2 * n + 1) then 1 else 0))
    show ctF p (2 * n) + (if p (2 * n) then 1 else 0) + (if p (2 * n + 1) then 1 else 0) = _
    rw [ct_pair p n]
    omega
theorem bm_count (f : Nat → Bool) {n : Nat} (hn : n ≤ 8) : ctF (Nat.testBit (bmF f n)) 32 = ctF f n := by
  rw [show 32 = 2 * 16 from rfl, ct_pair]
  have h1 : ctF (fun i => (bmF f n).testBit (2 * i + 1)) 16 = 0 := ctF_zero.mpr fun i _ => by rw [bm_bit f hn, decide_eq_false (by omega), Bool.false_and]
  have h2 : ctF (fun i => (bmF f n).testBit (2 * i)) 16 = ctF f n := by
    rw [ctF_none (m := n) (by omega) (fun i h3 h4 => by rw [bm_bit f hn, decide_eq_false (by omega), Bool.false_and])]
    refine ctF_cong fun i hi => ?_
    rw [bm_bit f hn, decide_eq_true (by omega), show 2 * i / 2 = i by omega, Bool.true_and]
  rw [h1, h2, Nat.add_zero]
def neF (s : Nat → Nat) (n a b i : Nat) : Bool := decide (¬ dgF s n a i = dgF s n b i)
theorem x4_k : ∀ a : Nat, a < 4 → ∀ b : Nat, b < 4 → ((a ^^^ b).testBit 0 || (a ^^^ b).testBit 1) = decide (¬ a = b) := by decide
theorem m5_k : ∀ j : Nat, j < 16 → (21845).testBit j = decide (j % 2 = 0) := by decide
theorem fr_ct {s t : Nat → Nat} : ∀ (n a b : Nat), (∀ i, i < n → 1 ≤ t i ∧ t i ≤ 3) → ctF (fun i => neF s n a b i && decide (t i % 2 = 1)) n + 2 * ctF (fun i => neF s n a b i && decide (t i / 2 = 1)) n = frF s t n a b
  | 0, a, b, _ => rfl
  | n + 1, a, b, h => by
    have ih := fr_ct (s := s) (t := t) n (a / s n) (b / s n) fun i hi => h i (by omega)
    have hn := h n (by omega)
    have c1 : ∀ g : Nat → Bool, ctF (fun i => neF s (n + 1) a b i && g i) (n + 1) = ctF (fun i => neF s n (a / s n) (b / s n) i && g i) n + (if (decide (¬ a % s n = b % s n) && g n) then 1 else 0) := fun g => by
      show ctF (fun i => neF s (n + 1) a b i && g i) n + (if (neF s (n + 1) a b n && g n) then 1 else 0) = _
      have e1 : ctF (fun i => neF s (n + 1) a b i && g i) n = ctF (fun i => neF s n (a / s n) (b / s n) i && g i) n := ctF_cong fun i hi => by
        unfold neF
        rw [show dgF s (n + 1) a i = dgF s n (a / s n) i from if_neg (by omega), show dgF s (n + 1) b i = dgF s n (b / s n) i from if_neg (by omega)]
      have e2 : neF s (n + 1) a b n = decide (¬ a % s n = b % s n) := by
        unfold neF
        rw [show dgF s (n + 1) a n = a % s n from if_pos rfl, show dgF s (n + 1) b n = b % s n from if_pos rfl]
      rw [e1, e2]
    rw [c1, c1]
    by_cases e : a % s n = b % s n
    · have hf : frF s t (n + 1) a b = frF s t n (a / s n) (b / s n) := by simp [frF, e]
      rw [hf, decide_eq_false (fun x => x e), Bool.false_and, Bool.false_and]
      simpa using ih
    · have hf : frF s t (n + 1) a b = frF s t n (a / s n) (b / s n) + t n := by simp [frF, e]; try omega
      rw [hf, decide_eq_true e, Bool.true_and, Bool.true_and]
      by_cases o : t n % 2 = 1
      · by_cases v : t n / 2 = 1
        · rw [decide_eq_true o, decide_eq_true v]; simp; omega
        · rw [decide_eq_true o, decide_eq_false v]; simp; omega
      · by_cases v : t n / 2 = 1
        · rw [decide_eq_false o, decide_eq_true v]; simp; omega
        · omega
theorem dg4 {s : Nat → Nat} {n w i : Nat} (hs : ∀ j, j < n → 1 ≤ s j ∧ s j ≤ 4) (hi : i < n) : dgF s n w i < 4 := by
  rw [← pk_dg hs hi]; exact Nat.mod_lt _ (by omega)
theorem un_bm {s : Nat → Nat} {n a b : Nat} (hn : n ≤ 8) (hs : ∀ j, j < n → 1 ≤ s j ∧ s j ≤ 4) : ((pkF s n a ^^^ pkF s n b) ||| (pkF s n a ^^^ pkF s n b) / 2) &&& 21845 = bmF (neF s n a b) n := by
  apply Nat.eq_of_testBit_eq
  intro j
  obtain ⟨p1, p2⟩ := pow4_k n hn
  have la := pkF_lt a hs
  have lb := pkF_lt b hs
  rw [bm_bit _ hn, Nat.testBit_and, Nat.testBit_or, show (pkF s n a ^^^ pkF s n b) / 2 = (pkF s n a ^^^ pkF s n b) / 2 ^ 1 from rfl, Nat.testBit_div_two_pow]
  have big : ∀ x q, x < 4 ^ n → 2 * n ≤ q → x.testBit q = false := fun x q hx hq => Nat.testBit_lt_two_pow (Nat.lt_of_lt_of_le (by rw [← p1]; exact hx) (Nat.pow_le_pow_right (by omega) hq))
  by_cases c : j / 2 < n
  · rw [m5_k j (by omega)]
    by_cases ev : j % 2 = 0
    · obtain ⟨i, rfl⟩ : ∃ i, j = 2 * i := ⟨j / 2, by omega⟩
      have hi : i < n := by omega
      obtain ⟨q1, -⟩ := pow4_k i (by omega)
      have key : ∀ x : Nat, ∀ e, e < 2 → x.testBit (2 * i + e) = (x / 4 ^ i % 4).testBit e := fun x e he => by
        rw [show (4 : Nat) = 2 ^ 2 from rfl, Nat.testBit_mod_two_pow, decide_eq_true he, Bool.true_and, show (2 ^ 2) ^ i = 2 ^ (2 * i) from q1, Nat.testBit_div_two_pow, Nat.add_comm]
      have k0 := key (pkF s n a ^^^ pkF s n b) 0 (by omega)
      have k1 := key (pkF s n a ^^^ pkF s n b) 1 (by omega)
      have xo : ∀ e, e < 2 → (pkF s n a ^^^ pkF s n b).testBit (2 * i + e) = (dgF s n a i ^^^ dgF s n b i).testBit e := fun e he => by
        rw [Nat.testBit_xor, key _ e he, key _ e he, pk_dg hs hi, pk_dg hs hi, Nat.testBit_xor]
      have x0 := xo 0 (by omega)
      have x1 := xo 1 (by omega)
      rw [Nat.add_zero] at x0
      rw [x0, x1, x4_k _ (dg4 hs hi) _ (dg4 hs hi), decide_eq_true ev, decide_eq_true (show 2 * i % 2 = 0 ∧ 2 * i / 2 < n by omega), show 2 * i / 2 = i by omega, Bool.and_true, Bool.true_and]
      rfl
    · rw [decide_eq_false ev, Bool.and_false, decide_eq_false (by omega), Bool.false_and]
  · rw [decide_eq_false (show ¬ (j % 2 = 0 ∧ j / 2 < n) by omega), Bool.false_and, Nat.testBit_xor, Nat.testBit_xor, big _ j la (by omega), big _ j lb (by omega), big _ (j + 1) la (by omega), big _ (j + 1) lb (by omega)]
    rfl
theorem s3_distance {μ : Mem} {C : Cd} {a b : Nat} {Q : Int → Mem → Prop} (hg : grS μ C (cN C)) (hC : okC C) (ha : a < cW C) (hb : b < cW C) (hq : Q (cF C a b : Nat) μ) : wp_X3_distance a b μ Q := by
  have h8 := hC.1
  have hw8 := hC.2.2.2.1
  have hs : ∀ j, j < cN C → 1 ≤ cS C j ∧ cS C j ≤ 4 := fun j hj => by have := hC.2.1 j hj; omega
  have la := pkF_lt a hs
  have lb := pkF_lt b hs
  obtain ⟨-, p2⟩ := pow4_k (cN C) h8
  refine ⟨by omega, by omega, fun x3 e3 x4 e4 => ?_⟩
  rw [Int.toNat_natCast, Int.toNat_natCast, hg.2.2.2 a ha, hg.2.2.2 b hb, ixor_n (by omega) (by omega)] at e3
  have lx : pkF (cS C) (cN C) a ^^^ pkF (cS C) (cN C) b < 2 ^ 16 := Nat.xor_lt_two_pow (by omega) (by omega)
  have lo : (pkF (cS C) (cN C) a ^^^ pkF (cS C) (cN C) b) ||| (pkF (cS C) (cN C) a ^^^ pkF (cS C) (cN C) b) / 2 < 2 ^ 16 := Nat.or_lt_two_pow lx (by omega)
  rw [e3, show (1 : Int) = ((1 : Nat) : Int) from rfl, ishr_n (by omega) (by omega), Nat.pow_one, ior_n (by omega) (by omega), show (21845 : Int) = ((21845 : Nat) : Int) from rfl, iand_n (by omega) (by omega), un_bm h8 hs] at e4
  subst e4
  have l1 := bmF_lt (neF (cS C) (cN C) a b) (cN C)
  have l2 := bmF_lt (odB C) (cN C)
  have l3 := bmF_lt (hvB C) (cN C)
  have l4 := bmF_lt (fun i => neF (cS C) (cN C) a b i && odB C i) (cN C)
  have l5 := bmF_lt (fun i => neF (cS C) (cN C) a b i && hvB C i) (cN C)
  have hf := fr_ct (s := cS C) (t := cT C) (cN C) a b (fun i hi => hC.2.2.1 i hi)
  have hfar := hC.far a b
  have c1 := ctF_le (fun i => neF (cS C) (cN C) a b i && odB C i) (cN C)
  have c2 := ctF_le (fun i => neF (cS C) (cN C) a b i && hvB C i) (cN C)
  rw [hg.2.1, iand_n (by omega) (by omega), bm_and _ _ h8]
  refine s_bitCount32 (by omega) ?_
  rw [hg.2.2.1, iand_n (by omega) (by omega), bm_and _ _ h8]
  refine s_bitCount32 (by omega) ?_
  rw [bm_count _ h8, bm_count _ h8]
  have e : ((ctF (fun i => neF (cS C) (cN C) a b i && odB C i) (cN C) : Nat) : Int) + 2 * ((ctF (fun i => neF (cS C) (cN C) a b i && hvB C i) (cN C) : Nat) : Int) = ((cF C a b : Nat) : Int) := by
    have hf : ctF (fun i => neF (cS C) (cN C) a b i && odB C i) (cN C) + 2 * ctF (fun i => neF (cS C) (cN C) a b i && hvB C i) (cN C) = cF C a b := hf
    omega
  rw [e]
  exact ⟨inR_n (by omega), hq⟩

/-! bits of longs -/
def bt (a : Int64) (k : Nat) : Bool := a.toBitVec.getLsbD k
theorem bt_or (a b : Int64) (k : Nat) : bt (a ||| b) k = (bt a k || bt b k) := by
  unfold bt
  rw [Int64.toBitVec_or, BitVec.getLsbD_or]
theorem bt_and (a b : Int64) (k : Nat) : bt (a &&& b) k = (bt a k && bt b k) := by
  unfold bt
  rw [Int64.toBitVec_and, BitVec.getLsbD_and]
theorem bt_xor (a b : Int64) (k : Nat) : bt (a ^^^ b) k = (bt a k ^^ bt b k) := by
  unfold bt
  rw [Int64.toBitVec_xor, BitVec.getLsbD_xor]
theorem bt_0 (k : Nat) : bt 0 k = false := by
  show (0#64).getLsbD k = false
  exact BitVec.getLsbD_zero
theorem bt_m1 {k : Nat} (h : k < 64) : bt (-1) k = true := by
  show (BitVec.allOnes 64).getLsbD k = true
  rw [BitVec.getLsbD_allOnes]
  exact decide_eq_true h
theorem bt_hi {a : Int64} {k : Nat} (h : 64 ≤ k) : bt a k = false := BitVec.getLsbD_of_ge _ _ h
theorem bt_ext {a b : Int64} (h : ∀ k, k < 64 → bt a k = bt b k) : a = b := by
  apply Int64.toBitVec_inj.mp
  exact BitVec.eq_of_getLsbD_eq h
theorem sh_k : ∀ k : Nat, k < 64 → (((Int32.ofInt (k : Int)).toInt64 &&& 63).toBitVec.smod 64) = BitVec.ofNat 64 k := by decide
theorem lshl_eq (a : Int64) {k : Nat} (h : k < 64) : (lshl a (k : Int)).toBitVec = a.toBitVec <<< k := by
  show a.toBitVec <<< (((Int32.ofInt (k : Int)).toInt64 &&& 63).toBitVec.smod 64) = a.toBitVec <<< k
  rw [sh_k k h, BitVec.shiftLeft_eq', BitVec.toNat_ofNat, Nat.mod_eq_of_lt (by omega)]
theorem lshr_eq (a : Int64) {k : Nat} (h : k < 64) : (lshr a (k : Int)).toBitVec = a.toBitVec.sshiftRight k := by
  show BitVec.sshiftRight' a.toBitVec (((Int32.ofInt (k : Int)).toInt64 &&& 63).toBitVec.smod 64) = a.toBitVec.sshiftRight k
  rw [sh_k k h]
  show a.toBitVec.sshiftRight (BitVec.ofNat 64 k).toNat = _
  rw [BitVec.toNat_ofNat, Nat.mod_eq_of_lt (by omega)]
theorem ush_k : ∀ k : Nat, k < 64 → ((Int32.ofInt (k : Int)).toInt64.toUInt64 &&& Int64.toUInt64 63).toNat = k := by decide
theorem lushr_eq (a : Int64) {k : Nat} (h : k < 64) : (lushr a (k : Int)).toBitVec = a.toBitVec >>> k := by
  apply BitVec.eq_of_toNat_eq
  show (a.toUInt64 >>> ((Int32.ofInt (k : Int)).toInt64.toUInt64 &&& Int64.toUInt64 63)).toNat = _
  rw [UInt64.toNat_shiftRight, ush_k k h, Nat.mod_eq_of_lt h, BitVec.toNat_ushiftRight]
  rfl
theorem bt_lshl {a : Int64} {k j : Nat} (h : k < 64) (hj : j < 64) : bt (lshl a (k : Int)) j = (!decide (j < k) && bt a (j - k)) := by
  unfold bt
  rw [lshl_eq a h, BitVec.getLsbD_shiftLeft, decide_eq_true hj, Bool.true_and]
theorem bt_1 (j : Nat) : bt 1 j = decide (j = 0) := by
  show (1#64).getLsbD j = decide (j = 0)
  rw [BitVec.getLsbD_one]
  simp
theorem bt_one {k j : Nat} (h : k < 64) (hj : j < 64) : bt (lshl 1 (k : Int)) j = decide (j = k) := by
  rw [bt_lshl h hj, bt_1]
  by_cases e : j = k
  · rw [decide_eq_true e, decide_eq_false (by omega), decide_eq_true (by omega)]; rfl
  · rw [decide_eq_false e]
    by_cases l : j < k
    · rw [decide_eq_true l]; rfl
    · rw [decide_eq_false (show ¬ j - k = 0 by omega), Bool.and_false]
theorem lcm_eq {a b : Int64} : lcm_ a b = 0 ↔ a = b := by
  unfold lcm_ lg_cmp
  constructor
  · intro h
    split at h
    · exact absurd h (by decide)
    · split at h
      · assumption
      · exact absurd h (by decide)
  · intro h
    rw [if_neg (by rw [h]; exact Int64.lt_irrefl), if_pos h]; rfl
theorem and1_eq (y : Int64) : (y &&& 1 = 1) ↔ bt y 0 = true := by
  constructor
  · intro h
    have := congrArg (fun z => bt z 0) h
    rw [bt_and, bt_1] at this
    simpa using this
  · intro h
    apply bt_ext
    intro k hk
    rw [bt_and, bt_1]
    by_cases e : k = 0
    · rw [e, h]; rfl
    · rw [decide_eq_false e, Bool.and_false]
theorem bt_lshr0 {a : Int64} {k : Nat} (h : k < 64) : bt (lshr a (k : Int)) 0 = bt a k := by
  unfold bt
  rw [lshr_eq a h, BitVec.getLsbD_sshiftRight, if_pos (by omega)]
  rfl
theorem bt_lushr0 {a : Int64} {k : Nat} (h : k < 64) : bt (lushr a (k : Int)) 0 = bt a k := by
  unfold bt
  rw [lushr_eq a h, BitVec.getLsbD_ushiftRight, Nat.add_zero]
theorem lcm_shr {a : Int64} {k : Nat} (h : k < 64) : lcm_ ((lshr a (k : Int)) &&& (1 : Int64)) (1 : Int64) = 0 ↔ bt a k = true := by
  rw [lcm_eq, and1_eq, bt_lshr0 h]
/-! the population count -/
def uN (a : Int64) : Nat := a.toBitVec.toNat
theorem uN_lt (a : Int64) : uN a < 18446744073709551616 := a.toBitVec.isLt
theorem uN_and (a b : Int64) : uN (a &&& b) = uN a &&& uN b := by unfold uN; rw [Int64.toBitVec_and, BitVec.toNat_and]
theorem uN_add (a b : Int64) : uN (a + b) = (uN a + uN b) % 18446744073709551616 := by unfold uN; rw [Int64.toBitVec_add, BitVec.toNat_add]
theorem uN_sub {a b : Int64} (h : uN b ≤ uN a) : uN (a - b) = uN a - uN b := by
  unfold uN at *
  rw [Int64.toBitVec_sub, BitVec.toNat_sub_of_le h]
theorem uN_shr (a : Int64) {k : Nat} (h : k < 64) : uN (lushr a (k : Int)) = uN a / 2 ^ k := by
  unfold uN
  rw [lushr_eq a h, BitVec.toNat_ushiftRight, Nat.shiftRight_eq_div_pow]
theorem bt_uN (a : Int64) (k : Nat) : bt a k = (uN a).testBit k := rfl
theorem and_byte {a b c d : Nat} (hb : b < 256) (hd : d < 256) : (256 * a + b) &&& (256 * c + d) = 256 * (a &&& c) + (b &&& d) := by
  apply Nat.eq_of_testBit_eq
  intro i
  have h3 : b &&& d < 2 ^ 8 := Nat.and_lt_two_pow _ hd
  rw [Nat.testBit_and, show 256 = 2 ^ 8 from rfl, Nat.testBit_two_pow_mul_add a hb, Nat.testBit_two_pow_mul_add c hd, Nat.testBit_two_pow_mul_add _ h3]
  split
  · rw [Nat.testBit_and]
  · rw [Nat.testBit_and]
/-- a mask of k bytes m -/
def mk (m : Nat) : Nat → Nat
  | 0 => 0
  | k + 1 => 256 * mk m k + m
def f1 (k x : Nat) : Nat := x - ((x / 2) &&& mk 85 k)
def f2 (k x : Nat) : Nat := (x &&& mk 51 k) + ((x / 4) &&& mk 51 k)
def f3 (k x : Nat) : Nat := (x + x / 16) &&& mk 15 k
def b1 (l : Nat) : Nat := l - ((l / 2) &&& 85)
def b2 (l : Nat) : Nat := (l &&& 51) + ((l / 4) &&& 51)
def b3 (l : Nat) : Nat := (l + l / 16) &&& 15
theorem b1_k : ∀ l : Nat, l < 256 → ∀ e : Nat, e < 2 → ((128 * e + l / 2) &&& 85) = ((l / 2) &&& 85) ∧ ((l / 2) &&& 85) ≤ l ∧ 128 * e + l / 2 < 256 := by decide +kernel
theorem b2_k : ∀ l : Nat, l < 256 → ∀ e : Nat, e < 4 → ((64 * e + l / 4) &&& 51) = ((l / 4) &&& 51) ∧ 64 * e + l / 4 < 256 := by decide +kernel
theorem b2_b : ∀ l : Nat, l < 256 → b1 l < 256 ∧ b2 (b1 l) ≤ 68 ∧ b2 (b1 l) % 16 ≤ 4 := by decide +kernel
theorem b3_k : ∀ l : Nat, l < 69 → ∀ e : Nat, e < 5 → ((l + (16 * e + l / 16)) &&& 15) = b3 l ∧ l + (16 * e + l / 16) < 256 := by decide +kernel
theorem pc_k : ∀ l : Nat, l < 256 → b3 (b2 (b1 l)) = ctF (Nat.testBit l) 8 ∧ b3 (b2 (b1 l)) ≤ 8 := by decide +kernel
theorem f1_s {h l : Nat} (k : Nat) (hl : l < 256) : f1 (k + 1) (256 * h + l) = 256 * f1 k h + b1 l := by
  obtain ⟨h1, h2, h3⟩ := b1_k l hl (h % 2) (Nat.mod_lt _ (by omega))
  have e : (256 * h + l) / 2 = 256 * (h / 2) + (128 * (h % 2) + l / 2) := by omega
  have hle : h / 2 &&& mk 85 k ≤ h / 2 := Nat.and_le_left
  unfold f1
  show (256 * h + l) - ((256 * h + l) / 2 &&& (256 * mk 85 k + 85)) = _
  rw [e, and_byte h3 (by omega), h1]
  unfold b1
  omega
theorem f2_s {h l : Nat} (k : Nat) (hl : l < 256) : f2 (k + 1) (256 * h + l) = 256 * f2 k h + b2 l := by
  obtain ⟨h1, h3⟩ := b2_k l hl (h % 4) (Nat.mod_lt _ (by omega))
  have e : (256 * h + l) / 4 = 256 * (h / 4) + (64 * (h % 4) + l / 4) := by omega
  unfold f2
  show ((256 * h + l) &&& (256 * mk 51 k + 51)) + ((256 * h + l) / 4 &&& (256 * mk 51 k + 51)) = _
  rw [e, and_byte h3 (by omega), and_byte hl (by omega), h1]
  unfold b2
  omega
theorem f3_s {h l : Nat} (k : Nat) (hl : l ≤ 68) (hh : h % 16 ≤ 4) : f3 (k + 1) (256 * h + l) = 256 * f3 k h + b3 l := by
  obtain ⟨h1, h3⟩ := b3_k l (by omega) (h % 16) (by omega)
  have e : 256 * h + l + (256 * h + l) / 16 = 256 * (h + h / 16) + (l + (16 * (h % 16) + l / 16)) := by omega
  unfold f3
  show ((256 * h + l + (256 * h + l) / 16) &&& (256 * mk 15 k + 15)) = _
  rw [e, and_byte h3 (by omega), h1]
def Pc (k x : Nat) : Nat := f3 k (f2 k (f1 k x))
def pc (l : Nat) : Nat := b3 (b2 (b1 l))
theorem f21_16 (k x : Nat) : f2 k (f1 k x) % 16 ≤ 4 := by
  cases k with
  | zero =>
    show ((f1 0 x &&& 0) + (f1 0 x / 4 &&& 0)) % 16 ≤ 4
    rw [Nat.and_zero, Nat.and_zero]; decide
  | succ k =>
    have hl : x % 256 < 256 := Nat.mod_lt _ (by omega)
    have e : x = 256 * (x / 256) + x % 256 := (Nat.div_add_mod _ _).symm
    have hb := b2_b (x % 256) hl
    rw [e, f1_s k hl, f2_s k hb.1]
    omega
theorem Pc_s (k x : Nat) : Pc (k + 1) x = 256 * Pc k (x / 256) + pc (x % 256) := by
  have hl : x % 256 < 256 := Nat.mod_lt _ (by omega)
  have e : x = 256 * (x / 256) + x % 256 := (Nat.div_add_mod _ _).symm
  have hb := b2_b (x % 256) hl
  have h1 := f1_s (h := x / 256) k hl
  rw [← e] at h1
  unfold Pc
  rw [h1, f2_s k hb.1, f3_s k hb.2.1 (f21_16 k _)]
  rfl
theorem Pc_0 (x : Nat) : Pc 0 x = 0 := Nat.and_zero _
theorem ctF_split (p : Nat → Bool) (a : Nat) : ∀ n, ctF p (a + n) = ctF p a + ctF (fun i => p (a + i)) n
  | 0 => rfl
  | n + 1 => by
    show ctF p (a + n) + (if p (a + n) then 1 else 0) = ctF p a + (ctF (fun i => p (a + i)) n + (if p (a + n) then 1 else 0))
    rw [ctF_split p a n, Nat.add_assoc]
theorem ct_byte (x n : Nat) : ctF (Nat.testBit x) (8 + n) = pc (x % 256) + ctF (Nat.testBit (x / 256)) n := by
  rw [ctF_split]
  congr 1
  · rw [show pc (x % 256) = _ from (pc_k (x % 256) (Nat.mod_lt _ (by omega))).1]
    refine ctF_cong fun i hi => ?_
    rw [show 256 = 2 ^ 8 from rfl, Nat.testBit_mod_two_pow, decide_eq_true hi, Bool.true_and]
  · refine ctF_cong fun i hi => ?_
    show x.testBit (8 + i) = (x / 2 ^ 8).testBit i
    rw [Nat.testBit_div_two_pow, Nat.add_comm]
theorem pop_sum (x : Nat) (hx : x < 18446744073709551616) : ∃ c0 c1 c2 c3 c4 c5 c6 c7 : Nat, c0 ≤ 8 ∧ c1 ≤ 8 ∧ c2 ≤ 8 ∧ c3 ≤ 8 ∧ c4 ≤ 8 ∧ c5 ≤ 8 ∧ c6 ≤ 8 ∧ c7 ≤ 8 ∧ Pc 8 x = c0 + 256 * (c1 + 256 * (c2 + 256 * (c3 + 256 * (c4 + 256 * (c5 + 256 * (c6 + 256 * c7)))))) ∧ ctF (Nat.testBit x) 64 = c0 + (c1 + (c2 + (c3 + (c4 + (c5 + (c6 + c7)))))) := by
  have hc : ∀ y, pc (y % 256) ≤ 8 := fun y => (pc_k (y % 256) (Nat.mod_lt _ (by omega))).2
  refine ⟨pc (x % 256), pc (x / 256 % 256), pc (x / 256 / 256 % 256), pc (x / 256 / 256 / 256 % 256), pc (x / 256 / 256 / 256 / 256 % 256), pc (x / 256 / 256 / 256 / 256 / 256 % 256), pc (x / 256 / 256 / 256 / 256 / 256 / 256 % 256), pc (x / 256 / 256 / 256 / 256 / 256 / 256 / 256 % 256), hc _, hc _, hc _, hc _, hc _, hc _, hc _, hc _, ?_, ?_⟩
  · rw [Pc_s, Pc_s, Pc_s, Pc_s, Pc_s, Pc_s, Pc_s, Pc_s, Pc_0]
    omega
  · rw [ct_byte x 56, ct_byte _ 48, ct_byte _ 40, ct_byte _ 32, ct_byte _ 24, ct_byte _ 16, ct_byte _ 8, ct_byte _ 0]
    rfl
theorem iand127 (y : Int64) : iand (l2i_ y) 127 = ((uN y % 128 : Nat) : Int) := by
  have h1 : (Int32.ofInt (l2i_ y) &&& Int32.ofInt 127).toBitVec.toNat = uN y % 128 := by
    unfold l2i_
    rw [Int32.ofInt_toInt, Int32.toBitVec_and, BitVec.toNat_and]
    show (y.toBitVec.signExtend 32).toNat &&& 127 = _
    rw [BitVec.signExtend_eq_setWidth_of_le _ (by omega), BitVec.toNat_setWidth, show (127 : Nat) = 2 ^ 7 - 1 from rfl, Nat.and_two_pow_sub_one_eq_mod]
    unfold uN
    omega
  have h2 : (Int32.ofInt (l2i_ y) &&& Int32.ofInt 127).toBitVec.toInt = (uN y % 128 : Nat) := by
    rw [BitVec.toInt_eq_toNat_cond, h1, if_pos (by omega)]
  exact h2
theorem div_of {y lo hi m : Nat} (h : y = lo + m * hi) (hl : lo < m) : y / m = hi := by
  rw [h, Nat.add_mul_div_left _ _ (by omega), Nat.div_eq_of_lt hl, Nat.zero_add]
theorem pop_fin {c0 c1 c2 c3 c4 c5 c6 c7 y3 y4 y5 y6 : Nat} (h0 : c0 ≤ 8) (h1 : c1 ≤ 8) (h2 : c2 ≤ 8) (h3 : c3 ≤ 8) (h4 : c4 ≤ 8) (h5 : c5 ≤ 8) (h6 : c6 ≤ 8) (h7 : c7 ≤ 8)
    (a3 : y3 = c0 + 256 * (c1 + 256 * (c2 + 256 * (c3 + 256 * (c4 + 256 * (c5 + 256 * (c6 + 256 * c7))))))) (a4 : y4 = y3 + y3 / 256) (a5 : y5 = y4 + y4 / 65536) (a6 : y6 = y5 + y5 / 4294967296) : y6 % 128 = c0 + (c1 + (c2 + (c3 + (c4 + (c5 + (c6 + c7)))))) := by
  rw [div_of a3 (by clear a3 a4 a5 a6; omega), a3] at a4
  have q4 : y4 = ((c0 + c1) + 256 * (c1 + c2)) + 65536 * ((c2 + c3) + 256 * ((c3 + c4) + 256 * ((c4 + c5) + 256 * ((c5 + c6) + 256 * ((c6 + c7) + 256 * c7))))) := by clear a3 a5 a6; omega
  clear a3 a4
  rw [div_of q4 (by clear a5 a6 q4; omega), q4] at a5
  have q5 : y5 = (c0 + c1 + c2 + c3 + 256 * (c1 + c2 + c3 + c4) + 65536 * (c2 + c3 + c4 + c5) + 16777216 * (c3 + c4 + c5 + c6)) + 4294967296 * (c4 + c5 + c6 + c7 + 256 * (c5 + c6 + c7) + 65536 * (c6 + c7) + 16777216 * c7) := by clear a6 q4; omega
  clear a5 q4
  rw [div_of q5 (by clear a6 q5; omega), q5] at a6
  have q6 : y6 = (c0 + (c1 + (c2 + (c3 + (c4 + (c5 + (c6 + c7))))))) + 128 * (2 * (c1 + c2 + c3 + c4) + 512 * (c2 + c3 + c4 + c5) + 131072 * (c3 + c4 + c5 + c6) + 33554432 * (c4 + c5 + c6 + c7 + 256 * (c5 + c6 + c7) + 65536 * (c6 + c7) + 16777216 * c7) + 2 * (c5 + c6 + c7) + 512 * (c6 + c7) + 131072 * c7) := by clear q5; omega
  rw [q6, Nat.add_mul_mod_self_left, Nat.mod_eq_of_lt (by clear q6 q5 a6; omega)]
theorem lt_3 {a : Nat} (h : a ≤ 578721382704613384) (m : Nat) : a + a / m < 18446744073709551616 ∧ a + a / m ≤ 2 * a := by
  have := Nat.div_le_self a m
  omega
theorem pop_b {c0 c1 c2 c3 c4 c5 c6 c7 y3 : Nat} (h0 : c0 ≤ 8) (h1 : c1 ≤ 8) (h2 : c2 ≤ 8) (h3 : c3 ≤ 8) (h4 : c4 ≤ 8) (h5 : c5 ≤ 8) (h6 : c6 ≤ 8) (h7 : c7 ≤ 8)
    (a3 : y3 = c0 + 256 * (c1 + 256 * (c2 + 256 * (c3 + 256 * (c4 + 256 * (c5 + 256 * (c6 + 256 * c7))))))) : y3 ≤ 578721382704613384 := by omega
theorem lt_4 {a : Nat} (h : a ≤ 4 * 578721382704613384) (m : Nat) : a + a / m < 18446744073709551616 ∧ a + a / m ≤ 2 * a := by
  have := Nat.div_le_self a m
  omega
theorem pop_a1 {a y1 : Int64} (e1 : y1 = (a - ((lushr a 1) &&& (6148914691236517205 : Int64)))) : uN y1 = f1 8 (uN a) := by
  rw [e1]
  have hm : uN (lushr a 1 &&& 6148914691236517205) = uN a / 2 &&& mk 85 8 := by
    rw [uN_and, show (1 : Int) = ((1 : Nat) : Int) from rfl, uN_shr a (by omega)]; rfl
  have hle : uN a / 2 &&& mk 85 8 ≤ uN a / 2 := Nat.and_le_left
  rw [uN_sub (by rw [hm]; omega), hm]; rfl
theorem pop_a2 {y1 y2 : Int64} (e2 : y2 = ((y1 &&& (3689348814741910323 : Int64)) + ((lushr y1 2) &&& (3689348814741910323 : Int64)))) : uN y2 = f2 8 (uN y1) ∧ uN y2 ≤ 7378697629483820646 := by
  have hm : uN (lushr y1 2 &&& 3689348814741910323) = uN y1 / 4 &&& mk 51 8 := by
    rw [uN_and, show (2 : Int) = ((2 : Nat) : Int) from rfl, uN_shr y1 (by omega)]; rfl
  have hm2 : uN (y1 &&& 3689348814741910323) = uN y1 &&& mk 51 8 := by rw [uN_and]; rfl
  have l1 : uN y1 / 4 &&& mk 51 8 ≤ mk 51 8 := Nat.and_le_right
  have l2 : uN y1 &&& mk 51 8 ≤ mk 51 8 := Nat.and_le_right
  have l3 : mk 51 8 = 3689348814741910323 := by decide
  have e : uN y2 = (uN y1 &&& mk 51 8) + (uN y1 / 4 &&& mk 51 8) := by rw [e2, uN_add, hm, hm2, Nat.mod_eq_of_lt (by omega)]
  exact ⟨e, by omega⟩
theorem pop_a3 {y2 y3 : Int64} (l2 : uN y2 ≤ 7378697629483820646) (e3 : y3 = ((y2 + (lushr y2 4)) &&& (1085102592571150095 : Int64))) : uN y3 = f3 8 (uN y2) := by
  rw [e3, uN_and, uN_add, show (4 : Int) = ((4 : Nat) : Int) from rfl, uN_shr y2 (by omega), Nat.mod_eq_of_lt (by omega)]; rfl
theorem pop_a4 {y z : Int64} {k : Nat} (hk : k < 64) (l : uN y ≤ 4 * 578721382704613384) (e : z = y + lushr y (k : Int)) : uN z = uN y + uN y / 2 ^ k ∧ uN z ≤ 2 * uN y := by
  have h := lt_4 l (2 ^ k)
  have e1 : uN z = uN y + uN y / 2 ^ k := by rw [e, uN_add, uN_shr y hk, Nat.mod_eq_of_lt h.1]
  exact ⟨e1, by rw [e1]; exact h.2⟩
theorem s_bitCount {μ : Mem} {Q : Int → Mem → Prop} {a : Int64} (hq : Q (ctF (bt a) 64 : Nat) μ) : wp_J13_bitCount_95d88 a μ Q := by
  intro y1 e1 y2 e2 y3 e3 y4 e4 y5 e5 y6 e6
  obtain ⟨c0, c1, c2, c3, c4, c5, c6, c7, h0, h1, h2, h3, h4, h5, h6, h7, hP, hS⟩ := pop_sum (uN a) (uN_lt a)
  have a1 := pop_a1 e1
  obtain ⟨a2, l2⟩ := pop_a2 e2
  have a3 := pop_a3 l2 e3
  have a3' : uN y3 = Pc 8 (uN a) := by rw [a3, a2, a1]; rfl
  rw [hP] at a3'
  have b3 := pop_b h0 h1 h2 h3 h4 h5 h6 h7 a3'
  obtain ⟨a4, b4⟩ := pop_a4 (k := 8) (by decide) (Nat.le_trans b3 (by decide)) e4
  obtain ⟨a5, b5⟩ := pop_a4 (k := 16) (by decide) (Nat.le_trans b4 (Nat.le_trans (Nat.mul_le_mul_left 2 b3) (by decide))) e5
  obtain ⟨a6, -⟩ := pop_a4 (k := 32) (by decide) (Nat.le_trans b5 (Nat.le_trans (Nat.mul_le_mul_left 2 (Nat.le_trans b4 (Nat.mul_le_mul_left 2 b3))) (by decide))) e6
  rw [iand127]
  have hf : uN y6 % 128 = ctF (bt a) 64 := by
    rw [pop_fin h0 h1 h2 h3 h4 h5 h6 h7 a3' a4 a5 a6, ← hS]; rfl
  rw [hf]
  exact hq

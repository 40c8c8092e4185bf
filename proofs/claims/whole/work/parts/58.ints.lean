/-! bits of ints that are not negative -/
theorem i32_nat {a : Nat} (h : a < 2147483648) : (Int32.ofInt (a : Int)).toBitVec.toNat = a := by
  show (BitVec.ofInt 32 (a : Int)).toNat = a
  rw [BitVec.ofInt_natCast, BitVec.toNat_ofNat, Nat.mod_eq_of_lt (by omega)]
theorem toInt_nat {x : Int32} {a : Nat} (h : x.toBitVec.toNat = a) (ha : a < 2147483648) : x.toInt = (a : Int) := by
  show x.toBitVec.toInt = _
  rw [BitVec.toInt_eq_toNat_cond, h, if_pos (by omega)]
theorem iand_n {a b : Nat} (ha : a < 2147483648) (hb : b < 2147483648) : iand (a : Int) (b : Int) = ((a &&& b : Nat) : Int) :=
  toInt_nat (by rw [Int32.toBitVec_and, BitVec.toNat_and, i32_nat ha, i32_nat hb]) (Nat.lt_of_le_of_lt Nat.and_le_left ha)
theorem ior_n {a b : Nat} (ha : a < 2147483648) (hb : b < 2147483648) : ior (a : Int) (b : Int) = ((a ||| b : Nat) : Int) :=
  toInt_nat (by rw [Int32.toBitVec_or, BitVec.toNat_or, i32_nat ha, i32_nat hb]) (Nat.or_lt_two_pow (n := 31) ha hb)
theorem ixor_n {a b : Nat} (ha : a < 2147483648) (hb : b < 2147483648) : ixor (a : Int) (b : Int) = ((a ^^^ b : Nat) : Int) :=
  toInt_nat (by rw [Int32.toBitVec_xor, BitVec.toNat_xor, i32_nat ha, i32_nat hb]) (Nat.xor_lt_two_pow (n := 31) ha hb)
theorem ish_k : ∀ k : Nat, k < 32 → ((Int32.ofInt (k : Int)).toUInt32 &&& Int32.toUInt32 31).toNat = k := by decide
theorem ish_s : ∀ k : Nat, k < 32 → ((Int32.ofInt (k : Int) &&& 31).toBitVec.smod 32) = BitVec.ofNat 32 k := by decide
theorem iushr_n {a k : Nat} (ha : a < 2147483648) (hk : k < 32) : iushr (a : Int) (k : Int) = ((a / 2 ^ k : Nat) : Int) := by
  have hd : a / 2 ^ k ≤ a := Nat.div_le_self _ _
  refine toInt_nat (x := ((Int32.ofInt (a : Int)).toUInt32 >>> ((Int32.ofInt (k : Int)).toUInt32 &&& Int32.toUInt32 31)).toInt32) ?_ (by omega)
  show ((Int32.ofInt (a : Int)).toUInt32 >>> ((Int32.ofInt (k : Int)).toUInt32 &&& Int32.toUInt32 31)).toNat = _
  rw [UInt32.toNat_shiftRight, ish_k k hk, Nat.mod_eq_of_lt hk, Nat.shiftRight_eq_div_pow]
  congr 1
  exact i32_nat ha
theorem ishr_n {a k : Nat} (ha : a < 2147483648) (hk : k < 32) : ishr (a : Int) (k : Int) = ((a / 2 ^ k : Nat) : Int) := by
  show (BitVec.sshiftRight' (Int32.ofInt (a : Int)).toBitVec ((Int32.ofInt (k : Int) &&& 31).toBitVec.smod 32)).toInt = _
  rw [ish_s k hk]
  show ((Int32.ofInt (a : Int)).toBitVec.sshiftRight (BitVec.ofNat 32 k).toNat).toInt = _
  have h1 : (Int32.ofInt (a : Int)).toBitVec.toInt = (a : Int) := toInt_nat (i32_nat ha) ha
  rw [BitVec.toNat_ofNat, Nat.mod_eq_of_lt (by omega), BitVec.toInt_sshiftRight, h1, Int.shiftRight_eq_div_pow]
  rfl

/-! Integer.bitCount -/
theorem pop32_sum (x : Nat) : ∃ c0 c1 c2 c3 : Nat, c0 ≤ 8 ∧ c1 ≤ 8 ∧ c2 ≤ 8 ∧ c3 ≤ 8 ∧ Pc 4 x = c0 + 256 * (c1 + 256 * (c2 + 256 * c3)) ∧ ctF (Nat.testBit x) 32 = c0 + (c1 + (c2 + c3)) := by
  have hc : ∀ y, pc (y % 256) ≤ 8 := fun y => (pc_k (y % 256) (Nat.mod_lt _ (by omega))).2
  refine ⟨pc (x % 256), pc (x / 256 % 256), pc (x / 256 / 256 % 256), pc (x / 256 / 256 / 256 % 256), hc _, hc _, hc _, hc _, ?_, ?_⟩
  · rw [Pc_s, Pc_s, Pc_s, Pc_s, Pc_0]
    omega
  · rw [ct_byte x 24, ct_byte _ 16, ct_byte _ 8, ct_byte _ 0]
    rfl
theorem pop32_fin {c0 c1 c2 c3 y3 y4 y5 : Nat} (h0 : c0 ≤ 8) (h1 : c1 ≤ 8) (h2 : c2 ≤ 8) (h3 : c3 ≤ 8)
    (a3 : y3 = c0 + 256 * (c1 + 256 * (c2 + 256 * c3))) (a4 : y4 = y3 + y3 / 256) (a5 : y5 = y4 + y4 / 65536) : y3 ≤ 134744072 ∧ y4 ≤ 269488144 ∧ y5 ≤ 538976288 ∧ y5 % 64 = c0 + (c1 + (c2 + c3)) := by
  have b3 : y3 ≤ 134744072 := by clear a4 a5; omega
  have b4 : y4 ≤ 269488144 := by clear a3 a5; omega
  have b5 : y5 ≤ 538976288 := by clear a3 a4; omega
  rw [div_of a3 (by clear a3 a4 a5; omega), a3] at a4
  have q4 : y4 = ((c0 + c1) + 256 * (c1 + c2)) + 65536 * ((c2 + c3) + 256 * c3) := by clear a3 a5 b3 b4 b5; omega
  clear a3 a4
  rw [div_of q4 (by clear a5 q4 b3 b4 b5; omega), q4] at a5
  have q5 : y5 = (c0 + (c1 + (c2 + c3))) + 64 * (4 * (c1 + c2) + 1024 * ((c2 + c3) + 256 * c3) + 4 * c3) := by clear q4 b3 b4 b5; omega
  exact ⟨b3, b4, b5, by rw [q5, Nat.add_mul_mod_self_left, Nat.mod_eq_of_lt (by clear q4 q5 a5 b3 b4 b5; omega)]⟩
theorem s_bitCount32 {μ : Mem} {Q : Int → Mem → Prop} {x : Nat} (hx : x < 2147483648) (hq : Q (ctF (Nat.testBit x) 32 : Nat) μ) : wp_J6_bitCount_0f7a4 (x : Int) μ Q := by
  obtain ⟨c0, c1, c2, c3, h0, h1, h2, h3, hP, hS⟩ := pop32_sum x
  have m1 : mk 85 4 = 1431655765 := by decide
  have m2 : mk 51 4 = 858993459 := by decide
  have m3 : mk 15 4 = 252645135 := by decide
  have l1 : x / 2 &&& 1431655765 ≤ x / 2 := Nat.and_le_left
  have e1 : iand (iushr (x : Int) 1) 1431655765 = ((x / 2 &&& 1431655765 : Nat) : Int) := by
    rw [show (1 : Int) = ((1 : Nat) : Int) from rfl, iushr_n hx (by omega), show (1431655765 : Int) = ((1431655765 : Nat) : Int) from rfl, iand_n (by omega) (by omega)]
  unfold wp_J6_bitCount_0f7a4
  rw [e1]
  refine ⟨inR_i (by omega) (by omega), fun x1 ex1 => ?_⟩
  obtain ⟨n1, hn1⟩ : ∃ n1, n1 = f1 4 x := ⟨_, rfl⟩
  have f1e : n1 = x - (x / 2 &&& 1431655765) := by rw [hn1]; unfold f1; rw [m1]
  have ex1 : x1 = (n1 : Int) := by omega
  subst ex1
  have n1b : n1 < 2147483648 := by omega
  have e2 : iand (n1 : Int) 858993459 = ((n1 &&& 858993459 : Nat) : Int) := by rw [show (858993459 : Int) = ((858993459 : Nat) : Int) from rfl, iand_n n1b (by omega)]
  have e3 : iand (iushr (n1 : Int) 2) 858993459 = ((n1 / 4 &&& 858993459 : Nat) : Int) := by
    rw [show (2 : Int) = ((2 : Nat) : Int) from rfl, iushr_n n1b (by omega), show (858993459 : Int) = ((858993459 : Nat) : Int) from rfl, iand_n (by omega) (by omega)]
  have l2 : n1 &&& 858993459 ≤ 858993459 := Nat.and_le_right
  have l3 : n1 / 4 &&& 858993459 ≤ 858993459 := Nat.and_le_right
  rw [e2, e3]
  refine ⟨inR_i (by omega) (by omega), fun x3 ex3 => ?_⟩
  obtain ⟨n3, hn3⟩ : ∃ n3, n3 = f2 4 n1 := ⟨_, rfl⟩
  have f2e : n3 = (n1 &&& 858993459) + (n1 / 4 &&& 858993459) := by rw [hn3]; unfold f2; rw [m2]
  have ex3 : x3 = (n3 : Int) := by omega
  subst ex3
  have n3b : n3 ≤ 1717986918 := by omega
  have e4 : iand ((n3 : Int) + iushr (n3 : Int) 4) 252645135 = ((n3 + n3 / 16 &&& 252645135 : Nat) : Int) := by
    rw [show (4 : Int) = ((4 : Nat) : Int) from rfl, iushr_n (by omega) (by omega), show (252645135 : Int) = ((252645135 : Nat) : Int) from rfl, show ((n3 : Int) + ((n3 / 2 ^ 4 : Nat) : Int)) = ((n3 + n3 / 16 : Nat) : Int) by omega, iand_n (by omega) (by omega)]
  rw [e4]
  intro x5 ex5
  obtain ⟨n5, hn5⟩ : ∃ n5, n5 = f3 4 n3 := ⟨_, rfl⟩
  have ex5 : x5 = (n5 : Int) := by rw [ex5, hn5]; unfold f3; rw [m3]
  subst ex5
  have hP5 : n5 = c0 + 256 * (c1 + 256 * (c2 + 256 * c3)) := by rw [← hP, hn5, hn3, hn1]; rfl
  obtain ⟨b3, b4, b5, hf⟩ := pop32_fin h0 h1 h2 h3 hP5 rfl rfl
  clear hP5 hP e1 e2 e3 e4 l1 l2 l3 f1e f2e
  have g1 : iushr (n5 : Int) 8 = ((n5 / 256 : Nat) : Int) := by rw [show (8 : Int) = ((8 : Nat) : Int) from rfl, iushr_n (by omega) (by omega)]
  rw [g1]
  refine ⟨inR_i (by omega) (by omega), fun x6 ex6 => ?_⟩
  have ex6 : x6 = ((n5 + n5 / 256 : Nat) : Int) := by omega
  subst ex6
  have g2 : iushr ((n5 + n5 / 256 : Nat) : Int) 16 = (((n5 + n5 / 256) / 65536 : Nat) : Int) := by rw [show (16 : Int) = ((16 : Nat) : Int) from rfl, iushr_n (by omega) (by omega)]
  rw [g2]
  refine ⟨inR_i (by omega) (by omega), fun x8 ex8 => ?_⟩
  have ex8 : x8 = ((n5 + n5 / 256 + (n5 + n5 / 256) / 65536 : Nat) : Int) := by omega
  subst ex8
  rw [show (63 : Int) = ((63 : Nat) : Int) from rfl, iand_n (by omega) (by omega), show (63 : Nat) = 2 ^ 6 - 1 from rfl, Nat.and_two_pow_sub_one_eq_mod, show 2 ^ 6 = 64 from rfl, hf, ← hS]
  exact hq

/-! the class: the ground -/
def pkF (s : Nat → Nat) : Nat → Nat → Nat
  | 0, _ => 0
  | n + 1, w => pkF s n (w / s n) + w % s n * 4 ^ n
def bmF (f : Nat → Bool) : Nat → Nat
  | 0 => 0
  | n + 1 => bmF f n + (if f n then 4 ^ n else 0)
theorem pkF_lt {s : Nat → Nat} : ∀ {n : Nat} (w : Nat), (∀ i, i < n → 1 ≤ s i ∧ s i ≤ 4) → pkF s n w < 4 ^ n
  | 0, _, _ => Nat.one_pos
  | n + 1, w, h => by
    have h1 := pkF_lt (n := n) (w / s n) fun i hi => h i (by omega)
    have h2 := h n (by omega)
    have h3 : w % s n ≤ 3 := by have := Nat.mod_lt w (show 0 < s n by omega); omega
    have h4 := Nat.mul_le_mul_right (4 ^ n) h3
    show pkF s n (w / s n) + w % s n * 4 ^ n < 4 ^ (n + 1)
    rw [Nat.pow_succ]
    omega
theorem bmF_lt (f : Nat → Bool) : ∀ n, bmF f n < 4 ^ n
  | 0 => Nat.one_pos
  | n + 1 => by
    have h1 := bmF_lt f n
    show bmF f n + (if f n then 4 ^ n else 0) < 4 ^ (n + 1)
    rw [Nat.pow_succ]
    split <;> omega
theorem pow4_k : ∀ i : Nat, i ≤ 8 → 4 ^ i = 2 ^ (2 * i) ∧ 4 ^ i ≤ 65536 := by decide
theorem ishl_k : ∀ i : Nat, i < 8 → ∀ d : Nat, d < 4 → ishl (d : Int) (2 * (i : Int)) = ((d * 4 ^ i : Nat) : Int) := by decide +kernel
theorem or_add {i a d : Nat} (hi : i < 8) (ha : a < 4 ^ i) : a ||| d * 4 ^ i = a + d * 4 ^ i := by
  obtain ⟨p1, -⟩ := pow4_k i (by omega)
  rw [p1] at ha ⊢
  rw [← Nat.shiftLeft_eq, Nat.or_comm, ← Nat.shiftLeft_add_eq_or_of_lt ha, Nat.add_comm]
theorem w12_k : ∀ t : Nat, t < 4 → iand (t : Int) 1 = ((t % 2 : Nat) : Int) ∧ iand (t : Int) 2 = ((2 * (t / 2) : Nat) : Int) := by decide
def odB (C : Cd) (i : Nat) : Bool := decide (cT C i % 2 = 1)
def hvB (C : Cd) (i : Nat) : Bool := decide (cT C i / 2 = 1)
/-- the ground is laid for the first i places -/
def grS (μ : Mem) (C : Cd) (i : Nat) : Prop := μ.1 70 0 = (wdF (cS C) i : Int) ∧ μ.1 70 1 = (bmF (odB C) i : Int) ∧ μ.1 70 2 = (bmF (hvB C) i : Int) ∧ ∀ w, w < wdF (cS C) i → μ.1 71 w = (pkF (cS C) i w : Int)
def oG (μ μ' : Mem) : Prop := (∀ q, q ≠ 70 → q ≠ 71 → μ'.1 q = μ.1 q) ∧ μ'.2 = μ.2
theorem oG.rf {μ : Mem} : oG μ μ := ⟨fun _ _ _ => rfl, rfl⟩
theorem oG.tr {μ μ' μ'' : Mem} (h : oG μ μ') (h2 : oG μ' μ'') : oG μ μ'' := ⟨fun q a b => (h2.1 q a b).trans (h.1 q a b), h2.2.trans h.2⟩
theorem oG.I {μ μ' : Mem} {q j : Nat} {v : Int} (h : oG μ μ') (hq : q = 70 ∨ q = 71) : oG μ (sI μ' q j v) := h.tr ⟨fun p a b => sI_ne (by omega), rfl⟩
theorem crep.G {μ μ' : Mem} {k : Nat} {C : Cd} (h : crep μ k C) (ho : oG μ μ') (hk : k + 4 ≤ 70 ∨ 72 ≤ k) : crep μ' k C := by
  unfold crep at *
  rw [ho.1 k (by omega) (by omega), ho.1 (k + 1) (by omega) (by omega), ho.1 (k + 2) (by omega) (by omega), ho.2]
  exact h
section CC
variable {μ : Mem} {C : Cd} {Q : Mem → Prop}
theorem s3_layPlace {i : Nat} (hg : grS μ C i) (hC : okC C) (hi : i < cN C) (hq : ∀ μ', oG μ μ' → grS μ' C (i + 1) → Q μ') : wp_X3_layPlace i (cS C i) (cT C i) μ Q := by
  have h8 := hC.1
  have hsz := hC.2.1 i hi
  have hwt := hC.2.2.1 i hi
  have hw1 := hC.wd (i := i + 1) (by omega)
  have hwi := hC.wd (i := i) (by omega)
  have hw0 : 1 ≤ wdF (cS C) i := wdF_pos fun j hj => by have := (hC.2.1 j (by omega)).1; omega
  have hws : wdF (cS C) (i + 1) = wdF (cS C) i * cS C i := rfl
  obtain ⟨p1, p2⟩ := pow4_k i (by omega)
  have pk : ∀ w, pkF (cS C) i w < 4 ^ i := fun w => pkF_lt w fun j hj => by have := hC.2.1 j (by omega); omega
  obtain ⟨t1, t2⟩ := w12_k (cT C i) (by omega)
  have bo := bmF_lt (odB C) i
  have bh := bmF_lt (hvB C) i
  have one : ishl 1 (2 * (i : Int)) = ((1 * 4 ^ i : Nat) : Int) := ishl_k i (by omega) 1 (by omega)
  -- the words
  have words : ∀ μ1 : Mem, oG μ μ1 → μ1.1 70 0 = (wdF (cS C) i : Int) → μ1.1 70 1 = (bmF (odB C) (i + 1) : Int) → μ1.1 70 2 = (bmF (hvB C) (i + 1) : Int) → (∀ w, w < wdF (cS C) i → μ1.1 71 w = (pkF (cS C) i w : Int)) → wp_X3_layPlace_43 Q (cS C i) (2 * (i : Int)) μ1 := by
    intro μ1 ho1 g0 g1 g2 gp
    unfold wp_X3_layPlace_43
    rw [g0]
    refine ⟨inR_i (by omega) (by omega), fun x5 e5 => ?_⟩
    generalize hWi : wdF (cS C) i = W at *
    generalize hse : cS C i = s at *
    refine LP4_rule (fun (v2 v4 v5 : Int) (μ2 : Mem) => v2 = (s : Int) ∧ v4 = 2 * (i : Int) ∧ oG μ μ2 ∧ (μ2.1 70 = μ1.1 70) ∧ ∃ n : Nat, v5 = (n : Int) - 1 ∧ n ≤ W ∧ (∀ w, w < n → μ2.1 71 w = (pkF (cS C) i w : Int)) ∧ ∀ x, n * s ≤ x → x < W * s → μ2.1 71 x = (pkF (cS C) (i + 1) x : Int)) (fun _ _ v5 _ => (v5 + 1).toNat) ?_ ⟨rfl, rfl, ho1, rfl, W, e5, Nat.le_refl _, gp, fun x a b => absurd b (by omega)⟩
    rintro X v2 v4 v5 μ2 ⟨rfl, rfl, ho2, h70, n, rfl, hn, hlow, hhigh⟩ hX
    refine ⟨fun c1 => ?_, fun c1 => ?_⟩
    · have n0 : n = 0 := by omega
      subst n0
      rw [h70, g0, ← Int.natCast_mul]
      refine ⟨inR_n (by omega), fun μ9 e9 => hq μ9 (by rw [e9]; exact ho2.I (by omega)) ⟨by rw [e9, sI_s, hws], by rw [e9, sI_nj (by omega), h70]; exact g1, by rw [e9, sI_nj (by omega), h70]; exact g2, fun x hx => ?_⟩⟩
      rw [e9, sI_ne (by omega)]
      exact hhigh x (by omega) (by omega)
    · obtain ⟨m, rfl⟩ : ∃ m, n = m + 1 := ⟨n - 1, by omega⟩
      rw [show ((m + 1 : Nat) : Int) - 1 = (m : Int) by omega, Int.toNat_natCast, hlow m (by omega)]
      have hm1 : (m + 1) * s ≤ W * s := Nat.mul_le_mul_right _ hn
      have ems : (m + 1) * s = m * s + s := by rw [Nat.add_mul, Nat.one_mul]
      have hmm : m * 1 ≤ m * s := Nat.mul_le_mul_left _ (by omega)
      refine ⟨by omega, ?_⟩
      refine LP6_rule (fun (w2 w4 w5 w6 w7 : Int) (μ3 : Mem) => w2 = (s : Int) ∧ w4 = 2 * (i : Int) ∧ w5 = (m : Int) ∧ w6 = (pkF (cS C) i m : Int) ∧ oG μ μ3 ∧ (μ3.1 70 = μ1.1 70) ∧ ∃ d : Nat, w7 = (d : Int) ∧ d ≤ s ∧ (∀ w, w < m → μ3.1 71 w = (pkF (cS C) i w : Int)) ∧ (∀ x, m * s ≤ x → x < m * s + d → μ3.1 71 x = (pkF (cS C) (i + 1) x : Int)) ∧ ∀ x, (m + 1) * s ≤ x → x < W * s → μ3.1 71 x = (pkF (cS C) (i + 1) x : Int)) (fun _ _ _ _ w7 _ => ((s : Int) - w7).toNat) ?_ ⟨rfl, rfl, rfl, rfl, ho2, h70, 0, rfl, Nat.zero_le _, fun w hw => hlow w (by omega), fun x a b => absurd b (by omega), hhigh⟩
      rintro X6 w2 w4 w5 w6 w7 μ3 ⟨rfl, rfl, rfl, rfl, ho3, h703, d, rfl, hd, hl3, hm3, hh3⟩ hX6
      refine ⟨fun c2 => ⟨inR_i (by omega) (by omega), hX _ _ _ _ ⟨rfl, rfl, ho3, h703, m, by omega, by omega, hl3, fun x a b => ?_⟩ (by omega)⟩, fun c2 => ?_⟩
      · by_cases e : (m + 1) * s ≤ x
        · exact hh3 x e b
        · exact hm3 x a (by omega)
      · rw [← Int.natCast_mul, show ((m * s : Nat) : Int) + (d : Int) = ((m * s + d : Nat) : Int) by omega, Int.toNat_natCast, ishl_k i (by omega) d (by omega)]
        have hpm := pk m
        have hdm : d * 4 ^ i ≤ 3 * 65536 := Nat.mul_le_mul (by omega) p2
        rw [ior_n (by omega) (by omega), or_add (by omega) hpm]
        refine ⟨by omega, fun μ14 e14 => ⟨inR_i (by omega) (by omega), hX6 _ _ _ _ _ _ ⟨rfl, rfl, rfl, rfl, by rw [e14]; exact ho3.I (by omega), by rw [e14, sI_ne (by omega)]; exact h703, d + 1, rfl, by omega, fun w hw => by rw [e14, sI_nj (by omega)]; exact hl3 w hw, fun x a b => ?_, fun x a b => by rw [e14, sI_nj (by omega)]; exact hh3 x a b⟩ (by omega)⟩⟩
        by_cases e : x = m * s + d
        · obtain ⟨r1, r2⟩ := mul_div_mod (a := m) (show d < s by omega)
          rw [e, e14, sI_s]
          show _ = ((pkF (cS C) i ((m * s + d) / cS C i) + (m * s + d) % cS C i * 4 ^ i : Nat) : Int)
          rw [hse, r1, r2]
        · rw [e14, sI_nj e]; exact hm3 x a (by omega)
  have second : ∀ μ1 : Mem, oG μ μ1 → μ1.1 70 0 = (wdF (cS C) i : Int) → μ1.1 70 1 = (bmF (odB C) (i + 1) : Int) → μ1.1 70 2 = (bmF (hvB C) i : Int) → (∀ w, w < wdF (cS C) i → μ1.1 71 w = (pkF (cS C) i w : Int)) → wp_X3_layPlace_24 Q (cS C i) (cT C i) (2 * (i : Int)) μ1 := by
    intro μ1 ho1 g0 g1 g2 gp
    unfold wp_X3_layPlace_24
    rw [t2, g2, one]
    have eb : bmF (hvB C) (i + 1) = bmF (hvB C) i + (if hvB C i then 4 ^ i else 0) := rfl
    refine ⟨fun c => words μ1 ho1 g0 g1 ?_ gp, fun c => fun μ16 e16 => words μ16 (by rw [e16]; exact ho1.I (by omega)) (by rw [e16, sI_nj (by omega)]; exact g0) (by rw [e16, sI_nj (by omega)]; exact g1) ?_ (fun w hw => by rw [e16, sI_ne (by omega)]; exact gp w hw)⟩
    · rw [g2, eb, show hvB C i = false from decide_eq_false (by omega)]; rfl
    · rw [e16, sI_s, ior_n (by omega) (by omega), or_add (by omega) bh, eb, show hvB C i = true from decide_eq_true (by omega), if_pos rfl, Nat.one_mul]
  refine ⟨inR_i (by omega) (by omega), fun x1 e1 => ?_⟩
  subst e1
  rw [t1, hg.2.1, one]
  have eb : bmF (odB C) (i + 1) = bmF (odB C) i + (if odB C i then 4 ^ i else 0) := rfl
  refine ⟨fun c => second μ oG.rf hg.1 ?_ hg.2.2.1 hg.2.2.2, fun c => fun μ17 e17 => second μ17 (by rw [e17]; exact oG.rf.I (by omega)) (by rw [e17, sI_nj (by omega)]; exact hg.1) ?_ (by rw [e17, sI_nj (by omega)]; exact hg.2.2.1) (fun w hw => by rw [e17, sI_ne (by omega)]; exact hg.2.2.2 w hw)⟩
  · rw [hg.2.1, eb, show odB C i = false from decide_eq_false (by omega)]; rfl
  · rw [e17, sI_s, ior_n (by omega) (by omega), or_add (by omega) bo, eb, show odB C i = true from decide_eq_true (by omega), if_pos rfl, Nat.one_mul]
end CC

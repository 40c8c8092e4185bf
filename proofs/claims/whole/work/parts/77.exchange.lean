/-! ===== the class: better ===== -/
theorem bt2_and (a b c d : Int64) (x : Nat) : bt2 (a &&& c) (b &&& d) x = (bt2 a b x && bt2 c d x) := by
  unfold bt2
  split
  · exact bt_and _ _ _
  · exact bt_and _ _ _
theorem bt2_not {a b : Int64} {x : Nat} (h : x < 128) : bt2 (a ^^^ -1) (b ^^^ -1) x = !bt2 a b x := by
  unfold bt2
  by_cases c : x < 64
  · rw [if_pos c, if_pos c, bt_xor, bt_m1 c, Bool.xor_true]
  · rw [if_neg c, if_neg c, bt_xor, bt_m1 (by omega), Bool.xor_true]
theorem blS.sp {μ : Mem} {k r : Nat} {D C : Cd} (h : blS μ k C r) (hs : sp D C) : blS μ k D r := by
  have hb : blF D r = blF C r := by
    unfold blF
    rw [hs.W]
    exact ctF_cong fun v _ => by rw [hs.F]
  unfold blS bwF at *
  rw [hs.W, hb]
  refine ⟨h.1, h.2.1, fun w hw x hx => ?_⟩
  rw [hs.F]
  exact h.2.2 w hw x hx
/-- nothing but the exchange's own has moved -/
def oX (μ μ' : Mem) : Prop := ∀ q, q ≠ 79 → μ'.1 q = μ.1 q ∧ μ'.2 q = μ.2 q
theorem oX.rf {μ : Mem} : oX μ μ := fun _ _ => ⟨rfl, rfl⟩
theorem oX.tr {μ μ' μ'' : Mem} (h : oX μ μ') (h2 : oX μ' μ'') : oX μ μ'' := fun q a => ⟨(h2 q a).1.trans (h q a).1, (h2 q a).2.trans (h q a).2⟩
theorem oX.I {μ μ' : Mem} {j : Nat} {v : Int} (h : oX μ μ') : oX μ (sI μ' 79 j v) := h.tr fun q a => ⟨sI_ne a, rfl⟩
theorem oX.L {μ μ' : Mem} {j : Nat} {v : Int64} (h : oX μ μ') : oX μ (sL μ' 79 j v) := h.tr fun q a => ⟨rfl, sL_ne a⟩
theorem crep.X {μ μ' : Mem} {k : Nat} {C : Cd} (h : crep μ k C) (ho : oX μ μ') (hk : k + 4 ≤ 79 ∨ 80 ≤ k) : crep μ' k C := by
  unfold crep at *
  rw [(ho k (by omega)).1, (ho (k + 1) (by omega)).1, (ho (k + 2) (by omega)).1, (ho (k + 3) (by omega)).2]
  exact h
theorem blS.X {μ μ' : Mem} {C : Cd} {r : Nat} (h : blS μ 80 C r) (ho : oX μ μ') : blS μ' 80 C r := by
  unfold blS at *
  rw [(ho 80 (by omega)).1, (ho 81 (by omega)).2, (ho 82 (by omega)).2]
  exact h
/-- holes, and what one codeword alone covers -/
def soS (μ : Mem) (C : Cd) (r : Nat) : Prop := ∀ x, x < 128 → bt2 (μ.2 79 1) (μ.2 79 2) x = (decide (x < cW C) && decide (tmF C r x = 0)) ∧ bt2 (μ.2 79 3) (μ.2 79 4) x = (decide (x < cW C) && decide (tmF C r x = 1))
section CX
variable {μ : Mem} {C : Cd}
theorem s0_lowA {k W : Nat} {R : Int64 → Mem → Prop} (hk : μ.1 k 0 = (W : Int)) (hq : ∀ y, (∀ j, j < 64 → bt y j = decide (j < W)) → R y μ) : wp_X0_lowAll k μ R := by
  unfold wp_X0_lowAll
  rw [hk]
  exact ⟨fun c => hq _ (fun j hj => bt_pre (by omega) j), fun c => hq _ (fun j hj => by rw [bt_m1 hj, decide_eq_true (by omega)])⟩
theorem s0_highA {k W : Nat} {R : Int64 → Mem → Prop} (hk : μ.1 k 0 = (W : Int)) (hW : W ≤ 81) (hq : ∀ z, (∀ j, j < 64 → bt z j = decide (j + 64 < W)) → R z μ) : wp_X0_highAll k μ R := by
  unfold wp_X0_highAll
  rw [hk]
  refine ⟨fun c => hq 0 (fun j hj => by rw [bt_0, decide_eq_false (by omega)]), fun c => ?_⟩
  rw [show (W : Int) - 64 = ((W - 64 : Nat) : Int) by omega]
  exact hq _ (fun j hj => by rw [bt_pre (by omega)]; exact decide_eq_decide.mpr (by omega))
theorem s2_sortWords {p r : Nat} {R : Mem → Prop} (hp : crep μ p C) (hC : okC C) (h81 : cW C ≤ 81) (hk : p + 4 ≤ 79 ∨ 83 ≤ p) (hb : blS μ 80 C r) (hq : ∀ μ', oX μ μ' → soS μ' C r → R μ') : wp_X2_sortWords p μ R := by
  refine LP7_rule (fun (v1 : Nat) (v2 v4 v6 v8 : Int64) (v10 : Int) (μ2 : Mem) => v1 = p ∧ μ2 = μ ∧ ∃ i : Nat, v10 = (i : Int) ∧ i ≤ cW C ∧ ∀ x, x < 128 → bt2 v2 v4 x = (decide (x < cW C) && decide (1 ≤ ctF (fun v => cM C v && decide (cF C x v ≤ r)) i)) ∧ bt2 v6 v8 x = (decide (x < cW C) && decide (2 ≤ ctF (fun v => cM C v && decide (cF C x v ≤ r)) i))) (fun _ _ _ _ _ v10 _ => ((cW C : Int) - v10).toNat) ?_ ⟨rfl, rfl, 0, rfl, Nat.zero_le _, fun x hx => by
    have e : bt2 0 0 x = false := by unfold bt2; rw [bt_0, bt_0]; split <;> rfl
    rw [e]
    exact ⟨by rw [decide_eq_false (show ¬ 1 ≤ ctF (fun v => cM C v && decide (cF C x v ≤ r)) 0 from fun q => by cases q), Bool.and_false], by rw [decide_eq_false (show ¬ 2 ≤ ctF (fun v => cM C v && decide (cF C x v ≤ r)) 0 from fun q => by cases q), Bool.and_false]⟩⟩
  rintro X v1 v2 v4 v6 v8 v10 μ2 ⟨rfl, rfl, i, rfl, hi, hs⟩ hX
  unfold wp_X2_sortWords_14
  rw [hb.1]
  refine ⟨fun c => s0_lowA hb.1 (fun y hy μ4 e4 => s0_highA (by rw [e4]; exact hb.1) h81 (fun z hz μ7 e7 μ8 e8 μ9 e9 => ?_)), fun c => s1_holds hp hC ⟨fun c2 => ⟨inR_i (by omega) (by omega), hX _ _ _ _ _ _ _ ⟨rfl, rfl, i + 1, rfl, by omega, fun x hx => ?_⟩ (by omega)⟩, fun c2 => ⟨by omega, fun y15 e15 y16 e16 y17 e17 y18 e18 => ⟨inR_i (by omega) (by omega), hX _ _ _ _ _ _ _ ⟨rfl, rfl, i + 1, rfl, by omega, fun x hx => ?_⟩ (by omega)⟩⟩⟩⟩
  · have e : i = cW C := by omega
    subst e
    have o9 : oX μ2 μ9 := by rw [e9, e8, e7, e4]; exact (((oX.rf.L).L).L).L
    refine hq μ9 o9 (fun x hx => ?_)
    have hall : bt2 y z x = decide (x < cW C) := by
      unfold bt2
      by_cases c6 : x < 64
      · rw [if_pos c6, hy x c6]
      · rw [if_neg c6, hz _ (by omega)]; exact decide_eq_decide.mpr (by omega)
    have l1 : μ9.2 79 1 = y &&& (v2 ^^^ -1) := by rw [e9, sL_nj (by omega), e8, sL_nj (by omega), e7, sL_nj (by omega), e4, sL_s]
    have l2 : μ9.2 79 2 = z &&& (v4 ^^^ -1) := by rw [e9, sL_nj (by omega), e8, sL_nj (by omega), e7, sL_s]
    have l3 : μ9.2 79 3 = v2 &&& (v6 ^^^ -1) := by rw [e9, sL_nj (by omega), e8, sL_s]
    have l4 : μ9.2 79 4 = v4 &&& (v8 ^^^ -1) := by rw [e9, sL_s]
    obtain ⟨s1, s2⟩ := hs x hx
    have et : ctF (fun v => cM C v && decide (cF C x v ≤ r)) (cW C) = tmF C r x := rfl
    rw [et] at s1 s2
    rw [l1, l2, l3, l4, bt2_and, bt2_not hx, hall, s1, bt2_and, bt2_not hx, s1, s2]
    by_cases cx : x < cW C
    · rw [decide_eq_true cx]
      simp only [Bool.true_and]
      constructor
      · rw [← decide_not]; exact decide_eq_decide.mpr (by omega)
      · rw [← decide_not, ← Bool.decide_and]; exact decide_eq_decide.mpr (by omega)
    · rw [decide_eq_false cx]; exact ⟨rfl, rfl⟩
  · obtain ⟨s1, s2⟩ := hs x hx
    rw [ct0 (by rw [bI_0.mp c2, Bool.false_and])]
    exact ⟨s1, s2⟩
  · rw [Int.toNat_natCast] at e15 e16 e17 e18
    obtain ⟨s1, s2⟩ := hs x hx
    have hbi : bt2 (μ2.2 81 i) (μ2.2 82 i) x = bwF C r i x := hb.2.2 i (by omega) x hx
    rw [e15, e16, e17, e18, bt2_or, bt2_or, bt2_and, s1, s2, hbi]
    unfold bwF
    rw [cF_symm C i x]
    by_cases cx : x < cW C
    · rw [decide_eq_true cx]
      simp only [Bool.true_and]
      by_cases cf : cF C x i ≤ r
      · rw [ct1 (by rw [bI_n0.mp c2, decide_eq_true cf, Bool.and_true]), decide_eq_true cf]
        constructor
        · rw [Bool.or_true]; exact (decide_eq_true (by omega)).symm
        · rw [Bool.and_true, ← Bool.decide_or]; exact decide_eq_decide.mpr (by omega)
      · rw [ct0 (by rw [decide_eq_false cf, Bool.and_false]), decide_eq_false cf]
        constructor
        · rw [Bool.or_false]
        · rw [Bool.and_false, Bool.or_false]
    · rw [decide_eq_false cx]; exact ⟨rfl, rfl⟩
/-- the best found so far -/
def exS (μ : Mem) (s : Ex) : Prop := μ.1 79 5 = (s.1 : Int) ∧ match s.2 with
  | none => μ.1 79 6 = -1 ∧ μ.1 79 7 = -1
  | some (x, y) => μ.1 79 6 = (x : Int) ∧ μ.1 79 7 = (y : Int)
/-- nothing but the best has moved -/
def oY (μ μ' : Mem) : Prop := oX μ μ' ∧ μ'.2 = μ.2
theorem soS.Y {μ μ' : Mem} {C : Cd} {r : Nat} (h : soS μ C r) (ho : oY μ μ') : soS μ' C r := by
  unfold soS at *
  rw [ho.2]
  exact h
theorem tm_pos {C : Cd} {r a x : Nat} (ha : a < cW C) (hm : cM C a = true) (hc : cF C a x ≤ r) : 1 ≤ tmF C r x := ctF_pos.mpr ⟨a, ha, by rw [hm, cF_symm, decide_eq_true hc]; rfl⟩
theorem xc_ct {C : Cd} {r a b : Nat} {u v : Int64} (h81 : cW C ≤ 81) (ha : a < cW C) (hm : cM C a = true) (hx : ∀ x, x < 128 → bt2 u v x = (decide (x < cW C) && (decide (tmF C r x = 0) || (decide (tmF C r x = 1) && decide (cF C a x ≤ r))) && !bwF C r b x)) : ctF (bt2 u v) 128 = xcF C r a b := by
  rw [ctF_none (m := cW C) (by omega) (fun x h1 h2 => by rw [hx x h2, decide_eq_false (by omega)]; rfl)]
  unfold xcF
  refine ctF_cong fun x hxW => ?_
  rw [hx x (by omega), decide_eq_true hxW]
  unfold exB bwF
  rw [decide_eq_true hxW]
  simp only [Bool.true_and]
  by_cases cb : cF C b x ≤ r
  · rw [decide_eq_true cb, if_pos cb, Bool.not_true, Bool.and_false]
    symm
    refine decide_eq_false (fun q => ?_)
    by_cases ca : cF C a x ≤ r
    · have := tm_pos ha hm ca
      rw [if_pos ca] at q; omega
    · rw [if_neg ca] at q; omega
  · rw [decide_eq_false cb, if_neg cb, Bool.not_false, Bool.and_true, Nat.add_zero]
    by_cases ca : cF C a x ≤ r
    · have := tm_pos ha hm ca
      rw [decide_eq_true ca, if_pos ca, Bool.and_true, ← Bool.decide_or]
      exact decide_eq_decide.mpr (by omega)
    · rw [decide_eq_false ca, if_neg ca, Bool.and_false, Bool.or_false]
theorem s2_tryWithout {p r a : Nat} {s : Ex} {R : Mem → Prop} (hp : crep μ p C) (hC : okC C) (h81 : cW C ≤ 81) (hk : p + 4 ≤ 79 ∨ 83 ≤ p) (hb : blS μ 80 C r) (hso : soS μ C r) (ha : a < cW C) (hm : cM C a = true) (he : exS μ s)
    (hq : ∀ μ', oY μ μ' → exS μ' (biF C r a s (cW C)) → R μ') : wp_X2_tryWithout p a μ R := by
  refine ⟨by omega, fun y2 e2 y3 e3 => ?_⟩
  rw [Int.toNat_natCast] at e2 e3
  have hlow : ∀ x, x < 128 → bt2 y2 y3 x = (decide (x < cW C) && (decide (tmF C r x = 0) || (decide (tmF C r x = 1) && decide (cF C a x ≤ r)))) := fun x hx => by
    have hba : bt2 (μ.2 81 a) (μ.2 82 a) x = bwF C r a x := hb.2.2 a ha x hx
    rw [e2, e3, bt2_or, bt2_and, (hso x hx).1, (hso x hx).2, hba]
    unfold bwF
    by_cases cx : x < cW C
    · rw [decide_eq_true cx]; simp only [Bool.true_and]
    · rw [decide_eq_false cx]; rfl
  refine LP6_rule (fun (v1 : Nat) (v2 : Int) (v3 v5 : Int64) (v7 : Int) (μ2 : Mem) => v1 = p ∧ v2 = (a : Int) ∧ v3 = y2 ∧ v5 = y3 ∧ oY μ μ2 ∧ ∃ i : Nat, v7 = (i : Int) ∧ i ≤ cW C ∧ exS μ2 (biF C r a s i)) (fun _ _ _ _ v7 _ => ((cW C : Int) - v7).toNat) ?_ ⟨rfl, rfl, rfl, rfl, ⟨oX.rf, rfl⟩, 0, rfl, Nat.zero_le _, he⟩
  rintro X v1 v2 v3 v5 v7 μ2 ⟨rfl, rfl, rfl, rfl, o2, i, rfl, hi, hs⟩ hX
  have hp2 := hp.X o2.1 (by omega)
  have hb2 := hb.X o2.1
  have hst : biF C r a s (i + 1) = if cM C a = true ∧ cM C i = false ∧ xcF C r a i < (biF C r a s i).1 then (xcF C r a i, some (a, i)) else biF C r a s i := rfl
  unfold wp_X2_tryWithout_44
  rw [hb2.1, Int.toNat_natCast]
  refine ⟨fun c => ?_, fun c => s1_holds hp2 hC ⟨fun c2 => ⟨inR_i (by omega) (by omega), hX _ _ _ _ _ _ ⟨rfl, rfl, rfl, rfl, o2, i + 1, rfl, by omega, ?_⟩ (by omega)⟩, fun c2 => ⟨by omega, s0_countOf ?_⟩⟩⟩
  · have e : i = cW C := by omega
    subst e
    exact hq μ2 o2 hs
  · rw [hst, if_neg (fun q => by rw [bI_n0.mp c2] at q; exact absurd q.2.1 (by decide))]; exact hs
  · have hct := xc_ct (C := C) (r := r) (a := a) (b := i) (u := v3 &&& (μ2.2 81 i ^^^ -1)) (v := v5 &&& (μ2.2 82 i ^^^ -1)) h81 ha hm (fun x hx => by
      have hbi : bt2 (μ2.2 81 i) (μ2.2 82 i) x = bwF C r i x := hb2.2.2 i (by omega) x hx
      rw [bt2_and, bt2_not hx, hlow x hx, hbi])
    rw [hct, hs.1]
    refine ⟨fun c3 => ⟨inR_i (by omega) (by omega), hX _ _ _ _ _ _ ⟨rfl, rfl, rfl, rfl, o2, i + 1, rfl, by omega, ?_⟩ (by omega)⟩, fun c3 μ14 e14 μ15 e15 μ16 e16 => ⟨inR_i (by omega) (by omega), hX _ _ _ _ _ _ ⟨rfl, rfl, rfl, rfl, ⟨by rw [e16, e15, e14]; exact ((o2.1.I).I).I, by rw [e16, e15, e14]; exact o2.2⟩, i + 1, rfl, by omega, ?_⟩ (by omega)⟩⟩
    · rw [hst, if_neg (fun q => by have := q.2.2; omega)]; exact hs
    · rw [hst, if_pos ⟨hm, bI_0.mp c2, by omega⟩]
      exact ⟨by rw [e16, sI_nj (by omega), e15, sI_nj (by omega), e14, sI_s], by rw [e16, sI_nj (by omega), e15, sI_s], by rw [e16, sI_s]⟩
theorem s2_findBest {p r : Nat} {R : Mem → Prop} (hp : crep μ p C) (hC : okC C) (h81 : cW C ≤ 81) (hk : p + 4 ≤ 79 ∨ 83 ≤ p) (hb : blS μ 80 C r) (hq : ∀ μ', oX μ μ' → exS μ' (boF C r (cW C)) → R μ') : wp_X2_findBest p μ R := by
  refine s2_sortWords hp hC h81 hk hb (fun μ1 o1 s1 μ2 e2 μ3 e3 => s0_countOf (fun μ6 e6 => ?_))
  have o6 : oX μ μ6 := by rw [e6, e3, e2]; exact ((o1.I).I).I
  have s6 : soS μ6 C r := s1.Y ⟨by rw [e6, e3, e2]; exact ((oX.rf.I).I).I, by rw [e6, e3, e2]; rfl⟩
  have hct : ctF (bt2 (μ3.2 79 1) (μ3.2 79 2)) 128 = hlF C r := by
    have s3 : soS μ3 C r := s1.Y ⟨by rw [e3, e2]; exact (oX.rf.I).I, by rw [e3, e2]; rfl⟩
    rw [ctF_none (m := cW C) (by omega) (fun x h1 h2 => by rw [(s3 x h2).1, decide_eq_false (by omega), Bool.false_and])]
    unfold hlF
    refine ctF_cong fun x hx => ?_
    rw [(s3 x (by omega)).1, decide_eq_true hx, Bool.true_and]
  have x6 : exS μ6 (boF C r 0) := ⟨by rw [e6, sI_s, hct]; rfl, by rw [e6, sI_nj (by omega), e3, sI_nj (by omega), e2, sI_s], by rw [e6, sI_nj (by omega), e3, sI_s]⟩
  refine LP3_rule (fun (v1 : Nat) (v2 : Int) (μ7 : Mem) => v1 = p ∧ oX μ μ7 ∧ soS μ7 C r ∧ ∃ i : Nat, v2 = (i : Int) ∧ i ≤ cW C ∧ exS μ7 (boF C r i)) (fun _ v2 _ => ((cW C : Int) - v2).toNat) ?_ ⟨rfl, o6, s6, 0, rfl, Nat.zero_le _, x6⟩
  rintro X v1 v2 μ7 ⟨rfl, o7, s7, i, rfl, hi, h7⟩ hX
  have hp7 := hp.X o7 (by omega)
  have hb7 := hb.X o7
  have hst : boF C r (i + 1) = biF C r i (boF C r i) (cW C) := rfl
  unfold wp_X2_findBest_32
  rw [hb7.1]
  refine ⟨fun c => ?_, fun c => s1_holds hp7 hC ⟨fun c2 => ⟨inR_i (by omega) (by omega), hX _ _ _ ⟨rfl, o7, s7, i + 1, rfl, by omega, ?_⟩ (by omega)⟩, fun c2 => s2_tryWithout hp7 hC h81 (by omega) hb7 s7 (by omega) (bI_n0.mp c2) h7 (fun μ8 o8 x8 => ⟨inR_i (by omega) (by omega), hX _ _ _ ⟨rfl, o7.tr o8.1, s7.Y o8, i + 1, rfl, by omega, x8⟩ (by omega)⟩)⟩⟩
  · have e : i = cW C := by omega
    subst e
    exact hq μ7 o7 h7
  · have hno : ∀ n, biF C r i (boF C r i) n = boF C r i := by
      intro n
      induction n with
      | zero => rfl
      | succ n ih =>
        show (if cM C i = true ∧ cM C n = false ∧ xcF C r i n < (biF C r i (boF C r i) n).1 then (xcF C r i n, some (i, n)) else biF C r i (boF C r i) n) = _
        rw [if_neg (fun q => by rw [bI_0.mp c2] at q; exact absurd q.1 (by decide)), ih]
    rw [hst, hno]; exact h7
/-- nothing but the code in p and the exchange has moved -/
def oZ (p : Nat) (μ μ' : Mem) : Prop := ∀ q, (q < p ∨ p + 4 ≤ q) → (q < 79 ∨ 83 ≤ q) → μ'.1 q = μ.1 q ∧ μ'.2 q = μ.2 q
theorem oZ.tr {p : Nat} {μ μ' μ'' : Mem} (h : oZ p μ μ') (h2 : oZ p μ' μ'') : oZ p μ μ'' := fun q a b => ⟨(h2 q a b).1.trans (h q a b).1, (h2 q a b).2.trans (h q a b).2⟩
theorem oX.Z {p : Nat} {μ μ' : Mem} (h : oX μ μ') : oZ p μ μ' := fun q _ b => h q (by omega)
theorem oB.Z {p : Nat} {μ μ' : Mem} (h : oB 80 μ μ') : oZ p μ μ' := fun q _ b => h q (by omega)
theorem oC.Z {p : Nat} {μ μ' : Mem} (h : oC p μ μ') : oZ p μ μ' := fun q a _ => h q a
theorem oZ.kf {μ μ' : Mem} (h : oZ 23 μ μ') : kf μ μ' := ⟨fun q a b => h q (by omega) (by omega), fun j _ _ => by rw [(h 0 (by omega) (by omega)).1], (h 0 (by omega) (by omega)).2⟩
theorem blS.oc {μ μ' : Mem} {C : Cd} {r p : Nat} (h : blS μ 80 C r) (ho : oC p μ μ') (hk : p + 4 ≤ 79 ∨ 83 ≤ p) : blS μ' 80 C r := by
  unfold blS at *
  rw [(ho 80 (by omega)).1, (ho 81 (by omega)).2, (ho 82 (by omega)).2]
  exact h
theorem btF_s (r k : Nat) (C : Cd) (n : Nat) : btF r (k + 1) C n = match (boF C r (cW C)).2 with
    | none => (C, n)
    | some (a, b) => btF r k (setM (setM C a false) b true) (n + 1) := rfl
theorem s2_run {p r : Nat} {Q : Int → Mem → Prop} (hp : crep μ p C) (hg : grS μ C (cN C)) (hC : okC C) (h0 : 0 < cN C) (h81 : cW C ≤ 81) (hk : p + 4 ≤ 70 ∨ 83 ≤ p) (hq : ∀ μ', oZ p μ μ' → crep μ' p (btF r 99 C 0).1 → okC (btF r 99 C 0).1 → Q ((btF r 99 C 0).2 : Nat) μ') : wp_X2_run p r μ Q := by
  generalize hR : btF r 99 C 0 = R at hq
  refine s0_lay hg hC h81 (by omega) (fun μ1 o1 b1 => ?_)
  have p1 : crep μ1 p C := by
    unfold crep at *
    rw [(o1 p (by omega)).1, (o1 (p + 1) (by omega)).1, (o1 (p + 2) (by omega)).1, (o1 (p + 3) (by omega)).2]
    exact hp
  refine LP3_rule (fun (v1 : Nat) (v4 : Int) (μ2 : Mem) => v1 = p ∧ oZ p μ μ2 ∧ ∃ (n : Nat) (D : Cd), v4 = (n : Int) ∧ n ≤ 99 ∧ crep μ2 p D ∧ okC D ∧ sp D C ∧ blS μ2 80 D r ∧ R = btF r (99 - n) D n) (fun _ v4 _ => (99 - v4).toNat) ?_ ⟨rfl, o1.Z, 0, C, rfl, by omega, p1, hC, sp.rf, b1, hR.symm⟩
  rintro X v1 v4 μ2 ⟨rfl, o2, n, D, rfl, hn, hp2, hD, hsp, hb2, hRR⟩ hX
  have hW := hsp.W
  refine ⟨fun c => ?_, fun c => s2_findBest hp2 hD (by omega) (by omega) hb2 (fun μ3 o3 x3 => ?_)⟩
  · have e : n = 99 := by omega
    subst e
    have e9 : R = (D, 99) := hRR
    have := hq μ2 o2
    rw [e9] at this
    exact this hp2 hD
  · have hst := btF_s r (98 - n) D n
    rw [show 98 - n + 1 = 99 - n by omega] at hst
    rw [hst] at hRR
    have hp3 := hp2.X o3 (by omega)
    have hb3 := hb2.X o3
    have hx := x3.2
    cases hB : (boF D r (cW D)).2 with
    | none =>
      rw [hB] at hx hRR
      refine ⟨fun q => absurd hx.1 q, fun _ => ?_⟩
      have := hq μ3 (o2.tr o3.Z)
      rw [hRR] at this
      exact this hp3 hD
    | some xy =>
      obtain ⟨x, y⟩ := xy
      rw [hB] at hx hRR
      obtain ⟨hlx, hly⟩ := boF_lt (C := D) (r := r) (Nat.le_refl _) x y hB
      have hx6 : μ3.1 79 6 = (x : Int) := hx.1
      have hx7 : μ3.1 79 7 = (y : Int) := hx.2
      rw [hx6]
      refine ⟨fun _ => s1_drop hp3 hD hlx (fun μ5 o5 p5 => ?_), fun q => absurd q (by omega)⟩
      have hD5 := okC_setM hD hlx (by rw [hsp.1]; exact h0) false
      rw [(o5 79 (by omega)).1, hx7]
      refine s1_put p5 hD5 hly (fun μ6 o6 p6 => ⟨inR_i (by omega) (by omega), hX _ _ _ ⟨rfl, (o2.tr o3.Z).tr (o5.Z.tr o6.Z), n + 1, setM (setM D x false) y true, rfl, by omega, p6, okC_setM hD5 hly (by rw [cN_setM, hsp.1]; exact h0) true, hsp, blS.sp (C := D) ((hb3.oc o5 (by omega)).oc o6 (by omega)) sp.rf, ?_⟩ (by omega)⟩)
      rw [show 99 - (n + 1) = 98 - n by omega]
      exact hRR
end CX
section KZ
variable {μ : Mem} {cs : Nat → Cd} {hs : List (Nat → Cd)} {Q : Int → Mem → Prop} {c r : Int}
theorem s7_better (hR : krs μ cs) (hH : khs μ cs hs) (HQ : KA Q μ (a_better cs hs c r)) : wp_X7_better c r μ Q := by
  have hS : ks μ μ cs hs := ⟨kf.rf, hR, hH⟩
  refine f7_K hR (fun n => A1 (a7_no HQ hS (if_neg n))) (fun y n => A2 (a7_no HQ hS ((if_pos y).trans (if_neg n)))) (fun y y2 => A0 ⟨⟨y.1, y.2.1⟩, ?_⟩)
  have hq : a_better cs hs c r = _ := (if_pos y).trans (if_pos y2)
  obtain ⟨n, rfl, hn, h0⟩ := y.nat
  obtain ⟨m, rfl, hm⟩ := y2.nat
  simp only [Int.toNat_natCast] at hq ⊢
  have hC := (hR n hn).2
  rw [(hR n hn).1.2.2.1]
  refine ⟨fun q3 => ?_, fun q3 => a7_no HQ hS (hq.trans (if_neg (by omega)))⟩
  rw [if_pos (by omega)] at hq
  refine s1_copy (hR n hn).1 hC.1 (by omega) (fun μ1 o1 p1 => s3_lay p1 hC (by omega) fun μ2 o2 g2 => s2_run (p1.G o2 (by omega)) g2 hC h0 (by omega) (by omega) (fun μ3 o3 p3 hC3 => ?_))
  have hS3 := ((hS.f o1.kf).f o2.k.kf).f o3.kf
  exact s7_act hn hS3.2.1 hS3.2.2 hS3.1 p3 hC3 HQ (hq.trans (by unfold a_new; rw [Int.toNat_natCast]))
end KZ

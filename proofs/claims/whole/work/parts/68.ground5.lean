/-! the class: radius, least apart, pairs -/
theorem amO_none {q : Nat → Bool} {f : Nat → Nat} : ∀ {n : Nat}, amO q f n = none → ∀ k, k < n → q k = false
  | 0, _, k, hk => absurd hk (Nat.not_lt_zero k)
  | n + 1, h, k, hk => by
    have h : (match amO q f n with | none => if q n then some n else none | some b => if q n = true ∧ f n < f b then some n else some b) = none := h
    cases e : amO q f n with
    | none =>
      rw [e] at h
      have h : (if q n then some n else none) = none := h
      by_cases hq : q n = true
      · rw [if_pos hq] at h; cases h
      · by_cases ek : k = n
        · rw [ek]; exact Bool.eq_false_iff.mpr hq
        · exact amO_none e k (by omega)
    | some b =>
      rw [e] at h
      have h : (if q n = true ∧ f n < f b then some n else some b) = none := h
      split at h <;> cases h
theorem amO_some {q : Nat → Bool} {f : Nat → Nat} : ∀ {n b : Nat}, amO q f n = some b → b < n ∧ q b = true ∧ ∀ k, k < n → q k = true → f b ≤ f k
  | 0, _, h => by cases h
  | n + 1, b, h => by
    have h : (match amO q f n with | none => if q n then some n else none | some b => if q n = true ∧ f n < f b then some n else some b) = some b := h
    cases e : amO q f n with
    | none =>
      rw [e] at h
      have h : (if q n then some n else none) = some b := h
      have hn := amO_none e
      by_cases hq : q n = true
      · rw [if_pos hq] at h
        obtain rfl : n = b := Option.some.inj h
        refine ⟨by omega, hq, fun k hk hqk => ?_⟩
        by_cases ek : k = n
        · rw [ek]; exact Nat.le_refl _
        · rw [hn k (by omega)] at hqk; cases hqk
      · rw [if_neg hq] at h; cases h
    | some a =>
      rw [e] at h
      have h : (if q n = true ∧ f n < f a then some n else some a) = some b := h
      obtain ⟨i1, i2, i3⟩ := amO_some e
      by_cases hq : q n = true ∧ f n < f a
      · rw [if_pos hq] at h
        obtain rfl : n = b := Option.some.inj h
        refine ⟨by omega, hq.1, fun k hk hqk => ?_⟩
        by_cases ek : k = n
        · rw [ek]; exact Nat.le_refl _
        · have := i3 k (by omega) hqk; omega
      · rw [if_neg hq] at h
        obtain rfl : a = b := Option.some.inj h
        refine ⟨by omega, i2, fun k hk hqk => ?_⟩
        by_cases ek : k = n
        · rw [ek]
          rw [ek] at hqk
          apply Classical.byContradiction
          intro hh
          exact hq ⟨hqk, by omega⟩
        · exact i3 k (by omega) hqk
theorem mxF_iff {f : Nat → Nat} {r : Nat} : ∀ {n : Nat}, mxF (fun _ => true) f n ≤ r ↔ ∀ k, k < n → f k ≤ r
  | 0 => ⟨fun _ k hk => absurd hk (Nat.not_lt_zero k), fun _ => Nat.zero_le _⟩
  | n + 1 => by
    have ih := mxF_iff (f := f) (r := r) (n := n)
    show (if true = true ∧ mxF (fun _ => true) f n < f n then f n else mxF (fun _ => true) f n) ≤ r ↔ _
    constructor
    · intro h k hk
      have : mxF (fun _ => true) f n ≤ r ∧ f n ≤ r := by split at h <;> rename_i e <;> simp only [true_and] at e <;> omega
      by_cases ek : k = n
      · rw [ek]; exact this.2
      · exact ih.mp this.1 k (by omega)
    · intro h
      have h1 := ih.mpr fun k hk => h k (by omega)
      have h2 := h n (by omega)
      split <;> omega
theorem lsF_least {P : Nat → Bool} {m : Nat} (h : ∀ r, P r = decide (m ≤ r)) : ∀ (n r : Nat), r ≤ m → m ≤ r + n → lsF P n r = m
  | 0, r, h1, h2 => by show r = m; omega
  | n + 1, r, h1, h2 => by
    show (if P r then r else lsF P n (r + 1)) = m
    rw [h r]
    by_cases e : m ≤ r
    · rw [decide_eq_true e, if_pos rfl]; omega
    · rw [decide_eq_false e, if_neg (by decide)]
      exact lsF_least h n (r + 1) (by omega) (by omega)
/-- the nearest codeword, or 0 -/
def nrF (C : Cd) (w : Nat) : Nat := (amO (cM C) (fun v => cF C w v) (cW C)).getD 0
theorem nrF_lt {C : Cd} (hC : okC C) (w : Nat) : nrF C w < cW C := by
  unfold nrF
  cases e : amO (cM C) (fun v => cF C w v) (cW C) with
  | none => exact hC.pos
  | some b => exact (amO_some e).1
theorem rdF_eq {C : Cd} (hC : okC C) (h1 : 0 < ctF (cM C) (cW C)) : rdF C = mxF (fun _ => true) (fun w => cF C w (nrF C w)) (cW C) := by
  refine lsF_least (fun r => decide_eq_decide.mpr ?_) 25 0 (Nat.zero_le _) ?_
  · rw [mxF_iff]
    have hz : hlF C r = 0 ↔ ∀ w, w < cW C → tmF C r w ≠ 0 := by
      unfold hlF
      rw [ctF_zero]
      exact ⟨fun h w hw => of_decide_eq_false (h w hw), fun h w hw => decide_eq_false (h w hw)⟩
    rw [hz]
    refine forall_congr' fun w => forall_congr' fun hw => ?_
    obtain ⟨b, hb⟩ : ∃ b, amO (cM C) (fun v => cF C w v) (cW C) = some b := by
      cases e : amO (cM C) (fun v => cF C w v) (cW C) with
      | none => obtain ⟨k, hk, hm⟩ := ctF_pos.mp h1; rw [amO_none e k hk] at hm; cases hm
      | some b => exact ⟨b, rfl⟩
    have hn : nrF C w = b := by unfold nrF; rw [hb]; rfl
    obtain ⟨i1, i2, i3⟩ := amO_some hb
    rw [hn]
    constructor
    · intro h
      obtain ⟨v, hv, hm⟩ := ctF_pos.mp (show 0 < tmF C r w by omega)
      have hm : (cM C v && decide (cF C w v ≤ r)) = true := hm
      rw [Bool.and_eq_true] at hm
      have h2 := of_decide_eq_true hm.2
      have h3 : cF C w b ≤ cF C w v := i3 v hv hm.1
      omega
    · intro h
      have : 0 < tmF C r w := ctF_pos.mpr ⟨b, i1, by show (cM C b && decide (cF C w b ≤ r)) = true; rw [i2, decide_eq_true h]; rfl⟩
      omega
  · rw [mxF_iff]
    intro k hk
    have := hC.far k (nrF C k)
    omega
theorem mnO_spec {q : Nat → Bool} {f : Nat → Nat} {b : Option Nat} : ∀ {n : Nat}, match mnO q f b n with
    | none => b = none ∧ ∀ k, k < n → q k = false
    | some a => (b = some a ∨ ∃ k, k < n ∧ q k = true ∧ f k = a) ∧ (∀ k, k < n → q k = true → a ≤ f k) ∧ ∀ a', b = some a' → a ≤ a'
  | 0 => by
    show match b with
    | none => b = none ∧ ∀ k, k < 0 → q k = false
    | some a => (b = some a ∨ ∃ k, k < 0 ∧ q k = true ∧ f k = a) ∧ (∀ k, k < 0 → q k = true → a ≤ f k) ∧ ∀ a', b = some a' → a ≤ a'
    cases b with
    | none => exact ⟨rfl, fun k hk => absurd hk (Nat.not_lt_zero k)⟩
    | some a => exact ⟨Or.inl rfl, fun k hk => absurd hk (Nat.not_lt_zero k), fun a' h => by cases h; exact Nat.le_refl _⟩
  | n + 1 => by
    have ih := mnO_spec (q := q) (f := f) (b := b) (n := n)
    have hs : mnO q f b (n + 1) = if q n then (match mnO q f b n with | none => some (f n) | some a => if f n < a then some (f n) else some a) else mnO q f b n := rfl
    rw [hs]
    by_cases hq : q n = true
    · rw [if_pos hq]
      cases e : mnO q f b n with
      | none =>
        rw [e] at ih
        obtain ⟨i1, i2⟩ := ih
        refine ⟨Or.inr ⟨n, by omega, hq, rfl⟩, fun k hk hk2 => ?_, fun a' h => by rw [i1] at h; cases h⟩
        by_cases ek : k = n
        · rw [ek]; exact Nat.le_refl _
        · rw [i2 k (by omega)] at hk2; cases hk2
      | some a =>
        rw [e] at ih
        obtain ⟨i1, i2, i3⟩ := ih
        show match (if f n < a then some (f n) else some a) with
          | none => b = none ∧ ∀ k, k < n + 1 → q k = false
          | some a => (b = some a ∨ ∃ k, k < n + 1 ∧ q k = true ∧ f k = a) ∧ (∀ k, k < n + 1 → q k = true → a ≤ f k) ∧ ∀ a', b = some a' → a ≤ a'
        by_cases hl : f n < a
        · rw [if_pos hl]
          refine ⟨Or.inr ⟨n, by omega, hq, rfl⟩, fun k hk hk2 => ?_, fun a' h => ?_⟩
          · by_cases ek : k = n
            · rw [ek]; exact Nat.le_refl _
            · have := i2 k (by omega) hk2; omega
          · have := i3 a' h; omega
        · rw [if_neg hl]
          refine ⟨?_, fun k hk hk2 => ?_, i3⟩
          · rcases i1 with h | ⟨k, hk, h⟩
            · exact Or.inl h
            · exact Or.inr ⟨k, by omega, h⟩
          · by_cases ek : k = n
            · rw [ek]; omega
            · exact i2 k (by omega) hk2
    · rw [if_neg hq]
      have hq' := Bool.eq_false_iff.mpr hq
      cases e : mnO q f b n with
      | none =>
        rw [e] at ih
        refine ⟨ih.1, fun k hk => ?_⟩
        by_cases ek : k = n
        · rw [ek]; exact hq'
        · exact ih.2 k (by omega)
      | some a =>
        rw [e] at ih
        obtain ⟨i1, i2, i3⟩ := ih
        refine ⟨?_, fun k hk hk2 => ?_, i3⟩
        · rcases i1 with h | ⟨k, hk, h⟩
          · exact Or.inl h
          · exact Or.inr ⟨k, by omega, h⟩
        · by_cases ek : k = n
          · rw [ek] at hk2; exact absurd hk2 hq
          · exact i2 k (by omega) hk2
/-- two codewords below n, the lesser last -/
def pr2 (C : Cd) (n w v : Nat) : Prop := v < w ∧ w < n ∧ cM C w = true ∧ cM C v = true
theorem apO_spec {C : Cd} : ∀ {n : Nat}, match apO C n with
    | none => ∀ w v, ¬ pr2 C n w v
    | some a => (∃ w v, pr2 C n w v ∧ cF C w v = a) ∧ ∀ w v, pr2 C n w v → a ≤ cF C w v
  | 0 => fun w v h => absurd h.2.1 (Nat.not_lt_zero w)
  | n + 1 => by
    have ih := apO_spec (C := C) (n := n)
    have hm := mnO_spec (q := fun v => cM C n && cM C v) (f := fun v => cF C n v) (b := apO C n) (n := n)
    have hs : apO C (n + 1) = mnO (fun v => cM C n && cM C v) (fun v => cF C n v) (apO C n) n := rfl
    rw [hs]
    cases e : mnO (fun v => cM C n && cM C v) (fun v => cF C n v) (apO C n) n with
    | none =>
      rw [e] at hm
      rw [hm.1] at ih
      rintro w v ⟨h1, h2, h3, h4⟩
      by_cases ew : w = n
      · rw [ew] at h1 h3
        have := hm.2 v h1
        rw [h3, h4] at this
        cases this
      · exact ih w v ⟨h1, by omega, h3, h4⟩
    | some a =>
      rw [e] at hm
      obtain ⟨i1, i2, i3⟩ := hm
      refine ⟨?_, ?_⟩
      · rcases i1 with h | ⟨k, hk, h, h2⟩
        · rw [h] at ih
          obtain ⟨⟨w, v, hp, hv⟩, -⟩ := ih
          exact ⟨w, v, ⟨hp.1, by have := hp.2.1; omega, hp.2.2⟩, hv⟩
        · have h : (cM C n && cM C k) = true := h
          rw [Bool.and_eq_true] at h
          exact ⟨n, k, ⟨hk, by omega, h.1, h.2⟩, h2⟩
      · rintro w v ⟨h1, h2, h3, h4⟩
        by_cases ew : w = n
        · rw [ew] at h1 h3
          rw [ew]
          exact i2 v h1 (by show (cM C n && cM C v) = true; rw [h3, h4]; rfl)
        · cases e2 : apO C n with
          | none => rw [e2] at ih; exact absurd ⟨h1, by omega, h3, h4⟩ (ih w v)
          | some a' =>
            rw [e2] at ih
            have := ih.2 w v ⟨h1, by omega, h3, h4⟩
            have := i3 a' e2
            omega
/-- the least of f over what S says, as a loop keeps it -/
def lsI (S : Nat → Nat → Prop) (f : Nat → Nat → Nat) (l : Int) : Prop := (l = 2147483647 ∧ ∀ w v, ¬ S w v) ∨ ∃ a : Nat, l = (a : Int) ∧ a ≤ 1000 ∧ (∃ w v, S w v ∧ f w v = a) ∧ ∀ w v, S w v → a ≤ f w v
theorem lsI.cong {S S' : Nat → Nat → Prop} {f : Nat → Nat → Nat} {l : Int} (h : lsI S f l) (he : ∀ w v, S' w v ↔ S w v) : lsI S' f l := by
  rw [show S' = S from funext fun w => funext fun v => propext (he w v)]; exact h
theorem lsI.add {S S' : Nat → Nat → Prop} {f : Nat → Nat → Nat} {l : Int} {w v : Nat} (h : lsI S f l) (hf : f w v ≤ 1000) (he : ∀ x y, S' x y ↔ (S x y ∨ (x = w ∧ y = v))) : lsI S' f (min l (f w v : Int)) := by
  rcases h with ⟨h1, h2⟩ | ⟨a, h1, h2, ⟨x, y, h3, h4⟩, h5⟩
  · refine Or.inr ⟨f w v, by omega, hf, ⟨w, v, (he w v).mpr (Or.inr ⟨rfl, rfl⟩), rfl⟩, fun x y hs => ?_⟩
    rcases (he x y).mp hs with h | ⟨rfl, rfl⟩
    · exact absurd h (h2 x y)
    · exact Nat.le_refl _
  · by_cases c : f w v < a
    · refine Or.inr ⟨f w v, by omega, hf, ⟨w, v, (he w v).mpr (Or.inr ⟨rfl, rfl⟩), rfl⟩, fun x y hs => ?_⟩
      rcases (he x y).mp hs with h | ⟨rfl, rfl⟩
      · have := h5 x y h; omega
      · exact Nat.le_refl _
    · refine Or.inr ⟨a, by omega, h2, ⟨x, y, (he x y).mpr (Or.inl h3), h4⟩, fun x y hs => ?_⟩
      rcases (he x y).mp hs with h | ⟨rfl, rfl⟩
      · exact h5 x y h
      · omega
/-- Σ over w of the greater partners = Σ over w of the lesser -/
theorem sm_ct {P : Nat → Nat → Bool} (hP : ∀ w v, P w v = P v w) : ∀ n, smF (fun w => ctF (fun v => decide (w < v) && P w v) n) n = smF (fun w => ctF (fun v => P w v) w) n
  | 0 => rfl
  | n + 1 => by
    have ih := sm_ct hP n
    have h1 : ∀ m, smF (fun w => ctF (fun v => decide (w < v) && P w v) (n + 1)) m = smF (fun w => ctF (fun v => decide (w < v) && P w v) n) m + ctF (fun w => decide (w < n) && P w n) m := by
      intro m
      induction m with
      | zero => rfl
      | succ m im =>
        show smF (fun w => ctF (fun v => decide (w < v) && P w v) (n + 1)) m + (ctF (fun v => decide (m < v) && P m v) n + (if (decide (m < n) && P m n) = true then 1 else 0)) = smF (fun w => ctF (fun v => decide (w < v) && P w v) n) m + ctF (fun v => decide (m < v) && P m v) n + (ctF (fun w => decide (w < n) && P w n) m + (if (decide (m < n) && P m n) = true then 1 else 0))
        rw [im]; omega
    have h2 : ctF (fun v => decide (n < v) && P n v) (n + 1) = 0 := ctF_zero.mpr fun k hk => by rw [decide_eq_false (by omega), Bool.false_and]
    have h3 : ctF (fun w => decide (w < n) && P w n) n = ctF (fun v => P n v) n := ctF_cong fun k hk => by rw [decide_eq_true hk, Bool.true_and, hP]
    show smF (fun w => ctF (fun v => decide (w < v) && P w v) (n + 1)) n + ctF (fun v => decide (n < v) && P n v) (n + 1) = smF (fun w => ctF (fun v => P w v) w) n + ctF (fun v => P n v) n
    rw [h1, h2, h3, ih]
    omega
theorem prF_eq (C : Cd) (k : Int) : prF C k = smF (fun w => ctF (fun v => decide (w < v) && (cM C w && cM C v && decide ((cF C w v : Int) = k))) (cW C)) (cW C) :=
  (sm_ct (fun w v => by rw [cF_symm C w v, Bool.and_comm (cM C w) (cM C v)]) (cW C)).symm
section CC
variable {μ : Mem} {C : Cd} {Q : Int → Mem → Prop}
theorem s3_radius {p : Nat} (hp : crep μ p C) (hg : grS μ C (cN C)) (hC : okC C) (h1 : 0 < ctF (cM C) (cW C)) (hq : Q (rdF C : Nat) μ) : wp_X3_radius p μ Q := by
  have hw8 := hC.2.2.2.1
  have g0 : μ.1 70 0 = (cW C : Int) := hg.1
  rw [rdF_eq hC h1] at hq
  refine LP4_rule (fun (v1 : Nat) (v2 v3 : Int) (μ2 : Mem) => v1 = p ∧ μ2 = μ ∧ ∃ i : Nat, v3 = (i : Int) ∧ i ≤ cW C ∧ v2 = ((mxF (fun _ => true) (fun w => cF C w (nrF C w)) i : Nat) : Int)) (fun _ _ v3 _ => ((cW C : Int) - v3).toNat) ?_ ⟨rfl, rfl, 0, rfl, Nat.zero_le _, rfl⟩
  rintro X v1 v2 v3 μ2 ⟨rfl, rfl, i, rfl, hi, rfl⟩ hX
  have hs : mxF (fun _ => true) (fun w => cF C w (nrF C w)) (i + 1) = if true = true ∧ mxF (fun _ => true) (fun w => cF C w (nrF C w)) i < cF C i (nrF C i) then cF C i (nrF C i) else mxF (fun _ => true) (fun w => cF C w (nrF C w)) i := rfl
  unfold wp_X3_radius_4
  rw [g0]
  refine ⟨fun c => ?_, fun c => s3_closest hp hg hC (by omega) (s3_distance hg hC (by omega) (nrF_lt hC i) fun x6 e6 => ⟨inR_i (by omega) (by omega), hX _ _ _ _ ⟨rfl, rfl, i + 1, rfl, by omega, ?_⟩ (by omega)⟩)⟩
  · have e : i = cW C := by omega
    subst e
    exact hq
  · rw [hs, e6]
    by_cases e : mxF (fun _ => true) (fun w => cF C w (nrF C w)) i < cF C i (nrF C i)
    · rw [if_pos ⟨rfl, e⟩]; unfold nrF at *; omega
    · rw [if_neg (fun q => e q.2)]; unfold nrF at *; omega
theorem s3_pairsApart {p : Nat} {k : Int} (hp : crep μ p C) (hg : grS μ C (cN C)) (hC : okC C) (hq : Q (prF C k : Nat) μ) : wp_X3_pairsApart p k μ Q := by
  have hw8 := hC.2.2.2.1
  have g0 : μ.1 70 0 = (cW C : Int) := hg.1
  rw [prF_eq] at hq
  have hb : ∀ i, i ≤ cW C → smF (fun w => ctF (fun v => decide (w < v) && (cM C w && cM C v && decide ((cF C w v : Int) = k))) (cW C)) i ≤ 256 * 256 := fun i hi => by
    have h2 := smF_le (t := fun w => ctF (fun v => decide (w < v) && (cM C w && cM C v && decide ((cF C w v : Int) = k))) (cW C)) (c := 256) (n := i) (fun j _ => by have := ctF_le (fun v => decide (j < v) && (cM C j && cM C v && decide ((cF C j v : Int) = k))) (cW C); show ctF _ _ ≤ 256; omega)
    omega
  refine LP5_rule (fun (v1 : Nat) (v2 v3 v4 : Int) (μ2 : Mem) => v1 = p ∧ v2 = k ∧ μ2 = μ ∧ ∃ i : Nat, v4 = (i : Int) ∧ i ≤ cW C ∧ v3 = ((smF (fun w => ctF (fun v => decide (w < v) && (cM C w && cM C v && decide ((cF C w v : Int) = k))) (cW C)) i : Nat) : Int)) (fun _ _ _ v4 _ => ((cW C : Int) - v4).toNat) ?_ ⟨rfl, rfl, rfl, 0, rfl, Nat.zero_le _, rfl⟩
  rintro X v1 v2 v3 v4 μ2 ⟨rfl, rfl, rfl, i, rfl, hi, rfl⟩ hX
  have hbi := hb i hi
  unfold wp_X3_pairsApart_5
  rw [g0]
  refine ⟨fun c => ?_, fun c => s1_holds hp hC ⟨fun c2 => ⟨inR_i (by omega) (by omega), hX _ _ _ _ _ ⟨rfl, rfl, rfl, i + 1, rfl, by omega, ?_⟩ (by omega)⟩, fun c2 => ⟨inR_i (by omega) (by omega), fun x6 e6 => ?_⟩⟩⟩
  · have e : i = cW C := by omega
    subst e
    exact hq
  · have z : ctF (fun v => decide (i < v) && (cM C i && cM C v && decide ((cF C i v : Int) = v2))) (cW C) = 0 := ctF_zero.mpr fun v _ => by rw [bI_0.mp c2, Bool.false_and, Bool.false_and, Bool.and_false]
    show _ = ((smF (fun w => ctF (fun v => decide (w < v) && (cM C w && cM C v && decide ((cF C w v : Int) = v2))) (cW C)) i + ctF (fun v => decide (i < v) && (cM C i && cM C v && decide ((cF C i v : Int) = v2))) (cW C) : Nat) : Int)
    rw [z]; rfl
  · generalize hT : smF (fun w => ctF (fun v => decide (w < v) && (cM C w && cM C v && decide ((cF C w v : Int) = v2))) (cW C)) i = T at *
    have zi : ctF (fun v => decide (i < v) && (cM C i && cM C v && decide ((cF C i v : Int) = v2))) (i + 1) = 0 := ctF_zero.mpr fun v hv => by rw [decide_eq_false (by omega), Bool.false_and]
    refine LP6_rule (fun (w1 : Nat) (w2 w3 w4 w5 : Int) (μ3 : Mem) => w1 = v1 ∧ w2 = v2 ∧ w4 = (i : Int) ∧ μ3 = μ2 ∧ ∃ j : Nat, w5 = (j : Int) ∧ i + 1 ≤ j ∧ j ≤ cW C ∧ w3 = ((T + ctF (fun v => decide (i < v) && (cM C i && cM C v && decide ((cF C i v : Int) = v2))) j : Nat) : Int)) (fun _ _ _ _ w5 _ => ((cW C : Int) - w5).toNat) ?_ ⟨rfl, rfl, rfl, rfl, i + 1, by omega, by omega, by omega, by rw [zi]; rfl⟩
    rintro X6 w1 w2 w3 w4 w5 μ3 ⟨rfl, rfl, rfl, rfl, j, rfl, hj0, hj, rfl⟩ hX6
    have hl := ctF_le (fun v => decide (i < v) && (cM C i && cM C v && decide ((cF C i v : Int) = w2))) j
    unfold wp_X3_pairsApart_29
    rw [g0]
    refine ⟨fun d => ⟨inR_i (by omega) (by omega), hX _ _ _ _ _ ⟨rfl, rfl, rfl, i + 1, rfl, by omega, ?_⟩ (by omega)⟩, fun d => s1_holds hp hC ⟨fun d2 => ⟨inR_i (by omega) (by omega), hX6 _ _ _ _ _ _ ⟨rfl, rfl, rfl, rfl, j + 1, rfl, by omega, by omega, ?_⟩ (by omega)⟩, fun d2 => s3_distance hg hC (by omega) (by omega) ⟨fun d3 => ⟨inR_i (by omega) (by omega), hX6 _ _ _ _ _ _ ⟨rfl, rfl, rfl, rfl, j + 1, rfl, by omega, by omega, ?_⟩ (by omega)⟩, fun d3 => ⟨inR_i (by omega) (by omega), inR_i (by omega) (by omega), hX6 _ _ _ _ _ _ ⟨rfl, rfl, rfl, rfl, j + 1, rfl, by omega, by omega, ?_⟩ (by omega)⟩⟩⟩⟩
    · have e : j = cW C := by omega
      subst e
      rw [← hT]
      rfl
    · rw [ct0 (by rw [bI_0.mp d2, Bool.and_false, Bool.false_and, Bool.and_false])]
    · rw [ct0 (by rw [decide_eq_false d3, Bool.and_false, Bool.and_false])]
    · rw [ct1 (by rw [bI_n0.mp c2, bI_n0.mp d2, decide_eq_true d3, decide_eq_true (show i < j by omega)]; rfl)]; omega
theorem s3_leastApart {p : Nat} (hp : crep μ p C) (hg : grS μ C (cN C)) (hC : okC C) (h2 : 2 ≤ ctF (cM C) (cW C)) (hq : Q (oI (apO C (cW C))) μ) : wp_X3_leastApart p μ Q := by
  have hw8 := hC.2.2.2.1
  have g0 : μ.1 70 0 = (cW C : Int) := hg.1
  -- seen: pairs (w, v), w < i any v, or w = i and v < j
  refine LP4_rule (fun (v1 : Nat) (v2 v3 : Int) (μ2 : Mem) => v1 = p ∧ μ2 = μ ∧ ∃ i : Nat, v3 = (i : Int) ∧ i ≤ cW C ∧ lsI (fun w v => pr2 C (cW C) v w ∧ w < i) (cF C) v2) (fun _ _ v3 _ => ((cW C : Int) - v3).toNat) ?_ ⟨rfl, rfl, 0, rfl, Nat.zero_le _, Or.inl ⟨rfl, fun w v h => absurd h.2 (Nat.not_lt_zero w)⟩⟩
  rintro X v1 v2 v3 μ2 ⟨rfl, rfl, i, rfl, hi, hv⟩ hX
  unfold wp_X3_leastApart_5
  rw [g0]
  refine ⟨fun c => ?_, fun c => s1_holds hp hC ⟨fun c2 => ⟨inR_i (by omega) (by omega), hX _ _ _ _ ⟨rfl, rfl, i + 1, rfl, by omega, hv.cong fun w v => ⟨fun h => ⟨h.1, ?_⟩, fun h => ⟨h.1, by omega⟩⟩⟩ (by omega)⟩, fun c2 => ⟨inR_i (by omega) (by omega), fun x6 e6 => ?_⟩⟩⟩
  · have e : i = cW C := by omega
    subst e
    have ha := apO_spec (C := C) (n := cW C)
    rcases hv with ⟨h1, h3⟩ | ⟨a, h1, h3, ⟨w, v, h4, h5⟩, h6⟩
    · exfalso
      obtain ⟨x, hx, hm⟩ := ctF_pos.mp (show 0 < ctF (cM C) (cW C) by omega)
      have hu := ctF_up (p := cM C) (w := x) (b := false) hx
      rw [hm] at hu
      simp at hu
      obtain ⟨y, hy, hm2⟩ := ctF_pos.mp (show 0 < ctF (fun v => if v = x then false else cM C v) (cW C) by simp; omega)
      by_cases ey : y = x
      · have hm2 : (if y = x then false else cM C y) = true := hm2
        rw [if_pos ey] at hm2; cases hm2
      · have hm2 : (if y = x then false else cM C y) = true := hm2
        rw [if_neg ey] at hm2
        by_cases lt : x < y
        · exact h3 x y ⟨⟨lt, hy, hm2, hm⟩, hx⟩
        · exact h3 y x ⟨⟨by omega, hx, hm, hm2⟩, hy⟩
    · cases e : apO C (cW C) with
      | none => rw [e] at ha; exact absurd h4.1 (ha v w)
      | some b =>
        rw [e] at ha hq
        obtain ⟨⟨x, y, q1, q2⟩, q3⟩ := ha
        have r1 := q3 v w h4.1
        have r2 := h6 y x ⟨q1, by have := q1.1; have := q1.2.1; omega⟩
        rw [cF_symm] at r1 r2
        have : a = b := by omega
        rw [h1, this]; exact hq
  · by_cases ew : w = i
    · exfalso
      have h3 := h.1.2.2.2
      rw [ew, bI_0.mp c2] at h3
      cases h3
    · have := h.2; omega
  · refine LP5_rule (fun (w1 : Nat) (w2 w3 w4 : Int) (μ3 : Mem) => w1 = v1 ∧ w3 = (i : Int) ∧ μ3 = μ2 ∧ ∃ j : Nat, w4 = (j : Int) ∧ i + 1 ≤ j ∧ j ≤ cW C ∧ lsI (fun w v => pr2 C (cW C) v w ∧ (w < i ∨ (w = i ∧ v < j))) (cF C) w2) (fun _ _ _ w4 _ => ((cW C : Int) - w4).toNat) ?_ ⟨rfl, rfl, rfl, i + 1, by omega, by omega, by omega, hv.cong fun w v => ⟨fun h => ⟨h.1, ?_⟩, fun h => ⟨h.1, Or.inl h.2⟩⟩⟩
    · rintro X6 w1 w2 w3 w4 μ3 ⟨rfl, rfl, rfl, j, rfl, hj0, hj, hw⟩ hX6
      have hf := hC.far i j
      unfold wp_X3_leastApart_26
      rw [g0]
      refine ⟨fun d => ⟨inR_i (by omega) (by omega), hX _ _ _ _ ⟨rfl, rfl, i + 1, rfl, by omega, hw.cong fun w v => ⟨fun h => ⟨h.1, ?_⟩, fun h => ⟨h.1, by omega⟩⟩⟩ (by omega)⟩, fun d => s1_holds hp hC ⟨fun d2 => ⟨inR_i (by omega) (by omega), hX6 _ _ _ _ _ ⟨rfl, rfl, rfl, j + 1, rfl, by omega, by omega, hw.cong fun w v => ⟨fun h => ⟨h.1, ?_⟩, fun h => ⟨h.1, by omega⟩⟩⟩ (by omega)⟩, fun d2 => s3_distance hg hC (by omega) (by omega) fun x16 e16 => ⟨inR_i (by omega) (by omega), hX6 _ _ _ _ _ ⟨rfl, rfl, rfl, j + 1, rfl, by omega, by omega, ?_⟩ (by omega)⟩⟩⟩
      · have := h.1.2.1
        have := h.2
        omega
      · by_cases ev : w = i ∧ v = j
        · exfalso
          have h3 := h.1.2.2.1
          rw [ev.2, bI_0.mp d2] at h3
          cases h3
        · have := h.2; omega
      · rw [e16]
        refine hw.add (by omega) fun x y => ⟨fun h => ?_, fun h => ?_⟩
        · have := h.2
          by_cases ev : x = i ∧ y = j
          · exact Or.inr ev
          · exact Or.inl ⟨h.1, by omega⟩
        · rcases h with h | ⟨rfl, rfl⟩
          · exact ⟨h.1, by have := h.2; omega⟩
          · exact ⟨⟨by omega, by omega, bI_n0.mp d2, bI_n0.mp c2⟩, Or.inr ⟨rfl, by omega⟩⟩
    · have h1 := h.2
      have h3 := h.1.1
      omega
end CC

/-! the class: shifted -/
theorem hn_cong {s s' d d' : Nat → Nat} : ∀ {n : Nat}, (∀ i, i < n → s i = s' i ∧ d i = d' i) → hn s d n = hn s' d' n
  | 0, _ => rfl
  | n + 1, h => by
    show hn s d n * s n + d n = hn s' d' n * s' n + d' n
    rw [hn_cong (n := n) fun i hi => h i (by omega), (h n (by omega)).1, (h n (by omega)).2]
theorem hn_split (s d : Nat → Nat) (a : Nat) : ∀ b, hn s d (a + b) = hn s d a * wdF (fun q => s (a + q)) b + hn (fun q => s (a + q)) (fun q => d (a + q)) b
  | 0 => by show hn s d a = hn s d a * 1 + 0; omega
  | b + 1 => by
    show hn s d (a + b) * s (a + b) + d (a + b) = hn s d a * (wdF (fun q => s (a + q)) b * s (a + b)) + (hn (fun q => s (a + q)) (fun q => d (a + q)) b * s (a + b) + d (a + b))
    rw [hn_split s d a b, Nat.add_mul, Nat.mul_assoc, Nat.add_assoc]
theorem hn_dg {s : Nat → Nat} : ∀ {n w : Nat}, (∀ i, i < n → 1 ≤ s i) → w < wdF s n → hn s (dgF s n w) n = w
  | 0, w, _, h => by have h : w < 1 := h; show 0 = w; omega
  | n + 1, w, hs, h => by
    have h1 : w / s n < wdF s n := Nat.div_lt_of_lt_mul (by rw [Nat.mul_comm]; exact h)
    have e : hn s (dgF s (n + 1) w) n = hn s (dgF s n (w / s n)) n := hn_cong fun i hi => ⟨rfl, by
      show (if i = n then w % s n else dgF s n (w / s n) i) = _
      rw [if_neg (by omega)]⟩
    show hn s (dgF s (n + 1) w) n * s n + (if n = n then w % s n else _) = w
    rw [if_pos rfl, e, hn_dg (fun i hi => hs i (by omega)) h1, Nat.mul_comm]
    exact Nat.div_add_mod _ _
theorem siN_eq {C : Cd} (hC : okC C) {i k w : Nat} (hi : i < cN C) (hw : w < cW C) : siN C i k w = (w / tlF C i / cS C i * cS C i + (w / tlF C i % cS C i + k) % cS C i) * tlF C i + w % tlF C i := by
  have hp : ∀ j, j < cN C → 1 ≤ cS C j := fun j hj => by have := (hC.2.1 j hj).1; omega
  have en : i + 1 + (cN C - 1 - i) = cN C := by omega
  have h1 := hn_split (cS C) (cD C w) (i + 1) (cN C - 1 - i)
  have h2 := hn_split (cS C) (fun q => if q = i then (cD C w q + k) % cS C q else cD C w q) (i + 1) (cN C - 1 - i)
  rw [en] at h1 h2
  have h0 : hn (cS C) (cD C w) (cN C) = w := hn_dg hp hw
  rw [h0] at h1
  have hT : wdF (fun q => cS C (i + 1 + q)) (cN C - 1 - i) = tlF C i := rfl
  rw [hT] at h1 h2
  have ht : hn (fun q => cS C (i + 1 + q)) (fun q => cD C w (i + 1 + q)) (cN C - 1 - i) < tlF C i := hn_lt fun q hq => cD_lt hC (by omega) w
  have e1 : hn (cS C) (cD C w) (i + 1) = hn (cS C) (cD C w) i * cS C i + cD C w i := rfl
  have e2 : hn (cS C) (fun q => if q = i then (cD C w q + k) % cS C q else cD C w q) (i + 1) = hn (cS C) (cD C w) i * cS C i + (cD C w i + k) % cS C i := by
    show hn (cS C) (fun q => if q = i then (cD C w q + k) % cS C q else cD C w q) i * cS C i + (if i = i then (cD C w i + k) % cS C i else cD C w i) = _
    rw [if_pos rfl, hn_cong (d' := cD C w) fun q hq => ⟨rfl, if_neg (by omega)⟩]
  have e3 : hn (fun q => cS C (i + 1 + q)) (fun q => (fun q => if q = i then (cD C w q + k) % cS C q else cD C w q) (i + 1 + q)) (cN C - 1 - i) = hn (fun q => cS C (i + 1 + q)) (fun q => cD C w (i + 1 + q)) (cN C - 1 - i) := hn_cong fun q hq => ⟨rfl, if_neg (by omega)⟩
  rw [e2, e3] at h2
  rw [e1] at h1
  obtain ⟨d1, d2⟩ := mul_div_mod (a := hn (cS C) (cD C w) i * cS C i + cD C w i) ht
  obtain ⟨d3, d4⟩ := mul_div_mod (a := hn (cS C) (cD C w) i) (cD_lt hC hi w)
  rw [← h1] at d1 d2
  unfold siN
  rw [h2, d2, d1, d3, d4]
theorem imgM_block {φ : Nat → Nat} {m : Nat → Bool} {B base : Nat} : ∀ {T : Nat}, (∀ t, t < T → φ (B + t) = base + t) → ∀ x, imgM φ m (B + T) x = (imgM φ m B x || (decide (base ≤ x ∧ x < base + T) && m (B + (x - base))))
  | 0, _, x => by rw [decide_eq_false (by omega), Bool.false_and, Bool.or_false]; rfl
  | T + 1, h, x => by
    show (imgM φ m (B + T) x || (m (B + T) && decide (φ (B + T) = x))) = _
    rw [imgM_block (T := T) (fun t ht => h t (by omega)) x, h T (by omega), Bool.or_assoc]
    congr 1
    by_cases e : x = base + T
    · rw [e, decide_eq_false (by omega), decide_eq_true (by rfl), decide_eq_true (by omega), show B + (base + T - base) = B + T by omega, Bool.false_and, Bool.false_or, Bool.true_and, Bool.and_true]
    · rw [decide_eq_false (show ¬ base + T = x by omega), Bool.and_false, Bool.or_false, show decide (base ≤ x ∧ x < base + (T + 1)) = decide (base ≤ x ∧ x < base + T) from decide_eq_decide.mpr (by omega)]

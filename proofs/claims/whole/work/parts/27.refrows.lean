/-! ===== the reference: rows are cleared, copied, made; acts are remembered ===== -/
def C0 : Cd := (0, fun _ => 0, fun _ => 0, fun _ => false)
theorem okC_0 : okC C0 := ⟨by decide, fun i hi => absurd hi (Nat.not_lt_zero i), fun i hi => absurd hi (Nat.not_lt_zero i), by decide, ⟨fun w h => Bool.noConfusion (show false = true from h), fun _ _ => rfl⟩⟩
/-- only row c of the codes changes -/
def orow (μ μ' : Mem) (c : Nat) : Prop := (∀ k, k ≠ 117 → μ'.1 k = μ.1 k) ∧ μ'.2 = μ.2 ∧ ∀ j, (j < 273 * c ∨ 273 * c + 273 ≤ j) → μ'.1 117 j = μ.1 117 j
theorem orow.rf {μ : Mem} {c : Nat} : orow μ μ c := ⟨fun _ _ => rfl, rfl, fun _ _ => rfl⟩
theorem orow.tr {μ μ' μ'' : Mem} {c : Nat} (h : orow μ μ' c) (h2 : orow μ' μ'' c) : orow μ μ'' c := ⟨fun k hk => (h2.1 k hk).trans (h.1 k hk), h2.2.1.trans h.2.1, fun j hj => (h2.2.2 j hj).trans (h.2.2 j hj)⟩
theorem orow.set {μ μ' : Mem} {c j : Nat} {v : Int} (h : orow μ μ' c) (hj : 273 * c ≤ j) (hj2 : j < 273 * c + 273) : orow μ (sI μ' 117 j v) c := ⟨fun k hk => (sI_ne hk).trans (h.1 k hk), h.2.1, fun i hi => by rw [sI_nj (by omega)]; exact h.2.2 i hi⟩
theorem orow.row {μ μ' : Mem} {c d : Nat} {C : Cd} (h : orow μ μ' c) (hd : d ≠ c) (h8 : cN C ≤ 8) (hr : mrow μ d C) : mrow μ' d C := rowOf.to hr h8 (fun k h1 h2 => h.2.2 k (by omega))
section RR
variable {μ : Mem} {Q : Mem → Prop} {c : Nat} {C : Cd}
theorem s_clears (hc : c < 14) (hq : ∀ μ', orow μ μ' c → mrow μ' c C0 → Q μ') : wp_X8_clears c μ Q := by
  refine LP3_rule (fun (v1 v2 : Int) (μ2 : Mem) => v1 = (c : Int) ∧ orow μ μ2 c ∧ ∃ i : Nat, v2 = (i : Int) ∧ i ≤ 273 ∧ ∀ k, k < i → μ2.1 117 (273 * c + k) = 0) (fun _ v2 _ => (273 - v2).toNat) ?_ ⟨rfl, orow.rf, 0, rfl, by omega, fun k hk => absurd hk (Nat.not_lt_zero k)⟩
  rintro X v1 v2 μ2 ⟨rfl, ho, i, rfl, hi, h0⟩ hX
  refine ⟨fun q => ?_, fun q => ?_⟩
  · refine hq μ2 ho ⟨?_, fun j hj => absurd hj (Nat.not_lt_zero j), fun w hw => ?_⟩
    · have := h0 0 (by omega)
      rw [Nat.add_zero] at this
      exact this
    · rw [Nat.add_assoc]
      exact h0 (17 + w) (by omega)
  · refine ⟨by omega, fun μ3 e3 => ⟨inR_i (by omega) (by omega), hX _ _ _ ⟨rfl, ?_, i + 1, rfl, by omega, fun k hk => ?_⟩ (by omega)⟩⟩
    · rw [e3]; exact ho.set (by omega) (by omega)
    · rw [e3, show (273 * (c : Int) + (i : Int)).toNat = 273 * c + i by omega]
      by_cases e : k = i
      · rw [e, sI_s]
      · rw [sI_nj (by omega)]; exact h0 k (by omega)
theorem s_copies {d : Nat} (hc : c < 14) (hd : d < 14) (hq : ∀ μ', orow μ μ' d → (∀ k, k < 273 → μ'.1 117 (273 * d + k) = μ.1 117 (273 * c + k)) → Q μ') : wp_X8_copies c d μ Q := by
  refine LP4_rule (fun (v1 v2 v3 : Int) (μ2 : Mem) => v1 = (c : Int) ∧ v2 = (d : Int) ∧ orow μ μ2 d ∧ ∃ i : Nat, v3 = (i : Int) ∧ i ≤ 273 ∧ (∀ k, k < i → μ2.1 117 (273 * d + k) = μ.1 117 (273 * c + k)) ∧ (∀ k, k < 273 → μ2.1 117 (273 * c + k) = μ.1 117 (273 * c + k))) (fun _ _ v3 _ => (273 - v3).toNat) ?_ ⟨rfl, rfl, orow.rf, 0, rfl, by omega, fun k hk => absurd hk (Nat.not_lt_zero k), fun _ _ => rfl⟩
  rintro X v1 v2 v3 μ2 ⟨rfl, rfl, ho, i, rfl, hi, h0, hs⟩ hX
  refine ⟨fun q => hq μ2 ho (fun k hk => h0 k (by omega)), fun q => ?_⟩
  refine ⟨by omega, by omega, fun μ3 e3 => ?_⟩
  rw [show (273 * (d : Int) + (i : Int)).toNat = 273 * d + i by omega, show (273 * (c : Int) + (i : Int)).toNat = 273 * c + i by omega, hs i (by omega)] at e3
  refine ⟨inR_i (by omega) (by omega), hX _ _ _ _ ⟨rfl, rfl, ?_, i + 1, rfl, by omega, fun k hk => ?_, fun k hk => ?_⟩ (by omega)⟩
  · rw [e3]; exact ho.set (by omega) (by omega)
  · rw [e3]
    by_cases e : k = i
    · rw [e, sI_s]
    · rw [sI_nj (by omega)]; exact h0 k (by omega)
  · rw [e3]
    by_cases e : 273 * c + k = 273 * d + i
    · rw [e, sI_s, show c = d by omega]
    · rw [sI_nj e]; exact hs k hk
theorem s_copies_row {d : Nat} (hc : c < 14) (hd : d < 14) (hr : mrow μ c C) (h8 : cN C ≤ 8) (hq : ∀ μ', orow μ μ' d → mrow μ' d C → Q μ') : wp_X8_copies c d μ Q :=
  s_copies hc hd (fun μ' ho h => hq μ' ho (rowOf.mv hr h8 h))
/-- a place more -/
def addP (C : Cd) (s t : Nat) : Cd := (cN C + 1, (fun i => if i = cN C then s else cS C i), (fun i => if i = cN C then t else cT C i), cM C)
theorem s_adds {s t : Nat} (hc : c < 14) (h : mrow μ c C) (h8 : cN C < 8) (hq : ∀ μ', orow μ μ' c → mrow μ' c (addP C s t) → Q μ') : wp_X8_adds c s t μ Q := by
  refine s_places h hc ⟨by omega, fun μ4 e4 => ?_⟩
  rw [show (273 * (c : Int) + 1 + (cN C : Int)).toNat = 273 * c + 1 + cN C by omega] at e4
  have o4 : orow μ μ4 c := by rw [e4]; exact orow.rf.set (by omega) (by omega)
  have n4 : μ4.1 117 (273 * c) = (cN C : Int) := by rw [e4, sI_nj (by omega)]; exact h.1
  refine ⟨by omega, ?_⟩
  rw [show (273 * (c : Int)).toNat = 273 * c by omega, n4]
  refine ⟨by omega, fun μ8 e8 => ?_⟩
  rw [show (273 * (c : Int) + 9 + (cN C : Int)).toNat = 273 * c + 9 + cN C by omega] at e8
  have o8 : orow μ μ8 c := by rw [e8]; exact o4.set (by omega) (by omega)
  have n8 : μ8.1 117 (273 * c) = (cN C : Int) := by rw [e8, sI_nj (by omega)]; exact n4
  refine ⟨by omega, ?_⟩
  rw [n8]
  refine ⟨inR_i (by omega) (by omega), fun μ11 e11 => hq μ11 (by rw [e11]; exact o8.set (by omega) (by omega)) ⟨?_, fun i hi => ?_, fun w hw => ?_⟩⟩
  · rw [e11, sI_s]
    show (cN C : Int) + 1 = ((cN C + 1 : Nat) : Int)
    omega
  · have hi : i < cN C + 1 := hi
    by_cases e : i = cN C
    · subst e
      refine ⟨?_, ?_⟩
      · rw [e11, sI_nj (by omega), e8, sI_nj (by omega), e4, sI_s]
        simp [addP, cS]
      · rw [e11, sI_nj (by omega), e8, sI_s]
        simp [addP, cT]
    · have hr := h.2.1 i (by omega)
      refine ⟨?_, ?_⟩
      · rw [e11, sI_nj (by omega), e8, sI_nj (by omega), e4, sI_nj (by omega)]
        simp only [addP, cS, if_neg e]
        exact hr.1
      · rw [e11, sI_nj (by omega), e8, sI_nj (by omega), e4, sI_nj (by omega)]
        simp only [addP, cT, if_neg e]
        exact hr.2
  · rw [e11, sI_nj (by omega), e8, sI_nj (by omega), e4, sI_nj (by omega)]
    exact h.2.2 w hw
/-- a word is marked, or no more -/
def setM (C : Cd) (w : Nat) (b : Bool) : Cd := (cN C, cS C, cT C, fun v => if v = w then b else cM C v)
theorem s_marks {w : Nat} {b : Bool} {p2 : Int} (hc : c < 14) (h : mrow μ c C) (hw : w < 256) (h8 : cN C ≤ 8) (hb : p2 = bI b) (hq : ∀ μ', orow μ μ' c → mrow μ' c (setM C w b) → Q μ') : wp_X8_marks c w p2 μ Q := by
  have key : ∀ μ3 : Mem, μ3 = sI μ 117 (273 * (c : Int) + 17 + (w : Int)).toNat (bI b) → Q μ3 := by
    intro μ3 e3
    rw [show (273 * (c : Int) + 17 + (w : Int)).toNat = 273 * c + 17 + w by omega] at e3
    refine hq μ3 (by rw [e3]; exact orow.rf.set (by omega) (by omega)) ⟨?_, fun i hi => ?_, fun v hv => ?_⟩
    · rw [e3, sI_nj (by omega)]; exact h.1
    · have hi : i < cN C := hi
      have hr := h.2.1 i hi
      exact ⟨by rw [e3, sI_nj (by omega)]; exact hr.1, by rw [e3, sI_nj (by omega)]; exact hr.2⟩
    · rw [e3]
      by_cases e : v = w
      · rw [e, sI_s]
        simp only [setM, cM, if_pos]
      · rw [sI_nj (by omega)]
        simp only [setM, cM, if_neg e]
        exact h.2.2 v hv
  subst hb
  refine ⟨fun q => ⟨by omega, fun μ3 e3 => key μ3 ?_⟩, fun q => ⟨by omega, fun μ3 e3 => key μ3 ?_⟩⟩
  · rw [e3, bI_0.mp q]; rfl
  · rw [e3, bI_n0.mp q]; rfl
end RR
def hAt (hs : List (Nat → Cd)) (i : Nat) : Nat → Cd := hs.getD i (fun _ => C0)
/-- what the reference remembers -/
def mhs (μ : Mem) (hs : List (Nat → Cd)) : Prop := μ.1 115 19 = (hs.length : Int) ∧ hs.length ≤ 10 ∧ ∀ i, i < hs.length → ∀ c, c < 8 → rowOf (fun k => μ.1 118 ((hs.length - 1 - i) * 2184 + k)) c (hAt hs i c) ∧ okC (hAt hs i c)
theorem mhs.to {μ μ' : Mem} {hs : List (Nat → Cd)} (h : mhs μ hs) (e : μ'.1 118 = μ.1 118) (e2 : μ'.1 115 19 = μ.1 115 19) : mhs μ' hs := by
  unfold mhs
  rw [e, e2]
  exact h
def push10 (cs : Nat → Cd) (hs : List (Nat → Cd)) : List (Nat → Cd) := (cs :: hs).take 10
theorem push10_len (cs : Nat → Cd) {hs : List (Nat → Cd)} (h : hs.length ≤ 10) : (push10 cs hs).length = if hs.length = 10 then 10 else hs.length + 1 := by
  unfold push10
  rw [List.length_take, List.length_cons]
  split <;> omega
theorem push10_0 (cs : Nat → Cd) (hs : List (Nat → Cd)) : hAt (push10 cs hs) 0 = cs := rfl
theorem push10_s (cs : Nat → Cd) {hs : List (Nat → Cd)} {i : Nat} (hi : i < 9) : hAt (push10 cs hs) (i + 1) = hAt hs i := by
  unfold hAt push10
  rw [List.getD_eq_getElem?_getD, List.getD_eq_getElem?_getD, List.getElem?_take_of_lt (by omega), List.getElem?_cons_succ]
theorem s_remembers {μ : Mem} {Q : Mem → Prop} {cs : Nat → Cd} {hs : List (Nat → Cd)} (hR : mrs μ cs) (hH : mhs μ hs) (hq : ∀ μ', (∀ k, k ≠ 115 → k ≠ 118 → μ'.1 k = μ.1 k) → (∀ j, j ≠ 19 → μ'.1 115 j = μ.1 115 j) → μ'.2 = μ.2 → mhs μ' (push10 cs hs) → Q μ') : wp_X8_remembers μ Q := by
  obtain ⟨hl, h10, hrow⟩ := hH
  -- the second half, from any memory with room
  have half : ∀ (a : Nat) (μ1 : Mem), a < 10 → μ1.1 115 19 = (a : Int) → (∀ k, k ≠ 115 → k ≠ 118 → μ1.1 k = μ.1 k) → (∀ j, j ≠ 19 → μ1.1 115 j = μ.1 115 j) → μ1.2 = μ.2 → (∀ i, i < a → ∀ c, c < 8 → rowOf (fun k => μ1.1 118 ((a - 1 - i) * 2184 + k)) c (hAt hs i c) ∧ okC (hAt hs i c)) → (push10 cs hs).length = a + 1 → LP2 (wp_X8_remembers_60 Q) 0 μ1 := by
    intro a μ1 ha e19 hk hj h2 hold hlen
    refine LP2_rule (fun (v1 : Int) (μ2 : Mem) => (∀ k, k ≠ 118 → μ2.1 k = μ1.1 k) ∧ μ2.2 = μ1.2 ∧ ∃ i : Nat, v1 = (i : Int) ∧ i ≤ 2184 ∧ (∀ k, k < i → μ2.1 118 (a * 2184 + k) = μ1.1 117 k) ∧ ∀ j, j < a * 2184 → μ2.1 118 j = μ1.1 118 j) (fun v1 _ => (2184 - v1).toNat) ?_ ⟨fun _ _ => rfl, rfl, 0, rfl, by omega, fun k hk => absurd hk (Nat.not_lt_zero k), fun _ _ => rfl⟩
    rintro X v1 μ2 ⟨hk2, h22, i, rfl, hi, hnew, hold2⟩ hX
    have e2 : μ2.1 115 19 = (a : Int) := by rw [hk2 115 (by omega)]; exact e19
    refine ⟨fun q => ?_, fun q => ?_⟩
    · rw [e2]
      refine ⟨inR_i (by omega) (by omega), fun μ4 e4 => hq μ4 (fun k h1 h3 => ?_) (fun j hj2 => ?_) ?_ ⟨?_, by rw [hlen]; omega, fun i' hi' c hc => ?_⟩⟩
      · rw [e4, sI_ne h1, hk2 k h3]; exact hk k h1 h3
      · rw [e4, sI_nj hj2, hk2 115 (by omega)]; exact hj j hj2
      · rw [e4, sI_2, h22]; exact h2
      · rw [e4, sI_s, hlen]; omega
      · rw [hlen] at hi' ⊢
        rw [e4, sI_ne (by omega)]
        cases i' with
        | zero =>
          rw [push10_0]
          have hcc := hR c hc
          refine ⟨rowOf.to hcc.1 hcc.2.1 (fun k h1 h3 => ?_), hcc.2⟩
          show μ2.1 118 ((a + 1 - 1 - 0) * 2184 + k) = μ.1 117 k
          rw [show a + 1 - 1 - 0 = a by omega, hnew k (by omega), hk 117 (by omega) (by omega)]
        | succ i' =>
          rw [push10_s cs (by omega)]
          have := hold i' (by omega) c hc
          refine ⟨rowOf.to this.1 this.2.1 (fun k h1 h3 => ?_), this.2⟩
          show μ2.1 118 ((a + 1 - 1 - (i' + 1)) * 2184 + k) = μ1.1 118 ((a - 1 - i') * 2184 + k)
          rw [show a + 1 - 1 - (i' + 1) = a - 1 - i' by omega]
          exact hold2 _ (by
            have : (a - 1 - i') * 2184 ≤ (a - 1) * 2184 := Nat.mul_le_mul_right _ (by omega)
            have : a * 2184 = (a - 1) * 2184 + 2184 := by
              rw [show a = (a - 1) + 1 by omega, Nat.add_mul]
              simp
            omega)
    · rw [e2]
      refine ⟨by omega, by omega, fun μ7 e7 => ⟨inR_i (by omega) (by omega), hX _ _ ⟨fun k h3 => ?_, ?_, i + 1, rfl, by omega, fun k hk3 => ?_, fun j hj3 => ?_⟩ (by omega)⟩⟩
      · rw [e7, sI_ne h3]; exact hk2 k h3
      · rw [e7]; exact h22
      · rw [e7, show (((a : Int) * 8) * 273 + (i : Int)).toNat = a * 2184 + i by omega, Int.toNat_natCast]
        by_cases e : k = i
        · rw [e, sI_s, hk2 117 (by omega)]
        · rw [sI_nj (by omega)]; exact hnew k (by omega)
      · rw [e7, show (((a : Int) * 8) * 273 + (i : Int)).toNat = a * 2184 + i by omega, sI_nj (by omega)]
        exact hold2 j hj3
  have hplen := push10_len cs h10
  refine ⟨fun q => ?_, fun q => ?_⟩
  · rw [if_neg (by omega)] at hplen
    exact half hs.length μ (by omega) hl (fun _ _ _ => rfl) (fun _ _ => rfl) rfl hrow hplen
  · rw [if_pos (by omega)] at hplen
    have h10' : hs.length = 10 := by omega
    rw [q]
    refine ⟨inR_i (by omega) (by omega), fun μ10 e10 => ?_⟩
    refine LP2_rule (fun (v1 : Int) (μ2 : Mem) => (∀ k, k ≠ 118 → μ2.1 k = μ10.1 k) ∧ μ2.2 = μ10.2 ∧ ∃ i : Nat, v1 = (i : Int) ∧ i ≤ 19656 ∧ (∀ k, k < i → μ2.1 118 k = μ.1 118 (k + 2184)) ∧ ∀ j, i ≤ j → μ2.1 118 j = μ.1 118 j) (fun v1 _ => (19656 - v1).toNat) ?_ ⟨fun _ _ => rfl, rfl, 0, rfl, by omega, fun k hk => absurd hk (Nat.not_lt_zero k), fun j _ => by rw [e10, sI_ne (by omega)]⟩
    rintro X v1 μ2 ⟨hk2, h22, i, rfl, hi, hnew, hold2⟩ hX
    have e2 : μ2.1 115 19 = 9 := by rw [hk2 115 (by omega), e10, sI_s]; rfl
    unfold wp_X8_remembers_21
    rw [e2]
    refine ⟨inR_i (by omega) (by omega), fun q2 => ?_, fun q2 => ?_⟩
    · have e : i = 19656 := by omega
      subst e
      refine half 9 μ2 (by omega) e2 (fun k h1 h3 => by rw [hk2 k h3, e10, sI_ne h1]) (fun j hj => by rw [hk2 115 (by omega), e10, sI_nj hj]) (by rw [h22, e10]; rfl) (fun i' hi' c hc => ?_) hplen
      have := hrow i' (by omega) c hc
      refine ⟨rowOf.to this.1 this.2.1 (fun k h1 h3 => ?_), this.2⟩
      show μ2.1 118 ((9 - 1 - i') * 2184 + k) = μ.1 118 ((hs.length - 1 - i') * 2184 + k)
      rw [hnew _ (by omega), show (9 - 1 - i') * 2184 + k + 2184 = (hs.length - 1 - i') * 2184 + k by rw [h10']; omega]
    · refine ⟨by omega, by omega, fun μ15 e15 => ⟨inR_i (by omega) (by omega), hX _ _ ⟨fun k h3 => ?_, ?_, i + 1, rfl, by omega, fun k hk3 => ?_, fun j hj3 => ?_⟩ (by omega)⟩⟩
      · rw [e15, sI_ne h3]; exact hk2 k h3
      · rw [e15]; exact h22
      · rw [e15, Int.toNat_natCast, show ((i : Int) + 2184).toNat = i + 2184 by omega]
        by_cases e : k = i
        · rw [e, sI_s]; exact hold2 _ (by omega)
        · rw [sI_nj e]; exact hnew k (by omega)
      · rw [e15, Int.toNat_natCast, sI_nj (by omega)]
        exact hold2 j (by omega)

/-! ===== the reader: tokens ===== -/
abbrev Tk : Type := Nat × Nat × Nat
abbrev tK (t : Tk) : Nat := t.1
abbrev tA (t : Tk) : Nat := t.2.1
abbrev tB (t : Tk) : Nat := t.2.2
def runF (P : Nat → Bool) : Nat → Nat → Nat
  | 0, p => p
  | n + 1, p => if P p then runF P n (p + 1) else p
def isSp (T : Nat → Int) (j : Nat) : Bool := decide (T j = 32)
def isLt (T : Nat → Int) (j : Nat) : Bool := decide (97 ≤ T j ∧ T j ≤ 122)
def isDg (T : Nat → Int) (j : Nat) : Bool := decide (48 ≤ T j ∧ T j ≤ 57)
def tkA (T : Nat → Int) (L a : Nat) : Tk := if a = L then (0, a, a)
  else if isLt T a then ((if runF (isLt T) (L - a) a - a ≤ 6 then 1 else 4), a, runF (isLt T) (L - a) a)
  else if isDg T a then ((if runF (isDg T) (L - a) a - a ≤ 8 then 2 else 4), a, runF (isDg T) (L - a) a)
  else ((if T a = 59 ∨ T a = 44 ∨ T a = 58 then 3 else 4), a, a + 1)
def tkF (T : Nat → Int) (L p : Nat) : Tk := tkA T L (runF (isSp T) (L - p) p)
theorem runF_le (P : Nat → Bool) : ∀ (n p : Nat), p ≤ runF P n p ∧ runF P n p ≤ p + n
  | 0, p => ⟨Nat.le_refl _, Nat.le_refl _⟩
  | n + 1, p => by
    show p ≤ (if P p then runF P n (p + 1) else p) ∧ (if P p then runF P n (p + 1) else p) ≤ p + (n + 1)
    have := runF_le P n (p + 1)
    split <;> omega
theorem runF_in (P : Nat → Bool) : ∀ (n p j : Nat), p ≤ j → j < runF P n p → P j = true
  | 0, p, j, h1, h2 => by have h2 : j < p := h2; omega
  | n + 1, p, j, h1, h2 => by
    have h2 : j < (if P p then runF P n (p + 1) else p) := h2
    cases hp : P p
    · rw [hp, if_neg (by decide)] at h2; omega
    · rw [hp, if_pos rfl] at h2
      by_cases e : j = p
      · rw [e]; exact hp
      · exact runF_in P n (p + 1) j (by omega) h2
theorem runF_s {P : Nat → Bool} {L b : Nat} (hb : b < L) (hp : P b = true) : runF P (L - b) b = runF P (L - (b + 1)) (b + 1) := by
  rw [show L - b = (L - (b + 1)) + 1 by omega]
  show (if P b then _ else _) = _
  rw [hp]; rfl
theorem runF_e {P : Nat → Bool} {L b : Nat} (hb : b ≤ L) (hp : b = L ∨ P b = false) : runF P (L - b) b = b := by
  by_cases e : b = L
  · rw [e, Nat.sub_self]; rfl
  · rw [show L - b = (L - (b + 1)) + 1 by omega]
    show (if P b then _ else _) = _
    rcases hp with h | h
    · exact absurd h e
    · rw [h]; rfl
/-- the letters of a name, and the name as a number -/
def nmL (T : Nat → Int) (a : Nat) : Nat → List Nat
  | 0 => []
  | n + 1 => nmL T a n ++ [(T (a + n) - 96).toNat]
def nmW (l : List Nat) : Nat := l.foldl (fun v x => v * 32 + x) 0
theorem nmW_s (l : List Nat) (x : Nat) : nmW (l ++ [x]) = nmW l * 32 + x := by unfold nmW; rw [List.foldl_append]; rfl
abbrev tNm (T : Nat → Int) (t : Tk) : List Nat := nmL T (tA t) (tB t - tA t)
def lnI (n : Nat) : Int64 := Int64.ofInt (n : Int)
theorem i2l_of {v : Int} (h : inR v) : i2l_ v = Int64.ofInt v := by
  unfold i2l_
  apply Int64.toInt_inj.mp
  rw [Int32.toInt_toInt64, Int32.toInt_ofInt_of_le h.1 (by have := h.2; omega), Int64.toInt_ofInt_of_le (by have := h.1; omega) (by have := h.2; omega)]
theorem ln_step {w : Nat} {v : Int} (h1 : 97 ≤ v) (h2 : v ≤ 122) : ((lnI w * (32 : Int64)) + i2l_ v - (97 : Int64)) + (1 : Int64) = lnI (w * 32 + (v - 96).toNat) := by
  rw [i2l_of ⟨by omega, by omega⟩]
  unfold lnI
  have e : ((w * 32 + (v - 96).toNat : Nat) : Int) = (w : Int) * 32 + v - 97 + 1 := by omega
  rw [e, Int64.ofInt_add, Int64.ofInt_sub, Int64.ofInt_add, Int64.ofInt_mul]
  rfl
def kM (k : Nat) : Int := if k = 0 then 1 else if k = 1 then 2 else if k = 2 then 3 else if k = 3 then 4 else 0
/-- the token stands read -/
def tkS (μ : Mem) (T : Nat → Int) (t : Tk) : Prop := μ.1 115 9 = kM (tK t) ∧ μ.1 115 10 = (tA t : Int) ∧ μ.1 115 6 = (tB t : Int) ∧ (tK t = 3 → μ.1 115 11 = T (tA t)) ∧ (tK t = 1 → μ.2 115 12 = lnI (nmW (tNm T t)))
def fG (μ μ' : Mem) : Prop := (∀ k, k ≠ 115 → μ'.1 k = μ.1 k ∧ μ'.2 k = μ.2 k) ∧ ∀ j, j ≠ 6 → j ≠ 9 → j ≠ 10 → j ≠ 11 → μ'.1 115 j = μ.1 115 j
theorem fG.rf {μ : Mem} : fG μ μ := ⟨fun _ _ => ⟨rfl, rfl⟩, fun _ _ _ _ _ => rfl⟩
theorem fG.tr {μ μ' μ'' : Mem} (h : fG μ μ') (h2 : fG μ' μ'') : fG μ μ'' := ⟨fun k a => ⟨(h2.1 k a).1.trans (h.1 k a).1, (h2.1 k a).2.trans (h.1 k a).2⟩, fun j a b c d => (h2.2 j a b c d).trans (h.2 j a b c d)⟩
theorem fG.f {μ μ' : Mem} {j : Nat} {v : Int} (h : fG μ μ') (hj : j = 6 ∨ j = 9 ∨ j = 10 ∨ j = 11) : fG μ (sI μ' 115 j v) := h.tr ⟨fun k a => ⟨sI_ne a, rfl⟩, fun i a b c d => sI_nj (by omega)⟩
theorem fG.L {μ μ' : Mem} {j : Nat} {v : Int64} (h : fG μ μ') : fG μ (sL μ' 115 j v) := h.tr ⟨fun k a => ⟨rfl, sL_ne a⟩, fun i _ _ _ _ => rfl⟩
section RT
variable {μ : Mem} {Q : Mem → Prop} {T : Nat → Int} {L : Nat}
/-- the tape lies there -/
def tpS (μ : Mem) (T : Nat → Int) (L : Nat) : Prop := μ.1 115 5 = (L : Int) ∧ L ≤ 600 ∧ ∀ j, j < L → μ.1 116 j = T j
theorem tpS.to {μ μ' : Mem} (h : tpS μ T L) (hf : fG μ μ') : tpS μ' T L := ⟨by rw [hf.2 5 (by omega) (by omega) (by omega) (by omega)]; exact h.1, h.2.1, by rw [(hf.1 116 (by omega)).1]; exact h.2.2⟩
theorem s_isLetterAt {R : Int → Mem → Prop} {b : Nat} (h : tpS μ T L) (hb : b ≤ L) (h0 : b = L ∨ isLt T b = false → R 0 μ) (h1 : b < L → isLt T b = true → R 1 μ) : wp_X8_isLetterAt b μ R := by
  have h600 := h.2.1
  unfold wp_X8_isLetterAt
  rw [h.1]
  refine ⟨fun q => h0 (Or.inl (by omega)), fun q => ⟨by omega, ?_⟩⟩
  rw [Int.toNat_natCast, h.2.2 b (by omega)]
  refine c_in (fun n => ⟨fun _ => h0 (Or.inr (decide_eq_false n)), fun x => absurd rfl x⟩) (fun y => ⟨fun x => absurd x (by decide), fun _ => h1 (by omega) (decide_eq_true y)⟩)
theorem s_isDigitAt {R : Int → Mem → Prop} {b : Nat} (h : tpS μ T L) (hb : b ≤ L) (h0 : b = L ∨ isDg T b = false → R 0 μ) (h1 : b < L → isDg T b = true → R 1 μ) : wp_X8_isDigitAt b μ R := by
  have h600 := h.2.1
  unfold wp_X8_isDigitAt
  rw [h.1]
  refine ⟨fun q => h0 (Or.inl (by omega)), fun q => ⟨by omega, ?_⟩⟩
  rw [Int.toNat_natCast, h.2.2 b (by omega)]
  refine c_in (fun n => ⟨fun _ => h0 (Or.inr (decide_eq_false n)), fun x => absurd rfl x⟩) (fun y => ⟨fun x => absurd x (by decide), fun _ => h1 (by omega) (decide_eq_true y)⟩)
theorem tkA_e (T : Nat → Int) (L : Nat) : tkA T L L = (0, L, L) := if_pos rfl
theorem s_goOn {p : Nat} (h : tpS μ T L) (h7 : μ.1 115 7 = 0) (h6 : μ.1 115 6 = (p : Int)) (hp : p ≤ L) (hq : ∀ μ', fG μ μ' → tkS μ' T (tkF T L p) → Q μ') : wp_X8_goOn μ Q := by
  have h600 := h.2.1
  refine ⟨fun _ => ?_, fun x => absurd (Int.le_of_eq h7) x⟩
  refine LP1_rule (fun (μ2 : Mem) => fG μ μ2 ∧ ∃ a : Nat, μ2.1 115 6 = (a : Int) ∧ a ≤ L ∧ tkF T L p = tkF T L a) (fun μ2 => ((L : Int) - μ2.1 115 6).toNat) ?_ ⟨fG.rf, p, h6, hp, rfl⟩
  rintro X μ2 ⟨hf2, a, g6, ha, hrun⟩ hX
  have h2 := h.to hf2
  have go : (a = L ∨ isSp T a = false) → wp_X8_goOn_46 Q μ2 := by
    intro hend
    have hta : tkF T L p = tkA T L a := by rw [hrun]; unfold tkF; rw [runF_e ha hend]
    rw [hta] at hq
    intro μ3 e3
    have hf3 : fG μ μ3 := by rw [e3]; exact hf2.f (by omega)
    have h3 := h.to hf3
    have k6 : μ3.1 115 6 = (a : Int) := by rw [e3, sI_nj (by omega)]; exact g6
    have k10 : μ3.1 115 10 = (a : Int) := by rw [e3, sI_s]; exact g6
    rw [k6, h3.1]
    refine ⟨fun q => ?_, fun q => fun μ45 e45 => ?_⟩
    rotate_left
    · have ea : a = L := by omega
      subst ea
      refine hq μ45 (by rw [e45]; exact hf3.f (by omega)) ?_
      rw [tkA_e]
      exact ⟨by rw [e45, sI_s]; rfl, by rw [e45, sI_nj (by omega)]; exact k10, by rw [e45, sI_nj (by omega)]; exact k6, fun x => absurd (show (0 : Nat) = 3 from x) (by decide), fun x => absurd (show (0 : Nat) = 1 from x) (by decide)⟩
    have haL : a < L := by omega
    refine s_isLetterAt h3 ha (fun hno => ⟨fun _ => ?_, fun x => absurd rfl x⟩) (fun _ hyes => ⟨fun x => absurd x (by decide), fun _ => fun μ31 e31 => ?_⟩)
    · have hlt : isLt T a = false := by rcases hno with e | e; omega; exact e
      rw [k6]
      refine s_isDigitAt h3 ha (fun hno2 => ⟨fun _ => ?_, fun x => absurd rfl x⟩) (fun _ hyes2 => ⟨fun x => absurd x (by decide), fun _ => ?_⟩)
      · have hdg : isDg T a = false := by rcases hno2 with e | e; omega; exact e
        have hA : tkA T L a = ((if T a = 59 ∨ T a = 44 ∨ T a = 58 then 3 else 4), a, a + 1) := by
          unfold tkA; rw [if_neg (by omega), hlt, hdg]; rfl
        rw [hA] at hq
        rw [k6]
        refine ⟨by omega, fun μ12 e12 => ?_⟩
        rw [Int.toNat_natCast, h3.2.2 a haL] at e12
        have j11 : μ12.1 115 11 = T a := by rw [e12, sI_s]
        have j6 : μ12.1 115 6 = (a : Int) := by rw [e12, sI_nj (by omega)]; exact k6
        have j10 : μ12.1 115 10 = (a : Int) := by rw [e12, sI_nj (by omega)]; exact k10
        have hf12 : fG μ μ12 := by rw [e12]; exact hf3.f (by omega)
        rw [j11]
        have sg : (T a = 59 ∨ T a = 44 ∨ T a = 58) → wp_X8_goOn_284 Q μ12 := by
          intro hs μ14 e14
          have i6 : μ14.1 115 6 = (a : Int) := by rw [e14, sI_nj (by omega)]; exact j6
          rw [i6]
          refine ⟨inR_i (by omega) (by omega), fun μ16 e16 => hq μ16 (by rw [e16, e14]; exact (hf12.f (by omega)).f (by omega)) ?_⟩
          rw [if_pos hs]
          exact ⟨by rw [e16, sI_nj (by omega), e14, sI_s]; rfl, by rw [e16, sI_nj (by omega), e14, sI_nj (by omega)]; exact j10, by rw [e16, sI_s]; rfl, fun _ => by rw [e16, sI_nj (by omega), e14, sI_nj (by omega)]; exact j11, fun x => absurd (show (3 : Nat) = 1 from x) (by decide)⟩
        refine ⟨fun q1 => sg (Or.inl q1), fun q1 => ⟨fun q2 => sg (Or.inr (Or.inl q2)), fun q2 => ⟨fun q3 => fun μ19 e19 => ?_, fun q3 => sg (Or.inr (Or.inr q3))⟩⟩⟩
        have i6 : μ19.1 115 6 = (a : Int) := by rw [e19, sI_nj (by omega)]; exact j6
        rw [i6]
        refine ⟨inR_i (by omega) (by omega), fun μ21 e21 => hq μ21 (by rw [e21, e19]; exact (hf12.f (by omega)).f (by omega)) ?_⟩
        rw [if_neg (by omega)]
        exact ⟨by rw [e21, sI_nj (by omega), e19, sI_s]; rfl, by rw [e21, sI_nj (by omega), e19, sI_nj (by omega)]; exact j10, by rw [e21, sI_s]; rfl, fun x => absurd (show (4 : Nat) = 3 from x) (by decide), fun x => absurd (show (4 : Nat) = 1 from x) (by decide)⟩
      · have hA : tkA T L a = ((if runF (isDg T) (L - a) a - a ≤ 8 then 2 else 4), a, runF (isDg T) (L - a) a) := by
          unfold tkA; rw [if_neg (by omega), hlt, if_neg (by decide), hyes2, if_pos rfl]
        rw [hA] at hq
        refine LP1_rule (fun (μ4 : Mem) => fG μ μ4 ∧ μ4.1 115 10 = (a : Int) ∧ ∃ b : Nat, μ4.1 115 6 = (b : Int) ∧ a ≤ b ∧ b ≤ L ∧ runF (isDg T) (L - a) a = runF (isDg T) (L - b) b) (fun μ4 => ((L : Int) - μ4.1 115 6).toNat) ?_ ⟨hf3, k10, a, k6, Nat.le_refl _, ha, rfl⟩
        rintro X4 μ4 ⟨hf4, m10, b, m6, hab, hb, hr⟩ hX4
        unfold wp_X8_goOn_193
        rw [m6]
        refine s_isDigitAt (h.to hf4) hb (fun hno3 => ⟨fun _ => ?_, fun x => absurd rfl x⟩) (fun hbL hy3 => ⟨fun x => absurd x (by decide), fun _ => ?_⟩)
        · rw [runF_e hb hno3] at hr
          rw [hr] at hq
          rw [m6, m10]
          refine ⟨inR_i (by omega) (by omega), fun q4 => fun μ27 e27 => ?_, fun q4 => fun μ28 e28 => ?_⟩
          · refine hq μ27 (by rw [e27]; exact hf4.f (by omega)) ?_
            rw [if_pos (by omega)]
            exact ⟨by rw [e27, sI_s]; rfl, by rw [e27, sI_nj (by omega)]; exact m10, by rw [e27, sI_nj (by omega)]; exact m6, fun x => absurd (show (2 : Nat) = 3 from x) (by decide), fun x => absurd (show (2 : Nat) = 1 from x) (by decide)⟩
          · refine hq μ28 (by rw [e28]; exact hf4.f (by omega)) ?_
            rw [if_neg (by omega)]
            exact ⟨by rw [e28, sI_s]; rfl, by rw [e28, sI_nj (by omega)]; exact m10, by rw [e28, sI_nj (by omega)]; exact m6, fun x => absurd (show (4 : Nat) = 3 from x) (by decide), fun x => absurd (show (4 : Nat) = 1 from x) (by decide)⟩
        · rw [m6]
          refine ⟨inR_i (by omega) (by omega), fun μ30 e30 => hX4 μ30 ⟨by rw [e30]; exact hf4.f (by omega), by rw [e30, sI_nj (by omega)]; exact m10, b + 1, by rw [e30, sI_s]; rfl, by omega, hbL, by rw [hr, runF_s hbL hy3]⟩ ?_⟩
          rw [e30, sI_s, m6]; omega
    · have hA : tkA T L a = ((if runF (isLt T) (L - a) a - a ≤ 6 then 1 else 4), a, runF (isLt T) (L - a) a) := by
        unfold tkA; rw [if_neg (by omega), hyes, if_pos rfl]
      rw [hA] at hq
      have hf31 : fG μ μ31 := by rw [e31]; exact hf3.L
      refine LP1_rule (fun (μ4 : Mem) => fG μ μ4 ∧ μ4.1 115 10 = (a : Int) ∧ ∃ b : Nat, μ4.1 115 6 = (b : Int) ∧ a ≤ b ∧ b ≤ L ∧ runF (isLt T) (L - a) a = runF (isLt T) (L - b) b ∧ (b - a ≤ 6 → μ4.2 115 12 = lnI (nmW (nmL T a (b - a))))) (fun μ4 => ((L : Int) - μ4.1 115 6).toNat) ?_ ⟨hf31, by rw [e31]; exact k10, a, by rw [e31]; exact k6, Nat.le_refl _, ha, rfl, fun _ => by rw [e31, sL_s', Nat.sub_self]; rfl⟩
      rintro X4 μ4 ⟨hf4, m10, b, m6, hab, hb, hr, hwd⟩ hX4
      unfold wp_X8_goOn_89
      rw [m6]
      have h4 := h.to hf4
      refine s_isLetterAt h4 hb (fun hno3 => ⟨fun _ => ?_, fun x => absurd rfl x⟩) (fun hbL hy3 => ⟨fun x => absurd x (by decide), fun _ => ?_⟩)
      · rw [runF_e hb hno3] at hr
        rw [hr] at hq
        rw [m6, m10]
        refine ⟨inR_i (by omega) (by omega), fun q4 => fun μ27 e27 => ?_, fun q4 => fun μ28 e28 => ?_⟩
        · refine hq μ27 (by rw [e27]; exact hf4.f (by omega)) ?_
          rw [if_pos (by omega)]
          exact ⟨by rw [e27, sI_s]; rfl, by rw [e27, sI_nj (by omega)]; exact m10, by rw [e27, sI_nj (by omega)]; exact m6, fun x => absurd (show (1 : Nat) = 3 from x) (by decide), fun _ => by rw [e27]; exact hwd (by omega)⟩
        · refine hq μ28 (by rw [e28]; exact hf4.f (by omega)) ?_
          rw [if_neg (by omega)]
          exact ⟨by rw [e28, sI_s]; rfl, by rw [e28, sI_nj (by omega)]; exact m10, by rw [e28, sI_nj (by omega)]; exact m6, fun x => absurd (show (4 : Nat) = 3 from x) (by decide), fun x => absurd (show (4 : Nat) = 1 from x) (by decide)⟩
      · rw [m6, m10]
        have fin : ∀ μ5 : Mem, fG μ μ5 → μ5.1 115 6 = (b : Int) → μ5.1 115 10 = (a : Int) → (b + 1 - a ≤ 6 → μ5.2 115 12 = lnI (nmW (nmL T a (b + 1 - a)))) → wp_X8_goOn_143 Q X4 μ5 := by
          intro μ5 hf5 n6 n10 hw5
          unfold wp_X8_goOn_143
          rw [n6]
          refine ⟨inR_i (by omega) (by omega), fun μ42 e42 => hX4 μ42 ⟨by rw [e42]; exact hf5.f (by omega), by rw [e42, sI_nj (by omega)]; exact n10, b + 1, by rw [e42, sI_s]; rfl, by omega, hbL, by rw [hr, runF_s hbL hy3], fun hb6 => by rw [e42]; exact hw5 hb6⟩ ?_⟩
          rw [e42, sI_s, m6]; omega
        refine ⟨inR_i (by omega) (by omega), fun q4 => fin μ4 hf4 m6 m10 (fun x => by omega), fun q4 => ⟨by omega, fun μ44 e44 => fin μ44 (by rw [e44]; exact hf4.L) (by rw [e44]; exact m6) (by rw [e44]; exact m10) (fun hb6 => ?_)⟩⟩
        rw [Int.toNat_natCast, h4.2.2 b hbL, hwd (by omega)] at e44
        have hy4 : 97 ≤ T b ∧ T b ≤ 122 := of_decide_eq_true hy3
        rw [e44, sL_s', ln_step hy4.1 hy4.2, show b + 1 - a = (b - a) + 1 by omega]
        show _ = lnI (nmW (nmL T a (b - a) ++ [(T (a + (b - a)) - 96).toNat]))
        rw [nmW_s, show a + (b - a) = b by omega]
  unfold wp_X8_goOn_8
  rw [h2.1, g6]
  refine ⟨fun q => go (Or.inl (by omega)), fun q => ⟨by omega, ?_⟩⟩
  rw [Int.toNat_natCast, h2.2.2 a (by omega)]
  refine ⟨fun q2 => go (Or.inr (decide_eq_false q2)), fun q2 => ⟨inR_i (by omega) (by omega), fun μ49 e49 => hX μ49 ⟨by rw [e49]; exact hf2.f (by omega), a + 1, by rw [e49, sI_s]; rfl, by omega, ?_⟩ ?_⟩⟩
  · rw [hrun]
    unfold tkF
    rw [runF_s (by omega) (show isSp T a = true from decide_eq_true q2)]
  · rw [e49, sI_s, g6]; omega
end RT

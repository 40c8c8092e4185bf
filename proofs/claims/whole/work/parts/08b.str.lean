section ST
variable {cc : ByteArray} {x : Cx} {E : Gx} {z : Zs} {μ : Mem} {pc : Nat} {lv : List (Option Value)} {st : List Value} {Q : State → Prop} {D nL : Nat} {own : String}
theorem r_slen (B : Bd x E D nL own) {idx j : Nat} (hl : LK own idx yJ0_length_8abf5) (hj : j < 3) (hD : Nat.ble 9 D = true) (d : decode cc pc = .ok (.invokevirtual idx, 3)) (kk : J cc x E z0 μ (pc + 3) lv (iv (slen j) :: st) Q) : J cc x E z0 μ pc lv (sv E j :: st) Q := sorry
theorem r_schr (B : Bd x E D nL own) {idx j : Nat} {a : Int} (hl : LK own idx yJ0_charAt_5068e) (hj : j < 3) (ha : 0 ≤ a ∧ a < slen j) (hD : Nat.ble 9 D = true) (d : decode cc pc = .ok (.invokevirtual idx, 3)) (kk : J cc x E z0 μ (pc + 3) lv (iv (schr j a) :: st) Q) : J cc x E z0 μ pc lv (iv a :: sv E j :: st) Q := sorry
end ST
theorem inR_max {a b : Int} (ha : inR a) (hb : inR b) : inR (max a b) := by
  unfold inR at *
  omega
theorem inR_min {a b : Int} (ha : inR a) (hb : inR b) : inR (min a b) := by
  unfold inR at *
  omega
section MM
variable {cc : ByteArray} {x : Cx} {E : Gx} {z : Zs} {μ : Mem} {pc : Nat} {lv : List (Option Value)} {st : List Value} {Q : State → Prop} {D nL : Nat} {own : String}
theorem r_mmax (B : Bd x E (D + 1) nL own) {idx : Nat} {a b : Int} (hl : LK own idx Lib.Math.max.name) (ra : inR a) (rb : inR b) (hW : Nat.ble (cats st) 8 = true) (d : decode cc pc = .ok (.invokestatic idx, 3)) (kk : J cc x E z0 μ (pc + 3) lv (iv (max a b) :: st) Q) : J cc x E z0 μ pc lv (iv b :: iv a :: st) Q := fun hx hb H locs ls hls hP hS => by
  obtain ⟨hown, hts, hK, hNw, hT, hml, hf, hloc, -⟩ := B
  have hw := Nat.le_of_ble_eq_true hW
  obtain ⟨m1, m2, m3⟩ := mw_max
  have h := kk hx hb H locs ls hls hP hS
  refine va_mmax hx hb hls.2.1.symm hown (hts _ hl) (hts _ m1) (hts _ m2) (hts _ m3) (by omega) (by show cats st + 13 ≤ _; omega) (Nat.zero_le _) (Nat.zero_le _) d ?_
  have e : iv (max a b) = Value.int (if Int32.ofInt a < Int32.ofInt b then Int32.ofInt b else Int32.ofInt a) := by
    unfold iv
    by_cases q : a < b
    · rw [if_pos ((lt_iff ra rb).mpr q), Int.max_eq_right (by omega)]
    · rw [if_neg (fun w => q ((lt_iff ra rb).mp w)), Int.max_eq_left (by omega)]
  rw [← e]
  exact h
theorem r_mmin (B : Bd x E (D + 1) nL own) {idx : Nat} {a b : Int} (hl : LK own idx Lib.Math.min.name) (ra : inR a) (rb : inR b) (hW : Nat.ble (cats st) 8 = true) (d : decode cc pc = .ok (.invokestatic idx, 3)) (kk : J cc x E z0 μ (pc + 3) lv (iv (min a b) :: st) Q) : J cc x E z0 μ pc lv (iv b :: iv a :: st) Q := fun hx hb H locs ls hls hP hS => by
  obtain ⟨hown, hts, hK, hNw, hT, hml, hf, hloc, -⟩ := B
  have hw := Nat.le_of_ble_eq_true hW
  obtain ⟨m1, m2, m3⟩ := mw_min
  have h := kk hx hb H locs ls hls hP hS
  refine va_mmin hx hb hls.2.1.symm hown (hts _ hl) (hts _ m1) (hts _ m2) (hts _ m3) (by omega) (by show cats st + 13 ≤ _; omega) (Nat.zero_le _) (Nat.zero_le _) d ?_
  have e : iv (min a b) = Value.int (if Int32.ofInt b < Int32.ofInt a then Int32.ofInt b else Int32.ofInt a) := by
    unfold iv
    by_cases q : b < a
    · rw [if_pos ((lt_iff rb ra).mpr q), Int.min_eq_right (by omega)]
    · rw [if_neg (fun w => q ((lt_iff rb ra).mp w)), Int.min_eq_left (by omega)]
  rw [← e]
  exact h
end MM
theorem bleN (N : Nat) : Nat.ble (N + 3 + 1) (N + 4) = true := Nat.ble_eq.mpr (by omega)

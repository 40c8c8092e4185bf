/-! feed, letter and the small ones of the reference -/
def wsel (a b c d e : Int) (k : Nat) : Int := if k < 4 then a else if k < 8 then b else if k < 12 then c else if k < 16 then d else e
def byF (w : Int) (k : Nat) : Int := iand (ishr w (24 - 8 * ((k % 4 : Nat) : Int))) 255
def fdT (T : Nat → Int) (n : Nat) (a b c d e : Int) (j : Nat) : Int := if j < n then T j else byF (wsel a b c d e (j - n)) (j - n)
/-- only thrown, the tape and its length may have moved -/
def fF (μ μ' : Mem) : Prop := (∀ k, k ≠ 115 → k ≠ 116 → μ'.1 k = μ.1 k) ∧ μ'.2 = μ.2 ∧ (∀ j, j ≠ 0 → j ≠ 4 → μ'.1 115 j = μ.1 115 j) ∧ μ'.1 115 0 = 0
section RR
variable {μ : Mem} {Q : Int → Mem → Prop} {T : Nat → Int}
theorem s8_feed {n : Nat} {a b c d e : Int} (hT : mT μ T n)
    (h0 : ¬ n + 20 ≤ 600 → ∀ μ', fF μ μ' → mT μ' T n → Q (-1) μ')
    (h1 : n + 20 ≤ 600 → ∀ μ', fF μ μ' → mT μ' (fdT T n a b c d e) (n + 20) → Q ((n + 20 : Nat) : Int) μ') : wp_X8_feed a b c d e μ Q := by
  have h600 := hT.2.1
  intro μ1 e1
  have a4 : μ1.1 115 4 = (n : Int) := by rw [e1, sI_nj (by omega)]; exact hT.1
  have f1 : fF μ μ1 := ⟨fun k p _ => by rw [e1, sI_ne p], by rw [e1]; rfl, fun j p _ => by rw [e1, sI_nj p], by rw [e1, sI_s]⟩
  have t1 : ∀ j, j < n → μ1.1 116 j = T j := fun j hj => by rw [e1, sI_ne (by omega)]; exact hT.2.2 j hj
  rw [a4]
  refine ⟨inR_i (by omega) (by omega), fun q => ?_, fun q => h0 (by omega) μ1 f1 ⟨a4, h600, t1⟩⟩
  refine LP7_rule (fun (v1 v2 v3 v4 v5 v6 : Int) (μ2 : Mem) => v1 = a ∧ v2 = b ∧ v3 = c ∧ v4 = d ∧ v5 = e ∧ (∀ k, k ≠ 116 → μ2.1 k = μ1.1 k) ∧ μ2.2 = μ1.2 ∧ ∃ k : Nat, v6 = (k : Int) ∧ k ≤ 20 ∧ ∀ j, j < n + k → μ2.1 116 j = fdT T n a b c d e j) (fun _ _ _ _ _ v6 _ => (20 - v6).toNat) ?_ ⟨rfl, rfl, rfl, rfl, rfl, fun _ _ => rfl, rfl, 0, rfl, by omega, fun j hj => by unfold fdT; rw [if_pos (by omega)]; exact t1 j (by omega)⟩
  rintro X v1 v2 v3 v4 v5 v6 μ2 ⟨rfl, rfl, rfl, rfl, rfl, hk2, hL2, k, rfl, hk, ht⟩ hX
  have b4 : μ2.1 115 4 = (n : Int) := by rw [hk2 115 (by omega)]; exact a4
  refine ⟨fun q2 => ?_, fun q2 => ?_⟩
  · rw [b4]
    refine ⟨inR_i (by omega) (by omega), fun μ6 e6 => ?_⟩
    have c4 : μ6.1 115 4 = ((n + 20 : Nat) : Int) := by rw [e6, sI_s]; rfl
    rw [c4]
    refine h1 (by omega) μ6 ⟨fun i p r => by rw [e6, sI_ne p, hk2 i r]; exact f1.1 i p r, by rw [e6, sI_2, hL2]; exact f1.2.1, fun j p r => by rw [e6, sI_nj r, hk2 115 (by omega)]; exact f1.2.2.1 j p r, by rw [e6, sI_nj (by omega), hk2 115 (by omega)]; exact f1.2.2.2⟩ ⟨c4, by omega, fun j hj => by rw [e6, sI_ne (by omega)]; exact ht j (by omega)⟩
  · have fin : wp_X8_feed_76 Q X v1 v2 v3 v4 v5 (k : Int) (wsel v1 v2 v3 v4 v5 k) μ2 := by
      unfold wp_X8_feed_76
      rw [b4, show ((n : Int) + (k : Int)).toNat = n + k by omega]
      refine ⟨by omega, by omega, fun μ13 e13 => ⟨inR_i (by omega) (by omega), hX _ _ _ _ _ _ _ ⟨rfl, rfl, rfl, rfl, rfl, fun i hi => by rw [e13, sI_ne hi]; exact hk2 i hi, by rw [e13, sI_2]; exact hL2, k + 1, rfl, by omega, fun j hj => ?_⟩ (by omega)⟩⟩
      by_cases ej : j = n + k
      · rw [ej, e13, sI_s]
        unfold fdT byF
        rw [if_neg (by omega), show n + k - n = k by omega, Int.natCast_emod]
        rfl
      · rw [e13, sI_nj ej]; exact ht j (by omega)
    unfold wsel at fin
    refine ⟨fun q4 => ⟨fun q8 => ⟨fun q12 => ⟨fun q16 => ?_, fun q16 => ?_⟩, fun q12 => ?_⟩, fun q8 => ?_⟩, fun q4 => ?_⟩
    · rw [if_neg (by omega), if_neg (by omega), if_neg (by omega), if_neg (by omega)] at fin; exact fin
    · rw [if_neg (by omega), if_neg (by omega), if_neg (by omega), if_pos (by omega)] at fin; exact fin
    · rw [if_neg (by omega), if_neg (by omega), if_pos (by omega)] at fin; exact fin
    · rw [if_neg (by omega), if_pos (by omega)] at fin; exact fin
    · rw [if_pos (by omega)] at fin; exact fin
end RR
/-! letter -/
theorem lnI_toInt {a : Nat} (ha : a < 1073741824) : (lnI a).toInt = (a : Int) := by
  unfold lnI
  rw [Int64.toInt_ofInt_of_le (by omega) (by omega)]
theorem lnI_div {a : Nat} (ha : a < 1073741824) : lnI a / 32 = lnI (a / 32) := by
  apply Int64.toInt_inj.mp
  rw [Int64.toInt_div, lnI_toInt ha, lnI_toInt (by omega), show (32 : Int64).toInt = 32 from rfl, Int.tdiv_eq_ediv_of_nonneg (by omega), Int.bmod_eq_of_le (by omega) (by omega)]
  rfl
theorem lnI_rem {a : Nat} (ha : a < 1073741824) : l2i_ (lrem_ (lnI a) 32) = ((a % 32 : Nat) : Int) := by
  have h1 : lrem_ (lnI a) 32 = lnI (a % 32) := by
    unfold lrem_
    rw [lnI_div ha]
    unfold lnI
    rw [show (32 : Int64) = Int64.ofInt 32 from rfl, ← Int64.ofInt_mul, ← Int64.ofInt_sub]
    congr 1
    omega
  rw [h1]
  unfold l2i_
  rw [Int64.toInt_toInt32, lnI_toInt (by omega), Int.bmod_eq_of_le (by omega) (by omega)]
theorem lcm_le {a : Int64} : lcm_ a 0 ≤ 0 ↔ a.toInt ≤ 0 := by
  unfold lcm_ lg_cmp
  constructor
  · intro h
    split at h
    · exact absurd h (by decide)
    · rename_i q
      have q : ¬ (0 : Int64) < a := q
      rw [Int64.lt_iff_toInt_lt] at q
      have : (0 : Int64).toInt = 0 := rfl
      omega
  · intro h
    have q : ¬ a > 0 := fun y => by
      have y : (0 : Int64) < a := y
      rw [Int64.lt_iff_toInt_lt] at y
      have : (0 : Int64).toInt = 0 := rfl
      omega
    rw [if_neg q]
    split <;> decide

/-! ===== what each call answers: (answer, trouble) ===== -/
def kthO (p : Nat → Bool) (k : Int) : Nat → Option Nat
  | 0 => none
  | n + 1 => match kthO p k n with
    | some w => some w
    | none => if p n = true ∧ (ctF p n : Int) = k then some n else none
def oI : Option Nat → Int
  | some w => (w : Int)
  | none => -2
def kthF (p : Nat → Bool) (n : Nat) (k : Int) : Int := oI (kthO p k n)
theorem kthO_0 {p : Nat → Bool} {k : Int} {n : Nat} (h : kthO p k n = none) (h2 : ¬ (p n = true ∧ (ctF p n : Int) = k)) : kthO p k (n + 1) = none := by
  simp only [kthO, h, if_neg h2]
theorem kthO_1 {p : Nat → Bool} {k : Int} {n : Nat} (h : kthO p k n = none) (h2 : p n = true) (h3 : (ctF p n : Int) = k) : kthO p k (n + 1) = some n := by
  simp only [kthO, h, if_pos (And.intro h2 h3)]
theorem kthO_keep {p : Nat → Bool} {k : Int} {m w : Nat} (h : kthO p k m = some w) : ∀ {n : Nat}, m ≤ n → kthO p k n = some w := by
  intro n hn
  induction n with
  | zero => rw [show m = 0 by omega] at h; exact h
  | succ n ih =>
    by_cases e : m = n + 1
    · rw [← e]; exact h
    · simp only [kthO, ih (by omega)]
theorem kthF_hit {p : Nat → Bool} {k : Int} {m n : Nat} (h : kthO p k m = none) (h2 : p m = true) (h3 : (ctF p m : Int) = k) (hn : m < n) : kthF p n k = (m : Int) := by
  unfold kthF
  rw [kthO_keep (kthO_1 h h2 h3) hn]
  rfl
theorem kthF_miss {p : Nat → Bool} {k : Int} {n : Nat} (h : kthO p k n = none) : kthF p n k = -2 := by
  unfold kthF
  rw [h]
  rfl
/-- the first marked one with the least f -/
def amO (p : Nat → Bool) (f : Nat → Nat) : Nat → Option Nat
  | 0 => none
  | n + 1 => match amO p f n with
    | none => if p n then some n else none
    | some b => if p n = true ∧ f n < f b then some n else some b
/-- the greatest f of marked ones -/
def mxF (p : Nat → Bool) (f : Nat → Nat) : Nat → Nat
  | 0 => 0
  | n + 1 => if p n = true ∧ mxF p f n < f n then f n else mxF p f n
/-- the least f of marked ones, with b beside them -/
def mnO (p : Nat → Bool) (f : Nat → Nat) (b : Option Nat) : Nat → Option Nat
  | 0 => b
  | n + 1 => if p n then match mnO p f b n with
      | none => some (f n)
      | some a => if f n < a then some (f n) else some a
    else mnO p f b n
def lsF (P : Nat → Bool) : Nat → Nat → Nat
  | 0, r => r
  | n + 1, r => if P r then r else lsF P n (r + 1)
def tmF (C : Cd) (r w : Nat) : Nat := ctF (fun v => cM C v && decide (cF C w v ≤ r)) (cW C)
def hlF (C : Cd) (r : Nat) : Nat := ctF (fun w => decide (tmF C r w = 0)) (cW C)
def blF (C : Cd) (r : Nat) : Nat := ctF (fun v => decide (cF C 0 v ≤ r)) (cW C)
def rdF (C : Cd) : Nat := lsF (fun r => decide (hlF C r = 0)) 25 0
def apO (C : Cd) : Nat → Option Nat
  | 0 => none
  | w + 1 => mnO (fun v => cM C w && cM C v) (fun v => cF C w v) (apO C w) w
def prF (C : Cd) (k : Int) : Nat := smF (fun w => ctF (fun v => cM C w && cM C v && decide ((cF C w v : Int) = k)) w) (cW C)
def exF (C : Cd) (r : Nat) : Nat := smF (fun w => tmF C r w - 1) (cW C)
/-- a word that codeword w covers alone -/
def loF (C : Cd) (r w v : Nat) : Bool := decide (tmF C r v = 1) && decide (cF C w v ≤ r)
def idF (C : Cd) (r w : Nat) : Bool := decide (ctF (loF C r w) (cW C) = 0)
def msF (C : Cd) (w : Nat) : Nat := mxF (cM C) (fun v => cF C w v) (cW C)
def cnF (C : Cd) : Nat := (amO (fun _ => true) (msF C) (cW C)).getD 0
abbrev isK (cs : Nat → Cd) (c : Int) : Prop := 0 ≤ c ∧ c < 8 ∧ 0 < cN (cs c.toNat)
abbrev isPl (cs : Nat → Cd) (c i : Int) : Prop := isK cs c ∧ 0 ≤ i ∧ i < (cN (cs c.toNat) : Int)
abbrev isWd (cs : Nat → Cd) (c w : Int) : Prop := isK cs c ∧ 0 ≤ w ∧ w < (cW (cs c.toNat) : Int)
abbrev isRr (r : Int) : Prop := 0 ≤ r ∧ r ≤ 24
def q_about (cs : Nat → Cd) (c a : Int) : Int × Int := if isK cs c then
    (if a = 0 then ((cN (cs c.toNat) : Nat), 0) else if a = 1 then ((cW (cs c.toNat) : Nat), 0) else if a = 2 then ((ctF (cM (cs c.toNat)) (cW (cs c.toNat)) : Nat), 0) else if a = 3 then ((smF (cT (cs c.toNat)) (cN (cs c.toNat)) : Nat), 0)
      else if a = 4 then (if ctF (cM (cs c.toNat)) (cW (cs c.toNat)) = 0 then (-2, 0) else ((rdF (cs c.toNat) : Nat), 0)) else if a = 5 then (oI (apO (cs c.toNat) (cW (cs c.toNat))), 0) else (-1, 1))
  else (-1, 1)
def q_place (cs : Nat → Cd) (c i a : Int) : Int × Int := if isPl cs c i ∧ 0 ≤ a ∧ a ≤ 1 then (if a = 0 then ((cS (cs c.toNat) i.toNat : Nat), 0) else ((cT (cs c.toNat) i.toNat : Nat), 0)) else (-1, 1)
def q_word (cs : Nat → Cd) (c k : Int) : Int × Int := if isK cs c ∧ 0 ≤ k then (kthF (cM (cs c.toNat)) (cW (cs c.toNat)) k, 0) else (-1, 1)
def q_has (cs : Nat → Cd) (c w : Int) : Int × Int := if isWd cs c w then (bI (cM (cs c.toNat) w.toNat), 0) else (-1, 1)
def q_digit (cs : Nat → Cd) (c w i : Int) : Int × Int := if isWd cs c w ∧ isPl cs c i then ((cD (cs c.toNat) w.toNat i.toNat : Nat), 0) else (-1, 1)
def q_far (cs : Nat → Cd) (c w v : Int) : Int × Int := if isWd cs c w ∧ isWd cs c v then ((cF (cs c.toNat) w.toNat v.toNat : Nat), 0) else (-1, 1)
def q_ball (cs : Nat → Cd) (c r : Int) : Int × Int := if isK cs c then (if isRr r then ((blF (cs c.toNat) r.toNat : Nat), 0) else (-1, 2)) else (-1, 1)
def q_ballAt (cs : Nat → Cd) (c w r k : Int) : Int × Int := if isWd cs c w ∧ 0 ≤ k then (if isRr r then (kthF (fun v => decide (cF (cs c.toNat) w.toNat v ≤ r.toNat)) (cW (cs c.toNat)) k, 0) else (-1, 2)) else (-1, 1)
def q_covered (cs : Nat → Cd) (c r : Int) : Int × Int := if isK cs c then (if isRr r then ((cW (cs c.toNat) : Int) - (hlF (cs c.toNat) r.toNat : Int), 0) else (-1, 2)) else (-1, 1)
def q_times (cs : Nat → Cd) (c w r : Int) : Int × Int := if isWd cs c w then (if isRr r then ((tmF (cs c.toNat) r.toNat w.toNat : Nat), 0) else (-1, 2)) else (-1, 1)
def q_table (cs : Nat → Cd) (c r k : Int) : Int × Int := if isK cs c then (if isRr r ∧ 0 ≤ k then ((ctF (fun w => decide ((tmF (cs c.toNat) r.toNat w : Int) = k)) (cW (cs c.toNat)) : Nat), 0) else (-1, 2)) else (-1, 1)
def q_hole (cs : Nat → Cd) (c r k : Int) : Int × Int := if isK cs c ∧ 0 ≤ k then (if isRr r then (kthF (fun w => decide (tmF (cs c.toNat) r.toNat w = 0)) (cW (cs c.toNat)) k, 0) else (-1, 2)) else (-1, 1)
def q_idle (cs : Nat → Cd) (c r k : Int) : Int × Int := if isK cs c ∧ 0 ≤ k then (if isRr r then (kthF (fun w => cM (cs c.toNat) w && idF (cs c.toNat) r.toNat w) (cW (cs c.toNat)) k, 0) else (-1, 2)) else (-1, 1)
def q_excess (cs : Nat → Cd) (c r : Int) : Int × Int := if isK cs c then (if isRr r then ((exF (cs c.toNat) r.toNat : Nat), 0) else (-1, 2)) else (-1, 1)
def q_bound (cs : Nat → Cd) (c r : Int) : Int × Int := if isK cs c then (if isRr r then (((cW (cs c.toNat) : Int) + (blF (cs c.toNat) r.toNat : Int) - 1) / (blF (cs c.toNat) r.toNat : Int), 0) else (-1, 2)) else (-1, 1)
def q_pairs (cs : Nat → Cd) (c k : Int) : Int × Int := if isK cs c then (if 0 ≤ k then ((prF (cs c.toNat) k : Nat), 0) else (-1, 2)) else (-1, 1)
def q_centre (cs : Nat → Cd) (c a : Int) : Int × Int := if isK cs c ∧ 0 ≤ a ∧ a ≤ 1 then (if ctF (cM (cs c.toNat)) (cW (cs c.toNat)) = 0 then (-1, 5) else if a = 0 then ((cnF (cs c.toNat) : Nat), 0) else ((msF (cs c.toNat) (cnF (cs c.toNat)) : Nat), 0)) else (-1, 1)
def q_nearest (cs : Nat → Cd) (c w : Int) : Int × Int := if isWd cs c w then (match amO (cM (cs c.toNat)) (fun v => cF (cs c.toNat) w.toNat v) (cW (cs c.toNat)) with
  | none => (-1, 5)
  | some b => ((b : Int), 0)) else (-1, 1)
def q_ring (cs : Nat → Cd) (c w k : Int) : Int × Int := if isWd cs c w then (if 0 ≤ k then ((ctF (fun v => cM (cs c.toNat) v && decide ((cF (cs c.toNat) w.toNat v : Int) = k)) (cW (cs c.toNat)) : Nat), 0) else (-1, 2)) else (-1, 1)
def q_column (cs : Nat → Cd) (c i d : Int) : Int × Int := if isPl cs c i then (if 0 ≤ d ∧ d < (cS (cs c.toNat) i.toNat : Int) then ((ctF (fun w => cM (cs c.toNat) w && decide ((cD (cs c.toNat) w i.toNat : Int) = d)) (cW (cs c.toNat)) : Nat), 0) else (-1, 2)) else (-1, 1)
def q_worth (cs : Nat → Cd) (c w r : Int) : Int × Int := if isWd cs c w then (if isRr r then (if cM (cs c.toNat) w.toNat then ((ctF (loF (cs c.toNat) r.toNat w.toNat) (cW (cs c.toNat)) : Nat), 0) else (-1, 5)) else (-1, 2)) else (-1, 1)

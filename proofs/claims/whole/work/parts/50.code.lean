/-! ===== the class: a code ===== -/
theorem sh6 : ∀ w : Nat, w < 256 → ishr (w : Int) 6 = ((w / 64 : Nat) : Int) ∧ iand (w : Int) 63 = ((w % 64 : Nat) : Int) := by decide +kernel
/-- the code in cells k to k + 3 -/
def crep (μ : Mem) (k : Nat) (C : Cd) : Prop := μ.1 k 0 = bI (decide (0 < cN C)) ∧ μ.1 k 1 = (cN C : Int) ∧ μ.1 k 2 = (cW C : Int) ∧ μ.1 k 3 = ((ctF (cM C) (cW C) : Nat) : Int) ∧ (∀ i, i < cN C → μ.1 (k + 1) i = (cS C i : Int) ∧ μ.1 (k + 2) i = (cT C i : Int)) ∧ ∀ w, w < 256 → bt (μ.2 (k + 3) (w / 64)) (w % 64) = cM C w
/-- nothing but the code in k has moved -/
def oC (k : Nat) (μ μ' : Mem) : Prop := ∀ q, (q < k ∨ k + 4 ≤ q) → μ'.1 q = μ.1 q ∧ μ'.2 q = μ.2 q
theorem oC.rf {k : Nat} {μ : Mem} : oC k μ μ := fun _ _ => ⟨rfl, rfl⟩
theorem oC.tr {k : Nat} {μ μ' μ'' : Mem} (h : oC k μ μ') (h2 : oC k μ' μ'') : oC k μ μ'' := fun q hq => ⟨(h2 q hq).1.trans (h q hq).1, (h2 q hq).2.trans (h q hq).2⟩
theorem oC.I {k : Nat} {μ μ' : Mem} {q j : Nat} {v : Int} (h : oC k μ μ') (hq : k ≤ q ∧ q < k + 4) : oC k μ (sI μ' q j v) := h.tr fun p hp => ⟨sI_ne (by omega), rfl⟩
theorem oC.L {k : Nat} {μ μ' : Mem} {q j : Nat} {v : Int64} (h : oC k μ μ') (hq : k ≤ q ∧ q < k + 4) : oC k μ (sL μ' q j v) := h.tr fun p hp => ⟨rfl, sL_ne (by omega)⟩
theorem crep.to {μ μ' : Mem} {k q : Nat} {C : Cd} (h : crep μ k C) (ho : oC q μ μ') (hd : k + 4 ≤ q ∨ q + 4 ≤ k) : crep μ' k C := by
  have h0 := ho k (by omega)
  have h1 := ho (k + 1) (by omega)
  have h2 := ho (k + 2) (by omega)
  have h3 := ho (k + 3) (by omega)
  unfold crep at *
  rw [h0.1, h1.1, h2.1, h3.2]
  exact h
theorem ctF_up {p : Nat → Bool} {w : Nat} {b : Bool} : ∀ {n : Nat}, w < n → ctF (fun v => if v = w then b else p v) n + (if p w then 1 else 0) = ctF p n + (if b then 1 else 0)
  | 0, h => absurd h (Nat.not_lt_zero w)
  | n + 1, h => by
    show ctF (fun v => if v = w then b else p v) n + (if (if n = w then b else p n) = true then 1 else 0) + (if p w then 1 else 0) = ctF p n + (if p n then 1 else 0) + (if b then 1 else 0)
    by_cases e : n = w
    · have h1 : ctF (fun v => if v = w then b else p v) n = ctF p n := ctF_cong fun k hk => if_neg (by omega)
      rw [h1, if_pos e, e]
      omega
    · have h1 := ctF_up (p := p) (w := w) (b := b) (n := n) (by omega)
      rw [if_neg e]
      omega
section CC
variable {μ : Mem} {Q : Int → Mem → Prop} {k : Nat} {C : Cd}
theorem bt_at {a : Int64} {j : Nat} (hj : j < 64) : lcm_ ((lushr a (j : Int)) &&& (1 : Int64)) (0 : Int64) = 0 ↔ bt a j = false := by
  rw [lcm_eq, ← bt_lushr0 hj]
  constructor
  · intro h
    have := congrArg (fun z => bt z 0) h
    rw [bt_and, bt_1, bt_0] at this
    simpa using this
  · intro h
    apply bt_ext
    intro i hi
    rw [bt_and, bt_1, bt_0]
    by_cases e : i = 0
    · rw [e, h]; rfl
    · rw [decide_eq_false e, Bool.and_false]
theorem s1_holds {w : Nat} (h : crep μ k C) (hC : okC C) (hq : Q (bI (cM C w)) μ) : wp_X1_holds k w μ Q := by
  have h8 := hC.2.2.2.1
  refine ⟨fun q => absurd q (by omega), fun _ => ?_⟩
  rw [h.2.2.1]
  refine ⟨fun q => ?_, fun q => ?_⟩
  · have : cM C w = false := by
      cases e : cM C w
      · rfl
      · exact absurd (hC.2.2.2.2.1 w e) (by omega)
    rw [this] at hq; exact hq
  · have hw : w < 256 := by omega
    rw [(sh6 w hw).1, (sh6 w hw).2, Int.toNat_natCast, bt_at (Nat.mod_lt _ (by omega)), h.2.2.2.2.2 w hw]
    refine ⟨by omega, fun q2 => ?_, fun q2 => ?_⟩
    · rw [q2] at hq; exact hq
    · have : cM C w = true := by cases e : cM C w <;> simp_all
      rw [this] at hq; exact hq
theorem s1_holds_i {w : Int} (h : crep μ k C) (hC : okC C) (h0 : w < 0 → Q 0 μ) (h1 : 0 ≤ w → Q (bI (cM C w.toNat)) μ) : wp_X1_holds k w μ Q := by
  by_cases q : w < 0
  · exact ⟨fun _ => h0 q, fun y => absurd q y⟩
  · obtain ⟨n, rfl⟩ := Int.eq_ofNat_of_zero_le (show 0 ≤ w by omega)
    exact s1_holds h hC (h1 (by omega))
theorem bits_set {w : Nat} {b : Bool} {f g : Nat → Int64} (hf : ∀ v, v < 256 → bt (f (v / 64)) (v % 64) = cM C v) (hw : w < 256) (hg : ∀ q, q ≠ w / 64 → g q = f q) (hb : ∀ j, j < 64 → bt (g (w / 64)) j = if j = w % 64 then b else bt (f (w / 64)) j) : ∀ v, v < 256 → bt (g (v / 64)) (v % 64) = cM (setM C w b) v := by
  intro v hv
  show _ = (if v = w then b else cM C v)
  by_cases e : v / 64 = w / 64
  · rw [e, hb _ (Nat.mod_lt _ (by omega))]
    by_cases e2 : v = w
    · rw [if_pos e2, if_pos (by rw [e2])]
    · rw [if_neg e2, if_neg (by omega), ← e]; exact hf v hv
  · rw [hg _ e, if_neg (fun x => e (by rw [x]))]; exact hf v hv
theorem s1_put {w : Nat} {Q : Mem → Prop} (h : crep μ k C) (hC : okC C) (hw : w < cW C) (hq : ∀ μ', oC k μ μ' → crep μ' k (setM C w true) → Q μ') : wp_X1_put k w μ Q := by
  have h8 := hC.2.2.2.1
  refine ⟨fun q => absurd q (by omega), fun _ => ?_⟩
  rw [h.2.2.1]
  refine ⟨fun q => absurd q (by omega), fun _ => s1_holds h hC ⟨fun q => ?_, fun q => ?_⟩⟩
  · have e : setM C w true = C := by
      have hm := bI_n0.mp q
      unfold setM
      refine Prod.ext rfl (Prod.ext rfl (Prod.ext rfl (funext fun v => ?_)))
      show (if v = w then true else cM C v) = cM C v
      split
      · rename_i e; rw [e]; exact hm.symm
      · rfl
    exact hq μ oC.rf (by rw [e]; exact h)
  · have hm := bI_0.mp q
    have hc := ctF_up (p := cM C) (b := true) hw
    rw [hm] at hc
    have hcl := ctF_le (cM C) (cW C)
    have hc : ctF (fun v => if v = w then true else cM C v) (cW C) = ctF (cM C) (cW C) + 1 := by simpa using hc
    rw [(sh6 w (by omega)).1, (sh6 w (by omega)).2, Int.toNat_natCast]
    refine ⟨by omega, fun μ7 e7 => ?_⟩
    have c3 : μ7.1 k 3 = ((ctF (cM C) (cW C) : Nat) : Int) := by rw [e7]; exact h.2.2.2.1
    rw [c3]
    refine ⟨inR_i (by omega) (by omega), fun μ9 e9 => hq μ9 (by rw [e9, e7]; exact (oC.rf.L (by omega)).I (by omega)) ?_⟩
    have ni : ∀ q j, ¬ (q = k ∧ j = 3) → μ9.1 q j = μ.1 q j := fun q j hn => by
      rw [e9, e7]
      show (if q = k ∧ j = 3 then _ else μ.1 q j) = μ.1 q j
      exact if_neg hn
    refine ⟨by rw [ni _ _ (by omega)]; exact h.1, by rw [ni _ _ (by omega)]; exact h.2.1, by rw [ni _ _ (by omega)]; exact h.2.2.1, ?_, fun i hi => ⟨by rw [ni _ _ (by omega)]; exact (h.2.2.2.2.1 i hi).1, by rw [ni _ _ (by omega)]; exact (h.2.2.2.2.1 i hi).2⟩, ?_⟩
    · rw [e9, sI_s]
      show _ = ((ctF (fun v => if v = w then true else cM C v) (cW C) : Nat) : Int)
      rw [hc]; rfl
    · rw [e9, sI_2, e7]
      refine bits_set h.2.2.2.2.2 (by omega) (fun q hq2 => sL_nj hq2) (fun j hj => ?_)
      rw [sL_s', bt_or, bt_one (Nat.mod_lt _ (by omega)) hj]
      by_cases e : j = w % 64
      · rw [decide_eq_true e, Bool.or_true, if_pos e]
      · rw [decide_eq_false e, Bool.or_false, if_neg e]
theorem s1_drop {w : Nat} {Q : Mem → Prop} (h : crep μ k C) (hC : okC C) (hw : w < cW C) (hq : ∀ μ', oC k μ μ' → crep μ' k (setM C w false) → Q μ') : wp_X1_drop k w μ Q := by
  have h8 := hC.2.2.2.1
  refine s1_holds h hC ⟨fun q => ?_, fun q => ?_⟩
  · have e : setM C w false = C := by
      have hm := bI_0.mp q
      unfold setM
      refine Prod.ext rfl (Prod.ext rfl (Prod.ext rfl (funext fun v => ?_)))
      show (if v = w then false else cM C v) = cM C v
      split
      · rename_i e; rw [e]; exact hm.symm
      · rfl
    exact hq μ oC.rf (by rw [e]; exact h)
  · have hm := bI_n0.mp q
    have hc := ctF_up (p := cM C) (b := false) hw
    rw [hm] at hc
    have hcl := ctF_le (cM C) (cW C)
    have hc : ctF (fun v => if v = w then false else cM C v) (cW C) + 1 = ctF (cM C) (cW C) := by simpa using hc
    rw [(sh6 w (by omega)).1, (sh6 w (by omega)).2, Int.toNat_natCast]
    refine ⟨by omega, fun μ7 e7 => ?_⟩
    have c3 : μ7.1 k 3 = ((ctF (cM C) (cW C) : Nat) : Int) := by rw [e7]; exact h.2.2.2.1
    rw [c3]
    refine ⟨inR_i (by omega) (by omega), fun μ9 e9 => hq μ9 (by rw [e9, e7]; exact (oC.rf.L (by omega)).I (by omega)) ?_⟩
    have ni : ∀ q j, ¬ (q = k ∧ j = 3) → μ9.1 q j = μ.1 q j := fun q j hn => by
      rw [e9, e7]
      show (if q = k ∧ j = 3 then _ else μ.1 q j) = μ.1 q j
      exact if_neg hn
    refine ⟨by rw [ni _ _ (by omega)]; exact h.1, by rw [ni _ _ (by omega)]; exact h.2.1, by rw [ni _ _ (by omega)]; exact h.2.2.1, ?_, fun i hi => ⟨by rw [ni _ _ (by omega)]; exact (h.2.2.2.2.1 i hi).1, by rw [ni _ _ (by omega)]; exact (h.2.2.2.2.1 i hi).2⟩, ?_⟩
    · rw [e9, sI_s]
      show _ = ((ctF (fun v => if v = w then false else cM C v) (cW C) : Nat) : Int)
      omega
    · rw [e9, sI_2, e7]
      refine bits_set h.2.2.2.2.2 (by omega) (fun q hq2 => sL_nj hq2) (fun j hj => ?_)
      rw [sL_s', bt_and, bt_xor, bt_m1 hj, bt_one (Nat.mod_lt _ (by omega)) hj]
      by_cases e : j = w % 64
      · rw [decide_eq_true e, if_pos e]
        cases bt (μ.2 (k + 3) (w / 64)) j <;> rfl
      · rw [decide_eq_false e, if_neg e]
        cases bt (μ.2 (k + 3) (w / 64)) j <;> rfl
end CC

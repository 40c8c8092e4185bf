/-! greedy, thin, better -/
def hoF (C : Cd) (r v x : Nat) : Bool := decide (tmF C r x = 0) && decide (cF C v x ≤ r)
def gnF (C : Cd) (r v : Nat) : Nat := ctF (hoF C r v) (cW C)
/-- the first with the most f -/
def axF (f : Nat → Nat) : Nat → Nat
  | 0 => 0
  | n + 1 => if f (axF f n) < f n then n else axF f n
theorem axF_lt {f : Nat → Nat} : ∀ {n : Nat}, 0 < n → axF f n < n
  | 0, h => absurd h (Nat.lt_irrefl 0)
  | n + 1, _ => by
    show (if f (axF f n) < f n then n else axF f n) < n + 1
    split
    · omega
    · cases n with
      | zero => exact Nat.one_pos
      | succ m => have := axF_lt (f := f) (n := m + 1) (Nat.succ_pos m); omega
theorem axF_ge {f : Nat → Nat} : ∀ {n k : Nat}, k < n → f k ≤ f (axF f n)
  | 0, k, h => absurd h (Nat.not_lt_zero k)
  | n + 1, k, h => by
    show f k ≤ f (if f (axF f n) < f n then n else axF f n)
    by_cases q : f (axF f n) < f n
    · rw [if_pos q]
      by_cases e : k = n
      · rw [e]; exact Nat.le_refl _
      · have := axF_ge (f := f) (n := n) (k := k) (by omega); omega
    · rw [if_neg q]
      by_cases e : k = n
      · rw [e]; omega
      · exact axF_ge (by omega)
def exB (C : Cd) (r a b x : Nat) : Bool := decide (tmF C r x + (if cF C b x ≤ r then 1 else 0) = (if cF C a x ≤ r then 1 else 0))
def xcF (C : Cd) (r a b : Nat) : Nat := ctF (exB C r a b) (cW C)
def grF (r : Nat) : Nat → Cd → Nat → Cd × Nat
  | 0, C, n => (C, n)
  | k + 1, C, n => if hlF C r = 0 then (C, n) else grF r k (setM C (axF (gnF C r) (cW C)) true) (n + 1)
def thF (r : Nat) : Nat → Cd → Nat → Cd × Nat
  | 0, C, n => (C, n)
  | w + 1, C, n => if cM C w = true ∧ idF C r w = true then thF r w (setM C w false) (n + 1) else thF r w C n
abbrev Ex : Type := Nat × Option (Nat × Nat)
def biF (C : Cd) (r a : Nat) (s : Ex) : Nat → Ex
  | 0 => s
  | v + 1 => if cM C a = true ∧ cM C v = false ∧ xcF C r a v < (biF C r a s v).1 then (xcF C r a v, some (a, v)) else biF C r a s v
def boF (C : Cd) (r : Nat) : Nat → Ex
  | 0 => (hlF C r, none)
  | a + 1 => biF C r a (boF C r a) (cW C)
def btF (r : Nat) : Nat → Cd → Nat → Cd × Nat
  | 0, C, n => (C, n)
  | k + 1, C, n => match (boF C r (cW C)).2 with
    | none => (C, n)
    | some (a, b) => btF r k (setM (setM C a false) b true) (n + 1)
def a_new (cs : Nat → Cd) (hs : List (Nat → Cd)) (c : Int) (P : Cd × Nat) : AR := (((P.2 : Nat), 0), updC cs c.toNat P.1, push10 cs hs)
def a_greedy (cs : Nat → Cd) (hs : List (Nat → Cd)) (c r : Int) : AR := if isK cs c then (if isRr r then a_new cs hs c (grF r.toNat 256 (cs c.toNat) 0) else a_no cs hs 2) else a_no cs hs 1
def a_thin (cs : Nat → Cd) (hs : List (Nat → Cd)) (c r : Int) : AR := if isK cs c then (if isRr r then a_new cs hs c (thF r.toNat (cW (cs c.toNat)) (cs c.toNat) 0) else a_no cs hs 2) else a_no cs hs 1
def a_better (cs : Nat → Cd) (hs : List (Nat → Cd)) (c r : Int) : AR := if isK cs c then (if isRr r then (if cW (cs c.toNat) ≤ 81 then a_new cs hs c (btF r.toNat 99 (cs c.toNat) 0) else a_no cs hs 5) else a_no cs hs 2) else a_no cs hs 1
theorem updC_self (cs : Nat → Cd) (n : Nat) : updC cs n (cs n) = cs := funext fun k => by
  unfold updC
  by_cases e : k = n
  · rw [if_pos e, e]
  · rw [if_neg e]
theorem updC_2 (cs : Nat → Cd) (n : Nat) (C D : Cd) : updC (updC cs n C) n D = updC cs n D := funext fun k => by
  unfold updC
  by_cases e : k = n
  · rw [if_pos e, if_pos e]
  · rw [if_neg e, if_neg e, if_neg e]
theorem updC_at (cs : Nat → Cd) (n : Nat) (C : Cd) : updC cs n C n = C := if_pos rfl
theorem ctF_imp {p q : Nat → Bool} : ∀ {n : Nat}, (∀ k, k < n → p k = true → q k = true) → ctF p n ≤ ctF q n
  | 0, _ => Nat.le_refl _
  | n + 1, h => by
    have h1 := ctF_imp (p := p) (q := q) (n := n) fun k hk => h k (by omega)
    show ctF p n + (if p n then 1 else 0) ≤ ctF q n + (if q n then 1 else 0)
    cases hp : p n
    · simp; omega
    · rw [h n (by omega) hp]; simp; omega
theorem ctF_imp_lt {p q : Nat → Bool} : ∀ {n x : Nat}, (∀ k, k < n → p k = true → q k = true) → x < n → p x = false → q x = true → ctF p n < ctF q n
  | 0, x, _, hx, _, _ => absurd hx (Nat.not_lt_zero x)
  | n + 1, x, h, hx, h0, h1 => by
    show ctF p n + (if p n then 1 else 0) < ctF q n + (if q n then 1 else 0)
    by_cases e : x = n
    · have h2 := ctF_imp (p := p) (q := q) (n := n) fun k hk => h k (by omega)
      rw [← e, h0, h1]
      rw [← e] at h2
      simp; omega
    · have h2 := ctF_imp_lt (n := n) (fun k hk => h k (by omega)) (by omega) h0 h1
      cases hp : p n
      · simp; omega
      · rw [h n (by omega) hp]; simp; omega
theorem cW_setM (C : Cd) (w : Nat) (b : Bool) : cW (setM C w b) = cW C := rfl
theorem cF_setM (C : Cd) (w : Nat) (b : Bool) (x y : Nat) : cF (setM C w b) x y = cF C x y := rfl
/-- a word more covers a hole: fewer holes -/
theorem hlF_setM {C : Cd} {r b : Nat} (hb : b < cW C) (hg : 0 < gnF C r b) : hlF (setM C b true) r < hlF C r := by
  obtain ⟨x, hx, hox⟩ := ctF_pos.mp hg
  have hox : (decide (tmF C r x = 0) && decide (cF C b x ≤ r)) = true := hox
  rw [Bool.and_eq_true, decide_eq_true_eq, decide_eq_true_eq] at hox
  refine ctF_imp_lt (x := x) (fun k hk h0 => ?_) hx ?_ (decide_eq_true hox.1)
  · rw [decide_eq_true_eq] at h0 ⊢
    have : tmF C r k ≤ tmF (setM C b true) r k := ctF_imp fun v hv hp => by
      show ((if v = b then true else cM C v) && decide (cF C k v ≤ r)) = true
      rw [Bool.and_eq_true] at hp ⊢
      refine ⟨?_, hp.2⟩
      split
      · rfl
      · exact hp.1
    omega
  · apply decide_eq_false
    intro h0
    have := ctF_zero.mp h0 b hb
    have this : ((if b = b then true else cM C b) && decide (cF C x b ≤ r)) = false := this
    rw [if_pos rfl, Bool.true_and, cF_symm, decide_eq_true hox.2] at this
    cases this
theorem gn_best {C : Cd} {r : Nat} (h : 0 < hlF C r) : 0 < gnF C r (axF (gnF C r) (cW C)) := by
  obtain ⟨x, hx, h0⟩ := ctF_pos.mp h
  have h1 : 0 < gnF C r x := ctF_pos.mpr ⟨x, hx, by
    show (decide (tmF C r x = 0) && decide (cF C x x ≤ r)) = true
    rw [h0, cF_self, decide_eq_true (Nat.zero_le r)]; rfl⟩
  have := axF_ge (f := gnF C r) hx
  omega
theorem cN_setM (C : Cd) (w : Nat) (b : Bool) : cN (setM C w b) = cN C := rfl
section RX
variable {μ : Mem} {cs : Nat → Cd} {hs : List (Nat → Cd)} {Q : Int → Mem → Prop} {c w v i j k r a d p to one other size weight : Int}
theorem s_holesBy {n r v : Nat} {C : Cd} (h : mrow μ n C) (hn : n < 14) (hC : okC C) (hv : v ≤ 1000) (ht : ∀ u, u < cW C → μ.1 121 u = (tmF C r u : Nat)) (hq : Q (gnF C r v : Nat) μ) : wp_X8_holesBy n v r μ Q := by
  have h8 := hC.2.2.2.1
  refine LP6_rule (fun (v1 v2 v3 v4 v5 : Int) (μ2 : Mem) => v1 = (n : Int) ∧ v2 = (v : Int) ∧ v3 = (r : Int) ∧ μ2 = μ ∧ ∃ i : Nat, v5 = (i : Int) ∧ i ≤ cW C ∧ v4 = ((ctF (hoF C r v) i : Nat) : Int)) (fun _ _ _ _ v5 _ => ((cW C : Int) - v5).toNat) ?_ ⟨rfl, rfl, rfl, rfl, 0, rfl, Nat.zero_le _, rfl⟩
  rintro X v1 v2 v3 v4 v5 μ2 ⟨rfl, rfl, rfl, rfl, i, rfl, hi, rfl⟩ hX
  have hl := ctF_le (hoF C r v) i
  refine s_words h hn hC ⟨fun q => ?_, fun q => ?_⟩
  · have e : i = cW C := by omega
    subst e
    exact hq
  · have hs : ctF (hoF C r v) (i + 1) = ctF (hoF C r v) i + (if hoF C r v i then 1 else 0) := rfl
    have hpj : hoF C r v i = (decide (tmF C r i = 0) && decide (cF C v i ≤ r)) := rfl
    have fin : ∀ s1 : Int, s1 = (if hoF C r v i then 1 else 0) → wp_X8_holesBy_45 Q X (n : Int) (v : Int) (r : Int) (i : Int) ((ctF (hoF C r v) i : Nat) : Int) s1 μ2 := by
      intro s1 es
      have h01 : 0 ≤ s1 ∧ s1 ≤ 1 := by rw [es]; split <;> omega
      refine ⟨inR_i (by omega) (by omega), fun x e => ⟨inR_i (by omega) (by omega), hX _ _ _ _ _ _ ⟨rfl, rfl, rfl, rfl, i + 1, rfl, by omega, ?_⟩ (by omega)⟩⟩
      rw [e, es, hs]
      cases hoF C r v i <;> simp
    refine ⟨by omega, ?_⟩
    rw [Int.toNat_natCast, ht i (by omega)]
    refine ⟨fun q3 => fin 0 (by rw [hpj, decide_eq_false (show ¬ tmF C r i = 0 by omega)]; rfl), fun q3 => s_farOf h hn hC (by omega) (by omega) ⟨fun q4 => fin 0 (by rw [hpj, decide_eq_false (show ¬ cF C v i ≤ r by omega), Bool.and_false]; rfl), fun q4 => fin 1 (by rw [hpj, decide_eq_true (show tmF C r i = 0 by omega), decide_eq_true (show cF C v i ≤ r by omega)]; rfl)⟩⟩
theorem s_holesIf {n r v y : Nat} {C : Cd} (h : mrow μ n C) (hn : n < 14) (hC : okC C) (hv : v ≤ 1000) (hy : y ≤ 1000) (ht : ∀ u, u < cW C → μ.1 121 u = (tmF C r u : Nat)) (hq : Q (xcF C r v y : Nat) μ) : wp_X8_holesIf n v y r μ Q := by
  have h8 := hC.2.2.2.1
  refine LP7_rule (fun (v1 v2 v3 v4 v5 v6 : Int) (μ2 : Mem) => v1 = (n : Int) ∧ v2 = (v : Int) ∧ v3 = (y : Int) ∧ v4 = (r : Int) ∧ μ2 = μ ∧ ∃ i : Nat, v6 = (i : Int) ∧ i ≤ cW C ∧ v5 = ((ctF (exB C r v y) i : Nat) : Int)) (fun _ _ _ _ _ v6 _ => ((cW C : Int) - v6).toNat) ?_ ⟨rfl, rfl, rfl, rfl, rfl, 0, rfl, Nat.zero_le _, rfl⟩
  rintro X v1 v2 v3 v4 v5 v6 μ2 ⟨rfl, rfl, rfl, rfl, rfl, i, rfl, hi, rfl⟩ hX
  have hl := ctF_le (exB C r v y) i
  refine s_words h hn hC ⟨fun q => ?_, fun q => ?_⟩
  · have e : i = cW C := by omega
    subst e
    exact hq
  · have hs : ctF (exB C r v y) (i + 1) = ctF (exB C r v y) i + (if exB C r v y i then 1 else 0) := rfl
    have fin : ∀ s1 : Int, s1 = (if exB C r v y i then 1 else 0) → wp_X8_holesIf_75 Q X (n : Int) (v : Int) (y : Int) (r : Int) (i : Int) ((ctF (exB C r v y) i : Nat) : Int) s1 μ2 := by
      intro s1 es
      have h01 : 0 ≤ s1 ∧ s1 ≤ 1 := by rw [es]; split <;> omega
      refine ⟨inR_i (by omega) (by omega), fun x e => ⟨inR_i (by omega) (by omega), hX _ _ _ _ _ _ _ ⟨rfl, rfl, rfl, rfl, rfl, i + 1, rfl, by omega, ?_⟩ (by omega)⟩⟩
      rw [e, es, hs]
      cases exB C r v y i <;> simp
    have htl : tmF C r i ≤ cW C := ctF_le _ _
    have fin2 : ∀ s0 s1 : Int, s0 = (tmF C r i : Int) - (if cF C v i ≤ r then 1 else 0) → s1 = (if cF C y i ≤ r then 1 else 0) → wp_X8_holesIf_60 Q X (n : Int) (v : Int) (y : Int) (r : Int) ((ctF (exB C r v y) i : Nat) : Int) (i : Int) s0 s1 μ2 := by
      intro s0 s1 e0 e1
      have b0 : -1 ≤ s0 ∧ s0 ≤ 256 := by rw [e0]; split <;> omega
      have b1 : 0 ≤ s1 ∧ s1 ≤ 1 := by rw [e1]; split <;> omega
      refine ⟨inR_i (by omega) (by omega), fun x12 e12 => ?_⟩
      have hx : x12 = 0 ↔ exB C r v y i = true := by
        unfold exB
        rw [decide_eq_true_eq, e12, e0, e1]
        split <;> split <;> omega
      refine ⟨fun q5 => fin 0 ?_, fun q5 => fin 1 (by rw [hx.mp q5]; rfl)⟩
      cases hb : exB C r v y i
      · rfl
      · exact absurd (hx.mpr hb) q5
    have fin3 : ∀ s1 : Int, s1 = (if cF C v i ≤ r then 1 else 0) → wp_X8_holesIf_41 Q X (n : Int) (v : Int) (y : Int) (r : Int) ((ctF (exB C r v y) i : Nat) : Int) (i : Int) (tmF C r i : Int) s1 μ2 := by
      intro s1 e1
      have b1 : 0 ≤ s1 ∧ s1 ≤ 1 := by rw [e1]; split <;> omega
      exact s_farOf h hn hC (by omega) (by omega) ⟨fun q4 => ⟨inR_i (by omega) (by omega), fin2 _ 0 (by rw [e1]) (by rw [if_neg (by omega)])⟩, fun q4 => ⟨inR_i (by omega) (by omega), fin2 _ 1 (by rw [e1]) (by rw [if_pos (by omega)])⟩⟩
    refine ⟨by omega, s_farOf h hn hC (by omega) (by omega) ?_⟩
    rw [Int.toNat_natCast, ht i (by omega)]
    exact ⟨fun q4 => fin3 0 (by rw [if_neg (by omega)]), fun q4 => fin3 1 (by rw [if_pos (by omega)])⟩
/-- the times stand written: nothing of the codes has moved -/
theorem ms.t {μ2 μ3 : Mem} (h : ms μ μ2 cs hs) (ho : o121 μ2 μ3) : ms μ μ3 cs hs := h.q ho.mq (by rw [ho.1 115 (by omega)]; exact h.2.2.2)
theorem s8_greedy (hR : mrs μ cs) (hH : mhs μ hs) (HQ : QB Q μ (a_greedy cs hs c r)) : wp_X8_greedy c r μ Q := by
  intro μ1 e1
  have hm := ms_0 hR hH e1
  refine c_isK hm.2.1 (fun n => B0 (a_ref (HQ.at (if_neg n)) hm rfl)) (fun y => B1 ?_)
  have hq : a_greedy cs hs c r = _ := if_pos y
  refine c_isR (fun n => B0 (a_ref (HQ.at (hq.trans (if_neg n))) hm rfl)) (fun y2 => B1 ?_)
  rw [if_pos y2] at hq
  obtain ⟨n, rfl, hn, hp⟩ := y.nat
  obtain ⟨m, rfl, hm24⟩ := y2.nat
  simp only [Int.toNat_natCast] at hq
  have hC := (hR n hn).2
  have h8 := hC.2.2.2.1
  refine s_remembers hm.2.1 hm.2.2.1 (fun μ3 hk hj h2 hH3 => ?_)
  have hm3 := hm.rem hk hj h2 hH3
  refine LP4_rule (fun (v1 v2 v3 : Int) (μ4 : Mem) => v1 = (n : Int) ∧ v2 = (m : Int) ∧ ∃ (C : Cd) (k f : Nat), v3 = (k : Int) ∧ okC C ∧ cN C = cN (cs n) ∧ hlF C m ≤ f ∧ k + f ≤ 256 ∧ grF m f C k = grF m 256 (cs n) 0 ∧ ms μ μ4 (updC cs n C) (push10 cs hs)) (fun _ _ v3 _ => (256 - v3).toNat) ?_ ⟨rfl, rfl, cs n, 0, 256, rfl, hC, rfl, Nat.le_trans (ctF_le _ _) h8, by omega, rfl, by rw [updC_self]; exact hm3⟩
  rintro X v1 v2 v3 μ4 ⟨rfl, rfl, C, k, f, rfl, hC4, hN4, hf, hkf, hg, hm4⟩ hX
  have hr4 : mrow μ4 n C := by have := (hm4.2.1 n hn).1; rw [updC_at] at this; exact this
  have h48 := hC4.2.2.2.1
  refine s_covers hr4 (by omega) hC4 (fun μ5 ho5 ht5 => ?_)
  have hm5 := hm4.t ho5
  have hr5 : mrow μ5 n C := hr4.to (ho5.1 117 (by omega))
  refine ⟨fun q => ?_, fun q => ?_⟩
  · have h0 : hlF C m = 0 := by omega
    have hg' : grF m f C k = (C, k) := by
      cases f with
      | zero => rfl
      | succ f => show (if hlF C m = 0 then (C, k) else _) = _; rw [if_pos h0]
    refine a_good (HQ.at hq) (o := _) ?_ ?_
    · show ms μ μ5 (updC cs (n : Int).toNat (grF m 256 (cs n) 0).1) (push10 cs hs)
      rw [← hg, hg']; exact hm5
    · show (((grF m 256 (cs n) 0).2 : Int), (0 : Int)) = _
      rw [← hg, hg']
  · have hpos : 0 < hlF C m := by omega
    obtain ⟨f', rfl⟩ : ∃ f', f = f' + 1 := ⟨f - 1, by omega⟩
    have hg' : grF m f' (setM C (axF (gnF C m) (cW C)) true) (k + 1) = grF m 256 (cs n) 0 := by
      rw [← hg]
      show _ = (if hlF C m = 0 then (C, k) else _)
      rw [if_neg (by omega)]
    have hcp := hC4.pos
    refine LP6_rule (fun (v1 v2 v3 v4 v5 : Int) (μ6 : Mem) => v1 = (n : Int) ∧ v2 = (m : Int) ∧ v3 = (k : Int) ∧ μ6 = μ5 ∧ ∃ i : Nat, v5 = (i : Int) ∧ 1 ≤ i ∧ i ≤ cW C ∧ v4 = (axF (gnF C m) i : Int)) (fun _ _ _ _ v5 _ => ((cW C : Int) - v5).toNat) ?_ ⟨rfl, rfl, rfl, rfl, 1, rfl, Nat.le_refl 1, by omega, by rw [show axF (gnF C m) 1 = 0 from by have := axF_lt (f := gnF C m) (n := 1) Nat.one_pos; omega]; rfl⟩
    rintro X6 v1 v2 v3 v4 v5 μ6 ⟨rfl, rfl, rfl, rfl, i, rfl, h1, hi, rfl⟩ hX6
    refine s_words hr5 (by omega) hC4 ⟨fun q2 => ?_, fun q2 => ?_⟩
    · have ei : i = cW C := by omega
      subst ei
      have hb := axF_lt (f := gnF C m) hcp
      refine s_marks (b := true) (by omega) hr5 (by omega) hC4.1 rfl (fun μ7 ho7 hr7 => ⟨inR_i (by omega) (by omega), hX _ _ _ _ ⟨rfl, rfl, setM C (axF (gnF C m) (cW C)) true, k + 1, f', rfl, okC_setM hC4 hb (by omega) true, hN4, ?_, by omega, hg', ?_⟩ (by omega)⟩)
      · have := hlF_setM hb (gn_best hpos); omega
      · have := hm5.put ho7 hr7 (okC_setM hC4 hb (by omega) true); rw [updC_2] at this; exact this
    · have hb := axF_lt (f := gnF C m) (n := i) (by omega)
      have hsx : axF (gnF C m) (i + 1) = if gnF C m (axF (gnF C m) i) < gnF C m i then i else axF (gnF C m) i := rfl
      refine s_holesBy hr5 (by omega) hC4 (by omega) ht5 (s_holesBy hr5 (by omega) hC4 (by omega) ht5 ⟨fun q3 => ?_, fun q3 => ?_⟩)
      · exact ⟨inR_i (by omega) (by omega), hX6 _ _ _ _ _ _ ⟨rfl, rfl, rfl, rfl, i + 1, rfl, by omega, by omega, by rw [hsx, if_neg (by omega)]⟩ (by omega)⟩
      · exact ⟨inR_i (by omega) (by omega), hX6 _ _ _ _ _ _ ⟨rfl, rfl, rfl, rfl, i + 1, rfl, by omega, by omega, by rw [hsx, if_pos (by omega)]⟩ (by omega)⟩
theorem s8_thin (hR : mrs μ cs) (hH : mhs μ hs) (HQ : QB Q μ (a_thin cs hs c r)) : wp_X8_thin c r μ Q := by
  intro μ1 e1
  have hm := ms_0 hR hH e1
  refine c_isK hm.2.1 (fun n => B0 (a_ref (HQ.at (if_neg n)) hm rfl)) (fun y => B1 ?_)
  have hq : a_thin cs hs c r = _ := if_pos y
  refine c_isR (fun n => B0 (a_ref (HQ.at (hq.trans (if_neg n))) hm rfl)) (fun y2 => B1 ?_)
  rw [if_pos y2] at hq
  obtain ⟨n, rfl, hn, hp⟩ := y.nat
  obtain ⟨m, rfl, hm24⟩ := y2.nat
  simp only [Int.toNat_natCast] at hq
  have hC := (hR n hn).2
  have h8 := hC.2.2.2.1
  refine s_remembers hm.2.1 hm.2.2.1 (fun μ3 hk hj h2 hH3 => ?_)
  have hm3 := hm.rem hk hj h2 hH3
  refine s_words (hm3.2.1 n hn).1 (by omega) hC ⟨inR_i (by omega) (by omega), fun x11 e11 => ?_⟩
  refine LP5_rule (fun (v1 v2 v3 v4 : Int) (μ4 : Mem) => v1 = (n : Int) ∧ v2 = (m : Int) ∧ ∃ (C : Cd) (k f : Nat), v3 = (k : Int) ∧ v4 = (f : Int) - 1 ∧ okC C ∧ cN C = cN (cs n) ∧ f ≤ cW C ∧ k + f ≤ 256 ∧ thF m f C k = thF m (cW (cs n)) (cs n) 0 ∧ ms μ μ4 (updC cs n C) (push10 cs hs)) (fun _ _ _ v4 _ => (v4 + 1).toNat) ?_ ⟨rfl, rfl, cs n, 0, cW (cs n), rfl, e11, hC, rfl, Nat.le_refl _, by omega, rfl, by rw [updC_self]; exact hm3⟩
  rintro X v1 v2 v3 v4 μ4 ⟨rfl, rfl, C, k, f, rfl, rfl, hC4, hN4, hf, hkf, hg, hm4⟩ hX
  have hr4 : mrow μ4 n C := by have := (hm4.2.1 n hn).1; rw [updC_at] at this; exact this
  have h48 := hC4.2.2.2.1
  refine ⟨fun q => ?_, fun q => ?_⟩
  · have h0 : f = 0 := by omega
    subst h0
    refine a_good (HQ.at hq) (o := _) ?_ ?_
    · show ms μ μ4 (updC cs (n : Int).toNat (thF m (cW (cs n)) (cs n) 0).1) (push10 cs hs)
      rw [← hg]; exact hm4
    · show (((thF m (cW (cs n)) (cs n) 0).2 : Int), (0 : Int)) = _
      rw [← hg]; rfl
  · obtain ⟨f', rfl⟩ : ∃ f', f = f' + 1 := ⟨f - 1, by omega⟩
    rw [show ((f' + 1 : Nat) : Int) - 1 = (f' : Int) by omega] at *
    have hu : thF m (f' + 1) C k = if cM C f' = true ∧ idF C m f' = true then thF m f' (setM C f' false) (k + 1) else thF m f' C k := rfl
    rw [hu] at hg
    refine s_isIn hr4 (by omega) (by omega) ⟨fun q2 => ⟨fun _ => ?_, fun w => absurd rfl w⟩, fun q2 => ?_⟩
    · rw [if_neg (fun y => by rw [bI_0.mp q2] at y; exact absurd y.1 (by decide))] at hg
      exact ⟨inR_i (by omega) (by omega), hX _ _ _ _ _ ⟨rfl, rfl, C, k, f', rfl, by omega, hC4, hN4, by omega, by omega, hg, hm4⟩ (by omega)⟩
    · refine s_covers hr4 (by omega) hC4 (fun μ5 ho5 ht5 => ?_)
      have hm5 := hm4.t ho5
      have hr5 : mrow μ5 n C := hr4.to (ho5.1 117 (by omega))
      refine ⟨fun w => absurd w (by omega), fun _ => ?_⟩
      refine s_isIdle hr5 (by omega) hC4 (by omega) ht5 ⟨fun q3 => ?_, fun q3 => ?_⟩
      · rw [if_pos ⟨bI_n0.mp q2, bI_n0.mp q3⟩] at hg
        have hCs := okC_setM hC4 (show f' < cW C by omega) (by omega) false
        refine s_marks (b := false) (by omega) hr5 (by omega) hC4.1 rfl (fun μ7 ho7 hr7 => ⟨inR_i (by omega) (by omega), inR_i (by omega) (by omega), hX _ _ _ _ _ ⟨rfl, rfl, setM C f' false, k + 1, f', rfl, by omega, hCs, hN4, by rw [cW_setM]; omega, by omega, hg, ?_⟩ (by omega)⟩)
        have := hm5.put ho7 hr7 hCs; rw [updC_2] at this; exact this
      · rw [if_neg (fun y => by rw [bI_0.mp q3] at y; exact absurd y.2 (by decide))] at hg
        exact ⟨inR_i (by omega) (by omega), hX _ _ _ _ _ ⟨rfl, rfl, C, k, f', rfl, by omega, hC4, hN4, by omega, by omega, hg, hm5⟩ (by omega)⟩
/-- a pair as the reference keeps it -/
def pE (o : Option (Nat × Nat)) (x y : Int) : Prop := match o with
  | none => x = -1 ∧ y = -1
  | some (a, b) => x = (a : Int) ∧ y = (b : Int)
theorem biF_lt {C : Cd} {r a B : Nat} {s : Ex} (ha : a < B) (hs : ∀ x y, s.2 = some (x, y) → x < B ∧ y < B) : ∀ {v : Nat}, v ≤ B → ∀ x y, (biF C r a s v).2 = some (x, y) → x < B ∧ y < B
  | 0, _, x, y, h => hs x y h
  | v + 1, hv, x, y, h => by
    have h : (if cM C a = true ∧ cM C v = false ∧ xcF C r a v < (biF C r a s v).1 then (xcF C r a v, some (a, v)) else biF C r a s v).2 = some (x, y) := h
    split at h
    · cases h; exact ⟨ha, hv⟩
    · exact biF_lt ha hs (by omega) x y h
theorem boF_lt {C : Cd} {r : Nat} : ∀ {a : Nat}, a ≤ cW C → ∀ x y, (boF C r a).2 = some (x, y) → x < cW C ∧ y < cW C
  | 0, _, x, y, h => by cases h
  | a + 1, ha, x, y, h => biF_lt ha (boF_lt (by omega)) (Nat.le_refl _) x y h
theorem s8_better (hR : mrs μ cs) (hH : mhs μ hs) (HQ : QB Q μ (a_better cs hs c r)) : wp_X8_better c r μ Q := by
  intro μ1 e1
  have hm := ms_0 hR hH e1
  refine c_isK hm.2.1 (fun n => B0 (a_ref (HQ.at (if_neg n)) hm rfl)) (fun y => B1 ?_)
  have hq : a_better cs hs c r = _ := if_pos y
  refine c_isR (fun n => B0 (a_ref (HQ.at (hq.trans (if_neg n))) hm rfl)) (fun y2 => B1 ?_)
  rw [if_pos y2] at hq
  obtain ⟨n, rfl, hn, hp⟩ := y.nat
  obtain ⟨m, rfl, hm24⟩ := y2.nat
  simp only [Int.toNat_natCast] at hq
  have hC := (hR n hn).2
  have h8 := hC.2.2.2.1
  refine s_words (hm.2.1 n hn).1 (by omega) hC ⟨fun q81 => ?_, fun q81 => a_ref (HQ.at (hq.trans (if_neg (by omega)))) hm rfl⟩
  rw [if_pos (by omega)] at hq
  refine s_remembers hm.2.1 hm.2.2.1 (fun μ3 hk hj h2 hH3 => ?_)
  have hm3 := hm.rem hk hj h2 hH3
  refine LP5_rule (fun (v1 v2 v3 v4 : Int) (μ4 : Mem) => v1 = (n : Int) ∧ v2 = (m : Int) ∧ ∃ (C : Cd) (k f : Nat), v3 = (k : Int) ∧ okC C ∧ cN C = cN (cs n) ∧ k + f = 99 ∧ ms μ μ4 (updC cs n C) (push10 cs hs) ∧ ((v4 = 1 ∧ btF m f C k = btF m 99 (cs n) 0) ∨ (v4 = 0 ∧ (C, k) = btF m 99 (cs n) 0))) (fun _ _ v3 v4 _ => (200 - 2 * v3 + v4).toNat) ?_ ⟨rfl, rfl, cs n, 0, 99, rfl, hC, rfl, rfl, by rw [updC_self]; exact hm3, Or.inl ⟨rfl, rfl⟩⟩
  rintro X v1 v2 v3 v4 μ4 ⟨rfl, rfl, C, k, f, rfl, hC4, hN4, hkf, hm4, hcase⟩ hX
  have hr4 : mrow μ4 n C := by have := (hm4.2.1 n hn).1; rw [updC_at] at this; exact this
  have h48 := hC4.2.2.2.1
  have done : (C, k) = btF m 99 (cs n) 0 → wp_X8_good (k : Int) μ4 Q := by
    intro hg
    refine a_good (HQ.at hq) (o := _) ?_ ?_
    · show ms μ μ4 (updC cs (n : Int).toNat (btF m 99 (cs n) 0).1) (push10 cs hs)
      rw [← hg]; exact hm4
    · show (((btF m 99 (cs n) 0).2 : Int), (0 : Int)) = _
      rw [← hg]
  refine ⟨fun q => ?_, fun q => ⟨fun q2 => ?_, fun q2 => ?_⟩⟩
  · rcases hcase with ⟨e4, -⟩ | ⟨e4, hg⟩
    · omega
    · exact done hg
  · rcases hcase with ⟨e4, hg⟩ | ⟨e4, -⟩
    · have : f = 0 := by omega
      subst this
      exact done hg
    · omega
  rcases hcase with ⟨e4, hg⟩ | ⟨e4, -⟩
  rotate_left
  · omega
  obtain ⟨f', rfl⟩ : ∃ f', f = f' + 1 := ⟨f - 1, by omega⟩
  have hu : btF m (f' + 1) C k = match (boF C m (cW C)).2 with
    | none => (C, k)
    | some (a, b) => btF m f' (setM (setM C a false) b true) (k + 1) := rfl
  rw [hu] at hg
  refine s_covers hr4 (by omega) hC4 (fun μ5 ho5 ht5 => ?_)
  have hm5 := hm4.t ho5
  have hr5 : mrow μ5 n C := hr4.to (ho5.1 117 (by omega))
  refine LP8_rule (fun (v1 v2 v3 v5 v6 v7 v8 : Int) (μ6 : Mem) => v1 = (n : Int) ∧ v2 = (m : Int) ∧ v3 = (k : Int) ∧ μ6 = μ5 ∧ ∃ a : Nat, v8 = (a : Int) ∧ a ≤ cW C ∧ v5 = ((boF C m a).1 : Int) ∧ pE (boF C m a).2 v6 v7) (fun _ _ _ _ _ _ v8 _ => ((cW C : Int) - v8).toNat) ?_ ⟨rfl, rfl, rfl, rfl, 0, rfl, Nat.zero_le _, rfl, rfl, rfl⟩
  rintro X6 v1 v2 v3 v5 v6 v7 v8 μ6 ⟨rfl, rfl, rfl, rfl, a, rfl, ha, rfl, hpe⟩ hX6
  refine s_words hr5 (by omega) hC4 ⟨fun q3 => ?_, fun q3 => ?_⟩
  · have ea : a = cW C := by omega
    subst ea
    cases hbo : (boF C m (cW C)).2 with
    | none =>
      rw [hbo] at hpe hg
      refine ⟨fun _ => ⟨fun w => absurd rfl w, fun _ => hX _ _ _ _ _ ⟨rfl, rfl, C, k, f' + 1, rfl, hC4, hN4, hkf, hm5, Or.inr ⟨rfl, hg⟩⟩ (by omega)⟩, fun w => absurd hpe.1 w⟩
    | some xy =>
      obtain ⟨x, y⟩ := xy
      rw [hbo] at hpe hg
      obtain ⟨hx, hy⟩ := boF_lt (Nat.le_refl _) x y hbo
      obtain ⟨e6, e7⟩ : v6 = (x : Int) ∧ v7 = (y : Int) := hpe
      subst e6 e7
      have hg : btF m f' (setM (setM C x false) y true) (k + 1) = btF m 99 (cs n) 0 := hg
      have hC6 := okC_setM hC4 hx (by omega) false
      have hC7 := okC_setM hC6 (show y < cW (setM C x false) from hy) (show 0 < cN C by omega) true
      refine ⟨fun w => absurd w (by omega), fun _ => ⟨fun _ => ?_, fun w => absurd w (by decide)⟩⟩
      refine s_marks (b := false) (by omega) hr5 (by omega) hC4.1 rfl (fun μ7 ho7 hr7 => s_marks (b := true) (by omega) hr7 (by omega) hC6.1 rfl (fun μ8 ho8 hr8 => ⟨inR_i (by omega) (by omega), hX _ _ _ _ _ ⟨rfl, rfl, setM (setM C x false) y true, k + 1, f', rfl, hC7, hN4, by omega, ?_, Or.inl ⟨rfl, hg⟩⟩ (by omega)⟩))
      have h1 := hm5.put ho7 hr7 hC6
      have h2 := h1.put ho8 hr8 hC7
      rw [updC_2, updC_2] at h2
      exact h2
  · refine LP9_rule (fun (v1 v2 v3 v5 v6 v7 v8 v9 : Int) (μ7 : Mem) => v1 = (n : Int) ∧ v2 = (m : Int) ∧ v3 = (k : Int) ∧ v8 = (a : Int) ∧ μ7 = μ6 ∧ ∃ b : Nat, v9 = (b : Int) ∧ b ≤ cW C ∧ v5 = ((biF C m a (boF C m a) b).1 : Int) ∧ pE (biF C m a (boF C m a) b).2 v6 v7) (fun _ _ _ _ _ _ _ v9 _ => ((cW C : Int) - v9).toNat) ?_ ⟨rfl, rfl, rfl, rfl, rfl, 0, rfl, Nat.zero_le _, rfl, hpe⟩
    rintro X7 v1 v2 v3 v5 v6 v7 v8 v9 μ7 ⟨rfl, rfl, rfl, rfl, rfl, b, rfl, hb, rfl, hpb⟩ hX7
    refine s_words hr5 (by omega) hC4 ⟨fun q4 => ?_, fun q4 => ?_⟩
    · have eb : b = cW C := by omega
      subst eb
      exact ⟨inR_i (by omega) (by omega), hX6 _ _ _ _ _ _ _ _ ⟨rfl, rfl, rfl, rfl, a + 1, rfl, by omega, rfl, hpb⟩ (by omega)⟩
    · have hsb : biF C m a (boF C m a) (b + 1) = if cM C a = true ∧ cM C b = false ∧ xcF C m a b < (biF C m a (boF C m a) b).1 then (xcF C m a b, some (a, b)) else biF C m a (boF C m a) b := rfl
      have keep : (¬ (cM C a = true ∧ cM C b = false ∧ xcF C m a b < (biF C m a (boF C m a) b).1)) → inR ((b : Int) + 1) ∧ X7 (n : Int) (m : Int) (k : Int) ((biF C m a (boF C m a) b).1 : Int) v6 v7 (a : Int) ((b : Int) + 1) μ7 := fun hno => ⟨inR_i (by omega) (by omega), hX7 _ _ _ _ _ _ _ _ _ ⟨rfl, rfl, rfl, rfl, rfl, b + 1, rfl, by omega, by rw [hsb, if_neg hno], by rw [hsb, if_neg hno]; exact hpb⟩ (by omega)⟩
      refine s_isIn hr5 (by omega) (by omega) ⟨fun q5 => keep (fun y => by rw [bI_0.mp q5] at y; exact absurd y.1 (by decide)), fun q5 => ?_⟩
      refine s_isIn hr5 (by omega) (by omega) ⟨fun q6 => ?_, fun q6 => keep (fun y => by rw [bI_n0.mp q6] at y; exact absurd y.2.1 (by decide))⟩
      refine s_holesIf hr5 (by omega) hC4 (by omega) (by omega) ht5 ⟨fun q7 => ?_, fun q7 => keep (fun y => by omega)⟩
      have hyes : cM C a = true ∧ cM C b = false ∧ xcF C m a b < (biF C m a (boF C m a) b).1 := ⟨bI_n0.mp q5, bI_0.mp q6, by omega⟩
      exact ⟨inR_i (by omega) (by omega), hX7 _ _ _ _ _ _ _ _ _ ⟨rfl, rfl, rfl, rfl, rfl, b + 1, rfl, by omega, by rw [hsb, if_pos hyes], by rw [hsb, if_pos hyes]; exact ⟨rfl, rfl⟩⟩ (by omega)⟩
end RX

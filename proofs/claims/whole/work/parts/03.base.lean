/-! ===== the world of this claim: cells by numbers, ints as integers ===== -/
abbrev Mem : Type := (Nat → Nat → Int) × (Nat → Nat → Int64)
def inR (a : Int) : Prop := -2147483648 ≤ a ∧ a ≤ 2147483647
def okM (μ : Mem) : Prop := ∀ k j, inR (μ.1 k j)
def sI (μ : Mem) (k j : Nat) (v : Int) : Mem := (fun a b => if a = k ∧ b = j then v else μ.1 a b, μ.2)
def sL (μ : Mem) (k j : Nat) (v : Int64) : Mem := (μ.1, fun a b => if a = k ∧ b = j then v else μ.2 a b)
def cpI (μ : Mem) (k0 s0 k1 d0 n : Nat) : Mem := (fun a b => if a = k1 ∧ d0 ≤ b ∧ b < d0 + n then μ.1 k0 (s0 + (b - d0)) else μ.1 a b, μ.2)
def cpL (μ : Mem) (k0 s0 k1 d0 n : Nat) : Mem := (μ.1, fun a b => if a = k1 ∧ d0 ≤ b ∧ b < d0 + n then μ.2 k0 (s0 + (b - d0)) else μ.2 a b)
def iv (a : Int) : Value := .int (Int32.ofInt a)
theorem okM_sI {μ : Mem} {k j : Nat} {v : Int} (h : okM μ) (hv : inR v) : okM (sI μ k j v) := by
  intro a b
  show inR (if a = k ∧ b = j then v else μ.1 a b)
  split
  · exact hv
  · exact h a b
theorem okM_sL {μ : Mem} {k j : Nat} {v : Int64} (h : okM μ) : okM (sL μ k j v) := h
theorem okM_cpI {μ : Mem} {k0 s0 k1 d0 n : Nat} (h : okM μ) : okM (cpI μ k0 s0 k1 d0 n) := by
  intro a b
  show inR (if _ then _ else _)
  split
  · exact h _ _
  · exact h _ _
theorem okM_cpL {μ : Mem} {k0 s0 k1 d0 n : Nat} (h : okM μ) : okM (cpL μ k0 s0 k1 d0 n) := h
theorem inR_t (x : Int32) : inR x.toInt := ⟨by have := x.le_toInt; omega, by have := x.toInt_lt; omega⟩
theorem inR_k {a : Int} (h : decide (-2147483648 ≤ a ∧ a ≤ 2147483647) = true) : inR a := (of_decide_eq_true h : -2147483648 ≤ a ∧ a ≤ 2147483647)
theorem tI {a : Int} (h : inR a) : (Int32.ofInt a).toInt = a := Int32.toInt_ofInt_of_le (by have := h.1; omega) (by have := h.2; omega)
theorem lt_iff {a b : Int} (ha : inR a) (hb : inR b) : Int32.ofInt a < Int32.ofInt b ↔ a < b := by rw [Int32.lt_iff_toInt_lt, tI ha, tI hb]
theorem le_iff {a b : Int} (ha : inR a) (hb : inR b) : Int32.ofInt a ≤ Int32.ofInt b ↔ a ≤ b := by rw [Int32.le_iff_toInt_le, tI ha, tI hb]
theorem eq_iff {a b : Int} (ha : inR a) (hb : inR b) : Int32.ofInt a = Int32.ofInt b ↔ a = b := by rw [← Int32.toInt_inj, tI ha, tI hb]
theorem inR_0 : inR 0 := inR_k rfl
theorem z_eq {a : Int} (ha : inR a) : Int32.ofInt a = 0 ↔ a = 0 := eq_iff ha inR_0
theorem z_lt {a : Int} (ha : inR a) : Int32.ofInt a < 0 ↔ a < 0 := lt_iff ha inR_0
theorem z_le {a : Int} (ha : inR a) : Int32.ofInt a ≤ 0 ↔ a ≤ 0 := le_iff ha inR_0
theorem z_gt {a : Int} (ha : inR a) : 0 < Int32.ofInt a ↔ 0 < a := lt_iff inR_0 ha
theorem z_ge {a : Int} (ha : inR a) : 0 ≤ Int32.ofInt a ↔ 0 ≤ a := le_iff inR_0 ha
theorem clampI {a : Int} (h0 : 0 ≤ a) (h : a ≤ 2147483647) : (Int32.ofInt a).toNatClampNeg = a.toNat := by
  show (Int32.ofInt a).toInt.toNat = a.toNat
  rw [tI ⟨by omega, h⟩]
theorem in_of {a : Int} {n : Nat} (h0 : 0 ≤ a) (h1 : a < (n : Int)) (hn : n < 2147483648) : vp_in (Int32.ofInt a) n := by
  unfold vp_in
  rw [clampI h0 (by omega), z_lt ⟨by omega, by omega⟩]
  omega
def iand (a b : Int) : Int := (Int32.ofInt a &&& Int32.ofInt b).toInt
def ior (a b : Int) : Int := (Int32.ofInt a ||| Int32.ofInt b).toInt
def ixor (a b : Int) : Int := (Int32.ofInt a ^^^ Int32.ofInt b).toInt
def ishl (a b : Int) : Int := (Int32.ofInt a <<< (Int32.ofInt b &&& 31)).toInt
def ishr (a b : Int) : Int := (Int32.ofInt a >>> (Int32.ofInt b &&& 31)).toInt
def iushr (a b : Int) : Int := ((Int32.ofInt a).toUInt32 >>> ((Int32.ofInt b).toUInt32 &&& Int32.toUInt32 31)).toInt32.toInt
def lcm_ (a b : Int64) : Int := (lg_cmp a b).toInt
def lshl (a : Int64) (b : Int) : Int64 := a <<< ((Int32.ofInt b).toInt64 &&& 63)
def lshr (a : Int64) (b : Int) : Int64 := a >>> ((Int32.ofInt b).toInt64 &&& 63)
def lushr (a : Int64) (b : Int) : Int64 := (a.toUInt64 >>> ((Int32.ofInt b).toInt64.toUInt64 &&& Int64.toUInt64 63)).toInt64
def l2i_ (a : Int64) : Int := a.toInt32.toInt
def i2l_ (a : Int) : Int64 := (Int32.ofInt a).toInt64
def lrem_ (a b : Int64) : Int64 := a - a / b * b
/-! ===== cells: what each is ===== -/
def kdC (n : Nat) : List (Nat × Nat) := (List.replicate n [(4, 1), (1, 8), (1, 8), (2, 4)]).flatten
def kdL : List (Nat × Nat) := [(4, 7), (4, 5), (1, 600), (3, 4), (1, 4), (1, 4)] ++ (kdC 4 ++ ([(3, 8)] ++ (kdC 1 ++ ([(4, 4), (3, 10), (1, 10)] ++ (kdC 10 ++ ([(4, 3), (1, 256), (1, 256), (1, 256), (4, 6), (4, 0), (2, 81), (2, 81), (1, 8), (4, 2), (4, 0), (2, 81), (2, 81)] ++ (kdC 8 ++ [(4, 8), (1, 600), (1, 3822), (1, 21840), (2, 4), (2, 4), (1, 256), (2, 81), (2, 81), (1, 8), (2, 1)])))))))
def kd (k : Nat) : Nat × Nat := kdL.getD k (0, 0)
theorem kdL_len : kdL.length = 126 := by decide +kernel
theorem kl {k i c : Nat} (h : kd k = (i + 1, c)) : k < 126 := by
  rcases Nat.lt_or_ge k 126 with q | q
  · exact q
  · have : kd k = (0, 0) := by
      unfold kd
      rw [List.getD_eq_getElem?_getD, List.getElem?_eq_none (by rw [kdL_len]; exact q)]
      rfl
    rw [this] at h
    cases h
/-- of each class its fields: 0 an int, 1 a long, 2 a reference -/
def fcL : List (List Nat) := [[0, 0, 2, 2], [0, 0, 0, 0, 2, 2, 2], [2, 1, 1, 1, 1, 0, 0, 0], [0, 0, 0, 2, 2, 2], [2, 2, 0, 0], [2, 0, 0, 0, 0, 0, 0, 0, 2, 2, 2, 0], [2, 2, 0, 0, 0, 0], [2, 2, 2, 2, 2, 2, 2, 0, 0, 0], [0, 0, 0, 2, 0, 0, 0, 0, 0, 0, 0, 0, 1, 2, 2, 2, 2, 0, 0, 0, 2, 2, 2, 2, 0, 0, 0, 0, 0]]
/-- of each class how far behind it lies what its fields name -/
def roL : List (List Nat) := [[0, 0, 1, 2], [0, 0, 0, 0, 1, 2, 3], [1], [0, 0, 0, 1, 2, 3], [1, 2], [1, 0, 0, 0, 0, 0, 0, 0, 2, 3, 4], [1, 4], [1, 22, 23, 27, 70, 74, 79], [0, 0, 0, 1, 0, 0, 0, 0, 0, 0, 0, 0, 0, 2, 3, 4, 5, 0, 0, 0, 6, 7, 8, 9]]
def fN (ci : Nat) : Nat := (fcL.getD ci []).length
def fc (ci j : Nat) : Nat := (fcL.getD ci []).getD j 0
def ro (ci j : Nat) : Nat := (roL.getD ci []).getD j 0
/-- where references lead, once all is made -/
def ρ0 (k j : Nat) : Option Nat := match kd k with
  | (4, ci) => some (k + ro ci j)
  | (3, _) => some ((if k = 3 then 6 else if k = 22 then 83 else 30) + 4 * j)
  | _ => none
theorem ρo {k ci j off : Nat} (hk : kd k = (4, ci)) (ho : ro ci j = off) : ρ0 k j = some (k + off) := by
  unfold ρ0
  rw [hk]
  simp [ho]
theorem ρa {k n j b : Nat} (hk : kd k = (3, n)) (ho : (if k = 3 then 6 else if k = 22 then 83 else 30) = b) : ρ0 k j = some (b + 4 * j) := by
  unfold ρ0
  rw [hk, ← ho]
  rfl
/-- a code's four cells -/
def isC (k : Nat) : Prop := kd k = (4, 1) ∧ kd (k + 1) = (1, 8) ∧ kd (k + 2) = (1, 8) ∧ kd (k + 3) = (2, 4)
theorem isC_codes : ∀ {c : Nat}, c < 8 → isC (83 + 4 * c) := by unfold isC; decide +kernel
theorem isC_past : ∀ {c : Nat}, c < 10 → isC (30 + 4 * c) := by unfold isC; decide +kernel
theorem isC_drafts : ∀ {c : Nat}, c < 4 → isC (6 + 4 * c) := by unfold isC; decide +kernel
theorem isC_fresh : isC 23 := by unfold isC; decide +kernel
def isB (k : Nat) : Prop := kd k = (4, 0) ∧ kd (k + 1) = (2, 81) ∧ kd (k + 2) = (2, 81)
theorem isB_1 : isB 75 := by unfold isB; decide +kernel
theorem isB_2 : isB 80 := by unfold isB; decide +kernel
/-! ===== the world ===== -/
abbrev Gx : Type := va_G × Nat × ClassId × ClassId × ClassId × (Nat → Nat) × (Nat → Nat)
abbrev gD (E : Gx) : va_G := E.1
abbrev gZ (E : Gx) : Nat := E.2.1
abbrev gI (E : Gx) : ClassId := E.2.2.1
abbrev gL (E : Gx) : ClassId := E.2.2.2.1
abbrev gR (E : Gx) : ClassId := E.2.2.2.2.1
abbrev gK (E : Gx) : Nat → Nat := E.2.2.2.2.2.1
abbrev gV (E : Gx) : Nat → Nat := E.2.2.2.2.2.2
abbrev gA (E : Gx) : Nat → Prop := fun q => gZ E ≤ q
abbrev gT (E : Gx) : List (ClassId × FieldType) := [(gI E, .int), (gL E, .long), (gR E, .object "SlipCovers$Code")]
def rv (E : Gx) (k : Nat) : Value := .ref (gZ E + k)
def ro_ (E : Gx) (t : Option Nat) : Option Nat := t.map (gZ E + ·)
def fv (E : Gx) (r : Nat → Option Nat) (a : Nat → Int) (b : Nat → Int64) (j code : Nat) : Value := match code with
  | 0 => iv (a j)
  | 1 => .long (b j)
  | _ => va_rf (ro_ E (r j))
def fl (E : Gx) (r : Nat → Option Nat) (a : Nat → Int) (b : Nat → Int64) (ci : Nat) : List Value := (List.range (fN ci)).map (fun j => fv E r a b j (fc ci j))
def ent (E : Gx) (r : Nat → Option Nat) (a : Nat → Int) (b : Nat → Int64) (q : Nat × Nat) : va_E := match q with
  | (1, n) => .inl (gI E, n, .inl (fun j => Int32.ofInt (a j)))
  | (2, n) => .inl (gL E, n, .inr (.inl b))
  | (3, n) => .inl (gR E, n, .inr (.inr (.inr (.inr (fun j => ro_ E (r j))))))
  | (_, ci) => .inr (ci, fl E r a b ci)
abbrev Zs : Type := (Nat → Nat → Option Nat) × Nat × Nat × Nat
def z0 : Zs := (ρ0, 126, 0, 0)
def wl (E : Gx) (z : Zs) (μ : Mem) : va_W := (List.range z.2.1).map (fun k => (gZ E + k, ent E (z.1 k) (μ.1 k) (μ.2 k) (kd k)))
def rep (E : Gx) (z : Zs) (μ : Mem) (H : Heap) : Prop := va_P (gD E) vwCl (wl E z μ) H
theorem wl_get {E : Gx} {z : Zs} {μ : Mem} {k : Nat} (h : k < z.2.1) : (wl E z μ)[k]? = some (gZ E + k, ent E (z.1 k) (μ.1 k) (μ.2 k) (kd k)) := by
  unfold wl
  rw [List.getElem?_map, List.getElem?_range h]
  rfl
theorem wl_at {E : Gx} {z : Zs} {μ : Mem} {k : Nat} {q : Nat × Nat} (h : k < z.2.1) (hk : kd k = q) : (wl E z μ)[k]? = some (gZ E + k, ent E (z.1 k) (μ.1 k) (μ.2 k) q) := by
  rw [wl_get h, hk]
theorem wl_len {E : Gx} {z : Zs} {μ : Mem} : (wl E z μ).length = z.2.1 := by simp [wl]
theorem wl_set {E : Gx} {z z' : Zs} {μ μ' : Mem} {k : Nat} {e : va_E} (hz : z'.2.1 = z.2.1) (he : e = ent E (z'.1 k) (μ'.1 k) (μ'.2 k) (kd k)) (ho : ∀ q, q ≠ k → z'.1 q = z.1 q ∧ μ'.1 q = μ.1 q ∧ μ'.2 q = μ.2 q) : (wl E z μ).set k (gZ E + k, e) = wl E z' μ' := by
  apply List.ext_getElem?
  intro j
  rcases Nat.lt_or_ge j z.2.1 with hj | hj
  · rw [wl_get (z := z') (by rw [hz]; exact hj)]
    by_cases hjk : j = k
    · subst hjk
      rw [List.getElem?_set_self (by rw [wl_len]; exact hj), he]
    · rw [List.getElem?_set_ne (Ne.symm hjk), wl_get hj]
      obtain ⟨h1, h2, h3⟩ := ho j hjk
      rw [h1, h2, h3]
  · rw [List.getElem?_eq_none (by rw [List.length_set, wl_len]; exact hj), List.getElem?_eq_none (by rw [wl_len, hz]; exact hj)]
theorem wl_D {E : Gx} {z : Zs} {μ : Mem} : va_D (gA E) (wl E z μ) := by
  have key : ∀ (k : Nat) (q : Nat × va_E), (wl E z μ)[k]? = some q → q.1 = gZ E + k := by
    intro k q h
    have hk : k < z.2.1 := by
      have := (List.getElem?_eq_some_iff.mp h).1
      rwa [wl_len] at this
    rw [wl_get hk] at h
    cases h
    rfl
  refine ⟨fun i j p q hi hj e => ?_, fun k q h => ?_⟩
  · have h1 := key i p hi
    have h2 := key j q hj
    omega
  · show gZ E ≤ q.1
    rw [key k q h]
    exact Nat.le_add_right _ _
theorem fl_get {E : Gx} {r : Nat → Option Nat} {a : Nat → Int} {b : Nat → Int64} {ci j code : Nat} (hj : j < fN ci) (hc : fc ci j = code) : (fl E r a b ci)[j]? = some (fv E r a b j code) := by
  unfold fl
  rw [List.getElem?_map, List.getElem?_range hj, ← hc]
  rfl
theorem fl_len {E : Gx} {r : Nat → Option Nat} {a : Nat → Int} {b : Nat → Int64} {ci : Nat} : (fl E r a b ci).length = fN ci := by simp [fl]
theorem fl_set {E : Gx} {r r' : Nat → Option Nat} {a a' : Nat → Int} {b b' : Nat → Int64} {ci j code : Nat} {v : Value} (hc : fc ci j = code) (hv : v = fv E r' a' b' j code) (ho : ∀ q, q ≠ j → r' q = r q ∧ a' q = a q ∧ b' q = b q) : (fl E r a b ci).set j v = fl E r' a' b' ci := by
  apply List.ext_getElem?
  intro q
  rcases Nat.lt_or_ge q (fN ci) with hq | hq
  · rw [fl_get hq rfl]
    by_cases hqj : q = j
    · subst hqj
      rw [List.getElem?_set_self (by rw [fl_len]; exact hq), hv, hc]
    · rw [List.getElem?_set_ne (Ne.symm hqj), fl_get hq rfl]
      obtain ⟨h1, h2, h3⟩ := ho q hqj
      unfold fv
      rw [h1, h2, h3]
  · rw [List.getElem?_eq_none (by rw [List.length_set, fl_len]; exact hq), List.getElem?_eq_none (by rw [fl_len]; exact hq)]
/-! ===== locals, by their places ===== -/
def cv : Nat → List (Option Value) → List (Nat × Value)
  | _, [] => []
  | i, none :: t => cv (i + 1) t
  | i, some v :: t => (i, v) :: cv (i + 1) t
theorem cv_mem : ∀ (lv : List (Option Value)) (i : Nat) (q : Nat × Value), q ∈ cv i lv ↔ ∃ j, lv[j]? = some (some q.2) ∧ q.1 = i + j
  | [], i, q => by simp [cv]
  | none :: t, i, q => by
    rw [cv, cv_mem t (i + 1) q]
    constructor
    · rintro ⟨j, h1, h2⟩
      exact ⟨j + 1, by simpa using h1, by omega⟩
    · rintro ⟨j, h1, h2⟩
      cases j with
      | zero => simp at h1
      | succ j => exact ⟨j, by simpa using h1, by omega⟩
  | some v :: t, i, q => by
    rw [cv, List.mem_cons, cv_mem t (i + 1) q]
    constructor
    · rintro (h | ⟨j, h1, h2⟩)
      · exact ⟨0, by rw [h]; rfl, by rw [h]; rfl⟩
      · exact ⟨j + 1, by simpa using h1, by omega⟩
    · rintro ⟨j, h1, h2⟩
      cases j with
      | zero =>
        left
        have h3 : v = q.2 := by simpa using h1
        cases q
        simp only at h2 h3 ⊢
        rw [h2, h3]
        rfl
      | succ j => exact Or.inr ⟨j, by simpa using h1, by omega⟩
def lh (ls : Array Slot) (nL : Nat) (lv : List (Option Value)) : Prop := lv.length = nL ∧ lv_has ls nL (cv 0 lv)
theorem lh_at {ls : Array Slot} {nL : Nat} {lv : List (Option Value)} (h : lh ls nL lv) {i : Nat} {v : Value} (hi : lv[i]? = some (some v)) : ls[i]? = some (.val v) :=
  h.2.2.2 (i, v) ((cv_mem lv 0 (i, v)).mpr ⟨i, hi, (Nat.zero_add i).symm⟩)
def okp (lv : List (Option Value)) (i : Nat) : Bool := match i with
  | 0 => true
  | i + 1 => match lv[i]? with
    | some (some v) => v.category == 1
    | _ => true
theorem lh_of {ls : Array Slot} {nL : Nat} {lv : List (Option Value)} {l : List (Nat × Value)} (hn : lv.length = nL) (h : lv_has ls nL l) (hs : ∀ j v, lv[j]? = some (some v) → (j, v) ∈ l) : lh ls nL lv := by
  refine ⟨hn, h.1, h.2.1, fun q hq => ?_⟩
  obtain ⟨j, h1, h2⟩ := (cv_mem lv 0 q).mp hq
  rw [Nat.zero_add] at h2
  have := h.2.2 (j, q.2) (hs j q.2 h1)
  rw [h2]
  exact this
theorem okp_spec {lv : List (Option Value)} {i j : Nat} {v : Value} (h : okp lv i = true) (hj : lv[j]? = some (some v)) (hij : j + 1 = i) : v.category = 1 := by
  subst hij
  simp only [okp, hj, beq_iff_eq] at h
  exact h
theorem lh_s1 {ls : Array Slot} {nL : Nat} {lv lv' : List (Option Value)} {i : Nat} {v : Value} (h : lh ls nL lv) (hi : i < lv.length) (hp : okp lv i = true) (hl : lv.set i (some v) = lv') {ls' : Array Slot} (h' : lv_has ls' nL ((i, v) :: (cv 0 lv).filter (fun q => !(q.1 == i) && !(q.1 + 1 == i && q.2.category == 2)))) : lh ls' nL lv' := by
  subst hl
  refine lh_of (by rw [List.length_set]; exact h.1) h' (fun j w hj => ?_)
  by_cases hji : j = i
  · subst hji
    rw [List.getElem?_set_self hi] at hj
    cases hj
    exact List.mem_cons_self
  · rw [List.getElem?_set_ne (Ne.symm hji)] at hj
    refine List.mem_cons_of_mem _ (List.mem_filter.mpr ⟨(cv_mem lv 0 _).mpr ⟨j, hj, (Nat.zero_add j).symm⟩, ?_⟩)
    by_cases hq : j + 1 = i
    · have := okp_spec hp hj hq
      simp [hji, this]
    · simp [hji, hq]
theorem lh_s2 {ls : Array Slot} {nL : Nat} {lv lv' : List (Option Value)} {i : Nat} {v : Value} (h : lh ls nL lv) (hi : i + 1 < lv.length) (hp : okp lv i = true) (hl : (lv.set i (some v)).set (i + 1) none = lv') {ls' : Array Slot} (h' : lv_has ls' nL ((i, v) :: (cv 0 lv).filter (fun q => !(q.1 == i) && (!(q.1 == i + 1) && !(q.1 + 1 == i && q.2.category == 2))))) : lh ls' nL lv' := by
  subst hl
  refine lh_of (by rw [List.length_set, List.length_set]; exact h.1) h' (fun j w hj => ?_)
  by_cases hji : j = i
  · subst hji
    rw [List.getElem?_set_ne (by omega), List.getElem?_set_self (by omega)] at hj
    cases hj
    exact List.mem_cons_self
  · by_cases hj1 : j = i + 1
    · subst hj1
      rw [List.getElem?_set_self (by rw [List.length_set]; exact hi)] at hj
      cases hj
    · rw [List.getElem?_set_ne (Ne.symm hj1), List.getElem?_set_ne (Ne.symm hji)] at hj
      refine List.mem_cons_of_mem _ (List.mem_filter.mpr ⟨(cv_mem lv 0 _).mpr ⟨j, hj, (Nat.zero_add j).symm⟩, ?_⟩)
      by_cases hq : j + 1 = i
      · have := okp_spec hp hj hq
        simp [hji, hj1, this]
      · simp [hji, hj1, hq]
/-! ===== words ===== -/
def tblG : List Cond := lw_tbl.filter goodWord
theorem tG {w : Cond} (i : Nat) (h : lw_tbl[i]? = some w) (hg : goodWord w = true) : w ∈ tblG := List.mem_filter.mpr ⟨List.mem_of_getElem? h, hg⟩
theorem tblG_ok {w : Cond} (h : w ∈ tblG) : w ∈ lw_tbl := (List.mem_filter.mp h).1
def isNw : Cond → Bool
  | .fieldLinkNest .. => true
  | .methodLinkNest .. => true
  | _ => false
def tblN : List Cond := lw_tbl.filter isNw
theorem tN {w : Cond} (i : Nat) (h : lw_tbl[i]? = some w) (hg : isNw w = true) : w ∈ tblN := List.mem_filter.mpr ⟨List.mem_of_getElem? h, hg⟩
theorem nw_warm {w : Cond} (hw : isNw w = true) {s U : State} (hW : s.WarmedH U.vm) (h : va_Nw w s) : va_Nw w U := by
  cases w <;> first | exact va_Nw.warmF hW h | exact va_Nw.warmM hW h | (cases hw)
/-! ===== the judgement ===== -/
abbrev Cx : Type := Program × Launch × Env × Room × State × MethodId × Array Value × List Frame × Method × Code
abbrev xp (x : Cx) : Program := x.1
abbrev xl (x : Cx) : Launch := x.2.1
abbrev xe (x : Cx) : Env := x.2.2.1
abbrev xR (x : Cx) : Room := x.2.2.2.1
abbrev xs (x : Cx) : State := x.2.2.2.2.1
abbrev xm (x : Cx) : MethodId := x.2.2.2.2.2.1
abbrev xa (x : Cx) : Array Value := x.2.2.2.2.2.2.1
abbrev xb (x : Cx) : List Frame := x.2.2.2.2.2.2.2.1
abbrev xt (x : Cx) : Method := x.2.2.2.2.2.2.2.2.1
abbrev xc (x : Cx) : Code := x.2.2.2.2.2.2.2.2.2
abbrev WX (x : Cx) (H : Heap) (locs : List Loc) (cells slots : Nat) (Q : State → Prop) (g : JFrame) : Prop := W (xp x) (xl x) (xe x) (xR x) (xs x) (xm x) (xa x) (xb x) (xt x) (xc x) H locs cells slots Q g
def J (cc : ByteArray) (x : Cx) (E : Gx) (z : Zs) (μ : Mem) (pc : Nat) (lv : List (Option Value)) (st : List Value) (Q : State → Prop) : Prop :=
  (xp x).tables.exec = Jvm.exec → (xc x).code = cc → ∀ (H : Heap) (locs : List Loc) (ls : Array Slot), lh ls (xc x).maxLocals lv → rep E z μ H → va_S (gA E) (xs x).heap H locs → WX x H locs z.2.2.1 z.2.2.2 Q (F0 (xm x) pc ls st)
/-- texts: the constants that the classes name -/
def sLen : List Nat := [4, 2, 5]
def sByt : List (List Int32) := [[99, 111, 100, 101], [111, 110], [119, 101, 105, 103, 104]]
def strT : List (String × Nat × String × Nat) := [("SlipCovers$Reader", 74, "code", 0), ("SlipCovers$Reader", 104, "on", 1), ("SlipCovers$Reader", 93, "weigh", 2), ("SlipCoversModel", 123, "code", 0), ("SlipCoversModel", 129, "on", 1), ("SlipCoversModel", 131, "weigh", 2)]
/-- words of the tables that only a class's make speaks of -/
def tblF : List Cond := lw_tbl.filter (fun w => w.onTables && w.faceAtom)
theorem tF {w : Cond} (i : Nat) (h : lw_tbl[i]? = some w) (hg : (w.onTables && w.faceAtom) = true) : w ∈ tblF := List.mem_filter.mpr ⟨List.mem_of_getElem? h, hg⟩
/-- what texts and throws need besides -/
def exs (E : Gx) (U : State) (H : Heap) : Prop := va_Z "java/lang/String" "COMPACT_STRINGS" "Z" (.int 1) (gA E) U H ∧ va_Zq "jdk/internal/util/Preconditions" "SIOOBE_FORMATTER" "Ljava/util/function/BiFunction;" (gA E) U H ∧ vx_Zq Bundle.tN "UNASSIGNED_STACK" Bundle.steD (gA E) U H ∧ vx_Zq Bundle.tN "SUPPRESSED_SENTINEL" Bundle.listD (gA E) U H ∧ ∀ w ∈ tblF, ∀ a, w.before a U = true
theorem exs.moved {E : Gx} {u U : State} {H : Heap} (hvm : u.vm.Alike U.vm) (h : exs E u H) : exs E U H := ⟨va_Z.moved hvm h.1, va_Zq.moved hvm h.2.1, vx_Zq.moved hvm h.2.2.1, vx_Zq.moved hvm h.2.2.2.1, fun w hw a => by
  have hf := (List.mem_filter.mp hw).2
  rw [Bool.and_eq_true] at hf
  exact va_tabs (A := a) hf.1 (rfl : (u.setVm U.vm).vm = U.vm) (Cond.faceAtom_setVm hvm w hf.2 (h.2.2.2.2 w hw a))⟩
theorem exs.kept {E : Gx} {U : State} {H H1 : Heap} (h : exs E U H) (hq : ∀ a : Nat, a < H.size → ¬ gA E a → H1[a]? = H[a]?) : exs E U H1 := ⟨va_Z.kept h.1 hq, va_Zq.kept h.2.1 hq, vx_Zq.kept h.2.2.1 hq, vx_Zq.kept h.2.2.2.1 hq, h.2.2.2.2⟩
def strs (E : Gx) (U : State) (H : Heap) : Prop := (vk_S 3 sLen sByt (gK E) (gV E) (gA E) U H ∧ exs E U H) ∧ ∀ q ∈ strT, vk_R q.1 q.2.1 q.2.2.1 (gK E q.2.2.2) U
def sv (E : Gx) (j : Nat) : Value := .ref (gK E j)
def slen (j : Nat) : Int := (sLen.getD j 0 : Nat)
def schr (j : Nat) (a : Int) : Int := ((sByt.getD j []).getD a.toNat 0).toInt
/-- what stays while a method runs -/
def Bd (x : Cx) (E : Gx) (D nL : Nat) (own : String) : Prop :=
  (xs x).vm.findClass own = some (xm x).cls ∧ (∀ w ∈ tblG, w.before (xa x) (xs x) = true) ∧ va_K (gD E) vwCl (gT E) (xs x) ∧ (∀ w ∈ tblN, va_Nw w (xs x)) ∧ strs E (xs x) (xs x).heap ∧ (xc x).maxLocals = nL ∧ D ≤ (xR x).frames ∧ 40 * D ≤ (xR x).locals ∧ gZ E ≤ (xs x).heap.size ∧ (xt x).locks = false
def rmD (D mc ms : Nat) : Room := { frames := D, cells := mc, slots := ms, locals := 40 * D }

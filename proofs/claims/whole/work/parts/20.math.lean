/-! ===== numbers: words of a space, their digits, how far apart ===== -/
def wdF (s : Nat → Nat) : Nat → Nat
  | 0 => 1
  | n + 1 => wdF s n * s n
def frF (s t : Nat → Nat) : Nat → Nat → Nat → Nat
  | 0, _, _ => 0
  | n + 1, a, b => frF s t n (a / s n) (b / s n) + (if a % s n = b % s n then 0 else t n)
def dgF (s : Nat → Nat) : Nat → Nat → Nat → Nat
  | 0, _, _ => 0
  | n + 1, w, i => if i = n then w % s n else dgF s n (w / s n) i
def smF (t : Nat → Nat) : Nat → Nat
  | 0 => 0
  | n + 1 => smF t n + t n
/-- a code: how many places, sizes, weights, marks -/
abbrev Cd : Type := Nat × (Nat → Nat) × (Nat → Nat) × (Nat → Bool)
abbrev cN (C : Cd) : Nat := C.1
abbrev cS (C : Cd) : Nat → Nat := C.2.1
abbrev cT (C : Cd) : Nat → Nat := C.2.2.1
abbrev cM (C : Cd) : Nat → Bool := C.2.2.2
def cW (C : Cd) : Nat := wdF (cS C) (cN C)
def cF (C : Cd) (a b : Nat) : Nat := frF (cS C) (cT C) (cN C) a b
def cD (C : Cd) (w i : Nat) : Nat := dgF (cS C) (cN C) w i
/-- what every code keeps -/
def okC (C : Cd) : Prop := cN C ≤ 8 ∧ (∀ i, i < cN C → 2 ≤ cS C i ∧ cS C i ≤ 4) ∧ (∀ i, i < cN C → 1 ≤ cT C i ∧ cT C i ≤ 3) ∧ cW C ≤ 256 ∧ (∀ w, cM C w = true → w < cW C) ∧ (cN C = 0 → ∀ w, cM C w = false)
theorem wdF_pos {s : Nat → Nat} : ∀ {n : Nat}, (∀ i, i < n → 1 ≤ s i) → 1 ≤ wdF s n
  | 0, _ => Nat.le_refl 1
  | n + 1, h => Nat.mul_le_mul (wdF_pos (n := n) fun i hi => h i (by omega)) (h n (by omega))
theorem wdF_mono {s : Nat → Nat} {N : Nat} (h : ∀ i, i < N → 1 ≤ s i) : ∀ {n : Nat}, n ≤ N → wdF s n ≤ wdF s N := by
  induction N with
  | zero => intro n hn; rw [show n = 0 by omega]; exact Nat.le_refl _
  | succ N ih =>
    intro n hn
    by_cases e : n = N + 1
    · rw [e]; exact Nat.le_refl _
    · have h1 := ih (fun i hi => h i (by omega)) (n := n) (by omega)
      have h2 := h N (by omega)
      calc wdF s n ≤ wdF s N := h1
        _ = wdF s N * 1 := by omega
        _ ≤ wdF s N * s N := Nat.mul_le_mul_left _ h2
theorem wdF_cong {s s' : Nat → Nat} : ∀ {n : Nat}, (∀ i, i < n → s i = s' i) → wdF s n = wdF s' n
  | 0, _ => rfl
  | n + 1, h => by
    show wdF s n * s n = wdF s' n * s' n
    rw [wdF_cong (n := n) fun i hi => h i (by omega), h n (by omega)]
theorem smF_le {t : Nat → Nat} {c : Nat} : ∀ {n : Nat}, (∀ i, i < n → t i ≤ c) → smF t n ≤ c * n
  | 0, _ => Nat.zero_le _
  | n + 1, h => by
    show smF t n + t n ≤ c * (n + 1)
    have h1 := smF_le (n := n) fun i hi => h i (by omega)
    have h2 := h n (by omega)
    rw [Nat.mul_add]
    omega
theorem frF_le {s t : Nat → Nat} : ∀ (n a b : Nat), frF s t n a b ≤ smF t n
  | 0, _, _ => Nat.le_refl 0
  | n + 1, a, b => by
    have h := frF_le (s := s) (t := t) n (a / s n) (b / s n)
    show frF s t n _ _ + (if _ then 0 else t n) ≤ smF t n + t n
    split <;> omega
theorem frF_symm {s t : Nat → Nat} : ∀ (n a b : Nat), frF s t n a b = frF s t n b a
  | 0, _, _ => rfl
  | n + 1, a, b => by
    show frF s t n _ _ + _ = frF s t n _ _ + _
    rw [frF_symm n]
    congr 1
    by_cases h : a % s n = b % s n
    · rw [if_pos h, if_pos h.symm]
    · rw [if_neg h, if_neg (fun q => h q.symm)]
theorem frF_self {s t : Nat → Nat} : ∀ (n a : Nat), frF s t n a a = 0
  | 0, _ => rfl
  | n + 1, a => by
    show frF s t n _ _ + _ = 0
    rw [frF_self n, if_pos rfl]
theorem okC.pos {C : Cd} (h : okC C) : 1 ≤ cW C := wdF_pos fun i hi => by have := (h.2.1 i hi).1; omega
theorem okC.far {C : Cd} (h : okC C) (a b : Nat) : cF C a b ≤ 24 := by
  have h1 := frF_le (s := cS C) (t := cT C) (cN C) a b
  have h2 := smF_le (t := cT C) (c := 3) (n := cN C) fun i hi => (h.2.2.1 i hi).2
  have h3 := h.1
  unfold cF
  omega
theorem cF_symm (C : Cd) (a b : Nat) : cF C a b = cF C b a := frF_symm _ _ _
theorem cF_self (C : Cd) (a : Nat) : cF C a a = 0 := frF_self _ _
/-! ===== counting ===== -/
def ctF (p : Nat → Bool) : Nat → Nat
  | 0 => 0
  | n + 1 => ctF p n + (if p n then 1 else 0)
theorem ctF_le (p : Nat → Bool) : ∀ n, ctF p n ≤ n
  | 0 => Nat.le_refl 0
  | n + 1 => by
    have := ctF_le p n
    show ctF p n + _ ≤ n + 1
    split <;> omega
theorem ctF_cong {p q : Nat → Bool} : ∀ {n : Nat}, (∀ k, k < n → p k = q k) → ctF p n = ctF q n
  | 0, _ => rfl
  | n + 1, h => by
    show ctF p n + _ = ctF q n + _
    rw [ctF_cong (n := n) fun k hk => h k (by omega), h n (by omega)]
theorem ctF_mono (p : Nat → Bool) : ∀ {m n : Nat}, m ≤ n → ctF p m ≤ ctF p n := by
  intro m n h
  induction n with
  | zero => rw [show m = 0 by omega]; exact Nat.le_refl _
  | succ n ih =>
    by_cases e : m = n + 1
    · rw [e]; exact Nat.le_refl _
    · have := ih (by omega)
      show ctF p m ≤ ctF p n + _
      omega
theorem ctF_zero {p : Nat → Bool} : ∀ {n : Nat}, ctF p n = 0 ↔ ∀ k, k < n → p k = false
  | 0 => ⟨fun _ k hk => absurd hk (Nat.not_lt_zero k), fun _ => rfl⟩
  | n + 1 => by
    have ih := ctF_zero (p := p) (n := n)
    show ctF p n + _ = 0 ↔ _
    constructor
    · intro h k hk
      by_cases e : k = n
      · subst e
        cases hp : p k
        · rfl
        · rw [hp] at h; simp at h
      · exact ih.mp (by omega) k (by omega)
    · intro h
      rw [ih.mpr fun k hk => h k (by omega), h n (by omega)]
      rfl
theorem ctF_pos {p : Nat → Bool} {n : Nat} : 0 < ctF p n ↔ ∃ k, k < n ∧ p k = true := by
  constructor
  · intro h
    apply Classical.byContradiction
    intro hn
    have : ctF p n = 0 := ctF_zero.mpr fun k hk => by
      cases hp : p k
      · rfl
      · exact absurd ⟨k, hk, hp⟩ hn
    omega
  · rintro ⟨k, hk, hp⟩
    apply Classical.byContradiction
    intro hn
    have := ctF_zero.mp (show ctF p n = 0 by omega) k hk
    rw [hp] at this
    cases this

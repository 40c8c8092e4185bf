/-! ===== the law: its script, its calls ===== -/
def zc (nc ns : Nat) : Zs := (ρ0, 126, nc, ns)
def sc (sx : Nat → Int32) (a : Int) : Int := (sx a.toNat).toInt
theorem sc_R (sx : Nat → Int32) (a : Int) : inR (sc sx a) := inR_t _
/-- the law's locals -/
def lwv (E : Gx) (b : Nat) (i : Int) : List (Option Value) := [some (.ref b), some (rv E 0), some (rv E 115), some (rv E 125), some (iv i), none, none]
/-- the script, and room -/
def SC (x : Cx) (E : Gx) (b L : Nat) (sx : Nat → Int32) (nc ns : Nat) : Prop := va_X b L sx (xs x) (xs x).heap ∧ b < (xs x).heap.size ∧ ¬ gA E b ∧ L ≤ 3072 ∧ nc ≤ (xR x).cells ∧ ns ≤ (xR x).slots
section LR
variable {cc : ByteArray} {x : Cx} {E : Gx} {μ : Mem} {pc : Nat} {lv : List (Option Value)} {st : List Value} {Q : State → Prop} {D nL : Nat} {own : String} {b L nc ns : Nat} {sx : Nat → Int32} {i : Int}
theorem r_slen0 {z : Zs} (S : SC x E b L sx nc ns) (d : decode cc pc = .ok (.arraylength, 1)) (k : J cc x E z μ (pc + 1) lv (iv (L : Int) :: st) Q) : J cc x E z μ pc lv (.ref b :: st) Q := fun hx hb H locs ls hl hP hS => by
  obtain ⟨hX, hbl, hbA, -, -, -⟩ := S
  refine va_slen hx hb hX hbl hbA hS d ?_
  have h := k hx hb H locs ls hl hP hS
  have e : iv (L : Int) = Value.int (nI L) := by unfold iv nI; rw [Int32.ofInt_eq_ofNat]
  rw [e] at h
  exact h
theorem r_sld {z : Zs} {a : Int} (S : SC x E b L sx nc ns) (ha : 0 ≤ a ∧ a < (L : Int)) (d : decode cc pc = .ok (.iaload, 1)) (k : J cc x E z μ (pc + 1) lv (iv (sc sx a) :: st) Q) : J cc x E z μ pc lv (iv a :: .ref b :: st) Q := fun hx hb H locs ls hl hP hS => by
  obtain ⟨hX, hbl, hbA, hL, -, -⟩ := S
  refine va_sld hx hb hX hbl hbA hS (in_of ha.1 ha.2 (by omega)) d ?_
  have h := k hx hb H locs ls hl hP hS
  have e : iv (sc sx a) = Value.int (sx (Int32.ofInt a).toNatClampNeg) := by
    unfold iv sc
    rw [Int32.ofInt_toInt, clampI ha.1 (by omega)]
  rw [e] at h
  exact h
theorem r_sl0 {z : Zs} (d : decode cc pc = .ok (.aload_n 0, 1)) (k : J cc x E z μ (pc + 1) (lwv E b i) (.ref b :: st) Q) : J cc x E z μ pc (lwv E b i) st Q := fun hx hb H locs ls hl hP hS => lv_aload_n hx hb d rfl (lh_at hl (i := 0) rfl) (k hx hb H locs ls hl hP hS)
theorem r_xl1 {z : Zs} (d : decode cc pc = .ok (.aload_n 1, 1)) (k : J cc x E z μ (pc + 1) (lwv E b i) (rv E 0 :: st) Q) : J cc x E z μ pc (lwv E b i) st Q := r_aload_n d rfl rfl k
theorem r_xl2 {z : Zs} (d : decode cc pc = .ok (.aload_n 2, 1)) (k : J cc x E z μ (pc + 1) (lwv E b i) (rv E 115 :: st) Q) : J cc x E z μ pc (lwv E b i) st Q := r_aload_n d rfl rfl k
theorem r_xl4 {z : Zs} (d : decode cc pc = .ok (.iload 4, 2)) (k : J cc x E z μ (pc + 2) (lwv E b i) (iv i :: st) Q) : J cc x E z μ pc (lwv E b i) st Q := r_iload d rfl k
/-- script[i + k] -/
theorem r_arg {z : Zs} {k : Int} (S : SC x E b L sx nc ns) (ha : 0 ≤ i + k ∧ i + k < (L : Int)) (d0 : decode cc pc = .ok (.aload_n 0, 1)) (d1 : decode cc (pc + 1) = .ok (.iload 4, 2)) (d2 : decode cc (pc + 1 + 2) = .ok (.iconst k, 1)) (d3 : decode cc (pc + 1 + 2 + 1) = .ok (.iadd, 1)) (d4 : decode cc (pc + 1 + 2 + 1 + 1) = .ok (.iaload, 1)) (kk : J cc x E z μ (pc + 6) (lwv E b i) (iv (sc sx (i + k)) :: st) Q) : J cc x E z μ pc (lwv E b i) st Q :=
  r_sl0 d0 (r_xl4 d1 (r_iconst d2 (r_iadd d3 (r_sld S ha d4 kk))))
variable {y : MethodName} {bytes : ByteArray} {maxL idx ci k Dc : Nat} {ret : Option FieldType}
theorem r_w0 {P : Int → Mem → Prop} (B : Bd x E D nL own) (S : SC x E b L sx nc ns) (c : CB_ y bytes maxL ret 0) (hl : LK own idx y) (cv : CV_ ci y) (hk : kd k = (4, ci)) (M : MT (xl x) y bytes maxL ret E Dc 0 0 z0 [rv E k] μ (QI E z0 P)) (hD : Nat.ble (Dc + 1) D = true) (hW : Nat.ble (cats st) 8 = true) (d : decode cc pc = .ok (.invokevirtual idx, 3)) (kk : ∀ (a : Int) (μ2 : Mem), inR a → okM μ2 → P a μ2 → J cc x E (zc nc ns) μ2 (pc + 3) lv (iv a :: st) Q) : J cc x E (zc nc ns) μ pc lv (rv E k :: st) Q := k_I (z := zc nc ns) (z2 := zc nc ns) rfl (fun hx hb => n_V (z := zc nc ns) hx hb B c hl cv hD hk (kl hk) ⟨S.2.2.2.2.1, S.2.2.2.2.2⟩ M rfl hW d) kk
theorem r_w1 {a0 : Value} {P : Int → Mem → Prop} (B : Bd x E D nL own) (S : SC x E b L sx nc ns) (c : CB_ y bytes maxL ret 1) (hl : LK own idx y) (cv : CV_ ci y) (hk : kd k = (4, ci)) (M : MT (xl x) y bytes maxL ret E Dc 0 0 z0 [rv E k, a0] μ (QI E z0 P)) (hD : Nat.ble (Dc + 1) D = true) (hW : Nat.ble (cats st) 8 = true) (d : decode cc pc = .ok (.invokevirtual idx, 3)) (kk : ∀ (a : Int) (μ2 : Mem), inR a → okM μ2 → P a μ2 → J cc x E (zc nc ns) μ2 (pc + 3) lv (iv a :: st) Q) : J cc x E (zc nc ns) μ pc lv (a0 :: rv E k :: st) Q := k_I (z := zc nc ns) (z2 := zc nc ns) rfl (fun hx hb => n_V (z := zc nc ns) hx hb B c hl cv hD hk (kl hk) ⟨S.2.2.2.2.1, S.2.2.2.2.2⟩ M rfl hW d) kk
theorem r_w2 {a0 a1 : Value} {P : Int → Mem → Prop} (B : Bd x E D nL own) (S : SC x E b L sx nc ns) (c : CB_ y bytes maxL ret 2) (hl : LK own idx y) (cv : CV_ ci y) (hk : kd k = (4, ci)) (M : MT (xl x) y bytes maxL ret E Dc 0 0 z0 [rv E k, a0, a1] μ (QI E z0 P)) (hD : Nat.ble (Dc + 1) D = true) (hW : Nat.ble (cats st) 8 = true) (d : decode cc pc = .ok (.invokevirtual idx, 3)) (kk : ∀ (a : Int) (μ2 : Mem), inR a → okM μ2 → P a μ2 → J cc x E (zc nc ns) μ2 (pc + 3) lv (iv a :: st) Q) : J cc x E (zc nc ns) μ pc lv (a1 :: a0 :: rv E k :: st) Q := k_I (z := zc nc ns) (z2 := zc nc ns) rfl (fun hx hb => n_V (z := zc nc ns) hx hb B c hl cv hD hk (kl hk) ⟨S.2.2.2.2.1, S.2.2.2.2.2⟩ M rfl hW d) kk
theorem r_w3 {a0 a1 a2 : Value} {P : Int → Mem → Prop} (B : Bd x E D nL own) (S : SC x E b L sx nc ns) (c : CB_ y bytes maxL ret 3) (hl : LK own idx y) (cv : CV_ ci y) (hk : kd k = (4, ci)) (M : MT (xl x) y bytes maxL ret E Dc 0 0 z0 [rv E k, a0, a1, a2] μ (QI E z0 P)) (hD : Nat.ble (Dc + 1) D = true) (hW : Nat.ble (cats st) 8 = true) (d : decode cc pc = .ok (.invokevirtual idx, 3)) (kk : ∀ (a : Int) (μ2 : Mem), inR a → okM μ2 → P a μ2 → J cc x E (zc nc ns) μ2 (pc + 3) lv (iv a :: st) Q) : J cc x E (zc nc ns) μ pc lv (a2 :: a1 :: a0 :: rv E k :: st) Q := k_I (z := zc nc ns) (z2 := zc nc ns) rfl (fun hx hb => n_V (z := zc nc ns) hx hb B c hl cv hD hk (kl hk) ⟨S.2.2.2.2.1, S.2.2.2.2.2⟩ M rfl hW d) kk
theorem r_w4 {a0 a1 a2 a3 : Value} {P : Int → Mem → Prop} (B : Bd x E D nL own) (S : SC x E b L sx nc ns) (c : CB_ y bytes maxL ret 4) (hl : LK own idx y) (cv : CV_ ci y) (hk : kd k = (4, ci)) (M : MT (xl x) y bytes maxL ret E Dc 0 0 z0 [rv E k, a0, a1, a2, a3] μ (QI E z0 P)) (hD : Nat.ble (Dc + 1) D = true) (hW : Nat.ble (cats st) 8 = true) (d : decode cc pc = .ok (.invokevirtual idx, 3)) (kk : ∀ (a : Int) (μ2 : Mem), inR a → okM μ2 → P a μ2 → J cc x E (zc nc ns) μ2 (pc + 3) lv (iv a :: st) Q) : J cc x E (zc nc ns) μ pc lv (a3 :: a2 :: a1 :: a0 :: rv E k :: st) Q := k_I (z := zc nc ns) (z2 := zc nc ns) rfl (fun hx hb => n_V (z := zc nc ns) hx hb B c hl cv hD hk (kl hk) ⟨S.2.2.2.2.1, S.2.2.2.2.2⟩ M rfl hW d) kk
theorem r_w5 {a0 a1 a2 a3 a4 : Value} {P : Int → Mem → Prop} (B : Bd x E D nL own) (S : SC x E b L sx nc ns) (c : CB_ y bytes maxL ret 5) (hl : LK own idx y) (cv : CV_ ci y) (hk : kd k = (4, ci)) (M : MT (xl x) y bytes maxL ret E Dc 0 0 z0 [rv E k, a0, a1, a2, a3, a4] μ (QI E z0 P)) (hD : Nat.ble (Dc + 1) D = true) (hW : Nat.ble (cats st) 8 = true) (d : decode cc pc = .ok (.invokevirtual idx, 3)) (kk : ∀ (a : Int) (μ2 : Mem), inR a → okM μ2 → P a μ2 → J cc x E (zc nc ns) μ2 (pc + 3) lv (iv a :: st) Q) : J cc x E (zc nc ns) μ pc lv (a4 :: a3 :: a2 :: a1 :: a0 :: rv E k :: st) Q := k_I (z := zc nc ns) (z2 := zc nc ns) rfl (fun hx hb => n_V (z := zc nc ns) hx hb B c hl cv hD hk (kl hk) ⟨S.2.2.2.2.1, S.2.2.2.2.2⟩ M rfl hW d) kk
end LR

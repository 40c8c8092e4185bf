/-! ===== rows over the heap ===== -/
/-- a field as a class names it: the link, the class, its place -/
def FG (own : String) (idx ci j code : Nat) (ty : FieldType) : Prop := ∃ (C : String) (T : u_T) (N : Nat) (ty0 : Nat → FieldType), vwCl[ci]? = some (C, T, N) ∧ j < N ∧ N = fN ci ∧ fc ci j = code ∧ (∀ w ∈ u_ws C T N, w ∈ tblG) ∧ (∀ k, k < N → parseFieldDescriptor (T k).2.2.1 = some (ty0 k)) ∧ (∀ a, a < N → ∀ b, b < N → a ≠ b → (T a).2.1 ≠ (T b).2.1) ∧ parseFieldDescriptor (T j).2.2.1 = some ty ∧ Cond.fieldLink own idx (T j).1 (T j).2.1 (T j).2.2.1 ∈ tblG
def FGp (ci j : Nat) (fin : Bool) : Prop := ∃ (C : String) (T : u_T) (N : Nat), vwCl[ci]? = some (C, T, N) ∧ (T j).2.2.2 = fin
def FN_ (own : String) (idx ci j code : Nat) (ty : FieldType) : Prop := ∃ (C : String) (T : u_T) (N : Nat) (ty0 : Nat → FieldType) (host : String), vwCl[ci]? = some (C, T, N) ∧ j < N ∧ N = fN ci ∧ fc ci j = code ∧ (∀ w ∈ u_ws C T N, w ∈ tblG) ∧ (∀ k, k < N → parseFieldDescriptor (T k).2.2.1 = some (ty0 k)) ∧ (∀ a, a < N → ∀ b, b < N → a ≠ b → (T a).2.1 ≠ (T b).2.1) ∧ parseFieldDescriptor (T j).2.2.1 = some ty ∧ Cond.fieldLinkNest own idx (T j).1 (T j).2.1 (T j).2.2.1 host ∈ tblN
section HP
variable {cc : ByteArray} {x : Cx} {E : Gx} {z : Zs} {μ : Mem} {pc : Nat} {lv : List (Option Value)} {st : List Value} {Q : State → Prop} {D nL : Nat} {own : String}
theorem ent4 {r : Nat → Option Nat} {a : Nat → Int} {b : Nat → Int64} {ci : Nat} : ent E r a b (4, ci) = .inr (ci, fl E r a b ci) := rfl
theorem g_get (B : Bd x E D nL own) {idx ci j code k : Nat} {ty : FieldType} {v : Value} (f : FG own idx ci j code ty) (hk : kd k = (4, ci)) (hn : k < z.2.1) (hv : fv E (z.1 k) (μ.1 k) (μ.2 k) j code = v) (d : decode cc pc = .ok (.getfield idx, 3)) (kk : J cc x E z μ (pc + 3) lv (v :: st) Q) : J cc x E z μ pc lv (rv E k :: st) Q := fun hx hb H locs ls hl hP hS => by
  obtain ⟨C, T, N, ty0, hc, hj, hN, hcd, hin, -, -, -, hlk⟩ := f
  obtain ⟨hown, hts, hK, -⟩ := B
  subst hN
  exact va_get (D := gD E) (ci := ci) (v := v) hx hb hts hin hown hK hP k (by rw [wl_at hn hk]; rfl) hc j hj (hts _ hlk) (fun _ h9 => h9) (by rw [fl_get hj hcd, hv]) d (kk hx hb H locs ls hl hP hS)
theorem g_getN (B : Bd x E D nL own) {idx ci j code k : Nat} {ty : FieldType} {v : Value} (f : FN_ own idx ci j code ty) (hk : kd k = (4, ci)) (hn : k < z.2.1) (hv : fv E (z.1 k) (μ.1 k) (μ.2 k) j code = v) (d : decode cc pc = .ok (.getfield idx, 3)) (kk : J cc x E z μ (pc + 3) lv (v :: st) Q) : J cc x E z μ pc lv (rv E k :: st) Q := fun hx hb H locs ls hl hP hS => by
  obtain ⟨C, T, N, ty0, host, hc, hj, hN, hcd, hin, -, -, -, hlk⟩ := f
  obtain ⟨hown, hts, hK, hnw, -⟩ := B
  subst hN
  exact va_getN (D := gD E) (ci := ci) (v := v) hx hb hts hin hown hK hP k (by rw [wl_at hn hk]; rfl) hc j hj (va_Nw.use rfl (hnw _ hlk)) (fun _ h9 => h9) (by rw [fl_get hj hcd, hv]) d (kk hx hb H locs ls hl hP hS)
/-- an int or boolean field is read -/
theorem r_getI (B : Bd x E D nL own) {idx ci j k : Nat} {ty : FieldType} (f : FG own idx ci j 0 ty) (hk : kd k = (4, ci)) (hn : k < z.2.1) (d : decode cc pc = .ok (.getfield idx, 3)) (kk : J cc x E z μ (pc + 3) lv (iv (μ.1 k j) :: st) Q) : J cc x E z μ pc lv (rv E k :: st) Q := g_get B f hk hn rfl d kk
theorem r_getL (B : Bd x E D nL own) {idx ci j k : Nat} {ty : FieldType} (f : FG own idx ci j 1 ty) (hk : kd k = (4, ci)) (hn : k < z.2.1) (d : decode cc pc = .ok (.getfield idx, 3)) (kk : J cc x E z μ (pc + 3) lv (.long (μ.2 k j) :: st) Q) : J cc x E z μ pc lv (rv E k :: st) Q := g_get B f hk hn rfl d kk
theorem r_getR (B : Bd x E D nL own) {idx ci j k : Nat} {ty : FieldType} (t : Nat) (f : FG own idx ci j 2 ty) (hk : kd k = (4, ci)) (hn : k < z.2.1) (hr : z.1 k j = some t) (d : decode cc pc = .ok (.getfield idx, 3)) (kk : J cc x E z μ (pc + 3) lv (rv E t :: st) Q) : J cc x E z μ pc lv (rv E k :: st) Q := g_get B f hk hn (by show va_rf (ro_ E (z.1 k j)) = _; rw [hr]; rfl) d kk
theorem r_getIN (B : Bd x E D nL own) {idx ci j k : Nat} {ty : FieldType} (f : FN_ own idx ci j 0 ty) (hk : kd k = (4, ci)) (hn : k < z.2.1) (d : decode cc pc = .ok (.getfield idx, 3)) (kk : J cc x E z μ (pc + 3) lv (iv (μ.1 k j) :: st) Q) : J cc x E z μ pc lv (rv E k :: st) Q := g_getN B f hk hn rfl d kk
theorem r_getLN (B : Bd x E D nL own) {idx ci j k : Nat} {ty : FieldType} (f : FN_ own idx ci j 1 ty) (hk : kd k = (4, ci)) (hn : k < z.2.1) (d : decode cc pc = .ok (.getfield idx, 3)) (kk : J cc x E z μ (pc + 3) lv (.long (μ.2 k j) :: st) Q) : J cc x E z μ pc lv (rv E k :: st) Q := g_getN B f hk hn rfl d kk
theorem r_getRN (B : Bd x E D nL own) {idx ci j k : Nat} {ty : FieldType} (t : Nat) (f : FN_ own idx ci j 2 ty) (hk : kd k = (4, ci)) (hn : k < z.2.1) (hr : z.1 k j = some t) (d : decode cc pc = .ok (.getfield idx, 3)) (kk : J cc x E z μ (pc + 3) lv (rv E t :: st) Q) : J cc x E z μ pc lv (rv E k :: st) Q := g_getN B f hk hn (by show va_rf (ro_ E (z.1 k j)) = _; rw [hr]; rfl) d kk
theorem g_put (B : Bd x E D nL own) {idx ci j code k : Nat} {ty : FieldType} {v : Value} {z2 : Zs} {μ2 : Mem} (f : FG own idx ci j code ty) (fp : FGp ci j false) (hk : kd k = (4, ci)) (hn : k < z.2.1) (hz : z2.2 = z.2) (hv : v = fv E (z2.1 k) (μ2.1 k) (μ2.2 k) j code) (ho : ∀ q, q ≠ k → z2.1 q = z.1 q ∧ μ2.1 q = μ.1 q ∧ μ2.2 q = μ.2 q) (ho2 : ∀ q, q ≠ j → z2.1 k q = z.1 k q ∧ μ2.1 k q = μ.1 k q ∧ μ2.2 k q = μ.2 k q) (hnar : narrow ty v = v) (hfit : fits ty v = true) (d : decode cc pc = .ok (.putfield idx, 3)) (kk : J cc x E z2 μ2 (pc + 3) lv st Q) : J cc x E z μ pc lv (v :: rv E k :: st) Q := fun hx hb H locs ls hl hP hS => by
  obtain ⟨C, T, N, ty0, hc, hj, hN, hcd, hin, hty, hnm, hd, hlk⟩ := f
  obtain ⟨C', T', N', hc', hfin⟩ := fp
  cases hc.symm.trans hc'
  obtain ⟨hown, hts, hK, -⟩ := B
  subst hN
  refine va_put (D := gD E) (ci := ci) (v := v) (ty := ty) hx hb hts hin ty0 hty hnm hown hK hP wl_D hS k (by rw [wl_at hn hk]; rfl) hc j hj (hts _ hlk) (fun _ h9 => h9) hfin hd hnar hfit (by rw [fl_len]; exact hj) d (fun H1 locs1 hP1 hD1 hS1 => ?_)
  have h2 := kk hx hb H1 locs1 ls hl (by
    unfold rep
    rw [← wl_set (z := z) (z' := z2) (μ := μ) (μ' := μ2) (k := k) (by rw [hz]) rfl ho, hk, ent4, ← fl_set (r := z.1 k) (a := μ.1 k) (b := μ.2 k) hcd hv ho2]
    exact hP1) hS1
  rw [hz] at h2
  exact h2
theorem g_putN (B : Bd x E D nL own) {idx ci j code k : Nat} {ty : FieldType} {v : Value} {z2 : Zs} {μ2 : Mem} (f : FN_ own idx ci j code ty) (fp : FGp ci j false) (hk : kd k = (4, ci)) (hn : k < z.2.1) (hz : z2.2 = z.2) (hv : v = fv E (z2.1 k) (μ2.1 k) (μ2.2 k) j code) (ho : ∀ q, q ≠ k → z2.1 q = z.1 q ∧ μ2.1 q = μ.1 q ∧ μ2.2 q = μ.2 q) (ho2 : ∀ q, q ≠ j → z2.1 k q = z.1 k q ∧ μ2.1 k q = μ.1 k q ∧ μ2.2 k q = μ.2 k q) (hnar : narrow ty v = v) (hfit : fits ty v = true) (d : decode cc pc = .ok (.putfield idx, 3)) (kk : J cc x E z2 μ2 (pc + 3) lv st Q) : J cc x E z μ pc lv (v :: rv E k :: st) Q := fun hx hb H locs ls hl hP hS => by
  obtain ⟨C, T, N, ty0, host, hc, hj, hN, hcd, hin, hty, hnm, hd, hlk⟩ := f
  obtain ⟨C', T', N', hc', hfin⟩ := fp
  cases hc.symm.trans hc'
  obtain ⟨hown, hts, hK, hnw, -⟩ := B
  subst hN
  refine va_putN (D := gD E) (ci := ci) (v := v) (ty := ty) hx hb hts hin ty0 hty hnm hown hK hP wl_D hS k (by rw [wl_at hn hk]; rfl) hc j hj (va_Nw.use rfl (hnw _ hlk)) (fun _ h9 => h9) hfin hd hnar hfit (by rw [fl_len]; exact hj) d (fun H1 locs1 hP1 hD1 hS1 => ?_)
  have h2 := kk hx hb H1 locs1 ls hl (by
    unfold rep
    rw [← wl_set (z := z) (z' := z2) (μ := μ) (μ' := μ2) (k := k) (by rw [hz]) rfl ho, hk, ent4, ← fl_set (r := z.1 k) (a := μ.1 k) (b := μ.2 k) hcd hv ho2]
    exact hP1) hS1
  rw [hz] at h2
  exact h2
theorem sI_o {k j : Nat} {v : Int} : ∀ q, q ≠ k → z.1 q = z.1 q ∧ (sI μ k j v).1 q = μ.1 q ∧ (sI μ k j v).2 q = μ.2 q := fun q hq => ⟨rfl, funext fun b => if_neg (fun h => hq h.1), rfl⟩
theorem sI_o2 {k j : Nat} {v : Int} : ∀ q, q ≠ j → z.1 k q = z.1 k q ∧ (sI μ k j v).1 k q = μ.1 k q ∧ (sI μ k j v).2 k q = μ.2 k q := fun q hq => ⟨rfl, if_neg (fun h => hq h.2), rfl⟩
theorem sI_s {k j : Nat} {v : Int} : (sI μ k j v).1 k j = v := if_pos ⟨rfl, rfl⟩
theorem sL_o {k j : Nat} {v : Int64} : ∀ q, q ≠ k → z.1 q = z.1 q ∧ (sL μ k j v).1 q = μ.1 q ∧ (sL μ k j v).2 q = μ.2 q := fun q hq => ⟨rfl, rfl, funext fun b => if_neg (fun h => hq h.1)⟩
theorem sL_o2 {k j : Nat} {v : Int64} : ∀ q, q ≠ j → z.1 k q = z.1 k q ∧ (sL μ k j v).1 k q = μ.1 k q ∧ (sL μ k j v).2 k q = μ.2 k q := fun q hq => ⟨rfl, rfl, if_neg (fun h => hq h.2)⟩
theorem sL_s {k j : Nat} {v : Int64} : (sL μ k j v).2 k j = v := if_pos ⟨rfl, rfl⟩
theorem r_putI (B : Bd x E D nL own) {idx ci j k : Nat} {a : Int} (f : FG own idx ci j 0 .int) (fp : FGp ci j false) (hk : kd k = (4, ci)) (hn : k < z.2.1) (d : decode cc pc = .ok (.putfield idx, 3)) (kk : J cc x E z (sI μ k j a) (pc + 3) lv st Q) : J cc x E z μ pc lv (iv a :: rv E k :: st) Q := g_put B f fp hk hn rfl (by show _ = iv _; rw [sI_s]) sI_o sI_o2 rfl rfl d kk
theorem r_putIN (B : Bd x E D nL own) {idx ci j k : Nat} {a : Int} (f : FN_ own idx ci j 0 .int) (fp : FGp ci j false) (hk : kd k = (4, ci)) (hn : k < z.2.1) (d : decode cc pc = .ok (.putfield idx, 3)) (kk : J cc x E z (sI μ k j a) (pc + 3) lv st Q) : J cc x E z μ pc lv (iv a :: rv E k :: st) Q := g_putN B f fp hk hn rfl (by show _ = iv _; rw [sI_s]) sI_o sI_o2 rfl rfl d kk
theorem nz_ {a : Int} (ha : a = 0 ∨ a = 1) : narrow .boolean (iv a) = iv a ∧ fits .boolean (iv a) = true := by rcases ha with rfl | rfl <;> exact ⟨rfl, rfl⟩
theorem r_putZ (B : Bd x E D nL own) {idx ci j k : Nat} {a : Int} (f : FG own idx ci j 0 .boolean) (fp : FGp ci j false) (hk : kd k = (4, ci)) (hn : k < z.2.1) (ha : a = 0 ∨ a = 1) (d : decode cc pc = .ok (.putfield idx, 3)) (kk : J cc x E z (sI μ k j a) (pc + 3) lv st Q) : J cc x E z μ pc lv (iv a :: rv E k :: st) Q := g_put B f fp hk hn rfl (by show _ = iv _; rw [sI_s]) sI_o sI_o2 (nz_ ha).1 (nz_ ha).2 d kk
theorem r_putZN (B : Bd x E D nL own) {idx ci j k : Nat} {a : Int} (f : FN_ own idx ci j 0 .boolean) (fp : FGp ci j false) (hk : kd k = (4, ci)) (hn : k < z.2.1) (ha : a = 0 ∨ a = 1) (d : decode cc pc = .ok (.putfield idx, 3)) (kk : J cc x E z (sI μ k j a) (pc + 3) lv st Q) : J cc x E z μ pc lv (iv a :: rv E k :: st) Q := g_putN B f fp hk hn rfl (by show _ = iv _; rw [sI_s]) sI_o sI_o2 (nz_ ha).1 (nz_ ha).2 d kk
theorem r_putL (B : Bd x E D nL own) {idx ci j k : Nat} {a : Int64} (f : FG own idx ci j 1 .long) (fp : FGp ci j false) (hk : kd k = (4, ci)) (hn : k < z.2.1) (d : decode cc pc = .ok (.putfield idx, 3)) (kk : J cc x E z (sL μ k j a) (pc + 3) lv st Q) : J cc x E z μ pc lv (.long a :: rv E k :: st) Q := g_put B f fp hk hn rfl (by show _ = Value.long _; rw [sL_s]) sL_o sL_o2 rfl rfl d kk
/-! arrays -/
theorem r_iald (B : Bd x E D nL own) {k n : Nat} {a : Int} (hk : kd k = (1, n)) (hn : k < z.2.1) (hN : n < 2147483648) (ha : 0 ≤ a ∧ a < (n : Int)) (d : decode cc pc = .ok (.iaload, 1)) (kk : J cc x E z μ (pc + 1) lv (iv (μ.1 k a.toNat) :: st) Q) : J cc x E z μ pc lv (iv a :: rv E k :: st) Q := fun hx hb H locs ls hl hP hS => by
  obtain ⟨-, -, hK, -⟩ := B
  have h := kk hx hb H locs ls hl hP hS
  rw [← clampI (a := a) ha.1 (by omega)] at h
  exact va_iald (D := gD E) hx hb hK hP k 0 (f := fun j => Int32.ofInt (μ.1 k j)) (by rw [wl_at hn hk]; rfl) rfl (in_of ha.1 ha.2 hN) d h
theorem r_lald (B : Bd x E D nL own) {k n : Nat} {a : Int} (hk : kd k = (2, n)) (hn : k < z.2.1) (hN : n < 2147483648) (ha : 0 ≤ a ∧ a < (n : Int)) (d : decode cc pc = .ok (.laload, 1)) (kk : J cc x E z μ (pc + 1) lv (.long (μ.2 k a.toNat) :: st) Q) : J cc x E z μ pc lv (iv a :: rv E k :: st) Q := fun hx hb H locs ls hl hP hS => by
  obtain ⟨-, -, hK, -⟩ := B
  have h := kk hx hb H locs ls hl hP hS
  rw [← clampI (a := a) ha.1 (by omega)] at h
  exact va_lald (D := gD E) hx hb hK hP k 1 (f := fun j => μ.2 k j) (by rw [wl_at hn hk]; rfl) rfl (in_of ha.1 ha.2 hN) d h
theorem r_aald (B : Bd x E D nL own) {k n : Nat} {a : Int} (t : Nat) (hk : kd k = (3, n)) (hn : k < z.2.1) (hN : n < 2147483648) (ha : 0 ≤ a ∧ a < (n : Int)) (hr : z.1 k a.toNat = some t) (d : decode cc pc = .ok (.aaload, 1)) (kk : J cc x E z μ (pc + 1) lv (rv E t :: st) Q) : J cc x E z μ pc lv (iv a :: rv E k :: st) Q := fun hx hb H locs ls hl hP hS => by
  obtain ⟨-, -, hK, -⟩ := B
  have h := kk hx hb H locs ls hl hP hS
  refine va_aldq (D := gD E) hx hb hK hP k 2 (f := fun j => ro_ E (z.1 k j)) (by rw [wl_at hn hk]; rfl) rfl (in_of ha.1 ha.2 hN) d ?_
  rw [clampI (a := a) ha.1 (by omega), hr]
  exact h
theorem r_alenI (B : Bd x E D nL own) {k n : Nat} (hk : kd k = (1, n)) (hn : k < z.2.1) (d : decode cc pc = .ok (.arraylength, 1)) (kk : J cc x E z μ (pc + 1) lv (iv (n : Int) :: st) Q) : J cc x E z μ pc lv (rv E k :: st) Q := fun hx hb H locs ls hl hP hS => by
  obtain ⟨-, -, hK, -⟩ := B
  exact va_alen (D := gD E) hx hb hK hP k 0 (x := (n, .inl (fun j => Int32.ofInt (μ.1 k j)))) (by rw [wl_at hn hk]; rfl) rfl Int32.ofInt_eq_ofNat.symm d (kk hx hb H locs ls hl hP hS)
theorem r_alenL (B : Bd x E D nL own) {k n : Nat} (hk : kd k = (2, n)) (hn : k < z.2.1) (d : decode cc pc = .ok (.arraylength, 1)) (kk : J cc x E z μ (pc + 1) lv (iv (n : Int) :: st) Q) : J cc x E z μ pc lv (rv E k :: st) Q := fun hx hb H locs ls hl hP hS => by
  obtain ⟨-, -, hK, -⟩ := B
  exact va_alen (D := gD E) hx hb hK hP k 1 (x := (n, .inr (.inl (fun j => μ.2 k j)))) (by rw [wl_at hn hk]; rfl) rfl Int32.ofInt_eq_ofNat.symm d (kk hx hb H locs ls hl hP hS)
theorem r_alenR (B : Bd x E D nL own) {k n : Nat} (hk : kd k = (3, n)) (hn : k < z.2.1) (d : decode cc pc = .ok (.arraylength, 1)) (kk : J cc x E z μ (pc + 1) lv (iv (n : Int) :: st) Q) : J cc x E z μ pc lv (rv E k :: st) Q := fun hx hb H locs ls hl hP hS => by
  obtain ⟨-, -, hK, -⟩ := B
  exact va_alen (D := gD E) hx hb hK hP k 2 (x := (n, .inr (.inr (.inr (.inr (fun j => ro_ E (z.1 k j))))))) (by rw [wl_at hn hk]; rfl) rfl Int32.ofInt_eq_ofNat.symm d (kk hx hb H locs ls hl hP hS)
theorem updI {k j : Nat} {v : Int} : upd (fun q => Int32.ofInt (μ.1 k q)) j (Int32.ofInt v) = fun q => Int32.ofInt ((sI μ k j v).1 k q) := by
  funext q
  by_cases h : q = j
  · subst h
    simp [upd, sI]
  · simp [upd, sI, h]
theorem updL_ {k j : Nat} {v : Int64} : vp_updL (fun q => μ.2 k q) j v = fun q => (sL μ k j v).2 k q := by
  funext q
  by_cases h : q = j
  · subst h
    simp [vp_updL, sL]
  · simp [vp_updL, sL, h]
theorem r_iast (B : Bd x E D nL own) {k n : Nat} {a v : Int} (hk : kd k = (1, n)) (hn : k < z.2.1) (hN : n < 2147483648) (ha : 0 ≤ a ∧ a < (n : Int)) (d : decode cc pc = .ok (.iastore, 1)) (kk : J cc x E z (sI μ k a.toNat v) (pc + 1) lv st Q) : J cc x E z μ pc lv (iv v :: iv a :: rv E k :: st) Q := fun hx hb H locs ls hl hP hS => by
  obtain ⟨-, -, hK, -⟩ := B
  refine va_iast (D := gD E) hx hb hK hP wl_D hS k 0 (f := fun j => Int32.ofInt (μ.1 k j)) (by rw [wl_at hn hk]; rfl) rfl (in_of ha.1 ha.2 hN) d (fun H1 locs1 hP1 hD1 hS1 => ?_)
  refine kk hx hb H1 locs1 ls hl ?_ hS1
  unfold rep
  rw [← wl_set (z := z) (z' := z) (μ := μ) (μ' := sI μ k a.toNat v) (k := k) rfl rfl sI_o, hk]
  rw [clampI (a := a) ha.1 (by omega), updI] at hP1
  exact hP1
theorem r_last (B : Bd x E D nL own) {k n : Nat} {a : Int} {v : Int64} (hk : kd k = (2, n)) (hn : k < z.2.1) (hN : n < 2147483648) (ha : 0 ≤ a ∧ a < (n : Int)) (d : decode cc pc = .ok (.lastore, 1)) (kk : J cc x E z (sL μ k a.toNat v) (pc + 1) lv st Q) : J cc x E z μ pc lv (.long v :: iv a :: rv E k :: st) Q := fun hx hb H locs ls hl hP hS => by
  obtain ⟨-, -, hK, -⟩ := B
  refine va_last (D := gD E) hx hb hK hP wl_D hS k 1 (f := fun j => μ.2 k j) (by rw [wl_at hn hk]; rfl) rfl (in_of ha.1 ha.2 hN) d (fun H1 locs1 hP1 hD1 hS1 => ?_)
  refine kk hx hb H1 locs1 ls hl ?_ hS1
  unfold rep
  rw [← wl_set (z := z) (z' := z) (μ := μ) (μ' := sL μ k a.toNat v) (k := k) rfl rfl sL_o, hk]
  rw [clampI (a := a) ha.1 (by omega), updL_] at hP1
  exact hP1
end HP

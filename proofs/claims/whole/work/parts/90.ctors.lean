/-! ===== constructors ===== -/
def zC (z : Zs) (k : Nat) : Zs := zS (zP (zS (zP (zS (zP z 8) k 4 (k + 1)) 8) k 5 (k + 2)) 4) k 6 (k + 3)
def zB (z : Zs) (k : Nat) : Zs := zS (zP (zS (zP z 81) k 2 (k + 1)) 81) k 3 (k + 2)
/-- codes made in a loop, each into its array. -/
def zL (arr base : Nat) (z : Zs) : Nat → Zs
  | 0 => z
  | i + 1 => zS (zC (zP (zL arr base z i) 7) (base + 4 * i)) arr i (base + 4 * i)
def mL (base : Nat) (μ : Mem) : Nat → Mem
  | 0 => μ
  | i + 1 => sI (mL base μ i) (base + 4 * i) 2 1
def zG (z : Zs) : Zs := zS (zP (zS (zP (zS (zP z 256) 70 3 71) 256) 70 4 72) 256) 70 5 73
def zH (z : Zs) : Zs := zL 28 30 (zS (zP (zS (zP z 10) 27 0 28) 10) 27 1 29) 10
def zR (z : Zs) : Zs := zL 3 6 (zS (zP (zS (zP (zS (zP (zS (zP z 600) 1 0 2) 4) 1 8 3) 4) 1 9 4) 4) 1 10 5) 4
def zQ (z : Zs) : Zs := zS (zP (zS (zB (zP z 4) 75) 74 0 75) 8) 74 1 78
def zX (z : Zs) : Zs := zS (zB (zP z 4) 80) 79 0 80
def z7a (z : Zs) : Zs := zS (zX (zP (zS (zQ (zP (zS (zG (zP (zS (zH (zP (zS (zC (zP (zS (zP (zS (zR (zP z 12)) 0 0 1) 8) 0 1 22) 7) 23) 0 2 23) 4)) 0 3 27) 6)) 0 4 70) 6)) 0 5 74) 8)) 0 6 79
def z7 (z : Zs) : Zs := zL 22 83 (z7a z) 8
def m7 (μ : Mem) : Mem := mL 83 (sI (mL 30 (sI (mL 6 μ 4) 23 2 1) 10) 0 9 (-1)) 8
def z8 (z : Zs) : Zs := zS (zP (zS (zP (zS (zP (zS (zP (zS (zP (zS (zP (zS (zP (zS (zP (zS (zP z 600) 115 3 116) 3822) 115 13 117) 21840) 115 14 118) 4) 115 15 119) 4) 115 16 120) 256) 115 20 121) 81) 115 21 122) 81) 115 22 123) 8) 115 23 124
theorem zL_n (arr base : Nat) (z : Zs) : ∀ i, (zL arr base z i).2.1 = z.2.1 + 4 * i ∧ (zL arr base z i).2.2.1 = z.2.2.1 + 4 * i ∧ (zL arr base z i).2.2.2 = z.2.2.2 + 27 * i
  | 0 => ⟨rfl, rfl, rfl⟩
  | i + 1 => by
    obtain ⟨h1, h2, h3⟩ := zL_n arr base z i
    show (zL arr base z i).2.1 + 1 + 1 + 1 + 1 = _ ∧ (zL arr base z i).2.2.1 + 1 + 1 + 1 + 1 = _ ∧ (zL arr base z i).2.2.2 + 7 + 8 + 8 + 4 = _
    rw [h1, h2, h3]
    omega
def zz (w : Zs) (c s : Nat) : Zs := (w.1, w.2.1, c, s)
theorem zP_n (z : Zs) (n : Nat) : (zP z n).2.1 = z.2.1 + 1 := rfl
theorem zS_n (z : Zs) (k j t : Nat) : (zS z k j t).2.1 = z.2.1 := rfl
theorem zC_n (z : Zs) (k : Nat) : (zC z k).2.1 = z.2.1 + 3 := rfl
theorem zB_n (z : Zs) (k : Nat) : (zB z k).2.1 = z.2.1 + 2 := rfl
theorem zG_n (z : Zs) : (zG z).2.1 = z.2.1 + 3 := rfl
theorem zH_n (z : Zs) : (zH z).2.1 = z.2.1 + 42 := by
  show (zL _ _ _ _).2.1 = _
  rw [(zL_n _ _ _ _).1]
  show z.2.1 + 1 + 1 + 4 * 10 = _
  omega
theorem zR_n (z : Zs) : (zR z).2.1 = z.2.1 + 20 := by
  show (zL _ _ _ _).2.1 = _
  rw [(zL_n _ _ _ _).1]
  show z.2.1 + 1 + 1 + 1 + 1 + 4 * 4 = _
  omega
theorem zQ_n (z : Zs) : (zQ z).2.1 = z.2.1 + 4 := rfl
theorem zX_n (z : Zs) : (zX z).2.1 = z.2.1 + 3 := rfl
def NZ (x : Cx) (E : Gx) (w : Zs) (c : Nat) : Prop := (xs x).heap.size + c = gZ E + w.2.1
theorem zS_o {z : Zs} {k j t q : Nat} (h : q ≠ k) : (zS z k j t).1 q = z.1 q := funext fun b => if_neg (fun e => h e.1)
theorem zL_r (arr base : Nat) (z : Zs) {q : Nat} (hq : q < base) (ha : q ≠ arr) : ∀ i, (zL arr base z i).1 q = z.1 q
  | 0 => rfl
  | i + 1 => by
    show (zS (zS (zP (zS (zP (zS (zP (zP (zL arr base z i) 7) 8) (base + 4 * i) 4 _) 8) (base + 4 * i) 5 _) 4) (base + 4 * i) 6 _) arr i (base + 4 * i)).1 q = _
    rw [zS_o ha, zS_o (by omega)]
    show (zS (zP (zS (zP (zP (zL arr base z i) 7) 8) (base + 4 * i) 4 _) 8) (base + 4 * i) 5 _).1 q = _
    rw [zS_o (by omega)]
    show (zS (zP (zP (zL arr base z i) 7) 8) (base + 4 * i) 4 _).1 q = _
    rw [zS_o (by omega)]
    exact zL_r arr base z hq ha i
theorem FRz.C {z : Zs} {μ : Mem} {k : Nat} (h : FRz z μ) (hk : z.2.1 = k + 1) : FRz (zC z k) (sI μ k 2 1) := by
  have h1 : FRz (zP z 8) μ := h.P
  have h2 := h1.S (k := k) (j := 4) (t := k + 1) (by show k < z.2.1 + 1; omega)
  have h3 := (h2.P (n := 8)).S (k := k) (j := 5) (t := k + 2) (by show k < z.2.1 + 1 + 1; omega)
  have h4 := (h3.P (n := 4)).S (k := k) (j := 6) (t := k + 3) (by show k < z.2.1 + 1 + 1 + 1; omega)
  exact h4.I (by show k < z.2.1 + 1 + 1 + 1; omega)
theorem FRz.L {arr base : Nat} {z : Zs} {μ : Mem} (h : FRz z μ) (hb : z.2.1 = base) (ha : arr < base) : ∀ i, FRz (zL arr base z i) (mL base μ i)
  | 0 => h
  | i + 1 => by
    have ih := FRz.L h hb ha i
    have hn := (zL_n arr base z i).1
    have h1 := (ih.P (n := 7)).C (k := base + 4 * i) (by show (zL arr base z i).2.1 + 1 = _; omega)
    exact h1.S (by show arr < (zL arr base z i).2.1 + 1 + 1 + 1 + 1; omega)
theorem okM_mL {base : Nat} {μ : Mem} (h : okM μ) : ∀ i, okM (mL base μ i)
  | 0 => h
  | i + 1 => okM_sI (okM_mL h i) (inR_k rfl)
theorem FRz.B {z : Zs} {μ : Mem} {k : Nat} (h : FRz z μ) (hk : z.2.1 = k + 1) : FRz (zB z k) μ :=
  ((((h.P (n := 81)).S (k := k) (j := 2) (t := k + 1) (by show k < z.2.1 + 1; omega)).P (n := 81)).S (k := k) (j := 3) (t := k + 2) (by show k < z.2.1 + 1 + 1; omega))
theorem FRz.G {z : Zs} {μ : Mem} (h : FRz z μ) (hk : z.2.1 = 71) : FRz (zG z) μ :=
  ((((((h.P (n := 256)).S (k := 70) (j := 3) (t := 71) (by show 70 < z.2.1 + 1; omega)).P (n := 256)).S (k := 70) (j := 4) (t := 72) (by show 70 < z.2.1 + 1 + 1; omega)).P (n := 256)).S (k := 70) (j := 5) (t := 73) (by show 70 < z.2.1 + 1 + 1 + 1; omega))
theorem FRz.H {z : Zs} {μ : Mem} (h : FRz z μ) (hk : z.2.1 = 28) : FRz (zH z) (mL 30 μ 10) :=
  FRz.L ((((h.P (n := 10)).S (k := 27) (j := 0) (t := 28) (by show 27 < z.2.1 + 1; omega)).P (n := 10)).S (k := 27) (j := 1) (t := 29) (by show 27 < z.2.1 + 1 + 1; omega)) (by show z.2.1 + 1 + 1 = 30; omega) (by omega) 10
theorem FRz.R {z : Zs} {μ : Mem} (h : FRz z μ) (hk : z.2.1 = 2) : FRz (zR z) (mL 6 μ 4) :=
  FRz.L ((((((((h.P (n := 600)).S (k := 1) (j := 0) (t := 2) (by show 1 < z.2.1 + 1; omega)).P (n := 4)).S (k := 1) (j := 8) (t := 3) (by show 1 < z.2.1 + 1 + 1; omega)).P (n := 4)).S (k := 1) (j := 9) (t := 4) (by show 1 < z.2.1 + 1 + 1 + 1; omega)).P (n := 4)).S (k := 1) (j := 10) (t := 5) (by show 1 < z.2.1 + 1 + 1 + 1 + 1; omega)) (by show z.2.1 + 1 + 1 + 1 + 1 = 6; omega) (by omega) 4
theorem FRz.Q {z : Zs} {μ : Mem} (h : FRz z μ) (hk : z.2.1 = 75) : FRz (zQ z) μ :=
  (((((h.P (n := 4)).B (k := 75) (by show z.2.1 + 1 = 76; omega)).S (k := 74) (j := 0) (t := 75) (by show 74 < z.2.1 + 1 + 1 + 1; omega)).P (n := 8)).S (k := 74) (j := 1) (t := 78) (by show 74 < z.2.1 + 1 + 1 + 1 + 1; omega))
theorem FRz.X {z : Zs} {μ : Mem} (h : FRz z μ) (hk : z.2.1 = 80) : FRz (zX z) μ :=
  ((h.P (n := 4)).B (k := 80) (by show z.2.1 + 1 = 81; omega)).S (k := 79) (j := 0) (t := 80) (by show 79 < z.2.1 + 1 + 1 + 1; omega)
section QN
variable {cc : ByteArray} {x : Cx} {E : Gx} {w : Zs} {c s : Nat} {μ : Mem} {pc : Nat} {lv : List (Option Value)} {st : List Value} {Q : State → Prop} {D nL : Nat} {own : String}
theorem k_newC (B : Bd x E D nL own) {idx ci t : Nat} (hN : NZ x E w c) (F : FRz w μ) (ht : w.2.1 = t) (hk : kd t = (4, ci)) (nw : NW own idx ci) (hc : c + 1 ≤ (xR x).cells) (hs : s + fN ci ≤ (xR x).slots) (d : decode cc pc = .ok (.new idx, 3)) (k : J cc x E (zz (zP w (fN ci)) (c + 1) (s + fN ci)) μ (pc + 3) lv (rv E t :: st) Q) : J cc x E (zz w c s) μ pc lv st Q := r_newC (z := zz w c s) B hN F ht hk nw hc hs d k
theorem k_newI (B : Bd x E D nL own) {n t : Nat} (hN : NZ x E w c) (F : FRz w μ) (ht : w.2.1 = t) (hk : kd t = (1, n)) (hn : n ≤ 100000) (a : Cond.arrayClass .int ∈ tblG) (hc : c + 1 ≤ (xR x).cells) (hs : s + n ≤ (xR x).slots) (d : decode cc pc = .ok (.newarray .int, 2)) (k : J cc x E (zz (zP w n) (c + 1) (s + n)) μ (pc + 2) lv (rv E t :: st) Q) : J cc x E (zz w c s) μ pc lv (iv (n : Int) :: st) Q := r_newI (z := zz w c s) B hN F ht hk hn a hc hs d k
theorem k_newL (B : Bd x E D nL own) {n t : Nat} (hN : NZ x E w c) (F : FRz w μ) (ht : w.2.1 = t) (hk : kd t = (2, n)) (hn : n ≤ 100000) (a : Cond.arrayClass .long ∈ tblG) (hc : c + 1 ≤ (xR x).cells) (hs : s + n ≤ (xR x).slots) (d : decode cc pc = .ok (.newarray .long, 2)) (k : J cc x E (zz (zP w n) (c + 1) (s + n)) μ (pc + 2) lv (rv E t :: st) Q) : J cc x E (zz w c s) μ pc lv (iv (n : Int) :: st) Q := r_newL (z := zz w c s) B hN F ht hk hn a hc hs d k
theorem k_newR (B : Bd x E D nL own) {n t idx : Nat} (hAO : va_AO "SlipCovers$Code" (xs x)) (hN : NZ x E w c) (F : FRz w μ) (ht : w.2.1 = t) (hk : kd t = (3, n)) (hn : n ≤ 100000) (a : Cond.classLink own idx "SlipCovers$Code" ∈ tblG) (hc : c + 1 ≤ (xR x).cells) (hs : s + n ≤ (xR x).slots) (d : decode cc pc = .ok (.anewarray idx, 3)) (k : J cc x E (zz (zP w n) (c + 1) (s + n)) μ (pc + 3) lv (rv E t :: st) Q) : J cc x E (zz w c s) μ pc lv (iv (n : Int) :: st) Q := r_newR (z := zz w c s) B hAO hN F ht hk hn a hc hs d k
theorem k_putF (B : Bd x E D nL own) {idx ci j k t : Nat} {ty : FieldType} (f : FG own idx ci j 2 ty) (fp : FGp ci j true) (fd : ∃ (C : String) (T : u_T) (N : Nat), vwCl[ci]? = some (C, T, N) ∧ (T j).1 = own) (hi : (xt x).name = "<init>") (hk : kd k = (4, ci)) (hn : k < w.2.1) (hnar : narrow ty (rv E t) = rv E t) (hfit : fits ty (rv E t) = true) (d : decode cc pc = .ok (.putfield idx, 3)) (kk : J cc x E (zz (zS w k j t) c s) μ (pc + 3) lv st Q) : J cc x E (zz w c s) μ pc lv (rv E t :: rv E k :: st) Q := r_putF (z := zz w c s) B f fp fd hi hk hn hnar hfit d kk
theorem k_aast (B : Bd x E D nL own) {k n t : Nat} {a : Int} (hk : kd k = (3, n)) (hn : k < w.2.1) (hN : n < 2147483648) (ha : 0 ≤ a ∧ a < (n : Int)) (ht : kd t = (4, 1)) (htn : t < w.2.1) (d : decode cc pc = .ok (.aastore, 1)) (kk : J cc x E (zz (zS w k a.toNat t) c s) μ (pc + 1) lv st Q) : J cc x E (zz w c s) μ pc lv (rv E t :: iv a :: rv E k :: st) Q := r_aast (z := zz w c s) B hk hn hN ha ht htn d kk
variable {y : MethodName} {bytes : ByteArray} {maxL idx k Dc mc ms : Nat}
theorem k_cI {w2 : Zs} {μ2 : Mem} (B : Bd x E D nL own) (hAO : va_AO "SlipCovers$Code" (xs x)) (hN : NZ x E w c) (cb : CB_ y bytes maxL none 0) (hl : LK own idx y) (ci_ : Cond.instanceMethod y ∈ tblG) (hi : y.name = "<init>") (hD : Nat.ble (Dc + 1) D = true) (M : MC (xl x) y bytes maxL E Dc mc ms (zz w 0 0) k μ (zz w2 mc ms) μ2) (hf1 : c + mc ≤ (xR x).cells) (hf2 : s + ms ≤ (xR x).slots) (hW : Nat.ble (cats st) 8 = true) (d : decode cc pc = .ok (.invokespecial idx, 3)) (kk : okM μ2 → J cc x E (zz w2 (c + mc) (s + ms)) μ2 (pc + 3) lv st Q) : J cc x E (zz w c s) μ pc lv (rv E k :: st) Q := r_cI (z := zz w c s) (z2 := zz w2 (c + mc) (s + ms)) B hAO hN cb hl ci_ hi hD ⟨hf1, hf2⟩ rfl M hW d kk
theorem k_cIN {w2 : Zs} {μ2 : Mem} (B : Bd x E D nL own) (hAO : va_AO "SlipCovers$Code" (xs x)) (hN : NZ x E w c) (cb : CB_ y bytes maxL none 0) (hl : LN own idx y) (ci_ : Cond.instanceMethod y ∈ tblG) (hi : y.name = "<init>") (hD : Nat.ble (Dc + 1) D = true) (M : MC (xl x) y bytes maxL E Dc mc ms (zz w 0 0) k μ (zz w2 mc ms) μ2) (hf1 : c + mc ≤ (xR x).cells) (hf2 : s + ms ≤ (xR x).slots) (hW : Nat.ble (cats st) 8 = true) (d : decode cc pc = .ok (.invokespecial idx, 3)) (kk : okM μ2 → J cc x E (zz w2 (c + mc) (s + ms)) μ2 (pc + 3) lv st Q) : J cc x E (zz w c s) μ pc lv (rv E k :: st) Q := r_cIN (z := zz w c s) (z2 := zz w2 (c + mc) (s + ms)) B hAO hN cb hl ci_ hi hD ⟨hf1, hf2⟩ rfl M hW d kk
end QN
set_option maxRecDepth 20000 in
theorem c_X1_init (l : Launch) (E : Gx) {w : Zs} {μ : Mem} {k : Nat} (hk : isC k) (hz : w.2.1 = k + 1) (F : FRz w μ) (hμ : okM μ) : MC l yX1_init cX1_init 1 E 1 3 20 (zz w 0 0) k μ (zz (zC w k) 3 20) (sI μ k 2 1) := by
  refine m_startC [some (rv E k)] (by decide) rfl rfl rfl (fun x hxl hxc hxs B hr hnm hN hAO => ?_)
  subst hxl
  have hN0 : (xs x).heap.size + 0 = gZ E + w.2.1 := hN
  rw [hz] at hN0
  have hN : NZ x E w 0 := hN
  refine r_al0 dX1_init_0 ?_
  refine r_obj B lk_X1_3 oi_1 oi_2 rfl rfl dX1_init_1 ?_
  refine r_al0 dX1_init_4 ?_
  refine r_iconst dX1_init_5 ?_
  refine r_putI B fg_X1_9 fp_1_2 hk.1 (by show k < (w).2.1; rw [show (w).2.1 = k + 1 from (by simp only [zP_n, zS_n, zC_n, zB_n, zG_n, zH_n, zR_n, zQ_n, zX_n, hz])]; omega) dX1_init_6 ?_
  have F := F.I (k := k) (j := 2) (v := 1) (by show k < (w).2.1; rw [show (w).2.1 = k + 1 from (by simp only [zP_n, zS_n, zC_n, zB_n, zG_n, zH_n, zR_n, zQ_n, zX_n, hz])]; omega)
  have hμ := okM_sI (k := k) (j := 2) (v := 1) hμ (inR_k rfl)
  refine r_al0 dX1_init_9 ?_
  refine r_bipush dX1_init_10 (by decide) ?_
  refine k_newI (n := 8) B hN F (t := (k + 1)) (show (w).2.1 = k + 1 from (by simp only [zP_n, zS_n, zC_n, zB_n, zG_n, zH_n, zR_n, zQ_n, zX_n, hz])) hk.2.1 (Nat.le_of_ble_eq_true rfl) aw_I (by rw [hxc]; exact Nat.le_of_ble_eq_true rfl) (by rw [hxs]; exact Nat.le_of_ble_eq_true rfl) dX1_init_12 ?_
  have F := F.P (n := 8)
  have hN : NZ x E (zP (w) 8) 1 := by show (xs x).heap.size + 1 = gZ E + (zP (w) 8).2.1; rw [show (zP (w) 8).2.1 = k + 2 from (by simp only [zP_n, zS_n, zC_n, zB_n, zG_n, zH_n, zR_n, zQ_n, zX_n, hz])]; omega
  refine k_putF B fg_X1_15 ff_1_4 fd_1_4 hnm hk.1 (by show k < (zP (w) 8).2.1; rw [show (zP (w) 8).2.1 = k + 2 from (by simp only [zP_n, zS_n, zC_n, zB_n, zG_n, zH_n, zR_n, zQ_n, zX_n, hz])]; omega) rfl rfl dX1_init_14 ?_
  have F := F.S (k := k) (j := 4) (t := (k + 1)) (by show k < (zP (w) 8).2.1; rw [show (zP (w) 8).2.1 = k + 2 from (by simp only [zP_n, zS_n, zC_n, zB_n, zG_n, zH_n, zR_n, zQ_n, zX_n, hz])]; omega)
  have hN : NZ x E (zS (zP (w) 8) k 4 (k + 1)) 1 := by show (xs x).heap.size + 1 = gZ E + (zS (zP (w) 8) k 4 (k + 1)).2.1; rw [show (zS (zP (w) 8) k 4 (k + 1)).2.1 = k + 2 from (by simp only [zP_n, zS_n, zC_n, zB_n, zG_n, zH_n, zR_n, zQ_n, zX_n, hz])]; omega
  refine r_al0 dX1_init_17 ?_
  refine r_bipush dX1_init_18 (by decide) ?_
  refine k_newI (n := 8) B hN F (t := (k + 2)) (show (zS (zP (w) 8) k 4 (k + 1)).2.1 = k + 2 from (by simp only [zP_n, zS_n, zC_n, zB_n, zG_n, zH_n, zR_n, zQ_n, zX_n, hz])) hk.2.2.1 (Nat.le_of_ble_eq_true rfl) aw_I (by rw [hxc]; exact Nat.le_of_ble_eq_true rfl) (by rw [hxs]; exact Nat.le_of_ble_eq_true rfl) dX1_init_20 ?_
  have F := F.P (n := 8)
  have hN : NZ x E (zP (zS (zP (w) 8) k 4 (k + 1)) 8) 2 := by show (xs x).heap.size + 2 = gZ E + (zP (zS (zP (w) 8) k 4 (k + 1)) 8).2.1; rw [show (zP (zS (zP (w) 8) k 4 (k + 1)) 8).2.1 = k + 3 from (by simp only [zP_n, zS_n, zC_n, zB_n, zG_n, zH_n, zR_n, zQ_n, zX_n, hz])]; omega
  refine k_putF B fg_X1_19 ff_1_5 fd_1_5 hnm hk.1 (by show k < (zP (zS (zP (w) 8) k 4 (k + 1)) 8).2.1; rw [show (zP (zS (zP (w) 8) k 4 (k + 1)) 8).2.1 = k + 3 from (by simp only [zP_n, zS_n, zC_n, zB_n, zG_n, zH_n, zR_n, zQ_n, zX_n, hz])]; omega) rfl rfl dX1_init_22 ?_
  have F := F.S (k := k) (j := 5) (t := (k + 2)) (by show k < (zP (zS (zP (w) 8) k 4 (k + 1)) 8).2.1; rw [show (zP (zS (zP (w) 8) k 4 (k + 1)) 8).2.1 = k + 3 from (by simp only [zP_n, zS_n, zC_n, zB_n, zG_n, zH_n, zR_n, zQ_n, zX_n, hz])]; omega)
  have hN : NZ x E (zS (zP (zS (zP (w) 8) k 4 (k + 1)) 8) k 5 (k + 2)) 2 := by show (xs x).heap.size + 2 = gZ E + (zS (zP (zS (zP (w) 8) k 4 (k + 1)) 8) k 5 (k + 2)).2.1; rw [show (zS (zP (zS (zP (w) 8) k 4 (k + 1)) 8) k 5 (k + 2)).2.1 = k + 3 from (by simp only [zP_n, zS_n, zC_n, zB_n, zG_n, zH_n, zR_n, zQ_n, zX_n, hz])]; omega
  refine r_al0 dX1_init_25 ?_
  refine r_iconst dX1_init_26 ?_
  refine k_newL (n := 4) B hN F (t := (k + 3)) (show (zS (zP (zS (zP (w) 8) k 4 (k + 1)) 8) k 5 (k + 2)).2.1 = k + 3 from (by simp only [zP_n, zS_n, zC_n, zB_n, zG_n, zH_n, zR_n, zQ_n, zX_n, hz])) hk.2.2.2 (Nat.le_of_ble_eq_true rfl) aw_L (by rw [hxc]; exact Nat.le_of_ble_eq_true rfl) (by rw [hxs]; exact Nat.le_of_ble_eq_true rfl) dX1_init_27 ?_
  have F := F.P (n := 4)
  have hN : NZ x E (zP (zS (zP (zS (zP (w) 8) k 4 (k + 1)) 8) k 5 (k + 2)) 4) 3 := by show (xs x).heap.size + 3 = gZ E + (zP (zS (zP (zS (zP (w) 8) k 4 (k + 1)) 8) k 5 (k + 2)) 4).2.1; rw [show (zP (zS (zP (zS (zP (w) 8) k 4 (k + 1)) 8) k 5 (k + 2)) 4).2.1 = k + 4 from (by simp only [zP_n, zS_n, zC_n, zB_n, zG_n, zH_n, zR_n, zQ_n, zX_n, hz])]; omega
  refine k_putF B fg_X1_22 ff_1_6 fd_1_6 hnm hk.1 (by show k < (zP (zS (zP (zS (zP (w) 8) k 4 (k + 1)) 8) k 5 (k + 2)) 4).2.1; rw [show (zP (zS (zP (zS (zP (w) 8) k 4 (k + 1)) 8) k 5 (k + 2)) 4).2.1 = k + 4 from (by simp only [zP_n, zS_n, zC_n, zB_n, zG_n, zH_n, zR_n, zQ_n, zX_n, hz])]; omega) rfl rfl dX1_init_29 ?_
  have F := F.S (k := k) (j := 6) (t := (k + 3)) (by show k < (zP (zS (zP (zS (zP (w) 8) k 4 (k + 1)) 8) k 5 (k + 2)) 4).2.1; rw [show (zP (zS (zP (zS (zP (w) 8) k 4 (k + 1)) 8) k 5 (k + 2)) 4).2.1 = k + 4 from (by simp only [zP_n, zS_n, zC_n, zB_n, zG_n, zH_n, zR_n, zQ_n, zX_n, hz])]; omega)
  have hN : NZ x E (zS (zP (zS (zP (zS (zP (w) 8) k 4 (k + 1)) 8) k 5 (k + 2)) 4) k 6 (k + 3)) 3 := by show (xs x).heap.size + 3 = gZ E + (zS (zP (zS (zP (zS (zP (w) 8) k 4 (k + 1)) 8) k 5 (k + 2)) 4) k 6 (k + 3)).2.1; rw [show (zS (zP (zS (zP (zS (zP (w) 8) k 4 (k + 1)) 8) k 5 (k + 2)) 4) k 6 (k + 3)).2.1 = k + 4 from (by simp only [zP_n, zS_n, zC_n, zB_n, zG_n, zH_n, zR_n, zQ_n, zX_n, hz])]; omega
  exact r_vret B hr hμ dX1_init_32 rfl
set_option maxRecDepth 20000 in
theorem c_X0_init (l : Launch) (E : Gx) {w : Zs} {μ : Mem} {k : Nat} (hk : isB k) (hz : w.2.1 = k + 1) (F : FRz w μ) (hμ : okM μ) : MC l yX0_init cX0_init 1 E 1 2 162 (zz w 0 0) k μ (zz (zB w k) 2 162) (μ) := by
  refine m_startC [some (rv E k)] (by decide) rfl rfl rfl (fun x hxl hxc hxs B hr hnm hN hAO => ?_)
  subst hxl
  have hN0 : (xs x).heap.size + 0 = gZ E + w.2.1 := hN
  rw [hz] at hN0
  have hN : NZ x E w 0 := hN
  refine r_al0 dX0_init_0 ?_
  refine r_obj B lk_X0_3 oi_1 oi_2 rfl rfl dX0_init_1 ?_
  refine r_al0 dX0_init_4 ?_
  refine r_bipush dX0_init_5 (by decide) ?_
  refine k_newL (n := 81) B hN F (t := (k + 1)) (show (w).2.1 = k + 1 from (by simp only [zP_n, zS_n, zC_n, zB_n, zG_n, zH_n, zR_n, zQ_n, zX_n, hz])) hk.2.1 (Nat.le_of_ble_eq_true rfl) aw_L (by rw [hxc]; exact Nat.le_of_ble_eq_true rfl) (by rw [hxs]; exact Nat.le_of_ble_eq_true rfl) dX0_init_7 ?_
  have F := F.P (n := 81)
  have hN : NZ x E (zP (w) 81) 1 := by show (xs x).heap.size + 1 = gZ E + (zP (w) 81).2.1; rw [show (zP (w) 81).2.1 = k + 2 from (by simp only [zP_n, zS_n, zC_n, zB_n, zG_n, zH_n, zR_n, zQ_n, zX_n, hz])]; omega
  refine k_putF B fg_X0_9 ff_0_2 fd_0_2 hnm hk.1 (by show k < (zP (w) 81).2.1; rw [show (zP (w) 81).2.1 = k + 2 from (by simp only [zP_n, zS_n, zC_n, zB_n, zG_n, zH_n, zR_n, zQ_n, zX_n, hz])]; omega) rfl rfl dX0_init_9 ?_
  have F := F.S (k := k) (j := 2) (t := (k + 1)) (by show k < (zP (w) 81).2.1; rw [show (zP (w) 81).2.1 = k + 2 from (by simp only [zP_n, zS_n, zC_n, zB_n, zG_n, zH_n, zR_n, zQ_n, zX_n, hz])]; omega)
  have hN : NZ x E (zS (zP (w) 81) k 2 (k + 1)) 1 := by show (xs x).heap.size + 1 = gZ E + (zS (zP (w) 81) k 2 (k + 1)).2.1; rw [show (zS (zP (w) 81) k 2 (k + 1)).2.1 = k + 2 from (by simp only [zP_n, zS_n, zC_n, zB_n, zG_n, zH_n, zR_n, zQ_n, zX_n, hz])]; omega
  refine r_al0 dX0_init_12 ?_
  refine r_bipush dX0_init_13 (by decide) ?_
  refine k_newL (n := 81) B hN F (t := (k + 2)) (show (zS (zP (w) 81) k 2 (k + 1)).2.1 = k + 2 from (by simp only [zP_n, zS_n, zC_n, zB_n, zG_n, zH_n, zR_n, zQ_n, zX_n, hz])) hk.2.2 (Nat.le_of_ble_eq_true rfl) aw_L (by rw [hxc]; exact Nat.le_of_ble_eq_true rfl) (by rw [hxs]; exact Nat.le_of_ble_eq_true rfl) dX0_init_15 ?_
  have F := F.P (n := 81)
  have hN : NZ x E (zP (zS (zP (w) 81) k 2 (k + 1)) 81) 2 := by show (xs x).heap.size + 2 = gZ E + (zP (zS (zP (w) 81) k 2 (k + 1)) 81).2.1; rw [show (zP (zS (zP (w) 81) k 2 (k + 1)) 81).2.1 = k + 3 from (by simp only [zP_n, zS_n, zC_n, zB_n, zG_n, zH_n, zR_n, zQ_n, zX_n, hz])]; omega
  refine k_putF B fg_X0_15 ff_0_3 fd_0_3 hnm hk.1 (by show k < (zP (zS (zP (w) 81) k 2 (k + 1)) 81).2.1; rw [show (zP (zS (zP (w) 81) k 2 (k + 1)) 81).2.1 = k + 3 from (by simp only [zP_n, zS_n, zC_n, zB_n, zG_n, zH_n, zR_n, zQ_n, zX_n, hz])]; omega) rfl rfl dX0_init_17 ?_
  have F := F.S (k := k) (j := 3) (t := (k + 2)) (by show k < (zP (zS (zP (w) 81) k 2 (k + 1)) 81).2.1; rw [show (zP (zS (zP (w) 81) k 2 (k + 1)) 81).2.1 = k + 3 from (by simp only [zP_n, zS_n, zC_n, zB_n, zG_n, zH_n, zR_n, zQ_n, zX_n, hz])]; omega)
  have hN : NZ x E (zS (zP (zS (zP (w) 81) k 2 (k + 1)) 81) k 3 (k + 2)) 2 := by show (xs x).heap.size + 2 = gZ E + (zS (zP (zS (zP (w) 81) k 2 (k + 1)) 81) k 3 (k + 2)).2.1; rw [show (zS (zP (zS (zP (w) 81) k 2 (k + 1)) 81) k 3 (k + 2)).2.1 = k + 3 from (by simp only [zP_n, zS_n, zC_n, zB_n, zG_n, zH_n, zR_n, zQ_n, zX_n, hz])]; omega
  exact r_vret B hr hμ dX0_init_20 rfl
set_option maxRecDepth 20000 in
theorem c_X3_init (l : Launch) (E : Gx) {w : Zs} {μ : Mem} (hz : w.2.1 = 71) (F : FRz w μ) (hμ : okM μ) : MC l yX3_init cX3_init 1 E 1 3 768 (zz w 0 0) 70 μ (zz (zG w) 3 768) (μ) := by
  refine m_startC [some (rv E 70)] (by decide) rfl rfl rfl (fun x hxl hxc hxs B hr hnm hN hAO => ?_)
  subst hxl
  have hN0 : (xs x).heap.size + 0 = gZ E + w.2.1 := hN
  rw [hz] at hN0
  have hN : NZ x E w 0 := hN
  refine r_al0 dX3_init_0 ?_
  refine r_obj B lk_X3_3 oi_1 oi_2 rfl rfl dX3_init_1 ?_
  refine r_al0 dX3_init_4 ?_
  refine r_sipush dX3_init_5 (by decide) ?_
  refine k_newI (n := 256) B hN F (t := 71) (show (w).2.1 = 71 from (by simp only [zP_n, zS_n, zC_n, zB_n, zG_n, zH_n, zR_n, zQ_n, zX_n, hz])) kd_71 (Nat.le_of_ble_eq_true rfl) aw_I (by rw [hxc]; exact Nat.le_of_ble_eq_true rfl) (by rw [hxs]; exact Nat.le_of_ble_eq_true rfl) dX3_init_8 ?_
  have F := F.P (n := 256)
  have hN : NZ x E (zP (w) 256) 1 := by show (xs x).heap.size + 1 = gZ E + (zP (w) 256).2.1; rw [show (zP (w) 256).2.1 = 72 from (by simp only [zP_n, zS_n, zC_n, zB_n, zG_n, zH_n, zR_n, zQ_n, zX_n, hz])]; omega
  refine k_putF B fg_X3_9 ff_3_3 fd_3_3 hnm kd_70 (by show 70 < (zP (w) 256).2.1; rw [show (zP (w) 256).2.1 = 72 from (by simp only [zP_n, zS_n, zC_n, zB_n, zG_n, zH_n, zR_n, zQ_n, zX_n, hz])]; omega) rfl rfl dX3_init_10 ?_
  have F := F.S (k := 70) (j := 3) (t := 71) (by show 70 < (zP (w) 256).2.1; rw [show (zP (w) 256).2.1 = 72 from (by simp only [zP_n, zS_n, zC_n, zB_n, zG_n, zH_n, zR_n, zQ_n, zX_n, hz])]; omega)
  have hN : NZ x E (zS (zP (w) 256) 70 3 71) 1 := by show (xs x).heap.size + 1 = gZ E + (zS (zP (w) 256) 70 3 71).2.1; rw [show (zS (zP (w) 256) 70 3 71).2.1 = 72 from (by simp only [zP_n, zS_n, zC_n, zB_n, zG_n, zH_n, zR_n, zQ_n, zX_n, hz])]; omega
  refine r_al0 dX3_init_13 ?_
  refine r_sipush dX3_init_14 (by decide) ?_
  refine k_newI (n := 256) B hN F (t := 72) (show (zS (zP (w) 256) 70 3 71).2.1 = 72 from (by simp only [zP_n, zS_n, zC_n, zB_n, zG_n, zH_n, zR_n, zQ_n, zX_n, hz])) kd_72 (Nat.le_of_ble_eq_true rfl) aw_I (by rw [hxc]; exact Nat.le_of_ble_eq_true rfl) (by rw [hxs]; exact Nat.le_of_ble_eq_true rfl) dX3_init_17 ?_
  have F := F.P (n := 256)
  have hN : NZ x E (zP (zS (zP (w) 256) 70 3 71) 256) 2 := by show (xs x).heap.size + 2 = gZ E + (zP (zS (zP (w) 256) 70 3 71) 256).2.1; rw [show (zP (zS (zP (w) 256) 70 3 71) 256).2.1 = 73 from (by simp only [zP_n, zS_n, zC_n, zB_n, zG_n, zH_n, zR_n, zQ_n, zX_n, hz])]; omega
  refine k_putF B fg_X3_15 ff_3_4 fd_3_4 hnm kd_70 (by show 70 < (zP (zS (zP (w) 256) 70 3 71) 256).2.1; rw [show (zP (zS (zP (w) 256) 70 3 71) 256).2.1 = 73 from (by simp only [zP_n, zS_n, zC_n, zB_n, zG_n, zH_n, zR_n, zQ_n, zX_n, hz])]; omega) rfl rfl dX3_init_19 ?_
  have F := F.S (k := 70) (j := 4) (t := 72) (by show 70 < (zP (zS (zP (w) 256) 70 3 71) 256).2.1; rw [show (zP (zS (zP (w) 256) 70 3 71) 256).2.1 = 73 from (by simp only [zP_n, zS_n, zC_n, zB_n, zG_n, zH_n, zR_n, zQ_n, zX_n, hz])]; omega)
  have hN : NZ x E (zS (zP (zS (zP (w) 256) 70 3 71) 256) 70 4 72) 2 := by show (xs x).heap.size + 2 = gZ E + (zS (zP (zS (zP (w) 256) 70 3 71) 256) 70 4 72).2.1; rw [show (zS (zP (zS (zP (w) 256) 70 3 71) 256) 70 4 72).2.1 = 73 from (by simp only [zP_n, zS_n, zC_n, zB_n, zG_n, zH_n, zR_n, zQ_n, zX_n, hz])]; omega
  refine r_al0 dX3_init_22 ?_
  refine r_sipush dX3_init_23 (by decide) ?_
  refine k_newI (n := 256) B hN F (t := 73) (show (zS (zP (zS (zP (w) 256) 70 3 71) 256) 70 4 72).2.1 = 73 from (by simp only [zP_n, zS_n, zC_n, zB_n, zG_n, zH_n, zR_n, zQ_n, zX_n, hz])) kd_73 (Nat.le_of_ble_eq_true rfl) aw_I (by rw [hxc]; exact Nat.le_of_ble_eq_true rfl) (by rw [hxs]; exact Nat.le_of_ble_eq_true rfl) dX3_init_26 ?_
  have F := F.P (n := 256)
  have hN : NZ x E (zP (zS (zP (zS (zP (w) 256) 70 3 71) 256) 70 4 72) 256) 3 := by show (xs x).heap.size + 3 = gZ E + (zP (zS (zP (zS (zP (w) 256) 70 3 71) 256) 70 4 72) 256).2.1; rw [show (zP (zS (zP (zS (zP (w) 256) 70 3 71) 256) 70 4 72) 256).2.1 = 74 from (by simp only [zP_n, zS_n, zC_n, zB_n, zG_n, zH_n, zR_n, zQ_n, zX_n, hz])]; omega
  refine k_putF B fg_X3_18 ff_3_5 fd_3_5 hnm kd_70 (by show 70 < (zP (zS (zP (zS (zP (w) 256) 70 3 71) 256) 70 4 72) 256).2.1; rw [show (zP (zS (zP (zS (zP (w) 256) 70 3 71) 256) 70 4 72) 256).2.1 = 74 from (by simp only [zP_n, zS_n, zC_n, zB_n, zG_n, zH_n, zR_n, zQ_n, zX_n, hz])]; omega) rfl rfl dX3_init_28 ?_
  have F := F.S (k := 70) (j := 5) (t := 73) (by show 70 < (zP (zS (zP (zS (zP (w) 256) 70 3 71) 256) 70 4 72) 256).2.1; rw [show (zP (zS (zP (zS (zP (w) 256) 70 3 71) 256) 70 4 72) 256).2.1 = 74 from (by simp only [zP_n, zS_n, zC_n, zB_n, zG_n, zH_n, zR_n, zQ_n, zX_n, hz])]; omega)
  have hN : NZ x E (zS (zP (zS (zP (zS (zP (w) 256) 70 3 71) 256) 70 4 72) 256) 70 5 73) 3 := by show (xs x).heap.size + 3 = gZ E + (zS (zP (zS (zP (zS (zP (w) 256) 70 3 71) 256) 70 4 72) 256) 70 5 73).2.1; rw [show (zS (zP (zS (zP (zS (zP (w) 256) 70 3 71) 256) 70 4 72) 256) 70 5 73).2.1 = 74 from (by simp only [zP_n, zS_n, zC_n, zB_n, zG_n, zH_n, zR_n, zQ_n, zX_n, hz])]; omega
  exact r_vret B hr hμ dX3_init_31 rfl
set_option maxRecDepth 20000 in
theorem lp_X4 {x : Cx} {E : Gx} (B : Bd x E 2 2 "SlipCovers$History") (hr : (xt x).sig.returnType = none) (hAO : va_AO "SlipCovers$Code" (xs x)) {w : Zs} {c s : Nat} {μ : Mem} (hz : w.2.1 = 30) (hr0 : w.1 27 0 = some 28) (F : FRz w μ) (hN : NZ x E w c) (hμ : okM μ) (hc : c + 4 * 10 ≤ (xR x).cells) (hs : s + 27 * 10 ≤ (xR x).slots) : ∀ m i : Nat, i + m = 10 → J cX4_init x E (zz (zL 28 30 w i) (c + 4 * i) (s + 27 * i)) (mL 30 μ i) 23 [some (rv E 27), some (iv (i : Int))] [] (MQ (xb x) (QV E (zz (zL 28 30 w 10) (c + 4 * 10) (s + 27 * 10)) (fun u => u = mL 30 μ 10)) (xa x) (xs x) (c + 4 * 10) (s + 27 * 10) (gA E)) := by
  intro m
  have hN : (xs x).heap.size + c = gZ E + w.2.1 := hN
  induction m with
  | zero =>
    intro i hi
    have e : i = 10 := by omega
    subst e
    have n1 := (zL_n 28 30 w 10).1
    refine r_il1 dX4_init_23 ?_
    refine r_al0 dX4_init_24 ?_
    refine r_getR B 28 fg_X4_11 kd_27 (by show 27 < (zL 28 30 w 10).2.1; rw [n1]; omega) (by show (zL 28 30 w 10).1 27 0 = _; rw [zL_r 28 30 w (by omega) (by omega)]; exact hr0) dX4_init_25 ?_
    refine r_alenR B kd_28 (by show 28 < (zL 28 30 w 10).2.1; rw [n1]; omega) dX4_init_28 ?_
    refine r_icmp_ge 51 dX4_init_29 rfl (inR_n (by omega)) (inR_n (by omega)) (fun _ => ?_) (fun c9 => absurd (by omega) c9)
    exact r_vret B hr (okM_mL hμ 10) dX4_init_51 rfl
  | succ m ih =>
    intro i hi
    have n1 := (zL_n 28 30 w i).1
    have hF := FRz.L (arr := 28) F hz (by omega) i
    have hNi : NZ x E (zL 28 30 w i) (c + 4 * i) := by show (xs x).heap.size + (c + 4 * i) = gZ E + (zL 28 30 w i).2.1; rw [n1]; omega
    have hNp : NZ x E (zP (zL 28 30 w i) 7) (c + 4 * i + 1) := by show (xs x).heap.size + (c + 4 * i + 1) = gZ E + ((zL 28 30 w i).2.1 + 1); rw [n1]; omega
    have hk := isC_past (c := i) (by omega)
    have hr1 : (zL 28 30 w i).1 27 0 = some 28 := by rw [zL_r 28 30 w (by omega) (by omega)]; exact hr0
    refine r_il1 dX4_init_23 ?_
    refine r_al0 dX4_init_24 ?_
    refine r_getR B 28 fg_X4_11 kd_27 (by show 27 < (zL 28 30 w i).2.1; rw [n1]; omega) hr1 dX4_init_25 ?_
    refine r_alenR B kd_28 (by show 28 < (zL 28 30 w i).2.1; rw [n1]; omega) dX4_init_28 ?_
    refine r_icmp_ge 51 dX4_init_29 rfl (inR_n (by omega)) (inR_n (by omega)) (fun c9 => absurd c9 (by omega)) (fun _ => ?_)
    refine r_al0 dX4_init_32 ?_
    refine r_getR B 28 fg_X4_11 kd_27 (by show 27 < (zL 28 30 w i).2.1; rw [n1]; omega) hr1 dX4_init_33 ?_
    refine r_il1 dX4_init_36 ?_
    refine k_newC B hNi hF (t := 30 + 4 * i) (by rw [n1]; omega) hk.1 nw_X4_9 (by omega) (by show _ + 7 ≤ _; omega) dX4_init_37 ?_
    refine r_dup rfl dX4_init_40 ?_
    refine k_cIN B hAO hNp cb_X1_init lk_X4_21 im_X1_init rfl rfl (c_X1_init (xl x) E hk (show (zL 28 30 w i).2.1 + 1 = 30 + 4 * i + 1 by rw [n1]; omega) (hF.P (n := 7)) (okM_mL hμ i)) (by omega) (by show _ + 7 + 20 ≤ _; omega) rfl dX4_init_41 (fun hμ2 => ?_)
    refine k_aast B kd_28 (by show 28 < (zL 28 30 w i).2.1 + 1 + 1 + 1 + 1; rw [n1]; omega) (by decide) ⟨by omega, by omega⟩ hk.1 (by show 30 + 4 * i < (zL 28 30 w i).2.1 + 1 + 1 + 1 + 1; rw [n1]; omega) dX4_init_44 ?_
    refine r_inc1 dX4_init_45 rfl ?_
    refine r_goto 23 dX4_init_48 rfl ?_
    rw [Int.toNat_natCast]
    have h9 := ih (i + 1) (by omega)
    rw [show c + 4 * (i + 1) = c + 4 * i + 1 + 3 by omega, show s + 27 * (i + 1) = s + 27 * i + 7 + 20 by omega] at h9
    exact h9

set_option maxRecDepth 20000 in
theorem c_X4_init (l : Launch) (E : Gx) {w : Zs} {μ : Mem} (hz : w.2.1 = 28) (F : FRz w μ) (hμ : okM μ) : MC l yX4_init cX4_init 2 E 2 42 290 (zz w 0 0) 27 μ (zz (zH w) 42 290) (mL 30 μ 10) := by
  refine m_startC [some (rv E 27), none] (by decide) rfl rfl rfl (fun x hxl hxc hxs B hr hnm hN hAO => ?_)
  subst hxl
  have hN0 : (xs x).heap.size + 0 = gZ E + w.2.1 := hN
  rw [hz] at hN0
  have hN : NZ x E w 0 := hN
  refine r_al0 dX4_init_0 ?_
  refine r_obj B lk_X4_3 oi_1 oi_2 rfl rfl dX4_init_1 ?_
  refine r_al0 dX4_init_4 ?_
  refine r_bipush dX4_init_5 (by decide) ?_
  refine k_newR (n := 10) B hAO hN F (t := 28) (show (w).2.1 = 28 from (by simp only [zP_n, zS_n, zC_n, zB_n, zG_n, zH_n, zR_n, zQ_n, zX_n, hz])) kd_28 (Nat.le_of_ble_eq_true rfl) cl_X4_9 (by rw [hxc]; exact Nat.le_of_ble_eq_true rfl) (by rw [hxs]; exact Nat.le_of_ble_eq_true rfl) dX4_init_7 ?_
  have F := F.P (n := 10)
  have hN : NZ x E (zP (w) 10) 1 := by show (xs x).heap.size + 1 = gZ E + (zP (w) 10).2.1; rw [show (zP (w) 10).2.1 = 29 from (by simp only [zP_n, zS_n, zC_n, zB_n, zG_n, zH_n, zR_n, zQ_n, zX_n, hz])]; omega
  refine k_putF B fg_X4_11 ff_4_0 fd_4_0 hnm kd_27 (by show 27 < (zP (w) 10).2.1; rw [show (zP (w) 10).2.1 = 29 from (by simp only [zP_n, zS_n, zC_n, zB_n, zG_n, zH_n, zR_n, zQ_n, zX_n, hz])]; omega) rfl rfl dX4_init_10 ?_
  have F := F.S (k := 27) (j := 0) (t := 28) (by show 27 < (zP (w) 10).2.1; rw [show (zP (w) 10).2.1 = 29 from (by simp only [zP_n, zS_n, zC_n, zB_n, zG_n, zH_n, zR_n, zQ_n, zX_n, hz])]; omega)
  have hN : NZ x E (zS (zP (w) 10) 27 0 28) 1 := by show (xs x).heap.size + 1 = gZ E + (zS (zP (w) 10) 27 0 28).2.1; rw [show (zS (zP (w) 10) 27 0 28).2.1 = 29 from (by simp only [zP_n, zS_n, zC_n, zB_n, zG_n, zH_n, zR_n, zQ_n, zX_n, hz])]; omega
  refine r_al0 dX4_init_13 ?_
  refine r_bipush dX4_init_14 (by decide) ?_
  refine k_newI (n := 10) B hN F (t := 29) (show (zS (zP (w) 10) 27 0 28).2.1 = 29 from (by simp only [zP_n, zS_n, zC_n, zB_n, zG_n, zH_n, zR_n, zQ_n, zX_n, hz])) kd_29 (Nat.le_of_ble_eq_true rfl) aw_I (by rw [hxc]; exact Nat.le_of_ble_eq_true rfl) (by rw [hxs]; exact Nat.le_of_ble_eq_true rfl) dX4_init_16 ?_
  have F := F.P (n := 10)
  have hN : NZ x E (zP (zS (zP (w) 10) 27 0 28) 10) 2 := by show (xs x).heap.size + 2 = gZ E + (zP (zS (zP (w) 10) 27 0 28) 10).2.1; rw [show (zP (zS (zP (w) 10) 27 0 28) 10).2.1 = 30 from (by simp only [zP_n, zS_n, zC_n, zB_n, zG_n, zH_n, zR_n, zQ_n, zX_n, hz])]; omega
  refine k_putF B fg_X4_17 ff_4_1 fd_4_1 hnm kd_27 (by show 27 < (zP (zS (zP (w) 10) 27 0 28) 10).2.1; rw [show (zP (zS (zP (w) 10) 27 0 28) 10).2.1 = 30 from (by simp only [zP_n, zS_n, zC_n, zB_n, zG_n, zH_n, zR_n, zQ_n, zX_n, hz])]; omega) rfl rfl dX4_init_18 ?_
  have F := F.S (k := 27) (j := 1) (t := 29) (by show 27 < (zP (zS (zP (w) 10) 27 0 28) 10).2.1; rw [show (zP (zS (zP (w) 10) 27 0 28) 10).2.1 = 30 from (by simp only [zP_n, zS_n, zC_n, zB_n, zG_n, zH_n, zR_n, zQ_n, zX_n, hz])]; omega)
  have hN : NZ x E (zS (zP (zS (zP (w) 10) 27 0 28) 10) 27 1 29) 2 := by show (xs x).heap.size + 2 = gZ E + (zS (zP (zS (zP (w) 10) 27 0 28) 10) 27 1 29).2.1; rw [show (zS (zP (zS (zP (w) 10) 27 0 28) 10) 27 1 29).2.1 = 30 from (by simp only [zP_n, zS_n, zC_n, zB_n, zG_n, zH_n, zR_n, zQ_n, zX_n, hz])]; omega
  refine r_iconst dX4_init_21 ?_
  refine r_is1 dX4_init_22 rfl ?_
  exact lp_X4 (c := 2) (s := 20) B hr hAO (show (zS (zP (zS (zP (w) 10) 27 0 28) 10) 27 1 29).2.1 = 30 from (by simp only [zP_n, zS_n, zC_n, zB_n, zG_n, zH_n, zR_n, zQ_n, zX_n, hz])) rfl F hN hμ (by rw [hxc]; exact Nat.le_of_ble_eq_true rfl) (by rw [hxs]; exact Nat.le_of_ble_eq_true rfl) 10 0 rfl
set_option maxRecDepth 20000 in
theorem lp_X5 {x : Cx} {E : Gx} (B : Bd x E 2 2 "SlipCovers$Reader") (hr : (xt x).sig.returnType = none) (hAO : va_AO "SlipCovers$Code" (xs x)) {w : Zs} {c s : Nat} {μ : Mem} (hz : w.2.1 = 6) (hr0 : w.1 1 8 = some 3) (F : FRz w μ) (hN : NZ x E w c) (hμ : okM μ) (hc : c + 4 * 4 ≤ (xR x).cells) (hs : s + 27 * 4 ≤ (xR x).slots) : ∀ m i : Nat, i + m = 4 → J cX5_init x E (zz (zL 3 6 w i) (c + 4 * i) (s + 27 * i)) (mL 6 μ i) 37 [some (rv E 1), some (iv (i : Int))] [] (MQ (xb x) (QV E (zz (zL 3 6 w 4) (c + 4 * 4) (s + 27 * 4)) (fun u => u = mL 6 μ 4)) (xa x) (xs x) (c + 4 * 4) (s + 27 * 4) (gA E)) := by
  intro m
  have hN : (xs x).heap.size + c = gZ E + w.2.1 := hN
  induction m with
  | zero =>
    intro i hi
    have e : i = 4 := by omega
    subst e
    have n1 := (zL_n 3 6 w 4).1
    refine r_il1 dX5_init_37 ?_
    refine r_al0 dX5_init_38 ?_
    refine r_getR B 3 fg_X5_17 kd_1 (by show 1 < (zL 3 6 w 4).2.1; rw [n1]; omega) (by show (zL 3 6 w 4).1 1 8 = _; rw [zL_r 3 6 w (by omega) (by omega)]; exact hr0) dX5_init_39 ?_
    refine r_alenR B kd_3 (by show 3 < (zL 3 6 w 4).2.1; rw [n1]; omega) dX5_init_42 ?_
    refine r_icmp_ge 65 dX5_init_43 rfl (inR_n (by omega)) (inR_n (by omega)) (fun _ => ?_) (fun c9 => absurd (by omega) c9)
    exact r_vret B hr (okM_mL hμ 4) dX5_init_65 rfl
  | succ m ih =>
    intro i hi
    have n1 := (zL_n 3 6 w i).1
    have hF := FRz.L (arr := 3) F hz (by omega) i
    have hNi : NZ x E (zL 3 6 w i) (c + 4 * i) := by show (xs x).heap.size + (c + 4 * i) = gZ E + (zL 3 6 w i).2.1; rw [n1]; omega
    have hNp : NZ x E (zP (zL 3 6 w i) 7) (c + 4 * i + 1) := by show (xs x).heap.size + (c + 4 * i + 1) = gZ E + ((zL 3 6 w i).2.1 + 1); rw [n1]; omega
    have hk := isC_drafts (c := i) (by omega)
    have hr1 : (zL 3 6 w i).1 1 8 = some 3 := by rw [zL_r 3 6 w (by omega) (by omega)]; exact hr0
    refine r_il1 dX5_init_37 ?_
    refine r_al0 dX5_init_38 ?_
    refine r_getR B 3 fg_X5_17 kd_1 (by show 1 < (zL 3 6 w i).2.1; rw [n1]; omega) hr1 dX5_init_39 ?_
    refine r_alenR B kd_3 (by show 3 < (zL 3 6 w i).2.1; rw [n1]; omega) dX5_init_42 ?_
    refine r_icmp_ge 65 dX5_init_43 rfl (inR_n (by omega)) (inR_n (by omega)) (fun c9 => absurd c9 (by omega)) (fun _ => ?_)
    refine r_al0 dX5_init_46 ?_
    refine r_getR B 3 fg_X5_17 kd_1 (by show 1 < (zL 3 6 w i).2.1; rw [n1]; omega) hr1 dX5_init_47 ?_
    refine r_il1 dX5_init_50 ?_
    refine k_newC B hNi hF (t := 6 + 4 * i) (by rw [n1]; omega) hk.1 nw_X5_15 (by omega) (by show _ + 7 ≤ _; omega) dX5_init_51 ?_
    refine r_dup rfl dX5_init_54 ?_
    refine k_cIN B hAO hNp cb_X1_init lk_X5_27 im_X1_init rfl rfl (c_X1_init (xl x) E hk (show (zL 3 6 w i).2.1 + 1 = 6 + 4 * i + 1 by rw [n1]; omega) (hF.P (n := 7)) (okM_mL hμ i)) (by omega) (by show _ + 7 + 20 ≤ _; omega) rfl dX5_init_55 (fun hμ2 => ?_)
    refine k_aast B kd_3 (by show 3 < (zL 3 6 w i).2.1 + 1 + 1 + 1 + 1; rw [n1]; omega) (by decide) ⟨by omega, by omega⟩ hk.1 (by show 6 + 4 * i < (zL 3 6 w i).2.1 + 1 + 1 + 1 + 1; rw [n1]; omega) dX5_init_58 ?_
    refine r_inc1 dX5_init_59 rfl ?_
    refine r_goto 37 dX5_init_62 rfl ?_
    rw [Int.toNat_natCast]
    have h9 := ih (i + 1) (by omega)
    rw [show c + 4 * (i + 1) = c + 4 * i + 1 + 3 by omega, show s + 27 * (i + 1) = s + 27 * i + 7 + 20 by omega] at h9
    exact h9

set_option maxRecDepth 20000 in
theorem c_X5_init (l : Launch) (E : Gx) {w : Zs} {μ : Mem} (hz : w.2.1 = 2) (F : FRz w μ) (hμ : okM μ) : MC l yX5_init cX5_init 2 E 2 20 720 (zz w 0 0) 1 μ (zz (zR w) 20 720) (mL 6 μ 4) := by
  refine m_startC [some (rv E 1), none] (by decide) rfl rfl rfl (fun x hxl hxc hxs B hr hnm hN hAO => ?_)
  subst hxl
  have hN0 : (xs x).heap.size + 0 = gZ E + w.2.1 := hN
  rw [hz] at hN0
  have hN : NZ x E w 0 := hN
  refine r_al0 dX5_init_0 ?_
  refine r_obj B lk_X5_3 oi_1 oi_2 rfl rfl dX5_init_1 ?_
  refine r_al0 dX5_init_4 ?_
  refine r_sipush dX5_init_5 (by decide) ?_
  refine k_newI (n := 600) B hN F (t := 2) (show (w).2.1 = 2 from (by simp only [zP_n, zS_n, zC_n, zB_n, zG_n, zH_n, zR_n, zQ_n, zX_n, hz])) kd_2 (Nat.le_of_ble_eq_true rfl) aw_I (by rw [hxc]; exact Nat.le_of_ble_eq_true rfl) (by rw [hxs]; exact Nat.le_of_ble_eq_true rfl) dX5_init_8 ?_
  have F := F.P (n := 600)
  have hN : NZ x E (zP (w) 600) 1 := by show (xs x).heap.size + 1 = gZ E + (zP (w) 600).2.1; rw [show (zP (w) 600).2.1 = 3 from (by simp only [zP_n, zS_n, zC_n, zB_n, zG_n, zH_n, zR_n, zQ_n, zX_n, hz])]; omega
  refine k_putF B fg_X5_11 ff_5_0 fd_5_0 hnm kd_1 (by show 1 < (zP (w) 600).2.1; rw [show (zP (w) 600).2.1 = 3 from (by simp only [zP_n, zS_n, zC_n, zB_n, zG_n, zH_n, zR_n, zQ_n, zX_n, hz])]; omega) rfl rfl dX5_init_10 ?_
  have F := F.S (k := 1) (j := 0) (t := 2) (by show 1 < (zP (w) 600).2.1; rw [show (zP (w) 600).2.1 = 3 from (by simp only [zP_n, zS_n, zC_n, zB_n, zG_n, zH_n, zR_n, zQ_n, zX_n, hz])]; omega)
  have hN : NZ x E (zS (zP (w) 600) 1 0 2) 1 := by show (xs x).heap.size + 1 = gZ E + (zS (zP (w) 600) 1 0 2).2.1; rw [show (zS (zP (w) 600) 1 0 2).2.1 = 3 from (by simp only [zP_n, zS_n, zC_n, zB_n, zG_n, zH_n, zR_n, zQ_n, zX_n, hz])]; omega
  refine r_al0 dX5_init_13 ?_
  refine r_iconst dX5_init_14 ?_
  refine k_newR (n := 4) B hAO hN F (t := 3) (show (zS (zP (w) 600) 1 0 2).2.1 = 3 from (by simp only [zP_n, zS_n, zC_n, zB_n, zG_n, zH_n, zR_n, zQ_n, zX_n, hz])) kd_3 (Nat.le_of_ble_eq_true rfl) cl_X5_15 (by rw [hxc]; exact Nat.le_of_ble_eq_true rfl) (by rw [hxs]; exact Nat.le_of_ble_eq_true rfl) dX5_init_15 ?_
  have F := F.P (n := 4)
  have hN : NZ x E (zP (zS (zP (w) 600) 1 0 2) 4) 2 := by show (xs x).heap.size + 2 = gZ E + (zP (zS (zP (w) 600) 1 0 2) 4).2.1; rw [show (zP (zS (zP (w) 600) 1 0 2) 4).2.1 = 4 from (by simp only [zP_n, zS_n, zC_n, zB_n, zG_n, zH_n, zR_n, zQ_n, zX_n, hz])]; omega
  refine k_putF B fg_X5_17 ff_5_8 fd_5_8 hnm kd_1 (by show 1 < (zP (zS (zP (w) 600) 1 0 2) 4).2.1; rw [show (zP (zS (zP (w) 600) 1 0 2) 4).2.1 = 4 from (by simp only [zP_n, zS_n, zC_n, zB_n, zG_n, zH_n, zR_n, zQ_n, zX_n, hz])]; omega) rfl rfl dX5_init_18 ?_
  have F := F.S (k := 1) (j := 8) (t := 3) (by show 1 < (zP (zS (zP (w) 600) 1 0 2) 4).2.1; rw [show (zP (zS (zP (w) 600) 1 0 2) 4).2.1 = 4 from (by simp only [zP_n, zS_n, zC_n, zB_n, zG_n, zH_n, zR_n, zQ_n, zX_n, hz])]; omega)
  have hN : NZ x E (zS (zP (zS (zP (w) 600) 1 0 2) 4) 1 8 3) 2 := by show (xs x).heap.size + 2 = gZ E + (zS (zP (zS (zP (w) 600) 1 0 2) 4) 1 8 3).2.1; rw [show (zS (zP (zS (zP (w) 600) 1 0 2) 4) 1 8 3).2.1 = 4 from (by simp only [zP_n, zS_n, zC_n, zB_n, zG_n, zH_n, zR_n, zQ_n, zX_n, hz])]; omega
  refine r_al0 dX5_init_21 ?_
  refine r_iconst dX5_init_22 ?_
  refine k_newI (n := 4) B hN F (t := 4) (show (zS (zP (zS (zP (w) 600) 1 0 2) 4) 1 8 3).2.1 = 4 from (by simp only [zP_n, zS_n, zC_n, zB_n, zG_n, zH_n, zR_n, zQ_n, zX_n, hz])) kd_4 (Nat.le_of_ble_eq_true rfl) aw_I (by rw [hxc]; exact Nat.le_of_ble_eq_true rfl) (by rw [hxs]; exact Nat.le_of_ble_eq_true rfl) dX5_init_23 ?_
  have F := F.P (n := 4)
  have hN : NZ x E (zP (zS (zP (zS (zP (w) 600) 1 0 2) 4) 1 8 3) 4) 3 := by show (xs x).heap.size + 3 = gZ E + (zP (zS (zP (zS (zP (w) 600) 1 0 2) 4) 1 8 3) 4).2.1; rw [show (zP (zS (zP (zS (zP (w) 600) 1 0 2) 4) 1 8 3) 4).2.1 = 5 from (by simp only [zP_n, zS_n, zC_n, zB_n, zG_n, zH_n, zR_n, zQ_n, zX_n, hz])]; omega
  refine k_putF B fg_X5_21 ff_5_9 fd_5_9 hnm kd_1 (by show 1 < (zP (zS (zP (zS (zP (w) 600) 1 0 2) 4) 1 8 3) 4).2.1; rw [show (zP (zS (zP (zS (zP (w) 600) 1 0 2) 4) 1 8 3) 4).2.1 = 5 from (by simp only [zP_n, zS_n, zC_n, zB_n, zG_n, zH_n, zR_n, zQ_n, zX_n, hz])]; omega) rfl rfl dX5_init_25 ?_
  have F := F.S (k := 1) (j := 9) (t := 4) (by show 1 < (zP (zS (zP (zS (zP (w) 600) 1 0 2) 4) 1 8 3) 4).2.1; rw [show (zP (zS (zP (zS (zP (w) 600) 1 0 2) 4) 1 8 3) 4).2.1 = 5 from (by simp only [zP_n, zS_n, zC_n, zB_n, zG_n, zH_n, zR_n, zQ_n, zX_n, hz])]; omega)
  have hN : NZ x E (zS (zP (zS (zP (zS (zP (w) 600) 1 0 2) 4) 1 8 3) 4) 1 9 4) 3 := by show (xs x).heap.size + 3 = gZ E + (zS (zP (zS (zP (zS (zP (w) 600) 1 0 2) 4) 1 8 3) 4) 1 9 4).2.1; rw [show (zS (zP (zS (zP (zS (zP (w) 600) 1 0 2) 4) 1 8 3) 4) 1 9 4).2.1 = 5 from (by simp only [zP_n, zS_n, zC_n, zB_n, zG_n, zH_n, zR_n, zQ_n, zX_n, hz])]; omega
  refine r_al0 dX5_init_28 ?_
  refine r_iconst dX5_init_29 ?_
  refine k_newI (n := 4) B hN F (t := 5) (show (zS (zP (zS (zP (zS (zP (w) 600) 1 0 2) 4) 1 8 3) 4) 1 9 4).2.1 = 5 from (by simp only [zP_n, zS_n, zC_n, zB_n, zG_n, zH_n, zR_n, zQ_n, zX_n, hz])) kd_5 (Nat.le_of_ble_eq_true rfl) aw_I (by rw [hxc]; exact Nat.le_of_ble_eq_true rfl) (by rw [hxs]; exact Nat.le_of_ble_eq_true rfl) dX5_init_30 ?_
  have F := F.P (n := 4)
  have hN : NZ x E (zP (zS (zP (zS (zP (zS (zP (w) 600) 1 0 2) 4) 1 8 3) 4) 1 9 4) 4) 4 := by show (xs x).heap.size + 4 = gZ E + (zP (zS (zP (zS (zP (zS (zP (w) 600) 1 0 2) 4) 1 8 3) 4) 1 9 4) 4).2.1; rw [show (zP (zS (zP (zS (zP (zS (zP (w) 600) 1 0 2) 4) 1 8 3) 4) 1 9 4) 4).2.1 = 6 from (by simp only [zP_n, zS_n, zC_n, zB_n, zG_n, zH_n, zR_n, zQ_n, zX_n, hz])]; omega
  refine k_putF B fg_X5_24 ff_5_10 fd_5_10 hnm kd_1 (by show 1 < (zP (zS (zP (zS (zP (zS (zP (w) 600) 1 0 2) 4) 1 8 3) 4) 1 9 4) 4).2.1; rw [show (zP (zS (zP (zS (zP (zS (zP (w) 600) 1 0 2) 4) 1 8 3) 4) 1 9 4) 4).2.1 = 6 from (by simp only [zP_n, zS_n, zC_n, zB_n, zG_n, zH_n, zR_n, zQ_n, zX_n, hz])]; omega) rfl rfl dX5_init_32 ?_
  have F := F.S (k := 1) (j := 10) (t := 5) (by show 1 < (zP (zS (zP (zS (zP (zS (zP (w) 600) 1 0 2) 4) 1 8 3) 4) 1 9 4) 4).2.1; rw [show (zP (zS (zP (zS (zP (zS (zP (w) 600) 1 0 2) 4) 1 8 3) 4) 1 9 4) 4).2.1 = 6 from (by simp only [zP_n, zS_n, zC_n, zB_n, zG_n, zH_n, zR_n, zQ_n, zX_n, hz])]; omega)
  have hN : NZ x E (zS (zP (zS (zP (zS (zP (zS (zP (w) 600) 1 0 2) 4) 1 8 3) 4) 1 9 4) 4) 1 10 5) 4 := by show (xs x).heap.size + 4 = gZ E + (zS (zP (zS (zP (zS (zP (zS (zP (w) 600) 1 0 2) 4) 1 8 3) 4) 1 9 4) 4) 1 10 5).2.1; rw [show (zS (zP (zS (zP (zS (zP (zS (zP (w) 600) 1 0 2) 4) 1 8 3) 4) 1 9 4) 4) 1 10 5).2.1 = 6 from (by simp only [zP_n, zS_n, zC_n, zB_n, zG_n, zH_n, zR_n, zQ_n, zX_n, hz])]; omega
  refine r_iconst dX5_init_35 ?_
  refine r_is1 dX5_init_36 rfl ?_
  exact lp_X5 (c := 4) (s := 612) B hr hAO (show (zS (zP (zS (zP (zS (zP (zS (zP (w) 600) 1 0 2) 4) 1 8 3) 4) 1 9 4) 4) 1 10 5).2.1 = 6 from (by simp only [zP_n, zS_n, zC_n, zB_n, zG_n, zH_n, zR_n, zQ_n, zX_n, hz])) rfl F hN hμ (by rw [hxc]; exact Nat.le_of_ble_eq_true rfl) (by rw [hxs]; exact Nat.le_of_ble_eq_true rfl) 4 0 rfl
set_option maxRecDepth 20000 in
theorem c_X6_init (l : Launch) (E : Gx) {w : Zs} {μ : Mem} (hz : w.2.1 = 75) (F : FRz w μ) (hμ : okM μ) : MC l yX6_init cX6_init 1 E 2 4 174 (zz w 0 0) 74 μ (zz (zQ w) 4 174) (μ) := by
  refine m_startC [some (rv E 74)] (by decide) rfl rfl rfl (fun x hxl hxc hxs B hr hnm hN hAO => ?_)
  subst hxl
  have hN0 : (xs x).heap.size + 0 = gZ E + w.2.1 := hN
  rw [hz] at hN0
  have hN : NZ x E w 0 := hN
  refine r_al0 dX6_init_0 ?_
  refine r_obj B lk_X6_3 oi_1 oi_2 rfl rfl dX6_init_1 ?_
  refine r_al0 dX6_init_4 ?_
  refine k_newC B hN F (t := 75) (show (w).2.1 = 75 from (by simp only [zP_n, zS_n, zC_n, zB_n, zG_n, zH_n, zR_n, zQ_n, zX_n, hz])) kd_75 nw_X6_9 (by rw [hxc]; exact Nat.le_of_ble_eq_true rfl) (by rw [hxs]; exact Nat.le_of_ble_eq_true rfl) dX6_init_5 ?_
  have F := F.P (n := 4)
  have hN : NZ x E (zP (w) 4) 1 := by show (xs x).heap.size + 1 = gZ E + (zP (w) 4).2.1; rw [show (zP (w) 4).2.1 = 76 from (by simp only [zP_n, zS_n, zC_n, zB_n, zG_n, zH_n, zR_n, zQ_n, zX_n, hz])]; omega
  refine r_dup rfl dX6_init_8 ?_
  refine k_cIN B hAO hN cb_X0_init lk_X6_11 im_X0_init rfl rfl (c_X0_init (xl x) E isB_1 (show (zP (w) 4).2.1 = 76 from (by simp only [zP_n, zS_n, zC_n, zB_n, zG_n, zH_n, zR_n, zQ_n, zX_n, hz])) F hμ) (by rw [hxc]; exact Nat.le_of_ble_eq_true rfl) (by rw [hxs]; exact Nat.le_of_ble_eq_true rfl) rfl dX6_init_9 (fun hμ => ?_)
  have F := F.B (k := 75) (show (zP (w) 4).2.1 = 76 from (by simp only [zP_n, zS_n, zC_n, zB_n, zG_n, zH_n, zR_n, zQ_n, zX_n, hz]))
  have hN : NZ x E (zB (zP (w) 4) 75) 3 := by show (xs x).heap.size + 3 = gZ E + (zB (zP (w) 4) 75).2.1; rw [show (zB (zP (w) 4) 75).2.1 = 78 from (by simp only [zP_n, zS_n, zC_n, zB_n, zG_n, zH_n, zR_n, zQ_n, zX_n, hz])]; omega
  refine k_putF B fg_X6_12 ff_6_0 fd_6_0 hnm kd_74 (by show 74 < (zB (zP (w) 4) 75).2.1; rw [show (zB (zP (w) 4) 75).2.1 = 78 from (by simp only [zP_n, zS_n, zC_n, zB_n, zG_n, zH_n, zR_n, zQ_n, zX_n, hz])]; omega) rfl rfl dX6_init_12 ?_
  have F := F.S (k := 74) (j := 0) (t := 75) (by show 74 < (zB (zP (w) 4) 75).2.1; rw [show (zB (zP (w) 4) 75).2.1 = 78 from (by simp only [zP_n, zS_n, zC_n, zB_n, zG_n, zH_n, zR_n, zQ_n, zX_n, hz])]; omega)
  have hN : NZ x E (zS (zB (zP (w) 4) 75) 74 0 75) 3 := by show (xs x).heap.size + 3 = gZ E + (zS (zB (zP (w) 4) 75) 74 0 75).2.1; rw [show (zS (zB (zP (w) 4) 75) 74 0 75).2.1 = 78 from (by simp only [zP_n, zS_n, zC_n, zB_n, zG_n, zH_n, zR_n, zQ_n, zX_n, hz])]; omega
  refine r_al0 dX6_init_15 ?_
  refine r_bipush dX6_init_16 (by decide) ?_
  refine k_newI (n := 8) B hN F (t := 78) (show (zS (zB (zP (w) 4) 75) 74 0 75).2.1 = 78 from (by simp only [zP_n, zS_n, zC_n, zB_n, zG_n, zH_n, zR_n, zQ_n, zX_n, hz])) kd_78 (Nat.le_of_ble_eq_true rfl) aw_I (by rw [hxc]; exact Nat.le_of_ble_eq_true rfl) (by rw [hxs]; exact Nat.le_of_ble_eq_true rfl) dX6_init_18 ?_
  have F := F.P (n := 8)
  have hN : NZ x E (zP (zS (zB (zP (w) 4) 75) 74 0 75) 8) 4 := by show (xs x).heap.size + 4 = gZ E + (zP (zS (zB (zP (w) 4) 75) 74 0 75) 8).2.1; rw [show (zP (zS (zB (zP (w) 4) 75) 74 0 75) 8).2.1 = 79 from (by simp only [zP_n, zS_n, zC_n, zB_n, zG_n, zH_n, zR_n, zQ_n, zX_n, hz])]; omega
  refine k_putF B fg_X6_18 ff_6_1 fd_6_1 hnm kd_74 (by show 74 < (zP (zS (zB (zP (w) 4) 75) 74 0 75) 8).2.1; rw [show (zP (zS (zB (zP (w) 4) 75) 74 0 75) 8).2.1 = 79 from (by simp only [zP_n, zS_n, zC_n, zB_n, zG_n, zH_n, zR_n, zQ_n, zX_n, hz])]; omega) rfl rfl dX6_init_20 ?_
  have F := F.S (k := 74) (j := 1) (t := 78) (by show 74 < (zP (zS (zB (zP (w) 4) 75) 74 0 75) 8).2.1; rw [show (zP (zS (zB (zP (w) 4) 75) 74 0 75) 8).2.1 = 79 from (by simp only [zP_n, zS_n, zC_n, zB_n, zG_n, zH_n, zR_n, zQ_n, zX_n, hz])]; omega)
  have hN : NZ x E (zS (zP (zS (zB (zP (w) 4) 75) 74 0 75) 8) 74 1 78) 4 := by show (xs x).heap.size + 4 = gZ E + (zS (zP (zS (zB (zP (w) 4) 75) 74 0 75) 8) 74 1 78).2.1; rw [show (zS (zP (zS (zB (zP (w) 4) 75) 74 0 75) 8) 74 1 78).2.1 = 79 from (by simp only [zP_n, zS_n, zC_n, zB_n, zG_n, zH_n, zR_n, zQ_n, zX_n, hz])]; omega
  exact r_vret B hr hμ dX6_init_23 rfl
set_option maxRecDepth 20000 in
theorem c_X2_init (l : Launch) (E : Gx) {w : Zs} {μ : Mem} (hz : w.2.1 = 80) (F : FRz w μ) (hμ : okM μ) : MC l yX2_init cX2_init 1 E 2 3 166 (zz w 0 0) 79 μ (zz (zX w) 3 166) (μ) := by
  refine m_startC [some (rv E 79)] (by decide) rfl rfl rfl (fun x hxl hxc hxs B hr hnm hN hAO => ?_)
  subst hxl
  have hN0 : (xs x).heap.size + 0 = gZ E + w.2.1 := hN
  rw [hz] at hN0
  have hN : NZ x E w 0 := hN
  refine r_al0 dX2_init_0 ?_
  refine r_obj B lk_X2_3 oi_1 oi_2 rfl rfl dX2_init_1 ?_
  refine r_al0 dX2_init_4 ?_
  refine k_newC B hN F (t := 80) (show (w).2.1 = 80 from (by simp only [zP_n, zS_n, zC_n, zB_n, zG_n, zH_n, zR_n, zQ_n, zX_n, hz])) kd_80 nw_X2_9 (by rw [hxc]; exact Nat.le_of_ble_eq_true rfl) (by rw [hxs]; exact Nat.le_of_ble_eq_true rfl) dX2_init_5 ?_
  have F := F.P (n := 4)
  have hN : NZ x E (zP (w) 4) 1 := by show (xs x).heap.size + 1 = gZ E + (zP (w) 4).2.1; rw [show (zP (w) 4).2.1 = 81 from (by simp only [zP_n, zS_n, zC_n, zB_n, zG_n, zH_n, zR_n, zQ_n, zX_n, hz])]; omega
  refine r_dup rfl dX2_init_8 ?_
  refine k_cIN B hAO hN cb_X0_init lk_X2_11 im_X0_init rfl rfl (c_X0_init (xl x) E isB_2 (show (zP (w) 4).2.1 = 81 from (by simp only [zP_n, zS_n, zC_n, zB_n, zG_n, zH_n, zR_n, zQ_n, zX_n, hz])) F hμ) (by rw [hxc]; exact Nat.le_of_ble_eq_true rfl) (by rw [hxs]; exact Nat.le_of_ble_eq_true rfl) rfl dX2_init_9 (fun hμ => ?_)
  have F := F.B (k := 80) (show (zP (w) 4).2.1 = 81 from (by simp only [zP_n, zS_n, zC_n, zB_n, zG_n, zH_n, zR_n, zQ_n, zX_n, hz]))
  have hN : NZ x E (zB (zP (w) 4) 80) 3 := by show (xs x).heap.size + 3 = gZ E + (zB (zP (w) 4) 80).2.1; rw [show (zB (zP (w) 4) 80).2.1 = 83 from (by simp only [zP_n, zS_n, zC_n, zB_n, zG_n, zH_n, zR_n, zQ_n, zX_n, hz])]; omega
  refine k_putF B fg_X2_12 ff_2_0 fd_2_0 hnm kd_79 (by show 79 < (zB (zP (w) 4) 80).2.1; rw [show (zB (zP (w) 4) 80).2.1 = 83 from (by simp only [zP_n, zS_n, zC_n, zB_n, zG_n, zH_n, zR_n, zQ_n, zX_n, hz])]; omega) rfl rfl dX2_init_12 ?_
  have F := F.S (k := 79) (j := 0) (t := 80) (by show 79 < (zB (zP (w) 4) 80).2.1; rw [show (zB (zP (w) 4) 80).2.1 = 83 from (by simp only [zP_n, zS_n, zC_n, zB_n, zG_n, zH_n, zR_n, zQ_n, zX_n, hz])]; omega)
  have hN : NZ x E (zS (zB (zP (w) 4) 80) 79 0 80) 3 := by show (xs x).heap.size + 3 = gZ E + (zS (zB (zP (w) 4) 80) 79 0 80).2.1; rw [show (zS (zB (zP (w) 4) 80) 79 0 80).2.1 = 83 from (by simp only [zP_n, zS_n, zC_n, zB_n, zG_n, zH_n, zR_n, zQ_n, zX_n, hz])]; omega
  exact r_vret B hr hμ dX2_init_15 rfl
set_option maxRecDepth 20000 in
theorem lp_X7 {x : Cx} {E : Gx} (B : Bd x E 3 2 "SlipCovers") (hr : (xt x).sig.returnType = none) (hAO : va_AO "SlipCovers$Code" (xs x)) {w : Zs} {c s : Nat} {μ : Mem} (hz : w.2.1 = 83) (hr0 : w.1 0 1 = some 22) (F : FRz w μ) (hN : NZ x E w c) (hμ : okM μ) (hc : c + 4 * 8 ≤ (xR x).cells) (hs : s + 27 * 8 ≤ (xR x).slots) : ∀ m i : Nat, i + m = 8 → J cX7_init x E (zz (zL 22 83 w i) (c + 4 * i) (s + 27 * i)) (mL 83 μ i) 86 [some (rv E 0), some (iv (i : Int))] [] (MQ (xb x) (QV E (zz (zL 22 83 w 8) (c + 4 * 8) (s + 27 * 8)) (fun u => u = mL 83 μ 8)) (xa x) (xs x) (c + 4 * 8) (s + 27 * 8) (gA E)) := by
  intro m
  have hN : (xs x).heap.size + c = gZ E + w.2.1 := hN
  induction m with
  | zero =>
    intro i hi
    have e : i = 8 := by omega
    subst e
    have n1 := (zL_n 22 83 w 8).1
    refine r_il1 dX7_init_86 ?_
    refine r_al0 dX7_init_87 ?_
    refine r_getR B 22 fg_X7_18 kd_0 (by show 0 < (zL 22 83 w 8).2.1; rw [n1]; omega) (by show (zL 22 83 w 8).1 0 1 = _; rw [zL_r 22 83 w (by omega) (by omega)]; exact hr0) dX7_init_88 ?_
    refine r_alenR B kd_22 (by show 22 < (zL 22 83 w 8).2.1; rw [n1]; omega) dX7_init_91 ?_
    refine r_icmp_ge 114 dX7_init_92 rfl (inR_n (by omega)) (inR_n (by omega)) (fun _ => ?_) (fun c9 => absurd (by omega) c9)
    exact r_vret B hr (okM_mL hμ 8) dX7_init_114 rfl
  | succ m ih =>
    intro i hi
    have n1 := (zL_n 22 83 w i).1
    have hF := FRz.L (arr := 22) F hz (by omega) i
    have hNi : NZ x E (zL 22 83 w i) (c + 4 * i) := by show (xs x).heap.size + (c + 4 * i) = gZ E + (zL 22 83 w i).2.1; rw [n1]; omega
    have hNp : NZ x E (zP (zL 22 83 w i) 7) (c + 4 * i + 1) := by show (xs x).heap.size + (c + 4 * i + 1) = gZ E + ((zL 22 83 w i).2.1 + 1); rw [n1]; omega
    have hk := isC_codes (c := i) (by omega)
    have hr1 : (zL 22 83 w i).1 0 1 = some 22 := by rw [zL_r 22 83 w (by omega) (by omega)]; exact hr0
    refine r_il1 dX7_init_86 ?_
    refine r_al0 dX7_init_87 ?_
    refine r_getR B 22 fg_X7_18 kd_0 (by show 0 < (zL 22 83 w i).2.1; rw [n1]; omega) hr1 dX7_init_88 ?_
    refine r_alenR B kd_22 (by show 22 < (zL 22 83 w i).2.1; rw [n1]; omega) dX7_init_91 ?_
    refine r_icmp_ge 114 dX7_init_92 rfl (inR_n (by omega)) (inR_n (by omega)) (fun c9 => absurd c9 (by omega)) (fun _ => ?_)
    refine r_al0 dX7_init_95 ?_
    refine r_getR B 22 fg_X7_18 kd_0 (by show 0 < (zL 22 83 w i).2.1; rw [n1]; omega) hr1 dX7_init_96 ?_
    refine r_il1 dX7_init_99 ?_
    refine k_newC B hNi hF (t := 83 + 4 * i) (by rw [n1]; omega) hk.1 nw_X7_16 (by omega) (by show _ + 7 ≤ _; omega) dX7_init_100 ?_
    refine r_dup rfl dX7_init_103 ?_
    refine k_cIN B hAO hNp cb_X1_init lk_X7_22 im_X1_init rfl rfl (c_X1_init (xl x) E hk (show (zL 22 83 w i).2.1 + 1 = 83 + 4 * i + 1 by rw [n1]; omega) (hF.P (n := 7)) (okM_mL hμ i)) (by omega) (by show _ + 7 + 20 ≤ _; omega) rfl dX7_init_104 (fun hμ2 => ?_)
    refine k_aast B kd_22 (by show 22 < (zL 22 83 w i).2.1 + 1 + 1 + 1 + 1; rw [n1]; omega) (by decide) ⟨by omega, by omega⟩ hk.1 (by show 83 + 4 * i < (zL 22 83 w i).2.1 + 1 + 1 + 1 + 1; rw [n1]; omega) dX7_init_107 ?_
    refine r_inc1 dX7_init_108 rfl ?_
    refine r_goto 86 dX7_init_111 rfl ?_
    rw [Int.toNat_natCast]
    have h9 := ih (i + 1) (by omega)
    rw [show c + 4 * (i + 1) = c + 4 * i + 1 + 3 by omega, show s + 27 * (i + 1) = s + 27 * i + 7 + 20 by omega] at h9
    exact h9

set_option maxRecDepth 20000 in
theorem c_X7_init (l : Launch) (E : Gx) {w : Zs} {μ : Mem} (hz : w.2.1 = 1) (F : FRz w μ) (hμ : okM μ) : MC l yX7_init cX7_init 2 E 3 114 2405 (zz w 0 0) 0 μ (zz (z7 w) 114 2405) (m7 μ) := by
  refine m_startC [some (rv E 0), none] (by decide) rfl rfl rfl (fun x hxl hxc hxs B hr hnm hN hAO => ?_)
  subst hxl
  have hN0 : (xs x).heap.size + 0 = gZ E + w.2.1 := hN
  rw [hz] at hN0
  have hN : NZ x E w 0 := hN
  refine r_al0 dX7_init_0 ?_
  refine r_obj B lk_X7_1 oi_1 oi_2 rfl rfl dX7_init_1 ?_
  refine r_al0 dX7_init_4 ?_
  refine k_newC B hN F (t := 1) (show (w).2.1 = 1 from (by simp only [zP_n, zS_n, zC_n, zB_n, zG_n, zH_n, zR_n, zQ_n, zX_n, hz])) kd_1 nw_X7_7 (by rw [hxc]; exact Nat.le_of_ble_eq_true rfl) (by rw [hxs]; exact Nat.le_of_ble_eq_true rfl) dX7_init_5 ?_
  have F := F.P (n := 12)
  have hN : NZ x E (zP (w) 12) 1 := by show (xs x).heap.size + 1 = gZ E + (zP (w) 12).2.1; rw [show (zP (w) 12).2.1 = 2 from (by simp only [zP_n, zS_n, zC_n, zB_n, zG_n, zH_n, zR_n, zQ_n, zX_n, hz])]; omega
  refine r_dup rfl dX7_init_8 ?_
  refine k_cI B hAO hN cb_X5_init lk_X7_9 im_X5_init rfl rfl (c_X5_init (xl x) E (show (zP (w) 12).2.1 = 2 from (by simp only [zP_n, zS_n, zC_n, zB_n, zG_n, zH_n, zR_n, zQ_n, zX_n, hz])) F hμ) (by rw [hxc]; exact Nat.le_of_ble_eq_true rfl) (by rw [hxs]; exact Nat.le_of_ble_eq_true rfl) rfl dX7_init_9 (fun hμ => ?_)
  have F := F.R (show (zP (w) 12).2.1 = 2 from (by simp only [zP_n, zS_n, zC_n, zB_n, zG_n, zH_n, zR_n, zQ_n, zX_n, hz]))
  have hN : NZ x E (zR (zP (w) 12)) 21 := by show (xs x).heap.size + 21 = gZ E + (zR (zP (w) 12)).2.1; rw [show (zR (zP (w) 12)).2.1 = 22 from (by simp only [zP_n, zS_n, zC_n, zB_n, zG_n, zH_n, zR_n, zQ_n, zX_n, hz])]; omega
  refine k_putF B fg_X7_10 ff_7_0 fd_7_0 hnm kd_0 (by show 0 < (zR (zP (w) 12)).2.1; rw [show (zR (zP (w) 12)).2.1 = 22 from (by simp only [zP_n, zS_n, zC_n, zB_n, zG_n, zH_n, zR_n, zQ_n, zX_n, hz])]; omega) rfl rfl dX7_init_12 ?_
  have F := F.S (k := 0) (j := 0) (t := 1) (by show 0 < (zR (zP (w) 12)).2.1; rw [show (zR (zP (w) 12)).2.1 = 22 from (by simp only [zP_n, zS_n, zC_n, zB_n, zG_n, zH_n, zR_n, zQ_n, zX_n, hz])]; omega)
  have hN : NZ x E (zS (zR (zP (w) 12)) 0 0 1) 21 := by show (xs x).heap.size + 21 = gZ E + (zS (zR (zP (w) 12)) 0 0 1).2.1; rw [show (zS (zR (zP (w) 12)) 0 0 1).2.1 = 22 from (by simp only [zP_n, zS_n, zC_n, zB_n, zG_n, zH_n, zR_n, zQ_n, zX_n, hz])]; omega
  refine r_al0 dX7_init_15 ?_
  refine r_bipush dX7_init_16 (by decide) ?_
  refine k_newR (n := 8) B hAO hN F (t := 22) (show (zS (zR (zP (w) 12)) 0 0 1).2.1 = 22 from (by simp only [zP_n, zS_n, zC_n, zB_n, zG_n, zH_n, zR_n, zQ_n, zX_n, hz])) kd_22 (Nat.le_of_ble_eq_true rfl) cl_X7_16 (by rw [hxc]; exact Nat.le_of_ble_eq_true rfl) (by rw [hxs]; exact Nat.le_of_ble_eq_true rfl) dX7_init_18 ?_
  have F := F.P (n := 8)
  have hN : NZ x E (zP (zS (zR (zP (w) 12)) 0 0 1) 8) 22 := by show (xs x).heap.size + 22 = gZ E + (zP (zS (zR (zP (w) 12)) 0 0 1) 8).2.1; rw [show (zP (zS (zR (zP (w) 12)) 0 0 1) 8).2.1 = 23 from (by simp only [zP_n, zS_n, zC_n, zB_n, zG_n, zH_n, zR_n, zQ_n, zX_n, hz])]; omega
  refine k_putF B fg_X7_18 ff_7_1 fd_7_1 hnm kd_0 (by show 0 < (zP (zS (zR (zP (w) 12)) 0 0 1) 8).2.1; rw [show (zP (zS (zR (zP (w) 12)) 0 0 1) 8).2.1 = 23 from (by simp only [zP_n, zS_n, zC_n, zB_n, zG_n, zH_n, zR_n, zQ_n, zX_n, hz])]; omega) rfl rfl dX7_init_21 ?_
  have F := F.S (k := 0) (j := 1) (t := 22) (by show 0 < (zP (zS (zR (zP (w) 12)) 0 0 1) 8).2.1; rw [show (zP (zS (zR (zP (w) 12)) 0 0 1) 8).2.1 = 23 from (by simp only [zP_n, zS_n, zC_n, zB_n, zG_n, zH_n, zR_n, zQ_n, zX_n, hz])]; omega)
  have hN : NZ x E (zS (zP (zS (zR (zP (w) 12)) 0 0 1) 8) 0 1 22) 22 := by show (xs x).heap.size + 22 = gZ E + (zS (zP (zS (zR (zP (w) 12)) 0 0 1) 8) 0 1 22).2.1; rw [show (zS (zP (zS (zR (zP (w) 12)) 0 0 1) 8) 0 1 22).2.1 = 23 from (by simp only [zP_n, zS_n, zC_n, zB_n, zG_n, zH_n, zR_n, zQ_n, zX_n, hz])]; omega
  refine r_al0 dX7_init_24 ?_
  refine k_newC B hN F (t := 23) (show (zS (zP (zS (zR (zP (w) 12)) 0 0 1) 8) 0 1 22).2.1 = 23 from (by simp only [zP_n, zS_n, zC_n, zB_n, zG_n, zH_n, zR_n, zQ_n, zX_n, hz])) kd_23 nw_X7_16 (by rw [hxc]; exact Nat.le_of_ble_eq_true rfl) (by rw [hxs]; exact Nat.le_of_ble_eq_true rfl) dX7_init_25 ?_
  have F := F.P (n := 7)
  have hN : NZ x E (zP (zS (zP (zS (zR (zP (w) 12)) 0 0 1) 8) 0 1 22) 7) 23 := by show (xs x).heap.size + 23 = gZ E + (zP (zS (zP (zS (zR (zP (w) 12)) 0 0 1) 8) 0 1 22) 7).2.1; rw [show (zP (zS (zP (zS (zR (zP (w) 12)) 0 0 1) 8) 0 1 22) 7).2.1 = 24 from (by simp only [zP_n, zS_n, zC_n, zB_n, zG_n, zH_n, zR_n, zQ_n, zX_n, hz])]; omega
  refine r_dup rfl dX7_init_28 ?_
  refine k_cIN B hAO hN cb_X1_init lk_X7_22 im_X1_init rfl rfl (c_X1_init (xl x) E isC_fresh (show (zP (zS (zP (zS (zR (zP (w) 12)) 0 0 1) 8) 0 1 22) 7).2.1 = 24 from (by simp only [zP_n, zS_n, zC_n, zB_n, zG_n, zH_n, zR_n, zQ_n, zX_n, hz])) F hμ) (by rw [hxc]; exact Nat.le_of_ble_eq_true rfl) (by rw [hxs]; exact Nat.le_of_ble_eq_true rfl) rfl dX7_init_29 (fun hμ => ?_)
  have F := F.C (k := 23) (show (zP (zS (zP (zS (zR (zP (w) 12)) 0 0 1) 8) 0 1 22) 7).2.1 = 24 from (by simp only [zP_n, zS_n, zC_n, zB_n, zG_n, zH_n, zR_n, zQ_n, zX_n, hz]))
  have hN : NZ x E (zC (zP (zS (zP (zS (zR (zP (w) 12)) 0 0 1) 8) 0 1 22) 7) 23) 26 := by show (xs x).heap.size + 26 = gZ E + (zC (zP (zS (zP (zS (zR (zP (w) 12)) 0 0 1) 8) 0 1 22) 7) 23).2.1; rw [show (zC (zP (zS (zP (zS (zR (zP (w) 12)) 0 0 1) 8) 0 1 22) 7) 23).2.1 = 27 from (by simp only [zP_n, zS_n, zC_n, zB_n, zG_n, zH_n, zR_n, zQ_n, zX_n, hz])]; omega
  refine k_putF B fg_X7_23 ff_7_2 fd_7_2 hnm kd_0 (by show 0 < (zC (zP (zS (zP (zS (zR (zP (w) 12)) 0 0 1) 8) 0 1 22) 7) 23).2.1; rw [show (zC (zP (zS (zP (zS (zR (zP (w) 12)) 0 0 1) 8) 0 1 22) 7) 23).2.1 = 27 from (by simp only [zP_n, zS_n, zC_n, zB_n, zG_n, zH_n, zR_n, zQ_n, zX_n, hz])]; omega) rfl rfl dX7_init_32 ?_
  have F := F.S (k := 0) (j := 2) (t := 23) (by show 0 < (zC (zP (zS (zP (zS (zR (zP (w) 12)) 0 0 1) 8) 0 1 22) 7) 23).2.1; rw [show (zC (zP (zS (zP (zS (zR (zP (w) 12)) 0 0 1) 8) 0 1 22) 7) 23).2.1 = 27 from (by simp only [zP_n, zS_n, zC_n, zB_n, zG_n, zH_n, zR_n, zQ_n, zX_n, hz])]; omega)
  have hN : NZ x E (zS (zC (zP (zS (zP (zS (zR (zP (w) 12)) 0 0 1) 8) 0 1 22) 7) 23) 0 2 23) 26 := by show (xs x).heap.size + 26 = gZ E + (zS (zC (zP (zS (zP (zS (zR (zP (w) 12)) 0 0 1) 8) 0 1 22) 7) 23) 0 2 23).2.1; rw [show (zS (zC (zP (zS (zP (zS (zR (zP (w) 12)) 0 0 1) 8) 0 1 22) 7) 23) 0 2 23).2.1 = 27 from (by simp only [zP_n, zS_n, zC_n, zB_n, zG_n, zH_n, zR_n, zQ_n, zX_n, hz])]; omega
  refine r_al0 dX7_init_35 ?_
  refine k_newC B hN F (t := 27) (show (zS (zC (zP (zS (zP (zS (zR (zP (w) 12)) 0 0 1) 8) 0 1 22) 7) 23) 0 2 23).2.1 = 27 from (by simp only [zP_n, zS_n, zC_n, zB_n, zG_n, zH_n, zR_n, zQ_n, zX_n, hz])) kd_27 nw_X7_27 (by rw [hxc]; exact Nat.le_of_ble_eq_true rfl) (by rw [hxs]; exact Nat.le_of_ble_eq_true rfl) dX7_init_36 ?_
  have F := F.P (n := 4)
  have hN : NZ x E (zP (zS (zC (zP (zS (zP (zS (zR (zP (w) 12)) 0 0 1) 8) 0 1 22) 7) 23) 0 2 23) 4) 27 := by show (xs x).heap.size + 27 = gZ E + (zP (zS (zC (zP (zS (zP (zS (zR (zP (w) 12)) 0 0 1) 8) 0 1 22) 7) 23) 0 2 23) 4).2.1; rw [show (zP (zS (zC (zP (zS (zP (zS (zR (zP (w) 12)) 0 0 1) 8) 0 1 22) 7) 23) 0 2 23) 4).2.1 = 28 from (by simp only [zP_n, zS_n, zC_n, zB_n, zG_n, zH_n, zR_n, zQ_n, zX_n, hz])]; omega
  refine r_dup rfl dX7_init_39 ?_
  refine k_cI B hAO hN cb_X4_init lk_X7_29 im_X4_init rfl rfl (c_X4_init (xl x) E (show (zP (zS (zC (zP (zS (zP (zS (zR (zP (w) 12)) 0 0 1) 8) 0 1 22) 7) 23) 0 2 23) 4).2.1 = 28 from (by simp only [zP_n, zS_n, zC_n, zB_n, zG_n, zH_n, zR_n, zQ_n, zX_n, hz])) F hμ) (by rw [hxc]; exact Nat.le_of_ble_eq_true rfl) (by rw [hxs]; exact Nat.le_of_ble_eq_true rfl) rfl dX7_init_40 (fun hμ => ?_)
  have F := F.H (show (zP (zS (zC (zP (zS (zP (zS (zR (zP (w) 12)) 0 0 1) 8) 0 1 22) 7) 23) 0 2 23) 4).2.1 = 28 from (by simp only [zP_n, zS_n, zC_n, zB_n, zG_n, zH_n, zR_n, zQ_n, zX_n, hz]))
  have hN : NZ x E (zH (zP (zS (zC (zP (zS (zP (zS (zR (zP (w) 12)) 0 0 1) 8) 0 1 22) 7) 23) 0 2 23) 4)) 69 := by show (xs x).heap.size + 69 = gZ E + (zH (zP (zS (zC (zP (zS (zP (zS (zR (zP (w) 12)) 0 0 1) 8) 0 1 22) 7) 23) 0 2 23) 4)).2.1; rw [show (zH (zP (zS (zC (zP (zS (zP (zS (zR (zP (w) 12)) 0 0 1) 8) 0 1 22) 7) 23) 0 2 23) 4)).2.1 = 70 from (by simp only [zP_n, zS_n, zC_n, zB_n, zG_n, zH_n, zR_n, zQ_n, zX_n, hz])]; omega
  refine k_putF B fg_X7_30 ff_7_3 fd_7_3 hnm kd_0 (by show 0 < (zH (zP (zS (zC (zP (zS (zP (zS (zR (zP (w) 12)) 0 0 1) 8) 0 1 22) 7) 23) 0 2 23) 4)).2.1; rw [show (zH (zP (zS (zC (zP (zS (zP (zS (zR (zP (w) 12)) 0 0 1) 8) 0 1 22) 7) 23) 0 2 23) 4)).2.1 = 70 from (by simp only [zP_n, zS_n, zC_n, zB_n, zG_n, zH_n, zR_n, zQ_n, zX_n, hz])]; omega) rfl rfl dX7_init_43 ?_
  have F := F.S (k := 0) (j := 3) (t := 27) (by show 0 < (zH (zP (zS (zC (zP (zS (zP (zS (zR (zP (w) 12)) 0 0 1) 8) 0 1 22) 7) 23) 0 2 23) 4)).2.1; rw [show (zH (zP (zS (zC (zP (zS (zP (zS (zR (zP (w) 12)) 0 0 1) 8) 0 1 22) 7) 23) 0 2 23) 4)).2.1 = 70 from (by simp only [zP_n, zS_n, zC_n, zB_n, zG_n, zH_n, zR_n, zQ_n, zX_n, hz])]; omega)
  have hN : NZ x E (zS (zH (zP (zS (zC (zP (zS (zP (zS (zR (zP (w) 12)) 0 0 1) 8) 0 1 22) 7) 23) 0 2 23) 4)) 0 3 27) 69 := by show (xs x).heap.size + 69 = gZ E + (zS (zH (zP (zS (zC (zP (zS (zP (zS (zR (zP (w) 12)) 0 0 1) 8) 0 1 22) 7) 23) 0 2 23) 4)) 0 3 27).2.1; rw [show (zS (zH (zP (zS (zC (zP (zS (zP (zS (zR (zP (w) 12)) 0 0 1) 8) 0 1 22) 7) 23) 0 2 23) 4)) 0 3 27).2.1 = 70 from (by simp only [zP_n, zS_n, zC_n, zB_n, zG_n, zH_n, zR_n, zQ_n, zX_n, hz])]; omega
  refine r_al0 dX7_init_46 ?_
  refine k_newC B hN F (t := 70) (show (zS (zH (zP (zS (zC (zP (zS (zP (zS (zR (zP (w) 12)) 0 0 1) 8) 0 1 22) 7) 23) 0 2 23) 4)) 0 3 27).2.1 = 70 from (by simp only [zP_n, zS_n, zC_n, zB_n, zG_n, zH_n, zR_n, zQ_n, zX_n, hz])) kd_70 nw_X7_34 (by rw [hxc]; exact Nat.le_of_ble_eq_true rfl) (by rw [hxs]; exact Nat.le_of_ble_eq_true rfl) dX7_init_47 ?_
  have F := F.P (n := 6)
  have hN : NZ x E (zP (zS (zH (zP (zS (zC (zP (zS (zP (zS (zR (zP (w) 12)) 0 0 1) 8) 0 1 22) 7) 23) 0 2 23) 4)) 0 3 27) 6) 70 := by show (xs x).heap.size + 70 = gZ E + (zP (zS (zH (zP (zS (zC (zP (zS (zP (zS (zR (zP (w) 12)) 0 0 1) 8) 0 1 22) 7) 23) 0 2 23) 4)) 0 3 27) 6).2.1; rw [show (zP (zS (zH (zP (zS (zC (zP (zS (zP (zS (zR (zP (w) 12)) 0 0 1) 8) 0 1 22) 7) 23) 0 2 23) 4)) 0 3 27) 6).2.1 = 71 from (by simp only [zP_n, zS_n, zC_n, zB_n, zG_n, zH_n, zR_n, zQ_n, zX_n, hz])]; omega
  refine r_dup rfl dX7_init_50 ?_
  refine k_cIN B hAO hN cb_X3_init lk_X7_36 im_X3_init rfl rfl (c_X3_init (xl x) E (show (zP (zS (zH (zP (zS (zC (zP (zS (zP (zS (zR (zP (w) 12)) 0 0 1) 8) 0 1 22) 7) 23) 0 2 23) 4)) 0 3 27) 6).2.1 = 71 from (by simp only [zP_n, zS_n, zC_n, zB_n, zG_n, zH_n, zR_n, zQ_n, zX_n, hz])) F hμ) (by rw [hxc]; exact Nat.le_of_ble_eq_true rfl) (by rw [hxs]; exact Nat.le_of_ble_eq_true rfl) rfl dX7_init_51 (fun hμ => ?_)
  have F := F.G (show (zP (zS (zH (zP (zS (zC (zP (zS (zP (zS (zR (zP (w) 12)) 0 0 1) 8) 0 1 22) 7) 23) 0 2 23) 4)) 0 3 27) 6).2.1 = 71 from (by simp only [zP_n, zS_n, zC_n, zB_n, zG_n, zH_n, zR_n, zQ_n, zX_n, hz]))
  have hN : NZ x E (zG (zP (zS (zH (zP (zS (zC (zP (zS (zP (zS (zR (zP (w) 12)) 0 0 1) 8) 0 1 22) 7) 23) 0 2 23) 4)) 0 3 27) 6)) 73 := by show (xs x).heap.size + 73 = gZ E + (zG (zP (zS (zH (zP (zS (zC (zP (zS (zP (zS (zR (zP (w) 12)) 0 0 1) 8) 0 1 22) 7) 23) 0 2 23) 4)) 0 3 27) 6)).2.1; rw [show (zG (zP (zS (zH (zP (zS (zC (zP (zS (zP (zS (zR (zP (w) 12)) 0 0 1) 8) 0 1 22) 7) 23) 0 2 23) 4)) 0 3 27) 6)).2.1 = 74 from (by simp only [zP_n, zS_n, zC_n, zB_n, zG_n, zH_n, zR_n, zQ_n, zX_n, hz])]; omega
  refine k_putF B fg_X7_37 ff_7_4 fd_7_4 hnm kd_0 (by show 0 < (zG (zP (zS (zH (zP (zS (zC (zP (zS (zP (zS (zR (zP (w) 12)) 0 0 1) 8) 0 1 22) 7) 23) 0 2 23) 4)) 0 3 27) 6)).2.1; rw [show (zG (zP (zS (zH (zP (zS (zC (zP (zS (zP (zS (zR (zP (w) 12)) 0 0 1) 8) 0 1 22) 7) 23) 0 2 23) 4)) 0 3 27) 6)).2.1 = 74 from (by simp only [zP_n, zS_n, zC_n, zB_n, zG_n, zH_n, zR_n, zQ_n, zX_n, hz])]; omega) rfl rfl dX7_init_54 ?_
  have F := F.S (k := 0) (j := 4) (t := 70) (by show 0 < (zG (zP (zS (zH (zP (zS (zC (zP (zS (zP (zS (zR (zP (w) 12)) 0 0 1) 8) 0 1 22) 7) 23) 0 2 23) 4)) 0 3 27) 6)).2.1; rw [show (zG (zP (zS (zH (zP (zS (zC (zP (zS (zP (zS (zR (zP (w) 12)) 0 0 1) 8) 0 1 22) 7) 23) 0 2 23) 4)) 0 3 27) 6)).2.1 = 74 from (by simp only [zP_n, zS_n, zC_n, zB_n, zG_n, zH_n, zR_n, zQ_n, zX_n, hz])]; omega)
  have hN : NZ x E (zS (zG (zP (zS (zH (zP (zS (zC (zP (zS (zP (zS (zR (zP (w) 12)) 0 0 1) 8) 0 1 22) 7) 23) 0 2 23) 4)) 0 3 27) 6)) 0 4 70) 73 := by show (xs x).heap.size + 73 = gZ E + (zS (zG (zP (zS (zH (zP (zS (zC (zP (zS (zP (zS (zR (zP (w) 12)) 0 0 1) 8) 0 1 22) 7) 23) 0 2 23) 4)) 0 3 27) 6)) 0 4 70).2.1; rw [show (zS (zG (zP (zS (zH (zP (zS (zC (zP (zS (zP (zS (zR (zP (w) 12)) 0 0 1) 8) 0 1 22) 7) 23) 0 2 23) 4)) 0 3 27) 6)) 0 4 70).2.1 = 74 from (by simp only [zP_n, zS_n, zC_n, zB_n, zG_n, zH_n, zR_n, zQ_n, zX_n, hz])]; omega
  refine r_al0 dX7_init_57 ?_
  refine k_newC B hN F (t := 74) (show (zS (zG (zP (zS (zH (zP (zS (zC (zP (zS (zP (zS (zR (zP (w) 12)) 0 0 1) 8) 0 1 22) 7) 23) 0 2 23) 4)) 0 3 27) 6)) 0 4 70).2.1 = 74 from (by simp only [zP_n, zS_n, zC_n, zB_n, zG_n, zH_n, zR_n, zQ_n, zX_n, hz])) kd_74 nw_X7_41 (by rw [hxc]; exact Nat.le_of_ble_eq_true rfl) (by rw [hxs]; exact Nat.le_of_ble_eq_true rfl) dX7_init_58 ?_
  have F := F.P (n := 6)
  have hN : NZ x E (zP (zS (zG (zP (zS (zH (zP (zS (zC (zP (zS (zP (zS (zR (zP (w) 12)) 0 0 1) 8) 0 1 22) 7) 23) 0 2 23) 4)) 0 3 27) 6)) 0 4 70) 6) 74 := by show (xs x).heap.size + 74 = gZ E + (zP (zS (zG (zP (zS (zH (zP (zS (zC (zP (zS (zP (zS (zR (zP (w) 12)) 0 0 1) 8) 0 1 22) 7) 23) 0 2 23) 4)) 0 3 27) 6)) 0 4 70) 6).2.1; rw [show (zP (zS (zG (zP (zS (zH (zP (zS (zC (zP (zS (zP (zS (zR (zP (w) 12)) 0 0 1) 8) 0 1 22) 7) 23) 0 2 23) 4)) 0 3 27) 6)) 0 4 70) 6).2.1 = 75 from (by simp only [zP_n, zS_n, zC_n, zB_n, zG_n, zH_n, zR_n, zQ_n, zX_n, hz])]; omega
  refine r_dup rfl dX7_init_61 ?_
  refine k_cIN B hAO hN cb_X6_init lk_X7_43 im_X6_init rfl rfl (c_X6_init (xl x) E (show (zP (zS (zG (zP (zS (zH (zP (zS (zC (zP (zS (zP (zS (zR (zP (w) 12)) 0 0 1) 8) 0 1 22) 7) 23) 0 2 23) 4)) 0 3 27) 6)) 0 4 70) 6).2.1 = 75 from (by simp only [zP_n, zS_n, zC_n, zB_n, zG_n, zH_n, zR_n, zQ_n, zX_n, hz])) F hμ) (by rw [hxc]; exact Nat.le_of_ble_eq_true rfl) (by rw [hxs]; exact Nat.le_of_ble_eq_true rfl) rfl dX7_init_62 (fun hμ => ?_)
  have F := F.Q (show (zP (zS (zG (zP (zS (zH (zP (zS (zC (zP (zS (zP (zS (zR (zP (w) 12)) 0 0 1) 8) 0 1 22) 7) 23) 0 2 23) 4)) 0 3 27) 6)) 0 4 70) 6).2.1 = 75 from (by simp only [zP_n, zS_n, zC_n, zB_n, zG_n, zH_n, zR_n, zQ_n, zX_n, hz]))
  have hN : NZ x E (zQ (zP (zS (zG (zP (zS (zH (zP (zS (zC (zP (zS (zP (zS (zR (zP (w) 12)) 0 0 1) 8) 0 1 22) 7) 23) 0 2 23) 4)) 0 3 27) 6)) 0 4 70) 6)) 78 := by show (xs x).heap.size + 78 = gZ E + (zQ (zP (zS (zG (zP (zS (zH (zP (zS (zC (zP (zS (zP (zS (zR (zP (w) 12)) 0 0 1) 8) 0 1 22) 7) 23) 0 2 23) 4)) 0 3 27) 6)) 0 4 70) 6)).2.1; rw [show (zQ (zP (zS (zG (zP (zS (zH (zP (zS (zC (zP (zS (zP (zS (zR (zP (w) 12)) 0 0 1) 8) 0 1 22) 7) 23) 0 2 23) 4)) 0 3 27) 6)) 0 4 70) 6)).2.1 = 79 from (by simp only [zP_n, zS_n, zC_n, zB_n, zG_n, zH_n, zR_n, zQ_n, zX_n, hz])]; omega
  refine k_putF B fg_X7_44 ff_7_5 fd_7_5 hnm kd_0 (by show 0 < (zQ (zP (zS (zG (zP (zS (zH (zP (zS (zC (zP (zS (zP (zS (zR (zP (w) 12)) 0 0 1) 8) 0 1 22) 7) 23) 0 2 23) 4)) 0 3 27) 6)) 0 4 70) 6)).2.1; rw [show (zQ (zP (zS (zG (zP (zS (zH (zP (zS (zC (zP (zS (zP (zS (zR (zP (w) 12)) 0 0 1) 8) 0 1 22) 7) 23) 0 2 23) 4)) 0 3 27) 6)) 0 4 70) 6)).2.1 = 79 from (by simp only [zP_n, zS_n, zC_n, zB_n, zG_n, zH_n, zR_n, zQ_n, zX_n, hz])]; omega) rfl rfl dX7_init_65 ?_
  have F := F.S (k := 0) (j := 5) (t := 74) (by show 0 < (zQ (zP (zS (zG (zP (zS (zH (zP (zS (zC (zP (zS (zP (zS (zR (zP (w) 12)) 0 0 1) 8) 0 1 22) 7) 23) 0 2 23) 4)) 0 3 27) 6)) 0 4 70) 6)).2.1; rw [show (zQ (zP (zS (zG (zP (zS (zH (zP (zS (zC (zP (zS (zP (zS (zR (zP (w) 12)) 0 0 1) 8) 0 1 22) 7) 23) 0 2 23) 4)) 0 3 27) 6)) 0 4 70) 6)).2.1 = 79 from (by simp only [zP_n, zS_n, zC_n, zB_n, zG_n, zH_n, zR_n, zQ_n, zX_n, hz])]; omega)
  have hN : NZ x E (zS (zQ (zP (zS (zG (zP (zS (zH (zP (zS (zC (zP (zS (zP (zS (zR (zP (w) 12)) 0 0 1) 8) 0 1 22) 7) 23) 0 2 23) 4)) 0 3 27) 6)) 0 4 70) 6)) 0 5 74) 78 := by show (xs x).heap.size + 78 = gZ E + (zS (zQ (zP (zS (zG (zP (zS (zH (zP (zS (zC (zP (zS (zP (zS (zR (zP (w) 12)) 0 0 1) 8) 0 1 22) 7) 23) 0 2 23) 4)) 0 3 27) 6)) 0 4 70) 6)) 0 5 74).2.1; rw [show (zS (zQ (zP (zS (zG (zP (zS (zH (zP (zS (zC (zP (zS (zP (zS (zR (zP (w) 12)) 0 0 1) 8) 0 1 22) 7) 23) 0 2 23) 4)) 0 3 27) 6)) 0 4 70) 6)) 0 5 74).2.1 = 79 from (by simp only [zP_n, zS_n, zC_n, zB_n, zG_n, zH_n, zR_n, zQ_n, zX_n, hz])]; omega
  refine r_al0 dX7_init_68 ?_
  refine k_newC B hN F (t := 79) (show (zS (zQ (zP (zS (zG (zP (zS (zH (zP (zS (zC (zP (zS (zP (zS (zR (zP (w) 12)) 0 0 1) 8) 0 1 22) 7) 23) 0 2 23) 4)) 0 3 27) 6)) 0 4 70) 6)) 0 5 74).2.1 = 79 from (by simp only [zP_n, zS_n, zC_n, zB_n, zG_n, zH_n, zR_n, zQ_n, zX_n, hz])) kd_79 nw_X7_48 (by rw [hxc]; exact Nat.le_of_ble_eq_true rfl) (by rw [hxs]; exact Nat.le_of_ble_eq_true rfl) dX7_init_69 ?_
  have F := F.P (n := 8)
  have hN : NZ x E (zP (zS (zQ (zP (zS (zG (zP (zS (zH (zP (zS (zC (zP (zS (zP (zS (zR (zP (w) 12)) 0 0 1) 8) 0 1 22) 7) 23) 0 2 23) 4)) 0 3 27) 6)) 0 4 70) 6)) 0 5 74) 8) 79 := by show (xs x).heap.size + 79 = gZ E + (zP (zS (zQ (zP (zS (zG (zP (zS (zH (zP (zS (zC (zP (zS (zP (zS (zR (zP (w) 12)) 0 0 1) 8) 0 1 22) 7) 23) 0 2 23) 4)) 0 3 27) 6)) 0 4 70) 6)) 0 5 74) 8).2.1; rw [show (zP (zS (zQ (zP (zS (zG (zP (zS (zH (zP (zS (zC (zP (zS (zP (zS (zR (zP (w) 12)) 0 0 1) 8) 0 1 22) 7) 23) 0 2 23) 4)) 0 3 27) 6)) 0 4 70) 6)) 0 5 74) 8).2.1 = 80 from (by simp only [zP_n, zS_n, zC_n, zB_n, zG_n, zH_n, zR_n, zQ_n, zX_n, hz])]; omega
  refine r_dup rfl dX7_init_72 ?_
  refine k_cIN B hAO hN cb_X2_init lk_X7_50 im_X2_init rfl rfl (c_X2_init (xl x) E (show (zP (zS (zQ (zP (zS (zG (zP (zS (zH (zP (zS (zC (zP (zS (zP (zS (zR (zP (w) 12)) 0 0 1) 8) 0 1 22) 7) 23) 0 2 23) 4)) 0 3 27) 6)) 0 4 70) 6)) 0 5 74) 8).2.1 = 80 from (by simp only [zP_n, zS_n, zC_n, zB_n, zG_n, zH_n, zR_n, zQ_n, zX_n, hz])) F hμ) (by rw [hxc]; exact Nat.le_of_ble_eq_true rfl) (by rw [hxs]; exact Nat.le_of_ble_eq_true rfl) rfl dX7_init_73 (fun hμ => ?_)
  have F := F.X (show (zP (zS (zQ (zP (zS (zG (zP (zS (zH (zP (zS (zC (zP (zS (zP (zS (zR (zP (w) 12)) 0 0 1) 8) 0 1 22) 7) 23) 0 2 23) 4)) 0 3 27) 6)) 0 4 70) 6)) 0 5 74) 8).2.1 = 80 from (by simp only [zP_n, zS_n, zC_n, zB_n, zG_n, zH_n, zR_n, zQ_n, zX_n, hz]))
  have hN : NZ x E (zX (zP (zS (zQ (zP (zS (zG (zP (zS (zH (zP (zS (zC (zP (zS (zP (zS (zR (zP (w) 12)) 0 0 1) 8) 0 1 22) 7) 23) 0 2 23) 4)) 0 3 27) 6)) 0 4 70) 6)) 0 5 74) 8)) 82 := by show (xs x).heap.size + 82 = gZ E + (zX (zP (zS (zQ (zP (zS (zG (zP (zS (zH (zP (zS (zC (zP (zS (zP (zS (zR (zP (w) 12)) 0 0 1) 8) 0 1 22) 7) 23) 0 2 23) 4)) 0 3 27) 6)) 0 4 70) 6)) 0 5 74) 8)).2.1; rw [show (zX (zP (zS (zQ (zP (zS (zG (zP (zS (zH (zP (zS (zC (zP (zS (zP (zS (zR (zP (w) 12)) 0 0 1) 8) 0 1 22) 7) 23) 0 2 23) 4)) 0 3 27) 6)) 0 4 70) 6)) 0 5 74) 8)).2.1 = 83 from (by simp only [zP_n, zS_n, zC_n, zB_n, zG_n, zH_n, zR_n, zQ_n, zX_n, hz])]; omega
  refine k_putF B fg_X7_51 ff_7_6 fd_7_6 hnm kd_0 (by show 0 < (zX (zP (zS (zQ (zP (zS (zG (zP (zS (zH (zP (zS (zC (zP (zS (zP (zS (zR (zP (w) 12)) 0 0 1) 8) 0 1 22) 7) 23) 0 2 23) 4)) 0 3 27) 6)) 0 4 70) 6)) 0 5 74) 8)).2.1; rw [show (zX (zP (zS (zQ (zP (zS (zG (zP (zS (zH (zP (zS (zC (zP (zS (zP (zS (zR (zP (w) 12)) 0 0 1) 8) 0 1 22) 7) 23) 0 2 23) 4)) 0 3 27) 6)) 0 4 70) 6)) 0 5 74) 8)).2.1 = 83 from (by simp only [zP_n, zS_n, zC_n, zB_n, zG_n, zH_n, zR_n, zQ_n, zX_n, hz])]; omega) rfl rfl dX7_init_76 ?_
  have F := F.S (k := 0) (j := 6) (t := 79) (by show 0 < (zX (zP (zS (zQ (zP (zS (zG (zP (zS (zH (zP (zS (zC (zP (zS (zP (zS (zR (zP (w) 12)) 0 0 1) 8) 0 1 22) 7) 23) 0 2 23) 4)) 0 3 27) 6)) 0 4 70) 6)) 0 5 74) 8)).2.1; rw [show (zX (zP (zS (zQ (zP (zS (zG (zP (zS (zH (zP (zS (zC (zP (zS (zP (zS (zR (zP (w) 12)) 0 0 1) 8) 0 1 22) 7) 23) 0 2 23) 4)) 0 3 27) 6)) 0 4 70) 6)) 0 5 74) 8)).2.1 = 83 from (by simp only [zP_n, zS_n, zC_n, zB_n, zG_n, zH_n, zR_n, zQ_n, zX_n, hz])]; omega)
  have hN : NZ x E (zS (zX (zP (zS (zQ (zP (zS (zG (zP (zS (zH (zP (zS (zC (zP (zS (zP (zS (zR (zP (w) 12)) 0 0 1) 8) 0 1 22) 7) 23) 0 2 23) 4)) 0 3 27) 6)) 0 4 70) 6)) 0 5 74) 8)) 0 6 79) 82 := by show (xs x).heap.size + 82 = gZ E + (zS (zX (zP (zS (zQ (zP (zS (zG (zP (zS (zH (zP (zS (zC (zP (zS (zP (zS (zR (zP (w) 12)) 0 0 1) 8) 0 1 22) 7) 23) 0 2 23) 4)) 0 3 27) 6)) 0 4 70) 6)) 0 5 74) 8)) 0 6 79).2.1; rw [show (zS (zX (zP (zS (zQ (zP (zS (zG (zP (zS (zH (zP (zS (zC (zP (zS (zP (zS (zR (zP (w) 12)) 0 0 1) 8) 0 1 22) 7) 23) 0 2 23) 4)) 0 3 27) 6)) 0 4 70) 6)) 0 5 74) 8)) 0 6 79).2.1 = 83 from (by simp only [zP_n, zS_n, zC_n, zB_n, zG_n, zH_n, zR_n, zQ_n, zX_n, hz])]; omega
  refine r_al0 dX7_init_79 ?_
  refine r_iconst dX7_init_80 ?_
  refine r_putI B fg_X7_55 fp_7_9 kd_0 (by show 0 < (zS (zX (zP (zS (zQ (zP (zS (zG (zP (zS (zH (zP (zS (zC (zP (zS (zP (zS (zR (zP (w) 12)) 0 0 1) 8) 0 1 22) 7) 23) 0 2 23) 4)) 0 3 27) 6)) 0 4 70) 6)) 0 5 74) 8)) 0 6 79).2.1; rw [show (zS (zX (zP (zS (zQ (zP (zS (zG (zP (zS (zH (zP (zS (zC (zP (zS (zP (zS (zR (zP (w) 12)) 0 0 1) 8) 0 1 22) 7) 23) 0 2 23) 4)) 0 3 27) 6)) 0 4 70) 6)) 0 5 74) 8)) 0 6 79).2.1 = 83 from (by simp only [zP_n, zS_n, zC_n, zB_n, zG_n, zH_n, zR_n, zQ_n, zX_n, hz])]; omega) dX7_init_81 ?_
  have F := F.I (k := 0) (j := 9) (v := -1) (by show 0 < (zS (zX (zP (zS (zQ (zP (zS (zG (zP (zS (zH (zP (zS (zC (zP (zS (zP (zS (zR (zP (w) 12)) 0 0 1) 8) 0 1 22) 7) 23) 0 2 23) 4)) 0 3 27) 6)) 0 4 70) 6)) 0 5 74) 8)) 0 6 79).2.1; rw [show (zS (zX (zP (zS (zQ (zP (zS (zG (zP (zS (zH (zP (zS (zC (zP (zS (zP (zS (zR (zP (w) 12)) 0 0 1) 8) 0 1 22) 7) 23) 0 2 23) 4)) 0 3 27) 6)) 0 4 70) 6)) 0 5 74) 8)) 0 6 79).2.1 = 83 from (by simp only [zP_n, zS_n, zC_n, zB_n, zG_n, zH_n, zR_n, zQ_n, zX_n, hz])]; omega)
  have hμ := okM_sI (k := 0) (j := 9) (v := -1) hμ (inR_k rfl)
  refine r_iconst dX7_init_84 ?_
  refine r_is1 dX7_init_85 rfl ?_
  exact lp_X7 (c := 82) (s := 2189) B hr hAO (show (zS (zX (zP (zS (zQ (zP (zS (zG (zP (zS (zH (zP (zS (zC (zP (zS (zP (zS (zR (zP (w) 12)) 0 0 1) 8) 0 1 22) 7) 23) 0 2 23) 4)) 0 3 27) 6)) 0 4 70) 6)) 0 5 74) 8)) 0 6 79).2.1 = 83 from (by simp only [zP_n, zS_n, zC_n, zB_n, zG_n, zH_n, zR_n, zQ_n, zX_n, hz])) rfl F hN hμ (by rw [hxc]; exact Nat.le_of_ble_eq_true rfl) (by rw [hxs]; exact Nat.le_of_ble_eq_true rfl) 8 0 rfl
set_option maxRecDepth 20000 in
theorem c_X8_init (l : Launch) (E : Gx) {w : Zs} {μ : Mem} (hz : w.2.1 = 116) (F : FRz w μ) (hμ : okM μ) : MC l yX8_init cX8_init 1 E 1 9 26696 (zz w 0 0) 115 μ (zz (z8 w) 9 26696) (sI μ 115 2 (-1)) := by
  refine m_startC [some (rv E 115)] (by decide) rfl rfl rfl (fun x hxl hxc hxs B hr hnm hN hAO => ?_)
  subst hxl
  have hN0 : (xs x).heap.size + 0 = gZ E + w.2.1 := hN
  rw [hz] at hN0
  have hN : NZ x E w 0 := hN
  refine r_al0 dX8_init_0 ?_
  refine r_obj B lk_X8_3 oi_1 oi_2 rfl rfl dX8_init_1 ?_
  refine r_al0 dX8_init_4 ?_
  refine r_iconst dX8_init_5 ?_
  refine r_putI B fg_X8_9 fp_8_2 kd_115 (by show 115 < (w).2.1; rw [show (w).2.1 = 116 from (by simp only [zP_n, zS_n, zC_n, zB_n, zG_n, zH_n, zR_n, zQ_n, zX_n, hz])]; omega) dX8_init_6 ?_
  have F := F.I (k := 115) (j := 2) (v := -1) (by show 115 < (w).2.1; rw [show (w).2.1 = 116 from (by simp only [zP_n, zS_n, zC_n, zB_n, zG_n, zH_n, zR_n, zQ_n, zX_n, hz])]; omega)
  have hμ := okM_sI (k := 115) (j := 2) (v := -1) hμ (inR_k rfl)
  refine r_al0 dX8_init_9 ?_
  refine r_sipush dX8_init_10 (by decide) ?_
  refine k_newI (n := 600) B hN F (t := 116) (show (w).2.1 = 116 from (by simp only [zP_n, zS_n, zC_n, zB_n, zG_n, zH_n, zR_n, zQ_n, zX_n, hz])) kd_116 (Nat.le_of_ble_eq_true rfl) aw_I (by rw [hxc]; exact Nat.le_of_ble_eq_true rfl) (by rw [hxs]; exact Nat.le_of_ble_eq_true rfl) dX8_init_13 ?_
  have F := F.P (n := 600)
  have hN : NZ x E (zP (w) 600) 1 := by show (xs x).heap.size + 1 = gZ E + (zP (w) 600).2.1; rw [show (zP (w) 600).2.1 = 117 from (by simp only [zP_n, zS_n, zC_n, zB_n, zG_n, zH_n, zR_n, zQ_n, zX_n, hz])]; omega
  refine k_putF B fg_X8_13 ff_8_3 fd_8_3 hnm kd_115 (by show 115 < (zP (w) 600).2.1; rw [show (zP (w) 600).2.1 = 117 from (by simp only [zP_n, zS_n, zC_n, zB_n, zG_n, zH_n, zR_n, zQ_n, zX_n, hz])]; omega) rfl rfl dX8_init_15 ?_
  have F := F.S (k := 115) (j := 3) (t := 116) (by show 115 < (zP (w) 600).2.1; rw [show (zP (w) 600).2.1 = 117 from (by simp only [zP_n, zS_n, zC_n, zB_n, zG_n, zH_n, zR_n, zQ_n, zX_n, hz])]; omega)
  have hN : NZ x E (zS (zP (w) 600) 115 3 116) 1 := by show (xs x).heap.size + 1 = gZ E + (zS (zP (w) 600) 115 3 116).2.1; rw [show (zS (zP (w) 600) 115 3 116).2.1 = 117 from (by simp only [zP_n, zS_n, zC_n, zB_n, zG_n, zH_n, zR_n, zQ_n, zX_n, hz])]; omega
  refine r_al0 dX8_init_18 ?_
  refine r_sipush dX8_init_19 (by decide) ?_
  refine k_newI (n := 3822) B hN F (t := 117) (show (zS (zP (w) 600) 115 3 116).2.1 = 117 from (by simp only [zP_n, zS_n, zC_n, zB_n, zG_n, zH_n, zR_n, zQ_n, zX_n, hz])) kd_117 (Nat.le_of_ble_eq_true rfl) aw_I (by rw [hxc]; exact Nat.le_of_ble_eq_true rfl) (by rw [hxs]; exact Nat.le_of_ble_eq_true rfl) dX8_init_22 ?_
  have F := F.P (n := 3822)
  have hN : NZ x E (zP (zS (zP (w) 600) 115 3 116) 3822) 2 := by show (xs x).heap.size + 2 = gZ E + (zP (zS (zP (w) 600) 115 3 116) 3822).2.1; rw [show (zP (zS (zP (w) 600) 115 3 116) 3822).2.1 = 118 from (by simp only [zP_n, zS_n, zC_n, zB_n, zG_n, zH_n, zR_n, zQ_n, zX_n, hz])]; omega
  refine k_putF B fg_X8_17 ff_8_13 fd_8_13 hnm kd_115 (by show 115 < (zP (zS (zP (w) 600) 115 3 116) 3822).2.1; rw [show (zP (zS (zP (w) 600) 115 3 116) 3822).2.1 = 118 from (by simp only [zP_n, zS_n, zC_n, zB_n, zG_n, zH_n, zR_n, zQ_n, zX_n, hz])]; omega) rfl rfl dX8_init_24 ?_
  have F := F.S (k := 115) (j := 13) (t := 117) (by show 115 < (zP (zS (zP (w) 600) 115 3 116) 3822).2.1; rw [show (zP (zS (zP (w) 600) 115 3 116) 3822).2.1 = 118 from (by simp only [zP_n, zS_n, zC_n, zB_n, zG_n, zH_n, zR_n, zQ_n, zX_n, hz])]; omega)
  have hN : NZ x E (zS (zP (zS (zP (w) 600) 115 3 116) 3822) 115 13 117) 2 := by show (xs x).heap.size + 2 = gZ E + (zS (zP (zS (zP (w) 600) 115 3 116) 3822) 115 13 117).2.1; rw [show (zS (zP (zS (zP (w) 600) 115 3 116) 3822) 115 13 117).2.1 = 118 from (by simp only [zP_n, zS_n, zC_n, zB_n, zG_n, zH_n, zR_n, zQ_n, zX_n, hz])]; omega
  refine r_al0 dX8_init_27 ?_
  refine r_sipush dX8_init_28 (by decide) ?_
  refine k_newI (n := 21840) B hN F (t := 118) (show (zS (zP (zS (zP (w) 600) 115 3 116) 3822) 115 13 117).2.1 = 118 from (by simp only [zP_n, zS_n, zC_n, zB_n, zG_n, zH_n, zR_n, zQ_n, zX_n, hz])) kd_118 (Nat.le_of_ble_eq_true rfl) aw_I (by rw [hxc]; exact Nat.le_of_ble_eq_true rfl) (by rw [hxs]; exact Nat.le_of_ble_eq_true rfl) dX8_init_31 ?_
  have F := F.P (n := 21840)
  have hN : NZ x E (zP (zS (zP (zS (zP (w) 600) 115 3 116) 3822) 115 13 117) 21840) 3 := by show (xs x).heap.size + 3 = gZ E + (zP (zS (zP (zS (zP (w) 600) 115 3 116) 3822) 115 13 117) 21840).2.1; rw [show (zP (zS (zP (zS (zP (w) 600) 115 3 116) 3822) 115 13 117) 21840).2.1 = 119 from (by simp only [zP_n, zS_n, zC_n, zB_n, zG_n, zH_n, zR_n, zQ_n, zX_n, hz])]; omega
  refine k_putF B fg_X8_20 ff_8_14 fd_8_14 hnm kd_115 (by show 115 < (zP (zS (zP (zS (zP (w) 600) 115 3 116) 3822) 115 13 117) 21840).2.1; rw [show (zP (zS (zP (zS (zP (w) 600) 115 3 116) 3822) 115 13 117) 21840).2.1 = 119 from (by simp only [zP_n, zS_n, zC_n, zB_n, zG_n, zH_n, zR_n, zQ_n, zX_n, hz])]; omega) rfl rfl dX8_init_33 ?_
  have F := F.S (k := 115) (j := 14) (t := 118) (by show 115 < (zP (zS (zP (zS (zP (w) 600) 115 3 116) 3822) 115 13 117) 21840).2.1; rw [show (zP (zS (zP (zS (zP (w) 600) 115 3 116) 3822) 115 13 117) 21840).2.1 = 119 from (by simp only [zP_n, zS_n, zC_n, zB_n, zG_n, zH_n, zR_n, zQ_n, zX_n, hz])]; omega)
  have hN : NZ x E (zS (zP (zS (zP (zS (zP (w) 600) 115 3 116) 3822) 115 13 117) 21840) 115 14 118) 3 := by show (xs x).heap.size + 3 = gZ E + (zS (zP (zS (zP (zS (zP (w) 600) 115 3 116) 3822) 115 13 117) 21840) 115 14 118).2.1; rw [show (zS (zP (zS (zP (zS (zP (w) 600) 115 3 116) 3822) 115 13 117) 21840) 115 14 118).2.1 = 119 from (by simp only [zP_n, zS_n, zC_n, zB_n, zG_n, zH_n, zR_n, zQ_n, zX_n, hz])]; omega
  refine r_al0 dX8_init_36 ?_
  refine r_iconst dX8_init_37 ?_
  refine k_newL (n := 4) B hN F (t := 119) (show (zS (zP (zS (zP (zS (zP (w) 600) 115 3 116) 3822) 115 13 117) 21840) 115 14 118).2.1 = 119 from (by simp only [zP_n, zS_n, zC_n, zB_n, zG_n, zH_n, zR_n, zQ_n, zX_n, hz])) kd_119 (Nat.le_of_ble_eq_true rfl) aw_L (by rw [hxc]; exact Nat.le_of_ble_eq_true rfl) (by rw [hxs]; exact Nat.le_of_ble_eq_true rfl) dX8_init_38 ?_
  have F := F.P (n := 4)
  have hN : NZ x E (zP (zS (zP (zS (zP (zS (zP (w) 600) 115 3 116) 3822) 115 13 117) 21840) 115 14 118) 4) 4 := by show (xs x).heap.size + 4 = gZ E + (zP (zS (zP (zS (zP (zS (zP (w) 600) 115 3 116) 3822) 115 13 117) 21840) 115 14 118) 4).2.1; rw [show (zP (zS (zP (zS (zP (zS (zP (w) 600) 115 3 116) 3822) 115 13 117) 21840) 115 14 118) 4).2.1 = 120 from (by simp only [zP_n, zS_n, zC_n, zB_n, zG_n, zH_n, zR_n, zQ_n, zX_n, hz])]; omega
  refine k_putF B fg_X8_23 ff_8_15 fd_8_15 hnm kd_115 (by show 115 < (zP (zS (zP (zS (zP (zS (zP (w) 600) 115 3 116) 3822) 115 13 117) 21840) 115 14 118) 4).2.1; rw [show (zP (zS (zP (zS (zP (zS (zP (w) 600) 115 3 116) 3822) 115 13 117) 21840) 115 14 118) 4).2.1 = 120 from (by simp only [zP_n, zS_n, zC_n, zB_n, zG_n, zH_n, zR_n, zQ_n, zX_n, hz])]; omega) rfl rfl dX8_init_40 ?_
  have F := F.S (k := 115) (j := 15) (t := 119) (by show 115 < (zP (zS (zP (zS (zP (zS (zP (w) 600) 115 3 116) 3822) 115 13 117) 21840) 115 14 118) 4).2.1; rw [show (zP (zS (zP (zS (zP (zS (zP (w) 600) 115 3 116) 3822) 115 13 117) 21840) 115 14 118) 4).2.1 = 120 from (by simp only [zP_n, zS_n, zC_n, zB_n, zG_n, zH_n, zR_n, zQ_n, zX_n, hz])]; omega)
  have hN : NZ x E (zS (zP (zS (zP (zS (zP (zS (zP (w) 600) 115 3 116) 3822) 115 13 117) 21840) 115 14 118) 4) 115 15 119) 4 := by show (xs x).heap.size + 4 = gZ E + (zS (zP (zS (zP (zS (zP (zS (zP (w) 600) 115 3 116) 3822) 115 13 117) 21840) 115 14 118) 4) 115 15 119).2.1; rw [show (zS (zP (zS (zP (zS (zP (zS (zP (w) 600) 115 3 116) 3822) 115 13 117) 21840) 115 14 118) 4) 115 15 119).2.1 = 120 from (by simp only [zP_n, zS_n, zC_n, zB_n, zG_n, zH_n, zR_n, zQ_n, zX_n, hz])]; omega
  refine r_al0 dX8_init_43 ?_
  refine r_iconst dX8_init_44 ?_
  refine k_newL (n := 4) B hN F (t := 120) (show (zS (zP (zS (zP (zS (zP (zS (zP (w) 600) 115 3 116) 3822) 115 13 117) 21840) 115 14 118) 4) 115 15 119).2.1 = 120 from (by simp only [zP_n, zS_n, zC_n, zB_n, zG_n, zH_n, zR_n, zQ_n, zX_n, hz])) kd_120 (Nat.le_of_ble_eq_true rfl) aw_L (by rw [hxc]; exact Nat.le_of_ble_eq_true rfl) (by rw [hxs]; exact Nat.le_of_ble_eq_true rfl) dX8_init_45 ?_
  have F := F.P (n := 4)
  have hN : NZ x E (zP (zS (zP (zS (zP (zS (zP (zS (zP (w) 600) 115 3 116) 3822) 115 13 117) 21840) 115 14 118) 4) 115 15 119) 4) 5 := by show (xs x).heap.size + 5 = gZ E + (zP (zS (zP (zS (zP (zS (zP (zS (zP (w) 600) 115 3 116) 3822) 115 13 117) 21840) 115 14 118) 4) 115 15 119) 4).2.1; rw [show (zP (zS (zP (zS (zP (zS (zP (zS (zP (w) 600) 115 3 116) 3822) 115 13 117) 21840) 115 14 118) 4) 115 15 119) 4).2.1 = 121 from (by simp only [zP_n, zS_n, zC_n, zB_n, zG_n, zH_n, zR_n, zQ_n, zX_n, hz])]; omega
  refine k_putF B fg_X8_27 ff_8_16 fd_8_16 hnm kd_115 (by show 115 < (zP (zS (zP (zS (zP (zS (zP (zS (zP (w) 600) 115 3 116) 3822) 115 13 117) 21840) 115 14 118) 4) 115 15 119) 4).2.1; rw [show (zP (zS (zP (zS (zP (zS (zP (zS (zP (w) 600) 115 3 116) 3822) 115 13 117) 21840) 115 14 118) 4) 115 15 119) 4).2.1 = 121 from (by simp only [zP_n, zS_n, zC_n, zB_n, zG_n, zH_n, zR_n, zQ_n, zX_n, hz])]; omega) rfl rfl dX8_init_47 ?_
  have F := F.S (k := 115) (j := 16) (t := 120) (by show 115 < (zP (zS (zP (zS (zP (zS (zP (zS (zP (w) 600) 115 3 116) 3822) 115 13 117) 21840) 115 14 118) 4) 115 15 119) 4).2.1; rw [show (zP (zS (zP (zS (zP (zS (zP (zS (zP (w) 600) 115 3 116) 3822) 115 13 117) 21840) 115 14 118) 4) 115 15 119) 4).2.1 = 121 from (by simp only [zP_n, zS_n, zC_n, zB_n, zG_n, zH_n, zR_n, zQ_n, zX_n, hz])]; omega)
  have hN : NZ x E (zS (zP (zS (zP (zS (zP (zS (zP (zS (zP (w) 600) 115 3 116) 3822) 115 13 117) 21840) 115 14 118) 4) 115 15 119) 4) 115 16 120) 5 := by show (xs x).heap.size + 5 = gZ E + (zS (zP (zS (zP (zS (zP (zS (zP (zS (zP (w) 600) 115 3 116) 3822) 115 13 117) 21840) 115 14 118) 4) 115 15 119) 4) 115 16 120).2.1; rw [show (zS (zP (zS (zP (zS (zP (zS (zP (zS (zP (w) 600) 115 3 116) 3822) 115 13 117) 21840) 115 14 118) 4) 115 15 119) 4) 115 16 120).2.1 = 121 from (by simp only [zP_n, zS_n, zC_n, zB_n, zG_n, zH_n, zR_n, zQ_n, zX_n, hz])]; omega
  refine r_al0 dX8_init_50 ?_
  refine r_sipush dX8_init_51 (by decide) ?_
  refine k_newI (n := 256) B hN F (t := 121) (show (zS (zP (zS (zP (zS (zP (zS (zP (zS (zP (w) 600) 115 3 116) 3822) 115 13 117) 21840) 115 14 118) 4) 115 15 119) 4) 115 16 120).2.1 = 121 from (by simp only [zP_n, zS_n, zC_n, zB_n, zG_n, zH_n, zR_n, zQ_n, zX_n, hz])) kd_121 (Nat.le_of_ble_eq_true rfl) aw_I (by rw [hxc]; exact Nat.le_of_ble_eq_true rfl) (by rw [hxs]; exact Nat.le_of_ble_eq_true rfl) dX8_init_54 ?_
  have F := F.P (n := 256)
  have hN : NZ x E (zP (zS (zP (zS (zP (zS (zP (zS (zP (zS (zP (w) 600) 115 3 116) 3822) 115 13 117) 21840) 115 14 118) 4) 115 15 119) 4) 115 16 120) 256) 6 := by show (xs x).heap.size + 6 = gZ E + (zP (zS (zP (zS (zP (zS (zP (zS (zP (zS (zP (w) 600) 115 3 116) 3822) 115 13 117) 21840) 115 14 118) 4) 115 15 119) 4) 115 16 120) 256).2.1; rw [show (zP (zS (zP (zS (zP (zS (zP (zS (zP (zS (zP (w) 600) 115 3 116) 3822) 115 13 117) 21840) 115 14 118) 4) 115 15 119) 4) 115 16 120) 256).2.1 = 122 from (by simp only [zP_n, zS_n, zC_n, zB_n, zG_n, zH_n, zR_n, zQ_n, zX_n, hz])]; omega
  refine k_putF B fg_X8_30 ff_8_20 fd_8_20 hnm kd_115 (by show 115 < (zP (zS (zP (zS (zP (zS (zP (zS (zP (zS (zP (w) 600) 115 3 116) 3822) 115 13 117) 21840) 115 14 118) 4) 115 15 119) 4) 115 16 120) 256).2.1; rw [show (zP (zS (zP (zS (zP (zS (zP (zS (zP (zS (zP (w) 600) 115 3 116) 3822) 115 13 117) 21840) 115 14 118) 4) 115 15 119) 4) 115 16 120) 256).2.1 = 122 from (by simp only [zP_n, zS_n, zC_n, zB_n, zG_n, zH_n, zR_n, zQ_n, zX_n, hz])]; omega) rfl rfl dX8_init_56 ?_
  have F := F.S (k := 115) (j := 20) (t := 121) (by show 115 < (zP (zS (zP (zS (zP (zS (zP (zS (zP (zS (zP (w) 600) 115 3 116) 3822) 115 13 117) 21840) 115 14 118) 4) 115 15 119) 4) 115 16 120) 256).2.1; rw [show (zP (zS (zP (zS (zP (zS (zP (zS (zP (zS (zP (w) 600) 115 3 116) 3822) 115 13 117) 21840) 115 14 118) 4) 115 15 119) 4) 115 16 120) 256).2.1 = 122 from (by simp only [zP_n, zS_n, zC_n, zB_n, zG_n, zH_n, zR_n, zQ_n, zX_n, hz])]; omega)
  have hN : NZ x E (zS (zP (zS (zP (zS (zP (zS (zP (zS (zP (zS (zP (w) 600) 115 3 116) 3822) 115 13 117) 21840) 115 14 118) 4) 115 15 119) 4) 115 16 120) 256) 115 20 121) 6 := by show (xs x).heap.size + 6 = gZ E + (zS (zP (zS (zP (zS (zP (zS (zP (zS (zP (zS (zP (w) 600) 115 3 116) 3822) 115 13 117) 21840) 115 14 118) 4) 115 15 119) 4) 115 16 120) 256) 115 20 121).2.1; rw [show (zS (zP (zS (zP (zS (zP (zS (zP (zS (zP (zS (zP (w) 600) 115 3 116) 3822) 115 13 117) 21840) 115 14 118) 4) 115 15 119) 4) 115 16 120) 256) 115 20 121).2.1 = 122 from (by simp only [zP_n, zS_n, zC_n, zB_n, zG_n, zH_n, zR_n, zQ_n, zX_n, hz])]; omega
  refine r_al0 dX8_init_59 ?_
  refine r_bipush dX8_init_60 (by decide) ?_
  refine k_newL (n := 81) B hN F (t := 122) (show (zS (zP (zS (zP (zS (zP (zS (zP (zS (zP (zS (zP (w) 600) 115 3 116) 3822) 115 13 117) 21840) 115 14 118) 4) 115 15 119) 4) 115 16 120) 256) 115 20 121).2.1 = 122 from (by simp only [zP_n, zS_n, zC_n, zB_n, zG_n, zH_n, zR_n, zQ_n, zX_n, hz])) kd_122 (Nat.le_of_ble_eq_true rfl) aw_L (by rw [hxc]; exact Nat.le_of_ble_eq_true rfl) (by rw [hxs]; exact Nat.le_of_ble_eq_true rfl) dX8_init_62 ?_
  have F := F.P (n := 81)
  have hN : NZ x E (zP (zS (zP (zS (zP (zS (zP (zS (zP (zS (zP (zS (zP (w) 600) 115 3 116) 3822) 115 13 117) 21840) 115 14 118) 4) 115 15 119) 4) 115 16 120) 256) 115 20 121) 81) 7 := by show (xs x).heap.size + 7 = gZ E + (zP (zS (zP (zS (zP (zS (zP (zS (zP (zS (zP (zS (zP (w) 600) 115 3 116) 3822) 115 13 117) 21840) 115 14 118) 4) 115 15 119) 4) 115 16 120) 256) 115 20 121) 81).2.1; rw [show (zP (zS (zP (zS (zP (zS (zP (zS (zP (zS (zP (zS (zP (w) 600) 115 3 116) 3822) 115 13 117) 21840) 115 14 118) 4) 115 15 119) 4) 115 16 120) 256) 115 20 121) 81).2.1 = 123 from (by simp only [zP_n, zS_n, zC_n, zB_n, zG_n, zH_n, zR_n, zQ_n, zX_n, hz])]; omega
  refine k_putF B fg_X8_33 ff_8_21 fd_8_21 hnm kd_115 (by show 115 < (zP (zS (zP (zS (zP (zS (zP (zS (zP (zS (zP (zS (zP (w) 600) 115 3 116) 3822) 115 13 117) 21840) 115 14 118) 4) 115 15 119) 4) 115 16 120) 256) 115 20 121) 81).2.1; rw [show (zP (zS (zP (zS (zP (zS (zP (zS (zP (zS (zP (zS (zP (w) 600) 115 3 116) 3822) 115 13 117) 21840) 115 14 118) 4) 115 15 119) 4) 115 16 120) 256) 115 20 121) 81).2.1 = 123 from (by simp only [zP_n, zS_n, zC_n, zB_n, zG_n, zH_n, zR_n, zQ_n, zX_n, hz])]; omega) rfl rfl dX8_init_64 ?_
  have F := F.S (k := 115) (j := 21) (t := 122) (by show 115 < (zP (zS (zP (zS (zP (zS (zP (zS (zP (zS (zP (zS (zP (w) 600) 115 3 116) 3822) 115 13 117) 21840) 115 14 118) 4) 115 15 119) 4) 115 16 120) 256) 115 20 121) 81).2.1; rw [show (zP (zS (zP (zS (zP (zS (zP (zS (zP (zS (zP (zS (zP (w) 600) 115 3 116) 3822) 115 13 117) 21840) 115 14 118) 4) 115 15 119) 4) 115 16 120) 256) 115 20 121) 81).2.1 = 123 from (by simp only [zP_n, zS_n, zC_n, zB_n, zG_n, zH_n, zR_n, zQ_n, zX_n, hz])]; omega)
  have hN : NZ x E (zS (zP (zS (zP (zS (zP (zS (zP (zS (zP (zS (zP (zS (zP (w) 600) 115 3 116) 3822) 115 13 117) 21840) 115 14 118) 4) 115 15 119) 4) 115 16 120) 256) 115 20 121) 81) 115 21 122) 7 := by show (xs x).heap.size + 7 = gZ E + (zS (zP (zS (zP (zS (zP (zS (zP (zS (zP (zS (zP (zS (zP (w) 600) 115 3 116) 3822) 115 13 117) 21840) 115 14 118) 4) 115 15 119) 4) 115 16 120) 256) 115 20 121) 81) 115 21 122).2.1; rw [show (zS (zP (zS (zP (zS (zP (zS (zP (zS (zP (zS (zP (zS (zP (w) 600) 115 3 116) 3822) 115 13 117) 21840) 115 14 118) 4) 115 15 119) 4) 115 16 120) 256) 115 20 121) 81) 115 21 122).2.1 = 123 from (by simp only [zP_n, zS_n, zC_n, zB_n, zG_n, zH_n, zR_n, zQ_n, zX_n, hz])]; omega
  refine r_al0 dX8_init_67 ?_
  refine r_bipush dX8_init_68 (by decide) ?_
  refine k_newL (n := 81) B hN F (t := 123) (show (zS (zP (zS (zP (zS (zP (zS (zP (zS (zP (zS (zP (zS (zP (w) 600) 115 3 116) 3822) 115 13 117) 21840) 115 14 118) 4) 115 15 119) 4) 115 16 120) 256) 115 20 121) 81) 115 21 122).2.1 = 123 from (by simp only [zP_n, zS_n, zC_n, zB_n, zG_n, zH_n, zR_n, zQ_n, zX_n, hz])) kd_123 (Nat.le_of_ble_eq_true rfl) aw_L (by rw [hxc]; exact Nat.le_of_ble_eq_true rfl) (by rw [hxs]; exact Nat.le_of_ble_eq_true rfl) dX8_init_70 ?_
  have F := F.P (n := 81)
  have hN : NZ x E (zP (zS (zP (zS (zP (zS (zP (zS (zP (zS (zP (zS (zP (zS (zP (w) 600) 115 3 116) 3822) 115 13 117) 21840) 115 14 118) 4) 115 15 119) 4) 115 16 120) 256) 115 20 121) 81) 115 21 122) 81) 8 := by show (xs x).heap.size + 8 = gZ E + (zP (zS (zP (zS (zP (zS (zP (zS (zP (zS (zP (zS (zP (zS (zP (w) 600) 115 3 116) 3822) 115 13 117) 21840) 115 14 118) 4) 115 15 119) 4) 115 16 120) 256) 115 20 121) 81) 115 21 122) 81).2.1; rw [show (zP (zS (zP (zS (zP (zS (zP (zS (zP (zS (zP (zS (zP (zS (zP (w) 600) 115 3 116) 3822) 115 13 117) 21840) 115 14 118) 4) 115 15 119) 4) 115 16 120) 256) 115 20 121) 81) 115 21 122) 81).2.1 = 124 from (by simp only [zP_n, zS_n, zC_n, zB_n, zG_n, zH_n, zR_n, zQ_n, zX_n, hz])]; omega
  refine k_putF B fg_X8_36 ff_8_22 fd_8_22 hnm kd_115 (by show 115 < (zP (zS (zP (zS (zP (zS (zP (zS (zP (zS (zP (zS (zP (zS (zP (w) 600) 115 3 116) 3822) 115 13 117) 21840) 115 14 118) 4) 115 15 119) 4) 115 16 120) 256) 115 20 121) 81) 115 21 122) 81).2.1; rw [show (zP (zS (zP (zS (zP (zS (zP (zS (zP (zS (zP (zS (zP (zS (zP (w) 600) 115 3 116) 3822) 115 13 117) 21840) 115 14 118) 4) 115 15 119) 4) 115 16 120) 256) 115 20 121) 81) 115 21 122) 81).2.1 = 124 from (by simp only [zP_n, zS_n, zC_n, zB_n, zG_n, zH_n, zR_n, zQ_n, zX_n, hz])]; omega) rfl rfl dX8_init_72 ?_
  have F := F.S (k := 115) (j := 22) (t := 123) (by show 115 < (zP (zS (zP (zS (zP (zS (zP (zS (zP (zS (zP (zS (zP (zS (zP (w) 600) 115 3 116) 3822) 115 13 117) 21840) 115 14 118) 4) 115 15 119) 4) 115 16 120) 256) 115 20 121) 81) 115 21 122) 81).2.1; rw [show (zP (zS (zP (zS (zP (zS (zP (zS (zP (zS (zP (zS (zP (zS (zP (w) 600) 115 3 116) 3822) 115 13 117) 21840) 115 14 118) 4) 115 15 119) 4) 115 16 120) 256) 115 20 121) 81) 115 21 122) 81).2.1 = 124 from (by simp only [zP_n, zS_n, zC_n, zB_n, zG_n, zH_n, zR_n, zQ_n, zX_n, hz])]; omega)
  have hN : NZ x E (zS (zP (zS (zP (zS (zP (zS (zP (zS (zP (zS (zP (zS (zP (zS (zP (w) 600) 115 3 116) 3822) 115 13 117) 21840) 115 14 118) 4) 115 15 119) 4) 115 16 120) 256) 115 20 121) 81) 115 21 122) 81) 115 22 123) 8 := by show (xs x).heap.size + 8 = gZ E + (zS (zP (zS (zP (zS (zP (zS (zP (zS (zP (zS (zP (zS (zP (zS (zP (w) 600) 115 3 116) 3822) 115 13 117) 21840) 115 14 118) 4) 115 15 119) 4) 115 16 120) 256) 115 20 121) 81) 115 21 122) 81) 115 22 123).2.1; rw [show (zS (zP (zS (zP (zS (zP (zS (zP (zS (zP (zS (zP (zS (zP (zS (zP (w) 600) 115 3 116) 3822) 115 13 117) 21840) 115 14 118) 4) 115 15 119) 4) 115 16 120) 256) 115 20 121) 81) 115 21 122) 81) 115 22 123).2.1 = 124 from (by simp only [zP_n, zS_n, zC_n, zB_n, zG_n, zH_n, zR_n, zQ_n, zX_n, hz])]; omega
  refine r_al0 dX8_init_75 ?_
  refine r_bipush dX8_init_76 (by decide) ?_
  refine k_newI (n := 8) B hN F (t := 124) (show (zS (zP (zS (zP (zS (zP (zS (zP (zS (zP (zS (zP (zS (zP (zS (zP (w) 600) 115 3 116) 3822) 115 13 117) 21840) 115 14 118) 4) 115 15 119) 4) 115 16 120) 256) 115 20 121) 81) 115 21 122) 81) 115 22 123).2.1 = 124 from (by simp only [zP_n, zS_n, zC_n, zB_n, zG_n, zH_n, zR_n, zQ_n, zX_n, hz])) kd_124 (Nat.le_of_ble_eq_true rfl) aw_I (by rw [hxc]; exact Nat.le_of_ble_eq_true rfl) (by rw [hxs]; exact Nat.le_of_ble_eq_true rfl) dX8_init_78 ?_
  have F := F.P (n := 8)
  have hN : NZ x E (zP (zS (zP (zS (zP (zS (zP (zS (zP (zS (zP (zS (zP (zS (zP (zS (zP (w) 600) 115 3 116) 3822) 115 13 117) 21840) 115 14 118) 4) 115 15 119) 4) 115 16 120) 256) 115 20 121) 81) 115 21 122) 81) 115 22 123) 8) 9 := by show (xs x).heap.size + 9 = gZ E + (zP (zS (zP (zS (zP (zS (zP (zS (zP (zS (zP (zS (zP (zS (zP (zS (zP (w) 600) 115 3 116) 3822) 115 13 117) 21840) 115 14 118) 4) 115 15 119) 4) 115 16 120) 256) 115 20 121) 81) 115 21 122) 81) 115 22 123) 8).2.1; rw [show (zP (zS (zP (zS (zP (zS (zP (zS (zP (zS (zP (zS (zP (zS (zP (zS (zP (w) 600) 115 3 116) 3822) 115 13 117) 21840) 115 14 118) 4) 115 15 119) 4) 115 16 120) 256) 115 20 121) 81) 115 21 122) 81) 115 22 123) 8).2.1 = 125 from (by simp only [zP_n, zS_n, zC_n, zB_n, zG_n, zH_n, zR_n, zQ_n, zX_n, hz])]; omega
  refine k_putF B fg_X8_39 ff_8_23 fd_8_23 hnm kd_115 (by show 115 < (zP (zS (zP (zS (zP (zS (zP (zS (zP (zS (zP (zS (zP (zS (zP (zS (zP (w) 600) 115 3 116) 3822) 115 13 117) 21840) 115 14 118) 4) 115 15 119) 4) 115 16 120) 256) 115 20 121) 81) 115 21 122) 81) 115 22 123) 8).2.1; rw [show (zP (zS (zP (zS (zP (zS (zP (zS (zP (zS (zP (zS (zP (zS (zP (zS (zP (w) 600) 115 3 116) 3822) 115 13 117) 21840) 115 14 118) 4) 115 15 119) 4) 115 16 120) 256) 115 20 121) 81) 115 21 122) 81) 115 22 123) 8).2.1 = 125 from (by simp only [zP_n, zS_n, zC_n, zB_n, zG_n, zH_n, zR_n, zQ_n, zX_n, hz])]; omega) rfl rfl dX8_init_80 ?_
  have F := F.S (k := 115) (j := 23) (t := 124) (by show 115 < (zP (zS (zP (zS (zP (zS (zP (zS (zP (zS (zP (zS (zP (zS (zP (zS (zP (w) 600) 115 3 116) 3822) 115 13 117) 21840) 115 14 118) 4) 115 15 119) 4) 115 16 120) 256) 115 20 121) 81) 115 21 122) 81) 115 22 123) 8).2.1; rw [show (zP (zS (zP (zS (zP (zS (zP (zS (zP (zS (zP (zS (zP (zS (zP (zS (zP (w) 600) 115 3 116) 3822) 115 13 117) 21840) 115 14 118) 4) 115 15 119) 4) 115 16 120) 256) 115 20 121) 81) 115 21 122) 81) 115 22 123) 8).2.1 = 125 from (by simp only [zP_n, zS_n, zC_n, zB_n, zG_n, zH_n, zR_n, zQ_n, zX_n, hz])]; omega)
  have hN : NZ x E (zS (zP (zS (zP (zS (zP (zS (zP (zS (zP (zS (zP (zS (zP (zS (zP (zS (zP (w) 600) 115 3 116) 3822) 115 13 117) 21840) 115 14 118) 4) 115 15 119) 4) 115 16 120) 256) 115 20 121) 81) 115 21 122) 81) 115 22 123) 8) 115 23 124) 9 := by show (xs x).heap.size + 9 = gZ E + (zS (zP (zS (zP (zS (zP (zS (zP (zS (zP (zS (zP (zS (zP (zS (zP (zS (zP (w) 600) 115 3 116) 3822) 115 13 117) 21840) 115 14 118) 4) 115 15 119) 4) 115 16 120) 256) 115 20 121) 81) 115 21 122) 81) 115 22 123) 8) 115 23 124).2.1; rw [show (zS (zP (zS (zP (zS (zP (zS (zP (zS (zP (zS (zP (zS (zP (zS (zP (zS (zP (w) 600) 115 3 116) 3822) 115 13 117) 21840) 115 14 118) 4) 115 15 119) 4) 115 16 120) 256) 115 20 121) 81) 115 21 122) 81) 115 22 123) 8) 115 23 124).2.1 = 125 from (by simp only [zP_n, zS_n, zC_n, zB_n, zG_n, zH_n, zR_n, zQ_n, zX_n, hz])]; omega
  exact r_vret B hr hμ dX8_init_83 rfl

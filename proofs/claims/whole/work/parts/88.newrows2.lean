/-! ===== constructors: cells are made, contracts ===== -/
/-- as many cells lie behind the start as were made -/
def NOK (x : Cx) (E : Gx) (z : Zs) : Prop := (xs x).heap.size + z.2.2.1 = gZ E + z.2.1
theorem NOK.P {x : Cx} {E : Gx} {z : Zs} {n : Nat} (h : NOK x E z) : NOK x E (zP z n) := by
  show (xs x).heap.size + (z.2.2.1 + 1) = gZ E + (z.2.1 + 1)
  have h : (xs x).heap.size + z.2.2.1 = gZ E + z.2.1 := h
  omega
theorem NOK.S {x : Cx} {E : Gx} {z : Zs} {k j t : Nat} (h : NOK x E z) : NOK x E (zS z k j t) := h
def wokN (E : Gx) (z : Zs) (μ : Mem) (U : State) : Prop := wok E z μ U ∧ U.heap.size = gZ E + z.2.1 ∧ va_AO "SlipCovers$Code" U
/-- a constructor's contract: from z and μ to z2 and μ2 -/
def MC (l : Launch) (y : MethodName) (cc : ByteArray) (nL : Nat) (E : Gx) (D mc ms : Nat) (z : Zs) (k : Nat) (μ : Mem) (z2 : Zs) (μ2 : Mem) : Prop :=
  Met l y (Cond.code y cc nL none :: tblG) (rmD D mc ms) (va_Pc [rv E k] (wokN E z μ)) (QV E z2 (fun u => u = μ2)) mc ms (gA E)
theorem wokN_blind {E : Gx} {z : Zs} {μ : Mem} {av : List Value} : FrameBlind (va_Pc av (wokN E z μ)) := fun a U g mk q => by
  obtain ⟨q0, q1, q2, q3⟩ := q
  have h := wok_blind (E := E) (z := z) (μ := μ) (av := av) a U g mk ⟨q0, q1⟩
  exact ⟨q0, h.2, q2, va_AO.moved (u := U) (U := U.calling g mk a) (Vm.Alike.refl U.vm) q3⟩
theorem m_startC {l : Launch} {y : MethodName} {cc : ByteArray} {nL : Nat} {E : Gx} {D mc ms : Nat} {z : Zs} {k : Nat} {μ : Mem} {z2 : Zs} {μ2 : Mem} (lv : List (Option Value)) (hy : plainName y.cls = true) (hz : z.2.2 = (0, 0)) (hlv : lvE [rv E k] nL = lv) (hn : Nat.ble 1 nL = true)
    (h : ∀ x : Cx, xl x = l → (xR x).cells = mc → (xR x).slots = ms → Bd x E D nL y.cls → (xt x).sig.returnType = none → (xt x).name = y.name → NOK x E z → va_AO "SlipCovers$Code" (xs x) → J cc x E z μ 0 lv [] (MQ (xb x) (QV E z2 (fun u => u = μ2)) (xa x) (xs x) mc ms (gA E))) : MC l y cc nL E D mc ms z k μ z2 μ2 := by
  refine Met.ofW (cc := cc) (maxL := nL) (ret := none) hy rfl ?_
  intro p e s m args below meth c s₁ B hml hv
  obtain ⟨rfl, ⟨hP, hK, hN, hT, hZ⟩, hsz, hAO⟩ := hv
  have hts := atoms_spec (ws := Cond.code y cc nL none :: tblG) B.pre
  have hown : s.vm.findClass y.cls = some m.cls := findClass_of_methodNamed B.named
  have hS : va_S (gA E) s.heap s.heap [] := va_S.rf
  have hn' : (lvA [rv E k]).length ≤ nL := Nat.le_of_ble_eq_true hn
  have hl := lv_entry [rv E k] (n := nL) (by rw [← lvA_len]; exact hn')
  rw [lg_entry_eq]
  generalize (lg_sl [rv E k] ++ List.replicate (nL - (lg_sl [rv E k]).length) Slot.unset).toArray = ls at hl ⊢
  have h2 := h (p, l, e, (headSpec (Cond.code y cc nL none :: tblG) (rmD D mc ms)).room, s, m, [rv E k].toArray, below, meth, c) rfl rfl rfl ⟨hown, fun w hw => hts w (List.mem_cons_of_mem _ hw), hK, hN, hT, hml, Nat.le_refl _, Nat.le_refl _, hZ, B.notSynchronized⟩ B.returns (name_of_methodNamed B.named B.method).1 (by show s.heap.size + z.2.2.1 = _; rw [hz]; exact hsz) hAO B.exec B.bytes s.heap [] ls (by
    show lh ls c.maxLocals lv
    rw [hml, ← hlv]
    exact lvE_ok hn' hl) hP hS
  rw [hz] at h2
  exact h2
section NR
variable {cc : ByteArray} {x : Cx} {E : Gx} {z : Zs} {μ : Mem} {pc : Nat} {lv : List (Option Value)} {st : List Value} {Q : State → Prop} {D nL : Nat} {own : String}
theorem nn_of (B : Bd x E D nL own) (hN : NOK x E z) (k : JN cc x E z μ pc lv st Q) : J cc x E z μ pc lv st Q := fun hx hb H locs ls hl hP hS T hT X => by
  have hN : (xs x).heap.size + z.2.2.1 = gZ E + z.2.1 := hN
  have h1 : H.size ≤ (xs x).heap.size + z.2.2.1 := by rw [← hT]; exact X.same.2.2.1
  have h2 : gZ E + z.2.1 ≤ H.size := by
    have h0 := hS.1
    by_cases e : z.2.1 = 0
    · have hg : gZ E ≤ (xs x).heap.size := B.2.2.2.2.2.2.2.2.1
      omega
    · have := (hP (z.2.1 - 1) _ (wl_get (by omega))).lt
      have this : gZ E + (z.2.1 - 1) < H.size := this
      omega
  exact k hx hb H locs ls hl hP hS (by omega) T hT X
theorem r_newC (B : Bd x E D nL own) {idx ci t : Nat} (hN : NOK x E z) (F : FRz z μ) (ht : z.2.1 = t) (hk : kd t = (4, ci)) (w : NW own idx ci) (hc : z.2.2.1 + 1 ≤ (xR x).cells) (hs : z.2.2.2 + fN ci ≤ (xR x).slots) (d : decode cc pc = .ok (.new idx, 3)) (k : J cc x E (zP z (fN ci)) μ (pc + 3) lv (rv E t :: st) Q) : J cc x E z μ pc lv st Q := by
  subst ht
  exact nn_of B hN (nn_new B F hk w hc hs d (nn_J k))
theorem r_newI (B : Bd x E D nL own) {n t : Nat} (hN : NOK x E z) (F : FRz z μ) (ht : z.2.1 = t) (hk : kd t = (1, n)) (hn : n ≤ 100000) (w : Cond.arrayClass .int ∈ tblG) (hc : z.2.2.1 + 1 ≤ (xR x).cells) (hs : z.2.2.2 + n ≤ (xR x).slots) (d : decode cc pc = .ok (.newarray .int, 2)) (k : J cc x E (zP z n) μ (pc + 2) lv (rv E t :: st) Q) : J cc x E z μ pc lv (iv (n : Int) :: st) Q := by
  subst ht
  exact nn_of B hN (nn_newI B F hk hn w hc hs d (nn_J k))
theorem r_newL (B : Bd x E D nL own) {n t : Nat} (hN : NOK x E z) (F : FRz z μ) (ht : z.2.1 = t) (hk : kd t = (2, n)) (hn : n ≤ 100000) (w : Cond.arrayClass .long ∈ tblG) (hc : z.2.2.1 + 1 ≤ (xR x).cells) (hs : z.2.2.2 + n ≤ (xR x).slots) (d : decode cc pc = .ok (.newarray .long, 2)) (k : J cc x E (zP z n) μ (pc + 2) lv (rv E t :: st) Q) : J cc x E z μ pc lv (iv (n : Int) :: st) Q := by
  subst ht
  exact nn_of B hN (nn_newL B F hk hn w hc hs d (nn_J k))
theorem r_newR (B : Bd x E D nL own) {n t idx : Nat} (hAO : va_AO "SlipCovers$Code" (xs x)) (hN : NOK x E z) (F : FRz z μ) (ht : z.2.1 = t) (hk : kd t = (3, n)) (hn : n ≤ 100000) (w : Cond.classLink own idx "SlipCovers$Code" ∈ tblG) (hc : z.2.2.1 + 1 ≤ (xR x).cells) (hs : z.2.2.2 + n ≤ (xR x).slots) (d : decode cc pc = .ok (.anewarray idx, 3)) (k : J cc x E (zP z n) μ (pc + 3) lv (rv E t :: st) Q) : J cc x E z μ pc lv (iv (n : Int) :: st) Q := by
  subst ht
  exact nn_of B hN (nn_newR B hAO F hk hn w hc hs d (nn_J k))
theorem r_obj (B : Bd x E D nL own) {idx k : Nat} (hl : LK own idx Lib.objectInit) (h1 : Cond.instanceMethod Lib.objectInit ∈ tblG) (h2 : Cond.code Lib.objectInit ⟨#[0xb1]⟩ 1 none ∈ tblG) (hD : Nat.ble 1 D = true) (hW : Nat.ble (cats st) 8 = true) (d : decode cc pc = .ok (.invokespecial idx, 3)) (kk : J cc x E z μ (pc + 3) lv st Q) : J cc x E z μ pc lv (rv E k :: st) Q := fun hx hb H locs ls hls hP hS => by
  obtain ⟨hown, hts, hK, hN, hT, hml, hf, hloc, -⟩ := B
  have hw := Nat.le_of_ble_eq_true hW
  have hd := Nat.le_of_ble_eq_true hD
  exact W.objInit hx hb hown (hts _ hl) (hts _ h1) (hts _ h2) rfl hls.2.1 rfl d (Nat.le_trans hd hf) (by show 2 * 0 + cats st + 12 ≤ _; omega) (kk hx hb H locs ls hls hP hS)
/-- a final field gets its reference -/
theorem r_putF (B : Bd x E D nL own) {idx ci j k t : Nat} {ty : FieldType} (f : FG own idx ci j 2 ty) (fp : FGp ci j true) (fd : ∃ (C : String) (T : u_T) (N : Nat), vwCl[ci]? = some (C, T, N) ∧ (T j).1 = own) (hi : (xt x).name = "<init>") (hk : kd k = (4, ci)) (hn : k < z.2.1) (hnar : narrow ty (rv E t) = rv E t) (hfit : fits ty (rv E t) = true) (d : decode cc pc = .ok (.putfield idx, 3)) (kk : J cc x E (zS z k j t) μ (pc + 3) lv st Q) : J cc x E z μ pc lv (rv E t :: rv E k :: st) Q := fun hx hb H locs ls hl hP hS => by
  obtain ⟨C, T, N, ty0, hc, hj, hN, hcd, hin, hty, hnm, hd, hlk⟩ := f
  obtain ⟨C', T', N', hc', hfin⟩ := fp
  cases hc.symm.trans hc'
  obtain ⟨C', T', N', hc', hdc⟩ := fd
  cases hc.symm.trans hc'
  obtain ⟨hown, hts, hK, -⟩ := B
  subst hN
  refine va_putF (D := gD E) (ci := ci) (v := rv E t) (ty := ty) hx hb hts hin ty0 hty hnm hown hK hP wl_D hS k (by rw [wl_at hn hk]; rfl) hc j hj (hts _ hlk) (fun _ h9 => h9) hfin hi hdc hd hnar hfit (by rw [fl_len]; exact hj) d (fun H1 locs1 hP1 hD1 hS1 => ?_)
  refine kk hx hb H1 locs1 ls hl ?_ hS1
  unfold rep
  have ho : ∀ q, q ≠ k → (zS z k j t).1 q = z.1 q ∧ μ.1 q = μ.1 q ∧ μ.2 q = μ.2 q := fun q hq => ⟨funext fun b => if_neg (fun h => hq h.1), rfl, rfl⟩
  have ho2 : ∀ q, q ≠ j → (zS z k j t).1 k q = z.1 k q ∧ μ.1 k q = μ.1 k q ∧ μ.2 k q = μ.2 k q := fun q hq => ⟨if_neg (fun h => hq h.2), rfl, rfl⟩
  have hv : rv E t = fv E ((zS z k j t).1 k) (μ.1 k) (μ.2 k) j 2 := by
    show rv E t = va_rf (ro_ E (if k = k ∧ j = j then some t else z.1 k j))
    rw [if_pos ⟨rfl, rfl⟩]
    rfl
  rw [← wl_set (z := z) (z' := zS z k j t) (μ := μ) (μ' := μ) (k := k) rfl rfl ho, hk, ent4, ← fl_set (r := z.1 k) (a := μ.1 k) (b := μ.2 k) hcd hv ho2]
  exact hP1
/-- a code comes into an array -/
theorem r_aast (B : Bd x E D nL own) {k n t : Nat} {a : Int} (hk : kd k = (3, n)) (hn : k < z.2.1) (hN : n < 2147483648) (ha : 0 ≤ a ∧ a < (n : Int)) (ht : kd t = (4, 1)) (htn : t < z.2.1) (d : decode cc pc = .ok (.aastore, 1)) (kk : J cc x E (zS z k a.toNat t) μ (pc + 1) lv st Q) : J cc x E z μ pc lv (rv E t :: iv a :: rv E k :: st) Q := fun hx hb H locs ls hl hP hS => by
  obtain ⟨-, -, hK, -⟩ := B
  refine va_astq (D := gD E) hx hb hK hP wl_D hS k 2 t 1 (r := ("SlipCovers$Code", TX1, 7)) (f := fun j => ro_ E (z.1 k j)) (by rw [wl_at hn hk]; rfl) rfl (by rw [wl_at htn ht]; rfl) rfl (in_of ha.1 ha.2 hN) d (fun H1 locs1 hP1 hD1 hS1 => ?_)
  refine kk hx hb H1 locs1 ls hl ?_ hS1
  unfold rep
  have ho : ∀ q, q ≠ k → (zS z k a.toNat t).1 q = z.1 q ∧ μ.1 q = μ.1 q ∧ μ.2 q = μ.2 q := fun q hq => ⟨funext fun b => if_neg (fun h => hq h.1), rfl, rfl⟩
  rw [← wl_set (z := z) (z' := zS z k a.toNat t) (μ := μ) (μ' := μ) (k := k) rfl rfl ho, hk]
  have e : va_up (fun j => ro_ E (z.1 k j)) a.toNat (some (gZ E + t)) = fun j => ro_ E ((zS z k a.toNat t).1 k j) := by
    funext q
    by_cases h : q = a.toNat
    · subst h
      simp [va_up, zS, ro_]
    · simp [va_up, zS, h]
  rw [clampI (a := a) ha.1 (by omega)] at hP1
  rw [show (some (gZ E + t) : Option Nat) = some (gZ E + t) from rfl] at hP1
  have hP2 := hP1
  rw [e] at hP2
  exact hP2
variable {y : MethodName} {bytes : ByteArray} {maxL idx k Dc mc ms : Nat}
theorem wokN_of (B : Bd x E D nL own) (hAO : va_AO "SlipCovers$Code" (xs x)) {H : Heap} {locs : List Loc} (hP : rep E z μ H) (hS : va_S (gA E) (xs x).heap H locs) (hz : H.size = gZ E + z.2.1) {U : State} (hU : U.heap = H) (hW : (xs x).WarmedH U.vm) : wokN E z μ U := ⟨wok_of B hP hS hU hW, by rw [hU]; exact hz, va_AO.moved hW.alike hAO⟩
/-- a constructor is called -/
theorem r_cI {z2 : Zs} {μ2 : Mem} (B : Bd x E D nL own) (hAO : va_AO "SlipCovers$Code" (xs x)) (hN : NOK x E z) (c : CB_ y bytes maxL none 0) (hl : LK own idx y) (ci_ : Cond.instanceMethod y ∈ tblG) (hi : y.name = "<init>") (hD : Nat.ble (Dc + 1) D = true) (hf : z.2.2.1 + mc ≤ (xR x).cells ∧ z.2.2.2 + ms ≤ (xR x).slots) (hz2 : z2.2.2 = (z.2.2.1 + mc, z.2.2.2 + ms)) (M : MC (xl x) y bytes maxL E Dc mc ms z k μ z2 μ2) (hW : Nat.ble (cats st) 8 = true) (d : decode cc pc = .ok (.invokespecial idx, 3)) (kk : okM μ2 → J cc x E z2 μ2 (pc + 3) lv st Q) : J cc x E z μ pc lv (rv E k :: st) Q := nn_of B hN (fun hx hb H locs ls hls hP hS hz => by
  have hB := B
  obtain ⟨hown, hts, hK, hNw, hT, hml, -⟩ := B
  refine va_callv (va_runI (b := gZ E + k) (As := []) (rest := st) ⟨hx, hb, rfl, hown, hts⟩ M ⟨c_B hB c hl hD, hi, hts _ ci_⟩ ⟨wokN_blind, fun U hU hW => ⟨rfl, wokN_of hB hAO hP hS hz hU hW⟩⟩ rfl rfl hls.2.1 rfl (lv_room (Nat.le_of_ble_eq_true hW)) d hf) hS (fun q _ h => h) (fun q h => h) (fun u t H1 locs1 ht hvm hw hB1 hz1 hk1 hS1 => ?_)
  obtain ⟨hμ, rfl⟩ := hw
  have h2 := kk hμ hx hb H1 locs1 ls hls (by rw [← ht]; exact hB1) hS1
  rw [hz2] at h2
  exact h2)
theorem r_cIN {z2 : Zs} {μ2 : Mem} (B : Bd x E D nL own) (hAO : va_AO "SlipCovers$Code" (xs x)) (hN : NOK x E z) (c : CB_ y bytes maxL none 0) (hl : LN own idx y) (ci_ : Cond.instanceMethod y ∈ tblG) (hi : y.name = "<init>") (hD : Nat.ble (Dc + 1) D = true) (hf : z.2.2.1 + mc ≤ (xR x).cells ∧ z.2.2.2 + ms ≤ (xR x).slots) (hz2 : z2.2.2 = (z.2.2.1 + mc, z.2.2.2 + ms)) (M : MC (xl x) y bytes maxL E Dc mc ms z k μ z2 μ2) (hW : Nat.ble (cats st) 8 = true) (d : decode cc pc = .ok (.invokespecial idx, 3)) (kk : okM μ2 → J cc x E z2 μ2 (pc + 3) lv st Q) : J cc x E z μ pc lv (rv E k :: st) Q := nn_of B hN (fun hx hb H locs ls hls hP hS hz => by
  obtain ⟨host, hl⟩ := hl
  have hB := B
  obtain ⟨hown, hts, hK, hNw, hT, hml, -⟩ := B
  refine va_callv (va_runIN (b := gZ E + k) (As := []) (rest := st) ⟨hx, hb, rfl, hown, hts⟩ M ⟨c_N hB c hl hD, hi, hts _ ci_⟩ ⟨wokN_blind, fun U hU hW => ⟨rfl, wokN_of hB hAO hP hS hz hU hW⟩⟩ rfl rfl hls.2.1 rfl (lv_room (Nat.le_of_ble_eq_true hW)) d hf) hS (fun q _ h => h) (fun q h => h) (fun u t H1 locs1 ht hvm hw hB1 hz1 hk1 hS1 => ?_)
  obtain ⟨hμ, rfl⟩ := hw
  have h2 := kk hμ hx hb H1 locs1 ls hls (by rw [← ht]; exact hB1) hS1
  rw [hz2] at h2
  exact h2)
end NR

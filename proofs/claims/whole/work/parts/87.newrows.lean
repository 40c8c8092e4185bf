/-! ===== constructors: rows where the heap's size is known ===== -/
def JN (cc : ByteArray) (x : Cx) (E : Gx) (z : Zs) (μ : Mem) (pc : Nat) (lv : List (Option Value)) (st : List Value) (Q : State → Prop) : Prop :=
  (xp x).tables.exec = Jvm.exec → (xc x).code = cc → ∀ (H : Heap) (locs : List Loc) (ls : Array Slot), lh ls (xc x).maxLocals lv → rep E z μ H → va_S (gA E) (xs x).heap H locs → H.size = gZ E + z.2.1 → WX x H locs z.2.2.1 z.2.2.2 Q (F0 (xm x) pc ls st)
def zP (z : Zs) (n : Nat) : Zs := (z.1, z.2.1 + 1, z.2.2.1 + 1, z.2.2.2 + n)
def zS (z : Zs) (k j t : Nat) : Zs := (fun a b => if a = k ∧ b = j then some t else z.1 a b, z.2)
/-- nothing stands yet behind what is made -/
def FRz (z : Zs) (μ : Mem) : Prop := ∀ k, z.2.1 ≤ k → ∀ j, z.1 k j = none ∧ μ.1 k j = 0 ∧ μ.2 k j = 0
theorem FRz.P {z : Zs} {μ : Mem} {n : Nat} (h : FRz z μ) : FRz (zP z n) μ := fun k hk j => h k (by have : z.2.1 + 1 ≤ k := hk; omega) j
theorem FRz.S {z : Zs} {μ : Mem} {k j t : Nat} (h : FRz z μ) (hk : k < z.2.1) : FRz (zS z k j t) μ := fun q hq i => by
  have hq : z.2.1 ≤ q := hq
  refine ⟨?_, (h q hq i).2⟩
  show (if q = k ∧ i = j then some t else z.1 q i) = none
  rw [if_neg (by omega)]; exact (h q hq i).1
theorem FRz.I {z : Zs} {μ : Mem} {k j : Nat} {v : Int} (h : FRz z μ) (hk : k < z.2.1) : FRz z (sI μ k j v) := fun q hq i => by
  refine ⟨(h q hq i).1, ?_, (h q hq i).2.2⟩
  rw [sI_ne (by omega)]; exact (h q hq i).2.1
theorem wl_push {E : Gx} {z : Zs} {μ : Mem} {n : Nat} : wl E (zP z n) μ = wl E z μ ++ [(gZ E + z.2.1, ent E (z.1 z.2.1) (μ.1 z.2.1) (μ.2 z.2.1) (kd z.2.1))] := by
  show (List.range (z.2.1 + 1)).map _ = _
  rw [List.range_succ, List.map_append]
  rfl
def NW (own : String) (idx ci : Nat) : Prop := ∃ (C : String) (T : u_T) (N : Nat) (ty0 : Nat → FieldType), vwCl[ci]? = some (C, T, N) ∧ N = fN ci ∧ (∀ w ∈ u_ws C T N, w ∈ tblG) ∧ (∀ k, k < N → parseFieldDescriptor (T k).2.2.1 = some (ty0 k)) ∧ Cond.classLink own idx C ∈ tblG ∧ Cond.instantiable C N ∈ tblG ∧ Cond.initialized C ∈ tblG ∧ ∀ j, j < N → defaultValue (ty0 j) = fv (default, 0, default, default, default, id, id) (fun _ => none) (fun _ => 0) (fun _ => 0) j (fc ci j)
section NR
variable {cc : ByteArray} {x : Cx} {E : Gx} {z : Zs} {μ : Mem} {pc : Nat} {lv : List (Option Value)} {st : List Value} {Q : State → Prop} {D nL : Nat} {own : String}
theorem nn_J (k : J cc x E z μ pc lv st Q) : JN cc x E z μ pc lv st Q := fun hx hb H locs ls hl hP hS _ => k hx hb H locs ls hl hP hS
theorem nn_iconst {n : Int} (d : decode cc pc = .ok (.iconst n, 1)) (k : JN cc x E z μ (pc + 1) (lv) (iv n :: st) Q) : JN cc x E z μ (pc) (lv) (st) Q := fun hx hb H locs ls hl hP hS hz => lv_iconst (v := Int32.ofInt n) hx hb d rfl (k hx hb H locs ls hl hP hS hz)
theorem nn_bipush {n : Int} (d : decode cc pc = .ok (.bipush n, 2)) (h : (Int8.ofInt n).toInt32 = Int32.ofInt n) (k : JN cc x E z μ (pc + 2) (lv) (iv n :: st) Q) : JN cc x E z μ (pc) (lv) (st) Q := fun hx hb H locs ls hl hP hS hz => lv_bipush (v := Int32.ofInt n) hx hb d h (k hx hb H locs ls hl hP hS hz)
theorem nn_sipush {n : Int} (d : decode cc pc = .ok (.sipush n, 3)) (h : (Int16.ofInt n).toInt32 = Int32.ofInt n) (k : JN cc x E z μ (pc + 3) (lv) (iv n :: st) Q) : JN cc x E z μ (pc) (lv) (st) Q := fun hx hb H locs ls hl hP hS hz => lv_sipush (v := Int32.ofInt n) hx hb d h (k hx hb H locs ls hl hP hS hz)
theorem nn_aload_n {k : Fin 4} {i : Nat} {a : Nat} (d : decode cc pc = .ok (.aload_n k, 1)) (hi : (k : Nat) = i) (h : lv[i]? = some (some (rv E a))) (k : JN cc x E z μ (pc + 1) (lv) (rv E a :: st) Q) : JN cc x E z μ (pc) (lv) (st) Q := fun hx hb H locs ls hl hP hS hz => lv_aload_n hx hb d hi (lh_at hl h) (k hx hb H locs ls hl hP hS hz)
theorem nn_astore_n {k : Fin 4} {i : Nat} {a : Nat} {lv2 : List (Option Value)} (d : decode cc pc = .ok (.astore_n k, 1)) (hi : (k : Nat) = i) (hn : i < lv.length) (hp : okp lv i = true) (hl2 : lv.set i (some (rv E a)) = lv2) (k : JN cc x E z μ (pc + 1) (lv2) (st) Q) : JN cc x E z μ (pc) (lv) (rv E a :: st) Q := fun hx hb H locs ls hl hP hS hz => lv_astore_n hx hb d hi hl.2 (by have := hl.1; omega) rfl (fun ls2 h2 => k hx hb H locs ls2 (lh_s1 hl hn hp hl2 h2) hP hS hz)
theorem nn_iload_n {k : Fin 4} {i : Nat} {a : Int} (d : decode cc pc = .ok (.iload_n k, 1)) (hi : (k : Nat) = i) (h : lv[i]? = some (some (iv a))) (k : JN cc x E z μ (pc + 1) (lv) (iv a :: st) Q) : JN cc x E z μ (pc) (lv) (st) Q := fun hx hb H locs ls hl hP hS hz => lv_iload_n hx hb d hi (lh_at hl h) (k hx hb H locs ls hl hP hS hz)
theorem nn_istore_n {k : Fin 4} {i : Nat} {a : Int} {lv2 : List (Option Value)} (d : decode cc pc = .ok (.istore_n k, 1)) (hi : (k : Nat) = i) (hn : i < lv.length) (hp : okp lv i = true) (hl2 : lv.set i (some (iv a)) = lv2) (k : JN cc x E z μ (pc + 1) (lv2) (st) Q) : JN cc x E z μ (pc) (lv) (iv a :: st) Q := fun hx hb H locs ls hl hP hS hz => lv_istore_n hx hb d hi hl.2 (by have := hl.1; omega) rfl (fun ls2 h2 => k hx hb H locs ls2 (lh_s1 hl hn hp hl2 h2) hP hS hz)
theorem nn_iinc {i : Nat} {n a : Int} {lv2 : List (Option Value)} (d : decode cc pc = .ok (.iinc i n, 3)) (h : lv[i]? = some (some (iv a))) (hn : i < lv.length) (hp : okp lv i = true) (hl2 : lv.set i (some (iv (a + n))) = lv2) (k : JN cc x E z μ (pc + 3) (lv2) (st) Q) : JN cc x E z μ (pc) (lv) (st) Q := fun hx hb H locs ls hl hP hS hz => by
  obtain ⟨q, hq⟩ := List.getElem?_of_mem ((cv_mem lv 0 (i, iv a)).mpr ⟨i, h, (Nat.zero_add i).symm⟩)
  exact lv_iinc (v := Int32.ofInt (a + n)) hx hb d hl.2 hq (Int32.ofInt_add a n).symm (by have := hl.1; omega) rfl (fun ls2 h2 => k hx hb H locs ls2 (lh_s1 hl hn hp hl2 h2) hP hS hz)
theorem nn_al0 {a : Nat} {t : List (Option Value)} (d : decode cc pc = .ok (.aload_n 0, 1)) (k : JN cc x E z μ (pc + 1) (some (rv E a) :: t) (rv E a :: st) Q) : JN cc x E z μ (pc) (some (rv E a) :: t) (st) Q := nn_aload_n d rfl rfl k
theorem nn_il1 {a : Int} {a0 : Option Value} {t : List (Option Value)} (d : decode cc pc = .ok (.iload_n 1, 1)) (k : JN cc x E z μ (pc + 1) (a0 :: some (iv a) :: t) (iv a :: st) Q) : JN cc x E z μ (pc) (a0 :: some (iv a) :: t) (st) Q := nn_iload_n d rfl rfl k
theorem nn_is1 {b : Option Value} {a : Int} {a0 : Option Value} {t : List (Option Value)} (d : decode cc pc = .ok (.istore_n 1, 1)) (hp : okp (a0 :: b :: t) 1 = true) (k : JN cc x E z μ (pc + 1) (a0 :: some (iv a) :: t) (st) Q) : JN cc x E z μ (pc) (a0 :: b :: t) (iv a :: st) Q := nn_istore_n d rfl (by simp only [List.length_cons]; omega) hp rfl k
theorem nn_inc1 {a n : Int} {a0 : Option Value} {t : List (Option Value)} (d : decode cc pc = .ok (.iinc 1 n, 3)) (hp : okp (a0 :: some (iv a) :: t) 1 = true) (k : JN cc x E z μ (pc + 3) (a0 :: some (iv (a + n)) :: t) (st) Q) : JN cc x E z μ (pc) (a0 :: some (iv a) :: t) (st) Q := nn_iinc d rfl (by simp only [List.length_cons]; omega) hp rfl k
theorem nn_dup {v : Value} (hv : v.category = 1) (d : decode cc pc = .ok (.dup, 1)) (k : JN cc x E z μ (pc + 1) (lv) (v :: v :: st) Q) : JN cc x E z μ (pc) (lv) (v :: st) Q := fun hx hb H locs ls hl hP hS hz => lv_dup hx hb d hv (k hx hb H locs ls hl hP hS hz)
theorem nn_goto {off : Int} (tgt : Nat) (d : decode cc pc = .ok (.goto off, 3)) (ht : (pc : Int) + off = (tgt : Int)) (k : JN cc x E z μ (tgt) (lv) (st) Q) : JN cc x E z μ (pc) (lv) (st) Q := fun hx hb H locs ls hl hP hS hz => lv_goto hx hb d ht (k hx hb H locs ls hl hP hS hz)
theorem nn_icmp_ge {a b : Int} {off : Int} (tgt : Nat) (d : decode cc pc = .ok (.if_icmp .ge off, 3)) (ht : (pc : Int) + off = (tgt : Int)) (ra : inR a) (rb : inR b) (kt : b ≤ a → JN cc x E z μ (tgt) (lv) (st) Q) (kf : ¬ (b ≤ a) → JN cc x E z μ (pc + 3) (lv) (st) Q) : JN cc x E z μ (pc) (lv) (iv b :: iv a :: st) Q := fun hx hb H locs ls hl hP hS hz => lv_icmp_ge hx hb d ht (fun q => kt ((le_iff rb ra).mp q) hx hb H locs ls hl hP hS hz) (fun q => kf (fun w => q ((le_iff rb ra).mpr w)) hx hb H locs ls hl hP hS hz)
/-- a cell more, behind the others -/
theorem rep_push {H H1 : Heap} {n : Nat} (hP : rep E z μ H) (hz : H.size = gZ E + z.2.1) (o1 : ∀ q, q < gZ E + z.2.1 → H1[q]? = H[q]?) (h : va_at (gD E) vwCl (gZ E + z.2.1, ent E (z.1 z.2.1) (μ.1 z.2.1) (μ.2 z.2.1) (kd z.2.1)) H1) : rep E (zP z n) μ H1 := by
  unfold rep at *
  rw [wl_push]
  have hk : ∀ (k : Nat) (q : Nat × va_E), (wl E z μ)[k]? = some q → H1[q.1]? = H[q.1]? := fun k q hq => o1 q.1 (by rw [← hz]; exact (hP k q hq).lt)
  refine (hP.kept hk).app (fun k q hq => ?_)
  have hz1 : k < 1 := (List.getElem?_eq_some_iff.mp hq).1
  rw [show k = 0 by omega] at hq
  cases hq
  exact h
theorem vaS_push {H H1 : Heap} {H0 : Heap} {locs : List Loc} {A : Nat → Prop} {h : Nat} (hS : va_S A H0 H locs) (hz : H.size = h) (z1 : H1.size = h + 1) (o1 : ∀ q, q < h → H1[q]? = H[q]?) : va_S A H0 H1 locs :=
  ⟨Nat.le_trans hS.1 (by omega), fun q h1 h2 => (o1 q (by have := hS.1; omega)).trans (hS.2.1 q h1 h2), hS.2.2⟩
theorem nn_new (B : Bd x E D nL own) {idx ci : Nat} (F : FRz z μ) (hk : kd z.2.1 = (4, ci)) (w : NW own idx ci) (hc : z.2.2.1 + 1 ≤ (xR x).cells) (hs : z.2.2.2 + fN ci ≤ (xR x).slots) (d : decode cc pc = .ok (.new idx, 3)) (k : JN cc x E (zP z (fN ci)) μ (pc + 3) lv (rv E z.2.1 :: st) Q) : JN cc x E z μ pc lv st Q := fun hx hb H locs ls hl hP hS hz => by
  obtain ⟨C, T, N, ty0, hcl, rfl, hin, hty, wl_, wi, wn, hd⟩ := w
  obtain ⟨hown, hts, hK, -⟩ := B
  have hKn := hK.1 ci _ hcl
  refine W.newcK hx hb hown (hts _ wl_) (hts _ wi) (hts _ wn) rfl d hc hs hKn.2.1 hz (fun H1 kC hkC e1 z1 o1 => ?_)
  refine k hx hb H1 locs ls hl (rep_push hP hz o1 ?_) (vaS_push hS hz z1 o1) (by rw [z1]; show _ = gZ E + (z.2.1 + 1); omega)
  rw [hk]
  show ∃ r : vw_C, vwCl[ci]? = some r ∧ t_OB (gZ E + z.2.1) ((gD E).1 ci) r.2.2 ((gD E).2 ci) H1 (vp_V (fl E (z.1 z.2.1) (μ.1 z.2.1) (μ.2 z.2.1) ci))
  refine ⟨_, hcl, (u_born ty0 hts hin hKn hkC e1 hty).to (fun j hj => ?_)⟩
  unfold vp_V
  rw [List.getD_eq_getElem?_getD, fl_get hj rfl, hd j hj]
  have h0 := F z.2.1 (Nat.le_refl _) j
  unfold fv
  rw [h0.1, h0.2.1, h0.2.2]
  rfl
theorem nn_newI (B : Bd x E D nL own) {n : Nat} (F : FRz z μ) (hk : kd z.2.1 = (1, n)) (hn : n ≤ 100000) (w : Cond.arrayClass .int ∈ tblG) (hc : z.2.2.1 + 1 ≤ (xR x).cells) (hs : z.2.2.2 + n ≤ (xR x).slots) (d : decode cc pc = .ok (.newarray .int, 2)) (k : JN cc x E (zP z n) μ (pc + 2) lv (rv E z.2.1 :: st) Q) : JN cc x E z μ pc lv (iv (n : Int) :: st) Q := fun hx hb H locs ls hl hP hS hz => by
  obtain ⟨hown, hts, hK, -⟩ := B
  refine va_newaK (atype := .int) hx hb (hts _ w) rfl d rfl (fun q => by rw [z_lt ⟨by omega, by omega⟩] at q; omega) (N := n) (by rw [clampI (by omega) (by omega)]; omega) (by show n * 4 ≤ _; omega) hc hs hz (fun H1 cA e1 z1 o1 hAr hNm => ?_)
  refine k hx hb H1 locs ls hl (rep_push hP hz o1 ?_) (vaS_push hS hz z1 o1) (by rw [z1]; show _ = gZ E + (z.2.1 + 1); omega)
  rw [hk]
  have hg : cA = gI E := Option.some.inj (hNm.symm.trans (hK.2 0 (gI E, .int) rfl).2)
  subst hg
  show H1[gZ E + z.2.1]? = some (vp_cell (gI E) (n, .inl (fun j => Int32.ofInt (μ.1 z.2.1 j))))
  rw [e1, vp_cell_i]
  congr 2
  funext j
  rw [(F z.2.1 (Nat.le_refl _) j).2.1]
  rfl
theorem nn_newL (B : Bd x E D nL own) {n : Nat} (F : FRz z μ) (hk : kd z.2.1 = (2, n)) (hn : n ≤ 100000) (w : Cond.arrayClass .long ∈ tblG) (hc : z.2.2.1 + 1 ≤ (xR x).cells) (hs : z.2.2.2 + n ≤ (xR x).slots) (d : decode cc pc = .ok (.newarray .long, 2)) (k : JN cc x E (zP z n) μ (pc + 2) lv (rv E z.2.1 :: st) Q) : JN cc x E z μ pc lv (iv (n : Int) :: st) Q := fun hx hb H locs ls hl hP hS hz => by
  obtain ⟨hown, hts, hK, -⟩ := B
  refine va_newaK (atype := .long) hx hb (hts _ w) rfl d rfl (fun q => by rw [z_lt ⟨by omega, by omega⟩] at q; omega) (N := n) (by rw [clampI (by omega) (by omega)]; omega) (by show n * 8 ≤ _; omega) hc hs hz (fun H1 cA e1 z1 o1 hAr hNm => ?_)
  refine k hx hb H1 locs ls hl (rep_push hP hz o1 ?_) (vaS_push hS hz z1 o1) (by rw [z1]; show _ = gZ E + (z.2.1 + 1); omega)
  rw [hk]
  have hg : cA = gL E := Option.some.inj (hNm.symm.trans (hK.2 1 (gL E, .long) rfl).2)
  subst hg
  show H1[gZ E + z.2.1]? = some (vp_cell (gL E) (n, .inr (.inl (fun j => μ.2 z.2.1 j))))
  rw [e1, vp_cell_l]
  congr 2
  funext j
  rw [(F z.2.1 (Nat.le_refl _) j).2.2]
  rfl
theorem nn_newR (B : Bd x E D nL own) {n idx : Nat} (hAO : va_AO "SlipCovers$Code" (xs x)) (F : FRz z μ) (hk : kd z.2.1 = (3, n)) (hn : n ≤ 100000) (w : Cond.classLink own idx "SlipCovers$Code" ∈ tblG) (hc : z.2.2.1 + 1 ≤ (xR x).cells) (hs : z.2.2.2 + n ≤ (xR x).slots) (d : decode cc pc = .ok (.anewarray idx, 3)) (k : JN cc x E (zP z n) μ (pc + 3) lv (rv E z.2.1 :: st) Q) : JN cc x E z μ pc lv (iv (n : Int) :: st) Q := fun hx hb H locs ls hl hP hS hz => by
  obtain ⟨hown, hts, hK, -⟩ := B
  have hN : (Int32.ofInt (n : Int)).toNatClampNeg = n := by rw [clampI (by omega) (by omega)]; omega
  refine W.anew hx hb hown (hts _ w) (va_AO.use hAO) rfl d rfl (fun q => by rw [z_lt ⟨by omega, by omega⟩] at q; omega) (by rw [hN]; omega) hc (by rw [hN]; exact hs) (fun cA kA comp f1 f2 f3 f4 => ?_)
  rw [hN]
  generalize hH1 : H.push ({ cls := cA, slots := Array.replicate n .null, vm := .none } : Cell) = H1
  have z1 : H1.size = gZ E + z.2.1 + 1 := by rw [← hH1, Array.size_push, hz]
  have e1 : H1[gZ E + z.2.1]? = some (arrV cA n (fun _ => .null)) := by rw [← hH1, ← hz, Array.getElem?_push_size, ← arrV_new]
  have o1 : ∀ q, q < gZ E + z.2.1 → H1[q]? = H[q]? := fun q hq => by rw [← hH1, Array.getElem?_push, if_neg (by omega)]
  have h2 := k hx hb H1 locs ls hl (rep_push hP hz o1 (by
    rw [hk]
    obtain ⟨kA', comp', g1, g2, g3, g4⟩ := (hK.2 2 (gR E, .object "SlipCovers$Code") rfl).2
    have hg : cA = gR E := Option.some.inj (f1.symm.trans g4)
    subst hg
    show H1[gZ E + z.2.1]? = some (vp_cell (gR E) (n, .inr (.inr (.inr (.inr (fun j => ro_ E (z.1 z.2.1 j)))))))
    rw [e1, vp_cell_q]
    congr 2
    funext j
    rw [(F z.2.1 (Nat.le_refl _) j).1]
    rfl)) (vaS_push hS hz z1 o1) (by rw [z1]; show _ = gZ E + (z.2.1 + 1); omega)
  rw [hz]
  exact h2
theorem nn_obj (B : Bd x E D nL own) {idx k : Nat} (hl : LK own idx Lib.objectInit) (h1 : Cond.instanceMethod Lib.objectInit ∈ tblG) (h2 : Cond.code Lib.objectInit ⟨#[0xb1]⟩ 1 none ∈ tblG) (hD : Nat.ble 1 D = true) (hW : Nat.ble (cats st) 8 = true) (d : decode cc pc = .ok (.invokespecial idx, 3)) (kk : JN cc x E z μ (pc + 3) lv st Q) : JN cc x E z μ pc lv (rv E k :: st) Q := fun hx hb H locs ls hls hP hS hz => by
  obtain ⟨hown, hts, hK, hN, hT, hml, hf, hloc, -⟩ := B
  have hw := Nat.le_of_ble_eq_true hW
  have hd := Nat.le_of_ble_eq_true hD
  exact W.objInit hx hb hown (hts _ hl) (hts _ h1) (hts _ h2) rfl hls.2.1 rfl d (Nat.le_trans hd hf) (by show 2 * 0 + cats st + 12 ≤ _; omega) (kk hx hb H locs ls hls hP hS hz)
theorem sizeS {H H1 : Heap} {ws : va_W} {a : Nat} (h1 : H.size ≤ H1.size) : True := trivial
end NR

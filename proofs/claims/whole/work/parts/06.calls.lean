/-! ===== contracts, calls, ends ===== -/
def wok (E : Gx) (z : Zs) (μ : Mem) (U : State) : Prop := rep E z μ U.heap ∧ va_K (gD E) vwCl (gT E) U ∧ (∀ w ∈ tblN, va_Nw w U) ∧ strs E U U.heap ∧ gZ E ≤ U.heap.size
def QI (E : Gx) (z : Zs) (P : Int → Mem → Prop) : Array Value → State → Outcome → State → Prop := va_Qi (fun (r : Int32) (u : Int × Mem) => r = Int32.ofInt u.1 ∧ inR u.1 ∧ okM u.2 ∧ P u.1 u.2) (fun u t => rep E z u.2 t.heap) (gA E)
def QL (E : Gx) (z : Zs) (P : Int64 → Mem → Prop) : Array Value → State → Outcome → State → Prop := va_Ql (fun (r : Int64) (u : Mem) => okM u ∧ P r u) (fun u t => rep E z u t.heap) (gA E)
def QV (E : Gx) (z : Zs) (P : Mem → Prop) : Array Value → State → Outcome → State → Prop := va_Qv (fun (u : Mem) => okM u ∧ P u) (fun u t => rep E z u t.heap) (gA E)
/-- a method's contract over the whole world: D frames deep, mc cells of ms slots are made -/
def MT (l : Launch) (y : MethodName) (cc : ByteArray) (nL : Nat) (ret : Option FieldType) (E : Gx) (D mc ms : Nat) (z : Zs) (av : List Value) (μ : Mem) (Qc : Array Value → State → Outcome → State → Prop) : Prop :=
  Met l y (Cond.code y cc nL ret :: tblG) (rmD D mc ms) (va_Pc av (wok E z μ)) Qc mc ms (gA E)
theorem wok_blind {E : Gx} {z : Zs} {μ : Mem} {av : List Value} : FrameBlind (va_Pc av (wok E z μ)) := fun a U g mk q => by
  obtain ⟨q0, qP, qK, qN, qS, qZ⟩ := q
  exact ⟨q0, qP, va_K.moved (u := U) (U := U.calling g mk a) (Vm.Alike.refl U.vm) qK, fun w h => (by
    have h1 := qN w h
    have h2 : isNw w = true := (List.mem_filter.mp h).2
    exact va_Nw.same (u := U) (U := U.calling g mk a) (by cases w <;> first | rfl | (cases h2)) rfl h1), ⟨⟨vk_S.moved (u := U) (U := U.calling g mk a) (Vm.Alike.refl U.vm) qS.1.1, exs.moved (u := U) (U := U.calling g mk a) (Vm.Alike.refl U.vm) qS.1.2⟩, fun q h => vk_R.same (u := U) (U := U.calling g mk a) rfl (qS.2 q h)⟩, qZ⟩
theorem wok_of {x : Cx} {E : Gx} {z : Zs} {μ : Mem} {D nL : Nat} {own : String} (B : Bd x E D nL own) {H : Heap} {locs : List Loc} (hP : rep E z μ H) (hS : va_S (gA E) (xs x).heap H locs) {U : State} (hU : U.heap = H) (hW : (xs x).WarmedH U.vm) : wok E z μ U := by
  obtain ⟨-, -, hK, hN, hT, -, -, -, hZ, -⟩ := B
  refine ⟨by rw [hU]; exact hP, va_K.moved hW.alike hK, fun w h => nw_warm (List.mem_filter.mp h).2 hW (hN w h), ?_, by rw [hU]; exact Nat.le_trans hZ hS.1⟩
  rw [hU]
  exact ⟨⟨vk_S.moved hW.alike (vk_S.kept hT.1.1 hS.2.1), exs.moved hW.alike (exs.kept hT.1.2 hS.2.1)⟩, fun q h => vk_R.warm hW (hT.2 q h)⟩
def lvA : List Value → List (Option Value)
  | [] => []
  | v :: vs => if v.category = 2 then some v :: none :: lvA vs else some v :: lvA vs
def lvE (av : List Value) (n : Nat) : List (Option Value) := lvA av ++ List.replicate (n - (lvA av).length) none
theorem lvA_len : ∀ av : List Value, (lvA av).length = (lg_sl av).length
  | [] => rfl
  | v :: vs => by
    have ih := lvA_len vs
    simp only [lvA, lg_sl, List.flatMap_cons, List.length_append]
    simp only [lg_sl] at ih
    split <;> simp [ih] <;> omega
theorem lvA_mem : ∀ (av : List Value) (i j : Nat) (v : Value), (lvA av)[j]? = some (some v) → (i + j, v) ∈ lv_args i av
  | [], i, j, v, h => by simp [lvA] at h
  | w :: vs, i, j, v, h => by
    simp only [lvA] at h
    simp only [lv_args]
    split at h
    · rename_i hc
      rw [if_pos hc]
      match j, h with
      | 0, h =>
        simp at h
        subst h
        exact List.mem_cons_self
      | 1, h => simp at h
      | j + 2, h =>
        have h1 := lvA_mem vs (i + 2) j v (by simpa using h)
        rw [show i + 2 + j = i + (j + 2) by omega] at h1
        exact List.mem_cons_of_mem _ h1
    · rename_i hc
      rw [if_neg hc]
      match j, h with
      | 0, h =>
        simp at h
        subst h
        exact List.mem_cons_self
      | j + 1, h =>
        have h1 := lvA_mem vs (i + 1) j v (by simpa using h)
        rw [show i + 1 + j = i + (j + 1) by omega] at h1
        exact List.mem_cons_of_mem _ h1
theorem lvE_ok {ls : Array Slot} {av : List Value} {n : Nat} (hn : (lvA av).length ≤ n) (h : lv_has ls n (lv_args 0 av)) : lh ls n (lvE av n) := by
  refine lh_of (by simp only [lvE, List.length_append, List.length_replicate]; omega) h (fun j v hj => ?_)
  unfold lvE at hj
  rcases Nat.lt_or_ge j (lvA av).length with q | q
  · rw [List.getElem?_append_left q] at hj
    have := lvA_mem av 0 j v hj
    rwa [Nat.zero_add] at this
  · rw [List.getElem?_append_right q, List.getElem?_replicate] at hj
    split at hj <;> cases hj
theorem m_start {l : Launch} {y : MethodName} {cc : ByteArray} {nL : Nat} {ret : Option FieldType} {E : Gx} {D mc ms : Nat} {z : Zs} {av : List Value} {μ : Mem} {Qc : Array Value → State → Outcome → State → Prop} (lv : List (Option Value)) (hy : plainName y.cls = true) (hz : z.2.2 = (0, 0)) (hlv : lvE av nL = lv) (hn : Nat.ble (lvA av).length nL = true)
    (h : ∀ x : Cx, xl x = l → (xR x).cells = mc → (xR x).slots = ms → Bd x E D nL y.cls → (xt x).sig.returnType = ret → (xt x).name = y.name → J cc x E z μ 0 lv [] (MQ (xb x) Qc (xa x) (xs x) mc ms (gA E))) : MT l y cc nL ret E D mc ms z av μ Qc := by
  refine Met.ofW (cc := cc) (maxL := nL) (ret := ret) hy rfl ?_
  intro p e s m args below meth c s₁ B hml hv
  obtain ⟨rfl, hP, hK, hN, hT, hZ⟩ := hv
  have hts := atoms_spec (ws := Cond.code y cc nL ret :: tblG) B.pre
  have hown : s.vm.findClass y.cls = some m.cls := findClass_of_methodNamed B.named
  have hS : va_S (gA E) s.heap s.heap [] := va_S.rf
  have hn' : (lvA av).length ≤ nL := Nat.le_of_ble_eq_true hn
  have hl := lv_entry av (n := nL) (by rw [← lvA_len]; exact hn')
  rw [lg_entry_eq]
  generalize (lg_sl av ++ List.replicate (nL - (lg_sl av).length) Slot.unset).toArray = ls at hl ⊢
  have h2 := h (p, l, e, (headSpec (Cond.code y cc nL ret :: tblG) (rmD D mc ms)).room, s, m, av.toArray, below, meth, c) rfl rfl rfl ⟨hown, fun w hw => hts w (List.mem_cons_of_mem _ hw), hK, hN, hT, hml, Nat.le_refl _, Nat.le_refl _, hZ, B.notSynchronized⟩ B.returns (name_of_methodNamed B.named B.method).1 B.exec B.bytes s.heap [] ls (by
    show lh ls c.maxLocals lv
    rw [hml, ← hlv]
    exact lvE_ok hn' hl) hP hS
  rw [hz] at h2
  exact h2
/-! ends -/
section EN
variable {cc : ByteArray} {x : Cx} {E : Gx} {z : Zs} {μ : Mem} {pc : Nat} {lv : List (Option Value)} {st : List Value} {Q : State → Prop} {D nL : Nat} {own : String}
theorem r_iret {P : Int → Mem → Prop} {a : Int} (B : Bd x E D nL own) (hr : (xt x).sig.returnType = some .int) (ra : inR a) (hμ : okM μ) (d : decode cc pc = .ok (.ireturn, 1)) (h : P a μ) : J cc x E z μ pc lv [iv a] (MQ (xb x) (QI E z P) (xa x) (xs x) z.2.2.1 z.2.2.2 (gA E)) := fun hx hb H locs ls hl hP hS =>
  W.iret (v := Int32.ofInt a) hx hb hr (fun t ht hW => ⟨⟨_, (a, μ), rfl, ⟨rfl, ra, hμ, h⟩, (show rep E z μ t.heap by rw [ht]; exact hP)⟩, hS.F ht⟩) hS.2.2 d B.2.2.2.2.2.2.2.2.2
theorem r_zret {P : Int → Mem → Prop} {a : Int} (B : Bd x E D nL own) (hr : (xt x).sig.returnType = some .boolean) (ha : a = 0 ∨ a = 1) (hμ : okM μ) (d : decode cc pc = .ok (.ireturn, 1)) (h : P a μ) : J cc x E z μ pc lv [iv a] (MQ (xb x) (QI E z P) (xa x) (xs x) z.2.2.1 z.2.2.2 (gA E)) := fun hx hb H locs ls hl hP hS =>
  W.zret (v := Int32.ofInt a) hx hb hr (nz_ ha).1 (fun t ht hW => ⟨⟨_, (a, μ), rfl, ⟨rfl, by rcases ha with rfl | rfl <;> exact inR_k rfl, hμ, h⟩, (show rep E z μ t.heap by rw [ht]; exact hP)⟩, hS.F ht⟩) hS.2.2 d B.2.2.2.2.2.2.2.2.2
theorem r_lret {P : Int64 → Mem → Prop} {a : Int64} (B : Bd x E D nL own) (hr : (xt x).sig.returnType = some .long) (hμ : okM μ) (d : decode cc pc = .ok (.lreturn, 1)) (h : P a μ) : J cc x E z μ pc lv [.long a] (MQ (xb x) (QL E z P) (xa x) (xs x) z.2.2.1 z.2.2.2 (gA E)) := fun hx hb H locs ls hl hP hS =>
  W.lret (v := a) hx hb hr (fun t ht hW => ⟨⟨_, μ, rfl, ⟨hμ, h⟩, (show rep E z μ t.heap by rw [ht]; exact hP)⟩, hS.F ht⟩) hS.2.2 d B.2.2.2.2.2.2.2.2.2
theorem r_vret {P : Mem → Prop} (B : Bd x E D nL own) (hr : (xt x).sig.returnType = none) (hμ : okM μ) (d : decode cc pc = .ok (.return_, 1)) (h : P μ) : J cc x E z μ pc lv [] (MQ (xb x) (QV E z P) (xa x) (xs x) z.2.2.1 z.2.2.2 (gA E)) := fun hx hb H locs ls hl hP hS =>
  W.vret hx hb hr (fun t ht hW => ⟨⟨μ, rfl, ⟨hμ, h⟩, (show rep E z μ t.heap by rw [ht]; exact hP)⟩, hS.F ht⟩) hS.2.2 d B.2.2.2.2.2.2.2.2.2
/-! calls -/
/-- what a call's site names -/
def CB_ (y : MethodName) (bytes : ByteArray) (maxL : Nat) (ret : Option FieldType) (n : Nat) : Prop := (y.cls ≠ "java/lang/invoke/MethodHandle" ∧ y.cls ≠ "java/lang/invoke/VarHandle" ∧ (parseMethodDescriptor y.desc).map (fun d => d.parameters.length) = some n) ∧ Nat.ble maxL 21 = true ∧ Cond.code y bytes maxL ret ∈ tblG ∧ Cond.initialized y.cls ∈ tblG
def CV_ (ci : Nat) (y : MethodName) : Prop := (∃ (T : u_T) (N : Nat), vwCl[ci]? = some (y.cls, T, N)) ∧ Cond.instanceMethod y ∈ tblG ∧ Cond.selects y.cls y y ∈ tblG
def LK (own : String) (idx : Nat) (y : MethodName) : Prop := Cond.methodLink own idx y ∈ tblG
def LN (own : String) (idx : Nat) (y : MethodName) : Prop := ∃ host, Cond.methodLinkNest own idx y host ∈ tblN
theorem gd_ {L : List Cond} (h : ∀ w ∈ L, w ∈ tblG) : GoodIn tblG L := fun w hw => ⟨h w hw, good_of_word (List.mem_filter.mp (h w hw)).2⟩
variable {y : MethodName} {bytes : ByteArray} {maxL n idx ci k Dc mc ms : Nat} {ret : Option FieldType} {As : List Value} {Qc : Array Value → State → Outcome → State → Prop}
theorem c_B (B : Bd x E D nL own) (c : CB_ y bytes maxL ret n) (hl : LK own idx y) (hD : Nat.ble (Dc + 1) D = true) : CallB (xR x) (xs x) (xa x) own idx y bytes maxL ret (Cond.code y bytes maxL ret :: tblG) (rmD Dc mc ms) mc ms n := by
  obtain ⟨hown, hts, hK, hN, hT, hml, hf, hloc, -⟩ := B
  obtain ⟨hd, hm, hc, hi⟩ := c
  have h1 := Nat.le_of_ble_eq_true hD
  have h2 := Nat.le_of_ble_eq_true hm
  exact callB_of n hts (gd_ (fun w hw => (List.mem_cons.mp hw).elim (fun e => by rw [e]; exact hc) id)) rfl rfl rfl (hts _ hi) (hts _ hl) hd ⟨Nat.le_trans h1 hf, by show 8 + (maxL + 11) + 40 * Dc ≤ _; omega⟩
theorem c_N {host : String} (B : Bd x E D nL own) (c : CB_ y bytes maxL ret n) (hl : Cond.methodLinkNest own idx y host ∈ tblN) (hD : Nat.ble (Dc + 1) D = true) : va_CN (xR x) (xs x) (xa x) own idx y host bytes maxL ret (Cond.code y bytes maxL ret :: tblG) (rmD Dc mc ms) mc ms n := by
  obtain ⟨hown, hts, hK, hN, hT, hml, hf, hloc, -⟩ := B
  obtain ⟨hd, hm, hc, hi⟩ := c
  have h1 := Nat.le_of_ble_eq_true hD
  have h2 := Nat.le_of_ble_eq_true hm
  exact va_cnB n hts (gd_ (fun w hw => (List.mem_cons.mp hw).elim (fun e => by rw [e]; exact hc) id)) rfl rfl rfl (hN _ hl) (hts _ hi) hd ⟨Nat.le_trans h1 hf, by show 8 + (maxL + 11) + 40 * Dc ≤ _; omega⟩
/-- a call, by any of the three instructions, at heap H -/
def RN (x : Cx) (E : Gx) (z : Zs) (μ : Mem) (pc : Nat) (lv : List (Option Value)) (stk st : List Value) (mc ms : Nat) (As : List Value) (Qc : Array Value → State → Outcome → State → Prop) : Prop :=
  ∀ (H : Heap) (locs : List Loc) (ls : Array Slot), lh ls (xc x).maxLocals lv → rep E z μ H → va_S (gA E) (xs x).heap H locs → va_Run (xp x) (xl x) (xe x) (xR x) (xs x) (xm x) (xa x) (xb x) (xt x) (xc x) H locs z.2.2.1 z.2.2.2 mc ms (F0 (xm x) pc ls stk) st (Qc As.toArray) (gA E)
abbrev cats (st : List Value) : Nat := (st.map fun v => v.category).sum
theorem n_V (hx : (xp x).tables.exec = Jvm.exec) (hb : (xc x).code = cc) (B : Bd x E D nL own) (c : CB_ y bytes maxL ret n) (hl : LK own idx y) (cv : CV_ ci y) (hD : Nat.ble (Dc + 1) D = true) (hk : kd k = (4, ci)) (hn : k < z.2.1) (hf : z.2.2.1 + mc ≤ (xR x).cells ∧ z.2.2.2 + ms ≤ (xR x).slots) (M : MT (xl x) y bytes maxL ret E Dc mc ms z (rv E k :: As) μ Qc) (hlen : As.length = n) (hW : Nat.ble (cats st) 8 = true) (d : decode cc pc = .ok (.invokevirtual idx, 3)) : RN x E z μ pc lv (As.reverse ++ rv E k :: st) st mc ms (rv E k :: As) Qc := fun H locs ls hls hP hS => by
  obtain ⟨⟨T, N, hci⟩, hin, hse⟩ := cv
  have hB := B
  obtain ⟨hown, hts, hK, hN, hT, hml, -⟩ := B
  exact va_runV (C := y.cls) (b := gZ E + k) (As := As) (rest := st) ⟨hx, hb, rfl, hown, hts⟩ M ⟨c_B hB c hl hD, hts _ hin, hts _ hse⟩ ⟨wok_blind, va_recv hK hP hci (q0 := k) (by rw [wl_at hn hk]; rfl), fun U hU hW => ⟨rfl, wok_of hB hP hS hU hW⟩⟩ rfl hlen hls.2.1 rfl (lv_room (Nat.le_of_ble_eq_true hW)) d hf
theorem n_VN (hx : (xp x).tables.exec = Jvm.exec) (hb : (xc x).code = cc) (B : Bd x E D nL own) (c : CB_ y bytes maxL ret n) (hl : LN own idx y) (cv : CV_ ci y) (hD : Nat.ble (Dc + 1) D = true) (hk : kd k = (4, ci)) (hn : k < z.2.1) (hf : z.2.2.1 + mc ≤ (xR x).cells ∧ z.2.2.2 + ms ≤ (xR x).slots) (M : MT (xl x) y bytes maxL ret E Dc mc ms z (rv E k :: As) μ Qc) (hlen : As.length = n) (hW : Nat.ble (cats st) 8 = true) (d : decode cc pc = .ok (.invokevirtual idx, 3)) : RN x E z μ pc lv (As.reverse ++ rv E k :: st) st mc ms (rv E k :: As) Qc := fun H locs ls hls hP hS => by
  obtain ⟨⟨T, N, hci⟩, hin, hse⟩ := cv
  obtain ⟨host, hl⟩ := hl
  have hB := B
  obtain ⟨hown, hts, hK, hN, hT, hml, -⟩ := B
  exact va_runVN (C := y.cls) (b := gZ E + k) (As := As) (rest := st) ⟨hx, hb, rfl, hown, hts⟩ M ⟨c_N hB c hl hD, hts _ hin, hts _ hse⟩ ⟨wok_blind, va_recv hK hP hci (q0 := k) (by rw [wl_at hn hk]; rfl), fun U hU hW => ⟨rfl, wok_of hB hP hS hU hW⟩⟩ rfl hlen hls.2.1 rfl (lv_room (Nat.le_of_ble_eq_true hW)) d hf
theorem n_S (hx : (xp x).tables.exec = Jvm.exec) (hb : (xc x).code = cc) (B : Bd x E D nL own) (c : CB_ y bytes maxL ret n) (hl : LK own idx y) (cs : Cond.static y ∈ tblG) (hD : Nat.ble (Dc + 1) D = true) (hf : z.2.2.1 + mc ≤ (xR x).cells ∧ z.2.2.2 + ms ≤ (xR x).slots) (M : MT (xl x) y bytes maxL ret E Dc mc ms z As μ Qc) (hlen : As.length = n) (hW : Nat.ble (cats st) 8 = true) (d : decode cc pc = .ok (.invokestatic idx, 3)) : RN x E z μ pc lv (As.reverse ++ st) st mc ms As Qc := fun H locs ls hls hP hS => by
  have hB := B
  obtain ⟨hown, hts, hK, hN, hT, hml, -⟩ := B
  exact va_runS (As := As) (rest := st) ⟨hx, hb, rfl, hown, hts⟩ M ⟨c_B hB c hl hD, hts _ cs⟩ ⟨wok_blind, fun U hU hW => ⟨rfl, wok_of hB hP hS hU hW⟩⟩ rfl hlen hls.2.1 rfl (lv_room (Nat.le_of_ble_eq_true hW)) d hf
theorem n_SN (hx : (xp x).tables.exec = Jvm.exec) (hb : (xc x).code = cc) (B : Bd x E D nL own) (c : CB_ y bytes maxL ret n) (hl : LN own idx y) (cs : Cond.static y ∈ tblG) (hD : Nat.ble (Dc + 1) D = true) (hf : z.2.2.1 + mc ≤ (xR x).cells ∧ z.2.2.2 + ms ≤ (xR x).slots) (M : MT (xl x) y bytes maxL ret E Dc mc ms z As μ Qc) (hlen : As.length = n) (hW : Nat.ble (cats st) 8 = true) (d : decode cc pc = .ok (.invokestatic idx, 3)) : RN x E z μ pc lv (As.reverse ++ st) st mc ms As Qc := fun H locs ls hls hP hS => by
  obtain ⟨host, hl⟩ := hl
  have hB := B
  obtain ⟨hown, hts, hK, hN, hT, hml, -⟩ := B
  exact va_runSN (As := As) (rest := st) ⟨hx, hb, rfl, hown, hts⟩ M ⟨c_N hB c hl hD, hts _ cs, trivial⟩ ⟨wok_blind, fun U hU hW => ⟨rfl, wok_of hB hP hS hU hW⟩⟩ rfl hlen hls.2.1 rfl (lv_room (Nat.le_of_ble_eq_true hW)) d hf
theorem n_I (hx : (xp x).tables.exec = Jvm.exec) (hb : (xc x).code = cc) (B : Bd x E D nL own) (c : CB_ y bytes maxL none n) (hl : LK own idx y) (ci_ : Cond.instanceMethod y ∈ tblG) (hi : y.name = "<init>") (hD : Nat.ble (Dc + 1) D = true) (hf : z.2.2.1 + mc ≤ (xR x).cells ∧ z.2.2.2 + ms ≤ (xR x).slots) (M : MT (xl x) y bytes maxL none E Dc mc ms z (rv E k :: As) μ Qc) (hlen : As.length = n) (hW : Nat.ble (cats st) 8 = true) (d : decode cc pc = .ok (.invokespecial idx, 3)) : RN x E z μ pc lv (As.reverse ++ rv E k :: st) st mc ms (rv E k :: As) Qc := fun H locs ls hls hP hS => by
  have hB := B
  obtain ⟨hown, hts, hK, hN, hT, hml, -⟩ := B
  exact va_runI (b := gZ E + k) (As := As) (rest := st) ⟨hx, hb, rfl, hown, hts⟩ M ⟨c_B hB c hl hD, hi, hts _ ci_⟩ ⟨wok_blind, fun U hU hW => ⟨rfl, wok_of hB hP hS hU hW⟩⟩ rfl hlen hls.2.1 rfl (lv_room (Nat.le_of_ble_eq_true hW)) d hf
theorem n_IN (hx : (xp x).tables.exec = Jvm.exec) (hb : (xc x).code = cc) (B : Bd x E D nL own) (c : CB_ y bytes maxL none n) (hl : LN own idx y) (ci_ : Cond.instanceMethod y ∈ tblG) (hi : y.name = "<init>") (hD : Nat.ble (Dc + 1) D = true) (hf : z.2.2.1 + mc ≤ (xR x).cells ∧ z.2.2.2 + ms ≤ (xR x).slots) (M : MT (xl x) y bytes maxL none E Dc mc ms z (rv E k :: As) μ Qc) (hlen : As.length = n) (hW : Nat.ble (cats st) 8 = true) (d : decode cc pc = .ok (.invokespecial idx, 3)) : RN x E z μ pc lv (As.reverse ++ rv E k :: st) st mc ms (rv E k :: As) Qc := fun H locs ls hls hP hS => by
  obtain ⟨host, hl⟩ := hl
  have hB := B
  obtain ⟨hown, hts, hK, hN, hT, hml, -⟩ := B
  exact va_runIN (b := gZ E + k) (As := As) (rest := st) ⟨hx, hb, rfl, hown, hts⟩ M ⟨c_N hB c hl hD, hi, hts _ ci_⟩ ⟨wok_blind, fun U hU hW => ⟨rfl, wok_of hB hP hS hU hW⟩⟩ rfl hlen hls.2.1 rfl (lv_room (Nat.le_of_ble_eq_true hW)) d hf
theorem k_I {P : Int → Mem → Prop} {stk : List Value} {z2 : Zs} (hz : z2.2.2 = (z.2.2.1 + mc, z.2.2.2 + ms)) (r : (xp x).tables.exec = Jvm.exec → (xc x).code = cc → RN x E z μ pc lv stk st mc ms As (QI E z2 P)) (kk : ∀ (a : Int) (μ2 : Mem), inR a → okM μ2 → P a μ2 → J cc x E z2 μ2 (pc + 3) lv (iv a :: st) Q) : J cc x E z μ pc lv stk Q := fun hx hb H locs ls hl hP hS => by
  refine va_calli (r hx hb H locs ls hl hP hS) hS (fun q _ h => h) (fun q h => h) (fun r u t H1 locs1 ht hvm hw hB hz1 hk1 hS1 => ?_)
  obtain ⟨rfl, ra, hμ, hp⟩ := hw
  have h2 := kk u.1 u.2 ra hμ hp hx hb H1 locs1 ls hl (by rw [← ht]; exact hB) hS1
  rw [hz] at h2
  exact h2
theorem k_L {P : Int64 → Mem → Prop} {stk : List Value} {z2 : Zs} (hz : z2.2.2 = (z.2.2.1 + mc, z.2.2.2 + ms)) (r : (xp x).tables.exec = Jvm.exec → (xc x).code = cc → RN x E z μ pc lv stk st mc ms As (QL E z2 P)) (kk : ∀ (a : Int64) (μ2 : Mem), okM μ2 → P a μ2 → J cc x E z2 μ2 (pc + 3) lv (.long a :: st) Q) : J cc x E z μ pc lv stk Q := fun hx hb H locs ls hl hP hS => by
  refine va_calll (r hx hb H locs ls hl hP hS) hS (fun q _ h => h) (fun q h => h) (fun r u t H1 locs1 ht hvm hw hB hz1 hk1 hS1 => ?_)
  obtain ⟨hμ, hp⟩ := hw
  have h2 := kk r u hμ hp hx hb H1 locs1 ls hl (by rw [← ht]; exact hB) hS1
  rw [hz] at h2
  exact h2
theorem k_V {P : Mem → Prop} {stk : List Value} {z2 : Zs} (hz : z2.2.2 = (z.2.2.1 + mc, z.2.2.2 + ms)) (r : (xp x).tables.exec = Jvm.exec → (xc x).code = cc → RN x E z μ pc lv stk st mc ms As (QV E z2 P)) (kk : ∀ (μ2 : Mem), okM μ2 → P μ2 → J cc x E z2 μ2 (pc + 3) lv st Q) : J cc x E z μ pc lv stk Q := fun hx hb H locs ls hl hP hS => by
  refine va_callv (r hx hb H locs ls hl hP hS) hS (fun q _ h => h) (fun q h => h) (fun u t H1 locs1 ht hvm hw hB hz1 hk1 hS1 => ?_)
  obtain ⟨hμ, hp⟩ := hw
  have h2 := kk u hμ hp hx hb H1 locs1 ls hl (by rw [← ht]; exact hB) hS1
  rw [hz] at h2
  exact h2
end EN

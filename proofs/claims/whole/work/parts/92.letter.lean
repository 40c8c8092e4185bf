/-! ===== letter: it may throw, the law catches ===== -/
theorem lk_X7_308 : LK "SlipCovers" 308 yX5_letterOf := tG 1084 (by decide +kernel) rfl
theorem cb_X5_letterOf : CB_ yX5_letterOf cX5_letterOf 3 (some .int) 2 := ⟨by decide +kernel, rfl, tG 1087 (by decide +kernel) rfl, tG 83 (by decide +kernel) rfl⟩
theorem cv_X5_letterOf : CV_ 5 yX5_letterOf := ⟨⟨_, _, rfl⟩, tG 1085 (by decide +kernel) rfl, tG 1086 (by decide +kernel) rfl⟩
theorem cb_X7_letter : CB_ yX7_letter cX7_letter 4 (some .int) 2 := ⟨by decide +kernel, rfl, tG 1083 (by decide +kernel) rfl, tG 82 (by decide +kernel) rfl⟩
theorem cv_X7_letter : CV_ 7 yX7_letter := ⟨⟨_, _, rfl⟩, tG 1081 (by decide +kernel) rfl, tG 1082 (by decide +kernel) rfl⟩
theorem lk_L_7 : LK "SlipCoversLaw" 7 yX7_letter := tG 1080 (by decide +kernel) rfl
theorem lk_L_186 : LK "SlipCoversLaw" 186 yL_letter := tG 1076 (by decide +kernel) rfl
theorem cs_L_letter : Cond.static yL_letter ∈ tblG := tG 1077 (by decide +kernel) rfl
def lhh : List (Nat × Nat × Nat × Nat) := [(0, 10, 13, 13)]
theorem cw_L_letter : Cond.codeWith yL_letter cL_letter 5 (some .int) lhh ∈ tblG := tG 1078 (by decide +kernel) rfl
theorem ci_L : Cond.initialized "SlipCoversLaw" ∈ tblG := tG 81 (by decide +kernel) rfl
theorem cl_L_13 : Cond.classLink "SlipCoversLaw" 13 nse ∈ tblG := tG 1079 (by decide +kernel) rfl
theorem m_startX {l : Launch} {y : MethodName} {cc : ByteArray} {nL : Nat} {ret : Option FieldType} {E : Gx} {D mc ms : Nat} {z : Zs} {av : List Value} {μ : Mem} {Qc : Array Value → State → Outcome → State → Prop} {XC : String → State → State → Prop} (lv : List (Option Value)) (hy : plainName y.cls = true) (hz : z.2.2 = (0, 0)) (hlv : lvE av nL = lv) (hn : Nat.ble (lvA av).length nL = true)
    (h : ∀ x : Cx, xl x = l → (xR x).cells = mc → (xR x).slots = ms → Bd x E D nL y.cls → (xt x).sig.returnType = ret → (∀ q ∈ (xc x).exceptionTable.toList, False) → J cc x E z μ 0 lv [] (vx_MQ (xb x) Qc XC (xa x) (xs x) mc ms (gA E))) : vx_Met l y (Cond.code y cc nL ret :: tblG) (rmD D mc ms) (va_Pc av (wok E z μ)) Qc XC mc ms (gA E) := by
  refine vx_ofW (cc := cc) (maxL := nL) (ret := ret) hy rfl ?_
  intro p e s m args below meth c s₁ B hml htab hv
  obtain ⟨rfl, hP, hK, hN, hT, hZ⟩ := hv
  have hts := atoms_spec (ws := Cond.code y cc nL ret :: tblG) B.pre
  have hown : s.vm.findClass y.cls = some m.cls := findClass_of_methodNamed B.named
  have hS : va_S (gA E) s.heap s.heap [] := va_S.rf
  have hn' : (lvA av).length ≤ nL := Nat.le_of_ble_eq_true hn
  have hl := lv_entry av (n := nL) (by rw [← lvA_len]; exact hn')
  rw [lg_entry_eq]
  generalize (lg_sl av ++ List.replicate (nL - (lg_sl av).length) Slot.unset).toArray = ls at hl ⊢
  have h2 := h (p, l, e, (headSpec (Cond.code y cc nL ret :: tblG) (rmD D mc ms)).room, s, m, av.toArray, below, meth, c) rfl rfl rfl ⟨hown, fun w hw => hts w (List.mem_cons_of_mem _ hw), hK, hN, hT, hml, Nat.le_refl _, Nat.le_refl _, hZ, B.notSynchronized⟩ B.returns htab B.exec B.bytes s.heap [] ls (by
    show lh ls c.maxLocals lv
    rw [hml, ← hlv]
    exact lvE_ok hn' hl) hP hS
  rw [hz] at h2
  exact h2
theorem m_startW {l : Launch} {y : MethodName} {cc : ByteArray} {nL : Nat} {ret : Option FieldType} {hh : List (Nat × Nat × Nat × Nat)} {E : Gx} {D mc ms : Nat} {z : Zs} {av : List Value} {μ : Mem} {Qc : Array Value → State → Outcome → State → Prop} (lv : List (Option Value)) (hy : plainName y.cls = true) (hz : z.2.2 = (0, 0)) (hlv : lvE av nL = lv) (hn : Nat.ble (lvA av).length nL = true)
    (h : ∀ x : Cx, xl x = l → (xR x).cells = mc → (xR x).slots = ms → Bd x E D nL y.cls → (xt x).sig.returnType = ret → (xc x).exceptionTable.toList = tableOf hh → J cc x E z μ 0 lv [] (MQ (xb x) Qc (xa x) (xs x) mc ms (gA E))) : Met l y (Cond.codeWith y cc nL ret hh :: tblG) (rmD D mc ms) (va_Pc av (wok E z μ)) Qc mc ms (gA E) := by
  refine va_MetW (cc := cc) (maxL := nL) (ret := ret) (hh := hh) hy rfl ?_
  intro p e s m args below meth c s₁ B hml hv
  obtain ⟨rfl, hP, hK, hN, hT, hZ⟩ := hv
  have hts := atoms_spec (ws := Cond.codeWith y cc nL ret hh :: tblG) B.pre
  have hown : s.vm.findClass y.cls = some m.cls := findClass_of_methodNamed B.named
  have hS : va_S (gA E) s.heap s.heap [] := va_S.rf
  have htab : c.exceptionTable.toList = tableOf hh := vx_table (x := y) B (hts _ List.mem_cons_self)
  have hn' : (lvA av).length ≤ nL := Nat.le_of_ble_eq_true hn
  have hl := lv_entry av (n := nL) (by rw [← lvA_len]; exact hn')
  rw [lg_entry_eq]
  generalize (lg_sl av ++ List.replicate (nL - (lg_sl av).length) Slot.unset).toArray = ls at hl ⊢
  have h2 := h (p, l, e, (headSpec (Cond.codeWith y cc nL ret hh :: tblG) (rmD D mc ms)).room, s, m, av.toArray, below, meth, c) rfl rfl rfl ⟨hown, fun w hw => hts w (List.mem_cons_of_mem _ hw), hK, hN, hT, hml, Nat.le_refl _, Nat.le_refl _, hZ, B.notSynchronized⟩ B.returns htab B.exec B.bytes s.heap [] ls (by
    show lh ls c.maxLocals lv
    rw [hml, ← hlv]
    exact lvE_ok hn' hl) hP hS
  rw [hz] at h2
  exact h2
/-- thrown: there was no letter, the world is as before -/
def XL (E : Gx) (μ : Mem) (o : Option Int) : String → State → State → Prop := vx_X (fun (_ : Unit) => o = none) (fun (C : String) _ t => C = nse ∧ rep E z0 μ t.heap) (gA E)
theorem rep_kept {E : Gx} {z : Zs} {μ : Mem} {H H1 : Heap} (hP : rep E z μ H) (h : ∀ q : Nat, q < H.size → H1[q]? = H[q]?) : rep E z μ H1 := va_P.kept hP (fun k q hq => h q.1 (hP k q hq).lt)
theorem x_X7_letter (l : Launch) (hst : l.stackTraces = false) (E : Gx) {c k : Int} {μ : Mem} {o : Option Int} (hc : inR c) (hk : inR k) (hμ : okM μ) (ho : ∀ v, o = some v → 0 ≤ v) (h : ∀ Q : Int → Mem → Prop, (o = none → Q (-1) μ) → (∀ v, o = some v → Q v μ) → wp_X5_letterOf c k μ Q) : vx_Met l yX7_letter (Cond.code yX7_letter cX7_letter 4 (some .int) :: tblG) (rmD 6 1 6) (va_Pc [rv E 0, iv c, iv k] (wok E z0 μ)) (QI E z0 (fun r μ2 => o = some r ∧ μ2 = μ)) (XL E μ o) 1 6 (gA E) := by
  refine m_startX [some (rv E 0), some (iv c), some (iv k), none] (by decide) rfl rfl rfl (fun x hxl hxc hxs B hr htab => ?_)
  subst hxl
  refine r_al0 dX7_letter_0 ?_
  refine r_getR B 1 fg_X7_10 kd_0 (kl kd_0) (ρo (off := 1) kd_0 rfl) dX7_letter_1 ?_
  refine r_il1 dX7_letter_4 ?_
  refine r_il2 dX7_letter_5 ?_
  refine k_I (z := z0) (z2 := z0) (As := [rv E 1, iv c, iv k]) rfl (fun hx hb => n_V (z := z0) (As := [iv c, iv k]) hx hb B cb_X5_letterOf lk_X7_308 cv_X5_letterOf rfl kd_1 (kl kd_1) ⟨Nat.zero_le _, Nat.zero_le _⟩ (c_X5_letterOf (xl x) E hc hk hμ (h (fun r μ2 => (o = none ∧ r = -1 ∨ o = some r) ∧ μ2 = μ) (fun e => ⟨Or.inl ⟨e, rfl⟩, rfl⟩) (fun v e => ⟨Or.inr e, rfl⟩))) rfl rfl dX7_letter_6) (fun r μ2 hr2 hμ2 hp => ?_)
  obtain ⟨hp, rfl⟩ := hp
  refine r_is3 dX7_letter_9 rfl ?_
  refine r_il3 dX7_letter_10 ?_
  refine r_if_ge 22 dX7_letter_11 rfl hr2 (fun c9 => ?_) (fun c9 => ?_)
  · have e : o = some r := by
      rcases hp with ⟨-, e⟩ | e
      · omega
      · exact e
    refine r_il3 dX7_letter_22 ?_
    intro hx hb H locs ls hl hP hS
    refine vx_ret (W.widen (k := 1) (n := 6) (Nat.zero_le _) (Nat.zero_le _) ?_)
    exact r_iret (z := zc 1 6) (P := fun r μ3 => o = some r ∧ μ3 = μ2) B hr hr2 hμ dX7_letter_23 ⟨e, rfl⟩ hx hb H locs ls hl hP hS
  · have e : o = none := by
      rcases hp with ⟨e, -⟩ | e
      · exact e
      · exact absurd (ho r e) (by omega)
    intro hx hb H locs ls hl hP hS
    have hBB := B
    obtain ⟨hown, hts, hK, hN, hT, hml, hf, hloc, hZ, hlk⟩ := B
    refine vx_throw0 (own := "SlipCovers") (cls := nse) (names := nseN) (ik := 311) (ic := 313) (A := gA E) hx hb hst hown (by decide) (by decide) (hts _ (tG 1088 (by decide +kernel) rfl)) (hts _ (tG 103 (by decide +kernel) rfl)) (nse_w hBB) nse_ot hT.1.2.2.2.1 hT.1.2.2.2.2.1 hS hl.2.1 dX7_letter_14 dX7_letter_17 dX7_letter_18 dX7_letter_21 (fun q hq => absurd (htab q hq) id) ?_ ?_ ?_ ?_ hlk ?_ hS.2.2 (Nat.le_refl _) (Nat.le_refl _)
    · show 2 + 3 < _
      omega
    · show 0 + (13 * (2 + 1) + 42) ≤ _
      omega
    · rw [hxc]; exact Nat.le_refl _
    · rw [hxs]; exact Nat.le_refl _
    · intro t _ hz1 hq1
      refine ⟨(), e, ⟨rfl, rep_kept hP hq1⟩, Nat.le_trans hS.1 hz1, fun q h1 h2 => ?_⟩
      rw [hq1 q (Nat.lt_of_lt_of_le h1 hS.1)]
      exact hS.2.1 q h1 h2
theorem c_L_letter (l : Launch) (hst : l.stackTraces = false) (E : Gx) {c k : Int} {μ : Mem} {o : Option Int} (hc : inR c) (hk : inR k) (hμ : okM μ) (ho : ∀ v, o = some v → 0 ≤ v) (h : ∀ Q : Int → Mem → Prop, (o = none → Q (-1) μ) → (∀ v, o = some v → Q v μ) → wp_X5_letterOf c k μ Q) : Met l yL_letter (Cond.codeWith yL_letter cL_letter 5 (some .int) lhh :: tblG) (rmD 7 1 6) (va_Pc [rv E 0, iv c, iv k, rv E 125] (wok E z0 μ)) (QI E z0 (fun r μ2 => (o = none ∧ r = 1 ∧ μ2 = μ) ∨ ∃ v, o = some v ∧ r = 0 ∧ μ2 = sL μ 125 0 (i2l_ v))) 1 6 (gA E) := by
  refine m_startW [some (rv E 0), some (iv c), some (iv k), some (rv E 125), none] (by decide) rfl rfl rfl (fun x hxl hxc hxs B hr htab => ?_)
  subst hxl
  refine r_al3 dL_letter_0 ?_
  refine r_iconst dL_letter_1 ?_
  refine r_al0 dL_letter_2 ?_
  refine r_il1 dL_letter_3 ?_
  refine r_il2 dL_letter_4 ?_
  intro hx hb H locs ls hl hP hS
  have hBB := B
  obtain ⟨hown, hts, hK, hN, hT, hml, hf, hloc, hZ, hlk⟩ := B
  have cv := cv_X7_letter
  obtain ⟨⟨T, N, hci⟩, hin, hse⟩ := cv
  refine vx_calli (px := fun (_ : Unit) => o = none) (BX := fun (C : String) _ t => C = nse ∧ rep E z0 μ t.heap) (AX := gA E) (vx_runV (C := yX7_letter.cls) (b := gZ E + 0) (As := [iv c, iv k]) (rest := [iv 0, rv E 125]) ⟨hx, hb, rfl, hown, hts⟩ (x_X7_letter (xl x) hst E hc hk hμ ho h) ⟨c_B hBB cb_X7_letter lk_L_7 rfl, hts _ hin, hts _ hse⟩ ⟨wok_blind, va_recv hK hP hci (q0 := 0) (by rw [wl_at (kl kd_0) kd_0]; rfl), fun U hU hW => ⟨rfl, wok_of hBB hP hS hU hW⟩⟩ rfl rfl hl.2.1 rfl (lv_room (Nat.le_of_ble_eq_true (rfl : Nat.ble (cats [iv 0, rv E 125]) 8 = true))) dL_letter_5 ⟨by rw [hxc]; exact Nat.le_refl _, by rw [hxs]; exact Nat.le_refl _⟩) hS (fun q _ h => h) (fun q h => h) (fun q _ h => h) ?_ ?_
  · intro C ce q9 u t H1 locs1 ht hvm hp hBX hz1 hk1 hS1 hce hcv hcl
    obtain ⟨rfl, hR⟩ := hBX
    rw [ht] at hR
    refine vx_catch (own := "SlipCoversLaw") (name := nse) (E := nse) hown [] _ [] htab (fun z hz => absurd hz List.not_mem_nil) rfl (by decide) (hts _ cl_L_13) (hT.1.2.2.2.2.2 _ (tF 1090 (by decide +kernel) rfl) _) hce hcv hcl ?_
    refine lv_astore hx hb dL_letter_13 hl.2 (by have := hl.1; rw [hml]; decide) rfl (fun ls2 h2 => ?_)
    have hl2 : lh ls2 (xc x).maxLocals [some (rv E 0), some (iv c), some (iv k), some (rv E 125), some (.ref q9)] := lh_s1 hl (i := 4) (by simp) rfl rfl h2
    exact (r_iconst (z := zc 1 6) dL_letter_15 (r_iret (z := zc 1 6) (P := fun r μ2 => (o = none ∧ r = 1 ∧ μ2 = μ) ∨ ∃ v, o = some v ∧ r = 0 ∧ μ2 = sL μ 125 0 (i2l_ v)) hBB hr (inR_k rfl) hμ dL_letter_16 (Or.inl ⟨hp, rfl, rfl⟩))) hx hb H1 locs1 ls2 hl2 hR hS1
  · intro r u t H1 locs1 ht hvm hw hB1 hz1 hk1 hS1
    obtain ⟨rfl, ra, hμ1, e, e2⟩ := hw
    have hR : rep E z0 μ H1 := by rw [← ht, ← e2]; exact hB1
    have hv0 := ho _ e
    refine (r_i2l (z := zc 1 6) dL_letter_8 (r_last (z := zc 1 6) hBB kd_125 (by decide) (by decide) ⟨by decide, by decide⟩ dL_letter_9 (r_goto 17 dL_letter_10 rfl (r_iconst dL_letter_17 (r_iret (z := zc 1 6) (P := fun r μ2 => (o = none ∧ r = 1 ∧ μ2 = μ) ∨ ∃ v, o = some v ∧ r = 0 ∧ μ2 = sL μ 125 0 (i2l_ v)) hBB hr (inR_k rfl) (okM_sL hμ) dL_letter_18 (Or.inr ⟨u.1, e, rfl, rfl⟩)))))) hx hb H1 locs1 ls hl hR hS1

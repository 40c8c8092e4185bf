/-! ===== texts: length and charAt, out of the JDK's own bodies ===== -/
theorem aw_st (j a : Nat) : j < 3 → a < sLen.getD j 0 → (((Int32.ofInt (iand (schr j (a : Int)) 255)).toUInt32 % 65536).toInt32 = Int32.ofInt (schr j (a : Int)) ∧ narrow .char (.int (Int32.ofInt (schr j (a : Int)))) = .int (Int32.ofInt (schr j (a : Int)))) := by
  intro hj ha
  have h : ∀ j, j < 3 → ∀ a, a < sLen.getD j 0 → (((Int32.ofInt (iand (schr j (a : Int)) 255)).toUInt32 % 65536).toInt32 = Int32.ofInt (schr j (a : Int)) ∧ Int32.ofInt (schr j (a : Int)) &&& 255 = Int32.ofInt (schr j (a : Int))) := by decide +kernel
  obtain ⟨h1, h2⟩ := h j hj a ha
  refine ⟨h1, ?_⟩
  have h3 := sc_nar (Int32.ofInt (schr j (a : Int)))
  rw [h2] at h3
  exact h3
def bv (E : Gx) (j : Nat) : Value := .ref (gV E j)
/-- it hands v back, nothing moves -/
def QJ (E : Gx) (μ : Mem) (v : Int) : Array Value → State → Outcome → State → Prop := va_Qi (fun (r : Int32) (_ : Unit) => r = Int32.ofInt v) (fun _ t => rep E z0 μ t.heap) (gA E)
def QJV (E : Gx) (μ : Mem) : Array Value → State → Outcome → State → Prop := va_Qv (fun (_ : Unit) => True) (fun _ t => rep E z0 μ t.heap) (gA E)
theorem slen_shr : ∀ j, j < 3 → ishr (slen j) 0 = slen j := by decide +kernel
section ST
variable {cc : ByteArray} {x : Cx} {E : Gx} {z : Zs} {μ : Mem} {pc : Nat} {lv : List (Option Value)} {st : List Value} {Q : State → Prop} {D nL : Nat} {own : String}
theorem j_ret {a : Int} {ty : FieldType} (B : Bd x E D nL own) (hr : (xt x).sig.returnType = some ty) (hn : narrow ty (.int (Int32.ofInt a)) = .int (Int32.ofInt a)) (d : decode cc pc = .ok (.ireturn, 1)) : J cc x E z0 μ pc lv [iv a] (MQ (xb x) (QJ E μ a) (xa x) (xs x) 0 0 (gA E)) := fun hx hb H locs ls hl hP hS =>
  W.zret (v := Int32.ofInt a) hx hb hr hn (fun t ht hW => ⟨⟨_, (), rfl, rfl, (show rep E z0 μ t.heap by rw [ht]; exact hP)⟩, hS.F ht⟩) hS.2.2 d B.2.2.2.2.2.2.2.2.2
theorem j_vret (B : Bd x E D nL own) (hr : (xt x).sig.returnType = none) (d : decode cc pc = .ok (.return_, 1)) : J cc x E z0 μ pc lv [] (MQ (xb x) (QJV E μ) (xa x) (xs x) 0 0 (gA E)) := fun hx hb H locs ls hl hP hS =>
  W.vret hx hb hr (fun t ht hW => ⟨⟨(), rfl, trivial, (show rep E z0 μ t.heap by rw [ht]; exact hP)⟩, hS.F ht⟩) hS.2.2 d B.2.2.2.2.2.2.2.2.2
theorem j_call {stk As : List Value} {v : Int} (r : (xp x).tables.exec = Jvm.exec → (xc x).code = cc → RN x E z0 μ pc lv stk st 0 0 As (QJ E μ v)) (kk : J cc x E z0 μ (pc + 3) lv (iv v :: st) Q) : J cc x E z0 μ pc lv stk Q := fun hx hb H locs ls hl hP hS => by
  refine va_calli (r hx hb H locs ls hl hP hS) hS (fun q _ h => h) (fun q h => h) (fun r u t H1 locs1 ht hvm hw hB hz1 hk1 hS1 => ?_)
  subst hw
  exact kk hx hb H1 locs1 ls hl (by rw [← ht]; exact hB) hS1
theorem j_callv {stk As : List Value} (r : (xp x).tables.exec = Jvm.exec → (xc x).code = cc → RN x E z0 μ pc lv stk st 0 0 As (QJV E μ)) (kk : J cc x E z0 μ (pc + 3) lv st Q) : J cc x E z0 μ pc lv stk Q := fun hx hb H locs ls hl hP hS => by
  refine va_callv (r hx hb H locs ls hl hP hS) hS (fun q _ h => h) (fun q h => h) (fun u t H1 locs1 ht hvm hw hB hz1 hk1 hS1 => ?_)
  exact kk hx hb H1 locs1 ls hl (by rw [← ht]; exact hB) hS1
variable {y : MethodName} {bytes : ByteArray} {maxL n idx Dc j : Nat} {ret : Option FieldType} {As : List Value} {Qc : Array Value → State → Outcome → State → Prop}
/-- a text's own method -/
theorem n_VS (hx : (xp x).tables.exec = Jvm.exec) (hb : (xc x).code = cc) (B : Bd x E D nL own) (c : CB_ y bytes maxL ret n) (hl : LK own idx y) (hin : Cond.instanceMethod y ∈ tblG) (hse : Cond.selects y.cls y y ∈ tblG) (hcl : y.cls = "java/lang/String") (hj : j < 3) (hD : Nat.ble (Dc + 1) D = true) (M : MT (xl x) y bytes maxL ret E Dc 0 0 z0 (sv E j :: As) μ Qc) (hlen : As.length = n) (hW : Nat.ble (cats st) 8 = true) (d : decode cc pc = .ok (.invokevirtual idx, 3)) : RN x E z0 μ pc lv (As.reverse ++ sv E j :: st) st 0 0 (sv E j :: As) Qc := fun H locs ls hls hP hS => by
  have hB := B
  obtain ⟨hown, hts, hK, hN, hT, hml, -⟩ := B
  exact va_runV (C := y.cls) (b := gK E j) (As := As) (rest := st) ⟨hx, hb, rfl, hown, hts⟩ M ⟨c_B hB c hl hD, hts _ hin, hts _ hse⟩ ⟨wok_blind, by rw [hcl]; exact vk_recv hT.1.1 hj hS, fun U hU hW => ⟨rfl, wok_of hB hP hS hU hW⟩⟩ rfl hlen hls.2.1 rfl (lv_room (Nat.le_of_ble_eq_true hW)) d ⟨Nat.zero_le _, Nat.zero_le _⟩
theorem j_value (B : Bd x E D nL "java/lang/String") (hj : j < 3) (d : decode cc pc = .ok (.getfield 9, 3)) (kk : J cc x E z μ (pc + 3) lv (bv E j :: st) Q) : J cc x E z μ pc lv (sv E j :: st) Q := fun hx hb H locs ls hl hP hS => by
  obtain ⟨hown, hts, hK, hN, hT, -⟩ := B
  exact vk_getf hx hb (hT.1.1.1 j hj).2.2.1 hS hown (hts _ (tG 1636 (by decide +kernel) rfl)) (fun _ h => h) d (kk hx hb H locs ls hl hP hS)
theorem j_coder (B : Bd x E D nL "java/lang/String") (hj : j < 3) (d : decode cc pc = .ok (.getfield 15, 3)) (kk : J cc x E z μ (pc + 3) lv (iv 0 :: st) Q) : J cc x E z μ pc lv (sv E j :: st) Q := fun hx hb H locs ls hl hP hS => by
  obtain ⟨hown, hts, hK, hN, hT, -⟩ := B
  exact vk_getf hx hb (hT.1.1.1 j hj).2.1 hS hown (hts _ (tG 1637 (by decide +kernel) rfl)) (fun _ h => h) d (kk hx hb H locs ls hl hP hS)
theorem j_compact (B : Bd x E D nL "java/lang/String") (d : decode cc pc = .ok (.getstatic 38, 3)) (kk : J cc x E z μ (pc + 3) lv (iv 1 :: st) Q) : J cc x E z μ pc lv st Q := fun hx hb H locs ls hl hP hS => by
  obtain ⟨hown, hts, hK, hN, hT, -⟩ := B
  exact va_gets hx hb hT.1.2.1 hS hown (hts _ (tG 437 (by decide +kernel) rfl)) (fun _ h => h) d (kk hx hb H locs ls hl hP hS)
theorem j_format (B : Bd x E D nL "java/lang/String") (d : decode cc pc = .ok (.getstatic 1053, 3)) (kk : ∀ v : Value, (v = .null ∨ ∃ t, v = .ref t) → J cc x E z μ (pc + 3) lv (v :: st) Q) : J cc x E z μ pc lv st Q := fun hx hb H locs ls hl hP hS => by
  obtain ⟨hown, hts, hK, hN, hT, -⟩ := B
  rcases hT.1.2.2.1 with h | ⟨t, h⟩
  · exact va_gets hx hb h hS hown (hts _ (tG 453 (by decide +kernel) rfl)) (fun _ h => h) d (kk .null (Or.inl rfl) hx hb H locs ls hl hP hS)
  · exact va_gets hx hb h hS hown (hts _ (tG 453 (by decide +kernel) rfl)) (fun _ h => h) d (kk (.ref t) (Or.inr ⟨t, rfl⟩) hx hb H locs ls hl hP hS)
theorem j_len (B : Bd x E D nL own) (hj : j < 3) (d : decode cc pc = .ok (.arraylength, 1)) (kk : J cc x E z μ (pc + 1) lv (iv (slen j) :: st) Q) : J cc x E z μ pc lv (bv E j :: st) Q := fun hx hb H locs ls hl hP hS => by
  obtain ⟨hown, hts, hK, hN, hT, -⟩ := B
  exact va_tlen hx hb (hT.1.1.1 j hj).2.2.2 hS Int32.ofInt_eq_ofNat.symm d (kk hx hb H locs ls hl hP hS)
theorem sLen_lt : ∀ j, sLen.getD j 0 < 2147483648
  | 0 => by decide
  | 1 => by decide
  | 2 => by decide
  | _ + 3 => by
    show (0 : Nat) < _
    decide
theorem j_bald (B : Bd x E D nL own) {a : Int} (hj : j < 3) (ha : 0 ≤ a ∧ a < slen j) (d : decode cc pc = .ok (.baload, 1)) (kk : J cc x E z μ (pc + 1) lv (iv (schr j a) :: st) Q) : J cc x E z μ pc lv (iv a :: bv E j :: st) Q := fun hx hb H locs ls hl hP hS => by
  obtain ⟨hown, hts, hK, hN, hT, -⟩ := B
  have hl3 := sLen_lt j
  have hb' : a < ((sLen.getD j 0 : Nat) : Int) := ha.2
  refine va_tb hx hb (hT.1.1.1 j hj).2.2.2 hS (in_of ha.1 hb' hl3) (v := iv (schr j a)) ?_ d (kk hx hb H locs ls hl hP hS)
  unfold iv schr
  rw [Int32.ofInt_toInt, clampI ha.1 (by omega)]
theorem j_al0 {v : Nat} {t : List (Option Value)} (d : decode cc pc = .ok (.aload_n 0, 1)) (k : J cc x E z μ (pc + 1) (some (.ref v) :: t) (.ref v :: st) Q) : J cc x E z μ pc (some (.ref v) :: t) st Q := fun hx hb H locs ls hl hP hS => lv_aload_n hx hb d rfl (lh_at hl rfl) (k hx hb H locs ls hl hP hS)
theorem j_i2c {a v : Int} (hv : ((Int32.ofInt a).toUInt32 % 65536).toInt32 = Int32.ofInt v) (d : decode cc pc = .ok (.i2c, 1)) (k : J cc x E z μ (pc + 1) lv (iv v :: st) Q) : J cc x E z μ pc lv (iv a :: st) Q := fun hx hb H locs ls hl hP hS => lv_i2c hx hb d hv (k hx hb H locs ls hl hP hS)
end ST
theorem cb_J0_length : CB_ yJ0_length_8abf5 cJ0_length_8abf5 1 (some .int) 0 := ⟨by decide +kernel, rfl, tG 432 (by decide +kernel) rfl, tG 92 (by decide +kernel) rfl⟩
theorem cb_J0_coder : CB_ yJ0_coder_7d493 cJ0_coder_7d493 1 (some .byte) 0 := ⟨by decide +kernel, rfl, tG 436 (by decide +kernel) rfl, tG 92 (by decide +kernel) rfl⟩
theorem cb_J0_charAt : CB_ yJ0_charAt_5068e cJ0_charAt_5068e 2 (some .char) 1 := ⟨by decide +kernel, rfl, tG 442 (by decide +kernel) rfl, tG 92 (by decide +kernel) rfl⟩
theorem cb_J0_isLatin1 : CB_ yJ0_isLatin1_aae02 cJ0_isLatin1_aae02 1 (some .boolean) 0 := ⟨by decide +kernel, rfl, tG 446 (by decide +kernel) rfl, tG 92 (by decide +kernel) rfl⟩
theorem cb_J1_charAt : CB_ yJ1_charAt_3b067 cJ1_charAt_3b067 2 (some .char) 2 := ⟨by decide +kernel, rfl, tG 449 (by decide +kernel) rfl, tG 93 (by decide +kernel) rfl⟩
theorem cb_J0_checkIndex : CB_ yJ0_checkIndex_df160 cJ0_checkIndex_df160 2 none 2 := ⟨by decide +kernel, rfl, tG 452 (by decide +kernel) rfl, tG 92 (by decide +kernel) rfl⟩
theorem cb_J3_checkIndex : CB_ yJ3_checkIndex_8e157 cJ3_checkIndex_8e157 3 (some .int) 3 := ⟨by decide +kernel, rfl, tG 457 (by decide +kernel) rfl, tG 94 (by decide +kernel) rfl⟩
theorem c_J0_coder (l : Launch) (E : Gx) {μ : Mem} {j : Nat} (hj : j < 3) : MT l yJ0_coder_7d493 cJ0_coder_7d493 1 (some .byte) E 0 0 0 z0 [sv E j] μ (QJ E μ 0) := by
  refine m_start [some (sv E j)] (by decide) rfl rfl rfl (fun x hxl hxc hxs B hr hnm => ?_)
  subst hxl
  refine j_compact B dJ0_coder_7d493_0 ?_
  refine r_if_eq 13 dJ0_coder_7d493_3 rfl (inR_k rfl) (fun c9 => absurd c9 (by decide)) (fun _ => ?_)
  refine r_tl0 dJ0_coder_7d493_6 ?_
  refine j_coder B hj dJ0_coder_7d493_7 ?_
  refine r_goto 14 dJ0_coder_7d493_10 rfl ?_
  exact j_ret B hr (by decide) dJ0_coder_7d493_14
theorem c_J0_isLatin1 (l : Launch) (E : Gx) {μ : Mem} {j : Nat} (hj : j < 3) : MT l yJ0_isLatin1_aae02 cJ0_isLatin1_aae02 1 (some .boolean) E 0 0 0 z0 [sv E j] μ (QJ E μ 1) := by
  refine m_start [some (sv E j)] (by decide) rfl rfl rfl (fun x hxl hxc hxs B hr hnm => ?_)
  subst hxl
  refine j_compact B dJ0_isLatin1_aae02_0 ?_
  refine r_if_eq 17 dJ0_isLatin1_aae02_3 rfl (inR_k rfl) (fun c9 => absurd c9 (by decide)) (fun _ => ?_)
  refine r_tl0 dJ0_isLatin1_aae02_6 ?_
  refine j_coder B hj dJ0_isLatin1_aae02_7 ?_
  refine r_if_ne 17 dJ0_isLatin1_aae02_10 rfl (inR_k rfl) (fun c9 => absurd rfl c9) (fun _ => ?_)
  refine r_iconst dJ0_isLatin1_aae02_13 ?_
  refine r_goto 18 dJ0_isLatin1_aae02_14 rfl ?_
  exact j_ret B hr (by decide) dJ0_isLatin1_aae02_18
theorem c_J0_length (l : Launch) (E : Gx) {μ : Mem} {j : Nat} (hj : j < 3) : MT l yJ0_length_8abf5 cJ0_length_8abf5 1 (some .int) E 1 0 0 z0 [sv E j] μ (QJ E μ (slen j)) := by
  refine m_start [some (sv E j)] (by decide) rfl rfl rfl (fun x hxl hxc hxs B hr hnm => ?_)
  subst hxl
  refine r_tl0 dJ0_length_8abf5_0 ?_
  refine j_value B hj dJ0_length_8abf5_1 ?_
  refine j_len B hj dJ0_length_8abf5_4 ?_
  refine r_tl0 dJ0_length_8abf5_5 ?_
  refine j_call (fun hx hb => n_VS hx hb B cb_J0_coder (tG 433 (by decide +kernel) rfl) (tG 434 (by decide +kernel) rfl) (tG 435 (by decide +kernel) rfl) rfl hj rfl (c_J0_coder (xl x) E hj) rfl rfl dJ0_length_8abf5_6) ?_
  refine r_ishr dJ0_length_8abf5_9 ?_
  rw [slen_shr j hj]
  exact j_ret B hr rfl dJ0_length_8abf5_10
theorem c_J3_checkIndex (l : Launch) (E : Gx) {μ : Mem} {a n : Int} {v : Value} (hv : v = .null ∨ ∃ t, v = .ref t) (ra : inR a) (rn : inR n) (ha : 0 ≤ a ∧ a < n) : MT l yJ3_checkIndex_8e157 cJ3_checkIndex_8e157 3 (some .int) E 0 0 0 z0 [iv a, iv n, v] μ (QJ E μ a) := by
  refine m_start [some (iv a), some (iv n), some v] (by decide) rfl (by rcases hv with rfl | ⟨t, rfl⟩ <;> rfl) (by rcases hv with rfl | ⟨t, rfl⟩ <;> rfl) (fun x hxl hxc hxs B hr hnm => ?_)
  subst hxl
  refine r_il0 dJ3_checkIndex_8e157_0 ?_
  refine r_if_lt 9 dJ3_checkIndex_8e157_1 rfl ra (fun c9 => absurd c9 (by omega)) (fun _ => ?_)
  refine r_il0 dJ3_checkIndex_8e157_4 ?_
  refine r_il1 dJ3_checkIndex_8e157_5 ?_
  refine r_icmp_lt 16 dJ3_checkIndex_8e157_6 rfl ra rn (fun _ => ?_) (fun c9 => absurd ha.2 c9)
  refine r_il0 dJ3_checkIndex_8e157_16 ?_
  exact j_ret B hr rfl dJ3_checkIndex_8e157_17
theorem c_J0_checkIndex (l : Launch) (E : Gx) {μ : Mem} {a n : Int} (ra : inR a) (rn : inR n) (ha : 0 ≤ a ∧ a < n) : MT l yJ0_checkIndex_df160 cJ0_checkIndex_df160 2 none E 1 0 0 z0 [iv a, iv n] μ (QJV E μ) := by
  refine m_start [some (iv a), some (iv n)] (by decide) rfl rfl rfl (fun x hxl hxc hxs B hr hnm => ?_)
  subst hxl
  refine r_il0 dJ0_checkIndex_df160_0 ?_
  refine r_il1 dJ0_checkIndex_df160_1 ?_
  refine j_format B dJ0_checkIndex_df160_2 (fun v hv => ?_)
  refine j_call (As := [iv a, iv n, v]) (fun hx hb => n_S hx hb B cb_J3_checkIndex (tG 455 (by decide +kernel) rfl) (tG 456 (by decide +kernel) rfl) rfl ⟨Nat.zero_le _, Nat.zero_le _⟩ (c_J3_checkIndex (xl x) E hv ra rn ha) rfl rfl dJ0_checkIndex_df160_5) ?_
  refine r_pop rfl dJ0_checkIndex_df160_8 ?_
  exact j_vret B hr dJ0_checkIndex_df160_9
theorem slen_R : ∀ j, j < 3 → inR (slen j) := by unfold inR; decide +kernel
theorem c_J1_charAt (l : Launch) (E : Gx) {μ : Mem} {j : Nat} {a : Int} (hj : j < 3) (ha : 0 ≤ a ∧ a < slen j) : MT l yJ1_charAt_3b067 cJ1_charAt_3b067 2 (some .char) E 2 0 0 z0 [bv E j, iv a] μ (QJ E μ (schr j a)) := by
  have rn := slen_R j hj
  have ra : inR a := by unfold inR at *; omega
  obtain ⟨n, rfl⟩ : ∃ n : Nat, a = (n : Int) := ⟨a.toNat, by omega⟩
  have hn : n < sLen.getD j 0 := by have h : (n : Int) < ((sLen.getD j 0 : Nat) : Int) := ha.2; omega
  obtain ⟨h1, h2⟩ := aw_st j n hj hn
  refine m_start [some (bv E j), some (iv (n : Int))] (by decide) rfl rfl rfl (fun x hxl hxc hxs B hr hnm => ?_)
  subst hxl
  refine r_il1 dJ1_charAt_3b067_0 ?_
  refine j_al0 dJ1_charAt_3b067_1 ?_
  refine j_len B hj dJ1_charAt_3b067_2 ?_
  refine j_callv (As := [iv (n : Int), iv (slen j)]) (fun hx hb => n_S hx hb B cb_J0_checkIndex (tG 450 (by decide +kernel) rfl) (tG 451 (by decide +kernel) rfl) rfl ⟨Nat.zero_le _, Nat.zero_le _⟩ (c_J0_checkIndex (xl x) E ra rn ha) rfl rfl dJ1_charAt_3b067_3) ?_
  refine j_al0 dJ1_charAt_3b067_6 ?_
  refine r_il1 dJ1_charAt_3b067_7 ?_
  refine j_bald B hj ha dJ1_charAt_3b067_8 ?_
  refine r_sipush dJ1_charAt_3b067_9 (by decide) ?_
  refine r_iand dJ1_charAt_3b067_12 ?_
  refine j_i2c h1 dJ1_charAt_3b067_13 ?_
  exact j_ret B hr h2 dJ1_charAt_3b067_14
theorem c_J0_charAt (l : Launch) (E : Gx) {μ : Mem} {j : Nat} {a : Int} (hj : j < 3) (ha : 0 ≤ a ∧ a < slen j) : MT l yJ0_charAt_5068e cJ0_charAt_5068e 2 (some .char) E 3 0 0 z0 [sv E j, iv a] μ (QJ E μ (schr j a)) := by
  have h2 : narrow .char (.int (Int32.ofInt (schr j a))) = .int (Int32.ofInt (schr j a)) := by
    obtain ⟨n, rfl⟩ : ∃ n : Nat, a = (n : Int) := ⟨a.toNat, by omega⟩
    exact (aw_st j n hj (by have h : (n : Int) < ((sLen.getD j 0 : Nat) : Int) := ha.2; omega)).2
  refine m_start [some (sv E j), some (iv a)] (by decide) rfl rfl rfl (fun x hxl hxc hxs B hr hnm => ?_)
  subst hxl
  refine r_tl0 dJ0_charAt_5068e_0 ?_
  refine j_call (As := [sv E j]) (fun hx hb => n_VS hx hb B cb_J0_isLatin1 (tG 443 (by decide +kernel) rfl) (tG 444 (by decide +kernel) rfl) (tG 445 (by decide +kernel) rfl) rfl hj rfl (c_J0_isLatin1 (xl x) E hj) rfl rfl dJ0_charAt_5068e_1) ?_
  refine r_if_eq 16 dJ0_charAt_5068e_4 rfl (inR_k rfl) (fun c9 => absurd c9 (by decide)) (fun _ => ?_)
  refine r_tl0 dJ0_charAt_5068e_7 ?_
  refine j_value B hj dJ0_charAt_5068e_8 ?_
  refine r_il1 dJ0_charAt_5068e_11 ?_
  refine j_call (As := [bv E j, iv a]) (fun hx hb => n_S hx hb B cb_J1_charAt (tG 447 (by decide +kernel) rfl) (tG 448 (by decide +kernel) rfl) rfl ⟨Nat.zero_le _, Nat.zero_le _⟩ (c_J1_charAt (xl x) E hj ha) rfl rfl dJ0_charAt_5068e_12) ?_
  exact j_ret B hr h2 dJ0_charAt_5068e_15
section ST
variable {cc : ByteArray} {x : Cx} {E : Gx} {z : Zs} {μ : Mem} {pc : Nat} {lv : List (Option Value)} {st : List Value} {Q : State → Prop} {D nL : Nat} {own : String}
theorem r_slen (B : Bd x E D nL own) {idx j : Nat} (hl : LK own idx yJ0_length_8abf5) (hj : j < 3) (hD : Nat.ble 9 D = true) (hW : Nat.ble (cats st) 8 = true) (d : decode cc pc = .ok (.invokevirtual idx, 3)) (kk : J cc x E z0 μ (pc + 3) lv (iv (slen j) :: st) Q) : J cc x E z0 μ pc lv (sv E j :: st) Q :=
  j_call (As := [sv E j]) (fun hx hb => n_VS hx hb B cb_J0_length hl (tG 430 (by decide +kernel) rfl) (tG 431 (by decide +kernel) rfl) rfl hj (Nat.ble_eq.mpr (Nat.le_trans (by decide) (Nat.le_of_ble_eq_true hD))) (c_J0_length (xl x) E hj) rfl hW d) kk
theorem r_schr (B : Bd x E D nL own) {idx j : Nat} {a : Int} (hl : LK own idx yJ0_charAt_5068e) (hj : j < 3) (ha : 0 ≤ a ∧ a < slen j) (hD : Nat.ble 9 D = true) (hW : Nat.ble (cats st) 8 = true) (d : decode cc pc = .ok (.invokevirtual idx, 3)) (kk : J cc x E z0 μ (pc + 3) lv (iv (schr j a) :: st) Q) : J cc x E z0 μ pc lv (iv a :: sv E j :: st) Q :=
  j_call (As := [sv E j, iv a]) (fun hx hb => n_VS (As := [iv a]) hx hb B cb_J0_charAt hl (tG 440 (by decide +kernel) rfl) (tG 441 (by decide +kernel) rfl) rfl hj (Nat.ble_eq.mpr (Nat.le_trans (by decide) (Nat.le_of_ble_eq_true hD))) (c_J0_charAt (xl x) E hj ha) rfl hW d) kk
end ST
theorem inR_max {a b : Int} (ha : inR a) (hb : inR b) : inR (max a b) := by
  unfold inR at *
  omega
theorem inR_min {a b : Int} (ha : inR a) (hb : inR b) : inR (min a b) := by
  unfold inR at *
  omega
section MM
variable {cc : ByteArray} {x : Cx} {E : Gx} {z : Zs} {μ : Mem} {pc : Nat} {lv : List (Option Value)} {st : List Value} {Q : State → Prop} {D nL : Nat} {own : String}
theorem r_mmax (B : Bd x E (D + 1) nL own) {idx : Nat} {a b : Int} (hl : LK own idx Lib.Math.max.name) (ra : inR a) (rb : inR b) (hW : Nat.ble (cats st) 8 = true) (d : decode cc pc = .ok (.invokestatic idx, 3)) (kk : J cc x E z0 μ (pc + 3) lv (iv (max a b) :: st) Q) : J cc x E z0 μ pc lv (iv b :: iv a :: st) Q := fun hx hb H locs ls hls hP hS => by
  obtain ⟨hown, hts, hK, hNw, hT, hml, hf, hloc, -⟩ := B
  have hw := Nat.le_of_ble_eq_true hW
  obtain ⟨m1, m2, m3⟩ := mw_max
  have h := kk hx hb H locs ls hls hP hS
  refine va_mmax hx hb hls.2.1.symm hown (hts _ hl) (hts _ m1) (hts _ m2) (hts _ m3) (by omega) (by show cats st + 13 ≤ _; omega) (Nat.zero_le _) (Nat.zero_le _) d ?_
  have e : iv (max a b) = Value.int (if Int32.ofInt a < Int32.ofInt b then Int32.ofInt b else Int32.ofInt a) := by
    unfold iv
    by_cases q : a < b
    · rw [if_pos ((lt_iff ra rb).mpr q), Int.max_eq_right (by omega)]
    · rw [if_neg (fun w => q ((lt_iff ra rb).mp w)), Int.max_eq_left (by omega)]
  rw [← e]
  exact h
theorem r_mmin (B : Bd x E (D + 1) nL own) {idx : Nat} {a b : Int} (hl : LK own idx Lib.Math.min.name) (ra : inR a) (rb : inR b) (hW : Nat.ble (cats st) 8 = true) (d : decode cc pc = .ok (.invokestatic idx, 3)) (kk : J cc x E z0 μ (pc + 3) lv (iv (min a b) :: st) Q) : J cc x E z0 μ pc lv (iv b :: iv a :: st) Q := fun hx hb H locs ls hls hP hS => by
  obtain ⟨hown, hts, hK, hNw, hT, hml, hf, hloc, -⟩ := B
  have hw := Nat.le_of_ble_eq_true hW
  obtain ⟨m1, m2, m3⟩ := mw_min
  have h := kk hx hb H locs ls hls hP hS
  refine va_mmin hx hb hls.2.1.symm hown (hts _ hl) (hts _ m1) (hts _ m2) (hts _ m3) (by omega) (by show cats st + 13 ≤ _; omega) (Nat.zero_le _) (Nat.zero_le _) d ?_
  have e : iv (min a b) = Value.int (if Int32.ofInt b < Int32.ofInt a then Int32.ofInt b else Int32.ofInt a) := by
    unfold iv
    by_cases q : b < a
    · rw [if_pos ((lt_iff rb ra).mpr q), Int.min_eq_right (by omega)]
    · rw [if_neg (fun w => q ((lt_iff rb ra).mp w)), Int.min_eq_left (by omega)]
  rw [← e]
  exact h
end MM
theorem bleN (N : Nat) : Nat.ble (N + 3 + 1) (N + 4) = true := Nat.ble_eq.mpr (by omega)

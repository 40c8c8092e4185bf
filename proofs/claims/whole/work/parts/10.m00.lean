set_option maxRecDepth 20000 in
theorem c_J6_bitCount_0f7a4 (l : Launch) (E : Gx) {p0 : Int} {μ : Mem} {Q : Int → Mem → Prop} (hp0 : inR p0) (hμ : okM μ) (h : wp_J6_bitCount_0f7a4 p0 μ Q) : MT l yJ6_bitCount_0f7a4 cJ6_bitCount_0f7a4 1 (some .int) E 1 0 0 z0 [iv p0] μ (QI E z0 Q) := by
  refine m_start [some (iv p0)] (by decide) rfl rfl rfl (fun x hxl hxc hxs B hr hnm => ?_)
  unfold wp_J6_bitCount_0f7a4 at h
  refine r_il0 dJ6_bitCount_0f7a4_0 ?_
  refine r_il0 dJ6_bitCount_0f7a4_1 ?_
  refine r_iconst dJ6_bitCount_0f7a4_2 ?_
  refine r_iushr dJ6_bitCount_0f7a4_3 ?_
  refine r_ldcw B (a := 1431655765) kc_J6_265 (by decide) dJ6_bitCount_0f7a4_4 ?_
  refine r_iand dJ6_bitCount_0f7a4_7 ?_
  refine r_isub dJ6_bitCount_0f7a4_8 ?_
  obtain ⟨o2, h⟩ := h
  refine n_topi (fun x1 ex1 => ?_)
  have h := h x1 ex1
  refine r_is0 dJ6_bitCount_0f7a4_9 rfl ?_
  refine r_il0 dJ6_bitCount_0f7a4_10 ?_
  refine r_ldcw B (a := 858993459) kc_J6_266 (by decide) dJ6_bitCount_0f7a4_11 ?_
  refine r_iand dJ6_bitCount_0f7a4_14 ?_
  refine r_il0 dJ6_bitCount_0f7a4_15 ?_
  refine r_iconst dJ6_bitCount_0f7a4_16 ?_
  refine r_iushr dJ6_bitCount_0f7a4_17 ?_
  refine r_ldcw B (a := 858993459) kc_J6_266 (by decide) dJ6_bitCount_0f7a4_18 ?_
  refine r_iand dJ6_bitCount_0f7a4_21 ?_
  refine r_iadd dJ6_bitCount_0f7a4_22 ?_
  obtain ⟨o4, h⟩ := h
  refine n_topi (fun x3 ex3 => ?_)
  have h := h x3 ex3
  refine r_is0 dJ6_bitCount_0f7a4_23 rfl ?_
  refine r_il0 dJ6_bitCount_0f7a4_24 ?_
  refine r_il0 dJ6_bitCount_0f7a4_25 ?_
  refine r_iconst dJ6_bitCount_0f7a4_26 ?_
  refine r_iushr dJ6_bitCount_0f7a4_27 ?_
  refine r_iadd dJ6_bitCount_0f7a4_28 ?_
  refine r_ldcw B (a := 252645135) kc_J6_267 (by decide) dJ6_bitCount_0f7a4_29 ?_
  refine r_iand dJ6_bitCount_0f7a4_32 ?_
  refine n_topi (fun x5 ex5 => ?_)
  have h := h x5 ex5
  refine r_is0 dJ6_bitCount_0f7a4_33 rfl ?_
  refine r_il0 dJ6_bitCount_0f7a4_34 ?_
  refine r_il0 dJ6_bitCount_0f7a4_35 ?_
  refine r_bipush dJ6_bitCount_0f7a4_36 (by decide) ?_
  refine r_iushr dJ6_bitCount_0f7a4_38 ?_
  refine r_iadd dJ6_bitCount_0f7a4_39 ?_
  obtain ⟨o7, h⟩ := h
  refine n_topi (fun x6 ex6 => ?_)
  have h := h x6 ex6
  refine r_is0 dJ6_bitCount_0f7a4_40 rfl ?_
  refine r_il0 dJ6_bitCount_0f7a4_41 ?_
  refine r_il0 dJ6_bitCount_0f7a4_42 ?_
  refine r_bipush dJ6_bitCount_0f7a4_43 (by decide) ?_
  refine r_iushr dJ6_bitCount_0f7a4_45 ?_
  refine r_iadd dJ6_bitCount_0f7a4_46 ?_
  obtain ⟨o9, h⟩ := h
  refine n_topi (fun x8 ex8 => ?_)
  have h := h x8 ex8
  refine r_is0 dJ6_bitCount_0f7a4_47 rfl ?_
  refine r_il0 dJ6_bitCount_0f7a4_48 ?_
  refine r_bipush dJ6_bitCount_0f7a4_49 (by decide) ?_
  refine r_iand dJ6_bitCount_0f7a4_51 ?_
  exact r_iret B hr (inR_t _) hμ dJ6_bitCount_0f7a4_52 h
set_option maxRecDepth 20000 in
theorem c_X3_distance (l : Launch) (E : Gx) {p0 : Int} {p1 : Int} {μ : Mem} {Q : Int → Mem → Prop} (hp0 : inR p0) (hp1 : inR p1) (hμ : okM μ) (h : wp_X3_distance p0 p1 μ Q) : MT l yX3_distance cX3_distance 5 (some .int) E 2 0 0 z0 [rv E 70, iv p0, iv p1] μ (QI E z0 Q) := by
  refine m_start [some (rv E 70), some (iv p0), some (iv p1), none, none] (by decide) rfl rfl rfl (fun x hxl hxc hxs B hr hnm => ?_)
  unfold wp_X3_distance at h
  refine r_al0 dX3_distance_0 ?_
  refine r_getR B 71 fg_X3_9 kd_70 (kl kd_70) (ρo (off := 1) kd_70 rfl) dX3_distance_1 ?_
  refine r_il1 dX3_distance_4 ?_
  obtain ⟨o1, h⟩ := h
  refine r_iald B kd_71 (kl kd_71) (by decide) o1 dX3_distance_5 ?_
  refine r_al0 dX3_distance_6 ?_
  refine r_getR B 71 fg_X3_9 kd_70 (kl kd_70) (ρo (off := 1) kd_70 rfl) dX3_distance_7 ?_
  refine r_il2 dX3_distance_10 ?_
  obtain ⟨o2, h⟩ := h
  refine r_iald B kd_71 (kl kd_71) (by decide) o2 dX3_distance_11 ?_
  refine r_ixor dX3_distance_12 ?_
  refine n_topi (fun x3 ex3 => ?_)
  have h := h x3 ex3
  refine r_is3 dX3_distance_13 rfl ?_
  refine r_il3 dX3_distance_14 ?_
  refine r_il3 dX3_distance_15 ?_
  refine r_iconst dX3_distance_16 ?_
  refine r_ishr dX3_distance_17 ?_
  refine r_ior dX3_distance_18 ?_
  refine r_sipush dX3_distance_19 (by decide) ?_
  refine r_iand dX3_distance_22 ?_
  refine n_topi (fun x4 ex4 => ?_)
  have h := h x4 ex4
  refine r_is4 dX3_distance_23 rfl ?_
  refine r_il4 dX3_distance_25 ?_
  refine r_al0 dX3_distance_27 ?_
  refine r_getI B fg_X3_25 kd_70 (kl kd_70) dX3_distance_28 ?_
  refine r_iand dX3_distance_31 ?_
  refine r_cSI1 B cb_J6_bitCount_0f7a4 lk_X3_46 cs_J6_bitCount_0f7a4 (c_J6_bitCount_0f7a4 (xl x) E (inR_t _) hμ h) rfl rfl dX3_distance_32 (fun r6 μ5 hr6 mμ5 h => ?_)
  refine r_iconst dX3_distance_35 ?_
  refine r_il4 dX3_distance_36 ?_
  refine r_al0 dX3_distance_38 ?_
  refine r_getI B fg_X3_28 kd_70 (kl kd_70) dX3_distance_39 ?_
  refine r_iand dX3_distance_42 ?_
  refine r_cSI1 B cb_J6_bitCount_0f7a4 lk_X3_46 cs_J6_bitCount_0f7a4 (c_J6_bitCount_0f7a4 (xl x) E (inR_t _) mμ5 h) rfl rfl dX3_distance_43 (fun r8 μ7 hr8 mμ7 h => ?_)
  refine r_imul dX3_distance_46 ?_
  refine r_iadd dX3_distance_47 ?_
  obtain ⟨o9, h⟩ := h
  exact r_iret B hr o9 mμ7 dX3_distance_48 h
set_option maxRecDepth 20000 in
theorem t_X3_ballSize_4 {x : Cx} {E : Gx} (B : Bd x E 3 4 "SlipCovers$Ground") (hr : (xt x).sig.returnType = (some .int)) {Q : Int → Mem → Prop} {v1 : Int} {v2 : Int} {v3 : Int} {μ : Mem} (hv1 : inR v1) (hv2 : inR v2) (hv3 : inR v3) (hμ : okM μ) (h : LP4 (wp_X3_ballSize_4 Q) v1 v2 v3 μ) : J cX3_ballSize x E z0 μ 4 [some (rv E 70), some (iv v1), some (iv v2), some (iv v3)] [] (MQ (xb x) (QI E z0 Q) (xa x) (xs x) 0 0 (gA E)) := by
  refine LP4_ind (T := fun (v1 : Int) (v2 : Int) (v3 : Int) (μ : Mem) => inR v1 → inR v2 → inR v3 → okM μ → J cX3_ballSize x E z0 μ 4 [some (rv E 70), some (iv v1), some (iv v2), some (iv v3)] [] (MQ (xb x) (QI E z0 Q) (xa x) (xs x) 0 0 (gA E))) (fun X4 hX4 v1 v2 v3 μ h hv1 hv2 hv3 hμ => ?_) h hv1 hv2 hv3 hμ
  unfold wp_X3_ballSize_4 at h
  refine r_il3 dX3_ballSize_4 ?_
  refine r_al0 dX3_ballSize_5 ?_
  refine r_getI B fg_X3_21 kd_70 (kl kd_70) dX3_ballSize_6 ?_
  refine r_icmp_ge 31 dX3_ballSize_9 rfl hv3 (hμ 70 0) (fun c1 => ?_) (fun c1 => ?_)
  · have h := h.1 c1
    refine r_il2 dX3_ballSize_31 ?_
    exact r_iret B hr hv2 hμ dX3_ballSize_32 h
  · have h := h.2 c1
    refine r_al0 dX3_ballSize_12 ?_
    refine r_iconst dX3_ballSize_13 ?_
    refine r_il3 dX3_ballSize_14 ?_
    refine r_cVI2 B cb_X3_distance lk_X3_52 cv_X3_distance kd_70 (c_X3_distance (xl x) E (inR_k rfl) hv3 hμ h) rfl rfl dX3_ballSize_15 (fun r3 μ2 hr3 mμ2 h => ?_)
    refine r_il1 dX3_ballSize_18 ?_
    refine r_icmp_gt 25 dX3_ballSize_19 rfl hr3 hv1 (fun c4 => ?_) (fun c4 => ?_)
    · have h := h.1 c4
      refine r_inc3 dX3_ballSize_25 rfl ?_
      obtain ⟨o5, h⟩ := h
      refine r_goto 4 dX3_ballSize_28 rfl ?_
      exact J_weak (hX4 v1 v2 (v3 + 1) μ2 h hv1 hv2 o5 mμ2) (⟨rfl, ⟨rfl, ⟨rfl, ⟨rfl, trivial⟩⟩⟩⟩)
    · have h := h.2 c4
      refine r_inc2 dX3_ballSize_22 rfl ?_
      obtain ⟨o6, h⟩ := h
      refine r_inc3 dX3_ballSize_25 rfl ?_
      obtain ⟨o7, h⟩ := h
      refine r_goto 4 dX3_ballSize_28 rfl ?_
      exact J_weak (hX4 v1 (v2 + 1) (v3 + 1) μ2 h hv1 o6 o7 mμ2) (⟨rfl, ⟨rfl, ⟨rfl, ⟨rfl, trivial⟩⟩⟩⟩)
set_option maxRecDepth 20000 in
theorem c_X3_ballSize (l : Launch) (E : Gx) {p0 : Int} {μ : Mem} {Q : Int → Mem → Prop} (hp0 : inR p0) (hμ : okM μ) (h : wp_X3_ballSize p0 μ Q) : MT l yX3_ballSize cX3_ballSize 4 (some .int) E 3 0 0 z0 [rv E 70, iv p0] μ (QI E z0 Q) := by
  refine m_start [some (rv E 70), some (iv p0), none, none] (by decide) rfl rfl rfl (fun x hxl hxc hxs B hr hnm => ?_)
  unfold wp_X3_ballSize at h
  refine r_iconst dX3_ballSize_0 ?_
  refine r_is2 dX3_ballSize_1 rfl ?_
  refine r_iconst dX3_ballSize_2 ?_
  refine r_is3 dX3_ballSize_3 rfl ?_
  exact J_weak (t_X3_ballSize_4 B hr hp0 (inR_k rfl) (inR_k rfl) hμ h) (⟨rfl, ⟨rfl, ⟨rfl, ⟨rfl, trivial⟩⟩⟩⟩)
set_option maxRecDepth 20000 in
theorem c_X0_lowBit (l : Launch) (E : Gx) {p0 : Int} {μ : Mem} {Q : Int64 → Mem → Prop} (hp0 : inR p0) (hμ : okM μ) (h : wp_X0_lowBit p0 μ Q) : MT l yX0_lowBit cX0_lowBit 1 (some .long) E 1 0 0 z0 [iv p0] μ (QL E z0 Q) := by
  refine m_start [some (iv p0)] (by decide) rfl rfl rfl (fun x hxl hxc hxs B hr hnm => ?_)
  unfold wp_X0_lowBit at h
  refine r_il0 dX0_lowBit_0 ?_
  refine r_bipush dX0_lowBit_1 (by decide) ?_
  refine r_icmp_ge 12 dX0_lowBit_3 rfl hp0 (inR_k rfl) (fun c1 => ?_) (fun c1 => ?_)
  · have h := h.1 c1
    refine r_lconst (v := 0) rfl dX0_lowBit_12 ?_
    exact r_lret B hr hμ dX0_lowBit_13 h
  · have h := h.2 c1
    refine r_lconst (v := 1) rfl dX0_lowBit_6 ?_
    refine r_il0 dX0_lowBit_7 ?_
    refine r_lshl dX0_lowBit_8 ?_
    refine r_goto 13 dX0_lowBit_9 rfl ?_
    exact r_lret B hr hμ dX0_lowBit_13 h
set_option maxRecDepth 20000 in
theorem c_X0_highBit (l : Launch) (E : Gx) {p0 : Int} {μ : Mem} {Q : Int64 → Mem → Prop} (hp0 : inR p0) (hμ : okM μ) (h : wp_X0_highBit p0 μ Q) : MT l yX0_highBit cX0_highBit 1 (some .long) E 1 0 0 z0 [iv p0] μ (QL E z0 Q) := by
  refine m_start [some (iv p0)] (by decide) rfl rfl rfl (fun x hxl hxc hxs B hr hnm => ?_)
  unfold wp_X0_highBit at h
  refine r_il0 dX0_highBit_0 ?_
  refine r_bipush dX0_highBit_1 (by decide) ?_
  refine r_icmp_ge 10 dX0_highBit_3 rfl hp0 (inR_k rfl) (fun c1 => ?_) (fun c1 => ?_)
  · have h := h.1 c1
    refine r_lconst (v := 1) rfl dX0_highBit_10 ?_
    refine r_il0 dX0_highBit_11 ?_
    refine r_bipush dX0_highBit_12 (by decide) ?_
    refine r_isub dX0_highBit_14 ?_
    refine r_lshl dX0_highBit_15 ?_
    exact r_lret B hr hμ dX0_highBit_16 h
  · have h := h.2 c1
    refine r_lconst (v := 0) rfl dX0_highBit_6 ?_
    refine r_goto 16 dX0_highBit_7 rfl ?_
    exact r_lret B hr hμ dX0_highBit_16 h
set_option maxRecDepth 20000 in
theorem t_X0_layBall_9 {x : Cx} {E : Gx} (B : Bd x E 3 9 "SlipCovers$Balls") (hr : (xt x).sig.returnType = none) {Q : Mem → Prop} {k : Nat} {v2 : Int} {v3 : Int} {v4 : Int64} {v6 : Int64} {v8 : Int} {μ : Mem} (hk : isB k) (hv2 : inR v2) (hv3 : inR v3) (hv8 : inR v8) (hμ : okM μ) (h : LP7 (wp_X0_layBall_9 Q) k v2 v3 v4 v6 v8 μ) : J cX0_layBall x E z0 μ 9 [some (rv E k), some (rv E 70), some (iv v2), some (iv v3), some (.long v4), none, some (.long v6), none, some (iv v8)] [] (MQ (xb x) (QV E z0 Q) (xa x) (xs x) 0 0 (gA E)) := by
  refine LP7_ind (T := fun (k : Nat) (v2 : Int) (v3 : Int) (v4 : Int64) (v6 : Int64) (v8 : Int) (μ : Mem) => isB k → inR v2 → inR v3 → inR v8 → okM μ → J cX0_layBall x E z0 μ 9 [some (rv E k), some (rv E 70), some (iv v2), some (iv v3), some (.long v4), none, some (.long v6), none, some (iv v8)] [] (MQ (xb x) (QV E z0 Q) (xa x) (xs x) 0 0 (gA E))) (fun X9 hX9 k v2 v3 v4 v6 v8 μ h hk hv2 hv3 hv8 hμ => ?_) h hk hv2 hv3 hv8 hμ
  unfold wp_X0_layBall_9 at h
  refine r_il8 dX0_layBall_9 ?_
  refine r_al0 dX0_layBall_11 ?_
  refine r_getI B fg_X0_30 (hk).1 (kl (hk).1) dX0_layBall_12 ?_
  refine r_icmp_ge 55 dX0_layBall_15 rfl hv8 (hμ k 0) (fun c1 => ?_) (fun c1 => ?_)
  · have h := h.1 c1
    refine r_al0 dX0_layBall_55 ?_
    refine r_getR B (k + 1) fg_X0_9 (hk).1 (kl (hk).1) (ρo (off := 1) (hk).1 rfl) dX0_layBall_56 ?_
    refine r_il2 dX0_layBall_59 ?_
    refine r_ll4 dX0_layBall_60 ?_
    obtain ⟨o2, h⟩ := h
    refine r_last B (hk).2.1 (kl (hk).2.1) (by decide) o2 dX0_layBall_62 ?_
    refine n_mem (fun μ3 eμ3 => ?_)
    have h := h μ3 eμ3
    have mμ3 : okM μ3 := eqM eμ3 (okM_sL hμ)
    refine r_al0 dX0_layBall_63 ?_
    refine r_getR B (k + 2) fg_X0_15 (hk).1 (kl (hk).1) (ρo (off := 2) (hk).1 rfl) dX0_layBall_64 ?_
    refine r_il2 dX0_layBall_67 ?_
    refine r_ll6 dX0_layBall_68 ?_
    refine r_last B (hk).2.2 (kl (hk).2.2) (by decide) o2 dX0_layBall_70 ?_
    refine n_mem (fun μ4 eμ4 => ?_)
    have h := h μ4 eμ4
    have mμ4 : okM μ4 := eqM eμ4 (okM_sL mμ3)
    exact r_vret B hr mμ4 dX0_layBall_71 h
  · have h := h.2 c1
    refine r_al1 dX0_layBall_18 ?_
    refine r_il2 dX0_layBall_19 ?_
    refine r_il8 dX0_layBall_20 ?_
    refine r_cVI2 B cb_X3_distance lk_X0_42 cv_X3_distance kd_70 (c_X3_distance (xl x) E hv2 hv8 hμ h) rfl rfl dX0_layBall_22 (fun r6 μ5 hr6 mμ5 h => ?_)
    refine r_il3 dX0_layBall_25 ?_
    refine r_icmp_gt 49 dX0_layBall_26 rfl hr6 hv3 (fun c7 => ?_) (fun c7 => ?_)
    · have h := h.1 c7
      refine r_inc8 dX0_layBall_49 rfl ?_
      obtain ⟨o8, h⟩ := h
      refine r_goto 9 dX0_layBall_52 rfl ?_
      exact J_weak (hX9 k v2 v3 v4 v6 (v8 + 1) μ5 h hk hv2 hv3 o8 mμ5) (⟨rfl, ⟨rfl, ⟨rfl, ⟨rfl, ⟨rfl, ⟨rfl, ⟨rfl, trivial⟩⟩⟩⟩⟩⟩⟩)
    · have h := h.2 c7
      refine r_ll4 dX0_layBall_29 ?_
      refine r_il8 dX0_layBall_31 ?_
      refine r_cSL1 B cb_X0_lowBit lk_X0_45 cs_X0_lowBit (c_X0_lowBit (xl x) E hv8 mμ5 h) rfl rfl dX0_layBall_33 (fun y10 μ9 mμ9 h => ?_)
      refine r_lor dX0_layBall_36 ?_
      refine n_topl (fun y11 ey11 => ?_)
      have h := h y11 ey11
      refine r_ls4 dX0_layBall_37 rfl ?_
      refine r_ll6 dX0_layBall_39 ?_
      refine r_il8 dX0_layBall_41 ?_
      refine r_cSL1 B cb_X0_highBit lk_X0_49 cs_X0_highBit (c_X0_highBit (xl x) E hv8 mμ9 h) rfl rfl dX0_layBall_43 (fun y13 μ12 mμ12 h => ?_)
      refine r_lor dX0_layBall_46 ?_
      refine n_topl (fun y14 ey14 => ?_)
      have h := h y14 ey14
      refine r_ls6 dX0_layBall_47 rfl ?_
      refine r_inc8 dX0_layBall_49 rfl ?_
      obtain ⟨o15, h⟩ := h
      refine r_goto 9 dX0_layBall_52 rfl ?_
      exact J_weak (hX9 k v2 v3 y11 y14 (v8 + 1) μ12 h hk hv2 hv3 o15 mμ12) (⟨rfl, ⟨rfl, ⟨rfl, ⟨rfl, ⟨rfl, ⟨rfl, ⟨rfl, trivial⟩⟩⟩⟩⟩⟩⟩)
set_option maxRecDepth 20000 in
theorem c_X0_layBall (l : Launch) (E : Gx) {k : Nat} {p1 : Int} {p2 : Int} {μ : Mem} {Q : Mem → Prop} (hk : isB k) (hp1 : inR p1) (hp2 : inR p2) (hμ : okM μ) (h : wp_X0_layBall k p1 p2 μ Q) : MT l yX0_layBall cX0_layBall 9 none E 3 0 0 z0 [rv E k, rv E 70, iv p1, iv p2] μ (QV E z0 Q) := by
  refine m_start [some (rv E k), some (rv E 70), some (iv p1), some (iv p2), none, none, none, none, none] (by decide) rfl rfl rfl (fun x hxl hxc hxs B hr hnm => ?_)
  unfold wp_X0_layBall at h
  refine r_lconst (v := 0) rfl dX0_layBall_0 ?_
  refine r_ls4 dX0_layBall_1 rfl ?_
  refine r_lconst (v := 0) rfl dX0_layBall_3 ?_
  refine r_ls6 dX0_layBall_4 rfl ?_
  refine r_iconst dX0_layBall_6 ?_
  refine r_is8 dX0_layBall_7 rfl ?_
  exact J_weak (t_X0_layBall_9 B hr hk hp1 hp2 (inR_k rfl) hμ h) (⟨rfl, ⟨rfl, ⟨rfl, ⟨rfl, ⟨rfl, ⟨rfl, ⟨rfl, trivial⟩⟩⟩⟩⟩⟩⟩)
set_option maxRecDepth 20000 in
theorem t_X0_lay_24 {x : Cx} {E : Gx} (B : Bd x E 4 4 "SlipCovers$Balls") (hr : (xt x).sig.returnType = none) {Q : Mem → Prop} {k : Nat} {v2 : Int} {v3 : Int} {μ : Mem} (hk : isB k) (hv2 : inR v2) (hv3 : inR v3) (hμ : okM μ) (h : LP4 (wp_X0_lay_24 Q) k v2 v3 μ) : J cX0_lay x E z0 μ 24 [some (rv E k), some (rv E 70), some (iv v2), some (iv v3)] [] (MQ (xb x) (QV E z0 Q) (xa x) (xs x) 0 0 (gA E)) := by
  refine LP4_ind (T := fun (k : Nat) (v2 : Int) (v3 : Int) (μ : Mem) => isB k → inR v2 → inR v3 → okM μ → J cX0_lay x E z0 μ 24 [some (rv E k), some (rv E 70), some (iv v2), some (iv v3)] [] (MQ (xb x) (QV E z0 Q) (xa x) (xs x) 0 0 (gA E))) (fun X24 hX24 k v2 v3 μ h hk hv2 hv3 hμ => ?_) h hk hv2 hv3 hμ
  unfold wp_X0_lay_24 at h
  refine r_il3 dX0_lay_24 ?_
  refine r_al0 dX0_lay_25 ?_
  refine r_getI B fg_X0_30 (hk).1 (kl (hk).1) dX0_lay_26 ?_
  refine r_icmp_ge 45 dX0_lay_29 rfl hv3 (hμ k 0) (fun c5 => ?_) (fun c5 => ?_)
  · have h := h.1 c5
    exact r_vret B hr hμ dX0_lay_45 h
  · have h := h.2 c5
    refine r_al0 dX0_lay_32 ?_
    refine r_al1 dX0_lay_33 ?_
    refine r_il3 dX0_lay_34 ?_
    refine r_il2 dX0_lay_35 ?_
    refine r_cVV3 B cb_X0_layBall lk_X0_38 cv_X0_layBall (hk).1 (c_X0_layBall (xl x) E hk hv3 hv2 hμ h) rfl rfl dX0_lay_36 (fun μ6 mμ6 h => ?_)
    refine r_inc3 dX0_lay_39 rfl ?_
    obtain ⟨o7, h⟩ := h
    refine r_goto 24 dX0_lay_42 rfl ?_
    exact J_weak (hX24 k v2 (v3 + 1) μ6 h hk hv2 o7 mμ6) (⟨rfl, ⟨rfl, ⟨rfl, ⟨rfl, trivial⟩⟩⟩⟩)
set_option maxRecDepth 20000 in
theorem c_X0_lay (l : Launch) (E : Gx) {k : Nat} {p1 : Int} {μ : Mem} {Q : Mem → Prop} (hk : isB k) (hp1 : inR p1) (hμ : okM μ) (h : wp_X0_lay k p1 μ Q) : MT l yX0_lay cX0_lay 4 none E 4 0 0 z0 [rv E k, rv E 70, iv p1] μ (QV E z0 Q) := by
  refine m_start [some (rv E k), some (rv E 70), some (iv p1), none] (by decide) rfl rfl rfl (fun x hxl hxc hxs B hr hnm => ?_)
  unfold wp_X0_lay at h
  refine r_al0 dX0_lay_0 ?_
  refine r_al1 dX0_lay_1 ?_
  refine r_getIN B fg_X0_18 kd_70 (kl kd_70) dX0_lay_2 ?_
  refine r_bipush dX0_lay_5 (by decide) ?_
  refine r_mmin B lk_X0_24 (hμ 70 0) (inR_k rfl) rfl dX0_lay_7 ?_
  refine r_putI B fg_X0_30 fp_0_0 (hk).1 (kl (hk).1) dX0_lay_10 ?_
  refine n_mem (fun μ1 eμ1 => ?_)
  have h := h μ1 eμ1
  have mμ1 : okM μ1 := eqM eμ1 (okM_sI hμ (inR_min (hμ 70 0) (inR_k rfl)))
  refine r_al0 dX0_lay_13 ?_
  refine r_al1 dX0_lay_14 ?_
  refine r_il2 dX0_lay_15 ?_
  refine r_cVI1 B cb_X3_ballSize lk_X0_31 cv_X3_ballSize kd_70 (c_X3_ballSize (xl x) E hp1 mμ1 h) rfl rfl dX0_lay_16 (fun r3 μ2 hr3 mμ2 h => ?_)
  refine r_putI B fg_X0_35 fp_0_1 (hk).1 (kl (hk).1) dX0_lay_19 ?_
  refine n_mem (fun μ4 eμ4 => ?_)
  have h := h μ4 eμ4
  have mμ4 : okM μ4 := eqM eμ4 (okM_sI mμ2 hr3)
  refine r_iconst dX0_lay_22 ?_
  refine r_is3 dX0_lay_23 rfl ?_
  exact J_weak (t_X0_lay_24 B hr hk hp1 (inR_k rfl) mμ4 h) (⟨rfl, ⟨rfl, ⟨rfl, ⟨rfl, trivial⟩⟩⟩⟩)
set_option maxRecDepth 20000 in
theorem c_X0_lowAll (l : Launch) (E : Gx) {k : Nat} {μ : Mem} {Q : Int64 → Mem → Prop} (hk : isB k) (hμ : okM μ) (h : wp_X0_lowAll k μ Q) : MT l yX0_lowAll cX0_lowAll 1 (some .long) E 1 0 0 z0 [rv E k] μ (QL E z0 Q) := by
  refine m_start [some (rv E k)] (by decide) rfl rfl rfl (fun x hxl hxc hxs B hr hnm => ?_)
  unfold wp_X0_lowAll at h
  refine r_al0 dX0_lowAll_0 ?_
  refine r_getI B fg_X0_30 (hk).1 (kl (hk).1) dX0_lowAll_1 ?_
  refine r_bipush dX0_lowAll_4 (by decide) ?_
  refine r_icmp_lt 15 dX0_lowAll_6 rfl (hμ k 0) (inR_k rfl) (fun c1 => ?_) (fun c1 => ?_)
  · have h := h.1 c1
    refine r_lconst (v := 1) rfl dX0_lowAll_15 ?_
    refine r_al0 dX0_lowAll_16 ?_
    refine r_getI B fg_X0_30 (hk).1 (kl (hk).1) dX0_lowAll_17 ?_
    refine r_lshl dX0_lowAll_20 ?_
    refine r_lconst (v := 1) rfl dX0_lowAll_21 ?_
    refine r_lsub dX0_lowAll_22 ?_
    exact r_lret B hr hμ dX0_lowAll_23 h
  · have h := h.2 c1
    refine r_ldc2 B kc_X0_52 dX0_lowAll_9 ?_
    refine r_goto 23 dX0_lowAll_12 rfl ?_
    exact r_lret B hr hμ dX0_lowAll_23 h
set_option maxRecDepth 20000 in
theorem c_X0_highAll (l : Launch) (E : Gx) {k : Nat} {μ : Mem} {Q : Int64 → Mem → Prop} (hk : isB k) (hμ : okM μ) (h : wp_X0_highAll k μ Q) : MT l yX0_highAll cX0_highAll 1 (some .long) E 1 0 0 z0 [rv E k] μ (QL E z0 Q) := by
  refine m_start [some (rv E k)] (by decide) rfl rfl rfl (fun x hxl hxc hxs B hr hnm => ?_)
  unfold wp_X0_highAll at h
  refine r_al0 dX0_highAll_0 ?_
  refine r_getI B fg_X0_30 (hk).1 (kl (hk).1) dX0_highAll_1 ?_
  refine r_bipush dX0_highAll_4 (by decide) ?_
  refine r_icmp_le 23 dX0_highAll_6 rfl (hμ k 0) (inR_k rfl) (fun c1 => ?_) (fun c1 => ?_)
  · have h := h.1 c1
    refine r_lconst (v := 0) rfl dX0_highAll_23 ?_
    exact r_lret B hr hμ dX0_highAll_24 h
  · have h := h.2 c1
    refine r_lconst (v := 1) rfl dX0_highAll_9 ?_
    refine r_al0 dX0_highAll_10 ?_
    refine r_getI B fg_X0_30 (hk).1 (kl (hk).1) dX0_highAll_11 ?_
    refine r_bipush dX0_highAll_14 (by decide) ?_
    refine r_isub dX0_highAll_16 ?_
    refine r_lshl dX0_highAll_17 ?_
    refine r_lconst (v := 1) rfl dX0_highAll_18 ?_
    refine r_lsub dX0_highAll_19 ?_
    refine r_goto 24 dX0_highAll_20 rfl ?_
    exact r_lret B hr hμ dX0_highAll_24 h
set_option maxRecDepth 20000 in
theorem c_J13_bitCount_95d88 (l : Launch) (E : Gx) {p0 : Int64} {μ : Mem} {Q : Int → Mem → Prop} (hμ : okM μ) (h : wp_J13_bitCount_95d88 p0 μ Q) : MT l yJ13_bitCount_95d88 cJ13_bitCount_95d88 2 (some .int) E 1 0 0 z0 [.long p0] μ (QI E z0 Q) := by
  refine m_start [some (.long p0), none] (by decide) rfl rfl rfl (fun x hxl hxc hxs B hr hnm => ?_)
  unfold wp_J13_bitCount_95d88 at h
  refine r_ll0 dJ13_bitCount_95d88_0 ?_
  refine r_ll0 dJ13_bitCount_95d88_1 ?_
  refine r_iconst dJ13_bitCount_95d88_2 ?_
  refine r_lushr dJ13_bitCount_95d88_3 ?_
  refine r_ldc2 B kc_J13_314 dJ13_bitCount_95d88_4 ?_
  refine r_land dJ13_bitCount_95d88_7 ?_
  refine r_lsub dJ13_bitCount_95d88_8 ?_
  refine n_topl (fun y1 ey1 => ?_)
  have h := h y1 ey1
  refine r_ls0 dJ13_bitCount_95d88_9 rfl ?_
  refine r_ll0 dJ13_bitCount_95d88_10 ?_
  refine r_ldc2 B kc_J13_316 dJ13_bitCount_95d88_11 ?_
  refine r_land dJ13_bitCount_95d88_14 ?_
  refine r_ll0 dJ13_bitCount_95d88_15 ?_
  refine r_iconst dJ13_bitCount_95d88_16 ?_
  refine r_lushr dJ13_bitCount_95d88_17 ?_
  refine r_ldc2 B kc_J13_316 dJ13_bitCount_95d88_18 ?_
  refine r_land dJ13_bitCount_95d88_21 ?_
  refine r_ladd dJ13_bitCount_95d88_22 ?_
  refine n_topl (fun y2 ey2 => ?_)
  have h := h y2 ey2
  refine r_ls0 dJ13_bitCount_95d88_23 rfl ?_
  refine r_ll0 dJ13_bitCount_95d88_24 ?_
  refine r_ll0 dJ13_bitCount_95d88_25 ?_
  refine r_iconst dJ13_bitCount_95d88_26 ?_
  refine r_lushr dJ13_bitCount_95d88_27 ?_
  refine r_ladd dJ13_bitCount_95d88_28 ?_
  refine r_ldc2 B kc_J13_318 dJ13_bitCount_95d88_29 ?_
  refine r_land dJ13_bitCount_95d88_32 ?_
  refine n_topl (fun y3 ey3 => ?_)
  have h := h y3 ey3
  refine r_ls0 dJ13_bitCount_95d88_33 rfl ?_
  refine r_ll0 dJ13_bitCount_95d88_34 ?_
  refine r_ll0 dJ13_bitCount_95d88_35 ?_
  refine r_bipush dJ13_bitCount_95d88_36 (by decide) ?_
  refine r_lushr dJ13_bitCount_95d88_38 ?_
  refine r_ladd dJ13_bitCount_95d88_39 ?_
  refine n_topl (fun y4 ey4 => ?_)
  have h := h y4 ey4
  refine r_ls0 dJ13_bitCount_95d88_40 rfl ?_
  refine r_ll0 dJ13_bitCount_95d88_41 ?_
  refine r_ll0 dJ13_bitCount_95d88_42 ?_
  refine r_bipush dJ13_bitCount_95d88_43 (by decide) ?_
  refine r_lushr dJ13_bitCount_95d88_45 ?_
  refine r_ladd dJ13_bitCount_95d88_46 ?_
  refine n_topl (fun y5 ey5 => ?_)
  have h := h y5 ey5
  refine r_ls0 dJ13_bitCount_95d88_47 rfl ?_
  refine r_ll0 dJ13_bitCount_95d88_48 ?_
  refine r_ll0 dJ13_bitCount_95d88_49 ?_
  refine r_bipush dJ13_bitCount_95d88_50 (by decide) ?_
  refine r_lushr dJ13_bitCount_95d88_52 ?_
  refine r_ladd dJ13_bitCount_95d88_53 ?_
  refine n_topl (fun y6 ey6 => ?_)
  have h := h y6 ey6
  refine r_ls0 dJ13_bitCount_95d88_54 rfl ?_
  refine r_ll0 dJ13_bitCount_95d88_55 ?_
  refine r_l2i dJ13_bitCount_95d88_56 ?_
  refine r_bipush dJ13_bitCount_95d88_57 (by decide) ?_
  refine r_iand dJ13_bitCount_95d88_59 ?_
  exact r_iret B hr (inR_t _) hμ dJ13_bitCount_95d88_60 h
set_option maxRecDepth 20000 in
theorem c_X0_countOf (l : Launch) (E : Gx) {p0 : Int64} {p1 : Int64} {μ : Mem} {Q : Int → Mem → Prop} (hμ : okM μ) (h : wp_X0_countOf p0 p1 μ Q) : MT l yX0_countOf cX0_countOf 4 (some .int) E 2 0 0 z0 [.long p0, .long p1] μ (QI E z0 Q) := by
  refine m_start [some (.long p0), none, some (.long p1), none] (by decide) rfl rfl rfl (fun x hxl hxc hxs B hr hnm => ?_)
  unfold wp_X0_countOf at h
  refine r_ll0 dX0_countOf_0 ?_
  refine r_cSI1 B cb_J13_bitCount_95d88 lk_X0_54 cs_J13_bitCount_95d88 (c_J13_bitCount_95d88 (xl x) E hμ h) rfl rfl dX0_countOf_1 (fun r2 μ1 hr2 mμ1 h => ?_)
  refine r_ll2 dX0_countOf_4 ?_
  refine r_cSI1 B cb_J13_bitCount_95d88 lk_X0_54 cs_J13_bitCount_95d88 (c_J13_bitCount_95d88 (xl x) E mμ1 h) rfl rfl dX0_countOf_5 (fun r4 μ3 hr4 mμ3 h => ?_)
  refine r_iadd dX0_countOf_8 ?_
  obtain ⟨o5, h⟩ := h
  exact r_iret B hr o5 mμ3 dX0_countOf_9 h
set_option maxRecDepth 20000 in
theorem c_X0_firstOf (l : Launch) (E : Gx) {p0 : Int64} {p1 : Int64} {μ : Mem} {Q : Int → Mem → Prop} (hμ : okM μ) (h : wp_X0_firstOf p0 p1 μ Q) : MT l yX0_firstOf cX0_firstOf 4 (some .int) E 2 0 0 z0 [.long p0, .long p1] μ (QI E z0 Q) := by
  refine m_start [some (.long p0), none, some (.long p1), none] (by decide) rfl rfl rfl (fun x hxl hxc hxs B hr hnm => ?_)
  unfold wp_X0_firstOf at h
  refine r_ll0 dX0_firstOf_0 ?_
  refine r_lconst (v := 0) rfl dX0_firstOf_1 ?_
  refine r_lcmp dX0_firstOf_2 ?_
  refine r_if_eq 16 dX0_firstOf_3 rfl (inR_t _) (fun c1 => ?_) (fun c1 => ?_)
  · have h := h.1 c1
    refine r_bipush dX0_firstOf_16 (by decide) ?_
    refine r_ll2 dX0_firstOf_18 ?_
    refine r_ll2 dX0_firstOf_19 ?_
    refine r_lneg dX0_firstOf_20 ?_
    refine r_land dX0_firstOf_21 ?_
    refine r_lconst (v := 1) rfl dX0_firstOf_22 ?_
    refine r_lsub dX0_firstOf_23 ?_
    refine r_cSI1 B cb_J13_bitCount_95d88 lk_X0_54 cs_J13_bitCount_95d88 (c_J13_bitCount_95d88 (xl x) E hμ h) rfl rfl dX0_firstOf_24 (fun r3 μ2 hr3 mμ2 h => ?_)
    refine r_iadd dX0_firstOf_27 ?_
    obtain ⟨o4, h⟩ := h
    exact r_iret B hr o4 mμ2 dX0_firstOf_28 h
  · have h := h.2 c1
    refine r_ll0 dX0_firstOf_6 ?_
    refine r_ll0 dX0_firstOf_7 ?_
    refine r_lneg dX0_firstOf_8 ?_
    refine r_land dX0_firstOf_9 ?_
    refine r_lconst (v := 1) rfl dX0_firstOf_10 ?_
    refine r_lsub dX0_firstOf_11 ?_
    refine r_cSI1 B cb_J13_bitCount_95d88 lk_X0_54 cs_J13_bitCount_95d88 (c_J13_bitCount_95d88 (xl x) E hμ h) rfl rfl dX0_firstOf_12 (fun r6 μ5 hr6 mμ5 h => ?_)
    exact r_iret B hr hr6 mμ5 dX0_firstOf_15 h
set_option maxRecDepth 20000 in
theorem t_J7_fill_d0a16_6 {x : Cx} {E : Gx} (B : Bd x E 1 5 "java/util/Arrays") (hr : (xt x).sig.returnType = none) {Q : Mem → Prop} {v0 : Nat} {nv0 : Nat} {v1 : Int64} {v3 : Int} {v4 : Int} {μ : Mem} (hv0 : kd v0 = (2, nv0)) (hv3 : inR v3) (hv4 : inR v4) (hμ : okM μ) (h : LP6 (wp_J7_fill_d0a16_6 Q) v0 nv0 v1 v3 v4 μ) : J cJ7_fill_d0a16 x E z0 μ 6 [some (rv E v0), some (.long v1), none, some (iv v3), some (iv v4)] [] (MQ (xb x) (QV E z0 Q) (xa x) (xs x) 0 0 (gA E)) := by
  refine LP6_ind (T := fun (v0 : Nat) (nv0 : Nat) (v1 : Int64) (v3 : Int) (v4 : Int) (μ : Mem) => kd v0 = (2, nv0) → inR v3 → inR v4 → okM μ → J cJ7_fill_d0a16 x E z0 μ 6 [some (rv E v0), some (.long v1), none, some (iv v3), some (iv v4)] [] (MQ (xb x) (QV E z0 Q) (xa x) (xs x) 0 0 (gA E))) (fun X6 hX6 v0 nv0 v1 v3 v4 μ h hv0 hv3 hv4 hμ => ?_) h hv0 hv3 hv4 hμ
  unfold wp_J7_fill_d0a16_6 at h
  refine r_il3 dJ7_fill_d0a16_6 ?_
  refine r_il4 dJ7_fill_d0a16_7 ?_
  refine r_icmp_ge 22 dJ7_fill_d0a16_9 rfl hv3 hv4 (fun c1 => ?_) (fun c1 => ?_)
  · have h := h.1 c1
    exact r_vret B hr hμ dJ7_fill_d0a16_22 h
  · have h := h.2 c1
    refine r_al0 dJ7_fill_d0a16_12 ?_
    refine r_il3 dJ7_fill_d0a16_13 ?_
    refine r_ll1 dJ7_fill_d0a16_14 ?_
    obtain ⟨o2, h⟩ := h
    refine r_last B hv0 (kl hv0) (kN hv0) o2 dJ7_fill_d0a16_15 ?_
    refine n_mem (fun μ3 eμ3 => ?_)
    have h := h μ3 eμ3
    have mμ3 : okM μ3 := eqM eμ3 (okM_sL hμ)
    refine r_inc3 dJ7_fill_d0a16_16 rfl ?_
    obtain ⟨o4, h⟩ := h
    refine r_goto 6 dJ7_fill_d0a16_19 rfl ?_
    exact J_weak (hX6 v0 nv0 v1 (v3 + 1) v4 μ3 h hv0 o4 hv4 mμ3) (⟨rfl, ⟨rfl, ⟨rfl, ⟨rfl, trivial⟩⟩⟩⟩)
set_option maxRecDepth 20000 in
theorem c_J7_fill_d0a16 (l : Launch) (E : Gx) {p0 : Nat} {np0 : Nat} {p1 : Int64} {μ : Mem} {Q : Mem → Prop} (hp0 : kd p0 = (2, np0)) (hμ : okM μ) (h : wp_J7_fill_d0a16 p0 np0 p1 μ Q) : MT l yJ7_fill_d0a16 cJ7_fill_d0a16 5 none E 1 0 0 z0 [rv E p0, .long p1] μ (QV E z0 Q) := by
  refine m_start [some (rv E p0), some (.long p1), none, none, none] (by decide) rfl rfl rfl (fun x hxl hxc hxs B hr hnm => ?_)
  unfold wp_J7_fill_d0a16 at h
  refine r_iconst dJ7_fill_d0a16_0 ?_
  refine r_is3 dJ7_fill_d0a16_1 rfl ?_
  refine r_al0 dJ7_fill_d0a16_2 ?_
  refine r_alenL B hp0 (kl hp0) dJ7_fill_d0a16_3 ?_
  refine r_is4 dJ7_fill_d0a16_4 rfl ?_
  exact J_weak (t_J7_fill_d0a16_6 B hr hp0 (inR_k rfl) (kR hp0) hμ h) (⟨rfl, ⟨rfl, ⟨rfl, ⟨rfl, trivial⟩⟩⟩⟩)
set_option maxRecDepth 20000 in
theorem c_X1_dropAll (l : Launch) (E : Gx) {k : Nat} {μ : Mem} {Q : Mem → Prop} (hk : isC k) (hμ : okM μ) (h : wp_X1_dropAll k μ Q) : MT l yX1_dropAll cX1_dropAll 1 none E 2 0 0 z0 [rv E k] μ (QV E z0 Q) := by
  refine m_start [some (rv E k)] (by decide) rfl rfl rfl (fun x hxl hxc hxs B hr hnm => ?_)
  unfold wp_X1_dropAll at h
  refine r_al0 dX1_dropAll_0 ?_
  refine r_iconst dX1_dropAll_1 ?_
  refine r_putI B fg_X1_36 fp_1_3 (hk).1 (kl (hk).1) dX1_dropAll_2 ?_
  refine n_mem (fun μ1 eμ1 => ?_)
  have h := h μ1 eμ1
  have mμ1 : okM μ1 := eqM eμ1 (okM_sI hμ (inR_k rfl))
  refine r_al0 dX1_dropAll_5 ?_
  refine r_getR B (k + 3) fg_X1_22 (hk).1 (kl (hk).1) (ρo (off := 3) (hk).1 rfl) dX1_dropAll_6 ?_
  refine r_lconst (v := 0) rfl dX1_dropAll_9 ?_
  refine r_cSV2 B cb_J7_fill_d0a16 lk_X1_39 cs_J7_fill_d0a16 (c_J7_fill_d0a16 (xl x) E (hk).2.2.2 mμ1 h) rfl rfl dX1_dropAll_10 (fun μ2 mμ2 h => ?_)
  exact r_vret B hr mμ2 dX1_dropAll_13 h
set_option maxRecDepth 20000 in
theorem c_X1_clear (l : Launch) (E : Gx) {k : Nat} {μ : Mem} {Q : Mem → Prop} (hk : isC k) (hμ : okM μ) (h : wp_X1_clear k μ Q) : MT l yX1_clear cX1_clear 1 none E 3 0 0 z0 [rv E k] μ (QV E z0 Q) := by
  refine m_start [some (rv E k)] (by decide) rfl rfl rfl (fun x hxl hxc hxs B hr hnm => ?_)
  unfold wp_X1_clear at h
  refine r_al0 dX1_clear_0 ?_
  refine r_iconst dX1_clear_1 ?_
  refine r_putZ B fg_X1_26 fp_1_0 (hk).1 (kl (hk).1) (Or.inl rfl) dX1_clear_2 ?_
  refine n_mem (fun μ1 eμ1 => ?_)
  have h := h μ1 eμ1
  have mμ1 : okM μ1 := eqM eμ1 (okM_sI hμ (inR_k rfl))
  refine r_al0 dX1_clear_5 ?_
  refine r_iconst dX1_clear_6 ?_
  refine r_putI B fg_X1_30 fp_1_1 (hk).1 (kl (hk).1) dX1_clear_7 ?_
  refine n_mem (fun μ2 eμ2 => ?_)
  have h := h μ2 eμ2
  have mμ2 : okM μ2 := eqM eμ2 (okM_sI mμ1 (inR_k rfl))
  refine r_al0 dX1_clear_10 ?_
  refine r_iconst dX1_clear_11 ?_
  refine r_putI B fg_X1_9 fp_1_2 (hk).1 (kl (hk).1) dX1_clear_12 ?_
  refine n_mem (fun μ3 eμ3 => ?_)
  have h := h μ3 eμ3
  have mμ3 : okM μ3 := eqM eμ3 (okM_sI mμ2 (inR_k rfl))
  refine r_al0 dX1_clear_15 ?_
  refine r_cVV0 B cb_X1_dropAll lk_X1_33 cv_X1_dropAll (hk).1 (c_X1_dropAll (xl x) E hk mμ3 h) rfl rfl dX1_clear_16 (fun μ4 mμ4 h => ?_)
  exact r_vret B hr mμ4 dX1_clear_19 h
set_option maxRecDepth 20000 in
theorem c_X1_copySpace (l : Launch) (E : Gx) {k : Nat} {p0 : Nat} {μ : Mem} {Q : Mem → Prop} (hk : isC k) (hp0 : isC p0) (hμ : okM μ) (h : wp_X1_copySpace k p0 μ Q) : MT l yX1_copySpace cX1_copySpace 2 none E 3 0 0 z0 [rv E k, rv E p0] μ (QV E z0 Q) := by
  refine m_start [some (rv E k), some (rv E p0)] (by decide) rfl rfl rfl (fun x hxl hxc hxs B hr hnm => ?_)
  unfold wp_X1_copySpace at h
  refine r_al0 dX1_copySpace_0 ?_
  refine r_iconst dX1_copySpace_1 ?_
  refine r_putZ B fg_X1_26 fp_1_0 (hk).1 (kl (hk).1) (Or.inr rfl) dX1_copySpace_2 ?_
  refine n_mem (fun μ1 eμ1 => ?_)
  have h := h μ1 eμ1
  have mμ1 : okM μ1 := eqM eμ1 (okM_sI hμ (inR_k rfl))
  refine r_al0 dX1_copySpace_5 ?_
  refine r_al1 dX1_copySpace_6 ?_
  refine r_getI B fg_X1_30 (hp0).1 (kl (hp0).1) dX1_copySpace_7 ?_
  refine r_putI B fg_X1_30 fp_1_1 (hk).1 (kl (hk).1) dX1_copySpace_10 ?_
  refine n_mem (fun μ2 eμ2 => ?_)
  have h := h μ2 eμ2
  have mμ2 : okM μ2 := eqM eμ2 (okM_sI mμ1 (mμ1 p0 1))
  refine r_al0 dX1_copySpace_13 ?_
  refine r_al1 dX1_copySpace_14 ?_
  refine r_getI B fg_X1_9 (hp0).1 (kl (hp0).1) dX1_copySpace_15 ?_
  refine r_putI B fg_X1_9 fp_1_2 (hk).1 (kl (hk).1) dX1_copySpace_18 ?_
  refine n_mem (fun μ3 eμ3 => ?_)
  have h := h μ3 eμ3
  have mμ3 : okM μ3 := eqM eμ3 (okM_sI mμ2 (mμ2 p0 2))
  refine r_al1 dX1_copySpace_21 ?_
  refine r_getR B (p0 + 1) fg_X1_15 (hp0).1 (kl (hp0).1) (ρo (off := 1) (hp0).1 rfl) dX1_copySpace_22 ?_
  refine r_iconst dX1_copySpace_25 ?_
  refine r_al0 dX1_copySpace_26 ?_
  refine r_getR B (k + 1) fg_X1_15 (hk).1 (kl (hk).1) (ρo (off := 1) (hk).1 rfl) dX1_copySpace_27 ?_
  refine r_iconst dX1_copySpace_30 ?_
  refine r_bipush dX1_copySpace_31 (by decide) ?_
  refine r_cpI B lk_X1_49 (hp0).2.1 (hk).2.1 (by decide) (by decide) (by decide) ac_w dX1_copySpace_33 ?_
  refine n_mem (fun μ5 eμ5 => ?_)
  have h := h μ5 eμ5
  have mμ5 : okM μ5 := eqM eμ5 (okM_cpI mμ3)
  refine r_al1 dX1_copySpace_36 ?_
  refine r_getR B (p0 + 2) fg_X1_19 (hp0).1 (kl (hp0).1) (ρo (off := 2) (hp0).1 rfl) dX1_copySpace_37 ?_
  refine r_iconst dX1_copySpace_40 ?_
  refine r_al0 dX1_copySpace_41 ?_
  refine r_getR B (k + 2) fg_X1_19 (hk).1 (kl (hk).1) (ρo (off := 2) (hk).1 rfl) dX1_copySpace_42 ?_
  refine r_iconst dX1_copySpace_45 ?_
  refine r_bipush dX1_copySpace_46 (by decide) ?_
  refine r_cpI B lk_X1_49 (hp0).2.2.1 (hk).2.2.1 (by decide) (by decide) (by decide) ac_w dX1_copySpace_48 ?_
  refine n_mem (fun μ7 eμ7 => ?_)
  have h := h μ7 eμ7
  have mμ7 : okM μ7 := eqM eμ7 (okM_cpI mμ5)
  refine r_al0 dX1_copySpace_51 ?_
  refine r_cVV0 B cb_X1_dropAll lk_X1_33 cv_X1_dropAll (hk).1 (c_X1_dropAll (xl x) E hk mμ7 h) rfl rfl dX1_copySpace_52 (fun μ8 mμ8 h => ?_)
  exact r_vret B hr mμ8 dX1_copySpace_55 h
set_option maxRecDepth 20000 in
theorem c_X1_copy (l : Launch) (E : Gx) {k : Nat} {p0 : Nat} {μ : Mem} {Q : Mem → Prop} (hk : isC k) (hp0 : isC p0) (hμ : okM μ) (h : wp_X1_copy k p0 μ Q) : MT l yX1_copy cX1_copy 2 none E 4 0 0 z0 [rv E k, rv E p0] μ (QV E z0 Q) := by
  refine m_start [some (rv E k), some (rv E p0)] (by decide) rfl rfl rfl (fun x hxl hxc hxs B hr hnm => ?_)
  unfold wp_X1_copy at h
  refine r_al0 dX1_copy_0 ?_
  refine r_al1 dX1_copy_1 ?_
  refine r_cVV1 B cb_X1_copySpace lk_X1_45 cv_X1_copySpace (hk).1 (c_X1_copySpace (xl x) E hk hp0 hμ h) rfl rfl dX1_copy_2 (fun μ1 mμ1 h => ?_)
  refine r_al0 dX1_copy_5 ?_
  refine r_al1 dX1_copy_6 ?_
  refine r_getI B fg_X1_26 (hp0).1 (kl (hp0).1) dX1_copy_7 ?_
  obtain ⟨o2, h⟩ := h
  refine r_putZ B fg_X1_26 fp_1_0 (hk).1 (kl (hk).1) o2 dX1_copy_10 ?_
  refine n_mem (fun μ3 eμ3 => ?_)
  have h := h μ3 eμ3
  have mμ3 : okM μ3 := eqM eμ3 (okM_sI mμ1 (mμ1 p0 0))
  refine r_al0 dX1_copy_13 ?_
  refine r_al1 dX1_copy_14 ?_
  refine r_getI B fg_X1_36 (hp0).1 (kl (hp0).1) dX1_copy_15 ?_
  refine r_putI B fg_X1_36 fp_1_3 (hk).1 (kl (hk).1) dX1_copy_18 ?_
  refine n_mem (fun μ4 eμ4 => ?_)
  have h := h μ4 eμ4
  have mμ4 : okM μ4 := eqM eμ4 (okM_sI mμ3 (mμ3 p0 3))
  refine r_al1 dX1_copy_21 ?_
  refine r_getR B (p0 + 3) fg_X1_22 (hp0).1 (kl (hp0).1) (ρo (off := 3) (hp0).1 rfl) dX1_copy_22 ?_
  refine r_iconst dX1_copy_25 ?_
  refine r_al0 dX1_copy_26 ?_
  refine r_getR B (k + 3) fg_X1_22 (hk).1 (kl (hk).1) (ρo (off := 3) (hk).1 rfl) dX1_copy_27 ?_
  refine r_iconst dX1_copy_30 ?_
  refine r_al0 dX1_copy_31 ?_
  refine r_getR B (k + 3) fg_X1_22 (hk).1 (kl (hk).1) (ρo (off := 3) (hk).1 rfl) dX1_copy_32 ?_
  refine r_alenL B (hk).2.2.2 (kl (hk).2.2.2) dX1_copy_35 ?_
  refine r_cpL B lk_X1_49 (hp0).2.2.2 (hk).2.2.2 (by decide) (by decide) (by decide) ac_w dX1_copy_36 ?_
  refine n_mem (fun μ6 eμ6 => ?_)
  have h := h μ6 eμ6
  have mμ6 : okM μ6 := eqM eμ6 (okM_cpL mμ4)
  exact r_vret B hr mμ6 dX1_copy_39 h
set_option maxRecDepth 20000 in
theorem c_X1_hasRoomFor (l : Launch) (E : Gx) {k : Nat} {p0 : Int} {μ : Mem} {Q : Int → Mem → Prop} (hk : isC k) (hp0 : inR p0) (hμ : okM μ) (h : wp_X1_hasRoomFor k p0 μ Q) : MT l yX1_hasRoomFor cX1_hasRoomFor 2 (some .boolean) E 1 0 0 z0 [rv E k, iv p0] μ (QI E z0 Q) := by
  refine m_start [some (rv E k), some (iv p0)] (by decide) rfl rfl rfl (fun x hxl hxc hxs B hr hnm => ?_)
  unfold wp_X1_hasRoomFor at h
  refine r_al0 dX1_hasRoomFor_0 ?_
  refine r_getI B fg_X1_30 (hk).1 (kl (hk).1) dX1_hasRoomFor_1 ?_
  refine r_bipush dX1_hasRoomFor_4 (by decide) ?_
  refine r_icmp_ge 25 dX1_hasRoomFor_6 rfl (hμ k 1) (inR_k rfl) (fun c1 => ?_) (fun c1 => ?_)
  · have h := h.1 c1
    refine r_iconst dX1_hasRoomFor_25 ?_
    exact r_zret B hr (Or.inl rfl) hμ dX1_hasRoomFor_26 h
  · have h := h.2 c1
    refine r_al0 dX1_hasRoomFor_9 ?_
    refine r_getI B fg_X1_9 (hk).1 (kl (hk).1) dX1_hasRoomFor_10 ?_
    refine r_il1 dX1_hasRoomFor_13 ?_
    refine r_imul dX1_hasRoomFor_14 ?_
    refine r_sipush dX1_hasRoomFor_15 (by decide) ?_
    obtain ⟨o2, h⟩ := h
    refine r_icmp_gt 25 dX1_hasRoomFor_18 rfl o2 (inR_k rfl) (fun c3 => ?_) (fun c3 => ?_)
    · have h := h.1 c3
      refine r_iconst dX1_hasRoomFor_25 ?_
      exact r_zret B hr (Or.inl rfl) hμ dX1_hasRoomFor_26 h
    · have h := h.2 c3
      refine r_iconst dX1_hasRoomFor_21 ?_
      refine r_goto 26 dX1_hasRoomFor_22 rfl ?_
      exact r_zret B hr (Or.inr rfl) hμ dX1_hasRoomFor_26 h
set_option maxRecDepth 20000 in
theorem c_X7_isWeight (l : Launch) (E : Gx) {p0 : Int} {μ : Mem} {Q : Int → Mem → Prop} (hp0 : inR p0) (hμ : okM μ) (h : wp_X7_isWeight p0 μ Q) : MT l yX7_isWeight cX7_isWeight 1 (some .boolean) E 1 0 0 z0 [iv p0] μ (QI E z0 Q) := by
  refine m_start [some (iv p0)] (by decide) rfl rfl rfl (fun x hxl hxc hxs B hr hnm => ?_)
  unfold wp_X7_isWeight at h
  refine r_il0 dX7_isWeight_0 ?_
  refine r_iconst dX7_isWeight_1 ?_
  refine r_icmp_lt 14 dX7_isWeight_2 rfl hp0 (inR_k rfl) (fun c1 => ?_) (fun c1 => ?_)
  · have h := h.1 c1
    refine r_iconst dX7_isWeight_14 ?_
    exact r_zret B hr (Or.inl rfl) hμ dX7_isWeight_15 h
  · have h := h.2 c1
    refine r_il0 dX7_isWeight_5 ?_
    refine r_iconst dX7_isWeight_6 ?_
    refine r_icmp_gt 14 dX7_isWeight_7 rfl hp0 (inR_k rfl) (fun c2 => ?_) (fun c2 => ?_)
    · have h := h.1 c2
      refine r_iconst dX7_isWeight_14 ?_
      exact r_zret B hr (Or.inl rfl) hμ dX7_isWeight_15 h
    · have h := h.2 c2
      refine r_iconst dX7_isWeight_10 ?_
      refine r_goto 15 dX7_isWeight_11 rfl ?_
      exact r_zret B hr (Or.inr rfl) hμ dX7_isWeight_15 h
set_option maxRecDepth 20000 in
theorem c_X7_isSize (l : Launch) (E : Gx) {p0 : Int} {μ : Mem} {Q : Int → Mem → Prop} (hp0 : inR p0) (hμ : okM μ) (h : wp_X7_isSize p0 μ Q) : MT l yX7_isSize cX7_isSize 1 (some .boolean) E 1 0 0 z0 [iv p0] μ (QI E z0 Q) := by
  refine m_start [some (iv p0)] (by decide) rfl rfl rfl (fun x hxl hxc hxs B hr hnm => ?_)
  unfold wp_X7_isSize at h
  refine r_il0 dX7_isSize_0 ?_
  refine r_iconst dX7_isSize_1 ?_
  refine r_icmp_lt 14 dX7_isSize_2 rfl hp0 (inR_k rfl) (fun c1 => ?_) (fun c1 => ?_)
  · have h := h.1 c1
    refine r_iconst dX7_isSize_14 ?_
    exact r_zret B hr (Or.inl rfl) hμ dX7_isSize_15 h
  · have h := h.2 c1
    refine r_il0 dX7_isSize_5 ?_
    refine r_iconst dX7_isSize_6 ?_
    refine r_icmp_gt 14 dX7_isSize_7 rfl hp0 (inR_k rfl) (fun c2 => ?_) (fun c2 => ?_)
    · have h := h.1 c2
      refine r_iconst dX7_isSize_14 ?_
      exact r_zret B hr (Or.inl rfl) hμ dX7_isSize_15 h
    · have h := h.2 c2
      refine r_iconst dX7_isSize_10 ?_
      refine r_goto 15 dX7_isSize_11 rfl ?_
      exact r_zret B hr (Or.inr rfl) hμ dX7_isSize_15 h
set_option maxRecDepth 20000 in
theorem c_X1_addPlace (l : Launch) (E : Gx) {k : Nat} {p0 : Int} {p1 : Int} {μ : Mem} {Q : Int → Mem → Prop} (hk : isC k) (hp0 : inR p0) (hp1 : inR p1) (hμ : okM μ) (h : wp_X1_addPlace k p0 p1 μ Q) : MT l yX1_addPlace cX1_addPlace 3 (some .boolean) E 2 0 0 z0 [rv E k, iv p0, iv p1] μ (QI E z0 Q) := by
  refine m_start [some (rv E k), some (iv p0), some (iv p1)] (by decide) rfl rfl rfl (fun x hxl hxc hxs B hr hnm => ?_)
  unfold wp_X1_addPlace at h
  refine r_il1 dX1_addPlace_0 ?_
  refine r_cSI1N B cb_X7_isSize lk_X1_55 cs_X7_isSize (c_X7_isSize (xl x) E hp0 hμ h) rfl rfl dX1_addPlace_1 (fun r2 μ1 hr2 mμ1 h => ?_)
  refine r_if_eq 22 dX1_addPlace_4 rfl hr2 (fun c3 => ?_) (fun c3 => ?_)
  · have h := h.1 c3
    refine r_iconst dX1_addPlace_22 ?_
    exact r_zret B hr (Or.inl rfl) mμ1 dX1_addPlace_23 h
  · have h := h.2 c3
    refine r_il2 dX1_addPlace_7 ?_
    refine r_cSI1N B cb_X7_isWeight lk_X1_59 cs_X7_isWeight (c_X7_isWeight (xl x) E hp1 mμ1 h) rfl rfl dX1_addPlace_8 (fun r5 μ4 hr5 mμ4 h => ?_)
    refine r_if_eq 22 dX1_addPlace_11 rfl hr5 (fun c6 => ?_) (fun c6 => ?_)
    · have h := h.1 c6
      refine r_iconst dX1_addPlace_22 ?_
      exact r_zret B hr (Or.inl rfl) mμ4 dX1_addPlace_23 h
    · have h := h.2 c6
      refine r_al0 dX1_addPlace_14 ?_
      refine r_il1 dX1_addPlace_15 ?_
      refine r_cVI1 B cb_X1_hasRoomFor lk_X1_62 cv_X1_hasRoomFor (hk).1 (c_X1_hasRoomFor (xl x) E hk hp0 mμ4 h) rfl rfl dX1_addPlace_16 (fun r8 μ7 hr8 mμ7 h => ?_)
      refine r_if_ne 24 dX1_addPlace_19 rfl hr8 (fun c9 => ?_) (fun c9 => ?_)
      · have h := h.1 c9
        refine r_al0 dX1_addPlace_24 ?_
        refine r_iconst dX1_addPlace_25 ?_
        refine r_putZ B fg_X1_26 fp_1_0 (hk).1 (kl (hk).1) (Or.inr rfl) dX1_addPlace_26 ?_
        refine n_mem (fun μ10 eμ10 => ?_)
        have h := h μ10 eμ10
        have mμ10 : okM μ10 := eqM eμ10 (okM_sI mμ7 (inR_k rfl))
        refine r_al0 dX1_addPlace_29 ?_
        refine r_getR B (k + 1) fg_X1_15 (hk).1 (kl (hk).1) (ρo (off := 1) (hk).1 rfl) dX1_addPlace_30 ?_
        refine r_al0 dX1_addPlace_33 ?_
        refine r_getI B fg_X1_30 (hk).1 (kl (hk).1) dX1_addPlace_34 ?_
        refine r_il1 dX1_addPlace_37 ?_
        obtain ⟨o11, h⟩ := h
        refine r_iast B (hk).2.1 (kl (hk).2.1) (by decide) o11 dX1_addPlace_38 ?_
        refine n_mem (fun μ12 eμ12 => ?_)
        have h := h μ12 eμ12
        have mμ12 : okM μ12 := eqM eμ12 (okM_sI mμ10 hp0)
        refine r_al0 dX1_addPlace_39 ?_
        refine r_getR B (k + 2) fg_X1_19 (hk).1 (kl (hk).1) (ρo (off := 2) (hk).1 rfl) dX1_addPlace_40 ?_
        refine r_al0 dX1_addPlace_43 ?_
        refine r_getI B fg_X1_30 (hk).1 (kl (hk).1) dX1_addPlace_44 ?_
        refine r_il2 dX1_addPlace_47 ?_
        obtain ⟨o13, h⟩ := h
        refine r_iast B (hk).2.2.1 (kl (hk).2.2.1) (by decide) o13 dX1_addPlace_48 ?_
        refine n_mem (fun μ14 eμ14 => ?_)
        have h := h μ14 eμ14
        have mμ14 : okM μ14 := eqM eμ14 (okM_sI mμ12 hp1)
        refine r_al0 dX1_addPlace_49 ?_
        refine r_dup rfl dX1_addPlace_50 ?_
        refine r_getI B fg_X1_30 (hk).1 (kl (hk).1) dX1_addPlace_51 ?_
        refine r_iconst dX1_addPlace_54 ?_
        refine r_iadd dX1_addPlace_55 ?_
        obtain ⟨o15, h⟩ := h
        refine r_putI B fg_X1_30 fp_1_1 (hk).1 (kl (hk).1) dX1_addPlace_56 ?_
        refine n_mem (fun μ16 eμ16 => ?_)
        have h := h μ16 eμ16
        have mμ16 : okM μ16 := eqM eμ16 (okM_sI mμ14 o15)
        refine r_al0 dX1_addPlace_59 ?_
        refine r_dup rfl dX1_addPlace_60 ?_
        refine r_getI B fg_X1_9 (hk).1 (kl (hk).1) dX1_addPlace_61 ?_
        refine r_il1 dX1_addPlace_64 ?_
        refine r_imul dX1_addPlace_65 ?_
        obtain ⟨o17, h⟩ := h
        refine r_putI B fg_X1_9 fp_1_2 (hk).1 (kl (hk).1) dX1_addPlace_66 ?_
        refine n_mem (fun μ18 eμ18 => ?_)
        have h := h μ18 eμ18
        have mμ18 : okM μ18 := eqM eμ18 (okM_sI mμ16 o17)
        refine r_iconst dX1_addPlace_69 ?_
        exact r_zret B hr (Or.inr rfl) mμ18 dX1_addPlace_70 h
      · have h := h.2 c9
        refine r_iconst dX1_addPlace_22 ?_
        exact r_zret B hr (Or.inl rfl) mμ7 dX1_addPlace_23 h
set_option maxRecDepth 20000 in
theorem t_X1_addPlaces_2 {x : Cx} {E : Gx} (B : Bd x E 3 4 "SlipCovers$Code") (hr : (xt x).sig.returnType = (some .boolean)) {Q : Int → Mem → Prop} {k : Nat} {v1 : Nat} {v3 : Int} {μ : Mem} (hk : isC k) (hv1 : isC v1) (hv3 : inR v3) (hμ : okM μ) (h : LP4 (wp_X1_addPlaces_2 Q) k v1 v3 μ) : J cX1_addPlaces x E z0 μ 2 [some (rv E k), some (rv E v1), none, some (iv v3)] [] (MQ (xb x) (QI E z0 Q) (xa x) (xs x) 0 0 (gA E)) := by
  refine LP4_ind (T := fun (k : Nat) (v1 : Nat) (v3 : Int) (μ : Mem) => isC k → isC v1 → inR v3 → okM μ → J cX1_addPlaces x E z0 μ 2 [some (rv E k), some (rv E v1), none, some (iv v3)] [] (MQ (xb x) (QI E z0 Q) (xa x) (xs x) 0 0 (gA E))) (fun X2 hX2 k v1 v3 μ h hk hv1 hv3 hμ => ?_) h hk hv1 hv3 hμ
  unfold wp_X1_addPlaces_2 at h
  refine r_il3 dX1_addPlaces_2 ?_
  refine r_al1 dX1_addPlaces_3 ?_
  refine r_getI B fg_X1_30 (hv1).1 (kl (hv1).1) dX1_addPlaces_4 ?_
  refine r_icmp_ge 37 dX1_addPlaces_7 rfl hv3 (hμ v1 1) (fun c1 => ?_) (fun c1 => ?_)
  · have h := h.1 c1
    refine r_iconst dX1_addPlaces_37 ?_
    exact r_zret B hr (Or.inr rfl) hμ dX1_addPlaces_38 h
  · have h := h.2 c1
    refine r_al0 dX1_addPlaces_10 ?_
    refine r_al1 dX1_addPlaces_11 ?_
    refine r_getR B (v1 + 1) fg_X1_15 (hv1).1 (kl (hv1).1) (ρo (off := 1) (hv1).1 rfl) dX1_addPlaces_12 ?_
    refine r_il3 dX1_addPlaces_15 ?_
    obtain ⟨o2, h⟩ := h
    refine r_iald B (hv1).2.1 (kl (hv1).2.1) (by decide) o2 dX1_addPlaces_16 ?_
    refine r_al1 dX1_addPlaces_17 ?_
    refine r_getR B (v1 + 2) fg_X1_19 (hv1).1 (kl (hv1).1) (ρo (off := 2) (hv1).1 rfl) dX1_addPlaces_18 ?_
    refine r_il3 dX1_addPlaces_21 ?_
    refine r_iald B (hv1).2.2.1 (kl (hv1).2.2.1) (by decide) o2 dX1_addPlaces_22 ?_
    refine r_cVI2 B cb_X1_addPlace lk_X1_65 cv_X1_addPlace (hk).1 (c_X1_addPlace (xl x) E hk (hμ _ _) (hμ _ _) hμ h) rfl rfl dX1_addPlaces_23 (fun r4 μ3 hr4 mμ3 h => ?_)
    refine r_if_ne 31 dX1_addPlaces_26 rfl hr4 (fun c5 => ?_) (fun c5 => ?_)
    · have h := h.1 c5
      refine r_inc3 dX1_addPlaces_31 rfl ?_
      obtain ⟨o6, h⟩ := h
      refine r_goto 2 dX1_addPlaces_34 rfl ?_
      exact J_weak (hX2 k v1 (v3 + 1) μ3 h hk hv1 o6 mμ3) (⟨rfl, ⟨rfl, ⟨rfl, trivial⟩⟩⟩)
    · have h := h.2 c5
      refine r_iconst dX1_addPlaces_29 ?_
      exact r_zret B hr (Or.inl rfl) mμ3 dX1_addPlaces_30 h
set_option maxRecDepth 20000 in
theorem c_X1_addPlaces (l : Launch) (E : Gx) {k : Nat} {p0 : Nat} {p1 : Int} {μ : Mem} {Q : Int → Mem → Prop} (hk : isC k) (hp0 : isC p0) (hp1 : inR p1) (hμ : okM μ) (h : wp_X1_addPlaces k p0 p1 μ Q) : MT l yX1_addPlaces cX1_addPlaces 4 (some .boolean) E 3 0 0 z0 [rv E k, rv E p0, iv p1] μ (QI E z0 Q) := by
  refine m_start [some (rv E k), some (rv E p0), some (iv p1), none] (by decide) rfl rfl rfl (fun x hxl hxc hxs B hr hnm => ?_)
  unfold wp_X1_addPlaces at h
  refine r_il2 dX1_addPlaces_0 ?_
  refine r_is3 dX1_addPlaces_1 rfl ?_
  exact J_weak (t_X1_addPlaces_2 B hr hk hp0 hp1 hμ h) (⟨rfl, ⟨rfl, ⟨rfl, trivial⟩⟩⟩)
set_option maxRecDepth 20000 in
theorem t_X1_addPlacesBut_2 {x : Cx} {E : Gx} (B : Bd x E 3 4 "SlipCovers$Code") (hr : (xt x).sig.returnType = none) {Q : Mem → Prop} {k : Nat} {v1 : Nat} {v2 : Int} {v3 : Int} {μ : Mem} (hk : isC k) (hv1 : isC v1) (hv2 : inR v2) (hv3 : inR v3) (hμ : okM μ) (h : LP5 (wp_X1_addPlacesBut_2 Q) k v1 v2 v3 μ) : J cX1_addPlacesBut x E z0 μ 2 [some (rv E k), some (rv E v1), some (iv v2), some (iv v3)] [] (MQ (xb x) (QV E z0 Q) (xa x) (xs x) 0 0 (gA E)) := by
  refine LP5_ind (T := fun (k : Nat) (v1 : Nat) (v2 : Int) (v3 : Int) (μ : Mem) => isC k → isC v1 → inR v2 → inR v3 → okM μ → J cX1_addPlacesBut x E z0 μ 2 [some (rv E k), some (rv E v1), some (iv v2), some (iv v3)] [] (MQ (xb x) (QV E z0 Q) (xa x) (xs x) 0 0 (gA E))) (fun X2 hX2 k v1 v2 v3 μ h hk hv1 hv2 hv3 hμ => ?_) h hk hv1 hv2 hv3 hμ
  unfold wp_X1_addPlacesBut_2 at h
  refine r_il3 dX1_addPlacesBut_2 ?_
  refine r_al1 dX1_addPlacesBut_3 ?_
  refine r_getI B fg_X1_30 (hv1).1 (kl (hv1).1) dX1_addPlacesBut_4 ?_
  refine r_icmp_ge 38 dX1_addPlacesBut_7 rfl hv3 (hμ v1 1) (fun c1 => ?_) (fun c1 => ?_)
  · have h := h.1 c1
    exact r_vret B hr hμ dX1_addPlacesBut_38 h
  · have h := h.2 c1
    refine r_il3 dX1_addPlacesBut_10 ?_
    refine r_il2 dX1_addPlacesBut_11 ?_
    refine r_icmp_eq 32 dX1_addPlacesBut_12 rfl hv3 hv2 (fun c2 => ?_) (fun c2 => ?_)
    · have h := h.1 c2
      refine r_inc3 dX1_addPlacesBut_32 rfl ?_
      obtain ⟨o3, h⟩ := h
      refine r_goto 2 dX1_addPlacesBut_35 rfl ?_
      exact J_weak (hX2 k v1 v2 (v3 + 1) μ h hk hv1 hv2 o3 hμ) (⟨rfl, ⟨rfl, ⟨rfl, ⟨rfl, trivial⟩⟩⟩⟩)
    · have h := h.2 c2
      refine r_al0 dX1_addPlacesBut_15 ?_
      refine r_al1 dX1_addPlacesBut_16 ?_
      refine r_getR B (v1 + 1) fg_X1_15 (hv1).1 (kl (hv1).1) (ρo (off := 1) (hv1).1 rfl) dX1_addPlacesBut_17 ?_
      refine r_il3 dX1_addPlacesBut_20 ?_
      obtain ⟨o4, h⟩ := h
      refine r_iald B (hv1).2.1 (kl (hv1).2.1) (by decide) o4 dX1_addPlacesBut_21 ?_
      refine r_al1 dX1_addPlacesBut_22 ?_
      refine r_getR B (v1 + 2) fg_X1_19 (hv1).1 (kl (hv1).1) (ρo (off := 2) (hv1).1 rfl) dX1_addPlacesBut_23 ?_
      refine r_il3 dX1_addPlacesBut_26 ?_
      refine r_iald B (hv1).2.2.1 (kl (hv1).2.2.1) (by decide) o4 dX1_addPlacesBut_27 ?_
      refine r_cVI2 B cb_X1_addPlace lk_X1_65 cv_X1_addPlace (hk).1 (c_X1_addPlace (xl x) E hk (hμ _ _) (hμ _ _) hμ h) rfl rfl dX1_addPlacesBut_28 (fun r6 μ5 hr6 mμ5 h => ?_)
      refine r_pop rfl dX1_addPlacesBut_31 ?_
      refine r_inc3 dX1_addPlacesBut_32 rfl ?_
      obtain ⟨o7, h⟩ := h
      refine r_goto 2 dX1_addPlacesBut_35 rfl ?_
      exact J_weak (hX2 k v1 v2 (v3 + 1) μ5 h hk hv1 hv2 o7 mμ5) (⟨rfl, ⟨rfl, ⟨rfl, ⟨rfl, trivial⟩⟩⟩⟩)
set_option maxRecDepth 20000 in
theorem c_X1_addPlacesBut (l : Launch) (E : Gx) {k : Nat} {p0 : Nat} {p1 : Int} {μ : Mem} {Q : Mem → Prop} (hk : isC k) (hp0 : isC p0) (hp1 : inR p1) (hμ : okM μ) (h : wp_X1_addPlacesBut k p0 p1 μ Q) : MT l yX1_addPlacesBut cX1_addPlacesBut 4 none E 3 0 0 z0 [rv E k, rv E p0, iv p1] μ (QV E z0 Q) := by
  refine m_start [some (rv E k), some (rv E p0), some (iv p1), none] (by decide) rfl rfl rfl (fun x hxl hxc hxs B hr hnm => ?_)
  unfold wp_X1_addPlacesBut at h
  refine r_iconst dX1_addPlacesBut_0 ?_
  refine r_is3 dX1_addPlacesBut_1 rfl ?_
  exact J_weak (t_X1_addPlacesBut_2 B hr hk hp0 hp1 (inR_k rfl) hμ h) (⟨rfl, ⟨rfl, ⟨rfl, ⟨rfl, trivial⟩⟩⟩⟩)
set_option maxRecDepth 20000 in
theorem c_X1_swapped (l : Launch) (E : Gx) {p0 : Int} {p1 : Int} {p2 : Int} {μ : Mem} {Q : Int → Mem → Prop} (hp0 : inR p0) (hp1 : inR p1) (hp2 : inR p2) (hμ : okM μ) (h : wp_X1_swapped p0 p1 p2 μ Q) : MT l yX1_swapped cX1_swapped 3 (some .int) E 1 0 0 z0 [iv p0, iv p1, iv p2] μ (QI E z0 Q) := by
  refine m_start [some (iv p0), some (iv p1), some (iv p2)] (by decide) rfl rfl rfl (fun x hxl hxc hxs B hr hnm => ?_)
  unfold wp_X1_swapped at h
  refine r_il0 dX1_swapped_0 ?_
  refine r_il1 dX1_swapped_1 ?_
  refine r_icmp_ne 7 dX1_swapped_2 rfl hp0 hp1 (fun c1 => ?_) (fun c1 => ?_)
  · have h := h.1 c1
    refine r_il0 dX1_swapped_7 ?_
    refine r_il2 dX1_swapped_8 ?_
    refine r_icmp_ne 16 dX1_swapped_9 rfl hp0 hp2 (fun c2 => ?_) (fun c2 => ?_)
    · have h := h.1 c2
      refine r_il0 dX1_swapped_16 ?_
      exact r_iret B hr hp0 hμ dX1_swapped_17 h
    · have h := h.2 c2
      refine r_il1 dX1_swapped_12 ?_
      refine r_goto 17 dX1_swapped_13 rfl ?_
      exact r_iret B hr hp1 hμ dX1_swapped_17 h
  · have h := h.2 c1
    refine r_il2 dX1_swapped_5 ?_
    exact r_iret B hr hp2 hμ dX1_swapped_6 h
set_option maxRecDepth 20000 in
theorem t_X1_addPlacesSwapped_3 {x : Cx} {E : Gx} (B : Bd x E 3 6 "SlipCovers$Code") (hr : (xt x).sig.returnType = none) {Q : Mem → Prop} {k : Nat} {v1 : Nat} {v2 : Int} {v3 : Int} {v4 : Int} {μ : Mem} (hk : isC k) (hv1 : isC v1) (hv2 : inR v2) (hv3 : inR v3) (hv4 : inR v4) (hμ : okM μ) (h : LP6 (wp_X1_addPlacesSwapped_3 Q) k v1 v2 v3 v4 μ) : J cX1_addPlacesSwapped x E z0 μ 3 [some (rv E k), some (rv E v1), some (iv v2), some (iv v3), some (iv v4), none] [] (MQ (xb x) (QV E z0 Q) (xa x) (xs x) 0 0 (gA E)) := by
  refine LP6_ind (T := fun (k : Nat) (v1 : Nat) (v2 : Int) (v3 : Int) (v4 : Int) (μ : Mem) => isC k → isC v1 → inR v2 → inR v3 → inR v4 → okM μ → J cX1_addPlacesSwapped x E z0 μ 3 [some (rv E k), some (rv E v1), some (iv v2), some (iv v3), some (iv v4), none] [] (MQ (xb x) (QV E z0 Q) (xa x) (xs x) 0 0 (gA E))) (fun X3 hX3 k v1 v2 v3 v4 μ h hk hv1 hv2 hv3 hv4 hμ => ?_) h hk hv1 hv2 hv3 hv4 hμ
  unfold wp_X1_addPlacesSwapped_3 at h
  refine r_il4 dX1_addPlacesSwapped_3 ?_
  refine r_al1 dX1_addPlacesSwapped_5 ?_
  refine r_getI B fg_X1_30 (hv1).1 (kl (hv1).1) dX1_addPlacesSwapped_6 ?_
  refine r_icmp_ge 46 dX1_addPlacesSwapped_9 rfl hv4 (hμ v1 1) (fun c1 => ?_) (fun c1 => ?_)
  · have h := h.1 c1
    exact r_vret B hr hμ dX1_addPlacesSwapped_46 h
  · have h := h.2 c1
    refine r_il4 dX1_addPlacesSwapped_12 ?_
    refine r_il2 dX1_addPlacesSwapped_14 ?_
    refine r_il3 dX1_addPlacesSwapped_15 ?_
    refine r_cSI3 B cb_X1_swapped lk_X1_69 cs_X1_swapped (c_X1_swapped (xl x) E hv4 hv2 hv3 hμ h) rfl rfl dX1_addPlacesSwapped_16 (fun r3 μ2 hr3 mμ2 h => ?_)
    refine r_is5 dX1_addPlacesSwapped_19 rfl ?_
    refine r_al0 dX1_addPlacesSwapped_21 ?_
    refine r_al1 dX1_addPlacesSwapped_22 ?_
    refine r_getR B (v1 + 1) fg_X1_15 (hv1).1 (kl (hv1).1) (ρo (off := 1) (hv1).1 rfl) dX1_addPlacesSwapped_23 ?_
    refine r_il5 dX1_addPlacesSwapped_26 ?_
    obtain ⟨o4, h⟩ := h
    refine r_iald B (hv1).2.1 (kl (hv1).2.1) (by decide) o4 dX1_addPlacesSwapped_28 ?_
    refine r_al1 dX1_addPlacesSwapped_29 ?_
    refine r_getR B (v1 + 2) fg_X1_19 (hv1).1 (kl (hv1).1) (ρo (off := 2) (hv1).1 rfl) dX1_addPlacesSwapped_30 ?_
    refine r_il5 dX1_addPlacesSwapped_33 ?_
    refine r_iald B (hv1).2.2.1 (kl (hv1).2.2.1) (by decide) o4 dX1_addPlacesSwapped_35 ?_
    refine r_cVI2 B cb_X1_addPlace lk_X1_65 cv_X1_addPlace (hk).1 (c_X1_addPlace (xl x) E hk (mμ2 _ _) (mμ2 _ _) mμ2 h) rfl rfl dX1_addPlacesSwapped_36 (fun r6 μ5 hr6 mμ5 h => ?_)
    refine r_pop rfl dX1_addPlacesSwapped_39 ?_
    refine r_inc4 dX1_addPlacesSwapped_40 rfl ?_
    obtain ⟨o7, h⟩ := h
    refine r_goto 3 dX1_addPlacesSwapped_43 rfl ?_
    exact J_weak (hX3 k v1 v2 v3 (v4 + 1) μ5 h hk hv1 hv2 hv3 o7 mμ5) (⟨rfl, ⟨rfl, ⟨rfl, ⟨rfl, ⟨rfl, trivial⟩⟩⟩⟩⟩)
set_option maxRecDepth 20000 in
theorem c_X1_addPlacesSwapped (l : Launch) (E : Gx) {k : Nat} {p0 : Nat} {p1 : Int} {p2 : Int} {μ : Mem} {Q : Mem → Prop} (hk : isC k) (hp0 : isC p0) (hp1 : inR p1) (hp2 : inR p2) (hμ : okM μ) (h : wp_X1_addPlacesSwapped k p0 p1 p2 μ Q) : MT l yX1_addPlacesSwapped cX1_addPlacesSwapped 6 none E 3 0 0 z0 [rv E k, rv E p0, iv p1, iv p2] μ (QV E z0 Q) := by
  refine m_start [some (rv E k), some (rv E p0), some (iv p1), some (iv p2), none, none] (by decide) rfl rfl rfl (fun x hxl hxc hxs B hr hnm => ?_)
  unfold wp_X1_addPlacesSwapped at h
  refine r_iconst dX1_addPlacesSwapped_0 ?_
  refine r_is4 dX1_addPlacesSwapped_1 rfl ?_
  exact J_weak (t_X1_addPlacesSwapped_3 B hr hk hp0 hp1 hp2 (inR_k rfl) hμ h) (⟨rfl, ⟨rfl, ⟨rfl, ⟨rfl, ⟨rfl, trivial⟩⟩⟩⟩⟩)
set_option maxRecDepth 20000 in
theorem c_X1_holds (l : Launch) (E : Gx) {k : Nat} {p0 : Int} {μ : Mem} {Q : Int → Mem → Prop} (hk : isC k) (hp0 : inR p0) (hμ : okM μ) (h : wp_X1_holds k p0 μ Q) : MT l yX1_holds cX1_holds 2 (some .boolean) E 1 0 0 z0 [rv E k, iv p0] μ (QI E z0 Q) := by
  refine m_start [some (rv E k), some (iv p0)] (by decide) rfl rfl rfl (fun x hxl hxc hxs B hr hnm => ?_)
  unfold wp_X1_holds at h
  refine r_il1 dX1_holds_0 ?_
  refine r_if_lt 37 dX1_holds_1 rfl hp0 (fun c1 => ?_) (fun c1 => ?_)
  · have h := h.1 c1
    refine r_iconst dX1_holds_37 ?_
    exact r_zret B hr (Or.inl rfl) hμ dX1_holds_38 h
  · have h := h.2 c1
    refine r_il1 dX1_holds_4 ?_
    refine r_al0 dX1_holds_5 ?_
    refine r_getI B fg_X1_9 (hk).1 (kl (hk).1) dX1_holds_6 ?_
    refine r_icmp_ge 37 dX1_holds_9 rfl hp0 (hμ k 2) (fun c2 => ?_) (fun c2 => ?_)
    · have h := h.1 c2
      refine r_iconst dX1_holds_37 ?_
      exact r_zret B hr (Or.inl rfl) hμ dX1_holds_38 h
    · have h := h.2 c2
      refine r_al0 dX1_holds_12 ?_
      refine r_getR B (k + 3) fg_X1_22 (hk).1 (kl (hk).1) (ρo (off := 3) (hk).1 rfl) dX1_holds_13 ?_
      refine r_il1 dX1_holds_16 ?_
      refine r_bipush dX1_holds_17 (by decide) ?_
      refine r_ishr dX1_holds_19 ?_
      obtain ⟨o3, h⟩ := h
      refine r_lald B (hk).2.2.2 (kl (hk).2.2.2) (by decide) o3 dX1_holds_20 ?_
      refine r_il1 dX1_holds_21 ?_
      refine r_bipush dX1_holds_22 (by decide) ?_
      refine r_iand dX1_holds_24 ?_
      refine r_lushr dX1_holds_25 ?_
      refine r_lconst (v := 1) rfl dX1_holds_26 ?_
      refine r_land dX1_holds_27 ?_
      refine r_lconst (v := 0) rfl dX1_holds_28 ?_
      refine r_lcmp dX1_holds_29 ?_
      refine r_if_eq 37 dX1_holds_30 rfl (inR_t _) (fun c4 => ?_) (fun c4 => ?_)
      · have h := h.1 c4
        refine r_iconst dX1_holds_37 ?_
        exact r_zret B hr (Or.inl rfl) hμ dX1_holds_38 h
      · have h := h.2 c4
        refine r_iconst dX1_holds_33 ?_
        refine r_goto 38 dX1_holds_34 rfl ?_
        exact r_zret B hr (Or.inr rfl) hμ dX1_holds_38 h
set_option maxRecDepth 20000 in
theorem c_X1_put (l : Launch) (E : Gx) {k : Nat} {p0 : Int} {μ : Mem} {Q : Mem → Prop} (hk : isC k) (hp0 : inR p0) (hμ : okM μ) (h : wp_X1_put k p0 μ Q) : MT l yX1_put cX1_put 2 none E 2 0 0 z0 [rv E k, iv p0] μ (QV E z0 Q) := by
  refine m_start [some (rv E k), some (iv p0)] (by decide) rfl rfl rfl (fun x hxl hxc hxs B hr hnm => ?_)
  unfold wp_X1_put at h
  refine r_il1 dX1_put_0 ?_
  refine r_if_lt 48 dX1_put_1 rfl hp0 (fun c1 => ?_) (fun c1 => ?_)
  · have h := h.1 c1
    exact r_vret B hr hμ dX1_put_48 h
  · have h := h.2 c1
    refine r_il1 dX1_put_4 ?_
    refine r_al0 dX1_put_5 ?_
    refine r_getI B fg_X1_9 (hk).1 (kl (hk).1) dX1_put_6 ?_
    refine r_icmp_ge 48 dX1_put_9 rfl hp0 (hμ k 2) (fun c2 => ?_) (fun c2 => ?_)
    · have h := h.1 c2
      exact r_vret B hr hμ dX1_put_48 h
    · have h := h.2 c2
      refine r_al0 dX1_put_12 ?_
      refine r_il1 dX1_put_13 ?_
      refine r_cVI1 B cb_X1_holds lk_X1_73 cv_X1_holds (hk).1 (c_X1_holds (xl x) E hk hp0 hμ h) rfl rfl dX1_put_14 (fun r4 μ3 hr4 mμ3 h => ?_)
      refine r_if_ne 48 dX1_put_17 rfl hr4 (fun c5 => ?_) (fun c5 => ?_)
      · have h := h.1 c5
        exact r_vret B hr mμ3 dX1_put_48 h
      · have h := h.2 c5
        refine r_al0 dX1_put_20 ?_
        refine r_getR B (k + 3) fg_X1_22 (hk).1 (kl (hk).1) (ρo (off := 3) (hk).1 rfl) dX1_put_21 ?_
        refine r_il1 dX1_put_24 ?_
        refine r_bipush dX1_put_25 (by decide) ?_
        refine r_ishr dX1_put_27 ?_
        refine r_dup2 rfl rfl dX1_put_28 ?_
        obtain ⟨o6, h⟩ := h
        refine r_lald B (hk).2.2.2 (kl (hk).2.2.2) (by decide) o6 dX1_put_29 ?_
        refine r_lconst (v := 1) rfl dX1_put_30 ?_
        refine r_il1 dX1_put_31 ?_
        refine r_bipush dX1_put_32 (by decide) ?_
        refine r_iand dX1_put_34 ?_
        refine r_lshl dX1_put_35 ?_
        refine r_lor dX1_put_36 ?_
        refine r_last B (hk).2.2.2 (kl (hk).2.2.2) (by decide) o6 dX1_put_37 ?_
        refine n_mem (fun μ7 eμ7 => ?_)
        have h := h μ7 eμ7
        have mμ7 : okM μ7 := eqM eμ7 (okM_sL mμ3)
        refine r_al0 dX1_put_38 ?_
        refine r_dup rfl dX1_put_39 ?_
        refine r_getI B fg_X1_36 (hk).1 (kl (hk).1) dX1_put_40 ?_
        refine r_iconst dX1_put_43 ?_
        refine r_iadd dX1_put_44 ?_
        obtain ⟨o8, h⟩ := h
        refine r_putI B fg_X1_36 fp_1_3 (hk).1 (kl (hk).1) dX1_put_45 ?_
        refine n_mem (fun μ9 eμ9 => ?_)
        have h := h μ9 eμ9
        have mμ9 : okM μ9 := eqM eμ9 (okM_sI mμ7 o8)
        exact r_vret B hr mμ9 dX1_put_48 h
set_option maxRecDepth 20000 in
theorem c_X1_drop (l : Launch) (E : Gx) {k : Nat} {p0 : Int} {μ : Mem} {Q : Mem → Prop} (hk : isC k) (hp0 : inR p0) (hμ : okM μ) (h : wp_X1_drop k p0 μ Q) : MT l yX1_drop cX1_drop 2 none E 2 0 0 z0 [rv E k, iv p0] μ (QV E z0 Q) := by
  refine m_start [some (rv E k), some (iv p0)] (by decide) rfl rfl rfl (fun x hxl hxc hxs B hr hnm => ?_)
  unfold wp_X1_drop at h
  refine r_al0 dX1_drop_0 ?_
  refine r_il1 dX1_drop_1 ?_
  refine r_cVI1 B cb_X1_holds lk_X1_73 cv_X1_holds (hk).1 (c_X1_holds (xl x) E hk hp0 hμ h) rfl rfl dX1_drop_2 (fun r2 μ1 hr2 mμ1 h => ?_)
  refine r_if_eq 40 dX1_drop_5 rfl hr2 (fun c3 => ?_) (fun c3 => ?_)
  · have h := h.1 c3
    exact r_vret B hr mμ1 dX1_drop_40 h
  · have h := h.2 c3
    refine r_al0 dX1_drop_8 ?_
    refine r_getR B (k + 3) fg_X1_22 (hk).1 (kl (hk).1) (ρo (off := 3) (hk).1 rfl) dX1_drop_9 ?_
    refine r_il1 dX1_drop_12 ?_
    refine r_bipush dX1_drop_13 (by decide) ?_
    refine r_ishr dX1_drop_15 ?_
    refine r_dup2 rfl rfl dX1_drop_16 ?_
    obtain ⟨o4, h⟩ := h
    refine r_lald B (hk).2.2.2 (kl (hk).2.2.2) (by decide) o4 dX1_drop_17 ?_
    refine r_lconst (v := 1) rfl dX1_drop_18 ?_
    refine r_il1 dX1_drop_19 ?_
    refine r_bipush dX1_drop_20 (by decide) ?_
    refine r_iand dX1_drop_22 ?_
    refine r_lshl dX1_drop_23 ?_
    refine r_ldc2 B kc_X1_76 dX1_drop_24 ?_
    refine r_lxor dX1_drop_27 ?_
    refine r_land dX1_drop_28 ?_
    refine r_last B (hk).2.2.2 (kl (hk).2.2.2) (by decide) o4 dX1_drop_29 ?_
    refine n_mem (fun μ5 eμ5 => ?_)
    have h := h μ5 eμ5
    have mμ5 : okM μ5 := eqM eμ5 (okM_sL mμ1)
    refine r_al0 dX1_drop_30 ?_
    refine r_dup rfl dX1_drop_31 ?_
    refine r_getI B fg_X1_36 (hk).1 (kl (hk).1) dX1_drop_32 ?_
    refine r_iconst dX1_drop_35 ?_
    refine r_isub dX1_drop_36 ?_
    obtain ⟨o6, h⟩ := h
    refine r_putI B fg_X1_36 fp_1_3 (hk).1 (kl (hk).1) dX1_drop_37 ?_
    refine n_mem (fun μ7 eμ7 => ?_)
    have h := h μ7 eμ7
    have mμ7 : okM μ7 := eqM eμ7 (okM_sI mμ5 o6)
    exact r_vret B hr mμ7 dX1_drop_40 h
set_option maxRecDepth 20000 in
theorem t_X1_codeword_4 {x : Cx} {E : Gx} (B : Bd x E 2 4 "SlipCovers$Code") (hr : (xt x).sig.returnType = (some .int)) {Q : Int → Mem → Prop} {k : Nat} {v2 : Int} {v3 : Int} {μ : Mem} (hk : isC k) (hv2 : inR v2) (hv3 : inR v3) (hμ : okM μ) (h : LP4 (wp_X1_codeword_4 Q) k v2 v3 μ) : J cX1_codeword x E z0 μ 4 [some (rv E k), none, some (iv v2), some (iv v3)] [] (MQ (xb x) (QI E z0 Q) (xa x) (xs x) 0 0 (gA E)) := by
  refine LP4_ind (T := fun (k : Nat) (v2 : Int) (v3 : Int) (μ : Mem) => isC k → inR v2 → inR v3 → okM μ → J cX1_codeword x E z0 μ 4 [some (rv E k), none, some (iv v2), some (iv v3)] [] (MQ (xb x) (QI E z0 Q) (xa x) (xs x) 0 0 (gA E))) (fun X4 hX4 k v2 v3 μ h hk hv2 hv3 hμ => ?_) h hk hv2 hv3 hμ
  unfold wp_X1_codeword_4 at h
  refine r_il3 dX1_codeword_4 ?_
  refine r_al0 dX1_codeword_5 ?_
  refine r_getI B fg_X1_9 (hk).1 (kl (hk).1) dX1_codeword_6 ?_
  refine r_icmp_ge 35 dX1_codeword_9 rfl hv3 (hμ k 2) (fun c1 => ?_) (fun c1 => ?_)
  · have h := h.1 c1
    refine r_bipush dX1_codeword_35 (by decide) ?_
    exact r_iret B hr (inR_k rfl) hμ dX1_codeword_37 h
  · have h := h.2 c1
    refine r_al0 dX1_codeword_12 ?_
    refine r_il3 dX1_codeword_13 ?_
    refine r_cVI1 B cb_X1_holds lk_X1_73 cv_X1_holds (hk).1 (c_X1_holds (xl x) E hk hv3 hμ h) rfl rfl dX1_codeword_14 (fun r3 μ2 hr3 mμ2 h => ?_)
    refine r_if_eq 29 dX1_codeword_17 rfl hr3 (fun c4 => ?_) (fun c4 => ?_)
    · have h := h.1 c4
      refine r_inc3 dX1_codeword_29 rfl ?_
      obtain ⟨o5, h⟩ := h
      refine r_goto 4 dX1_codeword_32 rfl ?_
      exact J_weak (hX4 k v2 (v3 + 1) μ2 h hk hv2 o5 mμ2) (⟨rfl, ⟨rfl, ⟨rfl, trivial⟩⟩⟩)
    · have h := h.2 c4
      refine r_il2 dX1_codeword_20 ?_
      refine r_if_ne 26 dX1_codeword_21 rfl hv2 (fun c6 => ?_) (fun c6 => ?_)
      · have h := h.1 c6
        refine r_inc2 dX1_codeword_26 rfl ?_
        obtain ⟨o7, h⟩ := h
        refine r_inc3 dX1_codeword_29 rfl ?_
        obtain ⟨o8, h⟩ := h
        refine r_goto 4 dX1_codeword_32 rfl ?_
        exact J_weak (hX4 k (v2 + (-1)) (v3 + 1) μ2 h hk o7 o8 mμ2) (⟨rfl, ⟨rfl, ⟨rfl, trivial⟩⟩⟩)
      · have h := h.2 c6
        refine r_il3 dX1_codeword_24 ?_
        exact r_iret B hr hv3 mμ2 dX1_codeword_25 h
set_option maxRecDepth 20000 in
theorem c_X1_codeword (l : Launch) (E : Gx) {k : Nat} {p0 : Int} {μ : Mem} {Q : Int → Mem → Prop} (hk : isC k) (hp0 : inR p0) (hμ : okM μ) (h : wp_X1_codeword k p0 μ Q) : MT l yX1_codeword cX1_codeword 4 (some .int) E 2 0 0 z0 [rv E k, iv p0] μ (QI E z0 Q) := by
  refine m_start [some (rv E k), some (iv p0), none, none] (by decide) rfl rfl rfl (fun x hxl hxc hxs B hr hnm => ?_)
  unfold wp_X1_codeword at h
  refine r_il1 dX1_codeword_0 ?_
  refine r_is2 dX1_codeword_1 rfl ?_
  refine r_iconst dX1_codeword_2 ?_
  refine r_is3 dX1_codeword_3 rfl ?_
  exact J_weak (t_X1_codeword_4 B hr hk hp0 (inR_k rfl) hμ h) (⟨rfl, ⟨rfl, ⟨rfl, trivial⟩⟩⟩)
set_option maxRecDepth 20000 in
theorem t_X1_allWeights_4 {x : Cx} {E : Gx} (B : Bd x E 1 3 "SlipCovers$Code") (hr : (xt x).sig.returnType = (some .int)) {Q : Int → Mem → Prop} {k : Nat} {v1 : Int} {v2 : Int} {μ : Mem} (hk : isC k) (hv1 : inR v1) (hv2 : inR v2) (hμ : okM μ) (h : LP4 (wp_X1_allWeights_4 Q) k v1 v2 μ) : J cX1_allWeights x E z0 μ 4 [some (rv E k), some (iv v1), some (iv v2)] [] (MQ (xb x) (QI E z0 Q) (xa x) (xs x) 0 0 (gA E)) := by
  refine LP4_ind (T := fun (k : Nat) (v1 : Int) (v2 : Int) (μ : Mem) => isC k → inR v1 → inR v2 → okM μ → J cX1_allWeights x E z0 μ 4 [some (rv E k), some (iv v1), some (iv v2)] [] (MQ (xb x) (QI E z0 Q) (xa x) (xs x) 0 0 (gA E))) (fun X4 hX4 k v1 v2 μ h hk hv1 hv2 hμ => ?_) h hk hv1 hv2 hμ
  unfold wp_X1_allWeights_4 at h
  refine r_il2 dX1_allWeights_4 ?_
  refine r_al0 dX1_allWeights_5 ?_
  refine r_getI B fg_X1_30 (hk).1 (kl (hk).1) dX1_allWeights_6 ?_
  refine r_icmp_ge 27 dX1_allWeights_9 rfl hv2 (hμ k 1) (fun c1 => ?_) (fun c1 => ?_)
  · have h := h.1 c1
    refine r_il1 dX1_allWeights_27 ?_
    exact r_iret B hr hv1 hμ dX1_allWeights_28 h
  · have h := h.2 c1
    refine r_il1 dX1_allWeights_12 ?_
    refine r_al0 dX1_allWeights_13 ?_
    refine r_getR B (k + 2) fg_X1_19 (hk).1 (kl (hk).1) (ρo (off := 2) (hk).1 rfl) dX1_allWeights_14 ?_
    refine r_il2 dX1_allWeights_17 ?_
    obtain ⟨o2, h⟩ := h
    refine r_iald B (hk).2.2.1 (kl (hk).2.2.1) (by decide) o2 dX1_allWeights_18 ?_
    refine r_iadd dX1_allWeights_19 ?_
    obtain ⟨o4, h⟩ := h
    refine n_topi (fun x3 ex3 => ?_)
    have h := h x3 ex3
    refine r_is1 dX1_allWeights_20 rfl ?_
    refine r_inc2 dX1_allWeights_21 rfl ?_
    obtain ⟨o5, h⟩ := h
    refine r_goto 4 dX1_allWeights_24 rfl ?_
    exact J_weak (hX4 k x3 (v2 + 1) μ h hk (eqR ex3 o4) o5 hμ) (⟨rfl, ⟨rfl, ⟨rfl, trivial⟩⟩⟩)
set_option maxRecDepth 20000 in
theorem c_X1_allWeights (l : Launch) (E : Gx) {k : Nat} {μ : Mem} {Q : Int → Mem → Prop} (hk : isC k) (hμ : okM μ) (h : wp_X1_allWeights k μ Q) : MT l yX1_allWeights cX1_allWeights 3 (some .int) E 1 0 0 z0 [rv E k] μ (QI E z0 Q) := by
  refine m_start [some (rv E k), none, none] (by decide) rfl rfl rfl (fun x hxl hxc hxs B hr hnm => ?_)
  unfold wp_X1_allWeights at h
  refine r_iconst dX1_allWeights_0 ?_
  refine r_is1 dX1_allWeights_1 rfl ?_
  refine r_iconst dX1_allWeights_2 ?_
  refine r_is2 dX1_allWeights_3 rfl ?_
  exact J_weak (t_X1_allWeights_4 B hr hk (inR_k rfl) (inR_k rfl) hμ h) (⟨rfl, ⟨rfl, ⟨rfl, trivial⟩⟩⟩)
set_option maxRecDepth 20000 in
theorem t_X1_hasSpaceOf_15 {x : Cx} {E : Gx} (B : Bd x E 1 3 "SlipCovers$Code") (hr : (xt x).sig.returnType = (some .boolean)) {Q : Int → Mem → Prop} {k : Nat} {v1 : Nat} {v2 : Int} {μ : Mem} (hk : isC k) (hv1 : isC v1) (hv2 : inR v2) (hμ : okM μ) (h : LP4 (wp_X1_hasSpaceOf_15 Q) k v1 v2 μ) : J cX1_hasSpaceOf x E z0 μ 15 [some (rv E k), some (rv E v1), some (iv v2)] [] (MQ (xb x) (QI E z0 Q) (xa x) (xs x) 0 0 (gA E)) := by
  refine LP4_ind (T := fun (k : Nat) (v1 : Nat) (v2 : Int) (μ : Mem) => isC k → isC v1 → inR v2 → okM μ → J cX1_hasSpaceOf x E z0 μ 15 [some (rv E k), some (rv E v1), some (iv v2)] [] (MQ (xb x) (QI E z0 Q) (xa x) (xs x) 0 0 (gA E))) (fun X15 hX15 k v1 v2 μ h hk hv1 hv2 hμ => ?_) h hk hv1 hv2 hμ
  unfold wp_X1_hasSpaceOf_15 at h
  refine r_il2 dX1_hasSpaceOf_15 ?_
  refine r_al0 dX1_hasSpaceOf_16 ?_
  refine r_getI B fg_X1_30 (hk).1 (kl (hk).1) dX1_hasSpaceOf_17 ?_
  refine r_icmp_ge 61 dX1_hasSpaceOf_20 rfl hv2 (hμ k 1) (fun c2 => ?_) (fun c2 => ?_)
  · have h := h.1 c2
    refine r_iconst dX1_hasSpaceOf_61 ?_
    exact r_zret B hr (Or.inr rfl) hμ dX1_hasSpaceOf_62 h
  · have h := h.2 c2
    refine r_al0 dX1_hasSpaceOf_23 ?_
    refine r_getR B (k + 1) fg_X1_15 (hk).1 (kl (hk).1) (ρo (off := 1) (hk).1 rfl) dX1_hasSpaceOf_24 ?_
    refine r_il2 dX1_hasSpaceOf_27 ?_
    obtain ⟨o3, h⟩ := h
    refine r_iald B (hk).2.1 (kl (hk).2.1) (by decide) o3 dX1_hasSpaceOf_28 ?_
    refine r_al1 dX1_hasSpaceOf_29 ?_
    refine r_getR B (v1 + 1) fg_X1_15 (hv1).1 (kl (hv1).1) (ρo (off := 1) (hv1).1 rfl) dX1_hasSpaceOf_30 ?_
    refine r_il2 dX1_hasSpaceOf_33 ?_
    refine r_iald B (hv1).2.1 (kl (hv1).2.1) (by decide) o3 dX1_hasSpaceOf_34 ?_
    refine r_icmp_ne 53 dX1_hasSpaceOf_35 rfl (hμ _ _) (hμ _ _) (fun c4 => ?_) (fun c4 => ?_)
    · have h := h.1 c4
      refine r_iconst dX1_hasSpaceOf_53 ?_
      exact r_zret B hr (Or.inl rfl) hμ dX1_hasSpaceOf_54 h
    · have h := h.2 c4
      refine r_al0 dX1_hasSpaceOf_38 ?_
      refine r_getR B (k + 2) fg_X1_19 (hk).1 (kl (hk).1) (ρo (off := 2) (hk).1 rfl) dX1_hasSpaceOf_39 ?_
      refine r_il2 dX1_hasSpaceOf_42 ?_
      refine r_iald B (hk).2.2.1 (kl (hk).2.2.1) (by decide) o3 dX1_hasSpaceOf_43 ?_
      refine r_al1 dX1_hasSpaceOf_44 ?_
      refine r_getR B (v1 + 2) fg_X1_19 (hv1).1 (kl (hv1).1) (ρo (off := 2) (hv1).1 rfl) dX1_hasSpaceOf_45 ?_
      refine r_il2 dX1_hasSpaceOf_48 ?_
      refine r_iald B (hv1).2.2.1 (kl (hv1).2.2.1) (by decide) o3 dX1_hasSpaceOf_49 ?_
      refine r_icmp_eq 55 dX1_hasSpaceOf_50 rfl (hμ _ _) (hμ _ _) (fun c5 => ?_) (fun c5 => ?_)
      · have h := h.1 c5
        refine r_inc2 dX1_hasSpaceOf_55 rfl ?_
        obtain ⟨o6, h⟩ := h
        refine r_goto 15 dX1_hasSpaceOf_58 rfl ?_
        exact J_weak (hX15 k v1 (v2 + 1) μ h hk hv1 o6 hμ) (⟨rfl, ⟨rfl, ⟨rfl, trivial⟩⟩⟩)
      · have h := h.2 c5
        refine r_iconst dX1_hasSpaceOf_53 ?_
        exact r_zret B hr (Or.inl rfl) hμ dX1_hasSpaceOf_54 h
set_option maxRecDepth 20000 in
theorem c_X1_hasSpaceOf (l : Launch) (E : Gx) {k : Nat} {p0 : Nat} {μ : Mem} {Q : Int → Mem → Prop} (hk : isC k) (hp0 : isC p0) (hμ : okM μ) (h : wp_X1_hasSpaceOf k p0 μ Q) : MT l yX1_hasSpaceOf cX1_hasSpaceOf 3 (some .boolean) E 1 0 0 z0 [rv E k, rv E p0] μ (QI E z0 Q) := by
  refine m_start [some (rv E k), some (rv E p0), none] (by decide) rfl rfl rfl (fun x hxl hxc hxs B hr hnm => ?_)
  unfold wp_X1_hasSpaceOf at h
  refine r_al0 dX1_hasSpaceOf_0 ?_
  refine r_getI B fg_X1_30 (hk).1 (kl (hk).1) dX1_hasSpaceOf_1 ?_
  refine r_al1 dX1_hasSpaceOf_4 ?_
  refine r_getI B fg_X1_30 (hp0).1 (kl (hp0).1) dX1_hasSpaceOf_5 ?_
  refine r_icmp_eq 13 dX1_hasSpaceOf_8 rfl (hμ k 1) (hμ p0 1) (fun c1 => ?_) (fun c1 => ?_)
  · have h := h.1 c1
    refine r_iconst dX1_hasSpaceOf_13 ?_
    refine r_is2 dX1_hasSpaceOf_14 rfl ?_
    exact J_weak (t_X1_hasSpaceOf_15 B hr hk hp0 (inR_k rfl) hμ h) (⟨rfl, ⟨rfl, ⟨rfl, trivial⟩⟩⟩)
  · have h := h.2 c1
    refine r_iconst dX1_hasSpaceOf_11 ?_
    exact r_zret B hr (Or.inl rfl) hμ dX1_hasSpaceOf_12 h
set_option maxRecDepth 20000 in
theorem t_X1_hasWordsOf_2 {x : Cx} {E : Gx} (B : Bd x E 1 3 "SlipCovers$Code") (hr : (xt x).sig.returnType = (some .boolean)) {Q : Int → Mem → Prop} {k : Nat} {v1 : Nat} {v2 : Int} {μ : Mem} (hk : isC k) (hv1 : isC v1) (hv2 : inR v2) (hμ : okM μ) (h : LP4 (wp_X1_hasWordsOf_2 Q) k v1 v2 μ) : J cX1_hasWordsOf x E z0 μ 2 [some (rv E k), some (rv E v1), some (iv v2)] [] (MQ (xb x) (QI E z0 Q) (xa x) (xs x) 0 0 (gA E)) := by
  refine LP4_ind (T := fun (k : Nat) (v1 : Nat) (v2 : Int) (μ : Mem) => isC k → isC v1 → inR v2 → okM μ → J cX1_hasWordsOf x E z0 μ 2 [some (rv E k), some (rv E v1), some (iv v2)] [] (MQ (xb x) (QI E z0 Q) (xa x) (xs x) 0 0 (gA E))) (fun X2 hX2 k v1 v2 μ h hk hv1 hv2 hμ => ?_) h hk hv1 hv2 hμ
  unfold wp_X1_hasWordsOf_2 at h
  refine r_il2 dX1_hasWordsOf_2 ?_
  refine r_al0 dX1_hasWordsOf_3 ?_
  refine r_getR B (k + 3) fg_X1_22 (hk).1 (kl (hk).1) (ρo (off := 3) (hk).1 rfl) dX1_hasWordsOf_4 ?_
  refine r_alenL B (hk).2.2.2 (kl (hk).2.2.2) dX1_hasWordsOf_7 ?_
  refine r_icmp_ge 35 dX1_hasWordsOf_8 rfl hv2 (inR_k rfl) (fun c1 => ?_) (fun c1 => ?_)
  · have h := h.1 c1
    refine r_iconst dX1_hasWordsOf_35 ?_
    exact r_zret B hr (Or.inr rfl) hμ dX1_hasWordsOf_36 h
  · have h := h.2 c1
    refine r_al0 dX1_hasWordsOf_11 ?_
    refine r_getR B (k + 3) fg_X1_22 (hk).1 (kl (hk).1) (ρo (off := 3) (hk).1 rfl) dX1_hasWordsOf_12 ?_
    refine r_il2 dX1_hasWordsOf_15 ?_
    obtain ⟨o2, h⟩ := h
    refine r_lald B (hk).2.2.2 (kl (hk).2.2.2) (by decide) o2 dX1_hasWordsOf_16 ?_
    refine r_al1 dX1_hasWordsOf_17 ?_
    refine r_getR B (v1 + 3) fg_X1_22 (hv1).1 (kl (hv1).1) (ρo (off := 3) (hv1).1 rfl) dX1_hasWordsOf_18 ?_
    refine r_il2 dX1_hasWordsOf_21 ?_
    refine r_lald B (hv1).2.2.2 (kl (hv1).2.2.2) (by decide) o2 dX1_hasWordsOf_22 ?_
    refine r_lcmp dX1_hasWordsOf_23 ?_
    refine r_if_eq 29 dX1_hasWordsOf_24 rfl (inR_t _) (fun c3 => ?_) (fun c3 => ?_)
    · have h := h.1 c3
      refine r_inc2 dX1_hasWordsOf_29 rfl ?_
      obtain ⟨o4, h⟩ := h
      refine r_goto 2 dX1_hasWordsOf_32 rfl ?_
      exact J_weak (hX2 k v1 (v2 + 1) μ h hk hv1 o4 hμ) (⟨rfl, ⟨rfl, ⟨rfl, trivial⟩⟩⟩)
    · have h := h.2 c3
      refine r_iconst dX1_hasWordsOf_27 ?_
      exact r_zret B hr (Or.inl rfl) hμ dX1_hasWordsOf_28 h
set_option maxRecDepth 20000 in
theorem c_X1_hasWordsOf (l : Launch) (E : Gx) {k : Nat} {p0 : Nat} {μ : Mem} {Q : Int → Mem → Prop} (hk : isC k) (hp0 : isC p0) (hμ : okM μ) (h : wp_X1_hasWordsOf k p0 μ Q) : MT l yX1_hasWordsOf cX1_hasWordsOf 3 (some .boolean) E 1 0 0 z0 [rv E k, rv E p0] μ (QI E z0 Q) := by
  refine m_start [some (rv E k), some (rv E p0), none] (by decide) rfl rfl rfl (fun x hxl hxc hxs B hr hnm => ?_)
  unfold wp_X1_hasWordsOf at h
  refine r_iconst dX1_hasWordsOf_0 ?_
  refine r_is2 dX1_hasWordsOf_1 rfl ?_
  exact J_weak (t_X1_hasWordsOf_2 B hr hk hp0 (inR_k rfl) hμ h) (⟨rfl, ⟨rfl, ⟨rfl, trivial⟩⟩⟩)
set_option maxRecDepth 20000 in
theorem c_X1_endsAsBegins (l : Launch) (E : Gx) {k : Nat} {p0 : Nat} {μ : Mem} {Q : Int → Mem → Prop} (hk : isC k) (hp0 : isC p0) (hμ : okM μ) (h : wp_X1_endsAsBegins k p0 μ Q) : MT l yX1_endsAsBegins cX1_endsAsBegins 3 (some .boolean) E 1 0 0 z0 [rv E k, rv E p0] μ (QI E z0 Q) := by
  refine m_start [some (rv E k), some (rv E p0), none] (by decide) rfl rfl rfl (fun x hxl hxc hxs B hr hnm => ?_)
  unfold wp_X1_endsAsBegins at h
  refine r_al0 dX1_endsAsBegins_0 ?_
  refine r_getI B fg_X1_30 (hk).1 (kl (hk).1) dX1_endsAsBegins_1 ?_
  refine r_iconst dX1_endsAsBegins_4 ?_
  refine r_icmp_lt 16 dX1_endsAsBegins_5 rfl (hμ k 1) (inR_k rfl) (fun c1 => ?_) (fun c1 => ?_)
  · have h := h.1 c1
    refine r_iconst dX1_endsAsBegins_16 ?_
    exact r_zret B hr (Or.inl rfl) hμ dX1_endsAsBegins_17 h
  · have h := h.2 c1
    refine r_al1 dX1_endsAsBegins_8 ?_
    refine r_getI B fg_X1_30 (hp0).1 (kl (hp0).1) dX1_endsAsBegins_9 ?_
    refine r_iconst dX1_endsAsBegins_12 ?_
    refine r_icmp_ge 18 dX1_endsAsBegins_13 rfl (hμ p0 1) (inR_k rfl) (fun c2 => ?_) (fun c2 => ?_)
    · have h := h.1 c2
      refine r_al0 dX1_endsAsBegins_18 ?_
      refine r_getI B fg_X1_30 (hk).1 (kl (hk).1) dX1_endsAsBegins_19 ?_
      refine r_iconst dX1_endsAsBegins_22 ?_
      refine r_isub dX1_endsAsBegins_23 ?_
      obtain ⟨o4, h⟩ := h
      refine n_topi (fun x3 ex3 => ?_)
      have h := h x3 ex3
      refine r_is2 dX1_endsAsBegins_24 rfl ?_
      refine r_al0 dX1_endsAsBegins_25 ?_
      refine r_getR B (k + 1) fg_X1_15 (hk).1 (kl (hk).1) (ρo (off := 1) (hk).1 rfl) dX1_endsAsBegins_26 ?_
      refine r_il2 dX1_endsAsBegins_29 ?_
      obtain ⟨o5, h⟩ := h
      refine r_iald B (hk).2.1 (kl (hk).2.1) (by decide) o5 dX1_endsAsBegins_30 ?_
      refine r_al1 dX1_endsAsBegins_31 ?_
      refine r_getR B (p0 + 1) fg_X1_15 (hp0).1 (kl (hp0).1) (ρo (off := 1) (hp0).1 rfl) dX1_endsAsBegins_32 ?_
      refine r_iconst dX1_endsAsBegins_35 ?_
      refine r_iald B (hp0).2.1 (kl (hp0).2.1) (by decide) (by decide) dX1_endsAsBegins_36 ?_
      refine r_icmp_ne 59 dX1_endsAsBegins_37 rfl (hμ _ _) (hμ _ _) (fun c6 => ?_) (fun c6 => ?_)
      · have h := h.1 c6
        refine r_iconst dX1_endsAsBegins_59 ?_
        exact r_zret B hr (Or.inl rfl) hμ dX1_endsAsBegins_60 h
      · have h := h.2 c6
        refine r_al0 dX1_endsAsBegins_40 ?_
        refine r_getR B (k + 2) fg_X1_19 (hk).1 (kl (hk).1) (ρo (off := 2) (hk).1 rfl) dX1_endsAsBegins_41 ?_
        refine r_il2 dX1_endsAsBegins_44 ?_
        refine r_iald B (hk).2.2.1 (kl (hk).2.2.1) (by decide) o5 dX1_endsAsBegins_45 ?_
        refine r_al1 dX1_endsAsBegins_46 ?_
        refine r_getR B (p0 + 2) fg_X1_19 (hp0).1 (kl (hp0).1) (ρo (off := 2) (hp0).1 rfl) dX1_endsAsBegins_47 ?_
        refine r_iconst dX1_endsAsBegins_50 ?_
        refine r_iald B (hp0).2.2.1 (kl (hp0).2.2.1) (by decide) (by decide) dX1_endsAsBegins_51 ?_
        refine r_icmp_ne 59 dX1_endsAsBegins_52 rfl (hμ _ _) (hμ _ _) (fun c7 => ?_) (fun c7 => ?_)
        · have h := h.1 c7
          refine r_iconst dX1_endsAsBegins_59 ?_
          exact r_zret B hr (Or.inl rfl) hμ dX1_endsAsBegins_60 h
        · have h := h.2 c7
          refine r_iconst dX1_endsAsBegins_55 ?_
          refine r_goto 60 dX1_endsAsBegins_56 rfl ?_
          exact r_zret B hr (Or.inr rfl) hμ dX1_endsAsBegins_60 h
    · have h := h.2 c2
      refine r_iconst dX1_endsAsBegins_16 ?_
      exact r_zret B hr (Or.inl rfl) hμ dX1_endsAsBegins_17 h
set_option maxRecDepth 20000 in
theorem t_X1_wordsOf_5 {x : Cx} {E : Gx} (B : Bd x E 1 5 "SlipCovers$Code") (hr : (xt x).sig.returnType = (some .int)) {Q : Int → Mem → Prop} {k : Nat} {v2 : Int} {v3 : Int} {v4 : Int} {μ : Mem} (hk : isC k) (hv2 : inR v2) (hv3 : inR v3) (hv4 : inR v4) (hμ : okM μ) (h : LP5 (wp_X1_wordsOf_5 Q) k v2 v3 v4 μ) : J cX1_wordsOf x E z0 μ 5 [some (rv E k), none, some (iv v2), some (iv v3), some (iv v4)] [] (MQ (xb x) (QI E z0 Q) (xa x) (xs x) 0 0 (gA E)) := by
  refine LP5_ind (T := fun (k : Nat) (v2 : Int) (v3 : Int) (v4 : Int) (μ : Mem) => isC k → inR v2 → inR v3 → inR v4 → okM μ → J cX1_wordsOf x E z0 μ 5 [some (rv E k), none, some (iv v2), some (iv v3), some (iv v4)] [] (MQ (xb x) (QI E z0 Q) (xa x) (xs x) 0 0 (gA E))) (fun X5 hX5 k v2 v3 v4 μ h hk hv2 hv3 hv4 hμ => ?_) h hk hv2 hv3 hv4 hμ
  unfold wp_X1_wordsOf_5 at h
  refine r_il4 dX1_wordsOf_5 ?_
  refine r_il2 dX1_wordsOf_7 ?_
  refine r_icmp_ge 27 dX1_wordsOf_8 rfl hv4 hv2 (fun c1 => ?_) (fun c1 => ?_)
  · have h := h.1 c1
    refine r_il3 dX1_wordsOf_27 ?_
    exact r_iret B hr hv3 hμ dX1_wordsOf_28 h
  · have h := h.2 c1
    refine r_il3 dX1_wordsOf_11 ?_
    refine r_al0 dX1_wordsOf_12 ?_
    refine r_getR B (k + 1) fg_X1_15 (hk).1 (kl (hk).1) (ρo (off := 1) (hk).1 rfl) dX1_wordsOf_13 ?_
    refine r_il4 dX1_wordsOf_16 ?_
    obtain ⟨o2, h⟩ := h
    refine r_iald B (hk).2.1 (kl (hk).2.1) (by decide) o2 dX1_wordsOf_18 ?_
    refine r_imul dX1_wordsOf_19 ?_
    obtain ⟨o4, h⟩ := h
    refine n_topi (fun x3 ex3 => ?_)
    have h := h x3 ex3
    refine r_is3 dX1_wordsOf_20 rfl ?_
    refine r_inc4 dX1_wordsOf_21 rfl ?_
    obtain ⟨o5, h⟩ := h
    refine r_goto 5 dX1_wordsOf_24 rfl ?_
    exact J_weak (hX5 k v2 x3 (v4 + 1) μ h hk hv2 (eqR ex3 o4) o5 hμ) (⟨rfl, ⟨rfl, ⟨rfl, ⟨rfl, trivial⟩⟩⟩⟩)
set_option maxRecDepth 20000 in
theorem c_X1_wordsOf (l : Launch) (E : Gx) {k : Nat} {p0 : Int} {p1 : Int} {μ : Mem} {Q : Int → Mem → Prop} (hk : isC k) (hp0 : inR p0) (hp1 : inR p1) (hμ : okM μ) (h : wp_X1_wordsOf k p0 p1 μ Q) : MT l yX1_wordsOf cX1_wordsOf 5 (some .int) E 1 0 0 z0 [rv E k, iv p0, iv p1] μ (QI E z0 Q) := by
  refine m_start [some (rv E k), some (iv p0), some (iv p1), none, none] (by decide) rfl rfl rfl (fun x hxl hxc hxs B hr hnm => ?_)
  unfold wp_X1_wordsOf at h
  refine r_iconst dX1_wordsOf_0 ?_
  refine r_is3 dX1_wordsOf_1 rfl ?_
  refine r_il1 dX1_wordsOf_2 ?_
  refine r_is4 dX1_wordsOf_3 rfl ?_
  exact J_weak (t_X1_wordsOf_5 B hr hk hp1 (inR_k rfl) hp0 hμ h) (⟨rfl, ⟨rfl, ⟨rfl, ⟨rfl, trivial⟩⟩⟩⟩)
set_option maxRecDepth 20000 in
theorem t_X1_putBehind_3 {x : Cx} {E : Gx} (B : Bd x E 3 6 "SlipCovers$Code") (hr : (xt x).sig.returnType = none) {Q : Mem → Prop} {k : Nat} {v1 : Int} {v2 : Nat} {v3 : Int} {v4 : Int} {v5 : Int} {μ : Mem} (hk : isC k) (hv1 : inR v1) (hv2 : isC v2) (hv3 : inR v3) (hv4 : inR v4) (hv5 : inR v5) (hμ : okM μ) (h : LP7 (wp_X1_putBehind_3 Q) k v1 v2 v3 v4 v5 μ) : J cX1_putBehind x E z0 μ 3 [some (rv E k), some (iv v1), some (rv E v2), some (iv v3), some (iv v4), some (iv v5)] [] (MQ (xb x) (QV E z0 Q) (xa x) (xs x) 0 0 (gA E)) := by
  refine LP7_ind (T := fun (k : Nat) (v1 : Int) (v2 : Nat) (v3 : Int) (v4 : Int) (v5 : Int) (μ : Mem) => isC k → inR v1 → isC v2 → inR v3 → inR v4 → inR v5 → okM μ → J cX1_putBehind x E z0 μ 3 [some (rv E k), some (iv v1), some (rv E v2), some (iv v3), some (iv v4), some (iv v5)] [] (MQ (xb x) (QV E z0 Q) (xa x) (xs x) 0 0 (gA E))) (fun X3 hX3 k v1 v2 v3 v4 v5 μ h hk hv1 hv2 hv3 hv4 hv5 hμ => ?_) h hk hv1 hv2 hv3 hv4 hv5 hμ
  unfold wp_X1_putBehind_3 at h
  refine r_il5 dX1_putBehind_3 ?_
  refine r_il4 dX1_putBehind_5 ?_
  refine r_icmp_ge 35 dX1_putBehind_7 rfl hv5 hv4 (fun c1 => ?_) (fun c1 => ?_)
  · have h := h.1 c1
    exact r_vret B hr hμ dX1_putBehind_35 h
  · have h := h.2 c1
    refine r_al2 dX1_putBehind_10 ?_
    refine r_il3 dX1_putBehind_11 ?_
    refine r_il5 dX1_putBehind_12 ?_
    refine r_iadd dX1_putBehind_14 ?_
    obtain ⟨o2, h⟩ := h
    refine r_cVI1 B cb_X1_holds lk_X1_73 cv_X1_holds (hv2).1 (c_X1_holds (xl x) E hv2 o2 hμ h) rfl rfl dX1_putBehind_15 (fun r4 μ3 hr4 mμ3 h => ?_)
    refine r_if_eq 29 dX1_putBehind_18 rfl hr4 (fun c5 => ?_) (fun c5 => ?_)
    · have h := h.1 c5
      refine r_inc5 dX1_putBehind_29 rfl ?_
      obtain ⟨o6, h⟩ := h
      refine r_goto 3 dX1_putBehind_32 rfl ?_
      exact J_weak (hX3 k v1 v2 v3 v4 (v5 + 1) μ3 h hk hv1 hv2 hv3 hv4 o6 mμ3) (⟨rfl, ⟨rfl, ⟨rfl, ⟨rfl, ⟨rfl, ⟨rfl, trivial⟩⟩⟩⟩⟩⟩)
    · have h := h.2 c5
      refine r_al0 dX1_putBehind_21 ?_
      refine r_il1 dX1_putBehind_22 ?_
      refine r_il5 dX1_putBehind_23 ?_
      refine r_iadd dX1_putBehind_25 ?_
      obtain ⟨o7, h⟩ := h
      refine r_cVV1 B cb_X1_put lk_X1_82 cv_X1_put (hk).1 (c_X1_put (xl x) E hk o7 mμ3 h) rfl rfl dX1_putBehind_26 (fun μ8 mμ8 h => ?_)
      refine r_inc5 dX1_putBehind_29 rfl ?_
      obtain ⟨o9, h⟩ := h
      refine r_goto 3 dX1_putBehind_32 rfl ?_
      exact J_weak (hX3 k v1 v2 v3 v4 (v5 + 1) μ8 h hk hv1 hv2 hv3 hv4 o9 mμ8) (⟨rfl, ⟨rfl, ⟨rfl, ⟨rfl, ⟨rfl, ⟨rfl, trivial⟩⟩⟩⟩⟩⟩)
set_option maxRecDepth 20000 in
theorem c_X1_putBehind (l : Launch) (E : Gx) {k : Nat} {p0 : Int} {p1 : Nat} {p2 : Int} {p3 : Int} {μ : Mem} {Q : Mem → Prop} (hk : isC k) (hp0 : inR p0) (hp1 : isC p1) (hp2 : inR p2) (hp3 : inR p3) (hμ : okM μ) (h : wp_X1_putBehind k p0 p1 p2 p3 μ Q) : MT l yX1_putBehind cX1_putBehind 6 none E 3 0 0 z0 [rv E k, iv p0, rv E p1, iv p2, iv p3] μ (QV E z0 Q) := by
  refine m_start [some (rv E k), some (iv p0), some (rv E p1), some (iv p2), some (iv p3), none] (by decide) rfl rfl rfl (fun x hxl hxc hxs B hr hnm => ?_)
  unfold wp_X1_putBehind at h
  refine r_iconst dX1_putBehind_0 ?_
  refine r_is5 dX1_putBehind_1 rfl ?_
  exact J_weak (t_X1_putBehind_3 B hr hk hp0 hp1 hp2 hp3 (inR_k rfl) hμ h) (⟨rfl, ⟨rfl, ⟨rfl, ⟨rfl, ⟨rfl, ⟨rfl, trivial⟩⟩⟩⟩⟩⟩)
set_option maxRecDepth 20000 in
theorem t_X1_putPairs_2 {x : Cx} {E : Gx} (B : Bd x E 4 4 "SlipCovers$Code") (hr : (xt x).sig.returnType = none) {Q : Mem → Prop} {k : Nat} {v1 : Nat} {v2 : Nat} {v3 : Int} {μ : Mem} (hk : isC k) (hv1 : isC v1) (hv2 : isC v2) (hv3 : inR v3) (hμ : okM μ) (h : LP5 (wp_X1_putPairs_2 Q) k v1 v2 v3 μ) : J cX1_putPairs x E z0 μ 2 [some (rv E k), some (rv E v1), some (rv E v2), some (iv v3)] [] (MQ (xb x) (QV E z0 Q) (xa x) (xs x) 0 0 (gA E)) := by
  refine LP5_ind (T := fun (k : Nat) (v1 : Nat) (v2 : Nat) (v3 : Int) (μ : Mem) => isC k → isC v1 → isC v2 → inR v3 → okM μ → J cX1_putPairs x E z0 μ 2 [some (rv E k), some (rv E v1), some (rv E v2), some (iv v3)] [] (MQ (xb x) (QV E z0 Q) (xa x) (xs x) 0 0 (gA E))) (fun X2 hX2 k v1 v2 v3 μ h hk hv1 hv2 hv3 hμ => ?_) h hk hv1 hv2 hv3 hμ
  unfold wp_X1_putPairs_2 at h
  refine r_il3 dX1_putPairs_2 ?_
  refine r_al1 dX1_putPairs_3 ?_
  refine r_getI B fg_X1_9 (hv1).1 (kl (hv1).1) dX1_putPairs_4 ?_
  refine r_icmp_ge 40 dX1_putPairs_7 rfl hv3 (hμ v1 2) (fun c1 => ?_) (fun c1 => ?_)
  · have h := h.1 c1
    exact r_vret B hr hμ dX1_putPairs_40 h
  · have h := h.2 c1
    refine r_al1 dX1_putPairs_10 ?_
    refine r_il3 dX1_putPairs_11 ?_
    refine r_cVI1 B cb_X1_holds lk_X1_73 cv_X1_holds (hv1).1 (c_X1_holds (xl x) E hv1 hv3 hμ h) rfl rfl dX1_putPairs_12 (fun r3 μ2 hr3 mμ2 h => ?_)
    refine r_if_eq 34 dX1_putPairs_15 rfl hr3 (fun c4 => ?_) (fun c4 => ?_)
    · have h := h.1 c4
      refine r_inc3 dX1_putPairs_34 rfl ?_
      obtain ⟨o5, h⟩ := h
      refine r_goto 2 dX1_putPairs_37 rfl ?_
      exact J_weak (hX2 k v1 v2 (v3 + 1) μ2 h hk hv1 hv2 o5 mμ2) (⟨rfl, ⟨rfl, ⟨rfl, ⟨rfl, trivial⟩⟩⟩⟩)
    · have h := h.2 c4
      refine r_al0 dX1_putPairs_18 ?_
      refine r_il3 dX1_putPairs_19 ?_
      refine r_al2 dX1_putPairs_20 ?_
      refine r_getI B fg_X1_9 (hv2).1 (kl (hv2).1) dX1_putPairs_21 ?_
      refine r_imul dX1_putPairs_24 ?_
      refine r_al2 dX1_putPairs_25 ?_
      refine r_iconst dX1_putPairs_26 ?_
      refine r_al2 dX1_putPairs_27 ?_
      refine r_getI B fg_X1_9 (hv2).1 (kl (hv2).1) dX1_putPairs_28 ?_
      obtain ⟨o6, h⟩ := h
      refine r_cVV4 B cb_X1_putBehind lk_X1_78 cv_X1_putBehind (hk).1 (c_X1_putBehind (xl x) E hk o6 hv2 (inR_k rfl) (mμ2 v2 2) mμ2 h) rfl rfl dX1_putPairs_31 (fun μ7 mμ7 h => ?_)
      refine r_inc3 dX1_putPairs_34 rfl ?_
      obtain ⟨o8, h⟩ := h
      refine r_goto 2 dX1_putPairs_37 rfl ?_
      exact J_weak (hX2 k v1 v2 (v3 + 1) μ7 h hk hv1 hv2 o8 mμ7) (⟨rfl, ⟨rfl, ⟨rfl, ⟨rfl, trivial⟩⟩⟩⟩)
set_option maxRecDepth 20000 in
theorem c_X1_putPairs (l : Launch) (E : Gx) {k : Nat} {p0 : Nat} {p1 : Nat} {μ : Mem} {Q : Mem → Prop} (hk : isC k) (hp0 : isC p0) (hp1 : isC p1) (hμ : okM μ) (h : wp_X1_putPairs k p0 p1 μ Q) : MT l yX1_putPairs cX1_putPairs 4 none E 4 0 0 z0 [rv E k, rv E p0, rv E p1] μ (QV E z0 Q) := by
  refine m_start [some (rv E k), some (rv E p0), some (rv E p1), none] (by decide) rfl rfl rfl (fun x hxl hxc hxs B hr hnm => ?_)
  unfold wp_X1_putPairs at h
  refine r_iconst dX1_putPairs_0 ?_
  refine r_is3 dX1_putPairs_1 rfl ?_
  exact J_weak (t_X1_putPairs_2 B hr hk hp0 hp1 (inR_k rfl) hμ h) (⟨rfl, ⟨rfl, ⟨rfl, ⟨rfl, trivial⟩⟩⟩⟩)
set_option maxRecDepth 20000 in
theorem t_X1_putJoined_59 {x : Cx} {E : Gx} (B : Bd x E 4 7 "SlipCovers$Code") (hr : (xt x).sig.returnType = none) {Q : Mem → Prop} {X24 : Nat → Nat → Nat → Int → Int → Int → Int → Mem → Prop} (hX24 : ∀ (k : Nat) (v1 : Nat) (v2 : Nat) (v3 : Int) (v4 : Int) (v5 : Int) (v6 : Int) (μ : Mem), X24 k v1 v2 v3 v4 v5 v6 μ → isC k → isC v1 → isC v2 → inR v3 → inR v4 → inR v5 → inR v6 → okM μ → J cX1_putJoined x E z0 μ 24 [some (rv E k), some (rv E v1), some (rv E v2), some (iv v3), some (iv v4), some (iv v5), some (iv v6)] [] (MQ (xb x) (QV E z0 Q) (xa x) (xs x) 0 0 (gA E))) {k : Nat} {v1 : Nat} {v2 : Nat} {v3 : Int} {v4 : Int} {v5 : Int} {v6 : Int} {μ : Mem} (hk : isC k) (hv1 : isC v1) (hv2 : isC v2) (hv3 : inR v3) (hv4 : inR v4) (hv5 : inR v5) (hv6 : inR v6) (hμ : okM μ) (h : wp_X1_putJoined_59 Q X24 k v1 v2 v3 v4 v5 v6 μ) : J cX1_putJoined x E z0 μ 59 [some (rv E k), some (rv E v1), some (rv E v2), some (iv v3), some (iv v4), some (iv v5), some (iv v6)] [] (MQ (xb x) (QV E z0 Q) (xa x) (xs x) 0 0 (gA E)) := by
  unfold wp_X1_putJoined_59 at h
  refine r_il5 dX1_putJoined_59 ?_
  refine r_iconst dX1_putJoined_61 ?_
  refine r_iadd dX1_putJoined_62 ?_
  refine r_il3 dX1_putJoined_63 ?_
  obtain ⟨o7, h⟩ := h
  refine r_icmp_ge 74 dX1_putJoined_64 rfl o7 hv3 (fun c8 => ?_) (fun c8 => ?_)
  · have h := h.1 c8
    refine r_iconst dX1_putJoined_74 ?_
    refine r_is5 dX1_putJoined_75 rfl ?_
    refine r_inc6 dX1_putJoined_77 rfl ?_
    obtain ⟨o9, h⟩ := h
    refine r_goto 24 dX1_putJoined_80 rfl ?_
    exact J_weak (hX24 k v1 v2 v3 v4 0 (v6 + 1) μ h hk hv1 hv2 hv3 hv4 (inR_k rfl) o9 hμ) (⟨rfl, ⟨rfl, ⟨rfl, ⟨rfl, ⟨rfl, ⟨rfl, ⟨rfl, trivial⟩⟩⟩⟩⟩⟩⟩)
  · have h := h.2 c8
    refine r_il5 dX1_putJoined_67 ?_
    refine r_iconst dX1_putJoined_69 ?_
    refine r_iadd dX1_putJoined_70 ?_
    refine r_goto 75 dX1_putJoined_71 rfl ?_
    obtain ⟨o11, h⟩ := h
    refine n_topi (fun x10 ex10 => ?_)
    have h := h x10 ex10
    refine r_is5 dX1_putJoined_75 rfl ?_
    refine r_inc6 dX1_putJoined_77 rfl ?_
    obtain ⟨o12, h⟩ := h
    refine r_goto 24 dX1_putJoined_80 rfl ?_
    exact J_weak (hX24 k v1 v2 v3 v4 x10 (v6 + 1) μ h hk hv1 hv2 hv3 hv4 (eqR ex10 o11) o12 hμ) (⟨rfl, ⟨rfl, ⟨rfl, ⟨rfl, ⟨rfl, ⟨rfl, ⟨rfl, trivial⟩⟩⟩⟩⟩⟩⟩)
set_option maxRecDepth 20000 in
theorem t_X1_putJoined_24 {x : Cx} {E : Gx} (B : Bd x E 4 7 "SlipCovers$Code") (hr : (xt x).sig.returnType = none) {Q : Mem → Prop} {k : Nat} {v1 : Nat} {v2 : Nat} {v3 : Int} {v4 : Int} {v5 : Int} {v6 : Int} {μ : Mem} (hk : isC k) (hv1 : isC v1) (hv2 : isC v2) (hv3 : inR v3) (hv4 : inR v4) (hv5 : inR v5) (hv6 : inR v6) (hμ : okM μ) (h : LP8 (wp_X1_putJoined_24 Q) k v1 v2 v3 v4 v5 v6 μ) : J cX1_putJoined x E z0 μ 24 [some (rv E k), some (rv E v1), some (rv E v2), some (iv v3), some (iv v4), some (iv v5), some (iv v6)] [] (MQ (xb x) (QV E z0 Q) (xa x) (xs x) 0 0 (gA E)) := by
  refine LP8_ind (T := fun (k : Nat) (v1 : Nat) (v2 : Nat) (v3 : Int) (v4 : Int) (v5 : Int) (v6 : Int) (μ : Mem) => isC k → isC v1 → isC v2 → inR v3 → inR v4 → inR v5 → inR v6 → okM μ → J cX1_putJoined x E z0 μ 24 [some (rv E k), some (rv E v1), some (rv E v2), some (iv v3), some (iv v4), some (iv v5), some (iv v6)] [] (MQ (xb x) (QV E z0 Q) (xa x) (xs x) 0 0 (gA E))) (fun X24 hX24 k v1 v2 v3 v4 v5 v6 μ h hk hv1 hv2 hv3 hv4 hv5 hv6 hμ => ?_) h hk hv1 hv2 hv3 hv4 hv5 hv6 hμ
  unfold wp_X1_putJoined_24 at h
  refine r_il6 dX1_putJoined_24 ?_
  refine r_al1 dX1_putJoined_26 ?_
  refine r_getI B fg_X1_9 (hv1).1 (kl (hv1).1) dX1_putJoined_27 ?_
  refine r_icmp_ge 83 dX1_putJoined_30 rfl hv6 (hμ v1 2) (fun c3 => ?_) (fun c3 => ?_)
  · have h := h.1 c3
    exact r_vret B hr hμ dX1_putJoined_83 h
  · have h := h.2 c3
    refine r_al1 dX1_putJoined_33 ?_
    refine r_il6 dX1_putJoined_34 ?_
    refine r_cVI1 B cb_X1_holds lk_X1_73 cv_X1_holds (hv1).1 (c_X1_holds (xl x) E hv1 hv6 hμ h) rfl rfl dX1_putJoined_36 (fun r5 μ4 hr5 mμ4 h => ?_)
    refine r_if_eq 59 dX1_putJoined_39 rfl hr5 (fun c6 => ?_) (fun c6 => ?_)
    · have h := h.1 c6
      exact J_weak (t_X1_putJoined_59 B hr hX24 hk hv1 hv2 hv3 hv4 hv5 hv6 mμ4 h) (⟨rfl, ⟨rfl, ⟨rfl, ⟨rfl, ⟨rfl, ⟨rfl, ⟨rfl, trivial⟩⟩⟩⟩⟩⟩⟩)
    · have h := h.2 c6
      refine r_al0 dX1_putJoined_42 ?_
      refine r_il6 dX1_putJoined_43 ?_
      refine r_il4 dX1_putJoined_45 ?_
      refine r_imul dX1_putJoined_47 ?_
      refine r_al2 dX1_putJoined_48 ?_
      refine r_il5 dX1_putJoined_49 ?_
      refine r_il4 dX1_putJoined_51 ?_
      refine r_imul dX1_putJoined_53 ?_
      refine r_il4 dX1_putJoined_54 ?_
      obtain ⟨o13, h⟩ := h
      obtain ⟨o14, h⟩ := h
      refine r_cVV4 B cb_X1_putBehind lk_X1_78 cv_X1_putBehind (hk).1 (c_X1_putBehind (xl x) E hk o13 hv2 o14 hv4 mμ4 h) rfl rfl dX1_putJoined_56 (fun μ15 mμ15 h => ?_)
      exact J_weak (t_X1_putJoined_59 B hr hX24 hk hv1 hv2 hv3 hv4 hv5 hv6 mμ15 h) (⟨rfl, ⟨rfl, ⟨rfl, ⟨rfl, ⟨rfl, ⟨rfl, ⟨rfl, trivial⟩⟩⟩⟩⟩⟩⟩)
set_option maxRecDepth 20000 in
theorem c_X1_putJoined (l : Launch) (E : Gx) {k : Nat} {p0 : Nat} {p1 : Nat} {μ : Mem} {Q : Mem → Prop} (hk : isC k) (hp0 : isC p0) (hp1 : isC p1) (hμ : okM μ) (h : wp_X1_putJoined k p0 p1 μ Q) : MT l yX1_putJoined cX1_putJoined 7 none E 4 0 0 z0 [rv E k, rv E p0, rv E p1] μ (QV E z0 Q) := by
  refine m_start [some (rv E k), some (rv E p0), some (rv E p1), none, none, none, none] (by decide) rfl rfl rfl (fun x hxl hxc hxs B hr hnm => ?_)
  unfold wp_X1_putJoined at h
  refine r_al2 dX1_putJoined_0 ?_
  refine r_getR B (p1 + 1) fg_X1_15 (hp1).1 (kl (hp1).1) (ρo (off := 1) (hp1).1 rfl) dX1_putJoined_1 ?_
  refine r_iconst dX1_putJoined_4 ?_
  refine r_iald B (hp1).2.1 (kl (hp1).2.1) (by decide) (by decide) dX1_putJoined_5 ?_
  refine r_is3 dX1_putJoined_6 rfl ?_
  refine r_al2 dX1_putJoined_7 ?_
  refine r_iconst dX1_putJoined_8 ?_
  refine r_al2 dX1_putJoined_9 ?_
  refine r_getI B fg_X1_30 (hp1).1 (kl (hp1).1) dX1_putJoined_10 ?_
  refine r_cVI2 B cb_X1_wordsOf lk_X1_86 cv_X1_wordsOf (hp1).1 (c_X1_wordsOf (xl x) E hp1 (inR_k rfl) (hμ p1 1) hμ h) rfl rfl dX1_putJoined_13 (fun r2 μ1 hr2 mμ1 h => ?_)
  refine r_is4 dX1_putJoined_16 rfl ?_
  refine r_iconst dX1_putJoined_18 ?_
  refine r_is5 dX1_putJoined_19 rfl ?_
  refine r_iconst dX1_putJoined_21 ?_
  refine r_is6 dX1_putJoined_22 rfl ?_
  exact J_weak (t_X1_putJoined_24 B hr hk hp0 hp1 (hμ _ _) hr2 (inR_k rfl) (inR_k rfl) mμ1 h) (⟨rfl, ⟨rfl, ⟨rfl, ⟨rfl, ⟨rfl, ⟨rfl, ⟨rfl, trivial⟩⟩⟩⟩⟩⟩⟩)
set_option maxRecDepth 20000 in
theorem t_X1_putLonger_21 {x : Cx} {E : Gx} (B : Bd x E 3 5 "SlipCovers$Code") (hr : (xt x).sig.returnType = none) {Q : Mem → Prop} {X2 : Nat → Nat → Int → Int → Mem → Prop} (hX2 : ∀ (k : Nat) (v1 : Nat) (v2 : Int) (v3 : Int) (μ : Mem), X2 k v1 v2 v3 μ → isC k → isC v1 → inR v2 → inR v3 → okM μ → J cX1_putLonger x E z0 μ 2 [some (rv E k), some (rv E v1), some (iv v2), some (iv v3), none] [] (MQ (xb x) (QV E z0 Q) (xa x) (xs x) 0 0 (gA E))) {k : Nat} {v1 : Nat} {v2 : Int} {v3 : Int} {v4 : Int} {μ : Mem} (hk : isC k) (hv1 : isC v1) (hv2 : inR v2) (hv3 : inR v3) (hv4 : inR v4) (hμ : okM μ) (h : LP6 (wp_X1_putLonger_21 Q X2) k v1 v2 v3 v4 μ) : J cX1_putLonger x E z0 μ 21 [some (rv E k), some (rv E v1), some (iv v2), some (iv v3), some (iv v4)] [] (MQ (xb x) (QV E z0 Q) (xa x) (xs x) 0 0 (gA E)) := by
  refine LP6_ind (T := fun (k : Nat) (v1 : Nat) (v2 : Int) (v3 : Int) (v4 : Int) (μ : Mem) => isC k → isC v1 → inR v2 → inR v3 → inR v4 → okM μ → J cX1_putLonger x E z0 μ 21 [some (rv E k), some (rv E v1), some (iv v2), some (iv v3), some (iv v4)] [] (MQ (xb x) (QV E z0 Q) (xa x) (xs x) 0 0 (gA E))) (fun X21 hX21 k v1 v2 v3 v4 μ h hk hv1 hv2 hv3 hv4 hμ => ?_) h hk hv1 hv2 hv3 hv4 hμ
  unfold wp_X1_putLonger_21 at h
  refine r_il4 dX1_putLonger_21 ?_
  refine r_il2 dX1_putLonger_23 ?_
  refine r_icmp_ge 43 dX1_putLonger_24 rfl hv4 hv2 (fun c6 => ?_) (fun c6 => ?_)
  · have h := h.1 c6
    refine r_inc3 dX1_putLonger_43 rfl ?_
    obtain ⟨o7, h⟩ := h
    refine r_goto 2 dX1_putLonger_46 rfl ?_
    exact J_weak (hX2 k v1 v2 (v3 + 1) μ h hk hv1 hv2 o7 hμ) (⟨rfl, ⟨rfl, ⟨rfl, ⟨rfl, trivial⟩⟩⟩⟩)
  · have h := h.2 c6
    refine r_al0 dX1_putLonger_27 ?_
    refine r_il3 dX1_putLonger_28 ?_
    refine r_il2 dX1_putLonger_29 ?_
    refine r_imul dX1_putLonger_30 ?_
    refine r_il4 dX1_putLonger_31 ?_
    refine r_iadd dX1_putLonger_33 ?_
    obtain ⟨o8, h⟩ := h
    refine r_cVV1 B cb_X1_put lk_X1_82 cv_X1_put (hk).1 (c_X1_put (xl x) E hk o8 hμ h) rfl rfl dX1_putLonger_34 (fun μ9 mμ9 h => ?_)
    refine r_inc4 dX1_putLonger_37 rfl ?_
    obtain ⟨o10, h⟩ := h
    refine r_goto 21 dX1_putLonger_40 rfl ?_
    exact J_weak (hX21 k v1 v2 v3 (v4 + 1) μ9 h hk hv1 hv2 hv3 o10 mμ9) (⟨rfl, ⟨rfl, ⟨rfl, ⟨rfl, ⟨rfl, trivial⟩⟩⟩⟩⟩)
set_option maxRecDepth 20000 in
theorem t_X1_putLonger_2 {x : Cx} {E : Gx} (B : Bd x E 3 5 "SlipCovers$Code") (hr : (xt x).sig.returnType = none) {Q : Mem → Prop} {k : Nat} {v1 : Nat} {v2 : Int} {v3 : Int} {μ : Mem} (hk : isC k) (hv1 : isC v1) (hv2 : inR v2) (hv3 : inR v3) (hμ : okM μ) (h : LP5 (wp_X1_putLonger_2 Q) k v1 v2 v3 μ) : J cX1_putLonger x E z0 μ 2 [some (rv E k), some (rv E v1), some (iv v2), some (iv v3), none] [] (MQ (xb x) (QV E z0 Q) (xa x) (xs x) 0 0 (gA E)) := by
  refine LP5_ind (T := fun (k : Nat) (v1 : Nat) (v2 : Int) (v3 : Int) (μ : Mem) => isC k → isC v1 → inR v2 → inR v3 → okM μ → J cX1_putLonger x E z0 μ 2 [some (rv E k), some (rv E v1), some (iv v2), some (iv v3), none] [] (MQ (xb x) (QV E z0 Q) (xa x) (xs x) 0 0 (gA E))) (fun X2 hX2 k v1 v2 v3 μ h hk hv1 hv2 hv3 hμ => ?_) h hk hv1 hv2 hv3 hμ
  unfold wp_X1_putLonger_2 at h
  refine r_il3 dX1_putLonger_2 ?_
  refine r_al1 dX1_putLonger_3 ?_
  refine r_getI B fg_X1_9 (hv1).1 (kl (hv1).1) dX1_putLonger_4 ?_
  refine r_icmp_ge 49 dX1_putLonger_7 rfl hv3 (hμ v1 2) (fun c1 => ?_) (fun c1 => ?_)
  · have h := h.1 c1
    exact r_vret B hr hμ dX1_putLonger_49 h
  · have h := h.2 c1
    refine r_al1 dX1_putLonger_10 ?_
    refine r_il3 dX1_putLonger_11 ?_
    refine r_cVI1 B cb_X1_holds lk_X1_73 cv_X1_holds (hv1).1 (c_X1_holds (xl x) E hv1 hv3 hμ h) rfl rfl dX1_putLonger_12 (fun r3 μ2 hr3 mμ2 h => ?_)
    refine r_if_eq 43 dX1_putLonger_15 rfl hr3 (fun c4 => ?_) (fun c4 => ?_)
    · have h := h.1 c4
      refine r_inc3 dX1_putLonger_43 rfl ?_
      obtain ⟨o5, h⟩ := h
      refine r_goto 2 dX1_putLonger_46 rfl ?_
      exact J_weak (hX2 k v1 v2 (v3 + 1) μ2 h hk hv1 hv2 o5 mμ2) (⟨rfl, ⟨rfl, ⟨rfl, ⟨rfl, trivial⟩⟩⟩⟩)
    · have h := h.2 c4
      refine r_iconst dX1_putLonger_18 ?_
      refine r_is4 dX1_putLonger_19 rfl ?_
      exact J_weak (t_X1_putLonger_21 B hr hX2 hk hv1 hv2 hv3 (inR_k rfl) mμ2 h) (⟨rfl, ⟨rfl, ⟨rfl, ⟨rfl, ⟨rfl, trivial⟩⟩⟩⟩⟩)
set_option maxRecDepth 20000 in
theorem c_X1_putLonger (l : Launch) (E : Gx) {k : Nat} {p0 : Nat} {p1 : Int} {μ : Mem} {Q : Mem → Prop} (hk : isC k) (hp0 : isC p0) (hp1 : inR p1) (hμ : okM μ) (h : wp_X1_putLonger k p0 p1 μ Q) : MT l yX1_putLonger cX1_putLonger 5 none E 3 0 0 z0 [rv E k, rv E p0, iv p1] μ (QV E z0 Q) := by
  refine m_start [some (rv E k), some (rv E p0), some (iv p1), none, none] (by decide) rfl rfl rfl (fun x hxl hxc hxs B hr hnm => ?_)
  unfold wp_X1_putLonger at h
  refine r_iconst dX1_putLonger_0 ?_
  refine r_is3 dX1_putLonger_1 rfl ?_
  exact J_weak (t_X1_putLonger_2 B hr hk hp0 hp1 (inR_k rfl) hμ h) (⟨rfl, ⟨rfl, ⟨rfl, ⟨rfl, trivial⟩⟩⟩⟩)
set_option maxRecDepth 20000 in
theorem t_X1_putShorter_32 {x : Cx} {E : Gx} (B : Bd x E 4 8 "SlipCovers$Code") (hr : (xt x).sig.returnType = none) {Q : Mem → Prop} {k : Nat} {v1 : Nat} {v3 : Int} {v4 : Int} {v5 : Int} {v6 : Int} {v7 : Int} {μ : Mem} (hk : isC k) (hv1 : isC v1) (hv3 : inR v3) (hv4 : inR v4) (hv5 : inR v5) (hv6 : inR v6) (hv7 : inR v7) (hμ : okM μ) (h : LP8 (wp_X1_putShorter_32 Q) k v1 v3 v4 v5 v6 v7 μ) : J cX1_putShorter x E z0 μ 32 [some (rv E k), some (rv E v1), none, some (iv v3), some (iv v4), some (iv v5), some (iv v6), some (iv v7)] [] (MQ (xb x) (QV E z0 Q) (xa x) (xs x) 0 0 (gA E)) := by
  refine LP8_ind (T := fun (k : Nat) (v1 : Nat) (v3 : Int) (v4 : Int) (v5 : Int) (v6 : Int) (v7 : Int) (μ : Mem) => isC k → isC v1 → inR v3 → inR v4 → inR v5 → inR v6 → inR v7 → okM μ → J cX1_putShorter x E z0 μ 32 [some (rv E k), some (rv E v1), none, some (iv v3), some (iv v4), some (iv v5), some (iv v6), some (iv v7)] [] (MQ (xb x) (QV E z0 Q) (xa x) (xs x) 0 0 (gA E))) (fun X32 hX32 k v1 v3 v4 v5 v6 v7 μ h hk hv1 hv3 hv4 hv5 hv6 hv7 hμ => ?_) h hk hv1 hv3 hv4 hv5 hv6 hv7 hμ
  unfold wp_X1_putShorter_32 at h
  refine r_il7 dX1_putShorter_32 ?_
  refine r_il5 dX1_putShorter_34 ?_
  refine r_icmp_ge 67 dX1_putShorter_36 rfl hv7 hv5 (fun c7 => ?_) (fun c7 => ?_)
  · have h := h.1 c7
    exact r_vret B hr hμ dX1_putShorter_67 h
  · have h := h.2 c7
    refine r_al0 dX1_putShorter_39 ?_
    refine r_il7 dX1_putShorter_40 ?_
    refine r_il6 dX1_putShorter_42 ?_
    refine r_imul dX1_putShorter_44 ?_
    refine r_al1 dX1_putShorter_45 ?_
    refine r_il7 dX1_putShorter_46 ?_
    refine r_il4 dX1_putShorter_48 ?_
    refine r_imul dX1_putShorter_50 ?_
    refine r_il3 dX1_putShorter_51 ?_
    refine r_iadd dX1_putShorter_52 ?_
    refine r_il6 dX1_putShorter_53 ?_
    refine r_imul dX1_putShorter_55 ?_
    refine r_il6 dX1_putShorter_56 ?_
    obtain ⟨o8, h⟩ := h
    obtain ⟨o9, h⟩ := h
    refine r_cVV4 B cb_X1_putBehind lk_X1_78 cv_X1_putBehind (hk).1 (c_X1_putBehind (xl x) E hk o8 hv1 o9 hv6 hμ h) rfl rfl dX1_putShorter_58 (fun μ10 mμ10 h => ?_)
    refine r_inc7 dX1_putShorter_61 rfl ?_
    obtain ⟨o11, h⟩ := h
    refine r_goto 32 dX1_putShorter_64 rfl ?_
    exact J_weak (hX32 k v1 v3 v4 v5 v6 (v7 + 1) μ10 h hk hv1 hv3 hv4 hv5 hv6 o11 mμ10) (⟨rfl, ⟨rfl, ⟨rfl, ⟨rfl, ⟨rfl, ⟨rfl, ⟨rfl, trivial⟩⟩⟩⟩⟩⟩⟩)
set_option maxRecDepth 20000 in
theorem c_X1_putShorter (l : Launch) (E : Gx) {k : Nat} {p0 : Nat} {p1 : Int} {p2 : Int} {μ : Mem} {Q : Mem → Prop} (hk : isC k) (hp0 : isC p0) (hp1 : inR p1) (hp2 : inR p2) (hμ : okM μ) (h : wp_X1_putShorter k p0 p1 p2 μ Q) : MT l yX1_putShorter cX1_putShorter 8 none E 4 0 0 z0 [rv E k, rv E p0, iv p1, iv p2] μ (QV E z0 Q) := by
  refine m_start [some (rv E k), some (rv E p0), some (iv p1), some (iv p2), none, none, none, none] (by decide) rfl rfl rfl (fun x hxl hxc hxs B hr hnm => ?_)
  unfold wp_X1_putShorter at h
  refine r_al1 dX1_putShorter_0 ?_
  refine r_getR B (p0 + 1) fg_X1_15 (hp0).1 (kl (hp0).1) (ρo (off := 1) (hp0).1 rfl) dX1_putShorter_1 ?_
  refine r_il2 dX1_putShorter_4 ?_
  obtain ⟨o1, h⟩ := h
  refine r_iald B (hp0).2.1 (kl (hp0).2.1) (by decide) o1 dX1_putShorter_5 ?_
  refine r_is4 dX1_putShorter_6 rfl ?_
  refine r_al1 dX1_putShorter_8 ?_
  refine r_iconst dX1_putShorter_9 ?_
  refine r_il2 dX1_putShorter_10 ?_
  refine r_cVI2 B cb_X1_wordsOf lk_X1_86 cv_X1_wordsOf (hp0).1 (c_X1_wordsOf (xl x) E hp0 (inR_k rfl) hp1 hμ h) rfl rfl dX1_putShorter_11 (fun r3 μ2 hr3 mμ2 h => ?_)
  refine r_is5 dX1_putShorter_14 rfl ?_
  refine r_al1 dX1_putShorter_16 ?_
  refine r_il2 dX1_putShorter_17 ?_
  refine r_iconst dX1_putShorter_18 ?_
  refine r_iadd dX1_putShorter_19 ?_
  refine r_al1 dX1_putShorter_20 ?_
  refine r_getI B fg_X1_30 (hp0).1 (kl (hp0).1) dX1_putShorter_21 ?_
  obtain ⟨o4, h⟩ := h
  refine r_cVI2 B cb_X1_wordsOf lk_X1_86 cv_X1_wordsOf (hp0).1 (c_X1_wordsOf (xl x) E hp0 o4 (mμ2 p0 1) mμ2 h) rfl rfl dX1_putShorter_24 (fun r6 μ5 hr6 mμ5 h => ?_)
  refine r_is6 dX1_putShorter_27 rfl ?_
  refine r_iconst dX1_putShorter_29 ?_
  refine r_is7 dX1_putShorter_30 rfl ?_
  exact J_weak (t_X1_putShorter_32 B hr hk hp0 hp2 (hμ _ _) hr3 hr6 (inR_k rfl) mμ5 h) (⟨rfl, ⟨rfl, ⟨rfl, ⟨rfl, ⟨rfl, ⟨rfl, ⟨rfl, trivial⟩⟩⟩⟩⟩⟩⟩)
set_option maxRecDepth 20000 in
theorem t_X1_putShifted_49 {x : Cx} {E : Gx} (B : Bd x E 4 11 "SlipCovers$Code") (hr : (xt x).sig.returnType = none) {Q : Mem → Prop} {X39 : Nat → Nat → Int → Int → Int → Int → Int → Mem → Prop} (hX39 : ∀ (k : Nat) (v1 : Nat) (v3 : Int) (v4 : Int) (v5 : Int) (v6 : Int) (v7 : Int) (μ : Mem), X39 k v1 v3 v4 v5 v6 v7 μ → isC k → isC v1 → inR v3 → inR v4 → inR v5 → inR v6 → inR v7 → okM μ → J cX1_putShifted x E z0 μ 39 [some (rv E k), some (rv E v1), none, some (iv v3), some (iv v4), some (iv v5), some (iv v6), some (iv v7), none, none, none] [] (MQ (xb x) (QV E z0 Q) (xa x) (xs x) 0 0 (gA E))) {k : Nat} {v1 : Nat} {v3 : Int} {v4 : Int} {v5 : Int} {v6 : Int} {v7 : Int} {v8 : Int} {μ : Mem} (hk : isC k) (hv1 : isC v1) (hv3 : inR v3) (hv4 : inR v4) (hv5 : inR v5) (hv6 : inR v6) (hv7 : inR v7) (hv8 : inR v8) (hμ : okM μ) (h : LP9 (wp_X1_putShifted_49 Q X39) k v1 v3 v4 v5 v6 v7 v8 μ) : J cX1_putShifted x E z0 μ 49 [some (rv E k), some (rv E v1), none, some (iv v3), some (iv v4), some (iv v5), some (iv v6), some (iv v7), some (iv v8), none, none] [] (MQ (xb x) (QV E z0 Q) (xa x) (xs x) 0 0 (gA E)) := by
  refine LP9_ind (T := fun (k : Nat) (v1 : Nat) (v3 : Int) (v4 : Int) (v5 : Int) (v6 : Int) (v7 : Int) (v8 : Int) (μ : Mem) => isC k → isC v1 → inR v3 → inR v4 → inR v5 → inR v6 → inR v7 → inR v8 → okM μ → J cX1_putShifted x E z0 μ 49 [some (rv E k), some (rv E v1), none, some (iv v3), some (iv v4), some (iv v5), some (iv v6), some (iv v7), some (iv v8), none, none] [] (MQ (xb x) (QV E z0 Q) (xa x) (xs x) 0 0 (gA E))) (fun X49 hX49 k v1 v3 v4 v5 v6 v7 v8 μ h hk hv1 hv3 hv4 hv5 hv6 hv7 hv8 hμ => ?_) h hk hv1 hv3 hv4 hv5 hv6 hv7 hv8 hμ
  unfold wp_X1_putShifted_49 at h
  refine r_il8 dX1_putShifted_49 ?_
  refine r_il4 dX1_putShifted_51 ?_
  refine r_icmp_ge 104 dX1_putShifted_53 rfl hv8 hv4 (fun c9 => ?_) (fun c9 => ?_)
  · have h := h.1 c9
    refine r_inc7 dX1_putShifted_104 rfl ?_
    obtain ⟨o10, h⟩ := h
    refine r_goto 39 dX1_putShifted_107 rfl ?_
    exact J_weak (hX39 k v1 v3 v4 v5 v6 (v7 + 1) μ h hk hv1 hv3 hv4 hv5 hv6 o10 hμ) (⟨rfl, ⟨rfl, ⟨rfl, ⟨rfl, ⟨rfl, ⟨rfl, ⟨rfl, trivial⟩⟩⟩⟩⟩⟩⟩)
  · have h := h.2 c9
    refine r_il8 dX1_putShifted_56 ?_
    refine r_il3 dX1_putShifted_58 ?_
    refine r_iadd dX1_putShifted_59 ?_
    refine r_il4 dX1_putShifted_60 ?_
    obtain ⟨o11, h⟩ := h
    obtain ⟨o12, h⟩ := h
    refine r_irem dX1_putShifted_62 o12 o11 hv4 ?_
    refine n_topi (fun x13 ex13 => ?_)
    have h := h x13 ex13
    refine r_is9 dX1_putShifted_63 rfl ?_
    refine r_il7 dX1_putShifted_65 ?_
    refine r_il4 dX1_putShifted_67 ?_
    refine r_imul dX1_putShifted_69 ?_
    refine r_il9 dX1_putShifted_70 ?_
    refine r_iadd dX1_putShifted_72 ?_
    refine r_il6 dX1_putShifted_73 ?_
    refine r_imul dX1_putShifted_75 ?_
    obtain ⟨o15, h⟩ := h
    refine n_topi (fun x14 ex14 => ?_)
    have h := h x14 ex14
    refine r_is10 dX1_putShifted_76 rfl ?_
    refine r_al0 dX1_putShifted_78 ?_
    refine r_il10 dX1_putShifted_79 ?_
    refine r_al1 dX1_putShifted_81 ?_
    refine r_il7 dX1_putShifted_82 ?_
    refine r_il4 dX1_putShifted_84 ?_
    refine r_imul dX1_putShifted_86 ?_
    refine r_il8 dX1_putShifted_87 ?_
    refine r_iadd dX1_putShifted_89 ?_
    refine r_il6 dX1_putShifted_90 ?_
    refine r_imul dX1_putShifted_92 ?_
    refine r_il6 dX1_putShifted_93 ?_
    obtain ⟨o16, h⟩ := h
    refine r_cVV4 B cb_X1_putBehind lk_X1_78 cv_X1_putBehind (hk).1 (c_X1_putBehind (xl x) E hk (eqR ex14 o15) hv1 o16 hv6 hμ h) rfl rfl dX1_putShifted_95 (fun μ17 mμ17 h => ?_)
    refine r_inc8 dX1_putShifted_98 rfl ?_
    obtain ⟨o18, h⟩ := h
    refine r_goto 49 dX1_putShifted_101 rfl ?_
    exact J_weak (hX49 k v1 v3 v4 v5 v6 v7 (v8 + 1) μ17 h hk hv1 hv3 hv4 hv5 hv6 hv7 o18 mμ17) (⟨rfl, ⟨rfl, ⟨rfl, ⟨rfl, ⟨rfl, ⟨rfl, ⟨rfl, ⟨rfl, trivial⟩⟩⟩⟩⟩⟩⟩⟩)
set_option maxRecDepth 20000 in
theorem t_X1_putShifted_39 {x : Cx} {E : Gx} (B : Bd x E 4 11 "SlipCovers$Code") (hr : (xt x).sig.returnType = none) {Q : Mem → Prop} {k : Nat} {v1 : Nat} {v3 : Int} {v4 : Int} {v5 : Int} {v6 : Int} {v7 : Int} {μ : Mem} (hk : isC k) (hv1 : isC v1) (hv3 : inR v3) (hv4 : inR v4) (hv5 : inR v5) (hv6 : inR v6) (hv7 : inR v7) (hμ : okM μ) (h : LP8 (wp_X1_putShifted_39 Q) k v1 v3 v4 v5 v6 v7 μ) : J cX1_putShifted x E z0 μ 39 [some (rv E k), some (rv E v1), none, some (iv v3), some (iv v4), some (iv v5), some (iv v6), some (iv v7), none, none, none] [] (MQ (xb x) (QV E z0 Q) (xa x) (xs x) 0 0 (gA E)) := by
  refine LP8_ind (T := fun (k : Nat) (v1 : Nat) (v3 : Int) (v4 : Int) (v5 : Int) (v6 : Int) (v7 : Int) (μ : Mem) => isC k → isC v1 → inR v3 → inR v4 → inR v5 → inR v6 → inR v7 → okM μ → J cX1_putShifted x E z0 μ 39 [some (rv E k), some (rv E v1), none, some (iv v3), some (iv v4), some (iv v5), some (iv v6), some (iv v7), none, none, none] [] (MQ (xb x) (QV E z0 Q) (xa x) (xs x) 0 0 (gA E))) (fun X39 hX39 k v1 v3 v4 v5 v6 v7 μ h hk hv1 hv3 hv4 hv5 hv6 hv7 hμ => ?_) h hk hv1 hv3 hv4 hv5 hv6 hv7 hμ
  unfold wp_X1_putShifted_39 at h
  refine r_il7 dX1_putShifted_39 ?_
  refine r_il5 dX1_putShifted_41 ?_
  refine r_icmp_ge 110 dX1_putShifted_43 rfl hv7 hv5 (fun c8 => ?_) (fun c8 => ?_)
  · have h := h.1 c8
    exact r_vret B hr hμ dX1_putShifted_110 h
  · have h := h.2 c8
    refine r_iconst dX1_putShifted_46 ?_
    refine r_is8 dX1_putShifted_47 rfl ?_
    exact J_weak (t_X1_putShifted_49 B hr hX39 hk hv1 hv3 hv4 hv5 hv6 hv7 (inR_k rfl) hμ h) (⟨rfl, ⟨rfl, ⟨rfl, ⟨rfl, ⟨rfl, ⟨rfl, ⟨rfl, ⟨rfl, trivial⟩⟩⟩⟩⟩⟩⟩⟩)
set_option maxRecDepth 20000 in
theorem c_X1_putShifted (l : Launch) (E : Gx) {k : Nat} {p0 : Nat} {p1 : Int} {p2 : Int} {μ : Mem} {Q : Mem → Prop} (hk : isC k) (hp0 : isC p0) (hp1 : inR p1) (hp2 : inR p2) (hμ : okM μ) (h : wp_X1_putShifted k p0 p1 p2 μ Q) : MT l yX1_putShifted cX1_putShifted 11 none E 4 0 0 z0 [rv E k, rv E p0, iv p1, iv p2] μ (QV E z0 Q) := by
  refine m_start [some (rv E k), some (rv E p0), some (iv p1), some (iv p2), none, none, none, none, none, none, none] (by decide) rfl rfl rfl (fun x hxl hxc hxs B hr hnm => ?_)
  unfold wp_X1_putShifted at h
  refine r_al1 dX1_putShifted_0 ?_
  refine r_getR B (p0 + 1) fg_X1_15 (hp0).1 (kl (hp0).1) (ρo (off := 1) (hp0).1 rfl) dX1_putShifted_1 ?_
  refine r_il2 dX1_putShifted_4 ?_
  obtain ⟨o1, h⟩ := h
  refine r_iald B (hp0).2.1 (kl (hp0).2.1) (by decide) o1 dX1_putShifted_5 ?_
  refine r_is4 dX1_putShifted_6 rfl ?_
  refine r_al1 dX1_putShifted_8 ?_
  refine r_iconst dX1_putShifted_9 ?_
  refine r_il2 dX1_putShifted_10 ?_
  refine r_cVI2 B cb_X1_wordsOf lk_X1_86 cv_X1_wordsOf (hp0).1 (c_X1_wordsOf (xl x) E hp0 (inR_k rfl) hp1 hμ h) rfl rfl dX1_putShifted_11 (fun r3 μ2 hr3 mμ2 h => ?_)
  refine r_is5 dX1_putShifted_14 rfl ?_
  refine r_al1 dX1_putShifted_16 ?_
  refine r_il2 dX1_putShifted_17 ?_
  refine r_iconst dX1_putShifted_18 ?_
  refine r_iadd dX1_putShifted_19 ?_
  refine r_al1 dX1_putShifted_20 ?_
  refine r_getI B fg_X1_30 (hp0).1 (kl (hp0).1) dX1_putShifted_21 ?_
  obtain ⟨o4, h⟩ := h
  refine r_cVI2 B cb_X1_wordsOf lk_X1_86 cv_X1_wordsOf (hp0).1 (c_X1_wordsOf (xl x) E hp0 o4 (mμ2 p0 1) mμ2 h) rfl rfl dX1_putShifted_24 (fun r6 μ5 hr6 mμ5 h => ?_)
  refine r_is6 dX1_putShifted_27 rfl ?_
  refine r_il4 dX1_putShifted_29 ?_
  refine r_iconst dX1_putShifted_31 ?_
  refine r_icmp_ge 36 dX1_putShifted_32 rfl (hμ _ _) (inR_k rfl) (fun c7 => ?_) (fun c7 => ?_)
  · have h := h.1 c7
    refine r_iconst dX1_putShifted_36 ?_
    refine r_is7 dX1_putShifted_37 rfl ?_
    exact J_weak (t_X1_putShifted_39 B hr hk hp0 hp2 (hμ _ _) hr3 hr6 (inR_k rfl) mμ5 h) (⟨rfl, ⟨rfl, ⟨rfl, ⟨rfl, ⟨rfl, ⟨rfl, ⟨rfl, trivial⟩⟩⟩⟩⟩⟩⟩)
  · have h := h.2 c7
    exact r_vret B hr mμ5 dX1_putShifted_35 h
set_option maxRecDepth 20000 in
theorem c_X3_digitAt (l : Launch) (E : Gx) {p0 : Int} {p1 : Int} {μ : Mem} {Q : Int → Mem → Prop} (hp0 : inR p0) (hp1 : inR p1) (hμ : okM μ) (h : wp_X3_digitAt p0 p1 μ Q) : MT l yX3_digitAt cX3_digitAt 3 (some .int) E 1 0 0 z0 [rv E 70, iv p0, iv p1] μ (QI E z0 Q) := by
  refine m_start [some (rv E 70), some (iv p0), some (iv p1)] (by decide) rfl rfl rfl (fun x hxl hxc hxs B hr hnm => ?_)
  unfold wp_X3_digitAt at h
  refine r_al0 dX3_digitAt_0 ?_
  refine r_getR B 71 fg_X3_9 kd_70 (kl kd_70) (ρo (off := 1) kd_70 rfl) dX3_digitAt_1 ?_
  refine r_il1 dX3_digitAt_4 ?_
  obtain ⟨o1, h⟩ := h
  refine r_iald B kd_71 (kl kd_71) (by decide) o1 dX3_digitAt_5 ?_
  refine r_iconst dX3_digitAt_6 ?_
  refine r_il2 dX3_digitAt_7 ?_
  refine r_imul dX3_digitAt_8 ?_
  refine r_ishr dX3_digitAt_9 ?_
  refine r_iconst dX3_digitAt_10 ?_
  refine r_iand dX3_digitAt_11 ?_
  exact r_iret B hr (inR_t _) hμ dX3_digitAt_12 h
set_option maxRecDepth 20000 in
theorem t_X1_putSwapped_27 {x : Cx} {E : Gx} (B : Bd x E 3 9 "SlipCovers$Code") (hr : (xt x).sig.returnType = none) {Q : Mem → Prop} {X3 : Nat → Nat → Int → Int → Int → Mem → Prop} (hX3 : ∀ (k : Nat) (v1 : Nat) (v3 : Int) (v4 : Int) (v5 : Int) (μ : Mem), X3 k v1 v3 v4 v5 μ → isC k → isC v1 → inR v3 → inR v4 → inR v5 → okM μ → J cX1_putSwapped x E z0 μ 3 [some (rv E k), some (rv E v1), some (rv E 70), some (iv v3), some (iv v4), some (iv v5), none, none, none] [] (MQ (xb x) (QV E z0 Q) (xa x) (xs x) 0 0 (gA E))) {k : Nat} {v1 : Nat} {v3 : Int} {v4 : Int} {v5 : Int} {v6 : Int} {v7 : Int} {μ : Mem} (hk : isC k) (hv1 : isC v1) (hv3 : inR v3) (hv4 : inR v4) (hv5 : inR v5) (hv6 : inR v6) (hv7 : inR v7) (hμ : okM μ) (h : LP8 (wp_X1_putSwapped_27 Q X3) k v1 v3 v4 v5 v6 v7 μ) : J cX1_putSwapped x E z0 μ 27 [some (rv E k), some (rv E v1), some (rv E 70), some (iv v3), some (iv v4), some (iv v5), some (iv v6), some (iv v7), none] [] (MQ (xb x) (QV E z0 Q) (xa x) (xs x) 0 0 (gA E)) := by
  refine LP8_ind (T := fun (k : Nat) (v1 : Nat) (v3 : Int) (v4 : Int) (v5 : Int) (v6 : Int) (v7 : Int) (μ : Mem) => isC k → isC v1 → inR v3 → inR v4 → inR v5 → inR v6 → inR v7 → okM μ → J cX1_putSwapped x E z0 μ 27 [some (rv E k), some (rv E v1), some (rv E 70), some (iv v3), some (iv v4), some (iv v5), some (iv v6), some (iv v7), none] [] (MQ (xb x) (QV E z0 Q) (xa x) (xs x) 0 0 (gA E))) (fun X27 hX27 k v1 v3 v4 v5 v6 v7 μ h hk hv1 hv3 hv4 hv5 hv6 hv7 hμ => ?_) h hk hv1 hv3 hv4 hv5 hv6 hv7 hμ
  unfold wp_X1_putSwapped_27 at h
  refine r_il7 dX1_putSwapped_27 ?_
  refine r_al1 dX1_putSwapped_29 ?_
  refine r_getI B fg_X1_30 (hv1).1 (kl (hv1).1) dX1_putSwapped_30 ?_
  refine r_icmp_ge 73 dX1_putSwapped_33 rfl hv7 (hμ v1 1) (fun c6 => ?_) (fun c6 => ?_)
  · have h := h.1 c6
    refine r_al0 dX1_putSwapped_73 ?_
    refine r_il6 dX1_putSwapped_74 ?_
    refine r_cVV1 B cb_X1_put lk_X1_82 cv_X1_put (hk).1 (c_X1_put (xl x) E hk hv6 hμ h) rfl rfl dX1_putSwapped_76 (fun μ7 mμ7 h => ?_)
    refine r_inc5 dX1_putSwapped_79 rfl ?_
    obtain ⟨o8, h⟩ := h
    refine r_goto 3 dX1_putSwapped_82 rfl ?_
    exact J_weak (hX3 k v1 v3 v4 (v5 + 1) μ7 h hk hv1 hv3 hv4 o8 mμ7) (⟨rfl, ⟨rfl, ⟨rfl, ⟨rfl, ⟨rfl, ⟨rfl, trivial⟩⟩⟩⟩⟩⟩)
  · have h := h.2 c6
    refine r_il7 dX1_putSwapped_36 ?_
    refine r_il3 dX1_putSwapped_38 ?_
    refine r_il4 dX1_putSwapped_39 ?_
    refine r_cSI3 B cb_X1_swapped lk_X1_69 cs_X1_swapped (c_X1_swapped (xl x) E hv7 hv3 hv4 hμ h) rfl rfl dX1_putSwapped_41 (fun r10 μ9 hr10 mμ9 h => ?_)
    refine r_is8 dX1_putSwapped_44 rfl ?_
    refine r_il6 dX1_putSwapped_46 ?_
    refine r_al1 dX1_putSwapped_48 ?_
    refine r_getR B (v1 + 1) fg_X1_15 (hv1).1 (kl (hv1).1) (ρo (off := 1) (hv1).1 rfl) dX1_putSwapped_49 ?_
    refine r_il8 dX1_putSwapped_52 ?_
    obtain ⟨o11, h⟩ := h
    refine r_iald B (hv1).2.1 (kl (hv1).2.1) (by decide) o11 dX1_putSwapped_54 ?_
    refine r_imul dX1_putSwapped_55 ?_
    refine r_al2 dX1_putSwapped_56 ?_
    refine r_il5 dX1_putSwapped_57 ?_
    refine r_il8 dX1_putSwapped_59 ?_
    refine r_cVI2 B cb_X3_digitAt lk_X1_90 cv_X3_digitAt kd_70 (c_X3_digitAt (xl x) E hv5 hr10 mμ9 h) rfl rfl dX1_putSwapped_61 (fun r13 μ12 hr13 mμ12 h => ?_)
    refine r_iadd dX1_putSwapped_64 ?_
    obtain ⟨o15, h⟩ := h
    refine n_topi (fun x14 ex14 => ?_)
    have h := h x14 ex14
    refine r_is6 dX1_putSwapped_65 rfl ?_
    refine r_inc7 dX1_putSwapped_67 rfl ?_
    obtain ⟨o16, h⟩ := h
    refine r_goto 27 dX1_putSwapped_70 rfl ?_
    exact J_weak (hX27 k v1 v3 v4 v5 x14 (v7 + 1) μ12 h hk hv1 hv3 hv4 hv5 (eqR ex14 o15) o16 mμ12) (⟨rfl, ⟨rfl, ⟨rfl, ⟨rfl, ⟨rfl, ⟨rfl, ⟨rfl, ⟨rfl, trivial⟩⟩⟩⟩⟩⟩⟩⟩)
set_option maxRecDepth 20000 in
theorem t_X1_putSwapped_3 {x : Cx} {E : Gx} (B : Bd x E 3 9 "SlipCovers$Code") (hr : (xt x).sig.returnType = none) {Q : Mem → Prop} {k : Nat} {v1 : Nat} {v3 : Int} {v4 : Int} {v5 : Int} {μ : Mem} (hk : isC k) (hv1 : isC v1) (hv3 : inR v3) (hv4 : inR v4) (hv5 : inR v5) (hμ : okM μ) (h : LP6 (wp_X1_putSwapped_3 Q) k v1 v3 v4 v5 μ) : J cX1_putSwapped x E z0 μ 3 [some (rv E k), some (rv E v1), some (rv E 70), some (iv v3), some (iv v4), some (iv v5), none, none, none] [] (MQ (xb x) (QV E z0 Q) (xa x) (xs x) 0 0 (gA E)) := by
  refine LP6_ind (T := fun (k : Nat) (v1 : Nat) (v3 : Int) (v4 : Int) (v5 : Int) (μ : Mem) => isC k → isC v1 → inR v3 → inR v4 → inR v5 → okM μ → J cX1_putSwapped x E z0 μ 3 [some (rv E k), some (rv E v1), some (rv E 70), some (iv v3), some (iv v4), some (iv v5), none, none, none] [] (MQ (xb x) (QV E z0 Q) (xa x) (xs x) 0 0 (gA E))) (fun X3 hX3 k v1 v3 v4 v5 μ h hk hv1 hv3 hv4 hv5 hμ => ?_) h hk hv1 hv3 hv4 hv5 hμ
  unfold wp_X1_putSwapped_3 at h
  refine r_il5 dX1_putSwapped_3 ?_
  refine r_al1 dX1_putSwapped_5 ?_
  refine r_getI B fg_X1_9 (hv1).1 (kl (hv1).1) dX1_putSwapped_6 ?_
  refine r_icmp_ge 85 dX1_putSwapped_9 rfl hv5 (hμ v1 2) (fun c1 => ?_) (fun c1 => ?_)
  · have h := h.1 c1
    exact r_vret B hr hμ dX1_putSwapped_85 h
  · have h := h.2 c1
    refine r_al1 dX1_putSwapped_12 ?_
    refine r_il5 dX1_putSwapped_13 ?_
    refine r_cVI1 B cb_X1_holds lk_X1_73 cv_X1_holds (hv1).1 (c_X1_holds (xl x) E hv1 hv5 hμ h) rfl rfl dX1_putSwapped_15 (fun r3 μ2 hr3 mμ2 h => ?_)
    refine r_if_eq 79 dX1_putSwapped_18 rfl hr3 (fun c4 => ?_) (fun c4 => ?_)
    · have h := h.1 c4
      refine r_inc5 dX1_putSwapped_79 rfl ?_
      obtain ⟨o5, h⟩ := h
      refine r_goto 3 dX1_putSwapped_82 rfl ?_
      exact J_weak (hX3 k v1 v3 v4 (v5 + 1) μ2 h hk hv1 hv3 hv4 o5 mμ2) (⟨rfl, ⟨rfl, ⟨rfl, ⟨rfl, ⟨rfl, ⟨rfl, trivial⟩⟩⟩⟩⟩⟩)
    · have h := h.2 c4
      refine r_iconst dX1_putSwapped_21 ?_
      refine r_is6 dX1_putSwapped_22 rfl ?_
      refine r_iconst dX1_putSwapped_24 ?_
      refine r_is7 dX1_putSwapped_25 rfl ?_
      exact J_weak (t_X1_putSwapped_27 B hr hX3 hk hv1 hv3 hv4 hv5 (inR_k rfl) (inR_k rfl) mμ2 h) (⟨rfl, ⟨rfl, ⟨rfl, ⟨rfl, ⟨rfl, ⟨rfl, ⟨rfl, ⟨rfl, trivial⟩⟩⟩⟩⟩⟩⟩⟩)
set_option maxRecDepth 20000 in
theorem c_X1_putSwapped (l : Launch) (E : Gx) {k : Nat} {p0 : Nat} {p2 : Int} {p3 : Int} {μ : Mem} {Q : Mem → Prop} (hk : isC k) (hp0 : isC p0) (hp2 : inR p2) (hp3 : inR p3) (hμ : okM μ) (h : wp_X1_putSwapped k p0 p2 p3 μ Q) : MT l yX1_putSwapped cX1_putSwapped 9 none E 3 0 0 z0 [rv E k, rv E p0, rv E 70, iv p2, iv p3] μ (QV E z0 Q) := by
  refine m_start [some (rv E k), some (rv E p0), some (rv E 70), some (iv p2), some (iv p3), none, none, none, none] (by decide) rfl rfl rfl (fun x hxl hxc hxs B hr hnm => ?_)
  unfold wp_X1_putSwapped at h
  refine r_iconst dX1_putSwapped_0 ?_
  refine r_is5 dX1_putSwapped_1 rfl ?_
  exact J_weak (t_X1_putSwapped_3 B hr hk hp0 hp2 hp3 (inR_k rfl) hμ h) (⟨rfl, ⟨rfl, ⟨rfl, ⟨rfl, ⟨rfl, ⟨rfl, trivial⟩⟩⟩⟩⟩⟩)
set_option maxRecDepth 20000 in
theorem t_X1_putMixed_75 {x : Cx} {E : Gx} (B : Bd x E 3 8 "SlipCovers$Code") (hr : (xt x).sig.returnType = none) {Q : Mem → Prop} {X3 : Nat → Nat → Nat → Int → Int → Mem → Prop} (hX3 : ∀ (k : Nat) (v1 : Nat) (v2 : Nat) (v3 : Int) (v4 : Int) (μ : Mem), X3 k v1 v2 v3 v4 μ → isC k → isC v1 → isC v2 → inR v3 → inR v4 → okM μ → J cX1_putMixed x E z0 μ 3 [some (rv E k), some (rv E v1), some (rv E v2), some (iv v3), some (iv v4), none, none, none] [] (MQ (xb x) (QV E z0 Q) (xa x) (xs x) 0 0 (gA E))) {k : Nat} {v1 : Nat} {v2 : Nat} {v3 : Int} {v4 : Int} {s0 : Int} {μ : Mem} (hk : isC k) (hv1 : isC v1) (hv2 : isC v2) (hv3 : inR v3) (hv4 : inR v4) (hs0 : inR s0) (hμ : okM μ) (h : wp_X1_putMixed_75 Q X3 k v1 v2 v3 v4 s0 μ) : J cX1_putMixed x E z0 μ 75 [some (rv E k), some (rv E v1), some (rv E v2), some (iv v3), some (iv v4), none, none, none] [iv s0] (MQ (xb x) (QV E z0 Q) (xa x) (xs x) 0 0 (gA E)) := by
  unfold wp_X1_putMixed_75 at h
  refine r_is7 dX1_putMixed_75 rfl ?_
  refine r_il7 dX1_putMixed_77 ?_
  refine r_if_eq 88 dX1_putMixed_79 rfl hs0 (fun c8 => ?_) (fun c8 => ?_)
  · have h := h.1 c8
    refine r_inc4 dX1_putMixed_88 rfl ?_
    obtain ⟨o9, h⟩ := h
    refine r_goto 3 dX1_putMixed_91 rfl ?_
    exact J_weak (hX3 k v1 v2 v3 (v4 + 1) μ h hk hv1 hv2 hv3 o9 hμ) (⟨rfl, ⟨rfl, ⟨rfl, ⟨rfl, ⟨rfl, trivial⟩⟩⟩⟩⟩)
  · have h := h.2 c8
    refine r_al0 dX1_putMixed_82 ?_
    refine r_il4 dX1_putMixed_83 ?_
    refine r_cVV1 B cb_X1_put lk_X1_82 cv_X1_put (hk).1 (c_X1_put (xl x) E hk hv4 hμ h) rfl rfl dX1_putMixed_85 (fun μ10 mμ10 h => ?_)
    refine r_inc4 dX1_putMixed_88 rfl ?_
    obtain ⟨o11, h⟩ := h
    refine r_goto 3 dX1_putMixed_91 rfl ?_
    exact J_weak (hX3 k v1 v2 v3 (v4 + 1) μ10 h hk hv1 hv2 hv3 o11 mμ10) (⟨rfl, ⟨rfl, ⟨rfl, ⟨rfl, ⟨rfl, trivial⟩⟩⟩⟩⟩)
set_option maxRecDepth 20000 in
theorem t_X1_putMixed_74 {x : Cx} {E : Gx} (B : Bd x E 3 8 "SlipCovers$Code") (hr : (xt x).sig.returnType = none) {Q : Mem → Prop} {X3 : Nat → Nat → Nat → Int → Int → Mem → Prop} (hX3 : ∀ (k : Nat) (v1 : Nat) (v2 : Nat) (v3 : Int) (v4 : Int) (μ : Mem), X3 k v1 v2 v3 v4 μ → isC k → isC v1 → isC v2 → inR v3 → inR v4 → okM μ → J cX1_putMixed x E z0 μ 3 [some (rv E k), some (rv E v1), some (rv E v2), some (iv v3), some (iv v4), none, none, none] [] (MQ (xb x) (QV E z0 Q) (xa x) (xs x) 0 0 (gA E))) {k : Nat} {v1 : Nat} {v2 : Nat} {v3 : Int} {v4 : Int} {μ : Mem} (hk : isC k) (hv1 : isC v1) (hv2 : isC v2) (hv3 : inR v3) (hv4 : inR v4) (hμ : okM μ) (h : wp_X1_putMixed_74 Q X3 k v1 v2 v3 v4 μ) : J cX1_putMixed x E z0 μ 74 [some (rv E k), some (rv E v1), some (rv E v2), some (iv v3), some (iv v4), none, none, none] [] (MQ (xb x) (QV E z0 Q) (xa x) (xs x) 0 0 (gA E)) := by
  unfold wp_X1_putMixed_74 at h
  refine r_iconst dX1_putMixed_74 ?_
  exact J_weak (t_X1_putMixed_75 B hr hX3 hk hv1 hv2 hv3 hv4 (inR_k rfl) hμ h) (⟨rfl, ⟨rfl, ⟨rfl, ⟨rfl, ⟨rfl, trivial⟩⟩⟩⟩⟩)
set_option maxRecDepth 20000 in
theorem t_X1_putMixed_67 {x : Cx} {E : Gx} (B : Bd x E 3 8 "SlipCovers$Code") (hr : (xt x).sig.returnType = none) {Q : Mem → Prop} {X3 : Nat → Nat → Nat → Int → Int → Mem → Prop} (hX3 : ∀ (k : Nat) (v1 : Nat) (v2 : Nat) (v3 : Int) (v4 : Int) (μ : Mem), X3 k v1 v2 v3 v4 μ → isC k → isC v1 → isC v2 → inR v3 → inR v4 → okM μ → J cX1_putMixed x E z0 μ 3 [some (rv E k), some (rv E v1), some (rv E v2), some (iv v3), some (iv v4), none, none, none] [] (MQ (xb x) (QV E z0 Q) (xa x) (xs x) 0 0 (gA E))) {k : Nat} {v1 : Nat} {v2 : Nat} {v3 : Int} {v4 : Int} {s0 : Int} {s1 : Int} {μ : Mem} (hk : isC k) (hv1 : isC v1) (hv2 : isC v2) (hv3 : inR v3) (hv4 : inR v4) (hs0 : inR s0) (hs1 : inR s1) (hμ : okM μ) (h : wp_X1_putMixed_67 Q X3 k v1 v2 v3 v4 s0 s1 μ) : J cX1_putMixed x E z0 μ 67 [some (rv E k), some (rv E v1), some (rv E v2), some (iv v3), some (iv v4), none, none, none] [iv s1, iv s0] (MQ (xb x) (QV E z0 Q) (xa x) (xs x) 0 0 (gA E)) := by
  unfold wp_X1_putMixed_67 at h
  refine r_icmp_ne 74 dX1_putMixed_67 rfl hs0 hs1 (fun c13 => ?_) (fun c13 => ?_)
  · have h := h.1 c13
    exact J_weak (t_X1_putMixed_74 B hr hX3 hk hv1 hv2 hv3 hv4 hμ h) (⟨rfl, ⟨rfl, ⟨rfl, ⟨rfl, ⟨rfl, trivial⟩⟩⟩⟩⟩)
  · have h := h.2 c13
    refine r_iconst dX1_putMixed_70 ?_
    refine r_goto 75 dX1_putMixed_71 rfl ?_
    exact J_weak (t_X1_putMixed_75 B hr hX3 hk hv1 hv2 hv3 hv4 (inR_k rfl) hμ h) (⟨rfl, ⟨rfl, ⟨rfl, ⟨rfl, ⟨rfl, trivial⟩⟩⟩⟩⟩)
set_option maxRecDepth 20000 in
theorem t_X1_putMixed_42 {x : Cx} {E : Gx} (B : Bd x E 3 8 "SlipCovers$Code") (hr : (xt x).sig.returnType = none) {Q : Mem → Prop} {X3 : Nat → Nat → Nat → Int → Int → Mem → Prop} (hX3 : ∀ (k : Nat) (v1 : Nat) (v2 : Nat) (v3 : Int) (v4 : Int) (μ : Mem), X3 k v1 v2 v3 v4 μ → isC k → isC v1 → isC v2 → inR v3 → inR v4 → okM μ → J cX1_putMixed x E z0 μ 3 [some (rv E k), some (rv E v1), some (rv E v2), some (iv v3), some (iv v4), none, none, none] [] (MQ (xb x) (QV E z0 Q) (xa x) (xs x) 0 0 (gA E))) {k : Nat} {v1 : Nat} {v2 : Nat} {v3 : Int} {v4 : Int} {μ : Mem} (hk : isC k) (hv1 : isC v1) (hv2 : isC v2) (hv3 : inR v3) (hv4 : inR v4) (hμ : okM μ) (h : wp_X1_putMixed_42 Q X3 k v1 v2 v3 v4 μ) : J cX1_putMixed x E z0 μ 42 [some (rv E k), some (rv E v1), some (rv E v2), some (iv v3), some (iv v4), none, none, none] [] (MQ (xb x) (QV E z0 Q) (xa x) (xs x) 0 0 (gA E)) := by
  unfold wp_X1_putMixed_42 at h
  refine r_iconst dX1_putMixed_42 ?_
  refine r_goto 75 dX1_putMixed_43 rfl ?_
  exact J_weak (t_X1_putMixed_75 B hr hX3 hk hv1 hv2 hv3 hv4 (inR_k rfl) hμ h) (⟨rfl, ⟨rfl, ⟨rfl, ⟨rfl, ⟨rfl, trivial⟩⟩⟩⟩⟩)
set_option maxRecDepth 20000 in
theorem t_X1_putMixed_3 {x : Cx} {E : Gx} (B : Bd x E 3 8 "SlipCovers$Code") (hr : (xt x).sig.returnType = none) {Q : Mem → Prop} {k : Nat} {v1 : Nat} {v2 : Nat} {v3 : Int} {v4 : Int} {μ : Mem} (hk : isC k) (hv1 : isC v1) (hv2 : isC v2) (hv3 : inR v3) (hv4 : inR v4) (hμ : okM μ) (h : LP6 (wp_X1_putMixed_3 Q) k v1 v2 v3 v4 μ) : J cX1_putMixed x E z0 μ 3 [some (rv E k), some (rv E v1), some (rv E v2), some (iv v3), some (iv v4), none, none, none] [] (MQ (xb x) (QV E z0 Q) (xa x) (xs x) 0 0 (gA E)) := by
  refine LP6_ind (T := fun (k : Nat) (v1 : Nat) (v2 : Nat) (v3 : Int) (v4 : Int) (μ : Mem) => isC k → isC v1 → isC v2 → inR v3 → inR v4 → okM μ → J cX1_putMixed x E z0 μ 3 [some (rv E k), some (rv E v1), some (rv E v2), some (iv v3), some (iv v4), none, none, none] [] (MQ (xb x) (QV E z0 Q) (xa x) (xs x) 0 0 (gA E))) (fun X3 hX3 k v1 v2 v3 v4 μ h hk hv1 hv2 hv3 hv4 hμ => ?_) h hk hv1 hv2 hv3 hv4 hμ
  unfold wp_X1_putMixed_3 at h
  refine r_il4 dX1_putMixed_3 ?_
  refine r_al0 dX1_putMixed_5 ?_
  refine r_getI B fg_X1_9 (hk).1 (kl (hk).1) dX1_putMixed_6 ?_
  refine r_icmp_ge 94 dX1_putMixed_9 rfl hv4 (hμ k 2) (fun c1 => ?_) (fun c1 => ?_)
  · have h := h.1 c1
    exact r_vret B hr hμ dX1_putMixed_94 h
  · have h := h.2 c1
    refine r_al1 dX1_putMixed_12 ?_
    refine r_il4 dX1_putMixed_13 ?_
    refine r_cVI1 B cb_X1_holds lk_X1_73 cv_X1_holds (hv1).1 (c_X1_holds (xl x) E hv1 hv4 hμ h) rfl rfl dX1_putMixed_15 (fun r3 μ2 hr3 mμ2 h => ?_)
    refine r_is5 dX1_putMixed_18 rfl ?_
    refine r_al2 dX1_putMixed_20 ?_
    refine r_il4 dX1_putMixed_21 ?_
    refine r_cVI1 B cb_X1_holds lk_X1_73 cv_X1_holds (hv2).1 (c_X1_holds (xl x) E hv2 hv4 mμ2 h) rfl rfl dX1_putMixed_23 (fun r5 μ4 hr5 mμ4 h => ?_)
    refine r_is6 dX1_putMixed_26 rfl ?_
    refine r_il3 dX1_putMixed_28 ?_
    refine r_if_ne 50 dX1_putMixed_29 rfl hv3 (fun c6 => ?_) (fun c6 => ?_)
    · have h := h.1 c6
      refine r_il5 dX1_putMixed_50 ?_
      refine r_if_eq 74 dX1_putMixed_52 rfl hr3 (fun c7 => ?_) (fun c7 => ?_)
      · have h := h.1 c7
        exact J_weak (t_X1_putMixed_74 B hr hX3 hk hv1 hv2 hv3 hv4 mμ4 h) (⟨rfl, ⟨rfl, ⟨rfl, ⟨rfl, ⟨rfl, trivial⟩⟩⟩⟩⟩)
      · have h := h.2 c7
        refine r_il6 dX1_putMixed_55 ?_
        refine r_il3 dX1_putMixed_57 ?_
        refine r_iconst dX1_putMixed_58 ?_
        refine r_icmp_ne 66 dX1_putMixed_59 rfl hv3 (inR_k rfl) (fun c12 => ?_) (fun c12 => ?_)
        · have h := h.1 c12
          refine r_iconst dX1_putMixed_66 ?_
          exact J_weak (t_X1_putMixed_67 B hr hX3 hk hv1 hv2 hv3 hv4 hr5 (inR_k rfl) mμ4 h) (⟨rfl, ⟨rfl, ⟨rfl, ⟨rfl, ⟨rfl, trivial⟩⟩⟩⟩⟩)
        · have h := h.2 c12
          refine r_iconst dX1_putMixed_62 ?_
          refine r_goto 67 dX1_putMixed_63 rfl ?_
          exact J_weak (t_X1_putMixed_67 B hr hX3 hk hv1 hv2 hv3 hv4 hr5 (inR_k rfl) mμ4 h) (⟨rfl, ⟨rfl, ⟨rfl, ⟨rfl, ⟨rfl, trivial⟩⟩⟩⟩⟩)
    · have h := h.2 c6
      refine r_il5 dX1_putMixed_32 ?_
      refine r_if_ne 42 dX1_putMixed_34 rfl hr3 (fun c14 => ?_) (fun c14 => ?_)
      · have h := h.1 c14
        exact J_weak (t_X1_putMixed_42 B hr hX3 hk hv1 hv2 hv3 hv4 mμ4 h) (⟨rfl, ⟨rfl, ⟨rfl, ⟨rfl, ⟨rfl, trivial⟩⟩⟩⟩⟩)
      · have h := h.2 c14
        refine r_il6 dX1_putMixed_37 ?_
        refine r_if_eq 46 dX1_putMixed_39 rfl hr5 (fun c15 => ?_) (fun c15 => ?_)
        · have h := h.1 c15
          refine r_iconst dX1_putMixed_46 ?_
          refine r_goto 75 dX1_putMixed_47 rfl ?_
          exact J_weak (t_X1_putMixed_75 B hr hX3 hk hv1 hv2 hv3 hv4 (inR_k rfl) mμ4 h) (⟨rfl, ⟨rfl, ⟨rfl, ⟨rfl, ⟨rfl, trivial⟩⟩⟩⟩⟩)
        · have h := h.2 c15
          exact J_weak (t_X1_putMixed_42 B hr hX3 hk hv1 hv2 hv3 hv4 mμ4 h) (⟨rfl, ⟨rfl, ⟨rfl, ⟨rfl, ⟨rfl, trivial⟩⟩⟩⟩⟩)
set_option maxRecDepth 20000 in
theorem c_X1_putMixed (l : Launch) (E : Gx) {k : Nat} {p0 : Nat} {p1 : Nat} {p2 : Int} {μ : Mem} {Q : Mem → Prop} (hk : isC k) (hp0 : isC p0) (hp1 : isC p1) (hp2 : inR p2) (hμ : okM μ) (h : wp_X1_putMixed k p0 p1 p2 μ Q) : MT l yX1_putMixed cX1_putMixed 8 none E 3 0 0 z0 [rv E k, rv E p0, rv E p1, iv p2] μ (QV E z0 Q) := by
  refine m_start [some (rv E k), some (rv E p0), some (rv E p1), some (iv p2), none, none, none, none] (by decide) rfl rfl rfl (fun x hxl hxc hxs B hr hnm => ?_)
  unfold wp_X1_putMixed at h
  refine r_iconst dX1_putMixed_0 ?_
  refine r_is4 dX1_putMixed_1 rfl ?_
  exact J_weak (t_X1_putMixed_3 B hr hk hp0 hp1 hp2 (inR_k rfl) hμ h) (⟨rfl, ⟨rfl, ⟨rfl, ⟨rfl, ⟨rfl, trivial⟩⟩⟩⟩⟩)
set_option maxRecDepth 20000 in
theorem t_X2_sortWords_14 {x : Cx} {E : Gx} (B : Bd x E 2 11 "SlipCovers$Exchange") (hr : (xt x).sig.returnType = none) {Q : Mem → Prop} {v1 : Nat} {v2 : Int64} {v4 : Int64} {v6 : Int64} {v8 : Int64} {v10 : Int} {μ : Mem} (hv1 : isC v1) (hv10 : inR v10) (hμ : okM μ) (h : LP7 (wp_X2_sortWords_14 Q) v1 v2 v4 v6 v8 v10 μ) : J cX2_sortWords x E z0 μ 14 [some (rv E 79), some (rv E v1), some (.long v2), none, some (.long v4), none, some (.long v6), none, some (.long v8), none, some (iv v10)] [] (MQ (xb x) (QV E z0 Q) (xa x) (xs x) 0 0 (gA E)) := by
  refine LP7_ind (T := fun (v1 : Nat) (v2 : Int64) (v4 : Int64) (v6 : Int64) (v8 : Int64) (v10 : Int) (μ : Mem) => isC v1 → inR v10 → okM μ → J cX2_sortWords x E z0 μ 14 [some (rv E 79), some (rv E v1), some (.long v2), none, some (.long v4), none, some (.long v6), none, some (.long v8), none, some (iv v10)] [] (MQ (xb x) (QV E z0 Q) (xa x) (xs x) 0 0 (gA E))) (fun X14 hX14 v1 v2 v4 v6 v8 v10 μ h hv1 hv10 hμ => ?_) h hv1 hv10 hμ
  unfold wp_X2_sortWords_14 at h
  refine r_il10 dX2_sortWords_14 ?_
  refine r_al0 dX2_sortWords_16 ?_
  refine r_getR B 80 fg_X2_12 kd_79 (kl kd_79) (ρo (off := 1) kd_79 rfl) dX2_sortWords_17 ?_
  refine r_getIN B fg_X2_59 kd_80 (kl kd_80) dX2_sortWords_20 ?_
  refine r_icmp_ge 104 dX2_sortWords_23 rfl hv10 (hμ 80 0) (fun c1 => ?_) (fun c1 => ?_)
  · have h := h.1 c1
    refine r_al0 dX2_sortWords_104 ?_
    refine r_al0 dX2_sortWords_105 ?_
    refine r_getR B 80 fg_X2_12 kd_79 (kl kd_79) (ρo (off := 1) kd_79 rfl) dX2_sortWords_106 ?_
    refine r_cVL0 B cb_X0_lowAll lk_X2_77 cv_X0_lowAll kd_80 (c_X0_lowAll (xl x) E isB_2 hμ h) rfl rfl dX2_sortWords_109 (fun y3 μ2 mμ2 h => ?_)
    refine r_ll2 dX2_sortWords_112 ?_
    refine r_ldc2 B kc_X2_81 dX2_sortWords_113 ?_
    refine r_lxor dX2_sortWords_116 ?_
    refine r_land dX2_sortWords_117 ?_
    refine r_putL B fg_X2_45 fp_2_1 kd_79 (kl kd_79) dX2_sortWords_118 ?_
    refine n_mem (fun μ4 eμ4 => ?_)
    have h := h μ4 eμ4
    have mμ4 : okM μ4 := eqM eμ4 (okM_sL mμ2)
    refine r_al0 dX2_sortWords_121 ?_
    refine r_al0 dX2_sortWords_122 ?_
    refine r_getR B 80 fg_X2_12 kd_79 (kl kd_79) (ρo (off := 1) kd_79 rfl) dX2_sortWords_123 ?_
    refine r_cVL0 B cb_X0_highAll lk_X2_83 cv_X0_highAll kd_80 (c_X0_highAll (xl x) E isB_2 mμ4 h) rfl rfl dX2_sortWords_126 (fun y6 μ5 mμ5 h => ?_)
    refine r_ll4 dX2_sortWords_129 ?_
    refine r_ldc2 B kc_X2_81 dX2_sortWords_131 ?_
    refine r_lxor dX2_sortWords_134 ?_
    refine r_land dX2_sortWords_135 ?_
    refine r_putL B fg_X2_49 fp_2_2 kd_79 (kl kd_79) dX2_sortWords_136 ?_
    refine n_mem (fun μ7 eμ7 => ?_)
    have h := h μ7 eμ7
    have mμ7 : okM μ7 := eqM eμ7 (okM_sL mμ5)
    refine r_al0 dX2_sortWords_139 ?_
    refine r_ll2 dX2_sortWords_140 ?_
    refine r_ll6 dX2_sortWords_141 ?_
    refine r_ldc2 B kc_X2_81 dX2_sortWords_143 ?_
    refine r_lxor dX2_sortWords_146 ?_
    refine r_land dX2_sortWords_147 ?_
    refine r_putL B fg_X2_86 fp_2_3 kd_79 (kl kd_79) dX2_sortWords_148 ?_
    refine n_mem (fun μ8 eμ8 => ?_)
    have h := h μ8 eμ8
    have mμ8 : okM μ8 := eqM eμ8 (okM_sL mμ7)
    refine r_al0 dX2_sortWords_151 ?_
    refine r_ll4 dX2_sortWords_152 ?_
    refine r_ll8 dX2_sortWords_154 ?_
    refine r_ldc2 B kc_X2_81 dX2_sortWords_156 ?_
    refine r_lxor dX2_sortWords_159 ?_
    refine r_land dX2_sortWords_160 ?_
    refine r_putL B fg_X2_89 fp_2_4 kd_79 (kl kd_79) dX2_sortWords_161 ?_
    refine n_mem (fun μ9 eμ9 => ?_)
    have h := h μ9 eμ9
    have mμ9 : okM μ9 := eqM eμ9 (okM_sL mμ8)
    exact r_vret B hr mμ9 dX2_sortWords_164 h
  · have h := h.2 c1
    refine r_al1 dX2_sortWords_26 ?_
    refine r_il10 dX2_sortWords_27 ?_
    refine r_cVI1 B cb_X1_holds lk_X2_62 cv_X1_holds (hv1).1 (c_X1_holds (xl x) E hv1 hv10 hμ h) rfl rfl dX2_sortWords_29 (fun r11 μ10 hr11 mμ10 h => ?_)
    refine r_if_eq 98 dX2_sortWords_32 rfl hr11 (fun c12 => ?_) (fun c12 => ?_)
    · have h := h.1 c12
      refine r_inc10 dX2_sortWords_98 rfl ?_
      obtain ⟨o13, h⟩ := h
      refine r_goto 14 dX2_sortWords_101 rfl ?_
      exact J_weak (hX14 v1 v2 v4 v6 v8 (v10 + 1) μ10 h hv1 o13 mμ10) (⟨rfl, ⟨rfl, ⟨rfl, ⟨rfl, ⟨rfl, ⟨rfl, ⟨rfl, trivial⟩⟩⟩⟩⟩⟩⟩)
    · have h := h.2 c12
      refine r_ll6 dX2_sortWords_35 ?_
      refine r_ll2 dX2_sortWords_37 ?_
      refine r_al0 dX2_sortWords_38 ?_
      refine r_getR B 80 fg_X2_12 kd_79 (kl kd_79) (ρo (off := 1) kd_79 rfl) dX2_sortWords_39 ?_
      refine r_getRN B 81 fg_X2_70 kd_80 (kl kd_80) (ρo (off := 1) kd_80 rfl) dX2_sortWords_42 ?_
      refine r_il10 dX2_sortWords_45 ?_
      obtain ⟨o14, h⟩ := h
      refine r_lald B kd_81 (kl kd_81) (by decide) o14 dX2_sortWords_47 ?_
      refine r_land dX2_sortWords_48 ?_
      refine r_lor dX2_sortWords_49 ?_
      refine n_topl (fun y15 ey15 => ?_)
      have h := h y15 ey15
      refine r_ls6 dX2_sortWords_50 rfl ?_
      refine r_ll8 dX2_sortWords_52 ?_
      refine r_ll4 dX2_sortWords_54 ?_
      refine r_al0 dX2_sortWords_56 ?_
      refine r_getR B 80 fg_X2_12 kd_79 (kl kd_79) (ρo (off := 1) kd_79 rfl) dX2_sortWords_57 ?_
      refine r_getRN B 82 fg_X2_74 kd_80 (kl kd_80) (ρo (off := 2) kd_80 rfl) dX2_sortWords_60 ?_
      refine r_il10 dX2_sortWords_63 ?_
      refine r_lald B kd_82 (kl kd_82) (by decide) o14 dX2_sortWords_65 ?_
      refine r_land dX2_sortWords_66 ?_
      refine r_lor dX2_sortWords_67 ?_
      refine n_topl (fun y16 ey16 => ?_)
      have h := h y16 ey16
      refine r_ls8 dX2_sortWords_68 rfl ?_
      refine r_ll2 dX2_sortWords_70 ?_
      refine r_al0 dX2_sortWords_71 ?_
      refine r_getR B 80 fg_X2_12 kd_79 (kl kd_79) (ρo (off := 1) kd_79 rfl) dX2_sortWords_72 ?_
      refine r_getRN B 81 fg_X2_70 kd_80 (kl kd_80) (ρo (off := 1) kd_80 rfl) dX2_sortWords_75 ?_
      refine r_il10 dX2_sortWords_78 ?_
      refine r_lald B kd_81 (kl kd_81) (by decide) o14 dX2_sortWords_80 ?_
      refine r_lor dX2_sortWords_81 ?_
      refine n_topl (fun y17 ey17 => ?_)
      have h := h y17 ey17
      refine r_ls2 dX2_sortWords_82 rfl ?_
      refine r_ll4 dX2_sortWords_83 ?_
      refine r_al0 dX2_sortWords_85 ?_
      refine r_getR B 80 fg_X2_12 kd_79 (kl kd_79) (ρo (off := 1) kd_79 rfl) dX2_sortWords_86 ?_
      refine r_getRN B 82 fg_X2_74 kd_80 (kl kd_80) (ρo (off := 2) kd_80 rfl) dX2_sortWords_89 ?_
      refine r_il10 dX2_sortWords_92 ?_
      refine r_lald B kd_82 (kl kd_82) (by decide) o14 dX2_sortWords_94 ?_
      refine r_lor dX2_sortWords_95 ?_
      refine n_topl (fun y18 ey18 => ?_)
      have h := h y18 ey18
      refine r_ls4 dX2_sortWords_96 rfl ?_
      refine r_inc10 dX2_sortWords_98 rfl ?_
      obtain ⟨o19, h⟩ := h
      refine r_goto 14 dX2_sortWords_101 rfl ?_
      exact J_weak (hX14 v1 y17 y18 y15 y16 (v10 + 1) μ10 h hv1 o19 mμ10) (⟨rfl, ⟨rfl, ⟨rfl, ⟨rfl, ⟨rfl, ⟨rfl, ⟨rfl, trivial⟩⟩⟩⟩⟩⟩⟩)
set_option maxRecDepth 20000 in
theorem c_X2_sortWords (l : Launch) (E : Gx) {p0 : Nat} {μ : Mem} {Q : Mem → Prop} (hp0 : isC p0) (hμ : okM μ) (h : wp_X2_sortWords p0 μ Q) : MT l yX2_sortWords cX2_sortWords 11 none E 2 0 0 z0 [rv E 79, rv E p0] μ (QV E z0 Q) := by
  refine m_start [some (rv E 79), some (rv E p0), none, none, none, none, none, none, none, none, none] (by decide) rfl rfl rfl (fun x hxl hxc hxs B hr hnm => ?_)
  unfold wp_X2_sortWords at h
  refine r_lconst (v := 0) rfl dX2_sortWords_0 ?_
  refine r_ls2 dX2_sortWords_1 rfl ?_
  refine r_lconst (v := 0) rfl dX2_sortWords_2 ?_
  refine r_ls4 dX2_sortWords_3 rfl ?_
  refine r_lconst (v := 0) rfl dX2_sortWords_5 ?_
  refine r_ls6 dX2_sortWords_6 rfl ?_
  refine r_lconst (v := 0) rfl dX2_sortWords_8 ?_
  refine r_ls8 dX2_sortWords_9 rfl ?_
  refine r_iconst dX2_sortWords_11 ?_
  refine r_is10 dX2_sortWords_12 rfl ?_
  exact J_weak (t_X2_sortWords_14 B hr hp0 (inR_k rfl) hμ h) (⟨rfl, ⟨rfl, ⟨rfl, ⟨rfl, ⟨rfl, ⟨rfl, ⟨rfl, trivial⟩⟩⟩⟩⟩⟩⟩)
set_option maxRecDepth 20000 in
theorem t_X2_tryWithout_44 {x : Cx} {E : Gx} (B : Bd x E 3 9 "SlipCovers$Exchange") (hr : (xt x).sig.returnType = none) {Q : Mem → Prop} {v1 : Nat} {v2 : Int} {v3 : Int64} {v5 : Int64} {v7 : Int} {μ : Mem} (hv1 : isC v1) (hv2 : inR v2) (hv7 : inR v7) (hμ : okM μ) (h : LP6 (wp_X2_tryWithout_44 Q) v1 v2 v3 v5 v7 μ) : J cX2_tryWithout x E z0 μ 44 [some (rv E 79), some (rv E v1), some (iv v2), some (.long v3), none, some (.long v5), none, some (iv v7), none] [] (MQ (xb x) (QV E z0 Q) (xa x) (xs x) 0 0 (gA E)) := by
  refine LP6_ind (T := fun (v1 : Nat) (v2 : Int) (v3 : Int64) (v5 : Int64) (v7 : Int) (μ : Mem) => isC v1 → inR v2 → inR v7 → okM μ → J cX2_tryWithout x E z0 μ 44 [some (rv E 79), some (rv E v1), some (iv v2), some (.long v3), none, some (.long v5), none, some (iv v7), none] [] (MQ (xb x) (QV E z0 Q) (xa x) (xs x) 0 0 (gA E))) (fun X44 hX44 v1 v2 v3 v5 v7 μ h hv1 hv2 hv7 hμ => ?_) h hv1 hv2 hv7 hμ
  unfold wp_X2_tryWithout_44 at h
  refine r_il7 dX2_tryWithout_44 ?_
  refine r_al0 dX2_tryWithout_46 ?_
  refine r_getR B 80 fg_X2_12 kd_79 (kl kd_79) (ρo (off := 1) kd_79 rfl) dX2_tryWithout_47 ?_
  refine r_getIN B fg_X2_59 kd_80 (kl kd_80) dX2_tryWithout_50 ?_
  refine r_icmp_ge 135 dX2_tryWithout_53 rfl hv7 (hμ 80 0) (fun c4 => ?_) (fun c4 => ?_)
  · have h := h.1 c4
    exact r_vret B hr hμ dX2_tryWithout_135 h
  · have h := h.2 c4
    refine r_al1 dX2_tryWithout_56 ?_
    refine r_il7 dX2_tryWithout_57 ?_
    refine r_cVI1 B cb_X1_holds lk_X2_62 cv_X1_holds (hv1).1 (c_X1_holds (xl x) E hv1 hv7 hμ h) rfl rfl dX2_tryWithout_59 (fun r6 μ5 hr6 mμ5 h => ?_)
    refine r_if_ne 129 dX2_tryWithout_62 rfl hr6 (fun c7 => ?_) (fun c7 => ?_)
    · have h := h.1 c7
      refine r_inc7 dX2_tryWithout_129 rfl ?_
      obtain ⟨o8, h⟩ := h
      refine r_goto 44 dX2_tryWithout_132 rfl ?_
      exact J_weak (hX44 v1 v2 v3 v5 (v7 + 1) μ5 h hv1 hv2 o8 mμ5) (⟨rfl, ⟨rfl, ⟨rfl, ⟨rfl, ⟨rfl, ⟨rfl, trivial⟩⟩⟩⟩⟩⟩)
    · have h := h.2 c7
      refine r_ll3 dX2_tryWithout_65 ?_
      refine r_al0 dX2_tryWithout_66 ?_
      refine r_getR B 80 fg_X2_12 kd_79 (kl kd_79) (ρo (off := 1) kd_79 rfl) dX2_tryWithout_67 ?_
      refine r_getRN B 81 fg_X2_70 kd_80 (kl kd_80) (ρo (off := 1) kd_80 rfl) dX2_tryWithout_70 ?_
      refine r_il7 dX2_tryWithout_73 ?_
      obtain ⟨o9, h⟩ := h
      refine r_lald B kd_81 (kl kd_81) (by decide) o9 dX2_tryWithout_75 ?_
      refine r_ldc2 B kc_X2_81 dX2_tryWithout_76 ?_
      refine r_lxor dX2_tryWithout_79 ?_
      refine r_land dX2_tryWithout_80 ?_
      refine r_ll5 dX2_tryWithout_81 ?_
      refine r_al0 dX2_tryWithout_83 ?_
      refine r_getR B 80 fg_X2_12 kd_79 (kl kd_79) (ρo (off := 1) kd_79 rfl) dX2_tryWithout_84 ?_
      refine r_getRN B 82 fg_X2_74 kd_80 (kl kd_80) (ρo (off := 2) kd_80 rfl) dX2_tryWithout_87 ?_
      refine r_il7 dX2_tryWithout_90 ?_
      refine r_lald B kd_82 (kl kd_82) (by decide) o9 dX2_tryWithout_92 ?_
      refine r_ldc2 B kc_X2_81 dX2_tryWithout_93 ?_
      refine r_lxor dX2_tryWithout_96 ?_
      refine r_land dX2_tryWithout_97 ?_
      refine r_cSI2 B cb_X0_countOf lk_X2_52 cs_X0_countOf (c_X0_countOf (xl x) E mμ5 h) rfl rfl dX2_tryWithout_98 (fun r11 μ10 hr11 mμ10 h => ?_)
      refine r_is8 dX2_tryWithout_101 rfl ?_
      refine r_il8 dX2_tryWithout_103 ?_
      refine r_al0 dX2_tryWithout_105 ?_
      refine r_getI B fg_X2_56 kd_79 (kl kd_79) dX2_tryWithout_106 ?_
      refine r_icmp_ge 129 dX2_tryWithout_109 rfl hr11 (mμ10 79 5) (fun c12 => ?_) (fun c12 => ?_)
      · have h := h.1 c12
        refine r_inc7 dX2_tryWithout_129 rfl ?_
        obtain ⟨o13, h⟩ := h
        refine r_goto 44 dX2_tryWithout_132 rfl ?_
        exact J_weak (hX44 v1 v2 v3 v5 (v7 + 1) μ10 h hv1 hv2 o13 mμ10) (⟨rfl, ⟨rfl, ⟨rfl, ⟨rfl, ⟨rfl, ⟨rfl, trivial⟩⟩⟩⟩⟩⟩)
      · have h := h.2 c12
        refine r_al0 dX2_tryWithout_112 ?_
        refine r_il8 dX2_tryWithout_113 ?_
        refine r_putI B fg_X2_56 fp_2_5 kd_79 (kl kd_79) dX2_tryWithout_115 ?_
        refine n_mem (fun μ14 eμ14 => ?_)
        have h := h μ14 eμ14
        have mμ14 : okM μ14 := eqM eμ14 (okM_sI mμ10 hr11)
        refine r_al0 dX2_tryWithout_118 ?_
        refine r_il2 dX2_tryWithout_119 ?_
        refine r_putI B fg_X2_26 fp_2_6 kd_79 (kl kd_79) dX2_tryWithout_120 ?_
        refine n_mem (fun μ15 eμ15 => ?_)
        have h := h μ15 eμ15
        have mμ15 : okM μ15 := eqM eμ15 (okM_sI mμ14 hv2)
        refine r_al0 dX2_tryWithout_123 ?_
        refine r_il7 dX2_tryWithout_124 ?_
        refine r_putI B fg_X2_36 fp_2_7 kd_79 (kl kd_79) dX2_tryWithout_126 ?_
        refine n_mem (fun μ16 eμ16 => ?_)
        have h := h μ16 eμ16
        have mμ16 : okM μ16 := eqM eμ16 (okM_sI mμ15 hv7)
        refine r_inc7 dX2_tryWithout_129 rfl ?_
        obtain ⟨o17, h⟩ := h
        refine r_goto 44 dX2_tryWithout_132 rfl ?_
        exact J_weak (hX44 v1 v2 v3 v5 (v7 + 1) μ16 h hv1 hv2 o17 mμ16) (⟨rfl, ⟨rfl, ⟨rfl, ⟨rfl, ⟨rfl, ⟨rfl, trivial⟩⟩⟩⟩⟩⟩)
set_option maxRecDepth 20000 in
theorem c_X2_tryWithout (l : Launch) (E : Gx) {p0 : Nat} {p1 : Int} {μ : Mem} {Q : Mem → Prop} (hp0 : isC p0) (hp1 : inR p1) (hμ : okM μ) (h : wp_X2_tryWithout p0 p1 μ Q) : MT l yX2_tryWithout cX2_tryWithout 9 none E 3 0 0 z0 [rv E 79, rv E p0, iv p1] μ (QV E z0 Q) := by
  refine m_start [some (rv E 79), some (rv E p0), some (iv p1), none, none, none, none, none, none] (by decide) rfl rfl rfl (fun x hxl hxc hxs B hr hnm => ?_)
  unfold wp_X2_tryWithout at h
  refine r_al0 dX2_tryWithout_0 ?_
  refine r_getL B fg_X2_45 kd_79 (kl kd_79) dX2_tryWithout_1 ?_
  refine r_al0 dX2_tryWithout_4 ?_
  refine r_getL B fg_X2_86 kd_79 (kl kd_79) dX2_tryWithout_5 ?_
  refine r_al0 dX2_tryWithout_8 ?_
  refine r_getR B 80 fg_X2_12 kd_79 (kl kd_79) (ρo (off := 1) kd_79 rfl) dX2_tryWithout_9 ?_
  refine r_getRN B 81 fg_X2_70 kd_80 (kl kd_80) (ρo (off := 1) kd_80 rfl) dX2_tryWithout_12 ?_
  refine r_il2 dX2_tryWithout_15 ?_
  obtain ⟨o1, h⟩ := h
  refine r_lald B kd_81 (kl kd_81) (by decide) o1 dX2_tryWithout_16 ?_
  refine r_land dX2_tryWithout_17 ?_
  refine r_lor dX2_tryWithout_18 ?_
  refine n_topl (fun y2 ey2 => ?_)
  have h := h y2 ey2
  refine r_ls3 dX2_tryWithout_19 rfl ?_
  refine r_al0 dX2_tryWithout_20 ?_
  refine r_getL B fg_X2_49 kd_79 (kl kd_79) dX2_tryWithout_21 ?_
  refine r_al0 dX2_tryWithout_24 ?_
  refine r_getL B fg_X2_89 kd_79 (kl kd_79) dX2_tryWithout_25 ?_
  refine r_al0 dX2_tryWithout_28 ?_
  refine r_getR B 80 fg_X2_12 kd_79 (kl kd_79) (ρo (off := 1) kd_79 rfl) dX2_tryWithout_29 ?_
  refine r_getRN B 82 fg_X2_74 kd_80 (kl kd_80) (ρo (off := 2) kd_80 rfl) dX2_tryWithout_32 ?_
  refine r_il2 dX2_tryWithout_35 ?_
  refine r_lald B kd_82 (kl kd_82) (by decide) o1 dX2_tryWithout_36 ?_
  refine r_land dX2_tryWithout_37 ?_
  refine r_lor dX2_tryWithout_38 ?_
  refine n_topl (fun y3 ey3 => ?_)
  have h := h y3 ey3
  refine r_ls5 dX2_tryWithout_39 rfl ?_
  refine r_iconst dX2_tryWithout_41 ?_
  refine r_is7 dX2_tryWithout_42 rfl ?_
  exact J_weak (t_X2_tryWithout_44 B hr hp0 hp1 (inR_k rfl) hμ h) (⟨rfl, ⟨rfl, ⟨rfl, ⟨rfl, ⟨rfl, ⟨rfl, trivial⟩⟩⟩⟩⟩⟩)
set_option maxRecDepth 20000 in
theorem t_X2_findBest_32 {x : Cx} {E : Gx} (B : Bd x E 4 3 "SlipCovers$Exchange") (hr : (xt x).sig.returnType = none) {Q : Mem → Prop} {v1 : Nat} {v2 : Int} {μ : Mem} (hv1 : isC v1) (hv2 : inR v2) (hμ : okM μ) (h : LP3 (wp_X2_findBest_32 Q) v1 v2 μ) : J cX2_findBest x E z0 μ 32 [some (rv E 79), some (rv E v1), some (iv v2)] [] (MQ (xb x) (QV E z0 Q) (xa x) (xs x) 0 0 (gA E)) := by
  refine LP3_ind (T := fun (v1 : Nat) (v2 : Int) (μ : Mem) => isC v1 → inR v2 → okM μ → J cX2_findBest x E z0 μ 32 [some (rv E 79), some (rv E v1), some (iv v2)] [] (MQ (xb x) (QV E z0 Q) (xa x) (xs x) 0 0 (gA E))) (fun X32 hX32 v1 v2 μ h hv1 hv2 hμ => ?_) h hv1 hv2 hμ
  unfold wp_X2_findBest_32 at h
  refine r_il2 dX2_findBest_32 ?_
  refine r_al0 dX2_findBest_33 ?_
  refine r_getR B 80 fg_X2_12 kd_79 (kl kd_79) (ρo (off := 1) kd_79 rfl) dX2_findBest_34 ?_
  refine r_getIN B fg_X2_59 kd_80 (kl kd_80) dX2_findBest_37 ?_
  refine r_icmp_ge 63 dX2_findBest_40 rfl hv2 (hμ 80 0) (fun c7 => ?_) (fun c7 => ?_)
  · have h := h.1 c7
    exact r_vret B hr hμ dX2_findBest_63 h
  · have h := h.2 c7
    refine r_al1 dX2_findBest_43 ?_
    refine r_il2 dX2_findBest_44 ?_
    refine r_cVI1 B cb_X1_holds lk_X2_62 cv_X1_holds (hv1).1 (c_X1_holds (xl x) E hv1 hv2 hμ h) rfl rfl dX2_findBest_45 (fun r9 μ8 hr9 mμ8 h => ?_)
    refine r_if_eq 57 dX2_findBest_48 rfl hr9 (fun c10 => ?_) (fun c10 => ?_)
    · have h := h.1 c10
      refine r_inc2 dX2_findBest_57 rfl ?_
      obtain ⟨o11, h⟩ := h
      refine r_goto 32 dX2_findBest_60 rfl ?_
      exact J_weak (hX32 v1 (v2 + 1) μ8 h hv1 o11 mμ8) (⟨rfl, ⟨rfl, ⟨rfl, trivial⟩⟩⟩)
    · have h := h.2 c10
      refine r_al0 dX2_findBest_51 ?_
      refine r_al1 dX2_findBest_52 ?_
      refine r_il2 dX2_findBest_53 ?_
      refine r_cVV2 B cb_X2_tryWithout lk_X2_66 cv_X2_tryWithout kd_79 (c_X2_tryWithout (xl x) E hv1 hv2 mμ8 h) rfl rfl dX2_findBest_54 (fun μ12 mμ12 h => ?_)
      refine r_inc2 dX2_findBest_57 rfl ?_
      obtain ⟨o13, h⟩ := h
      refine r_goto 32 dX2_findBest_60 rfl ?_
      exact J_weak (hX32 v1 (v2 + 1) μ12 h hv1 o13 mμ12) (⟨rfl, ⟨rfl, ⟨rfl, trivial⟩⟩⟩)
set_option maxRecDepth 20000 in
theorem c_X2_findBest (l : Launch) (E : Gx) {p0 : Nat} {μ : Mem} {Q : Mem → Prop} (hp0 : isC p0) (hμ : okM μ) (h : wp_X2_findBest p0 μ Q) : MT l yX2_findBest cX2_findBest 3 none E 4 0 0 z0 [rv E 79, rv E p0] μ (QV E z0 Q) := by
  refine m_start [some (rv E 79), some (rv E p0), none] (by decide) rfl rfl rfl (fun x hxl hxc hxs B hr hnm => ?_)
  unfold wp_X2_findBest at h
  refine r_al0 dX2_findBest_0 ?_
  refine r_al1 dX2_findBest_1 ?_
  refine r_cVV1 B cb_X2_sortWords lk_X2_42 cv_X2_sortWords kd_79 (c_X2_sortWords (xl x) E hp0 hμ h) rfl rfl dX2_findBest_2 (fun μ1 mμ1 h => ?_)
  refine r_al0 dX2_findBest_5 ?_
  refine r_iconst dX2_findBest_6 ?_
  refine r_putI B fg_X2_26 fp_2_6 kd_79 (kl kd_79) dX2_findBest_7 ?_
  refine n_mem (fun μ2 eμ2 => ?_)
  have h := h μ2 eμ2
  have mμ2 : okM μ2 := eqM eμ2 (okM_sI mμ1 (inR_k rfl))
  refine r_al0 dX2_findBest_10 ?_
  refine r_iconst dX2_findBest_11 ?_
  refine r_putI B fg_X2_36 fp_2_7 kd_79 (kl kd_79) dX2_findBest_12 ?_
  refine n_mem (fun μ3 eμ3 => ?_)
  have h := h μ3 eμ3
  have mμ3 : okM μ3 := eqM eμ3 (okM_sI mμ2 (inR_k rfl))
  refine r_al0 dX2_findBest_15 ?_
  refine r_al0 dX2_findBest_16 ?_
  refine r_getL B fg_X2_45 kd_79 (kl kd_79) dX2_findBest_17 ?_
  refine r_al0 dX2_findBest_20 ?_
  refine r_getL B fg_X2_49 kd_79 (kl kd_79) dX2_findBest_21 ?_
  refine r_cSI2 B cb_X0_countOf lk_X2_52 cs_X0_countOf (c_X0_countOf (xl x) E mμ3 h) rfl rfl dX2_findBest_24 (fun r5 μ4 hr5 mμ4 h => ?_)
  refine r_putI B fg_X2_56 fp_2_5 kd_79 (kl kd_79) dX2_findBest_27 ?_
  refine n_mem (fun μ6 eμ6 => ?_)
  have h := h μ6 eμ6
  have mμ6 : okM μ6 := eqM eμ6 (okM_sI mμ4 hr5)
  refine r_iconst dX2_findBest_30 ?_
  refine r_is2 dX2_findBest_31 rfl ?_
  exact J_weak (t_X2_findBest_32 B hr hp0 (inR_k rfl) mμ6 h) (⟨rfl, ⟨rfl, ⟨rfl, trivial⟩⟩⟩)
set_option maxRecDepth 20000 in
theorem t_X2_run_12 {x : Cx} {E : Gx} (B : Bd x E 5 5 "SlipCovers$Exchange") (hr : (xt x).sig.returnType = (some .int)) {Q : Int → Mem → Prop} {v1 : Nat} {v4 : Int} {μ : Mem} (hv1 : isC v1) (hv4 : inR v4) (hμ : okM μ) (h : LP3 (wp_X2_run_12 Q) v1 v4 μ) : J cX2_run x E z0 μ 12 [some (rv E 79), some (rv E v1), none, none, some (iv v4)] [] (MQ (xb x) (QI E z0 Q) (xa x) (xs x) 0 0 (gA E)) := by
  refine LP3_ind (T := fun (v1 : Nat) (v4 : Int) (μ : Mem) => isC v1 → inR v4 → okM μ → J cX2_run x E z0 μ 12 [some (rv E 79), some (rv E v1), none, none, some (iv v4)] [] (MQ (xb x) (QI E z0 Q) (xa x) (xs x) 0 0 (gA E))) (fun X12 hX12 v1 v4 μ h hv1 hv4 hμ => ?_) h hv1 hv4 hμ
  unfold wp_X2_run_12 at h
  refine r_il4 dX2_run_12 ?_
  refine r_bipush dX2_run_14 (by decide) ?_
  refine r_icmp_ge 57 dX2_run_16 rfl hv4 (inR_k rfl) (fun c2 => ?_) (fun c2 => ?_)
  · have h := h.1 c2
    refine r_bipush dX2_run_57 (by decide) ?_
    exact r_iret B hr (inR_k rfl) hμ dX2_run_59 h
  · have h := h.2 c2
    refine r_al0 dX2_run_19 ?_
    refine r_al1 dX2_run_20 ?_
    refine r_cVV1 B cb_X2_findBest lk_X2_22 cv_X2_findBest kd_79 (c_X2_findBest (xl x) E hv1 hμ h) rfl rfl dX2_run_21 (fun μ3 mμ3 h => ?_)
    refine r_al0 dX2_run_24 ?_
    refine r_getI B fg_X2_26 kd_79 (kl kd_79) dX2_run_25 ?_
    refine r_iconst dX2_run_28 ?_
    refine r_icmp_ne 35 dX2_run_29 rfl (mμ3 79 6) (inR_k rfl) (fun c4 => ?_) (fun c4 => ?_)
    · have h := h.1 c4
      refine r_al1 dX2_run_35 ?_
      refine r_al0 dX2_run_36 ?_
      refine r_getI B fg_X2_26 kd_79 (kl kd_79) dX2_run_37 ?_
      refine r_cVV1 B cb_X1_drop lk_X2_30 cv_X1_drop (hv1).1 (c_X1_drop (xl x) E hv1 (mμ3 79 6) mμ3 h) rfl rfl dX2_run_40 (fun μ5 mμ5 h => ?_)
      refine r_al1 dX2_run_43 ?_
      refine r_al0 dX2_run_44 ?_
      refine r_getI B fg_X2_36 kd_79 (kl kd_79) dX2_run_45 ?_
      refine r_cVV1 B cb_X1_put lk_X2_39 cv_X1_put (hv1).1 (c_X1_put (xl x) E hv1 (mμ5 79 7) mμ5 h) rfl rfl dX2_run_48 (fun μ6 mμ6 h => ?_)
      refine r_inc4 dX2_run_51 rfl ?_
      obtain ⟨o7, h⟩ := h
      refine r_goto 12 dX2_run_54 rfl ?_
      exact J_weak (hX12 v1 (v4 + 1) μ6 h hv1 o7 mμ6) (⟨rfl, ⟨rfl, ⟨rfl, trivial⟩⟩⟩)
    · have h := h.2 c4
      refine r_il4 dX2_run_32 ?_
      exact r_iret B hr hv4 mμ3 dX2_run_34 h
set_option maxRecDepth 20000 in
theorem c_X2_run (l : Launch) (E : Gx) {p0 : Nat} {p2 : Int} {μ : Mem} {Q : Int → Mem → Prop} (hp0 : isC p0) (hp2 : inR p2) (hμ : okM μ) (h : wp_X2_run p0 p2 μ Q) : MT l yX2_run cX2_run 5 (some .int) E 5 0 0 z0 [rv E 79, rv E p0, rv E 70, iv p2] μ (QI E z0 Q) := by
  refine m_start [some (rv E 79), some (rv E p0), some (rv E 70), some (iv p2), none] (by decide) rfl rfl rfl (fun x hxl hxc hxs B hr hnm => ?_)
  unfold wp_X2_run at h
  refine r_al0 dX2_run_0 ?_
  refine r_getR B 80 fg_X2_12 kd_79 (kl kd_79) (ρo (off := 1) kd_79 rfl) dX2_run_1 ?_
  refine r_al2 dX2_run_4 ?_
  refine r_il3 dX2_run_5 ?_
  refine r_cVV2 B cb_X0_lay lk_X2_18 cv_X0_lay kd_80 (c_X0_lay (xl x) E isB_2 hp2 hμ h) rfl rfl dX2_run_6 (fun μ1 mμ1 h => ?_)
  refine r_iconst dX2_run_9 ?_
  refine r_is4 dX2_run_10 rfl ?_
  exact J_weak (t_X2_run_12 B hr hp0 (inR_k rfl) mμ1 h) (⟨rfl, ⟨rfl, ⟨rfl, trivial⟩⟩⟩)
set_option maxRecDepth 20000 in
theorem t_X3_layPlace_68 {x : Cx} {E : Gx} (B : Bd x E 1 8 "SlipCovers$Ground") (hr : (xt x).sig.returnType = none) {Q : Mem → Prop} {X51 : Int → Int → Int → Mem → Prop} (hX51 : ∀ (v2 : Int) (v4 : Int) (v5 : Int) (μ : Mem), X51 v2 v4 v5 μ → inR v2 → inR v4 → inR v5 → okM μ → J cX3_layPlace x E z0 μ 51 [some (rv E 70), none, some (iv v2), none, some (iv v4), some (iv v5), none, none] [] (MQ (xb x) (QV E z0 Q) (xa x) (xs x) 0 0 (gA E))) {v2 : Int} {v4 : Int} {v5 : Int} {v6 : Int} {v7 : Int} {μ : Mem} (hv2 : inR v2) (hv4 : inR v4) (hv5 : inR v5) (hv6 : inR v6) (hv7 : inR v7) (hμ : okM μ) (h : LP6 (wp_X3_layPlace_68 Q X51) v2 v4 v5 v6 v7 μ) : J cX3_layPlace x E z0 μ 68 [some (rv E 70), none, some (iv v2), none, some (iv v4), some (iv v5), some (iv v6), some (iv v7)] [] (MQ (xb x) (QV E z0 Q) (xa x) (xs x) 0 0 (gA E)) := by
  refine LP6_ind (T := fun (v2 : Int) (v4 : Int) (v5 : Int) (v6 : Int) (v7 : Int) (μ : Mem) => inR v2 → inR v4 → inR v5 → inR v6 → inR v7 → okM μ → J cX3_layPlace x E z0 μ 68 [some (rv E 70), none, some (iv v2), none, some (iv v4), some (iv v5), some (iv v6), some (iv v7)] [] (MQ (xb x) (QV E z0 Q) (xa x) (xs x) 0 0 (gA E))) (fun X68 hX68 v2 v4 v5 v6 v7 μ h hv2 hv4 hv5 hv6 hv7 hμ => ?_) h hv2 hv4 hv5 hv6 hv7 hμ
  unfold wp_X3_layPlace_68 at h
  refine r_il7 dX3_layPlace_68 ?_
  refine r_il2 dX3_layPlace_70 ?_
  refine r_icmp_ge 100 dX3_layPlace_71 rfl hv7 hv2 (fun c11 => ?_) (fun c11 => ?_)
  · have h := h.1 c11
    refine r_inc5 dX3_layPlace_100 rfl ?_
    obtain ⟨o12, h⟩ := h
    refine r_goto 51 dX3_layPlace_103 rfl ?_
    exact J_weak (hX51 v2 v4 (v5 + (-1)) μ h hv2 hv4 o12 hμ) (⟨rfl, ⟨rfl, ⟨rfl, ⟨rfl, trivial⟩⟩⟩⟩)
  · have h := h.2 c11
    refine r_al0 dX3_layPlace_74 ?_
    refine r_getR B 71 fg_X3_9 kd_70 (kl kd_70) (ρo (off := 1) kd_70 rfl) dX3_layPlace_75 ?_
    refine r_il5 dX3_layPlace_78 ?_
    refine r_il2 dX3_layPlace_80 ?_
    refine r_imul dX3_layPlace_81 ?_
    refine r_il7 dX3_layPlace_82 ?_
    refine r_iadd dX3_layPlace_84 ?_
    refine r_il6 dX3_layPlace_85 ?_
    refine r_il7 dX3_layPlace_87 ?_
    refine r_il4 dX3_layPlace_89 ?_
    refine r_ishl dX3_layPlace_91 ?_
    refine r_ior dX3_layPlace_92 ?_
    obtain ⟨o13, h⟩ := h
    refine r_iast B kd_71 (kl kd_71) (by decide) o13 dX3_layPlace_93 ?_
    refine n_mem (fun μ14 eμ14 => ?_)
    have h := h μ14 eμ14
    have mμ14 : okM μ14 := eqM eμ14 (okM_sI hμ (inR_t _))
    refine r_inc7 dX3_layPlace_94 rfl ?_
    obtain ⟨o15, h⟩ := h
    refine r_goto 68 dX3_layPlace_97 rfl ?_
    exact J_weak (hX68 v2 v4 v5 v6 (v7 + 1) μ14 h hv2 hv4 hv5 hv6 o15 mμ14) (⟨rfl, ⟨rfl, ⟨rfl, ⟨rfl, ⟨rfl, ⟨rfl, trivial⟩⟩⟩⟩⟩⟩)
set_option maxRecDepth 20000 in
theorem t_X3_layPlace_51 {x : Cx} {E : Gx} (B : Bd x E 1 8 "SlipCovers$Ground") (hr : (xt x).sig.returnType = none) {Q : Mem → Prop} {v2 : Int} {v4 : Int} {v5 : Int} {μ : Mem} (hv2 : inR v2) (hv4 : inR v4) (hv5 : inR v5) (hμ : okM μ) (h : LP4 (wp_X3_layPlace_51 Q) v2 v4 v5 μ) : J cX3_layPlace x E z0 μ 51 [some (rv E 70), none, some (iv v2), none, some (iv v4), some (iv v5), none, none] [] (MQ (xb x) (QV E z0 Q) (xa x) (xs x) 0 0 (gA E)) := by
  refine LP4_ind (T := fun (v2 : Int) (v4 : Int) (v5 : Int) (μ : Mem) => inR v2 → inR v4 → inR v5 → okM μ → J cX3_layPlace x E z0 μ 51 [some (rv E 70), none, some (iv v2), none, some (iv v4), some (iv v5), none, none] [] (MQ (xb x) (QV E z0 Q) (xa x) (xs x) 0 0 (gA E))) (fun X51 hX51 v2 v4 v5 μ h hv2 hv4 hv5 hμ => ?_) h hv2 hv4 hv5 hμ
  unfold wp_X3_layPlace_51 at h
  refine r_il5 dX3_layPlace_51 ?_
  refine r_if_lt 106 dX3_layPlace_53 rfl hv5 (fun c7 => ?_) (fun c7 => ?_)
  · have h := h.1 c7
    refine r_al0 dX3_layPlace_106 ?_
    refine r_dup rfl dX3_layPlace_107 ?_
    refine r_getI B fg_X3_21 kd_70 (kl kd_70) dX3_layPlace_108 ?_
    refine r_il2 dX3_layPlace_111 ?_
    refine r_imul dX3_layPlace_112 ?_
    obtain ⟨o8, h⟩ := h
    refine r_putI B fg_X3_21 fp_3_0 kd_70 (kl kd_70) dX3_layPlace_113 ?_
    refine n_mem (fun μ9 eμ9 => ?_)
    have h := h μ9 eμ9
    have mμ9 : okM μ9 := eqM eμ9 (okM_sI hμ o8)
    exact r_vret B hr mμ9 dX3_layPlace_116 h
  · have h := h.2 c7
    refine r_al0 dX3_layPlace_56 ?_
    refine r_getR B 71 fg_X3_9 kd_70 (kl kd_70) (ρo (off := 1) kd_70 rfl) dX3_layPlace_57 ?_
    refine r_il5 dX3_layPlace_60 ?_
    obtain ⟨o10, h⟩ := h
    refine r_iald B kd_71 (kl kd_71) (by decide) o10 dX3_layPlace_62 ?_
    refine r_is6 dX3_layPlace_63 rfl ?_
    refine r_iconst dX3_layPlace_65 ?_
    refine r_is7 dX3_layPlace_66 rfl ?_
    exact J_weak (t_X3_layPlace_68 B hr hX51 hv2 hv4 hv5 (hμ _ _) (inR_k rfl) hμ h) (⟨rfl, ⟨rfl, ⟨rfl, ⟨rfl, ⟨rfl, ⟨rfl, trivial⟩⟩⟩⟩⟩⟩)
set_option maxRecDepth 20000 in
theorem t_X3_layPlace_43 {x : Cx} {E : Gx} (B : Bd x E 1 8 "SlipCovers$Ground") (hr : (xt x).sig.returnType = none) {Q : Mem → Prop} {v2 : Int} {v4 : Int} {μ : Mem} (hv2 : inR v2) (hv4 : inR v4) (hμ : okM μ) (h : wp_X3_layPlace_43 Q v2 v4 μ) : J cX3_layPlace x E z0 μ 43 [some (rv E 70), none, some (iv v2), none, some (iv v4), none, none, none] [] (MQ (xb x) (QV E z0 Q) (xa x) (xs x) 0 0 (gA E)) := by
  unfold wp_X3_layPlace_43 at h
  refine r_al0 dX3_layPlace_43 ?_
  refine r_getI B fg_X3_21 kd_70 (kl kd_70) dX3_layPlace_44 ?_
  refine r_iconst dX3_layPlace_47 ?_
  refine r_isub dX3_layPlace_48 ?_
  obtain ⟨o6, h⟩ := h
  refine n_topi (fun x5 ex5 => ?_)
  have h := h x5 ex5
  refine r_is5 dX3_layPlace_49 rfl ?_
  exact J_weak (t_X3_layPlace_51 B hr hv2 hv4 (eqR ex5 o6) hμ h) (⟨rfl, ⟨rfl, ⟨rfl, ⟨rfl, trivial⟩⟩⟩⟩)
set_option maxRecDepth 20000 in
theorem t_X3_layPlace_24 {x : Cx} {E : Gx} (B : Bd x E 1 8 "SlipCovers$Ground") (hr : (xt x).sig.returnType = none) {Q : Mem → Prop} {v2 : Int} {v3 : Int} {v4 : Int} {μ : Mem} (hv2 : inR v2) (hv3 : inR v3) (hv4 : inR v4) (hμ : okM μ) (h : wp_X3_layPlace_24 Q v2 v3 v4 μ) : J cX3_layPlace x E z0 μ 24 [some (rv E 70), none, some (iv v2), some (iv v3), some (iv v4), none, none, none] [] (MQ (xb x) (QV E z0 Q) (xa x) (xs x) 0 0 (gA E)) := by
  unfold wp_X3_layPlace_24 at h
  refine r_il3 dX3_layPlace_24 ?_
  refine r_iconst dX3_layPlace_25 ?_
  refine r_iand dX3_layPlace_26 ?_
  refine r_if_eq 43 dX3_layPlace_27 rfl (inR_t _) (fun c4 => ?_) (fun c4 => ?_)
  · have h := h.1 c4
    exact J_weak (t_X3_layPlace_43 B hr hv2 hv4 hμ h) (⟨rfl, ⟨rfl, ⟨rfl, trivial⟩⟩⟩)
  · have h := h.2 c4
    refine r_al0 dX3_layPlace_30 ?_
    refine r_dup rfl dX3_layPlace_31 ?_
    refine r_getI B fg_X3_28 kd_70 (kl kd_70) dX3_layPlace_32 ?_
    refine r_iconst dX3_layPlace_35 ?_
    refine r_il4 dX3_layPlace_36 ?_
    refine r_ishl dX3_layPlace_38 ?_
    refine r_ior dX3_layPlace_39 ?_
    refine r_putI B fg_X3_28 fp_3_2 kd_70 (kl kd_70) dX3_layPlace_40 ?_
    refine n_mem (fun μ16 eμ16 => ?_)
    have h := h μ16 eμ16
    have mμ16 : okM μ16 := eqM eμ16 (okM_sI hμ (inR_t _))
    exact J_weak (t_X3_layPlace_43 B hr hv2 hv4 mμ16 h) (⟨rfl, ⟨rfl, ⟨rfl, trivial⟩⟩⟩)
set_option maxRecDepth 20000 in
theorem c_X3_layPlace (l : Launch) (E : Gx) {p0 : Int} {p1 : Int} {p2 : Int} {μ : Mem} {Q : Mem → Prop} (hp0 : inR p0) (hp1 : inR p1) (hp2 : inR p2) (hμ : okM μ) (h : wp_X3_layPlace p0 p1 p2 μ Q) : MT l yX3_layPlace cX3_layPlace 8 none E 1 0 0 z0 [rv E 70, iv p0, iv p1, iv p2] μ (QV E z0 Q) := by
  refine m_start [some (rv E 70), some (iv p0), some (iv p1), some (iv p2), none, none, none, none] (by decide) rfl rfl rfl (fun x hxl hxc hxs B hr hnm => ?_)
  unfold wp_X3_layPlace at h
  refine r_iconst dX3_layPlace_0 ?_
  refine r_il1 dX3_layPlace_1 ?_
  refine r_imul dX3_layPlace_2 ?_
  obtain ⟨o2, h⟩ := h
  refine n_topi (fun x1 ex1 => ?_)
  have h := h x1 ex1
  refine r_is4 dX3_layPlace_3 rfl ?_
  refine r_il3 dX3_layPlace_5 ?_
  refine r_iconst dX3_layPlace_6 ?_
  refine r_iand dX3_layPlace_7 ?_
  refine r_if_eq 24 dX3_layPlace_8 rfl (inR_t _) (fun c3 => ?_) (fun c3 => ?_)
  · have h := h.1 c3
    exact J_weak (t_X3_layPlace_24 B hr hp1 hp2 (eqR ex1 o2) hμ h) (⟨rfl, ⟨rfl, ⟨rfl, ⟨rfl, trivial⟩⟩⟩⟩)
  · have h := h.2 c3
    refine r_al0 dX3_layPlace_11 ?_
    refine r_dup rfl dX3_layPlace_12 ?_
    refine r_getI B fg_X3_25 kd_70 (kl kd_70) dX3_layPlace_13 ?_
    refine r_iconst dX3_layPlace_16 ?_
    refine r_il4 dX3_layPlace_17 ?_
    refine r_ishl dX3_layPlace_19 ?_
    refine r_ior dX3_layPlace_20 ?_
    refine r_putI B fg_X3_25 fp_3_1 kd_70 (kl kd_70) dX3_layPlace_21 ?_
    refine n_mem (fun μ17 eμ17 => ?_)
    have h := h μ17 eμ17
    have mμ17 : okM μ17 := eqM eμ17 (okM_sI hμ (inR_t _))
    exact J_weak (t_X3_layPlace_24 B hr hp1 hp2 (eqR ex1 o2) mμ17 h) (⟨rfl, ⟨rfl, ⟨rfl, ⟨rfl, trivial⟩⟩⟩⟩)

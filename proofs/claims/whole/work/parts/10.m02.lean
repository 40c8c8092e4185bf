set_option maxRecDepth 20000 in
theorem t_X5_readSizes_20 {x : Cx} {E : Gx} (B : Bd x E 4 4 "SlipCovers$Reader") (hr : (xt x).sig.returnType = (some .boolean)) {Q : Int → Mem → Prop} {v1 : Nat} {v2 : Int} {μ : Mem} (hv1 : isC v1) (hv2 : inR v2) (hμ : okM μ) (h : LP3 (wp_X5_readSizes_20 Q) v1 v2 μ) : J cX5_readSizes x E z0 μ 20 [some (rv E 1), some (rv E v1), some (iv v2), none] [] (MQ (xb x) (QI E z0 Q) (xa x) (xs x) 0 0 (gA E)) := by
  refine LP3_ind (T := fun (v1 : Nat) (v2 : Int) (μ : Mem) => isC v1 → inR v2 → okM μ → J cX5_readSizes x E z0 μ 20 [some (rv E 1), some (rv E v1), some (iv v2), none] [] (MQ (xb x) (QI E z0 Q) (xa x) (xs x) 0 0 (gA E))) (fun X20 hX20 v1 v2 μ h hv1 hv2 hμ => ?_) h hv1 hv2 hμ
  unfold wp_X5_readSizes_20 at h
  refine r_il2 dX5_readSizes_20 ?_
  refine r_bipush dX5_readSizes_21 (by decide) ?_
  refine r_icmp_gt 77 dX5_readSizes_23 rfl hv2 (inR_k rfl) (fun c3 => ?_) (fun c3 => ?_)
  · have h := h.1 c3
    refine r_iconst dX5_readSizes_77 ?_
    exact r_zret B hr (Or.inr rfl) hμ dX5_readSizes_78 h
  · have h := h.2 c3
    refine r_al0 dX5_readSizes_26 ?_
    refine r_getI B fg_X5_57 kd_1 (kl kd_1) dX5_readSizes_27 ?_
    refine r_iconst dX5_readSizes_30 ?_
    refine r_icmp_ne 77 dX5_readSizes_31 rfl (hμ 1 5) (inR_k rfl) (fun c4 => ?_) (fun c4 => ?_)
    · have h := h.1 c4
      refine r_iconst dX5_readSizes_77 ?_
      exact r_zret B hr (Or.inr rfl) hμ dX5_readSizes_78 h
    · have h := h.2 c4
      refine r_al0 dX5_readSizes_34 ?_
      refine r_cVI0 B cb_X5_singleDigit lk_X5_109 cv_X5_singleDigit kd_1 (c_X5_singleDigit (xl x) E hμ h) rfl rfl dX5_readSizes_35 (fun r6 μ5 hr6 mμ5 h => ?_)
      refine r_is3 dX5_readSizes_38 rfl ?_
      refine r_il3 dX5_readSizes_39 ?_
      refine r_cSI1N B cb_X7_isSize lk_X5_113 cs_X7_isSize (c_X7_isSize (xl x) E hr6 mμ5 h) rfl rfl dX5_readSizes_40 (fun r8 μ7 hr8 mμ7 h => ?_)
      refine r_if_ne 52 dX5_readSizes_43 rfl hr8 (fun c9 => ?_) (fun c9 => ?_)
      · have h := h.1 c9
        refine r_al1 dX5_readSizes_52 ?_
        refine r_il3 dX5_readSizes_53 ?_
        refine r_iconst dX5_readSizes_54 ?_
        refine r_cVI2 B cb_X1_addPlace lk_X5_116 cv_X1_addPlace (hv1).1 (c_X1_addPlace (xl x) E hv1 hr6 (inR_k rfl) mμ7 h) rfl rfl dX5_readSizes_55 (fun r11 μ10 hr11 mμ10 h => ?_)
        refine r_if_ne 67 dX5_readSizes_58 rfl hr11 (fun c12 => ?_) (fun c12 => ?_)
        · have h := h.1 c12
          refine r_al0 dX5_readSizes_67 ?_
          refine r_cVV0 B cb_X5_advance lk_X5_71 cv_X5_advance kd_1 (c_X5_advance (xl x) E mμ10 h) rfl rfl dX5_readSizes_68 (fun μ13 mμ13 h => ?_)
          refine r_inc2 dX5_readSizes_71 rfl ?_
          obtain ⟨o14, h⟩ := h
          refine r_goto 20 dX5_readSizes_74 rfl ?_
          exact J_weak (hX20 v1 (v2 + 1) μ13 h hv1 o14 mμ13) (⟨rfl, ⟨rfl, ⟨rfl, trivial⟩⟩⟩)
        · have h := h.2 c12
          refine r_al0 dX5_readSizes_61 ?_
          refine r_iconst dX5_readSizes_62 ?_
          refine r_cVI1 B cb_X5_fail lk_X5_60 cv_X5_fail kd_1 (c_X5_fail (xl x) E (inR_k rfl) mμ10 h) rfl rfl dX5_readSizes_63 (fun r16 μ15 hr16 mμ15 h => ?_)
          obtain ⟨o17, h⟩ := h
          exact r_zret B hr o17 mμ15 dX5_readSizes_66 h
      · have h := h.2 c9
        refine r_al0 dX5_readSizes_46 ?_
        refine r_iconst dX5_readSizes_47 ?_
        refine r_cVI1 B cb_X5_fail lk_X5_60 cv_X5_fail kd_1 (c_X5_fail (xl x) E (inR_k rfl) mμ7 h) rfl rfl dX5_readSizes_48 (fun r19 μ18 hr19 mμ18 h => ?_)
        obtain ⟨o20, h⟩ := h
        exact r_zret B hr o20 mμ18 dX5_readSizes_51 h
set_option maxRecDepth 20000 in
theorem c_X5_readSizes (l : Launch) (E : Gx) {p0 : Nat} {μ : Mem} {Q : Int → Mem → Prop} (hp0 : isC p0) (hμ : okM μ) (h : wp_X5_readSizes p0 μ Q) : MT l yX5_readSizes cX5_readSizes 4 (some .boolean) E 4 0 0 z0 [rv E 1, rv E p0] μ (QI E z0 Q) := by
  refine m_start [some (rv E 1), some (rv E p0), none, none] (by decide) rfl rfl rfl (fun x hxl hxc hxs B hr hnm => ?_)
  unfold wp_X5_readSizes at h
  refine r_al0 dX5_readSizes_0 ?_
  refine r_cVV0 B cb_X5_advance lk_X5_71 cv_X5_advance kd_1 (c_X5_advance (xl x) E hμ h) rfl rfl dX5_readSizes_1 (fun μ1 mμ1 h => ?_)
  refine r_al0 dX5_readSizes_4 ?_
  refine r_getI B fg_X5_57 kd_1 (kl kd_1) dX5_readSizes_5 ?_
  refine r_iconst dX5_readSizes_8 ?_
  refine r_icmp_eq 18 dX5_readSizes_9 rfl (mμ1 1 5) (inR_k rfl) (fun c2 => ?_) (fun c2 => ?_)
  · have h := h.1 c2
    refine r_iconst dX5_readSizes_18 ?_
    refine r_is2 dX5_readSizes_19 rfl ?_
    exact J_weak (t_X5_readSizes_20 B hr hp0 (inR_k rfl) mμ1 h) (⟨rfl, ⟨rfl, ⟨rfl, trivial⟩⟩⟩)
  · have h := h.2 c2
    refine r_al0 dX5_readSizes_12 ?_
    refine r_iconst dX5_readSizes_13 ?_
    refine r_cVI1 B cb_X5_fail lk_X5_60 cv_X5_fail kd_1 (c_X5_fail (xl x) E (inR_k rfl) mμ1 h) rfl rfl dX5_readSizes_14 (fun r22 μ21 hr22 mμ21 h => ?_)
    obtain ⟨o23, h⟩ := h
    exact r_zret B hr o23 mμ21 dX5_readSizes_17 h
set_option maxRecDepth 20000 in
theorem c_X5_readOn (l : Launch) (E : Gx) {μ : Mem} {Q : Int → Mem → Prop} (hμ : okM μ) (h : wp_X5_readOn  μ Q) : MT l yX5_readOn cX5_readOn 1 (some .boolean) E 10 0 0 z0 [rv E 1] μ (QI E z0 Q) := by
  refine m_start [some (rv E 1)] (by decide) rfl rfl rfl (fun x hxl hxc hxs B hr hnm => ?_)
  unfold wp_X5_readOn at h
  refine r_al0 dX5_readOn_0 ?_
  refine r_cVV0 B cb_X5_advance lk_X5_71 cv_X5_advance kd_1 (c_X5_advance (xl x) E hμ h) rfl rfl dX5_readOn_1 (fun μ1 mμ1 h => ?_)
  refine r_al0 dX5_readOn_4 ?_
  refine r_ldcS B 1 rfl dX5_readOn_5 ?_
  refine r_cVI1 B cb_X5_isKeyword lk_X5_76 cv_X5_isKeyword kd_1 (c_X5_isKeyword (xl x) E (by decide) mμ1 h) rfl rfl dX5_readOn_7 (fun r3 μ2 hr3 mμ2 h => ?_)
  refine r_if_ne 21 dX5_readOn_10 rfl hr3 (fun c4 => ?_) (fun c4 => ?_)
  · have h := h.1 c4
    refine r_iconst dX5_readOn_21 ?_
    refine r_goto 26 dX5_readOn_22 rfl ?_
    exact r_zret B hr (Or.inr rfl) mμ2 dX5_readOn_26 h
  · have h := h.2 c4
    refine r_al0 dX5_readOn_13 ?_
    refine r_iconst dX5_readOn_14 ?_
    refine r_cVI1 B cb_X5_fail lk_X5_60 cv_X5_fail kd_1 (c_X5_fail (xl x) E (inR_k rfl) mμ2 h) rfl rfl dX5_readOn_15 (fun r6 μ5 hr6 mμ5 h => ?_)
    refine r_if_eq 25 dX5_readOn_18 rfl hr6 (fun c7 => ?_) (fun c7 => ?_)
    · have h := h.1 c7
      refine r_iconst dX5_readOn_25 ?_
      exact r_zret B hr (Or.inl rfl) mμ5 dX5_readOn_26 h
    · have h := h.2 c7
      refine r_iconst dX5_readOn_21 ?_
      refine r_goto 26 dX5_readOn_22 rfl ?_
      exact r_zret B hr (Or.inr rfl) mμ5 dX5_readOn_26 h
set_option maxRecDepth 20000 in
theorem t_X5_readLine_90 {x : Cx} {E : Gx} (B : Bd x E 11 2 "SlipCovers$Reader") (hr : (xt x).sig.returnType = (some .boolean)) {Q : Int → Mem → Prop} {v1 : Nat} {μ : Mem} (hv1 : isC v1) (hμ : okM μ) (h : wp_X5_readLine_90 Q v1 μ) : J cX5_readLine x E z0 μ 90 [some (rv E 1), some (rv E v1)] [] (MQ (xb x) (QI E z0 Q) (xa x) (xs x) 0 0 (gA E)) := by
  unfold wp_X5_readLine_90 at h
  refine r_al0 dX5_readLine_90 ?_
  refine r_bipush dX5_readLine_91 (by decide) ?_
  refine r_cVI1 B cb_X5_isSign lk_X5_98 cv_X5_isSign kd_1 (c_X5_isSign (xl x) E (inR_k rfl) hμ h) rfl rfl dX5_readLine_93 (fun r21 μ20 hr21 mμ20 h => ?_)
  refine r_if_ne 105 dX5_readLine_96 rfl hr21 (fun c22 => ?_) (fun c22 => ?_)
  · have h := h.1 c22
    refine r_al0 dX5_readLine_105 ?_
    refine r_dup rfl dX5_readLine_106 ?_
    refine r_getI B fg_X5_50 kd_1 (kl kd_1) dX5_readLine_107 ?_
    refine r_iconst dX5_readLine_110 ?_
    refine r_iadd dX5_readLine_111 ?_
    obtain ⟨o23, h⟩ := h
    refine r_putI B fg_X5_50 fp_5_7 kd_1 (kl kd_1) dX5_readLine_112 ?_
    refine n_mem (fun μ24 eμ24 => ?_)
    have h := h μ24 eμ24
    have mμ24 : okM μ24 := eqM eμ24 (okM_sI mμ20 o23)
    refine r_al0 dX5_readLine_115 ?_
    refine r_al1 dX5_readLine_116 ?_
    refine r_cVI1 B cb_X5_readCodewords lk_X5_101 cv_X5_readCodewords kd_1 (c_X5_readCodewords (xl x) E hv1 mμ24 h) rfl rfl dX5_readLine_117 (fun r26 μ25 hr26 mμ25 h => ?_)
    obtain ⟨o27, h⟩ := h
    exact r_zret B hr o27 mμ25 dX5_readLine_120 h
  · have h := h.2 c22
    refine r_al0 dX5_readLine_99 ?_
    refine r_iconst dX5_readLine_100 ?_
    refine r_cVI1 B cb_X5_fail lk_X5_60 cv_X5_fail kd_1 (c_X5_fail (xl x) E (inR_k rfl) mμ20 h) rfl rfl dX5_readLine_101 (fun r29 μ28 hr29 mμ28 h => ?_)
    obtain ⟨o30, h⟩ := h
    exact r_zret B hr o30 mμ28 dX5_readLine_104 h
set_option maxRecDepth 20000 in
theorem c_X5_readLine (l : Launch) (E : Gx) {μ : Mem} {Q : Int → Mem → Prop} (hμ : okM μ) (h : wp_X5_readLine  μ Q) : MT l yX5_readLine cX5_readLine 2 (some .boolean) E 11 0 0 z0 [rv E 1] μ (QI E z0 Q) := by
  refine m_start [some (rv E 1), none] (by decide) rfl rfl rfl (fun x hxl hxc hxs B hr hnm => ?_)
  unfold wp_X5_readLine at h
  refine r_al0 dX5_readLine_0 ?_
  refine r_cVV0 B cb_X5_advance lk_X5_71 cv_X5_advance kd_1 (c_X5_advance (xl x) E hμ h) rfl rfl dX5_readLine_1 (fun μ1 mμ1 h => ?_)
  refine r_al0 dX5_readLine_4 ?_
  refine r_ldcS B 0 rfl dX5_readLine_5 ?_
  refine r_cVI1 B cb_X5_isKeyword lk_X5_76 cv_X5_isKeyword kd_1 (c_X5_isKeyword (xl x) E (by decide) mμ1 h) rfl rfl dX5_readLine_7 (fun r3 μ2 hr3 mμ2 h => ?_)
  refine r_if_ne 19 dX5_readLine_10 rfl hr3 (fun c4 => ?_) (fun c4 => ?_)
  · have h := h.1 c4
    refine r_al0 dX5_readLine_19 ?_
    refine r_getI B fg_X5_50 kd_1 (kl kd_1) dX5_readLine_20 ?_
    refine r_iconst dX5_readLine_23 ?_
    refine r_icmp_lt 33 dX5_readLine_24 rfl (mμ2 1 7) (inR_k rfl) (fun c5 => ?_) (fun c5 => ?_)
    · have h := h.1 c5
      refine r_al0 dX5_readLine_33 ?_
      refine r_getR B 3 fg_X5_17 kd_1 (kl kd_1) (ρo (off := 2) kd_1 rfl) dX5_readLine_34 ?_
      refine r_al0 dX5_readLine_37 ?_
      refine r_getI B fg_X5_50 kd_1 (kl kd_1) dX5_readLine_38 ?_
      obtain ⟨o6, h⟩ := h
      refine r_aald B _ kd_3 (kl kd_3) (by decide) o6 (ρa (b := 6) kd_3 rfl) dX5_readLine_41 ?_
      refine r_as1 dX5_readLine_42 rfl ?_
      refine r_al1 dX5_readLine_43 ?_
      refine r_cVV0 B cb_X1_clear lk_X5_80 cv_X1_clear ((isC_draftsI o6)).1 (c_X1_clear (xl x) E (isC_draftsI o6) mμ2 h) rfl rfl dX5_readLine_44 (fun μ7 mμ7 h => ?_)
      refine r_al0 dX5_readLine_47 ?_
      refine r_cVI0 B cb_X5_readName lk_X5_83 cv_X5_readName kd_1 (c_X5_readName (xl x) E mμ7 h) rfl rfl dX5_readLine_48 (fun r9 μ8 hr9 mμ8 h => ?_)
      refine r_if_eq 69 dX5_readLine_51 rfl hr9 (fun c10 => ?_) (fun c10 => ?_)
      · have h := h.1 c10
        refine r_iconst dX5_readLine_69 ?_
        exact r_zret B hr (Or.inl rfl) mμ8 dX5_readLine_70 h
      · have h := h.2 c10
        refine r_al0 dX5_readLine_54 ?_
        refine r_cVI0 B cb_X5_readOn lk_X5_86 cv_X5_readOn kd_1 (c_X5_readOn (xl x) E mμ8 h) rfl rfl dX5_readLine_55 (fun r12 μ11 hr12 mμ11 h => ?_)
        refine r_if_eq 69 dX5_readLine_58 rfl hr12 (fun c13 => ?_) (fun c13 => ?_)
        · have h := h.1 c13
          refine r_iconst dX5_readLine_69 ?_
          exact r_zret B hr (Or.inl rfl) mμ11 dX5_readLine_70 h
        · have h := h.2 c13
          refine r_al0 dX5_readLine_61 ?_
          refine r_al1 dX5_readLine_62 ?_
          refine r_cVI1 B cb_X5_readSizes lk_X5_89 cv_X5_readSizes kd_1 (c_X5_readSizes (xl x) E (isC_draftsI o6) mμ11 h) rfl rfl dX5_readLine_63 (fun r15 μ14 hr15 mμ14 h => ?_)
          refine r_if_ne 71 dX5_readLine_66 rfl hr15 (fun c16 => ?_) (fun c16 => ?_)
          · have h := h.1 c16
            refine r_al0 dX5_readLine_71 ?_
            refine r_ldcS B 2 rfl dX5_readLine_72 ?_
            refine r_cVI1 B cb_X5_isKeyword lk_X5_76 cv_X5_isKeyword kd_1 (c_X5_isKeyword (xl x) E (by decide) mμ14 h) rfl rfl dX5_readLine_74 (fun r18 μ17 hr18 mμ17 h => ?_)
            refine r_if_eq 90 dX5_readLine_77 rfl hr18 (fun c19 => ?_) (fun c19 => ?_)
            · have h := h.1 c19
              exact J_weak (t_X5_readLine_90 B hr (isC_draftsI o6) mμ17 h) (⟨rfl, ⟨rfl, trivial⟩⟩)
            · have h := h.2 c19
              refine r_al0 dX5_readLine_80 ?_
              refine r_al1 dX5_readLine_81 ?_
              refine r_cVI1 B cb_X5_readWeights lk_X5_95 cv_X5_readWeights kd_1 (c_X5_readWeights (xl x) E (isC_draftsI o6) mμ17 h) rfl rfl dX5_readLine_82 (fun r32 μ31 hr32 mμ31 h => ?_)
              refine r_if_ne 90 dX5_readLine_85 rfl hr32 (fun c33 => ?_) (fun c33 => ?_)
              · have h := h.1 c33
                exact J_weak (t_X5_readLine_90 B hr (isC_draftsI o6) mμ31 h) (⟨rfl, ⟨rfl, trivial⟩⟩)
              · have h := h.2 c33
                refine r_iconst dX5_readLine_88 ?_
                exact r_zret B hr (Or.inl rfl) mμ31 dX5_readLine_89 h
          · have h := h.2 c16
            refine r_iconst dX5_readLine_69 ?_
            exact r_zret B hr (Or.inl rfl) mμ14 dX5_readLine_70 h
    · have h := h.2 c5
      refine r_al0 dX5_readLine_27 ?_
      refine r_iconst dX5_readLine_28 ?_
      refine r_cVI1 B cb_X5_fail lk_X5_60 cv_X5_fail kd_1 (c_X5_fail (xl x) E (inR_k rfl) mμ2 h) rfl rfl dX5_readLine_29 (fun r35 μ34 hr35 mμ34 h => ?_)
      obtain ⟨o36, h⟩ := h
      exact r_zret B hr o36 mμ34 dX5_readLine_32 h
  · have h := h.2 c4
    refine r_al0 dX5_readLine_13 ?_
    refine r_iconst dX5_readLine_14 ?_
    refine r_cVI1 B cb_X5_fail lk_X5_60 cv_X5_fail kd_1 (c_X5_fail (xl x) E (inR_k rfl) mμ2 h) rfl rfl dX5_readLine_15 (fun r38 μ37 hr38 mμ37 h => ?_)
    obtain ⟨o39, h⟩ := h
    exact r_zret B hr o39 mμ37 dX5_readLine_18 h
set_option maxRecDepth 20000 in
theorem t_X5_read_33 {x : Cx} {E : Gx} (B : Bd x E 12 3 "SlipCovers$Reader") (hr : (xt x).sig.returnType = (some .boolean)) {Q : Int → Mem → Prop} {v2 : Int} {μ : Mem} (hv2 : inR v2) (hμ : okM μ) (h : LP2 (wp_X5_read_33 Q) v2 μ) : J cX5_read x E z0 μ 33 [some (rv E 1), none, some (iv v2)] [] (MQ (xb x) (QI E z0 Q) (xa x) (xs x) 0 0 (gA E)) := by
  refine LP2_ind (T := fun (v2 : Int) (μ : Mem) => inR v2 → okM μ → J cX5_read x E z0 μ 33 [some (rv E 1), none, some (iv v2)] [] (MQ (xb x) (QI E z0 Q) (xa x) (xs x) 0 0 (gA E))) (fun X33 hX33 v2 μ h hv2 hμ => ?_) h hv2 hμ
  unfold wp_X5_read_33 at h
  refine r_il2 dX5_read_33 ?_
  refine r_iconst dX5_read_34 ?_
  refine r_icmp_gt 62 dX5_read_35 rfl hv2 (inR_k rfl) (fun c5 => ?_) (fun c5 => ?_)
  · have h := h.1 c5
    refine r_al0 dX5_read_62 ?_
    refine r_iconst dX5_read_63 ?_
    refine r_cVI1 B cb_X5_fail lk_X5_60 cv_X5_fail kd_1 (c_X5_fail (xl x) E (inR_k rfl) hμ h) rfl rfl dX5_read_64 (fun r7 μ6 hr7 mμ6 h => ?_)
    obtain ⟨o8, h⟩ := h
    exact r_zret B hr o8 mμ6 dX5_read_67 h
  · have h := h.2 c5
    refine r_al0 dX5_read_38 ?_
    refine r_cVI0 B cb_X5_readLine lk_X5_53 cv_X5_readLine kd_1 (c_X5_readLine (xl x) E hμ h) rfl rfl dX5_read_39 (fun r10 μ9 hr10 mμ9 h => ?_)
    refine r_if_ne 47 dX5_read_42 rfl hr10 (fun c11 => ?_) (fun c11 => ?_)
    · have h := h.1 c11
      refine r_al0 dX5_read_47 ?_
      refine r_getI B fg_X5_57 kd_1 (kl kd_1) dX5_read_48 ?_
      refine r_if_ne 56 dX5_read_51 rfl (mμ9 1 5) (fun c12 => ?_) (fun c12 => ?_)
      · have h := h.1 c12
        refine r_inc2 dX5_read_56 rfl ?_
        obtain ⟨o13, h⟩ := h
        refine r_goto 33 dX5_read_59 rfl ?_
        exact J_weak (hX33 (v2 + 1) μ9 h o13 mμ9) (⟨rfl, ⟨rfl, trivial⟩⟩)
      · have h := h.2 c12
        refine r_iconst dX5_read_54 ?_
        exact r_zret B hr (Or.inr rfl) mμ9 dX5_read_55 h
    · have h := h.2 c11
      refine r_iconst dX5_read_45 ?_
      exact r_zret B hr (Or.inl rfl) mμ9 dX5_read_46 h
set_option maxRecDepth 20000 in
theorem c_X5_read (l : Launch) (E : Gx) {p0 : Int} {μ : Mem} {Q : Int → Mem → Prop} (hp0 : inR p0) (hμ : okM μ) (h : wp_X5_read p0 μ Q) : MT l yX5_read cX5_read 3 (some .boolean) E 12 0 0 z0 [rv E 1, iv p0] μ (QI E z0 Q) := by
  refine m_start [some (rv E 1), some (iv p0), none] (by decide) rfl rfl rfl (fun x hxl hxc hxs B hr hnm => ?_)
  unfold wp_X5_read at h
  refine r_al0 dX5_read_0 ?_
  refine r_iconst dX5_read_1 ?_
  refine r_il1 dX5_read_2 ?_
  refine r_al0 dX5_read_3 ?_
  refine r_getI B fg_X5_28 kd_1 (kl kd_1) dX5_read_4 ?_
  refine r_mmin B lk_X5_32 hp0 (hμ 1 1) rfl dX5_read_7 ?_
  refine r_mmax B lk_X5_38 (inR_k rfl) (inR_min hp0 (hμ 1 1)) rfl dX5_read_10 ?_
  refine r_putI B fg_X5_41 fp_5_2 kd_1 (kl kd_1) dX5_read_13 ?_
  refine n_mem (fun μ1 eμ1 => ?_)
  have h := h μ1 eμ1
  have mμ1 : okM μ1 := eqM eμ1 (okM_sI hμ (inR_max (inR_k rfl) (inR_min hp0 (hμ 1 1))))
  refine r_al0 dX5_read_16 ?_
  refine r_iconst dX5_read_17 ?_
  refine r_putI B fg_X5_44 fp_5_4 kd_1 (kl kd_1) dX5_read_18 ?_
  refine n_mem (fun μ2 eμ2 => ?_)
  have h := h μ2 eμ2
  have mμ2 : okM μ2 := eqM eμ2 (okM_sI mμ1 (inR_k rfl))
  refine r_al0 dX5_read_21 ?_
  refine r_iconst dX5_read_22 ?_
  refine r_putI B fg_X5_47 fp_5_6 kd_1 (kl kd_1) dX5_read_23 ?_
  refine n_mem (fun μ3 eμ3 => ?_)
  have h := h μ3 eμ3
  have mμ3 : okM μ3 := eqM eμ3 (okM_sI mμ2 (inR_k rfl))
  refine r_al0 dX5_read_26 ?_
  refine r_iconst dX5_read_27 ?_
  refine r_putI B fg_X5_50 fp_5_7 kd_1 (kl kd_1) dX5_read_28 ?_
  refine n_mem (fun μ4 eμ4 => ?_)
  have h := h μ4 eμ4
  have mμ4 : okM μ4 := eqM eμ4 (okM_sI mμ3 (inR_k rfl))
  refine r_iconst dX5_read_31 ?_
  refine r_is2 dX5_read_32 rfl ?_
  exact J_weak (t_X5_read_33 B hr (inR_k rfl) mμ4 h) (⟨rfl, ⟨rfl, trivial⟩⟩)
set_option maxRecDepth 20000 in
theorem t_X5_handOut_10 {x : Cx} {E : Gx} (B : Bd x E 5 3 "SlipCovers$Reader") (hr : (xt x).sig.returnType = none) {Q : Mem → Prop} {v2 : Int} {μ : Mem} (hv2 : inR v2) (hμ : okM μ) (h : LP2 (wp_X5_handOut_10 Q) v2 μ) : J cX5_handOut x E z0 μ 10 [some (rv E 1), some (rv E 22), some (iv v2)] [] (MQ (xb x) (QV E z0 Q) (xa x) (xs x) 0 0 (gA E)) := by
  refine LP2_ind (T := fun (v2 : Int) (μ : Mem) => inR v2 → okM μ → J cX5_handOut x E z0 μ 10 [some (rv E 1), some (rv E 22), some (iv v2)] [] (MQ (xb x) (QV E z0 Q) (xa x) (xs x) 0 0 (gA E))) (fun X10 hX10 v2 μ h hv2 hμ => ?_) h hv2 hμ
  unfold wp_X5_handOut_10 at h
  refine r_il2 dX5_handOut_10 ?_
  refine r_al0 dX5_handOut_11 ?_
  refine r_getI B fg_X5_50 kd_1 (kl kd_1) dX5_handOut_12 ?_
  refine r_icmp_ge 53 dX5_handOut_15 rfl hv2 (hμ 1 7) (fun c2 => ?_) (fun c2 => ?_)
  · have h := h.1 c2
    exact r_vret B hr hμ dX5_handOut_53 h
  · have h := h.2 c2
    refine r_il2 dX5_handOut_18 ?_
    refine r_iconst dX5_handOut_19 ?_
    refine r_icmp_ge 53 dX5_handOut_20 rfl hv2 (inR_k rfl) (fun c3 => ?_) (fun c3 => ?_)
    · have h := h.1 c3
      exact r_vret B hr hμ dX5_handOut_53 h
    · have h := h.2 c3
      refine r_al1 dX5_handOut_23 ?_
      refine r_il2 dX5_handOut_24 ?_
      obtain ⟨o4, h⟩ := h
      refine r_aald B _ kd_22 (kl kd_22) (by decide) o4 (ρa (b := 83) kd_22 rfl) dX5_handOut_25 ?_
      refine r_al0 dX5_handOut_26 ?_
      refine r_getR B 3 fg_X5_17 kd_1 (kl kd_1) (ρo (off := 2) kd_1 rfl) dX5_handOut_27 ?_
      refine r_il2 dX5_handOut_30 ?_
      obtain ⟨o5, h⟩ := h
      refine r_aald B _ kd_3 (kl kd_3) (by decide) o5 (ρa (b := 6) kd_3 rfl) dX5_handOut_31 ?_
      refine r_cVV1 B cb_X1_copy lk_X5_67 cv_X1_copy ((isC_codesI o4)).1 (c_X1_copy (xl x) E (isC_codesI o4) (isC_draftsI o5) hμ h) rfl rfl dX5_handOut_32 (fun μ6 mμ6 h => ?_)
      refine r_al0 dX5_handOut_35 ?_
      refine r_getR B 5 fg_X5_24 kd_1 (kl kd_1) (ρo (off := 4) kd_1 rfl) dX5_handOut_36 ?_
      refine r_il2 dX5_handOut_39 ?_
      refine r_al0 dX5_handOut_40 ?_
      refine r_getR B 4 fg_X5_21 kd_1 (kl kd_1) (ρo (off := 3) kd_1 rfl) dX5_handOut_41 ?_
      refine r_il2 dX5_handOut_44 ?_
      refine r_iald B kd_4 (kl kd_4) (by decide) o5 dX5_handOut_45 ?_
      refine r_iast B kd_5 (kl kd_5) (by decide) o5 dX5_handOut_46 ?_
      refine n_mem (fun μ7 eμ7 => ?_)
      have h := h μ7 eμ7
      have mμ7 : okM μ7 := eqM eμ7 (okM_sI mμ6 (mμ6 _ _))
      refine r_inc2 dX5_handOut_47 rfl ?_
      obtain ⟨o8, h⟩ := h
      refine r_goto 10 dX5_handOut_50 rfl ?_
      exact J_weak (hX10 (v2 + 1) μ7 h o8 mμ7) (⟨rfl, ⟨rfl, ⟨rfl, trivial⟩⟩⟩)
set_option maxRecDepth 20000 in
theorem c_X5_handOut (l : Launch) (E : Gx) {μ : Mem} {Q : Mem → Prop} (hμ : okM μ) (h : wp_X5_handOut  μ Q) : MT l yX5_handOut cX5_handOut 3 none E 5 0 0 z0 [rv E 1, rv E 22] μ (QV E z0 Q) := by
  refine m_start [some (rv E 1), some (rv E 22), none] (by decide) rfl rfl rfl (fun x hxl hxc hxs B hr hnm => ?_)
  unfold wp_X5_handOut at h
  refine r_al0 dX5_handOut_0 ?_
  refine r_al0 dX5_handOut_1 ?_
  refine r_getI B fg_X5_50 kd_1 (kl kd_1) dX5_handOut_2 ?_
  refine r_putI B fg_X5_64 fp_5_11 kd_1 (kl kd_1) dX5_handOut_5 ?_
  refine n_mem (fun μ1 eμ1 => ?_)
  have h := h μ1 eμ1
  have mμ1 : okM μ1 := eqM eμ1 (okM_sI hμ (hμ 1 7))
  refine r_iconst dX5_handOut_8 ?_
  refine r_is2 dX5_handOut_9 rfl ?_
  exact J_weak (t_X5_handOut_10 B hr (inR_k rfl) mμ1 h) (⟨rfl, ⟨rfl, ⟨rfl, trivial⟩⟩⟩)
set_option maxRecDepth 20000 in
theorem c_X5_letterOf (l : Launch) (E : Gx) {p0 : Int} {p1 : Int} {μ : Mem} {Q : Int → Mem → Prop} (hp0 : inR p0) (hp1 : inR p1) (hμ : okM μ) (h : wp_X5_letterOf p0 p1 μ Q) : MT l yX5_letterOf cX5_letterOf 3 (some .int) E 1 0 0 z0 [rv E 1, iv p0, iv p1] μ (QI E z0 Q) := by
  refine m_start [some (rv E 1), some (iv p0), some (iv p1)] (by decide) rfl rfl rfl (fun x hxl hxc hxs B hr hnm => ?_)
  unfold wp_X5_letterOf at h
  refine r_il1 dX5_letterOf_0 ?_
  refine r_if_lt 27 dX5_letterOf_1 rfl hp0 (fun c1 => ?_) (fun c1 => ?_)
  · have h := h.1 c1
    refine r_iconst dX5_letterOf_27 ?_
    exact r_iret B hr (inR_k rfl) hμ dX5_letterOf_28 h
  · have h := h.2 c1
    refine r_il1 dX5_letterOf_4 ?_
    refine r_al0 dX5_letterOf_5 ?_
    refine r_getI B fg_X5_64 kd_1 (kl kd_1) dX5_letterOf_6 ?_
    refine r_icmp_ge 27 dX5_letterOf_9 rfl hp0 (hμ 1 11) (fun c2 => ?_) (fun c2 => ?_)
    · have h := h.1 c2
      refine r_iconst dX5_letterOf_27 ?_
      exact r_iret B hr (inR_k rfl) hμ dX5_letterOf_28 h
    · have h := h.2 c2
      refine r_il1 dX5_letterOf_12 ?_
      refine r_iconst dX5_letterOf_13 ?_
      refine r_icmp_ge 27 dX5_letterOf_14 rfl hp0 (inR_k rfl) (fun c3 => ?_) (fun c3 => ?_)
      · have h := h.1 c3
        refine r_iconst dX5_letterOf_27 ?_
        exact r_iret B hr (inR_k rfl) hμ dX5_letterOf_28 h
      · have h := h.2 c3
        refine r_il2 dX5_letterOf_17 ?_
        refine r_if_lt 27 dX5_letterOf_18 rfl hp1 (fun c4 => ?_) (fun c4 => ?_)
        · have h := h.1 c4
          refine r_iconst dX5_letterOf_27 ?_
          exact r_iret B hr (inR_k rfl) hμ dX5_letterOf_28 h
        · have h := h.2 c4
          refine r_il2 dX5_letterOf_21 ?_
          refine r_bipush dX5_letterOf_22 (by decide) ?_
          refine r_icmp_lt 29 dX5_letterOf_24 rfl hp1 (inR_k rfl) (fun c5 => ?_) (fun c5 => ?_)
          · have h := h.1 c5
            refine r_al0 dX5_letterOf_29 ?_
            refine r_getR B 5 fg_X5_24 kd_1 (kl kd_1) (ρo (off := 4) kd_1 rfl) dX5_letterOf_30 ?_
            refine r_il1 dX5_letterOf_33 ?_
            obtain ⟨o6, h⟩ := h
            refine r_iald B kd_5 (kl kd_5) (by decide) o6 dX5_letterOf_34 ?_
            refine r_iconst dX5_letterOf_35 ?_
            refine r_il2 dX5_letterOf_36 ?_
            refine r_imul dX5_letterOf_37 ?_
            refine r_ishr dX5_letterOf_38 ?_
            refine r_bipush dX5_letterOf_39 (by decide) ?_
            refine r_iand dX5_letterOf_41 ?_
            refine r_iconst dX5_letterOf_42 ?_
            refine r_isub dX5_letterOf_43 ?_
            obtain ⟨o7, h⟩ := h
            exact r_iret B hr o7 hμ dX5_letterOf_44 h
          · have h := h.2 c5
            refine r_iconst dX5_letterOf_27 ?_
            exact r_iret B hr (inR_k rfl) hμ dX5_letterOf_28 h
set_option maxRecDepth 20000 in
theorem t_X6_seek_105 {x : Cx} {E : Gx} {N : Nat} (B : Bd x E (N + 4) 15 "SlipCovers$Search") (hr : (xt x).sig.returnType = (some .boolean)) {Q : Int → Mem → Prop} {REC : Int → Int64 → Int64 → Mem → (Int → Mem → Prop) → Prop} (hREC : ∀ {p0 : Int} {p1 : Int64} {p2 : Int64} {μ : Mem} {Q : Int → Mem → Prop}, inR p0 → okM μ → REC p0 p1 p2 μ Q → MT (xl x) yX6_seek cX6_seek 15 (some .boolean) E (N + 3) 0 0 z0 [rv E 74, iv p0, .long p1, .long p2] μ (QI E z0 Q)) {v1 : Int} {v2 : Int64} {v4 : Int64} {v9 : Int64} {v11 : Int64} {v13 : Int} {μ : Mem} (hv1 : inR v1) (hv13 : inR v13) (hμ : okM μ) (h : LP7 (wp_X6_seek_105 Q REC) v1 v2 v4 v9 v11 v13 μ) : J cX6_seek x E z0 μ 105 [some (rv E 74), some (iv v1), some (.long v2), none, some (.long v4), none, none, none, none, some (.long v9), none, some (.long v11), none, some (iv v13), none] [] (MQ (xb x) (QI E z0 Q) (xa x) (xs x) 0 0 (gA E)) := by
  refine LP7_ind (T := fun (v1 : Int) (v2 : Int64) (v4 : Int64) (v9 : Int64) (v11 : Int64) (v13 : Int) (μ : Mem) => inR v1 → inR v13 → okM μ → J cX6_seek x E z0 μ 105 [some (rv E 74), some (iv v1), some (.long v2), none, some (.long v4), none, none, none, none, some (.long v9), none, some (.long v11), none, some (iv v13), none] [] (MQ (xb x) (QI E z0 Q) (xa x) (xs x) 0 0 (gA E))) (fun X105 hX105 v1 v2 v4 v9 v11 v13 μ h hv1 hv13 hμ => ?_) h hv1 hv13 hμ
  unfold wp_X6_seek_105 at h
  refine r_il13 dX6_seek_105 ?_
  refine r_al0 dX6_seek_107 ?_
  refine r_getR B 75 fg_X6_12 kd_74 (kl kd_74) (ρo (off := 1) kd_74 rfl) dX6_seek_108 ?_
  refine r_getIN B fg_X6_55 kd_75 (kl kd_75) dX6_seek_111 ?_
  refine r_icmp_ge 262 dX6_seek_114 rfl hv13 (hμ 75 1) (fun c14 => ?_) (fun c14 => ?_)
  · have h := h.1 c14
    refine r_iconst dX6_seek_262 ?_
    exact r_zret B hr (Or.inl rfl) hμ dX6_seek_263 h
  · have h := h.2 c14
    refine r_al0 dX6_seek_117 ?_
    refine r_getI B fg_X6_30 kd_74 (kl kd_74) dX6_seek_118 ?_
    refine r_ldc B (a := 60000) kc_X6_71 (by decide) dX6_seek_121 ?_
    refine r_icmp_lt 133 dX6_seek_123 rfl (hμ 74 4) (inR_k rfl) (fun c15 => ?_) (fun c15 => ?_)
    · have h := h.1 c15
      refine r_ll9 dX6_seek_133 ?_
      refine r_ll11 dX6_seek_135 ?_
      refine r_cSI2 B cb_X0_firstOf lk_X6_58 cs_X0_firstOf (c_X0_firstOf (xl x) E hμ h) rfl rfl dX6_seek_137 (fun r17 μ16 hr17 mμ16 h => ?_)
      refine r_is14 dX6_seek_140 rfl ?_
      refine r_il14 dX6_seek_142 ?_
      refine r_al0 dX6_seek_144 ?_
      refine r_getR B 75 fg_X6_12 kd_74 (kl kd_74) (ρo (off := 1) kd_74 rfl) dX6_seek_145 ?_
      refine r_getIN B fg_X6_61 kd_75 (kl kd_75) dX6_seek_148 ?_
      refine r_icmp_lt 156 dX6_seek_151 rfl hr17 (mμ16 75 0) (fun c18 => ?_) (fun c18 => ?_)
      · have h := h.1 c18
        refine r_ll9 dX6_seek_156 ?_
        refine r_il14 dX6_seek_158 ?_
        refine r_cSL1 B cb_X0_lowBit lk_X6_72 cs_X0_lowBit (c_X0_lowBit (xl x) E hr17 mμ16 h) rfl rfl dX6_seek_160 (fun y20 μ19 mμ19 h => ?_)
        refine r_ldc2 B kc_X6_76 dX6_seek_163 ?_
        refine r_lxor dX6_seek_166 ?_
        refine r_land dX6_seek_167 ?_
        refine n_topl (fun y21 ey21 => ?_)
        have h := h y21 ey21
        refine r_ls9 dX6_seek_168 rfl ?_
        refine r_ll11 dX6_seek_170 ?_
        refine r_il14 dX6_seek_172 ?_
        refine r_cSL1 B cb_X0_highBit lk_X6_78 cs_X0_highBit (c_X0_highBit (xl x) E hr17 mμ19 h) rfl rfl dX6_seek_174 (fun y23 μ22 mμ22 h => ?_)
        refine r_ldc2 B kc_X6_76 dX6_seek_177 ?_
        refine r_lxor dX6_seek_180 ?_
        refine r_land dX6_seek_181 ?_
        refine n_topl (fun y24 ey24 => ?_)
        have h := h y24 ey24
        refine r_ls11 dX6_seek_182 rfl ?_
        refine r_al0 dX6_seek_184 ?_
        refine r_dup rfl dX6_seek_185 ?_
        refine r_getI B fg_X6_30 kd_74 (kl kd_74) dX6_seek_186 ?_
        refine r_iconst dX6_seek_189 ?_
        refine r_iadd dX6_seek_190 ?_
        obtain ⟨o25, h⟩ := h
        refine r_putI B fg_X6_30 fp_6_4 kd_74 (kl kd_74) dX6_seek_191 ?_
        refine n_mem (fun μ26 eμ26 => ?_)
        have h := h μ26 eμ26
        have mμ26 : okM μ26 := eqM eμ26 (okM_sI mμ22 o25)
        refine r_al0 dX6_seek_194 ?_
        refine r_getR B 78 fg_X6_18 kd_74 (kl kd_74) (ρo (off := 4) kd_74 rfl) dX6_seek_195 ?_
        refine r_il1 dX6_seek_198 ?_
        refine r_il14 dX6_seek_199 ?_
        obtain ⟨o27, h⟩ := h
        refine r_iast B kd_78 (kl kd_78) (by decide) o27 dX6_seek_201 ?_
        refine n_mem (fun μ28 eμ28 => ?_)
        have h := h μ28 eμ28
        have mμ28 : okM μ28 := eqM eμ28 (okM_sI mμ26 hr17)
        refine r_al0 dX6_seek_202 ?_
        refine r_il1 dX6_seek_203 ?_
        refine r_iconst dX6_seek_204 ?_
        refine r_iadd dX6_seek_205 ?_
        refine r_ll2 dX6_seek_206 ?_
        refine r_al0 dX6_seek_207 ?_
        refine r_getR B 75 fg_X6_12 kd_74 (kl kd_74) (ρo (off := 1) kd_74 rfl) dX6_seek_208 ?_
        refine r_getRN B 76 fg_X6_64 kd_75 (kl kd_75) (ρo (off := 1) kd_75 rfl) dX6_seek_211 ?_
        refine r_il14 dX6_seek_214 ?_
        obtain ⟨o29, h⟩ := h
        refine r_lald B kd_76 (kl kd_76) (by decide) o29 dX6_seek_216 ?_
        refine r_ldc2 B kc_X6_76 dX6_seek_217 ?_
        refine r_lxor dX6_seek_220 ?_
        refine r_land dX6_seek_221 ?_
        refine r_ll4 dX6_seek_222 ?_
        refine r_al0 dX6_seek_224 ?_
        refine r_getR B 75 fg_X6_12 kd_74 (kl kd_74) (ρo (off := 1) kd_74 rfl) dX6_seek_225 ?_
        refine r_getRN B 77 fg_X6_68 kd_75 (kl kd_75) (ρo (off := 2) kd_75 rfl) dX6_seek_228 ?_
        refine r_il14 dX6_seek_231 ?_
        refine r_lald B kd_77 (kl kd_77) (by decide) o29 dX6_seek_233 ?_
        refine r_ldc2 B kc_X6_76 dX6_seek_234 ?_
        refine r_lxor dX6_seek_237 ?_
        refine r_land dX6_seek_238 ?_
        obtain ⟨o30, h⟩ := h
        refine r_cVI3 B cb_X6_seek lk_X6_47 cv_X6_seek kd_74 (hREC o30 mμ28 h) (bleN N) rfl dX6_seek_239 (fun r32 μ31 hr32 mμ31 h => ?_)
        refine r_if_eq 247 dX6_seek_242 rfl hr32 (fun c33 => ?_) (fun c33 => ?_)
        · have h := h.1 c33
          refine r_al0 dX6_seek_247 ?_
          refine r_getI B fg_X6_33 kd_74 (kl kd_74) dX6_seek_248 ?_
          refine r_if_eq 256 dX6_seek_251 rfl (mμ31 74 5) (fun c34 => ?_) (fun c34 => ?_)
          · have h := h.1 c34
            refine r_inc13 dX6_seek_256 rfl ?_
            obtain ⟨o35, h⟩ := h
            refine r_goto 105 dX6_seek_259 rfl ?_
            exact J_weak (hX105 v1 v2 v4 y21 y24 (v13 + 1) μ31 h hv1 o35 mμ31) (⟨rfl, ⟨rfl, ⟨rfl, ⟨rfl, ⟨rfl, ⟨rfl, ⟨rfl, trivial⟩⟩⟩⟩⟩⟩⟩)
          · have h := h.2 c34
            refine r_iconst dX6_seek_254 ?_
            exact r_zret B hr (Or.inl rfl) mμ31 dX6_seek_255 h
        · have h := h.2 c33
          refine r_iconst dX6_seek_245 ?_
          exact r_zret B hr (Or.inr rfl) mμ31 dX6_seek_246 h
      · have h := h.2 c18
        refine r_iconst dX6_seek_154 ?_
        exact r_zret B hr (Or.inl rfl) mμ16 dX6_seek_155 h
    · have h := h.2 c15
      refine r_al0 dX6_seek_126 ?_
      refine r_iconst dX6_seek_127 ?_
      refine r_putZ B fg_X6_33 fp_6_5 kd_74 (kl kd_74) (Or.inr rfl) dX6_seek_128 ?_
      refine n_mem (fun μ36 eμ36 => ?_)
      have h := h μ36 eμ36
      have mμ36 : okM μ36 := eqM eμ36 (okM_sI hμ (inR_k rfl))
      refine r_iconst dX6_seek_131 ?_
      exact r_zret B hr (Or.inl rfl) mμ36 dX6_seek_132 h
set_option maxRecDepth 20000 in
theorem c_X6_seek_n (l : Launch) (E : Gx) : ∀ (N : Nat) (p0 : Int) (p1 : Int64) (p2 : Int64) (μ : Mem) (Q : Int → Mem → Prop), inR p0 → okM μ → wp_X6_seek N p0 p1 p2 μ Q → MT l yX6_seek cX6_seek 15 (some .boolean) E (N + 3) 0 0 z0 [rv E 74, iv p0, .long p1, .long p2] μ (QI E z0 Q) := by
  intro N
  induction N with
  | zero => intro p0 p1 p2 μ Q hp0 hμ h; exact absurd h (fun q => q)
  | succ N ih =>
    intro p0 p1 p2 μ Q hp0 hμ h
    refine m_start [some (rv E 74), some (iv p0), some (.long p1), none, some (.long p2), none, none, none, none, none, none, none, none, none, none] (by decide) rfl rfl rfl (fun x hxl hxc hxs B hr hnm => ?_)
    subst hxl
    have hREC := fun {p0 : Int} {p1 : Int64} {p2 : Int64} {μ : Mem} {Q : Int → Mem → Prop} => ih p0 p1 p2 μ Q
    generalize hG : wp_X6_seek N = REC at hREC
    have h : wp_X6_seek_b REC p0 p1 p2 μ Q := hG ▸ h
    unfold wp_X6_seek_b at h
    refine r_ll2 dX6_seek_0 ?_
    refine r_ll4 dX6_seek_1 ?_
    refine r_cSI2 B cb_X0_countOf lk_X6_51 cs_X0_countOf (c_X0_countOf (xl x) E hμ h) rfl rfl dX6_seek_3 (fun r2 μ1 hr2 mμ1 h => ?_)
    refine r_is6 dX6_seek_6 rfl ?_
    refine r_il6 dX6_seek_8 ?_
    refine r_if_ne 20 dX6_seek_10 rfl hr2 (fun c3 => ?_) (fun c3 => ?_)
    · have h := h.1 c3
      refine r_al0 dX6_seek_20 ?_
      refine r_getI B fg_X6_37 kd_74 (kl kd_74) dX6_seek_21 ?_
      refine r_il1 dX6_seek_24 ?_
      refine r_isub dX6_seek_25 ?_
      obtain ⟨o5, h⟩ := h
      refine n_topi (fun x4 ex4 => ?_)
      have h := h x4 ex4
      refine r_is7 dX6_seek_26 rfl ?_
      refine r_il1 dX6_seek_28 ?_
      refine r_bipush dX6_seek_29 (by decide) ?_
      refine r_icmp_ge 54 dX6_seek_31 rfl hp0 (inR_k rfl) (fun c6 => ?_) (fun c6 => ?_)
      · have h := h.1 c6
        refine r_iconst dX6_seek_54 ?_
        exact r_zret B hr (Or.inl rfl) mμ1 dX6_seek_55 h
      · have h := h.2 c6
        refine r_il7 dX6_seek_34 ?_
        refine r_if_le 54 dX6_seek_36 rfl (eqR ex4 o5) (fun c7 => ?_) (fun c7 => ?_)
        · have h := h.1 c7
          refine r_iconst dX6_seek_54 ?_
          exact r_zret B hr (Or.inl rfl) mμ1 dX6_seek_55 h
        · have h := h.2 c7
          refine r_il7 dX6_seek_39 ?_
          refine r_al0 dX6_seek_41 ?_
          refine r_getR B 75 fg_X6_12 kd_74 (kl kd_74) (ρo (off := 1) kd_74 rfl) dX6_seek_42 ?_
          refine r_getIN B fg_X6_55 kd_75 (kl kd_75) dX6_seek_45 ?_
          refine r_imul dX6_seek_48 ?_
          refine r_il6 dX6_seek_49 ?_
          obtain ⟨o8, h⟩ := h
          refine r_icmp_ge 56 dX6_seek_51 rfl o8 hr2 (fun c9 => ?_) (fun c9 => ?_)
          · have h := h.1 c9
            refine r_ll2 dX6_seek_56 ?_
            refine r_ll4 dX6_seek_57 ?_
            refine r_cSI2 B cb_X0_firstOf lk_X6_58 cs_X0_firstOf (c_X0_firstOf (xl x) E mμ1 h) rfl rfl dX6_seek_59 (fun r11 μ10 hr11 mμ10 h => ?_)
            refine r_is8 dX6_seek_62 rfl ?_
            refine r_il8 dX6_seek_64 ?_
            refine r_al0 dX6_seek_66 ?_
            refine r_getR B 75 fg_X6_12 kd_74 (kl kd_74) (ρo (off := 1) kd_74 rfl) dX6_seek_67 ?_
            refine r_getIN B fg_X6_61 kd_75 (kl kd_75) dX6_seek_70 ?_
            refine r_icmp_lt 78 dX6_seek_73 rfl hr11 (mμ10 75 0) (fun c12 => ?_) (fun c12 => ?_)
            · have h := h.1 c12
              refine r_al0 dX6_seek_78 ?_
              refine r_getR B 75 fg_X6_12 kd_74 (kl kd_74) (ρo (off := 1) kd_74 rfl) dX6_seek_79 ?_
              refine r_getRN B 76 fg_X6_64 kd_75 (kl kd_75) (ρo (off := 1) kd_75 rfl) dX6_seek_82 ?_
              refine r_il8 dX6_seek_85 ?_
              obtain ⟨o13, h⟩ := h
              refine r_lald B kd_76 (kl kd_76) (by decide) o13 dX6_seek_87 ?_
              refine r_ls9 dX6_seek_88 rfl ?_
              refine r_al0 dX6_seek_90 ?_
              refine r_getR B 75 fg_X6_12 kd_74 (kl kd_74) (ρo (off := 1) kd_74 rfl) dX6_seek_91 ?_
              refine r_getRN B 77 fg_X6_68 kd_75 (kl kd_75) (ρo (off := 2) kd_75 rfl) dX6_seek_94 ?_
              refine r_il8 dX6_seek_97 ?_
              refine r_lald B kd_77 (kl kd_77) (by decide) o13 dX6_seek_99 ?_
              refine r_ls11 dX6_seek_100 rfl ?_
              refine r_iconst dX6_seek_102 ?_
              refine r_is13 dX6_seek_103 rfl ?_
              exact J_weak (t_X6_seek_105 B hr hREC hp0 (inR_k rfl) mμ10 h) (⟨rfl, ⟨rfl, ⟨rfl, ⟨rfl, ⟨rfl, ⟨rfl, ⟨rfl, trivial⟩⟩⟩⟩⟩⟩⟩)
            · have h := h.2 c12
              refine r_iconst dX6_seek_76 ?_
              exact r_zret B hr (Or.inl rfl) mμ10 dX6_seek_77 h
          · have h := h.2 c9
            refine r_iconst dX6_seek_54 ?_
            exact r_zret B hr (Or.inl rfl) mμ1 dX6_seek_55 h
    · have h := h.2 c3
      refine r_al0 dX6_seek_13 ?_
      refine r_il1 dX6_seek_14 ?_
      refine r_putI B fg_X6_26 fp_6_3 kd_74 (kl kd_74) dX6_seek_15 ?_
      refine n_mem (fun μ37 eμ37 => ?_)
      have h := h μ37 eμ37
      have mμ37 : okM μ37 := eqM eμ37 (okM_sI mμ1 hp0)
      refine r_iconst dX6_seek_18 ?_
      exact r_zret B hr (Or.inr rfl) mμ37 dX6_seek_19 h
theorem c_X6_seek (l : Launch) (E : Gx) {p0 : Int} {p1 : Int64} {p2 : Int64} {μ : Mem} {Q : Int → Mem → Prop} (hp0 : inR p0) (hμ : okM μ) (h : wp_X6_seek 12 p0 p1 p2 μ Q) : MT l yX6_seek cX6_seek 15 (some .boolean) E 15 0 0 z0 [rv E 74, iv p0, .long p1, .long p2] μ (QI E z0 Q) := c_X6_seek_n l E 12 p0 p1 p2 μ Q hp0 hμ h
set_option maxRecDepth 20000 in
theorem t_X6_run_26 {x : Cx} {E : Gx} (B : Bd x E 16 4 "SlipCovers$Search") (hr : (xt x).sig.returnType = none) {Q : Mem → Prop} {v3 : Int} {μ : Mem} (hv3 : inR v3) (hμ : okM μ) (h : LP2 (wp_X6_run_26 Q) v3 μ) : J cX6_run x E z0 μ 26 [some (rv E 74), none, none, some (iv v3)] [] (MQ (xb x) (QV E z0 Q) (xa x) (xs x) 0 0 (gA E)) := by
  refine LP2_ind (T := fun (v3 : Int) (μ : Mem) => inR v3 → okM μ → J cX6_run x E z0 μ 26 [some (rv E 74), none, none, some (iv v3)] [] (MQ (xb x) (QV E z0 Q) (xa x) (xs x) 0 0 (gA E))) (fun X26 hX26 v3 μ h hv3 hμ => ?_) h hv3 hμ
  unfold wp_X6_run_26 at h
  refine r_il3 dX6_run_26 ?_
  refine r_bipush dX6_run_27 (by decide) ?_
  refine r_icmp_gt 73 dX6_run_29 rfl hv3 (inR_k rfl) (fun c5 => ?_) (fun c5 => ?_)
  · have h := h.1 c5
    refine r_al0 dX6_run_73 ?_
    refine r_iconst dX6_run_74 ?_
    refine r_putZ B fg_X6_33 fp_6_5 kd_74 (kl kd_74) (Or.inr rfl) dX6_run_75 ?_
    refine n_mem (fun μ6 eμ6 => ?_)
    have h := h μ6 eμ6
    have mμ6 : okM μ6 := eqM eμ6 (okM_sI hμ (inR_k rfl))
    exact r_vret B hr mμ6 dX6_run_78 h
  · have h := h.2 c5
    refine r_al0 dX6_run_32 ?_
    refine r_il3 dX6_run_33 ?_
    refine r_putI B fg_X6_37 fp_6_2 kd_74 (kl kd_74) dX6_run_34 ?_
    refine n_mem (fun μ7 eμ7 => ?_)
    have h := h μ7 eμ7
    have mμ7 : okM μ7 := eqM eμ7 (okM_sI hμ hv3)
    refine r_al0 dX6_run_37 ?_
    refine r_iconst dX6_run_38 ?_
    refine r_al0 dX6_run_39 ?_
    refine r_getR B 75 fg_X6_12 kd_74 (kl kd_74) (ρo (off := 1) kd_74 rfl) dX6_run_40 ?_
    refine r_cVL0 B cb_X0_lowAll lk_X6_40 cv_X0_lowAll kd_75 (c_X0_lowAll (xl x) E isB_1 mμ7 h) rfl rfl dX6_run_43 (fun y9 μ8 mμ8 h => ?_)
    refine r_al0 dX6_run_46 ?_
    refine r_getR B 75 fg_X6_12 kd_74 (kl kd_74) (ρo (off := 1) kd_74 rfl) dX6_run_47 ?_
    refine r_cVL0 B cb_X0_highAll lk_X6_44 cv_X0_highAll kd_75 (c_X0_highAll (xl x) E isB_1 mμ8 h) rfl rfl dX6_run_50 (fun y11 μ10 mμ10 h => ?_)
    refine r_cVI3 B cb_X6_seek lk_X6_47 cv_X6_seek kd_74 (c_X6_seek (xl x) E (inR_k rfl) mμ10 h) rfl rfl dX6_run_53 (fun r13 μ12 hr13 mμ12 h => ?_)
    refine r_if_ne 66 dX6_run_56 rfl hr13 (fun c14 => ?_) (fun c14 => ?_)
    · have h := h.1 c14
      exact r_vret B hr mμ12 dX6_run_66 h
    · have h := h.2 c14
      refine r_al0 dX6_run_59 ?_
      refine r_getI B fg_X6_33 kd_74 (kl kd_74) dX6_run_60 ?_
      refine r_if_eq 67 dX6_run_63 rfl (mμ12 74 5) (fun c15 => ?_) (fun c15 => ?_)
      · have h := h.1 c15
        refine r_inc3 dX6_run_67 rfl ?_
        obtain ⟨o16, h⟩ := h
        refine r_goto 26 dX6_run_70 rfl ?_
        exact J_weak (hX26 (v3 + 1) μ12 h o16 mμ12) (⟨rfl, ⟨rfl, trivial⟩⟩)
      · have h := h.2 c15
        exact r_vret B hr mμ12 dX6_run_66 h
set_option maxRecDepth 20000 in
theorem c_X6_run (l : Launch) (E : Gx) {p1 : Int} {μ : Mem} {Q : Mem → Prop} (hp1 : inR p1) (hμ : okM μ) (h : wp_X6_run p1 μ Q) : MT l yX6_run cX6_run 4 none E 16 0 0 z0 [rv E 74, rv E 70, iv p1] μ (QV E z0 Q) := by
  refine m_start [some (rv E 74), some (rv E 70), some (iv p1), none] (by decide) rfl rfl rfl (fun x hxl hxc hxs B hr hnm => ?_)
  unfold wp_X6_run at h
  refine r_al0 dX6_run_0 ?_
  refine r_getR B 75 fg_X6_12 kd_74 (kl kd_74) (ρo (off := 1) kd_74 rfl) dX6_run_1 ?_
  refine r_al1 dX6_run_4 ?_
  refine r_il2 dX6_run_5 ?_
  refine r_cVV2 B cb_X0_lay lk_X6_22 cv_X0_lay kd_75 (c_X0_lay (xl x) E isB_1 hp1 hμ h) rfl rfl dX6_run_6 (fun μ1 mμ1 h => ?_)
  refine r_al0 dX6_run_9 ?_
  refine r_iconst dX6_run_10 ?_
  refine r_putI B fg_X6_26 fp_6_3 kd_74 (kl kd_74) dX6_run_11 ?_
  refine n_mem (fun μ2 eμ2 => ?_)
  have h := h μ2 eμ2
  have mμ2 : okM μ2 := eqM eμ2 (okM_sI mμ1 (inR_k rfl))
  refine r_al0 dX6_run_14 ?_
  refine r_iconst dX6_run_15 ?_
  refine r_putI B fg_X6_30 fp_6_4 kd_74 (kl kd_74) dX6_run_16 ?_
  refine n_mem (fun μ3 eμ3 => ?_)
  have h := h μ3 eμ3
  have mμ3 : okM μ3 := eqM eμ3 (okM_sI mμ2 (inR_k rfl))
  refine r_al0 dX6_run_19 ?_
  refine r_iconst dX6_run_20 ?_
  refine r_putZ B fg_X6_33 fp_6_5 kd_74 (kl kd_74) (Or.inl rfl) dX6_run_21 ?_
  refine n_mem (fun μ4 eμ4 => ?_)
  have h := h μ4 eμ4
  have mμ4 : okM μ4 := eqM eμ4 (okM_sI mμ3 (inR_k rfl))
  refine r_iconst dX6_run_24 ?_
  refine r_is3 dX6_run_25 rfl ?_
  exact J_weak (t_X6_run_26 B hr (inR_k rfl) mμ4 h) (⟨rfl, ⟨rfl, trivial⟩⟩)
set_option maxRecDepth 20000 in
theorem c_X6_told (l : Launch) (E : Gx) {p0 : Int} {μ : Mem} {Q : Int → Mem → Prop} (hp0 : inR p0) (hμ : okM μ) (h : wp_X6_told p0 μ Q) : MT l yX6_told cX6_told 3 (some .int) E 1 0 0 z0 [rv E 74, iv p0] μ (QI E z0 Q) := by
  refine m_start [some (rv E 74), some (iv p0), none] (by decide) rfl rfl rfl (fun x hxl hxc hxs B hr hnm => ?_)
  unfold wp_X6_told at h
  refine r_il1 dX6_told_0 ?_
  refine r_iconst dX6_told_1 ?_
  refine r_icmp_ne 10 dX6_told_2 rfl hp0 (inR_k rfl) (fun c1 => ?_) (fun c1 => ?_)
  · have h := h.1 c1
    refine r_al0 dX6_told_10 ?_
    refine r_getI B fg_X6_33 kd_74 (kl kd_74) dX6_told_11 ?_
    refine r_if_eq 20 dX6_told_14 rfl (hμ 74 5) (fun c2 => ?_) (fun c2 => ?_)
    · have h := h.1 c2
      refine r_il1 dX6_told_20 ?_
      refine r_if_ne 29 dX6_told_21 rfl hp0 (fun c3 => ?_) (fun c3 => ?_)
      · have h := h.1 c3
        refine r_il1 dX6_told_29 ?_
        refine r_iconst dX6_told_30 ?_
        refine r_isub dX6_told_31 ?_
        obtain ⟨o5, h⟩ := h
        refine n_topi (fun x4 ex4 => ?_)
        have h := h x4 ex4
        refine r_is2 dX6_told_32 rfl ?_
        refine r_il2 dX6_told_33 ?_
        refine r_if_lt 54 dX6_told_34 rfl (eqR ex4 o5) (fun c6 => ?_) (fun c6 => ?_)
        · have h := h.1 c6
          refine r_bipush dX6_told_54 (by decide) ?_
          exact r_iret B hr (inR_k rfl) hμ dX6_told_56 h
        · have h := h.2 c6
          refine r_il2 dX6_told_37 ?_
          refine r_al0 dX6_told_38 ?_
          refine r_getI B fg_X6_26 kd_74 (kl kd_74) dX6_told_39 ?_
          refine r_icmp_ge 54 dX6_told_42 rfl (eqR ex4 o5) (hμ 74 3) (fun c7 => ?_) (fun c7 => ?_)
          · have h := h.1 c7
            refine r_bipush dX6_told_54 (by decide) ?_
            exact r_iret B hr (inR_k rfl) hμ dX6_told_56 h
          · have h := h.2 c7
            refine r_al0 dX6_told_45 ?_
            refine r_getR B 78 fg_X6_18 kd_74 (kl kd_74) (ρo (off := 4) kd_74 rfl) dX6_told_46 ?_
            refine r_il2 dX6_told_49 ?_
            obtain ⟨o8, h⟩ := h
            refine r_iald B kd_78 (kl kd_78) (by decide) o8 dX6_told_50 ?_
            refine r_goto 56 dX6_told_51 rfl ?_
            exact r_iret B hr (hμ _ _) hμ dX6_told_56 h
      · have h := h.2 c3
        refine r_al0 dX6_told_24 ?_
        refine r_getI B fg_X6_26 kd_74 (kl kd_74) dX6_told_25 ?_
        exact r_iret B hr (hμ 74 3) hμ dX6_told_28 h
    · have h := h.2 c2
      refine r_bipush dX6_told_17 (by decide) ?_
      exact r_iret B hr (inR_k rfl) hμ dX6_told_19 h
  · have h := h.2 c1
    refine r_al0 dX6_told_5 ?_
    refine r_getI B fg_X6_30 kd_74 (kl kd_74) dX6_told_6 ?_
    exact r_iret B hr (hμ 74 4) hμ dX6_told_9 h
set_option maxRecDepth 20000 in
theorem c_X7_feed (l : Launch) (E : Gx) {p0 : Int} {p1 : Int} {p2 : Int} {p3 : Int} {p4 : Int} {μ : Mem} {Q : Int → Mem → Prop} (hp0 : inR p0) (hp1 : inR p1) (hp2 : inR p2) (hp3 : inR p3) (hp4 : inR p4) (hμ : okM μ) (h : wp_X7_feed p0 p1 p2 p3 p4 μ Q) : MT l yX7_feed cX7_feed 6 (some .int) E 2 0 0 z0 [rv E 0, iv p0, iv p1, iv p2, iv p3, iv p4] μ (QI E z0 Q) := by
  refine m_start [some (rv E 0), some (iv p0), some (iv p1), some (iv p2), some (iv p3), some (iv p4)] (by decide) rfl rfl rfl (fun x hxl hxc hxs B hr hnm => ?_)
  unfold wp_X7_feed at h
  refine r_al0 dX7_feed_0 ?_
  refine r_getR B 1 fg_X7_10 kd_0 (kl kd_0) (ρo (off := 1) kd_0 rfl) dX7_feed_1 ?_
  refine r_cVI0 B cb_X5_hasRoom lk_X7_59 cv_X5_hasRoom kd_1 (c_X5_hasRoom (xl x) E hμ h) rfl rfl dX7_feed_4 (fun r2 μ1 hr2 mμ1 h => ?_)
  refine r_if_ne 12 dX7_feed_7 rfl hr2 (fun c3 => ?_) (fun c3 => ?_)
  · have h := h.1 c3
    refine r_al0 dX7_feed_12 ?_
    refine r_getR B 1 fg_X7_10 kd_0 (kl kd_0) (ρo (off := 1) kd_0 rfl) dX7_feed_13 ?_
    refine r_il1 dX7_feed_16 ?_
    refine r_cVV1 B cb_X5_append lk_X7_63 cv_X5_append kd_1 (c_X5_append (xl x) E hp0 mμ1 h) rfl rfl dX7_feed_17 (fun μ4 mμ4 h => ?_)
    refine r_al0 dX7_feed_20 ?_
    refine r_getR B 1 fg_X7_10 kd_0 (kl kd_0) (ρo (off := 1) kd_0 rfl) dX7_feed_21 ?_
    refine r_il2 dX7_feed_24 ?_
    refine r_cVV1 B cb_X5_append lk_X7_63 cv_X5_append kd_1 (c_X5_append (xl x) E hp1 mμ4 h) rfl rfl dX7_feed_25 (fun μ5 mμ5 h => ?_)
    refine r_al0 dX7_feed_28 ?_
    refine r_getR B 1 fg_X7_10 kd_0 (kl kd_0) (ρo (off := 1) kd_0 rfl) dX7_feed_29 ?_
    refine r_il3 dX7_feed_32 ?_
    refine r_cVV1 B cb_X5_append lk_X7_63 cv_X5_append kd_1 (c_X5_append (xl x) E hp2 mμ5 h) rfl rfl dX7_feed_33 (fun μ6 mμ6 h => ?_)
    refine r_al0 dX7_feed_36 ?_
    refine r_getR B 1 fg_X7_10 kd_0 (kl kd_0) (ρo (off := 1) kd_0 rfl) dX7_feed_37 ?_
    refine r_il4 dX7_feed_40 ?_
    refine r_cVV1 B cb_X5_append lk_X7_63 cv_X5_append kd_1 (c_X5_append (xl x) E hp3 mμ6 h) rfl rfl dX7_feed_42 (fun μ7 mμ7 h => ?_)
    refine r_al0 dX7_feed_45 ?_
    refine r_getR B 1 fg_X7_10 kd_0 (kl kd_0) (ρo (off := 1) kd_0 rfl) dX7_feed_46 ?_
    refine r_il5 dX7_feed_49 ?_
    refine r_cVV1 B cb_X5_append lk_X7_63 cv_X5_append kd_1 (c_X5_append (xl x) E hp4 mμ7 h) rfl rfl dX7_feed_51 (fun μ8 mμ8 h => ?_)
    refine r_al0 dX7_feed_54 ?_
    refine r_getR B 1 fg_X7_10 kd_0 (kl kd_0) (ρo (off := 1) kd_0 rfl) dX7_feed_55 ?_
    refine r_getIN B fg_X7_67 kd_1 (kl kd_1) dX7_feed_58 ?_
    exact r_iret B hr (mμ8 1 1) mμ8 dX7_feed_61 h
  · have h := h.2 c3
    refine r_iconst dX7_feed_10 ?_
    exact r_iret B hr (inR_k rfl) mμ1 dX7_feed_11 h
set_option maxRecDepth 20000 in
theorem c_X7_accept (l : Launch) (E : Gx) {p0 : Int} {μ : Mem} {Q : Int → Mem → Prop} (hp0 : inR p0) (hμ : okM μ) (h : wp_X7_accept p0 μ Q) : MT l yX7_accept cX7_accept 2 (some .int) E 1 0 0 z0 [rv E 0, iv p0] μ (QI E z0 Q) := by
  refine m_start [some (rv E 0), some (iv p0)] (by decide) rfl rfl rfl (fun x hxl hxc hxs B hr hnm => ?_)
  unfold wp_X7_accept at h
  refine r_al0 dX7_accept_0 ?_
  refine r_iconst dX7_accept_1 ?_
  refine r_putI B fg_X7_314 fp_7_8 kd_0 (kl kd_0) dX7_accept_2 ?_
  refine n_mem (fun μ1 eμ1 => ?_)
  have h := h μ1 eμ1
  have mμ1 : okM μ1 := eqM eμ1 (okM_sI hμ (inR_k rfl))
  refine r_al0 dX7_accept_5 ?_
  refine r_iconst dX7_accept_6 ?_
  refine r_putI B fg_X7_55 fp_7_9 kd_0 (kl kd_0) dX7_accept_7 ?_
  refine n_mem (fun μ2 eμ2 => ?_)
  have h := h μ2 eμ2
  have mμ2 : okM μ2 := eqM eμ2 (okM_sI mμ1 (inR_k rfl))
  refine r_il1 dX7_accept_10 ?_
  exact r_iret B hr hp0 mμ2 dX7_accept_11 h
set_option maxRecDepth 20000 in
theorem c_X7_refuse (l : Launch) (E : Gx) {p0 : Int} {μ : Mem} {Q : Int → Mem → Prop} (hp0 : inR p0) (hμ : okM μ) (h : wp_X7_refuse p0 μ Q) : MT l yX7_refuse cX7_refuse 2 (some .int) E 1 0 0 z0 [rv E 0, iv p0] μ (QI E z0 Q) := by
  refine m_start [some (rv E 0), some (iv p0)] (by decide) rfl rfl rfl (fun x hxl hxc hxs B hr hnm => ?_)
  unfold wp_X7_refuse at h
  refine r_al0 dX7_refuse_0 ?_
  refine r_il1 dX7_refuse_1 ?_
  refine r_putI B fg_X7_314 fp_7_8 kd_0 (kl kd_0) dX7_refuse_2 ?_
  refine n_mem (fun μ1 eμ1 => ?_)
  have h := h μ1 eμ1
  have mμ1 : okM μ1 := eqM eμ1 (okM_sI hμ hp0)
  refine r_al0 dX7_refuse_5 ?_
  refine r_iconst dX7_refuse_6 ?_
  refine r_putI B fg_X7_55 fp_7_9 kd_0 (kl kd_0) dX7_refuse_7 ?_
  refine n_mem (fun μ2 eμ2 => ?_)
  have h := h μ2 eμ2
  have mμ2 : okM μ2 := eqM eμ2 (okM_sI mμ1 (inR_k rfl))
  refine r_iconst dX7_refuse_10 ?_
  exact r_iret B hr (inR_k rfl) mμ2 dX7_refuse_11 h
set_option maxRecDepth 20000 in
theorem t_X7_text_74 {x : Cx} {E : Gx} (B : Bd x E 13 4 "SlipCovers") (hr : (xt x).sig.returnType = (some .int)) {Q : Int → Mem → Prop} {v3 : Int} {μ : Mem} (hv3 : inR v3) (hμ : okM μ) (h : LP2 (wp_X7_text_74 Q) v3 μ) : J cX7_text x E z0 μ 74 [some (rv E 0), none, none, some (iv v3)] [] (MQ (xb x) (QI E z0 Q) (xa x) (xs x) 0 0 (gA E)) := by
  refine LP2_ind (T := fun (v3 : Int) (μ : Mem) => inR v3 → okM μ → J cX7_text x E z0 μ 74 [some (rv E 0), none, none, some (iv v3)] [] (MQ (xb x) (QI E z0 Q) (xa x) (xs x) 0 0 (gA E))) (fun X74 hX74 v3 μ h hv3 hμ => ?_) h hv3 hμ
  unfold wp_X7_text_74 at h
  refine r_il3 dX7_text_74 ?_
  refine r_bipush dX7_text_75 (by decide) ?_
  refine r_icmp_ge 95 dX7_text_77 rfl hv3 (inR_k rfl) (fun c10 => ?_) (fun c10 => ?_)
  · have h := h.1 c10
    refine r_al0 dX7_text_95 ?_
    refine r_getR B 1 fg_X7_10 kd_0 (kl kd_0) (ρo (off := 1) kd_0 rfl) dX7_text_96 ?_
    refine r_al0 dX7_text_99 ?_
    refine r_getR B 22 fg_X7_18 kd_0 (kl kd_0) (ρo (off := 22) kd_0 rfl) dX7_text_100 ?_
    refine r_cVV1 B cb_X5_handOut lk_X7_90 cv_X5_handOut kd_1 (c_X5_handOut (xl x) E hμ h) rfl rfl dX7_text_103 (fun μ11 mμ11 h => ?_)
    refine r_al0 dX7_text_106 ?_
    refine r_getR B 27 fg_X7_30 kd_0 (kl kd_0) (ρo (off := 27) kd_0 rfl) dX7_text_107 ?_
    refine r_cVV0 B cb_X4_forget lk_X7_94 cv_X4_forget kd_27 (c_X4_forget (xl x) E mμ11 h) rfl rfl dX7_text_110 (fun μ12 mμ12 h => ?_)
    refine r_al0 dX7_text_113 ?_
    refine r_al0 dX7_text_114 ?_
    refine r_getR B 1 fg_X7_10 kd_0 (kl kd_0) (ρo (off := 1) kd_0 rfl) dX7_text_115 ?_
    refine r_getIN B fg_X7_97 kd_1 (kl kd_1) dX7_text_118 ?_
    refine r_cVI1 B cb_X7_accept lk_X7_100 cv_X7_accept kd_0 (c_X7_accept (xl x) E (mμ12 1 11) mμ12 h) rfl rfl dX7_text_121 (fun r14 μ13 hr14 mμ13 h => ?_)
    exact r_iret B hr hr14 mμ13 dX7_text_124 h
  · have h := h.2 c10
    refine r_al0 dX7_text_80 ?_
    refine r_getR B 22 fg_X7_18 kd_0 (kl kd_0) (ρo (off := 22) kd_0 rfl) dX7_text_81 ?_
    refine r_il3 dX7_text_84 ?_
    obtain ⟨o15, h⟩ := h
    refine r_aald B _ kd_22 (kl kd_22) (by decide) o15 (ρa (b := 83) kd_22 rfl) dX7_text_85 ?_
    refine r_cVV0 B cb_X1_clear lk_X7_87 cv_X1_clear ((isC_codesI o15)).1 (c_X1_clear (xl x) E (isC_codesI o15) hμ h) rfl rfl dX7_text_86 (fun μ16 mμ16 h => ?_)
    refine r_inc3 dX7_text_89 rfl ?_
    obtain ⟨o17, h⟩ := h
    refine r_goto 74 dX7_text_92 rfl ?_
    exact J_weak (hX74 (v3 + 1) μ16 h o17 mμ16) (⟨rfl, ⟨rfl, trivial⟩⟩)
set_option maxRecDepth 20000 in
theorem c_X7_text (l : Launch) (E : Gx) {p0 : Int} {μ : Mem} {Q : Int → Mem → Prop} (hp0 : inR p0) (hμ : okM μ) (h : wp_X7_text p0 μ Q) : MT l yX7_text cX7_text 4 (some .int) E 13 0 0 z0 [rv E 0, iv p0] μ (QI E z0 Q) := by
  refine m_start [some (rv E 0), some (iv p0), none, none] (by decide) rfl rfl rfl (fun x hxl hxc hxs B hr hnm => ?_)
  unfold wp_X7_text at h
  refine r_il1 dX7_text_0 ?_
  refine r_if_lt 15 dX7_text_1 rfl hp0 (fun c1 => ?_) (fun c1 => ?_)
  · have h := h.1 c1
    refine r_al0 dX7_text_15 ?_
    refine r_iconst dX7_text_16 ?_
    refine r_cVI1 B cb_X7_refuse lk_X7_70 cv_X7_refuse kd_0 (c_X7_refuse (xl x) E (inR_k rfl) hμ h) rfl rfl dX7_text_17 (fun r3 μ2 hr3 mμ2 h => ?_)
    exact r_iret B hr hr3 mμ2 dX7_text_20 h
  · have h := h.2 c1
    refine r_il1 dX7_text_4 ?_
    refine r_al0 dX7_text_5 ?_
    refine r_getR B 1 fg_X7_10 kd_0 (kl kd_0) (ρo (off := 1) kd_0 rfl) dX7_text_6 ?_
    refine r_getIN B fg_X7_67 kd_1 (kl kd_1) dX7_text_9 ?_
    refine r_icmp_le 21 dX7_text_12 rfl hp0 (hμ 1 1) (fun c4 => ?_) (fun c4 => ?_)
    · have h := h.1 c4
      refine r_al0 dX7_text_21 ?_
      refine r_getR B 1 fg_X7_10 kd_0 (kl kd_0) (ρo (off := 1) kd_0 rfl) dX7_text_22 ?_
      refine r_il1 dX7_text_25 ?_
      refine r_cVI1 B cb_X5_read lk_X7_74 cv_X5_read kd_1 (c_X5_read (xl x) E hp0 hμ h) rfl rfl dX7_text_26 (fun r6 μ5 hr6 mμ5 h => ?_)
      refine r_is2 dX7_text_29 rfl ?_
      refine r_al0 dX7_text_30 ?_
      refine r_getR B 1 fg_X7_10 kd_0 (kl kd_0) (ρo (off := 1) kd_0 rfl) dX7_text_31 ?_
      refine r_iconst dX7_text_34 ?_
      refine r_putIN B fg_X7_67 fp_5_1 kd_1 (kl kd_1) dX7_text_35 ?_
      refine n_mem (fun μ7 eμ7 => ?_)
      have h := h μ7 eμ7
      have mμ7 : okM μ7 := eqM eμ7 (okM_sI mμ5 (inR_k rfl))
      refine r_al0 dX7_text_38 ?_
      refine r_al0 dX7_text_39 ?_
      refine r_getR B 1 fg_X7_10 kd_0 (kl kd_0) (ρo (off := 1) kd_0 rfl) dX7_text_40 ?_
      refine r_getIN B fg_X7_78 kd_1 (kl kd_1) dX7_text_43 ?_
      refine r_putI B fg_X7_81 fp_7_7 kd_0 (kl kd_0) dX7_text_46 ?_
      refine n_mem (fun μ8 eμ8 => ?_)
      have h := h μ8 eμ8
      have mμ8 : okM μ8 := eqM eμ8 (okM_sI mμ7 (mμ7 1 6))
      refine r_il2 dX7_text_49 ?_
      refine r_if_ne 72 dX7_text_50 rfl hr6 (fun c9 => ?_) (fun c9 => ?_)
      · have h := h.1 c9
        refine r_iconst dX7_text_72 ?_
        refine r_is3 dX7_text_73 rfl ?_
        exact J_weak (t_X7_text_74 B hr (inR_k rfl) mμ8 h) (⟨rfl, ⟨rfl, trivial⟩⟩)
      · have h := h.2 c9
        refine r_al0 dX7_text_53 ?_
        refine r_iconst dX7_text_54 ?_
        refine r_cVI1 B cb_X7_refuse lk_X7_70 cv_X7_refuse kd_0 (c_X7_refuse (xl x) E (inR_k rfl) mμ8 h) rfl rfl dX7_text_55 (fun r19 μ18 hr19 mμ18 h => ?_)
        refine r_pop rfl dX7_text_58 ?_
        refine r_al0 dX7_text_59 ?_
        refine r_al0 dX7_text_60 ?_
        refine r_getR B 1 fg_X7_10 kd_0 (kl kd_0) (ρo (off := 1) kd_0 rfl) dX7_text_61 ?_
        refine r_getIN B fg_X7_84 kd_1 (kl kd_1) dX7_text_64 ?_
        refine r_putI B fg_X7_55 fp_7_9 kd_0 (kl kd_0) dX7_text_67 ?_
        refine n_mem (fun μ20 eμ20 => ?_)
        have h := h μ20 eμ20
        have mμ20 : okM μ20 := eqM eμ20 (okM_sI mμ18 (mμ18 1 3))
        refine r_iconst dX7_text_70 ?_
        exact r_iret B hr (inR_k rfl) mμ20 dX7_text_71 h
    · have h := h.2 c4
      refine r_al0 dX7_text_15 ?_
      refine r_iconst dX7_text_16 ?_
      refine r_cVI1 B cb_X7_refuse lk_X7_70 cv_X7_refuse kd_0 (c_X7_refuse (xl x) E (inR_k rfl) hμ h) rfl rfl dX7_text_17 (fun r22 μ21 hr22 mμ21 h => ?_)
      exact r_iret B hr hr22 mμ21 dX7_text_20 h
set_option maxRecDepth 20000 in
theorem c_X7_fault (l : Launch) (E : Gx) {μ : Mem} {Q : Int → Mem → Prop} (hμ : okM μ) (h : wp_X7_fault  μ Q) : MT l yX7_fault cX7_fault 1 (some .int) E 1 0 0 z0 [rv E 0] μ (QI E z0 Q) := by
  refine m_start [some (rv E 0)] (by decide) rfl rfl rfl (fun x hxl hxc hxs B hr hnm => ?_)
  unfold wp_X7_fault at h
  refine r_al0 dX7_fault_0 ?_
  refine r_getI B fg_X7_81 kd_0 (kl kd_0) dX7_fault_1 ?_
  exact r_iret B hr (hμ 0 7) hμ dX7_fault_4 h
set_option maxRecDepth 20000 in
theorem c_X7_where (l : Launch) (E : Gx) {μ : Mem} {Q : Int → Mem → Prop} (hμ : okM μ) (h : wp_X7_where  μ Q) : MT l yX7_where cX7_where 1 (some .int) E 1 0 0 z0 [rv E 0] μ (QI E z0 Q) := by
  refine m_start [some (rv E 0)] (by decide) rfl rfl rfl (fun x hxl hxc hxs B hr hnm => ?_)
  unfold wp_X7_where at h
  refine r_al0 dX7_where_0 ?_
  refine r_getI B fg_X7_55 kd_0 (kl kd_0) dX7_where_1 ?_
  exact r_iret B hr (hμ 0 9) hμ dX7_where_4 h
set_option maxRecDepth 20000 in
theorem c_X7_isSlot (l : Launch) (E : Gx) {p0 : Int} {μ : Mem} {Q : Int → Mem → Prop} (hp0 : inR p0) (hμ : okM μ) (h : wp_X7_isSlot p0 μ Q) : MT l yX7_isSlot cX7_isSlot 1 (some .boolean) E 1 0 0 z0 [iv p0] μ (QI E z0 Q) := by
  refine m_start [some (iv p0)] (by decide) rfl rfl rfl (fun x hxl hxc hxs B hr hnm => ?_)
  unfold wp_X7_isSlot at h
  refine r_il0 dX7_isSlot_0 ?_
  refine r_if_lt 14 dX7_isSlot_1 rfl hp0 (fun c1 => ?_) (fun c1 => ?_)
  · have h := h.1 c1
    refine r_iconst dX7_isSlot_14 ?_
    exact r_zret B hr (Or.inl rfl) hμ dX7_isSlot_15 h
  · have h := h.2 c1
    refine r_il0 dX7_isSlot_4 ?_
    refine r_bipush dX7_isSlot_5 (by decide) ?_
    refine r_icmp_ge 14 dX7_isSlot_7 rfl hp0 (inR_k rfl) (fun c2 => ?_) (fun c2 => ?_)
    · have h := h.1 c2
      refine r_iconst dX7_isSlot_14 ?_
      exact r_zret B hr (Or.inl rfl) hμ dX7_isSlot_15 h
    · have h := h.2 c2
      refine r_iconst dX7_isSlot_10 ?_
      refine r_goto 15 dX7_isSlot_11 rfl ?_
      exact r_zret B hr (Or.inr rfl) hμ dX7_isSlot_15 h
set_option maxRecDepth 20000 in
theorem c_X7_isCode (l : Launch) (E : Gx) {p0 : Int} {μ : Mem} {Q : Int → Mem → Prop} (hp0 : inR p0) (hμ : okM μ) (h : wp_X7_isCode p0 μ Q) : MT l yX7_isCode cX7_isCode 2 (some .boolean) E 2 0 0 z0 [rv E 0, iv p0] μ (QI E z0 Q) := by
  refine m_start [some (rv E 0), some (iv p0)] (by decide) rfl rfl rfl (fun x hxl hxc hxs B hr hnm => ?_)
  unfold wp_X7_isCode at h
  refine r_il1 dX7_isCode_0 ?_
  refine r_cSI1 B cb_X7_isSlot lk_X7_239 cs_X7_isSlot (c_X7_isSlot (xl x) E hp0 hμ h) rfl rfl dX7_isCode_1 (fun r2 μ1 hr2 mμ1 h => ?_)
  refine r_if_eq 23 dX7_isCode_4 rfl hr2 (fun c3 => ?_) (fun c3 => ?_)
  · have h := h.1 c3
    refine r_iconst dX7_isCode_23 ?_
    exact r_zret B hr (Or.inl rfl) mμ1 dX7_isCode_24 h
  · have h := h.2 c3
    refine r_al0 dX7_isCode_7 ?_
    refine r_getR B 22 fg_X7_18 kd_0 (kl kd_0) (ρo (off := 22) kd_0 rfl) dX7_isCode_8 ?_
    refine r_il1 dX7_isCode_11 ?_
    obtain ⟨o4, h⟩ := h
    refine r_aald B _ kd_22 (kl kd_22) (by decide) o4 (ρa (b := 83) kd_22 rfl) dX7_isCode_12 ?_
    refine r_getIN B fg_X7_321 ((isC_codesI o4)).1 (kl ((isC_codesI o4)).1) dX7_isCode_13 ?_
    refine r_if_eq 23 dX7_isCode_16 rfl (mμ1 (83 + 4 * p0.toNat) 0) (fun c5 => ?_) (fun c5 => ?_)
    · have h := h.1 c5
      refine r_iconst dX7_isCode_23 ?_
      exact r_zret B hr (Or.inl rfl) mμ1 dX7_isCode_24 h
    · have h := h.2 c5
      refine r_iconst dX7_isCode_19 ?_
      refine r_goto 24 dX7_isCode_20 rfl ?_
      exact r_zret B hr (Or.inr rfl) mμ1 dX7_isCode_24 h
set_option maxRecDepth 20000 in
theorem c_X7_aspect (l : Launch) (E : Gx) {p0 : Nat} {p1 : Int} {μ : Mem} {Q : Int → Mem → Prop} (hp0 : isC p0) (hp1 : inR p1) (hμ : okM μ) (h : wp_X7_aspect p0 p1 μ Q) : MT l yX7_aspect cX7_aspect 3 (some .int) E 5 0 0 z0 [rv E 0, rv E p0, iv p1] μ (QI E z0 Q) := by
  refine m_start [some (rv E 0), some (rv E p0), some (iv p1)] (by decide) rfl rfl rfl (fun x hxl hxc hxs B hr hnm => ?_)
  unfold wp_X7_aspect at h
  refine r_il2 dX7_aspect_0 ?_
  by_cases q0 : p1 = 0
  · have h := h.1 q0
    refine r_tblI (off := 35) 36 dX7_aspect_1 hp1 (by omega) (by omega) (by rw [q0]; rfl) rfl ?_
    refine r_al1 dX7_aspect_36 ?_
    refine r_getIN B fg_X7_269 (hp0).1 (kl (hp0).1) dX7_aspect_37 ?_
    exact r_iret B hr (hμ p0 1) hμ dX7_aspect_40 h
  by_cases q1 : p1 = 1
  · have h := h.2.1 q1
    refine r_tblI (off := 40) 41 dX7_aspect_1 hp1 (by omega) (by omega) (by rw [q1]; rfl) rfl ?_
    refine r_al1 dX7_aspect_41 ?_
    refine r_getIN B fg_X7_211 (hp0).1 (kl (hp0).1) dX7_aspect_42 ?_
    exact r_iret B hr (hμ p0 2) hμ dX7_aspect_45 h
  by_cases q2 : p1 = 2
  · have h := h.2.2.1 q2
    refine r_tblI (off := 45) 46 dX7_aspect_1 hp1 (by omega) (by omega) (by rw [q2]; rfl) rfl ?_
    refine r_al1 dX7_aspect_46 ?_
    refine r_getIN B fg_X7_185 (hp0).1 (kl (hp0).1) dX7_aspect_47 ?_
    exact r_iret B hr (hμ p0 3) hμ dX7_aspect_50 h
  by_cases q3 : p1 = 3
  · have h := h.2.2.2.1 q3
    refine r_tblI (off := 50) 51 dX7_aspect_1 hp1 (by omega) (by omega) (by rw [q3]; rfl) rfl ?_
    refine r_al1 dX7_aspect_51 ?_
    refine r_cVI0 B cb_X1_allWeights lk_X7_328 cv_X1_allWeights (hp0).1 (c_X1_allWeights (xl x) E hp0 hμ h) rfl rfl dX7_aspect_52 (fun r2 μ1 hr2 mμ1 h => ?_)
    exact r_iret B hr hr2 mμ1 dX7_aspect_55 h
  by_cases q4 : p1 = 4
  · have h := h.2.2.2.2.1 q4
    refine r_tblI (off := 55) 56 dX7_aspect_1 hp1 (by omega) (by omega) (by rw [q4]; rfl) rfl ?_
    refine r_al0 dX7_aspect_56 ?_
    refine r_getR B 70 fg_X7_37 kd_0 (kl kd_0) (ρo (off := 70) kd_0 rfl) dX7_aspect_57 ?_
    refine r_al1 dX7_aspect_60 ?_
    refine r_cVV1 B cb_X3_lay lk_X7_130 cv_X3_lay kd_70 (c_X3_lay (xl x) E hp0 hμ h) rfl rfl dX7_aspect_61 (fun μ3 mμ3 h => ?_)
    refine r_al1 dX7_aspect_64 ?_
    refine r_getIN B fg_X7_185 (hp0).1 (kl (hp0).1) dX7_aspect_65 ?_
    refine r_iconst dX7_aspect_68 ?_
    refine r_icmp_ge 77 dX7_aspect_69 rfl (mμ3 p0 3) (inR_k rfl) (fun c4 => ?_) (fun c4 => ?_)
    · have h := h.1 c4
      refine r_al0 dX7_aspect_77 ?_
      refine r_getR B 70 fg_X7_37 kd_0 (kl kd_0) (ρo (off := 70) kd_0 rfl) dX7_aspect_78 ?_
      refine r_al1 dX7_aspect_81 ?_
      refine r_cVI1 B cb_X3_radius lk_X7_331 cv_X3_radius kd_70 (c_X3_radius (xl x) E hp0 mμ3 h) rfl rfl dX7_aspect_82 (fun r6 μ5 hr6 mμ5 h => ?_)
      exact r_iret B hr hr6 mμ5 dX7_aspect_85 h
    · have h := h.2 c4
      refine r_bipush dX7_aspect_72 (by decide) ?_
      refine r_goto 85 dX7_aspect_74 rfl ?_
      exact r_iret B hr (inR_k rfl) mμ3 dX7_aspect_85 h
  have q : p1 < 0 ∨ 4 < p1 := by omega
  have h := h.2.2.2.2.2 q
  refine r_tblO 86 dX7_aspect_1 hp1 q rfl ?_
  refine r_al0 dX7_aspect_86 ?_
  refine r_getR B 70 fg_X7_37 kd_0 (kl kd_0) (ρo (off := 70) kd_0 rfl) dX7_aspect_87 ?_
  refine r_al1 dX7_aspect_90 ?_
  refine r_cVV1 B cb_X3_lay lk_X7_130 cv_X3_lay kd_70 (c_X3_lay (xl x) E hp0 hμ h) rfl rfl dX7_aspect_91 (fun μ7 mμ7 h => ?_)
  refine r_al1 dX7_aspect_94 ?_
  refine r_getIN B fg_X7_185 (hp0).1 (kl (hp0).1) dX7_aspect_95 ?_
  refine r_iconst dX7_aspect_98 ?_
  refine r_icmp_ge 107 dX7_aspect_99 rfl (mμ7 p0 3) (inR_k rfl) (fun c8 => ?_) (fun c8 => ?_)
  · have h := h.1 c8
    refine r_al0 dX7_aspect_107 ?_
    refine r_getR B 70 fg_X7_37 kd_0 (kl kd_0) (ρo (off := 70) kd_0 rfl) dX7_aspect_108 ?_
    refine r_al1 dX7_aspect_111 ?_
    refine r_cVI1 B cb_X3_leastApart lk_X7_334 cv_X3_leastApart kd_70 (c_X3_leastApart (xl x) E hp0 mμ7 h) rfl rfl dX7_aspect_112 (fun r10 μ9 hr10 mμ9 h => ?_)
    exact r_iret B hr hr10 mμ9 dX7_aspect_115 h
  · have h := h.2 c8
    refine r_bipush dX7_aspect_102 (by decide) ?_
    refine r_goto 115 dX7_aspect_104 rfl ?_
    exact r_iret B hr (inR_k rfl) mμ7 dX7_aspect_115 h
set_option maxRecDepth 20000 in
theorem c_X7_about (l : Launch) (E : Gx) {p0 : Int} {p1 : Int} {μ : Mem} {Q : Int → Mem → Prop} (hp0 : inR p0) (hp1 : inR p1) (hμ : okM μ) (h : wp_X7_about p0 p1 μ Q) : MT l yX7_about cX7_about 3 (some .int) E 6 0 0 z0 [rv E 0, iv p0, iv p1] μ (QI E z0 Q) := by
  refine m_start [some (rv E 0), some (iv p0), some (iv p1)] (by decide) rfl rfl rfl (fun x hxl hxc hxs B hr hnm => ?_)
  unfold wp_X7_about at h
  refine r_al0 dX7_about_0 ?_
  refine r_il1 dX7_about_1 ?_
  refine r_cVI1 B cb_X7_isCode lk_X7_103 cv_X7_isCode kd_0 (c_X7_isCode (xl x) E hp0 hμ h) rfl rfl dX7_about_2 (fun r2 μ1 hr2 mμ1 h => ?_)
  refine r_if_eq 17 dX7_about_5 rfl hr2 (fun c3 => ?_) (fun c3 => ?_)
  · have h := h.1 c3
    refine r_al0 dX7_about_17 ?_
    refine r_iconst dX7_about_18 ?_
    refine r_cVI1 B cb_X7_refuse lk_X7_70 cv_X7_refuse kd_0 (c_X7_refuse (xl x) E (inR_k rfl) mμ1 h) rfl rfl dX7_about_19 (fun r5 μ4 hr5 mμ4 h => ?_)
    exact r_iret B hr hr5 mμ4 dX7_about_22 h
  · have h := h.2 c3
    refine r_il2 dX7_about_8 ?_
    refine r_if_lt 17 dX7_about_9 rfl hp1 (fun c6 => ?_) (fun c6 => ?_)
    · have h := h.1 c6
      refine r_al0 dX7_about_17 ?_
      refine r_iconst dX7_about_18 ?_
      refine r_cVI1 B cb_X7_refuse lk_X7_70 cv_X7_refuse kd_0 (c_X7_refuse (xl x) E (inR_k rfl) mμ1 h) rfl rfl dX7_about_19 (fun r8 μ7 hr8 mμ7 h => ?_)
      exact r_iret B hr hr8 mμ7 dX7_about_22 h
    · have h := h.2 c6
      refine r_il2 dX7_about_12 ?_
      refine r_iconst dX7_about_13 ?_
      refine r_icmp_le 23 dX7_about_14 rfl hp1 (inR_k rfl) (fun c9 => ?_) (fun c9 => ?_)
      · have h := h.1 c9
        refine r_al0 dX7_about_23 ?_
        refine r_al0 dX7_about_24 ?_
        refine r_al0 dX7_about_25 ?_
        refine r_getR B 22 fg_X7_18 kd_0 (kl kd_0) (ρo (off := 22) kd_0 rfl) dX7_about_26 ?_
        refine r_il1 dX7_about_29 ?_
        obtain ⟨o10, h⟩ := h
        refine r_aald B _ kd_22 (kl kd_22) (by decide) o10 (ρa (b := 83) kd_22 rfl) dX7_about_30 ?_
        refine r_il2 dX7_about_31 ?_
        refine r_cVI2 B cb_X7_aspect lk_X7_106 cv_X7_aspect kd_0 (c_X7_aspect (xl x) E (isC_codesI o10) hp1 mμ1 h) rfl rfl dX7_about_32 (fun r12 μ11 hr12 mμ11 h => ?_)
        refine r_cVI1 B cb_X7_accept lk_X7_100 cv_X7_accept kd_0 (c_X7_accept (xl x) E hr12 mμ11 h) rfl rfl dX7_about_35 (fun r14 μ13 hr14 mμ13 h => ?_)
        exact r_iret B hr hr14 mμ13 dX7_about_38 h
      · have h := h.2 c9
        refine r_al0 dX7_about_17 ?_
        refine r_iconst dX7_about_18 ?_
        refine r_cVI1 B cb_X7_refuse lk_X7_70 cv_X7_refuse kd_0 (c_X7_refuse (xl x) E (inR_k rfl) mμ1 h) rfl rfl dX7_about_19 (fun r16 μ15 hr16 mμ15 h => ?_)
        exact r_iret B hr hr16 mμ15 dX7_about_22 h
set_option maxRecDepth 20000 in
theorem c_X7_isPlace (l : Launch) (E : Gx) {p0 : Int} {p1 : Int} {μ : Mem} {Q : Int → Mem → Prop} (hp0 : inR p0) (hp1 : inR p1) (hμ : okM μ) (h : wp_X7_isPlace p0 p1 μ Q) : MT l yX7_isPlace cX7_isPlace 3 (some .boolean) E 3 0 0 z0 [rv E 0, iv p0, iv p1] μ (QI E z0 Q) := by
  refine m_start [some (rv E 0), some (iv p0), some (iv p1)] (by decide) rfl rfl rfl (fun x hxl hxc hxs B hr hnm => ?_)
  unfold wp_X7_isPlace at h
  refine r_al0 dX7_isPlace_0 ?_
  refine r_il1 dX7_isPlace_1 ?_
  refine r_cVI1 B cb_X7_isCode lk_X7_103 cv_X7_isCode kd_0 (c_X7_isCode (xl x) E hp0 hμ h) rfl rfl dX7_isPlace_2 (fun r2 μ1 hr2 mμ1 h => ?_)
  refine r_if_eq 29 dX7_isPlace_5 rfl hr2 (fun c3 => ?_) (fun c3 => ?_)
  · have h := h.1 c3
    refine r_iconst dX7_isPlace_29 ?_
    exact r_zret B hr (Or.inl rfl) mμ1 dX7_isPlace_30 h
  · have h := h.2 c3
    refine r_il2 dX7_isPlace_8 ?_
    refine r_if_lt 29 dX7_isPlace_9 rfl hp1 (fun c4 => ?_) (fun c4 => ?_)
    · have h := h.1 c4
      refine r_iconst dX7_isPlace_29 ?_
      exact r_zret B hr (Or.inl rfl) mμ1 dX7_isPlace_30 h
    · have h := h.2 c4
      refine r_il2 dX7_isPlace_12 ?_
      refine r_al0 dX7_isPlace_13 ?_
      refine r_getR B 22 fg_X7_18 kd_0 (kl kd_0) (ρo (off := 22) kd_0 rfl) dX7_isPlace_14 ?_
      refine r_il1 dX7_isPlace_17 ?_
      obtain ⟨o5, h⟩ := h
      refine r_aald B _ kd_22 (kl kd_22) (by decide) o5 (ρa (b := 83) kd_22 rfl) dX7_isPlace_18 ?_
      refine r_getIN B fg_X7_269 ((isC_codesI o5)).1 (kl ((isC_codesI o5)).1) dX7_isPlace_19 ?_
      refine r_icmp_ge 29 dX7_isPlace_22 rfl hp1 (mμ1 (83 + 4 * p0.toNat) 1) (fun c6 => ?_) (fun c6 => ?_)
      · have h := h.1 c6
        refine r_iconst dX7_isPlace_29 ?_
        exact r_zret B hr (Or.inl rfl) mμ1 dX7_isPlace_30 h
      · have h := h.2 c6
        refine r_iconst dX7_isPlace_25 ?_
        refine r_goto 30 dX7_isPlace_26 rfl ?_
        exact r_zret B hr (Or.inr rfl) mμ1 dX7_isPlace_30 h
set_option maxRecDepth 20000 in
theorem c_X7_place (l : Launch) (E : Gx) {p0 : Int} {p1 : Int} {p2 : Int} {μ : Mem} {Q : Int → Mem → Prop} (hp0 : inR p0) (hp1 : inR p1) (hp2 : inR p2) (hμ : okM μ) (h : wp_X7_place p0 p1 p2 μ Q) : MT l yX7_place cX7_place 4 (some .int) E 4 0 0 z0 [rv E 0, iv p0, iv p1, iv p2] μ (QI E z0 Q) := by
  refine m_start [some (rv E 0), some (iv p0), some (iv p1), some (iv p2)] (by decide) rfl rfl rfl (fun x hxl hxc hxs B hr hnm => ?_)
  unfold wp_X7_place at h
  refine r_al0 dX7_place_0 ?_
  refine r_il1 dX7_place_1 ?_
  refine r_il2 dX7_place_2 ?_
  refine r_cVI2 B cb_X7_isPlace lk_X7_110 cv_X7_isPlace kd_0 (c_X7_isPlace (xl x) E hp0 hp1 hμ h) rfl rfl dX7_place_3 (fun r2 μ1 hr2 mμ1 h => ?_)
  refine r_if_eq 18 dX7_place_6 rfl hr2 (fun c3 => ?_) (fun c3 => ?_)
  · have h := h.1 c3
    refine r_al0 dX7_place_18 ?_
    refine r_iconst dX7_place_19 ?_
    refine r_cVI1 B cb_X7_refuse lk_X7_70 cv_X7_refuse kd_0 (c_X7_refuse (xl x) E (inR_k rfl) mμ1 h) rfl rfl dX7_place_20 (fun r5 μ4 hr5 mμ4 h => ?_)
    exact r_iret B hr hr5 mμ4 dX7_place_23 h
  · have h := h.2 c3
    refine r_il3 dX7_place_9 ?_
    refine r_if_lt 18 dX7_place_10 rfl hp2 (fun c6 => ?_) (fun c6 => ?_)
    · have h := h.1 c6
      refine r_al0 dX7_place_18 ?_
      refine r_iconst dX7_place_19 ?_
      refine r_cVI1 B cb_X7_refuse lk_X7_70 cv_X7_refuse kd_0 (c_X7_refuse (xl x) E (inR_k rfl) mμ1 h) rfl rfl dX7_place_20 (fun r8 μ7 hr8 mμ7 h => ?_)
      exact r_iret B hr hr8 mμ7 dX7_place_23 h
    · have h := h.2 c6
      refine r_il3 dX7_place_13 ?_
      refine r_iconst dX7_place_14 ?_
      refine r_icmp_le 24 dX7_place_15 rfl hp2 (inR_k rfl) (fun c9 => ?_) (fun c9 => ?_)
      · have h := h.1 c9
        refine r_al0 dX7_place_24 ?_
        refine r_il3 dX7_place_25 ?_
        refine r_if_ne 43 dX7_place_26 rfl hp2 (fun c10 => ?_) (fun c10 => ?_)
        · have h := h.1 c10
          refine r_al0 dX7_place_43 ?_
          refine r_getR B 22 fg_X7_18 kd_0 (kl kd_0) (ρo (off := 22) kd_0 rfl) dX7_place_44 ?_
          refine r_il1 dX7_place_47 ?_
          obtain ⟨o11, h⟩ := h
          refine r_aald B _ kd_22 (kl kd_22) (by decide) o11 (ρa (b := 83) kd_22 rfl) dX7_place_48 ?_
          refine r_getRN B ((83 + 4 * p0.toNat) + 2) fg_X7_118 ((isC_codesI o11)).1 (kl ((isC_codesI o11)).1) (ρo (off := 2) ((isC_codesI o11)).1 rfl) dX7_place_49 ?_
          refine r_il2 dX7_place_52 ?_
          obtain ⟨o12, h⟩ := h
          refine r_iald B ((isC_codesI o11)).2.2.1 (kl ((isC_codesI o11)).2.2.1) (by decide) o12 dX7_place_53 ?_
          refine r_cVI1 B cb_X7_accept lk_X7_100 cv_X7_accept kd_0 (c_X7_accept (xl x) E (mμ1 _ _) mμ1 h) rfl rfl dX7_place_54 (fun r14 μ13 hr14 mμ13 h => ?_)
          exact r_iret B hr hr14 mμ13 dX7_place_57 h
        · have h := h.2 c10
          refine r_al0 dX7_place_29 ?_
          refine r_getR B 22 fg_X7_18 kd_0 (kl kd_0) (ρo (off := 22) kd_0 rfl) dX7_place_30 ?_
          refine r_il1 dX7_place_33 ?_
          obtain ⟨o15, h⟩ := h
          refine r_aald B _ kd_22 (kl kd_22) (by decide) o15 (ρa (b := 83) kd_22 rfl) dX7_place_34 ?_
          refine r_getRN B ((83 + 4 * p0.toNat) + 1) fg_X7_114 ((isC_codesI o15)).1 (kl ((isC_codesI o15)).1) (ρo (off := 1) ((isC_codesI o15)).1 rfl) dX7_place_35 ?_
          refine r_il2 dX7_place_38 ?_
          obtain ⟨o16, h⟩ := h
          refine r_iald B ((isC_codesI o15)).2.1 (kl ((isC_codesI o15)).2.1) (by decide) o16 dX7_place_39 ?_
          refine r_goto 54 dX7_place_40 rfl ?_
          refine r_cVI1 B cb_X7_accept lk_X7_100 cv_X7_accept kd_0 (c_X7_accept (xl x) E (mμ1 _ _) mμ1 h) rfl rfl dX7_place_54 (fun r18 μ17 hr18 mμ17 h => ?_)
          exact r_iret B hr hr18 mμ17 dX7_place_57 h
      · have h := h.2 c9
        refine r_al0 dX7_place_18 ?_
        refine r_iconst dX7_place_19 ?_
        refine r_cVI1 B cb_X7_refuse lk_X7_70 cv_X7_refuse kd_0 (c_X7_refuse (xl x) E (inR_k rfl) mμ1 h) rfl rfl dX7_place_20 (fun r20 μ19 hr20 mμ19 h => ?_)
        exact r_iret B hr hr20 mμ19 dX7_place_23 h
set_option maxRecDepth 20000 in
theorem c_X7_word (l : Launch) (E : Gx) {p0 : Int} {p1 : Int} {μ : Mem} {Q : Int → Mem → Prop} (hp0 : inR p0) (hp1 : inR p1) (hμ : okM μ) (h : wp_X7_word p0 p1 μ Q) : MT l yX7_word cX7_word 3 (some .int) E 3 0 0 z0 [rv E 0, iv p0, iv p1] μ (QI E z0 Q) := by
  refine m_start [some (rv E 0), some (iv p0), some (iv p1)] (by decide) rfl rfl rfl (fun x hxl hxc hxs B hr hnm => ?_)
  unfold wp_X7_word at h
  refine r_al0 dX7_word_0 ?_
  refine r_il1 dX7_word_1 ?_
  refine r_cVI1 B cb_X7_isCode lk_X7_103 cv_X7_isCode kd_0 (c_X7_isCode (xl x) E hp0 hμ h) rfl rfl dX7_word_2 (fun r2 μ1 hr2 mμ1 h => ?_)
  refine r_if_eq 12 dX7_word_5 rfl hr2 (fun c3 => ?_) (fun c3 => ?_)
  · have h := h.1 c3
    refine r_al0 dX7_word_12 ?_
    refine r_iconst dX7_word_13 ?_
    refine r_cVI1 B cb_X7_refuse lk_X7_70 cv_X7_refuse kd_0 (c_X7_refuse (xl x) E (inR_k rfl) mμ1 h) rfl rfl dX7_word_14 (fun r5 μ4 hr5 mμ4 h => ?_)
    exact r_iret B hr hr5 mμ4 dX7_word_17 h
  · have h := h.2 c3
    refine r_il2 dX7_word_8 ?_
    refine r_if_ge 18 dX7_word_9 rfl hp1 (fun c6 => ?_) (fun c6 => ?_)
    · have h := h.1 c6
      refine r_al0 dX7_word_18 ?_
      refine r_al0 dX7_word_19 ?_
      refine r_getR B 22 fg_X7_18 kd_0 (kl kd_0) (ρo (off := 22) kd_0 rfl) dX7_word_20 ?_
      refine r_il1 dX7_word_23 ?_
      obtain ⟨o7, h⟩ := h
      refine r_aald B _ kd_22 (kl kd_22) (by decide) o7 (ρa (b := 83) kd_22 rfl) dX7_word_24 ?_
      refine r_il2 dX7_word_25 ?_
      refine r_cVI1 B cb_X1_codeword lk_X7_121 cv_X1_codeword ((isC_codesI o7)).1 (c_X1_codeword (xl x) E (isC_codesI o7) hp1 mμ1 h) rfl rfl dX7_word_26 (fun r9 μ8 hr9 mμ8 h => ?_)
      refine r_cVI1 B cb_X7_accept lk_X7_100 cv_X7_accept kd_0 (c_X7_accept (xl x) E hr9 mμ8 h) rfl rfl dX7_word_29 (fun r11 μ10 hr11 mμ10 h => ?_)
      exact r_iret B hr hr11 mμ10 dX7_word_32 h
    · have h := h.2 c6
      refine r_al0 dX7_word_12 ?_
      refine r_iconst dX7_word_13 ?_
      refine r_cVI1 B cb_X7_refuse lk_X7_70 cv_X7_refuse kd_0 (c_X7_refuse (xl x) E (inR_k rfl) mμ1 h) rfl rfl dX7_word_14 (fun r13 μ12 hr13 mμ12 h => ?_)
      exact r_iret B hr hr13 mμ12 dX7_word_17 h
set_option maxRecDepth 20000 in
theorem c_X7_isWord (l : Launch) (E : Gx) {p0 : Int} {p1 : Int} {μ : Mem} {Q : Int → Mem → Prop} (hp0 : inR p0) (hp1 : inR p1) (hμ : okM μ) (h : wp_X7_isWord p0 p1 μ Q) : MT l yX7_isWord cX7_isWord 3 (some .boolean) E 3 0 0 z0 [rv E 0, iv p0, iv p1] μ (QI E z0 Q) := by
  refine m_start [some (rv E 0), some (iv p0), some (iv p1)] (by decide) rfl rfl rfl (fun x hxl hxc hxs B hr hnm => ?_)
  unfold wp_X7_isWord at h
  refine r_al0 dX7_isWord_0 ?_
  refine r_il1 dX7_isWord_1 ?_
  refine r_cVI1 B cb_X7_isCode lk_X7_103 cv_X7_isCode kd_0 (c_X7_isCode (xl x) E hp0 hμ h) rfl rfl dX7_isWord_2 (fun r2 μ1 hr2 mμ1 h => ?_)
  refine r_if_eq 29 dX7_isWord_5 rfl hr2 (fun c3 => ?_) (fun c3 => ?_)
  · have h := h.1 c3
    refine r_iconst dX7_isWord_29 ?_
    exact r_zret B hr (Or.inl rfl) mμ1 dX7_isWord_30 h
  · have h := h.2 c3
    refine r_il2 dX7_isWord_8 ?_
    refine r_if_lt 29 dX7_isWord_9 rfl hp1 (fun c4 => ?_) (fun c4 => ?_)
    · have h := h.1 c4
      refine r_iconst dX7_isWord_29 ?_
      exact r_zret B hr (Or.inl rfl) mμ1 dX7_isWord_30 h
    · have h := h.2 c4
      refine r_il2 dX7_isWord_12 ?_
      refine r_al0 dX7_isWord_13 ?_
      refine r_getR B 22 fg_X7_18 kd_0 (kl kd_0) (ρo (off := 22) kd_0 rfl) dX7_isWord_14 ?_
      refine r_il1 dX7_isWord_17 ?_
      obtain ⟨o5, h⟩ := h
      refine r_aald B _ kd_22 (kl kd_22) (by decide) o5 (ρa (b := 83) kd_22 rfl) dX7_isWord_18 ?_
      refine r_getIN B fg_X7_211 ((isC_codesI o5)).1 (kl ((isC_codesI o5)).1) dX7_isWord_19 ?_
      refine r_icmp_ge 29 dX7_isWord_22 rfl hp1 (mμ1 (83 + 4 * p0.toNat) 2) (fun c6 => ?_) (fun c6 => ?_)
      · have h := h.1 c6
        refine r_iconst dX7_isWord_29 ?_
        exact r_zret B hr (Or.inl rfl) mμ1 dX7_isWord_30 h
      · have h := h.2 c6
        refine r_iconst dX7_isWord_25 ?_
        refine r_goto 30 dX7_isWord_26 rfl ?_
        exact r_zret B hr (Or.inr rfl) mμ1 dX7_isWord_30 h
set_option maxRecDepth 20000 in
theorem c_X7_has (l : Launch) (E : Gx) {p0 : Int} {p1 : Int} {μ : Mem} {Q : Int → Mem → Prop} (hp0 : inR p0) (hp1 : inR p1) (hμ : okM μ) (h : wp_X7_has p0 p1 μ Q) : MT l yX7_has cX7_has 3 (some .int) E 4 0 0 z0 [rv E 0, iv p0, iv p1] μ (QI E z0 Q) := by
  refine m_start [some (rv E 0), some (iv p0), some (iv p1)] (by decide) rfl rfl rfl (fun x hxl hxc hxs B hr hnm => ?_)
  unfold wp_X7_has at h
  refine r_al0 dX7_has_0 ?_
  refine r_il1 dX7_has_1 ?_
  refine r_il2 dX7_has_2 ?_
  refine r_cVI2 B cb_X7_isWord lk_X7_124 cv_X7_isWord kd_0 (c_X7_isWord (xl x) E hp0 hp1 hμ h) rfl rfl dX7_has_3 (fun r2 μ1 hr2 mμ1 h => ?_)
  refine r_if_ne 15 dX7_has_6 rfl hr2 (fun c3 => ?_) (fun c3 => ?_)
  · have h := h.1 c3
    refine r_al0 dX7_has_15 ?_
    refine r_al0 dX7_has_16 ?_
    refine r_getR B 22 fg_X7_18 kd_0 (kl kd_0) (ρo (off := 22) kd_0 rfl) dX7_has_17 ?_
    refine r_il1 dX7_has_20 ?_
    obtain ⟨o4, h⟩ := h
    refine r_aald B _ kd_22 (kl kd_22) (by decide) o4 (ρa (b := 83) kd_22 rfl) dX7_has_21 ?_
    refine r_il2 dX7_has_22 ?_
    refine r_cVI1 B cb_X1_holds lk_X7_127 cv_X1_holds ((isC_codesI o4)).1 (c_X1_holds (xl x) E (isC_codesI o4) hp1 mμ1 h) rfl rfl dX7_has_23 (fun r6 μ5 hr6 mμ5 h => ?_)
    refine r_if_eq 33 dX7_has_26 rfl hr6 (fun c7 => ?_) (fun c7 => ?_)
    · have h := h.1 c7
      refine r_iconst dX7_has_33 ?_
      refine r_cVI1 B cb_X7_accept lk_X7_100 cv_X7_accept kd_0 (c_X7_accept (xl x) E (inR_k rfl) mμ5 h) rfl rfl dX7_has_34 (fun r9 μ8 hr9 mμ8 h => ?_)
      exact r_iret B hr hr9 mμ8 dX7_has_37 h
    · have h := h.2 c7
      refine r_iconst dX7_has_29 ?_
      refine r_goto 34 dX7_has_30 rfl ?_
      refine r_cVI1 B cb_X7_accept lk_X7_100 cv_X7_accept kd_0 (c_X7_accept (xl x) E (inR_k rfl) mμ5 h) rfl rfl dX7_has_34 (fun r11 μ10 hr11 mμ10 h => ?_)
      exact r_iret B hr hr11 mμ10 dX7_has_37 h
  · have h := h.2 c3
    refine r_al0 dX7_has_9 ?_
    refine r_iconst dX7_has_10 ?_
    refine r_cVI1 B cb_X7_refuse lk_X7_70 cv_X7_refuse kd_0 (c_X7_refuse (xl x) E (inR_k rfl) mμ1 h) rfl rfl dX7_has_11 (fun r13 μ12 hr13 mμ12 h => ?_)
    exact r_iret B hr hr13 mμ12 dX7_has_14 h
set_option maxRecDepth 20000 in
theorem c_X7_digit (l : Launch) (E : Gx) {p0 : Int} {p1 : Int} {p2 : Int} {μ : Mem} {Q : Int → Mem → Prop} (hp0 : inR p0) (hp1 : inR p1) (hp2 : inR p2) (hμ : okM μ) (h : wp_X7_digit p0 p1 p2 μ Q) : MT l yX7_digit cX7_digit 4 (some .int) E 4 0 0 z0 [rv E 0, iv p0, iv p1, iv p2] μ (QI E z0 Q) := by
  refine m_start [some (rv E 0), some (iv p0), some (iv p1), some (iv p2)] (by decide) rfl rfl rfl (fun x hxl hxc hxs B hr hnm => ?_)
  unfold wp_X7_digit at h
  refine r_al0 dX7_digit_0 ?_
  refine r_il1 dX7_digit_1 ?_
  refine r_il2 dX7_digit_2 ?_
  refine r_cVI2 B cb_X7_isWord lk_X7_124 cv_X7_isWord kd_0 (c_X7_isWord (xl x) E hp0 hp1 hμ h) rfl rfl dX7_digit_3 (fun r2 μ1 hr2 mμ1 h => ?_)
  refine r_if_eq 18 dX7_digit_6 rfl hr2 (fun c3 => ?_) (fun c3 => ?_)
  · have h := h.1 c3
    refine r_al0 dX7_digit_18 ?_
    refine r_iconst dX7_digit_19 ?_
    refine r_cVI1 B cb_X7_refuse lk_X7_70 cv_X7_refuse kd_0 (c_X7_refuse (xl x) E (inR_k rfl) mμ1 h) rfl rfl dX7_digit_20 (fun r5 μ4 hr5 mμ4 h => ?_)
    exact r_iret B hr hr5 mμ4 dX7_digit_23 h
  · have h := h.2 c3
    refine r_al0 dX7_digit_9 ?_
    refine r_il1 dX7_digit_10 ?_
    refine r_il3 dX7_digit_11 ?_
    refine r_cVI2 B cb_X7_isPlace lk_X7_110 cv_X7_isPlace kd_0 (c_X7_isPlace (xl x) E hp0 hp2 mμ1 h) rfl rfl dX7_digit_12 (fun r7 μ6 hr7 mμ6 h => ?_)
    refine r_if_ne 24 dX7_digit_15 rfl hr7 (fun c8 => ?_) (fun c8 => ?_)
    · have h := h.1 c8
      refine r_al0 dX7_digit_24 ?_
      refine r_getR B 70 fg_X7_37 kd_0 (kl kd_0) (ρo (off := 70) kd_0 rfl) dX7_digit_25 ?_
      refine r_al0 dX7_digit_28 ?_
      refine r_getR B 22 fg_X7_18 kd_0 (kl kd_0) (ρo (off := 22) kd_0 rfl) dX7_digit_29 ?_
      refine r_il1 dX7_digit_32 ?_
      obtain ⟨o9, h⟩ := h
      refine r_aald B _ kd_22 (kl kd_22) (by decide) o9 (ρa (b := 83) kd_22 rfl) dX7_digit_33 ?_
      refine r_cVV1 B cb_X3_lay lk_X7_130 cv_X3_lay kd_70 (c_X3_lay (xl x) E (isC_codesI o9) mμ6 h) rfl rfl dX7_digit_34 (fun μ10 mμ10 h => ?_)
      refine r_al0 dX7_digit_37 ?_
      refine r_al0 dX7_digit_38 ?_
      refine r_getR B 70 fg_X7_37 kd_0 (kl kd_0) (ρo (off := 70) kd_0 rfl) dX7_digit_39 ?_
      refine r_il2 dX7_digit_42 ?_
      refine r_il3 dX7_digit_43 ?_
      refine r_cVI2 B cb_X3_digitAt lk_X7_134 cv_X3_digitAt kd_70 (c_X3_digitAt (xl x) E hp1 hp2 mμ10 h) rfl rfl dX7_digit_44 (fun r12 μ11 hr12 mμ11 h => ?_)
      refine r_cVI1 B cb_X7_accept lk_X7_100 cv_X7_accept kd_0 (c_X7_accept (xl x) E hr12 mμ11 h) rfl rfl dX7_digit_47 (fun r14 μ13 hr14 mμ13 h => ?_)
      exact r_iret B hr hr14 mμ13 dX7_digit_50 h
    · have h := h.2 c8
      refine r_al0 dX7_digit_18 ?_
      refine r_iconst dX7_digit_19 ?_
      refine r_cVI1 B cb_X7_refuse lk_X7_70 cv_X7_refuse kd_0 (c_X7_refuse (xl x) E (inR_k rfl) mμ6 h) rfl rfl dX7_digit_20 (fun r16 μ15 hr16 mμ15 h => ?_)
      exact r_iret B hr hr16 mμ15 dX7_digit_23 h
set_option maxRecDepth 20000 in
theorem c_X7_far (l : Launch) (E : Gx) {p0 : Int} {p1 : Int} {p2 : Int} {μ : Mem} {Q : Int → Mem → Prop} (hp0 : inR p0) (hp1 : inR p1) (hp2 : inR p2) (hμ : okM μ) (h : wp_X7_far p0 p1 p2 μ Q) : MT l yX7_far cX7_far 4 (some .int) E 4 0 0 z0 [rv E 0, iv p0, iv p1, iv p2] μ (QI E z0 Q) := by
  refine m_start [some (rv E 0), some (iv p0), some (iv p1), some (iv p2)] (by decide) rfl rfl rfl (fun x hxl hxc hxs B hr hnm => ?_)
  unfold wp_X7_far at h
  refine r_al0 dX7_far_0 ?_
  refine r_il1 dX7_far_1 ?_
  refine r_il2 dX7_far_2 ?_
  refine r_cVI2 B cb_X7_isWord lk_X7_124 cv_X7_isWord kd_0 (c_X7_isWord (xl x) E hp0 hp1 hμ h) rfl rfl dX7_far_3 (fun r2 μ1 hr2 mμ1 h => ?_)
  refine r_if_eq 18 dX7_far_6 rfl hr2 (fun c3 => ?_) (fun c3 => ?_)
  · have h := h.1 c3
    refine r_al0 dX7_far_18 ?_
    refine r_iconst dX7_far_19 ?_
    refine r_cVI1 B cb_X7_refuse lk_X7_70 cv_X7_refuse kd_0 (c_X7_refuse (xl x) E (inR_k rfl) mμ1 h) rfl rfl dX7_far_20 (fun r5 μ4 hr5 mμ4 h => ?_)
    exact r_iret B hr hr5 mμ4 dX7_far_23 h
  · have h := h.2 c3
    refine r_al0 dX7_far_9 ?_
    refine r_il1 dX7_far_10 ?_
    refine r_il3 dX7_far_11 ?_
    refine r_cVI2 B cb_X7_isWord lk_X7_124 cv_X7_isWord kd_0 (c_X7_isWord (xl x) E hp0 hp2 mμ1 h) rfl rfl dX7_far_12 (fun r7 μ6 hr7 mμ6 h => ?_)
    refine r_if_ne 24 dX7_far_15 rfl hr7 (fun c8 => ?_) (fun c8 => ?_)
    · have h := h.1 c8
      refine r_al0 dX7_far_24 ?_
      refine r_getR B 70 fg_X7_37 kd_0 (kl kd_0) (ρo (off := 70) kd_0 rfl) dX7_far_25 ?_
      refine r_al0 dX7_far_28 ?_
      refine r_getR B 22 fg_X7_18 kd_0 (kl kd_0) (ρo (off := 22) kd_0 rfl) dX7_far_29 ?_
      refine r_il1 dX7_far_32 ?_
      obtain ⟨o9, h⟩ := h
      refine r_aald B _ kd_22 (kl kd_22) (by decide) o9 (ρa (b := 83) kd_22 rfl) dX7_far_33 ?_
      refine r_cVV1 B cb_X3_lay lk_X7_130 cv_X3_lay kd_70 (c_X3_lay (xl x) E (isC_codesI o9) mμ6 h) rfl rfl dX7_far_34 (fun μ10 mμ10 h => ?_)
      refine r_al0 dX7_far_37 ?_
      refine r_al0 dX7_far_38 ?_
      refine r_getR B 70 fg_X7_37 kd_0 (kl kd_0) (ρo (off := 70) kd_0 rfl) dX7_far_39 ?_
      refine r_il2 dX7_far_42 ?_
      refine r_il3 dX7_far_43 ?_
      refine r_cVI2 B cb_X3_distance lk_X7_138 cv_X3_distance kd_70 (c_X3_distance (xl x) E hp1 hp2 mμ10 h) rfl rfl dX7_far_44 (fun r12 μ11 hr12 mμ11 h => ?_)
      refine r_cVI1 B cb_X7_accept lk_X7_100 cv_X7_accept kd_0 (c_X7_accept (xl x) E hr12 mμ11 h) rfl rfl dX7_far_47 (fun r14 μ13 hr14 mμ13 h => ?_)
      exact r_iret B hr hr14 mμ13 dX7_far_50 h
    · have h := h.2 c8
      refine r_al0 dX7_far_18 ?_
      refine r_iconst dX7_far_19 ?_
      refine r_cVI1 B cb_X7_refuse lk_X7_70 cv_X7_refuse kd_0 (c_X7_refuse (xl x) E (inR_k rfl) mμ6 h) rfl rfl dX7_far_20 (fun r16 μ15 hr16 mμ15 h => ?_)
      exact r_iret B hr hr16 mμ15 dX7_far_23 h
set_option maxRecDepth 20000 in
theorem c_X7_flawOf (l : Launch) (E : Gx) {p0 : Int} {p1 : Int} {μ : Mem} {Q : Int → Mem → Prop} (hp0 : inR p0) (hp1 : inR p1) (hμ : okM μ) (h : wp_X7_flawOf p0 p1 μ Q) : MT l yX7_flawOf cX7_flawOf 2 (some .int) E 1 0 0 z0 [iv p0, iv p1] μ (QI E z0 Q) := by
  refine m_start [some (iv p0), some (iv p1)] (by decide) rfl rfl rfl (fun x hxl hxc hxs B hr hnm => ?_)
  unfold wp_X7_flawOf at h
  refine r_il0 dX7_flawOf_0 ?_
  refine r_if_ne 6 dX7_flawOf_1 rfl hp0 (fun c1 => ?_) (fun c1 => ?_)
  · have h := h.1 c1
    refine r_il1 dX7_flawOf_6 ?_
    refine r_if_eq 14 dX7_flawOf_7 rfl hp1 (fun c2 => ?_) (fun c2 => ?_)
    · have h := h.1 c2
      refine r_iconst dX7_flawOf_14 ?_
      exact r_iret B hr (inR_k rfl) hμ dX7_flawOf_15 h
    · have h := h.2 c2
      refine r_iconst dX7_flawOf_10 ?_
      refine r_goto 15 dX7_flawOf_11 rfl ?_
      exact r_iret B hr (inR_k rfl) hμ dX7_flawOf_15 h
  · have h := h.2 c1
    refine r_iconst dX7_flawOf_4 ?_
    exact r_iret B hr (inR_k rfl) hμ dX7_flawOf_5 h
set_option maxRecDepth 20000 in
theorem c_X7_isSlips (l : Launch) (E : Gx) {p0 : Int} {μ : Mem} {Q : Int → Mem → Prop} (hp0 : inR p0) (hμ : okM μ) (h : wp_X7_isSlips p0 μ Q) : MT l yX7_isSlips cX7_isSlips 1 (some .boolean) E 1 0 0 z0 [iv p0] μ (QI E z0 Q) := by
  refine m_start [some (iv p0)] (by decide) rfl rfl rfl (fun x hxl hxc hxs B hr hnm => ?_)
  unfold wp_X7_isSlips at h
  refine r_il0 dX7_isSlips_0 ?_
  refine r_if_lt 14 dX7_isSlips_1 rfl hp0 (fun c1 => ?_) (fun c1 => ?_)
  · have h := h.1 c1
    refine r_iconst dX7_isSlips_14 ?_
    exact r_zret B hr (Or.inl rfl) hμ dX7_isSlips_15 h
  · have h := h.2 c1
    refine r_il0 dX7_isSlips_4 ?_
    refine r_bipush dX7_isSlips_5 (by decide) ?_
    refine r_icmp_gt 14 dX7_isSlips_7 rfl hp0 (inR_k rfl) (fun c2 => ?_) (fun c2 => ?_)
    · have h := h.1 c2
      refine r_iconst dX7_isSlips_14 ?_
      exact r_zret B hr (Or.inl rfl) hμ dX7_isSlips_15 h
    · have h := h.2 c2
      refine r_iconst dX7_isSlips_10 ?_
      refine r_goto 15 dX7_isSlips_11 rfl ?_
      exact r_zret B hr (Or.inr rfl) hμ dX7_isSlips_15 h
set_option maxRecDepth 20000 in
theorem c_X7_ball (l : Launch) (E : Gx) {p0 : Int} {p1 : Int} {μ : Mem} {Q : Int → Mem → Prop} (hp0 : inR p0) (hp1 : inR p1) (hμ : okM μ) (h : wp_X7_ball p0 p1 μ Q) : MT l yX7_ball cX7_ball 4 (some .int) E 4 0 0 z0 [rv E 0, iv p0, iv p1] μ (QI E z0 Q) := by
  refine m_start [some (rv E 0), some (iv p0), some (iv p1), none] (by decide) rfl rfl rfl (fun x hxl hxc hxs B hr hnm => ?_)
  unfold wp_X7_ball at h
  refine r_al0 dX7_ball_0 ?_
  refine r_il1 dX7_ball_1 ?_
  refine r_cVI1 B cb_X7_isCode lk_X7_103 cv_X7_isCode kd_0 (c_X7_isCode (xl x) E hp0 hμ h) rfl rfl dX7_ball_2 (fun r2 μ1 hr2 mμ1 h => ?_)
  refine r_il2 dX7_ball_5 ?_
  refine r_cSI1 B cb_X7_isSlips lk_X7_141 cs_X7_isSlips (c_X7_isSlips (xl x) E hp1 mμ1 h) rfl rfl dX7_ball_6 (fun r4 μ3 hr4 mμ3 h => ?_)
  refine r_cSI2 B cb_X7_flawOf lk_X7_144 cs_X7_flawOf (c_X7_flawOf (xl x) E hr2 hr4 mμ3 h) rfl rfl dX7_ball_9 (fun r6 μ5 hr6 mμ5 h => ?_)
  refine r_is3 dX7_ball_12 rfl ?_
  refine r_il3 dX7_ball_13 ?_
  refine r_if_eq 23 dX7_ball_14 rfl hr6 (fun c7 => ?_) (fun c7 => ?_)
  · have h := h.1 c7
    refine r_al0 dX7_ball_23 ?_
    refine r_getR B 70 fg_X7_37 kd_0 (kl kd_0) (ρo (off := 70) kd_0 rfl) dX7_ball_24 ?_
    refine r_al0 dX7_ball_27 ?_
    refine r_getR B 22 fg_X7_18 kd_0 (kl kd_0) (ρo (off := 22) kd_0 rfl) dX7_ball_28 ?_
    refine r_il1 dX7_ball_31 ?_
    obtain ⟨o8, h⟩ := h
    refine r_aald B _ kd_22 (kl kd_22) (by decide) o8 (ρa (b := 83) kd_22 rfl) dX7_ball_32 ?_
    refine r_cVV1 B cb_X3_lay lk_X7_130 cv_X3_lay kd_70 (c_X3_lay (xl x) E (isC_codesI o8) mμ5 h) rfl rfl dX7_ball_33 (fun μ9 mμ9 h => ?_)
    refine r_al0 dX7_ball_36 ?_
    refine r_al0 dX7_ball_37 ?_
    refine r_getR B 70 fg_X7_37 kd_0 (kl kd_0) (ρo (off := 70) kd_0 rfl) dX7_ball_38 ?_
    refine r_il2 dX7_ball_41 ?_
    refine r_cVI1 B cb_X3_ballSize lk_X7_148 cv_X3_ballSize kd_70 (c_X3_ballSize (xl x) E hp1 mμ9 h) rfl rfl dX7_ball_42 (fun r11 μ10 hr11 mμ10 h => ?_)
    refine r_cVI1 B cb_X7_accept lk_X7_100 cv_X7_accept kd_0 (c_X7_accept (xl x) E hr11 mμ10 h) rfl rfl dX7_ball_45 (fun r13 μ12 hr13 mμ12 h => ?_)
    exact r_iret B hr hr13 mμ12 dX7_ball_48 h
  · have h := h.2 c7
    refine r_al0 dX7_ball_17 ?_
    refine r_il3 dX7_ball_18 ?_
    refine r_cVI1 B cb_X7_refuse lk_X7_70 cv_X7_refuse kd_0 (c_X7_refuse (xl x) E hr6 mμ5 h) rfl rfl dX7_ball_19 (fun r15 μ14 hr15 mμ14 h => ?_)
    exact r_iret B hr hr15 mμ14 dX7_ball_22 h
set_option maxRecDepth 20000 in
theorem t_X7_ballAt_19 {x : Cx} {E : Gx} (B : Bd x E 4 6 "SlipCovers") (hr : (xt x).sig.returnType = (some .int)) {Q : Int → Mem → Prop} {v1 : Int} {v2 : Int} {v3 : Int} {v4 : Int} {s0 : Int} {μ : Mem} (hv1 : inR v1) (hv2 : inR v2) (hv3 : inR v3) (hv4 : inR v4) (hs0 : inR s0) (hμ : okM μ) (h : wp_X7_ballAt_19 Q v1 v2 v3 v4 s0 μ) : J cX7_ballAt x E z0 μ 19 [some (rv E 0), some (iv v1), some (iv v2), some (iv v3), some (iv v4), none] [iv s0] (MQ (xb x) (QI E z0 Q) (xa x) (xs x) 0 0 (gA E)) := by
  unfold wp_X7_ballAt_19 at h
  refine r_il3 dX7_ballAt_19 ?_
  refine r_cSI1 B cb_X7_isSlips lk_X7_141 cs_X7_isSlips (c_X7_isSlips (xl x) E hv3 hμ h) rfl rfl dX7_ballAt_20 (fun r5 μ4 hr5 mμ4 h => ?_)
  refine r_cSI2 B cb_X7_flawOf lk_X7_144 cs_X7_flawOf (c_X7_flawOf (xl x) E hs0 hr5 mμ4 h) rfl rfl dX7_ballAt_23 (fun r7 μ6 hr7 mμ6 h => ?_)
  refine r_is5 dX7_ballAt_26 rfl ?_
  refine r_il5 dX7_ballAt_28 ?_
  refine r_if_eq 40 dX7_ballAt_30 rfl hr7 (fun c8 => ?_) (fun c8 => ?_)
  · have h := h.1 c8
    refine r_al0 dX7_ballAt_40 ?_
    refine r_getR B 70 fg_X7_37 kd_0 (kl kd_0) (ρo (off := 70) kd_0 rfl) dX7_ballAt_41 ?_
    refine r_al0 dX7_ballAt_44 ?_
    refine r_getR B 22 fg_X7_18 kd_0 (kl kd_0) (ρo (off := 22) kd_0 rfl) dX7_ballAt_45 ?_
    refine r_il1 dX7_ballAt_48 ?_
    obtain ⟨o9, h⟩ := h
    refine r_aald B _ kd_22 (kl kd_22) (by decide) o9 (ρa (b := 83) kd_22 rfl) dX7_ballAt_49 ?_
    refine r_cVV1 B cb_X3_lay lk_X7_130 cv_X3_lay kd_70 (c_X3_lay (xl x) E (isC_codesI o9) mμ6 h) rfl rfl dX7_ballAt_50 (fun μ10 mμ10 h => ?_)
    refine r_al0 dX7_ballAt_53 ?_
    refine r_al0 dX7_ballAt_54 ?_
    refine r_getR B 70 fg_X7_37 kd_0 (kl kd_0) (ρo (off := 70) kd_0 rfl) dX7_ballAt_55 ?_
    refine r_il2 dX7_ballAt_58 ?_
    refine r_il3 dX7_ballAt_59 ?_
    refine r_il4 dX7_ballAt_60 ?_
    refine r_cVI3 B cb_X3_inBall lk_X7_151 cv_X3_inBall kd_70 (c_X3_inBall (xl x) E hv2 hv3 hv4 mμ10 h) rfl rfl dX7_ballAt_62 (fun r12 μ11 hr12 mμ11 h => ?_)
    refine r_cVI1 B cb_X7_accept lk_X7_100 cv_X7_accept kd_0 (c_X7_accept (xl x) E hr12 mμ11 h) rfl rfl dX7_ballAt_65 (fun r14 μ13 hr14 mμ13 h => ?_)
    exact r_iret B hr hr14 mμ13 dX7_ballAt_68 h
  · have h := h.2 c8
    refine r_al0 dX7_ballAt_33 ?_
    refine r_il5 dX7_ballAt_34 ?_
    refine r_cVI1 B cb_X7_refuse lk_X7_70 cv_X7_refuse kd_0 (c_X7_refuse (xl x) E hr7 mμ6 h) rfl rfl dX7_ballAt_36 (fun r16 μ15 hr16 mμ15 h => ?_)
    exact r_iret B hr hr16 mμ15 dX7_ballAt_39 h
set_option maxRecDepth 20000 in
theorem t_X7_ballAt_18 {x : Cx} {E : Gx} (B : Bd x E 4 6 "SlipCovers") (hr : (xt x).sig.returnType = (some .int)) {Q : Int → Mem → Prop} {v1 : Int} {v2 : Int} {v3 : Int} {v4 : Int} {μ : Mem} (hv1 : inR v1) (hv2 : inR v2) (hv3 : inR v3) (hv4 : inR v4) (hμ : okM μ) (h : wp_X7_ballAt_18 Q v1 v2 v3 v4 μ) : J cX7_ballAt x E z0 μ 18 [some (rv E 0), some (iv v1), some (iv v2), some (iv v3), some (iv v4), none] [] (MQ (xb x) (QI E z0 Q) (xa x) (xs x) 0 0 (gA E)) := by
  unfold wp_X7_ballAt_18 at h
  refine r_iconst dX7_ballAt_18 ?_
  exact J_weak (t_X7_ballAt_19 B hr hv1 hv2 hv3 hv4 (inR_k rfl) hμ h) (⟨rfl, ⟨rfl, ⟨rfl, ⟨rfl, ⟨rfl, trivial⟩⟩⟩⟩⟩)
set_option maxRecDepth 20000 in
theorem c_X7_ballAt (l : Launch) (E : Gx) {p0 : Int} {p1 : Int} {p2 : Int} {p3 : Int} {μ : Mem} {Q : Int → Mem → Prop} (hp0 : inR p0) (hp1 : inR p1) (hp2 : inR p2) (hp3 : inR p3) (hμ : okM μ) (h : wp_X7_ballAt p0 p1 p2 p3 μ Q) : MT l yX7_ballAt cX7_ballAt 6 (some .int) E 4 0 0 z0 [rv E 0, iv p0, iv p1, iv p2, iv p3] μ (QI E z0 Q) := by
  refine m_start [some (rv E 0), some (iv p0), some (iv p1), some (iv p2), some (iv p3), none] (by decide) rfl rfl rfl (fun x hxl hxc hxs B hr hnm => ?_)
  unfold wp_X7_ballAt at h
  refine r_al0 dX7_ballAt_0 ?_
  refine r_il1 dX7_ballAt_1 ?_
  refine r_il2 dX7_ballAt_2 ?_
  refine r_cVI2 B cb_X7_isWord lk_X7_124 cv_X7_isWord kd_0 (c_X7_isWord (xl x) E hp0 hp1 hμ h) rfl rfl dX7_ballAt_3 (fun r2 μ1 hr2 mμ1 h => ?_)
  refine r_if_eq 18 dX7_ballAt_6 rfl hr2 (fun c3 => ?_) (fun c3 => ?_)
  · have h := h.1 c3
    exact J_weak (t_X7_ballAt_18 B hr hp0 hp1 hp2 hp3 mμ1 h) (⟨rfl, ⟨rfl, ⟨rfl, ⟨rfl, ⟨rfl, trivial⟩⟩⟩⟩⟩)
  · have h := h.2 c3
    refine r_il4 dX7_ballAt_9 ?_
    refine r_if_lt 18 dX7_ballAt_11 rfl hp3 (fun c17 => ?_) (fun c17 => ?_)
    · have h := h.1 c17
      exact J_weak (t_X7_ballAt_18 B hr hp0 hp1 hp2 hp3 mμ1 h) (⟨rfl, ⟨rfl, ⟨rfl, ⟨rfl, ⟨rfl, trivial⟩⟩⟩⟩⟩)
    · have h := h.2 c17
      refine r_iconst dX7_ballAt_14 ?_
      refine r_goto 19 dX7_ballAt_15 rfl ?_
      exact J_weak (t_X7_ballAt_19 B hr hp0 hp1 hp2 hp3 (inR_k rfl) mμ1 h) (⟨rfl, ⟨rfl, ⟨rfl, ⟨rfl, ⟨rfl, trivial⟩⟩⟩⟩⟩)
set_option maxRecDepth 20000 in
theorem c_X7_layTimes (l : Launch) (E : Gx) {p0 : Nat} {p1 : Int} {μ : Mem} {Q : Mem → Prop} (hp0 : isC p0) (hp1 : inR p1) (hμ : okM μ) (h : wp_X7_layTimes p0 p1 μ Q) : MT l yX7_layTimes cX7_layTimes 3 none E 5 0 0 z0 [rv E 0, rv E p0, iv p1] μ (QV E z0 Q) := by
  refine m_start [some (rv E 0), some (rv E p0), some (iv p1)] (by decide) rfl rfl rfl (fun x hxl hxc hxs B hr hnm => ?_)
  unfold wp_X7_layTimes at h
  refine r_al0 dX7_layTimes_0 ?_
  refine r_getR B 70 fg_X7_37 kd_0 (kl kd_0) (ρo (off := 70) kd_0 rfl) dX7_layTimes_1 ?_
  refine r_al1 dX7_layTimes_4 ?_
  refine r_cVV1 B cb_X3_lay lk_X7_130 cv_X3_lay kd_70 (c_X3_lay (xl x) E hp0 hμ h) rfl rfl dX7_layTimes_5 (fun μ1 mμ1 h => ?_)
  refine r_al0 dX7_layTimes_8 ?_
  refine r_getR B 70 fg_X7_37 kd_0 (kl kd_0) (ρo (off := 70) kd_0 rfl) dX7_layTimes_9 ?_
  refine r_al1 dX7_layTimes_12 ?_
  refine r_il2 dX7_layTimes_13 ?_
  refine r_cVV2 B cb_X3_countTimes lk_X7_325 cv_X3_countTimes kd_70 (c_X3_countTimes (xl x) E hp0 hp1 mμ1 h) rfl rfl dX7_layTimes_14 (fun μ2 mμ2 h => ?_)
  exact r_vret B hr mμ2 dX7_layTimes_17 h
set_option maxRecDepth 20000 in
theorem c_X7_covered (l : Launch) (E : Gx) {p0 : Int} {p1 : Int} {μ : Mem} {Q : Int → Mem → Prop} (hp0 : inR p0) (hp1 : inR p1) (hμ : okM μ) (h : wp_X7_covered p0 p1 μ Q) : MT l yX7_covered cX7_covered 4 (some .int) E 6 0 0 z0 [rv E 0, iv p0, iv p1] μ (QI E z0 Q) := by
  refine m_start [some (rv E 0), some (iv p0), some (iv p1), none] (by decide) rfl rfl rfl (fun x hxl hxc hxs B hr hnm => ?_)
  unfold wp_X7_covered at h
  refine r_al0 dX7_covered_0 ?_
  refine r_il1 dX7_covered_1 ?_
  refine r_cVI1 B cb_X7_isCode lk_X7_103 cv_X7_isCode kd_0 (c_X7_isCode (xl x) E hp0 hμ h) rfl rfl dX7_covered_2 (fun r2 μ1 hr2 mμ1 h => ?_)
  refine r_il2 dX7_covered_5 ?_
  refine r_cSI1 B cb_X7_isSlips lk_X7_141 cs_X7_isSlips (c_X7_isSlips (xl x) E hp1 mμ1 h) rfl rfl dX7_covered_6 (fun r4 μ3 hr4 mμ3 h => ?_)
  refine r_cSI2 B cb_X7_flawOf lk_X7_144 cs_X7_flawOf (c_X7_flawOf (xl x) E hr2 hr4 mμ3 h) rfl rfl dX7_covered_9 (fun r6 μ5 hr6 mμ5 h => ?_)
  refine r_is3 dX7_covered_12 rfl ?_
  refine r_il3 dX7_covered_13 ?_
  refine r_if_eq 23 dX7_covered_14 rfl hr6 (fun c7 => ?_) (fun c7 => ?_)
  · have h := h.1 c7
    refine r_al0 dX7_covered_23 ?_
    refine r_al0 dX7_covered_24 ?_
    refine r_getR B 22 fg_X7_18 kd_0 (kl kd_0) (ρo (off := 22) kd_0 rfl) dX7_covered_25 ?_
    refine r_il1 dX7_covered_28 ?_
    obtain ⟨o8, h⟩ := h
    refine r_aald B _ kd_22 (kl kd_22) (by decide) o8 (ρa (b := 83) kd_22 rfl) dX7_covered_29 ?_
    refine r_il2 dX7_covered_30 ?_
    refine r_cVV2 B cb_X7_layTimes lk_X7_155 cv_X7_layTimes kd_0 (c_X7_layTimes (xl x) E (isC_codesI o8) hp1 mμ5 h) rfl rfl dX7_covered_31 (fun μ9 mμ9 h => ?_)
    refine r_al0 dX7_covered_34 ?_
    refine r_al0 dX7_covered_35 ?_
    refine r_getR B 70 fg_X7_37 kd_0 (kl kd_0) (ρo (off := 70) kd_0 rfl) dX7_covered_36 ?_
    refine r_getIN B fg_X7_159 kd_70 (kl kd_70) dX7_covered_39 ?_
    refine r_al0 dX7_covered_42 ?_
    refine r_getR B 70 fg_X7_37 kd_0 (kl kd_0) (ρo (off := 70) kd_0 rfl) dX7_covered_43 ?_
    refine r_iconst dX7_covered_46 ?_
    refine r_cVI1 B cb_X3_withTimes lk_X7_162 cv_X3_withTimes kd_70 (c_X3_withTimes (xl x) E (inR_k rfl) mμ9 h) rfl rfl dX7_covered_47 (fun r11 μ10 hr11 mμ10 h => ?_)
    refine r_isub dX7_covered_50 ?_
    obtain ⟨o12, h⟩ := h
    refine r_cVI1 B cb_X7_accept lk_X7_100 cv_X7_accept kd_0 (c_X7_accept (xl x) E o12 mμ10 h) rfl rfl dX7_covered_51 (fun r14 μ13 hr14 mμ13 h => ?_)
    exact r_iret B hr hr14 mμ13 dX7_covered_54 h
  · have h := h.2 c7
    refine r_al0 dX7_covered_17 ?_
    refine r_il3 dX7_covered_18 ?_
    refine r_cVI1 B cb_X7_refuse lk_X7_70 cv_X7_refuse kd_0 (c_X7_refuse (xl x) E hr6 mμ5 h) rfl rfl dX7_covered_19 (fun r16 μ15 hr16 mμ15 h => ?_)
    exact r_iret B hr hr16 mμ15 dX7_covered_22 h
set_option maxRecDepth 20000 in
theorem c_X7_times (l : Launch) (E : Gx) {p0 : Int} {p1 : Int} {p2 : Int} {μ : Mem} {Q : Int → Mem → Prop} (hp0 : inR p0) (hp1 : inR p1) (hp2 : inR p2) (hμ : okM μ) (h : wp_X7_times p0 p1 p2 μ Q) : MT l yX7_times cX7_times 5 (some .int) E 6 0 0 z0 [rv E 0, iv p0, iv p1, iv p2] μ (QI E z0 Q) := by
  refine m_start [some (rv E 0), some (iv p0), some (iv p1), some (iv p2), none] (by decide) rfl rfl rfl (fun x hxl hxc hxs B hr hnm => ?_)
  unfold wp_X7_times at h
  refine r_al0 dX7_times_0 ?_
  refine r_il1 dX7_times_1 ?_
  refine r_il2 dX7_times_2 ?_
  refine r_cVI2 B cb_X7_isWord lk_X7_124 cv_X7_isWord kd_0 (c_X7_isWord (xl x) E hp0 hp1 hμ h) rfl rfl dX7_times_3 (fun r2 μ1 hr2 mμ1 h => ?_)
  refine r_il3 dX7_times_6 ?_
  refine r_cSI1 B cb_X7_isSlips lk_X7_141 cs_X7_isSlips (c_X7_isSlips (xl x) E hp2 mμ1 h) rfl rfl dX7_times_7 (fun r4 μ3 hr4 mμ3 h => ?_)
  refine r_cSI2 B cb_X7_flawOf lk_X7_144 cs_X7_flawOf (c_X7_flawOf (xl x) E hr2 hr4 mμ3 h) rfl rfl dX7_times_10 (fun r6 μ5 hr6 mμ5 h => ?_)
  refine r_is4 dX7_times_13 rfl ?_
  refine r_il4 dX7_times_15 ?_
  refine r_if_eq 27 dX7_times_17 rfl hr6 (fun c7 => ?_) (fun c7 => ?_)
  · have h := h.1 c7
    refine r_al0 dX7_times_27 ?_
    refine r_al0 dX7_times_28 ?_
    refine r_getR B 22 fg_X7_18 kd_0 (kl kd_0) (ρo (off := 22) kd_0 rfl) dX7_times_29 ?_
    refine r_il1 dX7_times_32 ?_
    obtain ⟨o8, h⟩ := h
    refine r_aald B _ kd_22 (kl kd_22) (by decide) o8 (ρa (b := 83) kd_22 rfl) dX7_times_33 ?_
    refine r_il3 dX7_times_34 ?_
    refine r_cVV2 B cb_X7_layTimes lk_X7_155 cv_X7_layTimes kd_0 (c_X7_layTimes (xl x) E (isC_codesI o8) hp2 mμ5 h) rfl rfl dX7_times_35 (fun μ9 mμ9 h => ?_)
    refine r_al0 dX7_times_38 ?_
    refine r_al0 dX7_times_39 ?_
    refine r_getR B 70 fg_X7_37 kd_0 (kl kd_0) (ρo (off := 70) kd_0 rfl) dX7_times_40 ?_
    refine r_getRN B 72 fg_X7_165 kd_70 (kl kd_70) (ρo (off := 2) kd_70 rfl) dX7_times_43 ?_
    refine r_il2 dX7_times_46 ?_
    obtain ⟨o10, h⟩ := h
    refine r_iald B kd_72 (kl kd_72) (by decide) o10 dX7_times_47 ?_
    refine r_cVI1 B cb_X7_accept lk_X7_100 cv_X7_accept kd_0 (c_X7_accept (xl x) E (mμ9 _ _) mμ9 h) rfl rfl dX7_times_48 (fun r12 μ11 hr12 mμ11 h => ?_)
    exact r_iret B hr hr12 mμ11 dX7_times_51 h
  · have h := h.2 c7
    refine r_al0 dX7_times_20 ?_
    refine r_il4 dX7_times_21 ?_
    refine r_cVI1 B cb_X7_refuse lk_X7_70 cv_X7_refuse kd_0 (c_X7_refuse (xl x) E hr6 mμ5 h) rfl rfl dX7_times_23 (fun r14 μ13 hr14 mμ13 h => ?_)
    exact r_iret B hr hr14 mμ13 dX7_times_26 h
set_option maxRecDepth 20000 in
theorem t_X7_table_21 {x : Cx} {E : Gx} (B : Bd x E 6 5 "SlipCovers") (hr : (xt x).sig.returnType = (some .int)) {Q : Int → Mem → Prop} {v1 : Int} {v2 : Int} {v3 : Int} {s0 : Int} {s1 : Int} {μ : Mem} (hv1 : inR v1) (hv2 : inR v2) (hv3 : inR v3) (hs0 : inR s0) (hs1 : inR s1) (hμ : okM μ) (h : wp_X7_table_21 Q v1 v2 v3 s0 s1 μ) : J cX7_table x E z0 μ 21 [some (rv E 0), some (iv v1), some (iv v2), some (iv v3), none] [iv s1, iv s0] (MQ (xb x) (QI E z0 Q) (xa x) (xs x) 0 0 (gA E)) := by
  unfold wp_X7_table_21 at h
  refine r_cSI2 B cb_X7_flawOf lk_X7_144 cs_X7_flawOf (c_X7_flawOf (xl x) E hs0 hs1 hμ h) rfl rfl dX7_table_21 (fun r7 μ6 hr7 mμ6 h => ?_)
  refine r_is4 dX7_table_24 rfl ?_
  refine r_il4 dX7_table_26 ?_
  refine r_if_eq 38 dX7_table_28 rfl hr7 (fun c8 => ?_) (fun c8 => ?_)
  · have h := h.1 c8
    refine r_al0 dX7_table_38 ?_
    refine r_al0 dX7_table_39 ?_
    refine r_getR B 22 fg_X7_18 kd_0 (kl kd_0) (ρo (off := 22) kd_0 rfl) dX7_table_40 ?_
    refine r_il1 dX7_table_43 ?_
    obtain ⟨o9, h⟩ := h
    refine r_aald B _ kd_22 (kl kd_22) (by decide) o9 (ρa (b := 83) kd_22 rfl) dX7_table_44 ?_
    refine r_il2 dX7_table_45 ?_
    refine r_cVV2 B cb_X7_layTimes lk_X7_155 cv_X7_layTimes kd_0 (c_X7_layTimes (xl x) E (isC_codesI o9) hv2 mμ6 h) rfl rfl dX7_table_46 (fun μ10 mμ10 h => ?_)
    refine r_al0 dX7_table_49 ?_
    refine r_al0 dX7_table_50 ?_
    refine r_getR B 70 fg_X7_37 kd_0 (kl kd_0) (ρo (off := 70) kd_0 rfl) dX7_table_51 ?_
    refine r_il3 dX7_table_54 ?_
    refine r_cVI1 B cb_X3_withTimes lk_X7_162 cv_X3_withTimes kd_70 (c_X3_withTimes (xl x) E hv3 mμ10 h) rfl rfl dX7_table_55 (fun r12 μ11 hr12 mμ11 h => ?_)
    refine r_cVI1 B cb_X7_accept lk_X7_100 cv_X7_accept kd_0 (c_X7_accept (xl x) E hr12 mμ11 h) rfl rfl dX7_table_58 (fun r14 μ13 hr14 mμ13 h => ?_)
    exact r_iret B hr hr14 mμ13 dX7_table_61 h
  · have h := h.2 c8
    refine r_al0 dX7_table_31 ?_
    refine r_il4 dX7_table_32 ?_
    refine r_cVI1 B cb_X7_refuse lk_X7_70 cv_X7_refuse kd_0 (c_X7_refuse (xl x) E hr7 mμ6 h) rfl rfl dX7_table_34 (fun r16 μ15 hr16 mμ15 h => ?_)
    exact r_iret B hr hr16 mμ15 dX7_table_37 h
set_option maxRecDepth 20000 in
theorem t_X7_table_20 {x : Cx} {E : Gx} (B : Bd x E 6 5 "SlipCovers") (hr : (xt x).sig.returnType = (some .int)) {Q : Int → Mem → Prop} {v1 : Int} {v2 : Int} {v3 : Int} {s0 : Int} {μ : Mem} (hv1 : inR v1) (hv2 : inR v2) (hv3 : inR v3) (hs0 : inR s0) (hμ : okM μ) (h : wp_X7_table_20 Q v1 v2 v3 s0 μ) : J cX7_table x E z0 μ 20 [some (rv E 0), some (iv v1), some (iv v2), some (iv v3), none] [iv s0] (MQ (xb x) (QI E z0 Q) (xa x) (xs x) 0 0 (gA E)) := by
  unfold wp_X7_table_20 at h
  refine r_iconst dX7_table_20 ?_
  exact J_weak (t_X7_table_21 B hr hv1 hv2 hv3 hs0 (inR_k rfl) hμ h) (⟨rfl, ⟨rfl, ⟨rfl, ⟨rfl, trivial⟩⟩⟩⟩)
set_option maxRecDepth 20000 in
theorem c_X7_table (l : Launch) (E : Gx) {p0 : Int} {p1 : Int} {p2 : Int} {μ : Mem} {Q : Int → Mem → Prop} (hp0 : inR p0) (hp1 : inR p1) (hp2 : inR p2) (hμ : okM μ) (h : wp_X7_table p0 p1 p2 μ Q) : MT l yX7_table cX7_table 5 (some .int) E 6 0 0 z0 [rv E 0, iv p0, iv p1, iv p2] μ (QI E z0 Q) := by
  refine m_start [some (rv E 0), some (iv p0), some (iv p1), some (iv p2), none] (by decide) rfl rfl rfl (fun x hxl hxc hxs B hr hnm => ?_)
  unfold wp_X7_table at h
  refine r_al0 dX7_table_0 ?_
  refine r_il1 dX7_table_1 ?_
  refine r_cVI1 B cb_X7_isCode lk_X7_103 cv_X7_isCode kd_0 (c_X7_isCode (xl x) E hp0 hμ h) rfl rfl dX7_table_2 (fun r2 μ1 hr2 mμ1 h => ?_)
  refine r_il2 dX7_table_5 ?_
  refine r_cSI1 B cb_X7_isSlips lk_X7_141 cs_X7_isSlips (c_X7_isSlips (xl x) E hp1 mμ1 h) rfl rfl dX7_table_6 (fun r4 μ3 hr4 mμ3 h => ?_)
  refine r_if_eq 20 dX7_table_9 rfl hr4 (fun c5 => ?_) (fun c5 => ?_)
  · have h := h.1 c5
    exact J_weak (t_X7_table_20 B hr hp0 hp1 hp2 hr2 mμ3 h) (⟨rfl, ⟨rfl, ⟨rfl, ⟨rfl, trivial⟩⟩⟩⟩)
  · have h := h.2 c5
    refine r_il3 dX7_table_12 ?_
    refine r_if_lt 20 dX7_table_13 rfl hp2 (fun c17 => ?_) (fun c17 => ?_)
    · have h := h.1 c17
      exact J_weak (t_X7_table_20 B hr hp0 hp1 hp2 hr2 mμ3 h) (⟨rfl, ⟨rfl, ⟨rfl, ⟨rfl, trivial⟩⟩⟩⟩)
    · have h := h.2 c17
      refine r_iconst dX7_table_16 ?_
      refine r_goto 21 dX7_table_17 rfl ?_
      exact J_weak (t_X7_table_21 B hr hp0 hp1 hp2 hr2 (inR_k rfl) mμ3 h) (⟨rfl, ⟨rfl, ⟨rfl, ⟨rfl, trivial⟩⟩⟩⟩)
set_option maxRecDepth 20000 in
theorem t_X7_hole_17 {x : Cx} {E : Gx} (B : Bd x E 6 5 "SlipCovers") (hr : (xt x).sig.returnType = (some .int)) {Q : Int → Mem → Prop} {v1 : Int} {v2 : Int} {v3 : Int} {s0 : Int} {μ : Mem} (hv1 : inR v1) (hv2 : inR v2) (hv3 : inR v3) (hs0 : inR s0) (hμ : okM μ) (h : wp_X7_hole_17 Q v1 v2 v3 s0 μ) : J cX7_hole x E z0 μ 17 [some (rv E 0), some (iv v1), some (iv v2), some (iv v3), none] [iv s0] (MQ (xb x) (QI E z0 Q) (xa x) (xs x) 0 0 (gA E)) := by
  unfold wp_X7_hole_17 at h
  refine r_il2 dX7_hole_17 ?_
  refine r_cSI1 B cb_X7_isSlips lk_X7_141 cs_X7_isSlips (c_X7_isSlips (xl x) E hv2 hμ h) rfl rfl dX7_hole_18 (fun r5 μ4 hr5 mμ4 h => ?_)
  refine r_cSI2 B cb_X7_flawOf lk_X7_144 cs_X7_flawOf (c_X7_flawOf (xl x) E hs0 hr5 mμ4 h) rfl rfl dX7_hole_21 (fun r7 μ6 hr7 mμ6 h => ?_)
  refine r_is4 dX7_hole_24 rfl ?_
  refine r_il4 dX7_hole_26 ?_
  refine r_if_eq 38 dX7_hole_28 rfl hr7 (fun c8 => ?_) (fun c8 => ?_)
  · have h := h.1 c8
    refine r_al0 dX7_hole_38 ?_
    refine r_al0 dX7_hole_39 ?_
    refine r_getR B 22 fg_X7_18 kd_0 (kl kd_0) (ρo (off := 22) kd_0 rfl) dX7_hole_40 ?_
    refine r_il1 dX7_hole_43 ?_
    obtain ⟨o9, h⟩ := h
    refine r_aald B _ kd_22 (kl kd_22) (by decide) o9 (ρa (b := 83) kd_22 rfl) dX7_hole_44 ?_
    refine r_il2 dX7_hole_45 ?_
    refine r_cVV2 B cb_X7_layTimes lk_X7_155 cv_X7_layTimes kd_0 (c_X7_layTimes (xl x) E (isC_codesI o9) hv2 mμ6 h) rfl rfl dX7_hole_46 (fun μ10 mμ10 h => ?_)
    refine r_al0 dX7_hole_49 ?_
    refine r_al0 dX7_hole_50 ?_
    refine r_getR B 70 fg_X7_37 kd_0 (kl kd_0) (ρo (off := 70) kd_0 rfl) dX7_hole_51 ?_
    refine r_il3 dX7_hole_54 ?_
    refine r_cVI1 B cb_X3_holeAt lk_X7_168 cv_X3_holeAt kd_70 (c_X3_holeAt (xl x) E hv3 mμ10 h) rfl rfl dX7_hole_55 (fun r12 μ11 hr12 mμ11 h => ?_)
    refine r_cVI1 B cb_X7_accept lk_X7_100 cv_X7_accept kd_0 (c_X7_accept (xl x) E hr12 mμ11 h) rfl rfl dX7_hole_58 (fun r14 μ13 hr14 mμ13 h => ?_)
    exact r_iret B hr hr14 mμ13 dX7_hole_61 h
  · have h := h.2 c8
    refine r_al0 dX7_hole_31 ?_
    refine r_il4 dX7_hole_32 ?_
    refine r_cVI1 B cb_X7_refuse lk_X7_70 cv_X7_refuse kd_0 (c_X7_refuse (xl x) E hr7 mμ6 h) rfl rfl dX7_hole_34 (fun r16 μ15 hr16 mμ15 h => ?_)
    exact r_iret B hr hr16 mμ15 dX7_hole_37 h
set_option maxRecDepth 20000 in
theorem t_X7_hole_16 {x : Cx} {E : Gx} (B : Bd x E 6 5 "SlipCovers") (hr : (xt x).sig.returnType = (some .int)) {Q : Int → Mem → Prop} {v1 : Int} {v2 : Int} {v3 : Int} {μ : Mem} (hv1 : inR v1) (hv2 : inR v2) (hv3 : inR v3) (hμ : okM μ) (h : wp_X7_hole_16 Q v1 v2 v3 μ) : J cX7_hole x E z0 μ 16 [some (rv E 0), some (iv v1), some (iv v2), some (iv v3), none] [] (MQ (xb x) (QI E z0 Q) (xa x) (xs x) 0 0 (gA E)) := by
  unfold wp_X7_hole_16 at h
  refine r_iconst dX7_hole_16 ?_
  exact J_weak (t_X7_hole_17 B hr hv1 hv2 hv3 (inR_k rfl) hμ h) (⟨rfl, ⟨rfl, ⟨rfl, ⟨rfl, trivial⟩⟩⟩⟩)
set_option maxRecDepth 20000 in
theorem c_X7_hole (l : Launch) (E : Gx) {p0 : Int} {p1 : Int} {p2 : Int} {μ : Mem} {Q : Int → Mem → Prop} (hp0 : inR p0) (hp1 : inR p1) (hp2 : inR p2) (hμ : okM μ) (h : wp_X7_hole p0 p1 p2 μ Q) : MT l yX7_hole cX7_hole 5 (some .int) E 6 0 0 z0 [rv E 0, iv p0, iv p1, iv p2] μ (QI E z0 Q) := by
  refine m_start [some (rv E 0), some (iv p0), some (iv p1), some (iv p2), none] (by decide) rfl rfl rfl (fun x hxl hxc hxs B hr hnm => ?_)
  unfold wp_X7_hole at h
  refine r_al0 dX7_hole_0 ?_
  refine r_il1 dX7_hole_1 ?_
  refine r_cVI1 B cb_X7_isCode lk_X7_103 cv_X7_isCode kd_0 (c_X7_isCode (xl x) E hp0 hμ h) rfl rfl dX7_hole_2 (fun r2 μ1 hr2 mμ1 h => ?_)
  refine r_if_eq 16 dX7_hole_5 rfl hr2 (fun c3 => ?_) (fun c3 => ?_)
  · have h := h.1 c3
    exact J_weak (t_X7_hole_16 B hr hp0 hp1 hp2 mμ1 h) (⟨rfl, ⟨rfl, ⟨rfl, ⟨rfl, trivial⟩⟩⟩⟩)
  · have h := h.2 c3
    refine r_il3 dX7_hole_8 ?_
    refine r_if_lt 16 dX7_hole_9 rfl hp2 (fun c17 => ?_) (fun c17 => ?_)
    · have h := h.1 c17
      exact J_weak (t_X7_hole_16 B hr hp0 hp1 hp2 mμ1 h) (⟨rfl, ⟨rfl, ⟨rfl, ⟨rfl, trivial⟩⟩⟩⟩)
    · have h := h.2 c17
      refine r_iconst dX7_hole_12 ?_
      refine r_goto 17 dX7_hole_13 rfl ?_
      exact J_weak (t_X7_hole_17 B hr hp0 hp1 hp2 (inR_k rfl) mμ1 h) (⟨rfl, ⟨rfl, ⟨rfl, ⟨rfl, trivial⟩⟩⟩⟩)
set_option maxRecDepth 20000 in
theorem t_X7_idle_17 {x : Cx} {E : Gx} (B : Bd x E 6 5 "SlipCovers") (hr : (xt x).sig.returnType = (some .int)) {Q : Int → Mem → Prop} {v1 : Int} {v2 : Int} {v3 : Int} {s0 : Int} {μ : Mem} (hv1 : inR v1) (hv2 : inR v2) (hv3 : inR v3) (hs0 : inR s0) (hμ : okM μ) (h : wp_X7_idle_17 Q v1 v2 v3 s0 μ) : J cX7_idle x E z0 μ 17 [some (rv E 0), some (iv v1), some (iv v2), some (iv v3), none] [iv s0] (MQ (xb x) (QI E z0 Q) (xa x) (xs x) 0 0 (gA E)) := by
  unfold wp_X7_idle_17 at h
  refine r_il2 dX7_idle_17 ?_
  refine r_cSI1 B cb_X7_isSlips lk_X7_141 cs_X7_isSlips (c_X7_isSlips (xl x) E hv2 hμ h) rfl rfl dX7_idle_18 (fun r5 μ4 hr5 mμ4 h => ?_)
  refine r_cSI2 B cb_X7_flawOf lk_X7_144 cs_X7_flawOf (c_X7_flawOf (xl x) E hs0 hr5 mμ4 h) rfl rfl dX7_idle_21 (fun r7 μ6 hr7 mμ6 h => ?_)
  refine r_is4 dX7_idle_24 rfl ?_
  refine r_il4 dX7_idle_26 ?_
  refine r_if_eq 38 dX7_idle_28 rfl hr7 (fun c8 => ?_) (fun c8 => ?_)
  · have h := h.1 c8
    refine r_al0 dX7_idle_38 ?_
    refine r_al0 dX7_idle_39 ?_
    refine r_getR B 22 fg_X7_18 kd_0 (kl kd_0) (ρo (off := 22) kd_0 rfl) dX7_idle_40 ?_
    refine r_il1 dX7_idle_43 ?_
    obtain ⟨o9, h⟩ := h
    refine r_aald B _ kd_22 (kl kd_22) (by decide) o9 (ρa (b := 83) kd_22 rfl) dX7_idle_44 ?_
    refine r_il2 dX7_idle_45 ?_
    refine r_cVV2 B cb_X7_layTimes lk_X7_155 cv_X7_layTimes kd_0 (c_X7_layTimes (xl x) E (isC_codesI o9) hv2 mμ6 h) rfl rfl dX7_idle_46 (fun μ10 mμ10 h => ?_)
    refine r_al0 dX7_idle_49 ?_
    refine r_al0 dX7_idle_50 ?_
    refine r_getR B 70 fg_X7_37 kd_0 (kl kd_0) (ρo (off := 70) kd_0 rfl) dX7_idle_51 ?_
    refine r_al0 dX7_idle_54 ?_
    refine r_getR B 22 fg_X7_18 kd_0 (kl kd_0) (ρo (off := 22) kd_0 rfl) dX7_idle_55 ?_
    refine r_il1 dX7_idle_58 ?_
    refine r_aald B _ kd_22 (kl kd_22) (by decide) o9 (ρa (b := 83) kd_22 rfl) dX7_idle_59 ?_
    refine r_il2 dX7_idle_60 ?_
    refine r_il3 dX7_idle_61 ?_
    refine r_cVI3 B cb_X3_idleAt lk_X7_171 cv_X3_idleAt kd_70 (c_X3_idleAt (xl x) E (isC_codesI o9) hv2 hv3 mμ10 h) rfl rfl dX7_idle_62 (fun r12 μ11 hr12 mμ11 h => ?_)
    refine r_cVI1 B cb_X7_accept lk_X7_100 cv_X7_accept kd_0 (c_X7_accept (xl x) E hr12 mμ11 h) rfl rfl dX7_idle_65 (fun r14 μ13 hr14 mμ13 h => ?_)
    exact r_iret B hr hr14 mμ13 dX7_idle_68 h
  · have h := h.2 c8
    refine r_al0 dX7_idle_31 ?_
    refine r_il4 dX7_idle_32 ?_
    refine r_cVI1 B cb_X7_refuse lk_X7_70 cv_X7_refuse kd_0 (c_X7_refuse (xl x) E hr7 mμ6 h) rfl rfl dX7_idle_34 (fun r16 μ15 hr16 mμ15 h => ?_)
    exact r_iret B hr hr16 mμ15 dX7_idle_37 h
set_option maxRecDepth 20000 in
theorem t_X7_idle_16 {x : Cx} {E : Gx} (B : Bd x E 6 5 "SlipCovers") (hr : (xt x).sig.returnType = (some .int)) {Q : Int → Mem → Prop} {v1 : Int} {v2 : Int} {v3 : Int} {μ : Mem} (hv1 : inR v1) (hv2 : inR v2) (hv3 : inR v3) (hμ : okM μ) (h : wp_X7_idle_16 Q v1 v2 v3 μ) : J cX7_idle x E z0 μ 16 [some (rv E 0), some (iv v1), some (iv v2), some (iv v3), none] [] (MQ (xb x) (QI E z0 Q) (xa x) (xs x) 0 0 (gA E)) := by
  unfold wp_X7_idle_16 at h
  refine r_iconst dX7_idle_16 ?_
  exact J_weak (t_X7_idle_17 B hr hv1 hv2 hv3 (inR_k rfl) hμ h) (⟨rfl, ⟨rfl, ⟨rfl, ⟨rfl, trivial⟩⟩⟩⟩)
set_option maxRecDepth 20000 in
theorem c_X7_idle (l : Launch) (E : Gx) {p0 : Int} {p1 : Int} {p2 : Int} {μ : Mem} {Q : Int → Mem → Prop} (hp0 : inR p0) (hp1 : inR p1) (hp2 : inR p2) (hμ : okM μ) (h : wp_X7_idle p0 p1 p2 μ Q) : MT l yX7_idle cX7_idle 5 (some .int) E 6 0 0 z0 [rv E 0, iv p0, iv p1, iv p2] μ (QI E z0 Q) := by
  refine m_start [some (rv E 0), some (iv p0), some (iv p1), some (iv p2), none] (by decide) rfl rfl rfl (fun x hxl hxc hxs B hr hnm => ?_)
  unfold wp_X7_idle at h
  refine r_al0 dX7_idle_0 ?_
  refine r_il1 dX7_idle_1 ?_
  refine r_cVI1 B cb_X7_isCode lk_X7_103 cv_X7_isCode kd_0 (c_X7_isCode (xl x) E hp0 hμ h) rfl rfl dX7_idle_2 (fun r2 μ1 hr2 mμ1 h => ?_)
  refine r_if_eq 16 dX7_idle_5 rfl hr2 (fun c3 => ?_) (fun c3 => ?_)
  · have h := h.1 c3
    exact J_weak (t_X7_idle_16 B hr hp0 hp1 hp2 mμ1 h) (⟨rfl, ⟨rfl, ⟨rfl, ⟨rfl, trivial⟩⟩⟩⟩)
  · have h := h.2 c3
    refine r_il3 dX7_idle_8 ?_
    refine r_if_lt 16 dX7_idle_9 rfl hp2 (fun c17 => ?_) (fun c17 => ?_)
    · have h := h.1 c17
      exact J_weak (t_X7_idle_16 B hr hp0 hp1 hp2 mμ1 h) (⟨rfl, ⟨rfl, ⟨rfl, ⟨rfl, trivial⟩⟩⟩⟩)
    · have h := h.2 c17
      refine r_iconst dX7_idle_12 ?_
      refine r_goto 17 dX7_idle_13 rfl ?_
      exact J_weak (t_X7_idle_17 B hr hp0 hp1 hp2 (inR_k rfl) mμ1 h) (⟨rfl, ⟨rfl, ⟨rfl, ⟨rfl, trivial⟩⟩⟩⟩)
set_option maxRecDepth 20000 in
theorem c_X7_excess (l : Launch) (E : Gx) {p0 : Int} {p1 : Int} {μ : Mem} {Q : Int → Mem → Prop} (hp0 : inR p0) (hp1 : inR p1) (hμ : okM μ) (h : wp_X7_excess p0 p1 μ Q) : MT l yX7_excess cX7_excess 4 (some .int) E 6 0 0 z0 [rv E 0, iv p0, iv p1] μ (QI E z0 Q) := by
  refine m_start [some (rv E 0), some (iv p0), some (iv p1), none] (by decide) rfl rfl rfl (fun x hxl hxc hxs B hr hnm => ?_)
  unfold wp_X7_excess at h
  refine r_al0 dX7_excess_0 ?_
  refine r_il1 dX7_excess_1 ?_
  refine r_cVI1 B cb_X7_isCode lk_X7_103 cv_X7_isCode kd_0 (c_X7_isCode (xl x) E hp0 hμ h) rfl rfl dX7_excess_2 (fun r2 μ1 hr2 mμ1 h => ?_)
  refine r_il2 dX7_excess_5 ?_
  refine r_cSI1 B cb_X7_isSlips lk_X7_141 cs_X7_isSlips (c_X7_isSlips (xl x) E hp1 mμ1 h) rfl rfl dX7_excess_6 (fun r4 μ3 hr4 mμ3 h => ?_)
  refine r_cSI2 B cb_X7_flawOf lk_X7_144 cs_X7_flawOf (c_X7_flawOf (xl x) E hr2 hr4 mμ3 h) rfl rfl dX7_excess_9 (fun r6 μ5 hr6 mμ5 h => ?_)
  refine r_is3 dX7_excess_12 rfl ?_
  refine r_il3 dX7_excess_13 ?_
  refine r_if_eq 23 dX7_excess_14 rfl hr6 (fun c7 => ?_) (fun c7 => ?_)
  · have h := h.1 c7
    refine r_al0 dX7_excess_23 ?_
    refine r_al0 dX7_excess_24 ?_
    refine r_getR B 22 fg_X7_18 kd_0 (kl kd_0) (ρo (off := 22) kd_0 rfl) dX7_excess_25 ?_
    refine r_il1 dX7_excess_28 ?_
    obtain ⟨o8, h⟩ := h
    refine r_aald B _ kd_22 (kl kd_22) (by decide) o8 (ρa (b := 83) kd_22 rfl) dX7_excess_29 ?_
    refine r_il2 dX7_excess_30 ?_
    refine r_cVV2 B cb_X7_layTimes lk_X7_155 cv_X7_layTimes kd_0 (c_X7_layTimes (xl x) E (isC_codesI o8) hp1 mμ5 h) rfl rfl dX7_excess_31 (fun μ9 mμ9 h => ?_)
    refine r_al0 dX7_excess_34 ?_
    refine r_al0 dX7_excess_35 ?_
    refine r_getR B 70 fg_X7_37 kd_0 (kl kd_0) (ρo (off := 70) kd_0 rfl) dX7_excess_36 ?_
    refine r_cVI0 B cb_X3_timesTooMany lk_X7_175 cv_X3_timesTooMany kd_70 (c_X3_timesTooMany (xl x) E mμ9 h) rfl rfl dX7_excess_39 (fun r11 μ10 hr11 mμ10 h => ?_)
    refine r_cVI1 B cb_X7_accept lk_X7_100 cv_X7_accept kd_0 (c_X7_accept (xl x) E hr11 mμ10 h) rfl rfl dX7_excess_42 (fun r13 μ12 hr13 mμ12 h => ?_)
    exact r_iret B hr hr13 mμ12 dX7_excess_45 h
  · have h := h.2 c7
    refine r_al0 dX7_excess_17 ?_
    refine r_il3 dX7_excess_18 ?_
    refine r_cVI1 B cb_X7_refuse lk_X7_70 cv_X7_refuse kd_0 (c_X7_refuse (xl x) E hr6 mμ5 h) rfl rfl dX7_excess_19 (fun r15 μ14 hr15 mμ14 h => ?_)
    exact r_iret B hr hr15 mμ14 dX7_excess_22 h
set_option maxRecDepth 20000 in
theorem c_X7_bound (l : Launch) (E : Gx) {p0 : Int} {p1 : Int} {μ : Mem} {Q : Int → Mem → Prop} (hp0 : inR p0) (hp1 : inR p1) (hμ : okM μ) (h : wp_X7_bound p0 p1 μ Q) : MT l yX7_bound cX7_bound 4 (some .int) E 5 0 0 z0 [rv E 0, iv p0, iv p1] μ (QI E z0 Q) := by
  refine m_start [some (rv E 0), some (iv p0), some (iv p1), none] (by decide) rfl rfl rfl (fun x hxl hxc hxs B hr hnm => ?_)
  unfold wp_X7_bound at h
  refine r_al0 dX7_bound_0 ?_
  refine r_il1 dX7_bound_1 ?_
  refine r_cVI1 B cb_X7_isCode lk_X7_103 cv_X7_isCode kd_0 (c_X7_isCode (xl x) E hp0 hμ h) rfl rfl dX7_bound_2 (fun r2 μ1 hr2 mμ1 h => ?_)
  refine r_il2 dX7_bound_5 ?_
  refine r_cSI1 B cb_X7_isSlips lk_X7_141 cs_X7_isSlips (c_X7_isSlips (xl x) E hp1 mμ1 h) rfl rfl dX7_bound_6 (fun r4 μ3 hr4 mμ3 h => ?_)
  refine r_cSI2 B cb_X7_flawOf lk_X7_144 cs_X7_flawOf (c_X7_flawOf (xl x) E hr2 hr4 mμ3 h) rfl rfl dX7_bound_9 (fun r6 μ5 hr6 mμ5 h => ?_)
  refine r_is3 dX7_bound_12 rfl ?_
  refine r_il3 dX7_bound_13 ?_
  refine r_if_eq 23 dX7_bound_14 rfl hr6 (fun c7 => ?_) (fun c7 => ?_)
  · have h := h.1 c7
    refine r_al0 dX7_bound_23 ?_
    refine r_getR B 70 fg_X7_37 kd_0 (kl kd_0) (ρo (off := 70) kd_0 rfl) dX7_bound_24 ?_
    refine r_al0 dX7_bound_27 ?_
    refine r_getR B 22 fg_X7_18 kd_0 (kl kd_0) (ρo (off := 22) kd_0 rfl) dX7_bound_28 ?_
    refine r_il1 dX7_bound_31 ?_
    obtain ⟨o8, h⟩ := h
    refine r_aald B _ kd_22 (kl kd_22) (by decide) o8 (ρa (b := 83) kd_22 rfl) dX7_bound_32 ?_
    refine r_cVV1 B cb_X3_lay lk_X7_130 cv_X3_lay kd_70 (c_X3_lay (xl x) E (isC_codesI o8) mμ5 h) rfl rfl dX7_bound_33 (fun μ9 mμ9 h => ?_)
    refine r_al0 dX7_bound_36 ?_
    refine r_al0 dX7_bound_37 ?_
    refine r_getR B 70 fg_X7_37 kd_0 (kl kd_0) (ρo (off := 70) kd_0 rfl) dX7_bound_38 ?_
    refine r_il2 dX7_bound_41 ?_
    refine r_cVI1 B cb_X3_fewestByCount lk_X7_179 cv_X3_fewestByCount kd_70 (c_X3_fewestByCount (xl x) E hp1 mμ9 h) rfl rfl dX7_bound_42 (fun r11 μ10 hr11 mμ10 h => ?_)
    refine r_cVI1 B cb_X7_accept lk_X7_100 cv_X7_accept kd_0 (c_X7_accept (xl x) E hr11 mμ10 h) rfl rfl dX7_bound_45 (fun r13 μ12 hr13 mμ12 h => ?_)
    exact r_iret B hr hr13 mμ12 dX7_bound_48 h
  · have h := h.2 c7
    refine r_al0 dX7_bound_17 ?_
    refine r_il3 dX7_bound_18 ?_
    refine r_cVI1 B cb_X7_refuse lk_X7_70 cv_X7_refuse kd_0 (c_X7_refuse (xl x) E hr6 mμ5 h) rfl rfl dX7_bound_19 (fun r15 μ14 hr15 mμ14 h => ?_)
    exact r_iret B hr hr15 mμ14 dX7_bound_22 h
set_option maxRecDepth 20000 in
theorem t_X7_pairs_14 {x : Cx} {E : Gx} (B : Bd x E 4 4 "SlipCovers") (hr : (xt x).sig.returnType = (some .int)) {Q : Int → Mem → Prop} {v1 : Int} {v2 : Int} {s0 : Int} {s1 : Int} {μ : Mem} (hv1 : inR v1) (hv2 : inR v2) (hs0 : inR s0) (hs1 : inR s1) (hμ : okM μ) (h : wp_X7_pairs_14 Q v1 v2 s0 s1 μ) : J cX7_pairs x E z0 μ 14 [some (rv E 0), some (iv v1), some (iv v2), none] [iv s1, iv s0] (MQ (xb x) (QI E z0 Q) (xa x) (xs x) 0 0 (gA E)) := by
  unfold wp_X7_pairs_14 at h
  refine r_cSI2 B cb_X7_flawOf lk_X7_144 cs_X7_flawOf (c_X7_flawOf (xl x) E hs0 hs1 hμ h) rfl rfl dX7_pairs_14 (fun r5 μ4 hr5 mμ4 h => ?_)
  refine r_is3 dX7_pairs_17 rfl ?_
  refine r_il3 dX7_pairs_18 ?_
  refine r_if_eq 28 dX7_pairs_19 rfl hr5 (fun c6 => ?_) (fun c6 => ?_)
  · have h := h.1 c6
    refine r_al0 dX7_pairs_28 ?_
    refine r_getR B 70 fg_X7_37 kd_0 (kl kd_0) (ρo (off := 70) kd_0 rfl) dX7_pairs_29 ?_
    refine r_al0 dX7_pairs_32 ?_
    refine r_getR B 22 fg_X7_18 kd_0 (kl kd_0) (ρo (off := 22) kd_0 rfl) dX7_pairs_33 ?_
    refine r_il1 dX7_pairs_36 ?_
    obtain ⟨o7, h⟩ := h
    refine r_aald B _ kd_22 (kl kd_22) (by decide) o7 (ρa (b := 83) kd_22 rfl) dX7_pairs_37 ?_
    refine r_cVV1 B cb_X3_lay lk_X7_130 cv_X3_lay kd_70 (c_X3_lay (xl x) E (isC_codesI o7) mμ4 h) rfl rfl dX7_pairs_38 (fun μ8 mμ8 h => ?_)
    refine r_al0 dX7_pairs_41 ?_
    refine r_al0 dX7_pairs_42 ?_
    refine r_getR B 70 fg_X7_37 kd_0 (kl kd_0) (ρo (off := 70) kd_0 rfl) dX7_pairs_43 ?_
    refine r_al0 dX7_pairs_46 ?_
    refine r_getR B 22 fg_X7_18 kd_0 (kl kd_0) (ρo (off := 22) kd_0 rfl) dX7_pairs_47 ?_
    refine r_il1 dX7_pairs_50 ?_
    refine r_aald B _ kd_22 (kl kd_22) (by decide) o7 (ρa (b := 83) kd_22 rfl) dX7_pairs_51 ?_
    refine r_il2 dX7_pairs_52 ?_
    refine r_cVI2 B cb_X3_pairsApart lk_X7_182 cv_X3_pairsApart kd_70 (c_X3_pairsApart (xl x) E (isC_codesI o7) hv2 mμ8 h) rfl rfl dX7_pairs_53 (fun r10 μ9 hr10 mμ9 h => ?_)
    refine r_cVI1 B cb_X7_accept lk_X7_100 cv_X7_accept kd_0 (c_X7_accept (xl x) E hr10 mμ9 h) rfl rfl dX7_pairs_56 (fun r12 μ11 hr12 mμ11 h => ?_)
    exact r_iret B hr hr12 mμ11 dX7_pairs_59 h
  · have h := h.2 c6
    refine r_al0 dX7_pairs_22 ?_
    refine r_il3 dX7_pairs_23 ?_
    refine r_cVI1 B cb_X7_refuse lk_X7_70 cv_X7_refuse kd_0 (c_X7_refuse (xl x) E hr5 mμ4 h) rfl rfl dX7_pairs_24 (fun r14 μ13 hr14 mμ13 h => ?_)
    exact r_iret B hr hr14 mμ13 dX7_pairs_27 h
set_option maxRecDepth 20000 in
theorem c_X7_pairs (l : Launch) (E : Gx) {p0 : Int} {p1 : Int} {μ : Mem} {Q : Int → Mem → Prop} (hp0 : inR p0) (hp1 : inR p1) (hμ : okM μ) (h : wp_X7_pairs p0 p1 μ Q) : MT l yX7_pairs cX7_pairs 4 (some .int) E 4 0 0 z0 [rv E 0, iv p0, iv p1] μ (QI E z0 Q) := by
  refine m_start [some (rv E 0), some (iv p0), some (iv p1), none] (by decide) rfl rfl rfl (fun x hxl hxc hxs B hr hnm => ?_)
  unfold wp_X7_pairs at h
  refine r_al0 dX7_pairs_0 ?_
  refine r_il1 dX7_pairs_1 ?_
  refine r_cVI1 B cb_X7_isCode lk_X7_103 cv_X7_isCode kd_0 (c_X7_isCode (xl x) E hp0 hμ h) rfl rfl dX7_pairs_2 (fun r2 μ1 hr2 mμ1 h => ?_)
  refine r_il2 dX7_pairs_5 ?_
  refine r_if_lt 13 dX7_pairs_6 rfl hp1 (fun c3 => ?_) (fun c3 => ?_)
  · have h := h.1 c3
    refine r_iconst dX7_pairs_13 ?_
    exact J_weak (t_X7_pairs_14 B hr hp0 hp1 hr2 (inR_k rfl) mμ1 h) (⟨rfl, ⟨rfl, ⟨rfl, trivial⟩⟩⟩)
  · have h := h.2 c3
    refine r_iconst dX7_pairs_9 ?_
    refine r_goto 14 dX7_pairs_10 rfl ?_
    exact J_weak (t_X7_pairs_14 B hr hp0 hp1 hr2 (inR_k rfl) mμ1 h) (⟨rfl, ⟨rfl, ⟨rfl, trivial⟩⟩⟩)
set_option maxRecDepth 20000 in
theorem c_X7_centre (l : Launch) (E : Gx) {p0 : Int} {p1 : Int} {μ : Mem} {Q : Int → Mem → Prop} (hp0 : inR p0) (hp1 : inR p1) (hμ : okM μ) (h : wp_X7_centre p0 p1 μ Q) : MT l yX7_centre cX7_centre 4 (some .int) E 5 0 0 z0 [rv E 0, iv p0, iv p1] μ (QI E z0 Q) := by
  refine m_start [some (rv E 0), some (iv p0), some (iv p1), none] (by decide) rfl rfl rfl (fun x hxl hxc hxs B hr hnm => ?_)
  unfold wp_X7_centre at h
  refine r_al0 dX7_centre_0 ?_
  refine r_il1 dX7_centre_1 ?_
  refine r_cVI1 B cb_X7_isCode lk_X7_103 cv_X7_isCode kd_0 (c_X7_isCode (xl x) E hp0 hμ h) rfl rfl dX7_centre_2 (fun r2 μ1 hr2 mμ1 h => ?_)
  refine r_if_eq 17 dX7_centre_5 rfl hr2 (fun c3 => ?_) (fun c3 => ?_)
  · have h := h.1 c3
    refine r_al0 dX7_centre_17 ?_
    refine r_iconst dX7_centre_18 ?_
    refine r_cVI1 B cb_X7_refuse lk_X7_70 cv_X7_refuse kd_0 (c_X7_refuse (xl x) E (inR_k rfl) mμ1 h) rfl rfl dX7_centre_19 (fun r5 μ4 hr5 mμ4 h => ?_)
    exact r_iret B hr hr5 mμ4 dX7_centre_22 h
  · have h := h.2 c3
    refine r_il2 dX7_centre_8 ?_
    refine r_if_lt 17 dX7_centre_9 rfl hp1 (fun c6 => ?_) (fun c6 => ?_)
    · have h := h.1 c6
      refine r_al0 dX7_centre_17 ?_
      refine r_iconst dX7_centre_18 ?_
      refine r_cVI1 B cb_X7_refuse lk_X7_70 cv_X7_refuse kd_0 (c_X7_refuse (xl x) E (inR_k rfl) mμ1 h) rfl rfl dX7_centre_19 (fun r8 μ7 hr8 mμ7 h => ?_)
      exact r_iret B hr hr8 mμ7 dX7_centre_22 h
    · have h := h.2 c6
      refine r_il2 dX7_centre_12 ?_
      refine r_iconst dX7_centre_13 ?_
      refine r_icmp_le 23 dX7_centre_14 rfl hp1 (inR_k rfl) (fun c9 => ?_) (fun c9 => ?_)
      · have h := h.1 c9
        refine r_al0 dX7_centre_23 ?_
        refine r_getR B 22 fg_X7_18 kd_0 (kl kd_0) (ρo (off := 22) kd_0 rfl) dX7_centre_24 ?_
        refine r_il1 dX7_centre_27 ?_
        obtain ⟨o10, h⟩ := h
        refine r_aald B _ kd_22 (kl kd_22) (by decide) o10 (ρa (b := 83) kd_22 rfl) dX7_centre_28 ?_
        refine r_getIN B fg_X7_185 ((isC_codesI o10)).1 (kl ((isC_codesI o10)).1) dX7_centre_29 ?_
        refine r_if_ne 41 dX7_centre_32 rfl (mμ1 (83 + 4 * p0.toNat) 3) (fun c11 => ?_) (fun c11 => ?_)
        · have h := h.1 c11
          refine r_al0 dX7_centre_41 ?_
          refine r_getR B 70 fg_X7_37 kd_0 (kl kd_0) (ρo (off := 70) kd_0 rfl) dX7_centre_42 ?_
          refine r_al0 dX7_centre_45 ?_
          refine r_getR B 22 fg_X7_18 kd_0 (kl kd_0) (ρo (off := 22) kd_0 rfl) dX7_centre_46 ?_
          refine r_il1 dX7_centre_49 ?_
          refine r_aald B _ kd_22 (kl kd_22) (by decide) o10 (ρa (b := 83) kd_22 rfl) dX7_centre_50 ?_
          refine r_cVV1 B cb_X3_lay lk_X7_130 cv_X3_lay kd_70 (c_X3_lay (xl x) E (isC_codesI o10) mμ1 h) rfl rfl dX7_centre_51 (fun μ12 mμ12 h => ?_)
          refine r_al0 dX7_centre_54 ?_
          refine r_getR B 70 fg_X7_37 kd_0 (kl kd_0) (ρo (off := 70) kd_0 rfl) dX7_centre_55 ?_
          refine r_al0 dX7_centre_58 ?_
          refine r_getR B 22 fg_X7_18 kd_0 (kl kd_0) (ρo (off := 22) kd_0 rfl) dX7_centre_59 ?_
          refine r_il1 dX7_centre_62 ?_
          refine r_aald B _ kd_22 (kl kd_22) (by decide) o10 (ρa (b := 83) kd_22 rfl) dX7_centre_63 ?_
          refine r_cVI1 B cb_X3_middle lk_X7_188 cv_X3_middle kd_70 (c_X3_middle (xl x) E (isC_codesI o10) mμ12 h) rfl rfl dX7_centre_64 (fun r14 μ13 hr14 mμ13 h => ?_)
          refine r_is3 dX7_centre_67 rfl ?_
          refine r_al0 dX7_centre_68 ?_
          refine r_il2 dX7_centre_69 ?_
          refine r_if_ne 77 dX7_centre_70 rfl hp1 (fun c15 => ?_) (fun c15 => ?_)
          · have h := h.1 c15
            refine r_al0 dX7_centre_77 ?_
            refine r_getR B 70 fg_X7_37 kd_0 (kl kd_0) (ρo (off := 70) kd_0 rfl) dX7_centre_78 ?_
            refine r_al0 dX7_centre_81 ?_
            refine r_getR B 22 fg_X7_18 kd_0 (kl kd_0) (ρo (off := 22) kd_0 rfl) dX7_centre_82 ?_
            refine r_il1 dX7_centre_85 ?_
            refine r_aald B _ kd_22 (kl kd_22) (by decide) o10 (ρa (b := 83) kd_22 rfl) dX7_centre_86 ?_
            refine r_il3 dX7_centre_87 ?_
            refine r_cVI2 B cb_X3_farthest lk_X7_192 cv_X3_farthest kd_70 (c_X3_farthest (xl x) E (isC_codesI o10) hr14 mμ13 h) rfl rfl dX7_centre_88 (fun r17 μ16 hr17 mμ16 h => ?_)
            refine r_cVI1 B cb_X7_accept lk_X7_100 cv_X7_accept kd_0 (c_X7_accept (xl x) E hr17 mμ16 h) rfl rfl dX7_centre_91 (fun r19 μ18 hr19 mμ18 h => ?_)
            exact r_iret B hr hr19 mμ18 dX7_centre_94 h
          · have h := h.2 c15
            refine r_il3 dX7_centre_73 ?_
            refine r_goto 91 dX7_centre_74 rfl ?_
            refine r_cVI1 B cb_X7_accept lk_X7_100 cv_X7_accept kd_0 (c_X7_accept (xl x) E hr14 mμ13 h) rfl rfl dX7_centre_91 (fun r21 μ20 hr21 mμ20 h => ?_)
            exact r_iret B hr hr21 mμ20 dX7_centre_94 h
        · have h := h.2 c11
          refine r_al0 dX7_centre_35 ?_
          refine r_iconst dX7_centre_36 ?_
          refine r_cVI1 B cb_X7_refuse lk_X7_70 cv_X7_refuse kd_0 (c_X7_refuse (xl x) E (inR_k rfl) mμ1 h) rfl rfl dX7_centre_37 (fun r23 μ22 hr23 mμ22 h => ?_)
          exact r_iret B hr hr23 mμ22 dX7_centre_40 h
      · have h := h.2 c9
        refine r_al0 dX7_centre_17 ?_
        refine r_iconst dX7_centre_18 ?_
        refine r_cVI1 B cb_X7_refuse lk_X7_70 cv_X7_refuse kd_0 (c_X7_refuse (xl x) E (inR_k rfl) mμ1 h) rfl rfl dX7_centre_19 (fun r25 μ24 hr25 mμ24 h => ?_)
        exact r_iret B hr hr25 mμ24 dX7_centre_22 h
set_option maxRecDepth 20000 in
theorem c_X7_nearest (l : Launch) (E : Gx) {p0 : Int} {p1 : Int} {μ : Mem} {Q : Int → Mem → Prop} (hp0 : inR p0) (hp1 : inR p1) (hμ : okM μ) (h : wp_X7_nearest p0 p1 μ Q) : MT l yX7_nearest cX7_nearest 3 (some .int) E 4 0 0 z0 [rv E 0, iv p0, iv p1] μ (QI E z0 Q) := by
  refine m_start [some (rv E 0), some (iv p0), some (iv p1)] (by decide) rfl rfl rfl (fun x hxl hxc hxs B hr hnm => ?_)
  unfold wp_X7_nearest at h
  refine r_al0 dX7_nearest_0 ?_
  refine r_il1 dX7_nearest_1 ?_
  refine r_il2 dX7_nearest_2 ?_
  refine r_cVI2 B cb_X7_isWord lk_X7_124 cv_X7_isWord kd_0 (c_X7_isWord (xl x) E hp0 hp1 hμ h) rfl rfl dX7_nearest_3 (fun r2 μ1 hr2 mμ1 h => ?_)
  refine r_if_ne 15 dX7_nearest_6 rfl hr2 (fun c3 => ?_) (fun c3 => ?_)
  · have h := h.1 c3
    refine r_al0 dX7_nearest_15 ?_
    refine r_getR B 22 fg_X7_18 kd_0 (kl kd_0) (ρo (off := 22) kd_0 rfl) dX7_nearest_16 ?_
    refine r_il1 dX7_nearest_19 ?_
    obtain ⟨o4, h⟩ := h
    refine r_aald B _ kd_22 (kl kd_22) (by decide) o4 (ρa (b := 83) kd_22 rfl) dX7_nearest_20 ?_
    refine r_getIN B fg_X7_185 ((isC_codesI o4)).1 (kl ((isC_codesI o4)).1) dX7_nearest_21 ?_
    refine r_if_ne 33 dX7_nearest_24 rfl (mμ1 (83 + 4 * p0.toNat) 3) (fun c5 => ?_) (fun c5 => ?_)
    · have h := h.1 c5
      refine r_al0 dX7_nearest_33 ?_
      refine r_getR B 70 fg_X7_37 kd_0 (kl kd_0) (ρo (off := 70) kd_0 rfl) dX7_nearest_34 ?_
      refine r_al0 dX7_nearest_37 ?_
      refine r_getR B 22 fg_X7_18 kd_0 (kl kd_0) (ρo (off := 22) kd_0 rfl) dX7_nearest_38 ?_
      refine r_il1 dX7_nearest_41 ?_
      refine r_aald B _ kd_22 (kl kd_22) (by decide) o4 (ρa (b := 83) kd_22 rfl) dX7_nearest_42 ?_
      refine r_cVV1 B cb_X3_lay lk_X7_130 cv_X3_lay kd_70 (c_X3_lay (xl x) E (isC_codesI o4) mμ1 h) rfl rfl dX7_nearest_43 (fun μ6 mμ6 h => ?_)
      refine r_al0 dX7_nearest_46 ?_
      refine r_al0 dX7_nearest_47 ?_
      refine r_getR B 70 fg_X7_37 kd_0 (kl kd_0) (ρo (off := 70) kd_0 rfl) dX7_nearest_48 ?_
      refine r_al0 dX7_nearest_51 ?_
      refine r_getR B 22 fg_X7_18 kd_0 (kl kd_0) (ρo (off := 22) kd_0 rfl) dX7_nearest_52 ?_
      refine r_il1 dX7_nearest_55 ?_
      refine r_aald B _ kd_22 (kl kd_22) (by decide) o4 (ρa (b := 83) kd_22 rfl) dX7_nearest_56 ?_
      refine r_il2 dX7_nearest_57 ?_
      refine r_cVI2 B cb_X3_closest lk_X7_195 cv_X3_closest kd_70 (c_X3_closest (xl x) E (isC_codesI o4) hp1 mμ6 h) rfl rfl dX7_nearest_58 (fun r8 μ7 hr8 mμ7 h => ?_)
      refine r_cVI1 B cb_X7_accept lk_X7_100 cv_X7_accept kd_0 (c_X7_accept (xl x) E hr8 mμ7 h) rfl rfl dX7_nearest_61 (fun r10 μ9 hr10 mμ9 h => ?_)
      exact r_iret B hr hr10 mμ9 dX7_nearest_64 h
    · have h := h.2 c5
      refine r_al0 dX7_nearest_27 ?_
      refine r_iconst dX7_nearest_28 ?_
      refine r_cVI1 B cb_X7_refuse lk_X7_70 cv_X7_refuse kd_0 (c_X7_refuse (xl x) E (inR_k rfl) mμ1 h) rfl rfl dX7_nearest_29 (fun r12 μ11 hr12 mμ11 h => ?_)
      exact r_iret B hr hr12 mμ11 dX7_nearest_32 h
  · have h := h.2 c3
    refine r_al0 dX7_nearest_9 ?_
    refine r_iconst dX7_nearest_10 ?_
    refine r_cVI1 B cb_X7_refuse lk_X7_70 cv_X7_refuse kd_0 (c_X7_refuse (xl x) E (inR_k rfl) mμ1 h) rfl rfl dX7_nearest_11 (fun r14 μ13 hr14 mμ13 h => ?_)
    exact r_iret B hr hr14 mμ13 dX7_nearest_14 h
set_option maxRecDepth 20000 in
theorem t_X7_ring_15 {x : Cx} {E : Gx} (B : Bd x E 4 5 "SlipCovers") (hr : (xt x).sig.returnType = (some .int)) {Q : Int → Mem → Prop} {v1 : Int} {v2 : Int} {v3 : Int} {s0 : Int} {s1 : Int} {μ : Mem} (hv1 : inR v1) (hv2 : inR v2) (hv3 : inR v3) (hs0 : inR s0) (hs1 : inR s1) (hμ : okM μ) (h : wp_X7_ring_15 Q v1 v2 v3 s0 s1 μ) : J cX7_ring x E z0 μ 15 [some (rv E 0), some (iv v1), some (iv v2), some (iv v3), none] [iv s1, iv s0] (MQ (xb x) (QI E z0 Q) (xa x) (xs x) 0 0 (gA E)) := by
  unfold wp_X7_ring_15 at h
  refine r_cSI2 B cb_X7_flawOf lk_X7_144 cs_X7_flawOf (c_X7_flawOf (xl x) E hs0 hs1 hμ h) rfl rfl dX7_ring_15 (fun r5 μ4 hr5 mμ4 h => ?_)
  refine r_is4 dX7_ring_18 rfl ?_
  refine r_il4 dX7_ring_20 ?_
  refine r_if_eq 32 dX7_ring_22 rfl hr5 (fun c6 => ?_) (fun c6 => ?_)
  · have h := h.1 c6
    refine r_al0 dX7_ring_32 ?_
    refine r_getR B 70 fg_X7_37 kd_0 (kl kd_0) (ρo (off := 70) kd_0 rfl) dX7_ring_33 ?_
    refine r_al0 dX7_ring_36 ?_
    refine r_getR B 22 fg_X7_18 kd_0 (kl kd_0) (ρo (off := 22) kd_0 rfl) dX7_ring_37 ?_
    refine r_il1 dX7_ring_40 ?_
    obtain ⟨o7, h⟩ := h
    refine r_aald B _ kd_22 (kl kd_22) (by decide) o7 (ρa (b := 83) kd_22 rfl) dX7_ring_41 ?_
    refine r_cVV1 B cb_X3_lay lk_X7_130 cv_X3_lay kd_70 (c_X3_lay (xl x) E (isC_codesI o7) mμ4 h) rfl rfl dX7_ring_42 (fun μ8 mμ8 h => ?_)
    refine r_al0 dX7_ring_45 ?_
    refine r_al0 dX7_ring_46 ?_
    refine r_getR B 70 fg_X7_37 kd_0 (kl kd_0) (ρo (off := 70) kd_0 rfl) dX7_ring_47 ?_
    refine r_al0 dX7_ring_50 ?_
    refine r_getR B 22 fg_X7_18 kd_0 (kl kd_0) (ρo (off := 22) kd_0 rfl) dX7_ring_51 ?_
    refine r_il1 dX7_ring_54 ?_
    refine r_aald B _ kd_22 (kl kd_22) (by decide) o7 (ρa (b := 83) kd_22 rfl) dX7_ring_55 ?_
    refine r_il2 dX7_ring_56 ?_
    refine r_il3 dX7_ring_57 ?_
    refine r_cVI3 B cb_X3_codewordsAt lk_X7_198 cv_X3_codewordsAt kd_70 (c_X3_codewordsAt (xl x) E (isC_codesI o7) hv2 hv3 mμ8 h) rfl rfl dX7_ring_58 (fun r10 μ9 hr10 mμ9 h => ?_)
    refine r_cVI1 B cb_X7_accept lk_X7_100 cv_X7_accept kd_0 (c_X7_accept (xl x) E hr10 mμ9 h) rfl rfl dX7_ring_61 (fun r12 μ11 hr12 mμ11 h => ?_)
    exact r_iret B hr hr12 mμ11 dX7_ring_64 h
  · have h := h.2 c6
    refine r_al0 dX7_ring_25 ?_
    refine r_il4 dX7_ring_26 ?_
    refine r_cVI1 B cb_X7_refuse lk_X7_70 cv_X7_refuse kd_0 (c_X7_refuse (xl x) E hr5 mμ4 h) rfl rfl dX7_ring_28 (fun r14 μ13 hr14 mμ13 h => ?_)
    exact r_iret B hr hr14 mμ13 dX7_ring_31 h
set_option maxRecDepth 20000 in
theorem c_X7_ring (l : Launch) (E : Gx) {p0 : Int} {p1 : Int} {p2 : Int} {μ : Mem} {Q : Int → Mem → Prop} (hp0 : inR p0) (hp1 : inR p1) (hp2 : inR p2) (hμ : okM μ) (h : wp_X7_ring p0 p1 p2 μ Q) : MT l yX7_ring cX7_ring 5 (some .int) E 4 0 0 z0 [rv E 0, iv p0, iv p1, iv p2] μ (QI E z0 Q) := by
  refine m_start [some (rv E 0), some (iv p0), some (iv p1), some (iv p2), none] (by decide) rfl rfl rfl (fun x hxl hxc hxs B hr hnm => ?_)
  unfold wp_X7_ring at h
  refine r_al0 dX7_ring_0 ?_
  refine r_il1 dX7_ring_1 ?_
  refine r_il2 dX7_ring_2 ?_
  refine r_cVI2 B cb_X7_isWord lk_X7_124 cv_X7_isWord kd_0 (c_X7_isWord (xl x) E hp0 hp1 hμ h) rfl rfl dX7_ring_3 (fun r2 μ1 hr2 mμ1 h => ?_)
  refine r_il3 dX7_ring_6 ?_
  refine r_if_lt 14 dX7_ring_7 rfl hp2 (fun c3 => ?_) (fun c3 => ?_)
  · have h := h.1 c3
    refine r_iconst dX7_ring_14 ?_
    exact J_weak (t_X7_ring_15 B hr hp0 hp1 hp2 hr2 (inR_k rfl) mμ1 h) (⟨rfl, ⟨rfl, ⟨rfl, ⟨rfl, trivial⟩⟩⟩⟩)
  · have h := h.2 c3
    refine r_iconst dX7_ring_10 ?_
    refine r_goto 15 dX7_ring_11 rfl ?_
    exact J_weak (t_X7_ring_15 B hr hp0 hp1 hp2 hr2 (inR_k rfl) mμ1 h) (⟨rfl, ⟨rfl, ⟨rfl, ⟨rfl, trivial⟩⟩⟩⟩)
set_option maxRecDepth 20000 in
theorem c_X7_isDigit (l : Launch) (E : Gx) {p0 : Int} {p1 : Int} {p2 : Int} {μ : Mem} {Q : Int → Mem → Prop} (hp0 : inR p0) (hp1 : inR p1) (hp2 : inR p2) (hμ : okM μ) (h : wp_X7_isDigit p0 p1 p2 μ Q) : MT l yX7_isDigit cX7_isDigit 4 (some .boolean) E 1 0 0 z0 [rv E 0, iv p0, iv p1, iv p2] μ (QI E z0 Q) := by
  refine m_start [some (rv E 0), some (iv p0), some (iv p1), some (iv p2)] (by decide) rfl rfl rfl (fun x hxl hxc hxs B hr hnm => ?_)
  unfold wp_X7_isDigit at h
  refine r_il3 dX7_isDigit_0 ?_
  refine r_if_lt 23 dX7_isDigit_1 rfl hp2 (fun c1 => ?_) (fun c1 => ?_)
  · have h := h.1 c1
    refine r_iconst dX7_isDigit_23 ?_
    exact r_zret B hr (Or.inl rfl) hμ dX7_isDigit_24 h
  · have h := h.2 c1
    refine r_il3 dX7_isDigit_4 ?_
    refine r_al0 dX7_isDigit_5 ?_
    refine r_getR B 22 fg_X7_18 kd_0 (kl kd_0) (ρo (off := 22) kd_0 rfl) dX7_isDigit_6 ?_
    refine r_il1 dX7_isDigit_9 ?_
    obtain ⟨o2, h⟩ := h
    refine r_aald B _ kd_22 (kl kd_22) (by decide) o2 (ρa (b := 83) kd_22 rfl) dX7_isDigit_10 ?_
    refine r_getRN B ((83 + 4 * p0.toNat) + 1) fg_X7_114 ((isC_codesI o2)).1 (kl ((isC_codesI o2)).1) (ρo (off := 1) ((isC_codesI o2)).1 rfl) dX7_isDigit_11 ?_
    refine r_il2 dX7_isDigit_14 ?_
    obtain ⟨o3, h⟩ := h
    refine r_iald B ((isC_codesI o2)).2.1 (kl ((isC_codesI o2)).2.1) (by decide) o3 dX7_isDigit_15 ?_
    refine r_icmp_ge 23 dX7_isDigit_16 rfl hp2 (hμ _ _) (fun c4 => ?_) (fun c4 => ?_)
    · have h := h.1 c4
      refine r_iconst dX7_isDigit_23 ?_
      exact r_zret B hr (Or.inl rfl) hμ dX7_isDigit_24 h
    · have h := h.2 c4
      refine r_iconst dX7_isDigit_19 ?_
      refine r_goto 24 dX7_isDigit_20 rfl ?_
      exact r_zret B hr (Or.inr rfl) hμ dX7_isDigit_24 h
set_option maxRecDepth 20000 in
theorem c_X7_column (l : Launch) (E : Gx) {p0 : Int} {p1 : Int} {p2 : Int} {μ : Mem} {Q : Int → Mem → Prop} (hp0 : inR p0) (hp1 : inR p1) (hp2 : inR p2) (hμ : okM μ) (h : wp_X7_column p0 p1 p2 μ Q) : MT l yX7_column cX7_column 4 (some .int) E 4 0 0 z0 [rv E 0, iv p0, iv p1, iv p2] μ (QI E z0 Q) := by
  refine m_start [some (rv E 0), some (iv p0), some (iv p1), some (iv p2)] (by decide) rfl rfl rfl (fun x hxl hxc hxs B hr hnm => ?_)
  unfold wp_X7_column at h
  refine r_al0 dX7_column_0 ?_
  refine r_il1 dX7_column_1 ?_
  refine r_il2 dX7_column_2 ?_
  refine r_cVI2 B cb_X7_isPlace lk_X7_110 cv_X7_isPlace kd_0 (c_X7_isPlace (xl x) E hp0 hp1 hμ h) rfl rfl dX7_column_3 (fun r2 μ1 hr2 mμ1 h => ?_)
  refine r_if_ne 15 dX7_column_6 rfl hr2 (fun c3 => ?_) (fun c3 => ?_)
  · have h := h.1 c3
    refine r_al0 dX7_column_15 ?_
    refine r_il1 dX7_column_16 ?_
    refine r_il2 dX7_column_17 ?_
    refine r_il3 dX7_column_18 ?_
    refine r_cVI3 B cb_X7_isDigit lk_X7_201 cv_X7_isDigit kd_0 (c_X7_isDigit (xl x) E hp0 hp1 hp2 mμ1 h) rfl rfl dX7_column_19 (fun r5 μ4 hr5 mμ4 h => ?_)
    refine r_if_ne 31 dX7_column_22 rfl hr5 (fun c6 => ?_) (fun c6 => ?_)
    · have h := h.1 c6
      refine r_al0 dX7_column_31 ?_
      refine r_getR B 70 fg_X7_37 kd_0 (kl kd_0) (ρo (off := 70) kd_0 rfl) dX7_column_32 ?_
      refine r_al0 dX7_column_35 ?_
      refine r_getR B 22 fg_X7_18 kd_0 (kl kd_0) (ρo (off := 22) kd_0 rfl) dX7_column_36 ?_
      refine r_il1 dX7_column_39 ?_
      obtain ⟨o7, h⟩ := h
      refine r_aald B _ kd_22 (kl kd_22) (by decide) o7 (ρa (b := 83) kd_22 rfl) dX7_column_40 ?_
      refine r_cVV1 B cb_X3_lay lk_X7_130 cv_X3_lay kd_70 (c_X3_lay (xl x) E (isC_codesI o7) mμ4 h) rfl rfl dX7_column_41 (fun μ8 mμ8 h => ?_)
      refine r_al0 dX7_column_44 ?_
      refine r_al0 dX7_column_45 ?_
      refine r_getR B 70 fg_X7_37 kd_0 (kl kd_0) (ρo (off := 70) kd_0 rfl) dX7_column_46 ?_
      refine r_al0 dX7_column_49 ?_
      refine r_getR B 22 fg_X7_18 kd_0 (kl kd_0) (ρo (off := 22) kd_0 rfl) dX7_column_50 ?_
      refine r_il1 dX7_column_53 ?_
      refine r_aald B _ kd_22 (kl kd_22) (by decide) o7 (ρa (b := 83) kd_22 rfl) dX7_column_54 ?_
      refine r_il2 dX7_column_55 ?_
      refine r_il3 dX7_column_56 ?_
      refine r_cVI3 B cb_X3_codewordsWith lk_X7_205 cv_X3_codewordsWith kd_70 (c_X3_codewordsWith (xl x) E (isC_codesI o7) hp1 hp2 mμ8 h) rfl rfl dX7_column_57 (fun r10 μ9 hr10 mμ9 h => ?_)
      refine r_cVI1 B cb_X7_accept lk_X7_100 cv_X7_accept kd_0 (c_X7_accept (xl x) E hr10 mμ9 h) rfl rfl dX7_column_60 (fun r12 μ11 hr12 mμ11 h => ?_)
      exact r_iret B hr hr12 mμ11 dX7_column_63 h
    · have h := h.2 c6
      refine r_al0 dX7_column_25 ?_
      refine r_iconst dX7_column_26 ?_
      refine r_cVI1 B cb_X7_refuse lk_X7_70 cv_X7_refuse kd_0 (c_X7_refuse (xl x) E (inR_k rfl) mμ4 h) rfl rfl dX7_column_27 (fun r14 μ13 hr14 mμ13 h => ?_)
      exact r_iret B hr hr14 mμ13 dX7_column_30 h
  · have h := h.2 c3
    refine r_al0 dX7_column_9 ?_
    refine r_iconst dX7_column_10 ?_
    refine r_cVI1 B cb_X7_refuse lk_X7_70 cv_X7_refuse kd_0 (c_X7_refuse (xl x) E (inR_k rfl) mμ1 h) rfl rfl dX7_column_11 (fun r16 μ15 hr16 mμ15 h => ?_)
    exact r_iret B hr hr16 mμ15 dX7_column_14 h
set_option maxRecDepth 20000 in
theorem c_X7_worth (l : Launch) (E : Gx) {p0 : Int} {p1 : Int} {p2 : Int} {μ : Mem} {Q : Int → Mem → Prop} (hp0 : inR p0) (hp1 : inR p1) (hp2 : inR p2) (hμ : okM μ) (h : wp_X7_worth p0 p1 p2 μ Q) : MT l yX7_worth cX7_worth 5 (some .int) E 6 0 0 z0 [rv E 0, iv p0, iv p1, iv p2] μ (QI E z0 Q) := by
  refine m_start [some (rv E 0), some (iv p0), some (iv p1), some (iv p2), none] (by decide) rfl rfl rfl (fun x hxl hxc hxs B hr hnm => ?_)
  unfold wp_X7_worth at h
  refine r_al0 dX7_worth_0 ?_
  refine r_il1 dX7_worth_1 ?_
  refine r_il2 dX7_worth_2 ?_
  refine r_cVI2 B cb_X7_isWord lk_X7_124 cv_X7_isWord kd_0 (c_X7_isWord (xl x) E hp0 hp1 hμ h) rfl rfl dX7_worth_3 (fun r2 μ1 hr2 mμ1 h => ?_)
  refine r_il3 dX7_worth_6 ?_
  refine r_cSI1 B cb_X7_isSlips lk_X7_141 cs_X7_isSlips (c_X7_isSlips (xl x) E hp2 mμ1 h) rfl rfl dX7_worth_7 (fun r4 μ3 hr4 mμ3 h => ?_)
  refine r_cSI2 B cb_X7_flawOf lk_X7_144 cs_X7_flawOf (c_X7_flawOf (xl x) E hr2 hr4 mμ3 h) rfl rfl dX7_worth_10 (fun r6 μ5 hr6 mμ5 h => ?_)
  refine r_is4 dX7_worth_13 rfl ?_
  refine r_il4 dX7_worth_15 ?_
  refine r_if_eq 27 dX7_worth_17 rfl hr6 (fun c7 => ?_) (fun c7 => ?_)
  · have h := h.1 c7
    refine r_al0 dX7_worth_27 ?_
    refine r_getR B 22 fg_X7_18 kd_0 (kl kd_0) (ρo (off := 22) kd_0 rfl) dX7_worth_28 ?_
    refine r_il1 dX7_worth_31 ?_
    obtain ⟨o8, h⟩ := h
    refine r_aald B _ kd_22 (kl kd_22) (by decide) o8 (ρa (b := 83) kd_22 rfl) dX7_worth_32 ?_
    refine r_il2 dX7_worth_33 ?_
    refine r_cVI1 B cb_X1_holds lk_X7_127 cv_X1_holds ((isC_codesI o8)).1 (c_X1_holds (xl x) E (isC_codesI o8) hp1 mμ5 h) rfl rfl dX7_worth_34 (fun r10 μ9 hr10 mμ9 h => ?_)
    refine r_if_ne 46 dX7_worth_37 rfl hr10 (fun c11 => ?_) (fun c11 => ?_)
    · have h := h.1 c11
      refine r_al0 dX7_worth_46 ?_
      refine r_al0 dX7_worth_47 ?_
      refine r_getR B 22 fg_X7_18 kd_0 (kl kd_0) (ρo (off := 22) kd_0 rfl) dX7_worth_48 ?_
      refine r_il1 dX7_worth_51 ?_
      refine r_aald B _ kd_22 (kl kd_22) (by decide) o8 (ρa (b := 83) kd_22 rfl) dX7_worth_52 ?_
      refine r_il3 dX7_worth_53 ?_
      refine r_cVV2 B cb_X7_layTimes lk_X7_155 cv_X7_layTimes kd_0 (c_X7_layTimes (xl x) E (isC_codesI o8) hp2 mμ9 h) rfl rfl dX7_worth_54 (fun μ12 mμ12 h => ?_)
      refine r_al0 dX7_worth_57 ?_
      refine r_al0 dX7_worth_58 ?_
      refine r_getR B 70 fg_X7_37 kd_0 (kl kd_0) (ρo (off := 70) kd_0 rfl) dX7_worth_59 ?_
      refine r_il2 dX7_worth_62 ?_
      refine r_il3 dX7_worth_63 ?_
      refine r_cVI2 B cb_X3_onlyBy lk_X7_208 cv_X3_onlyBy kd_70 (c_X3_onlyBy (xl x) E hp1 hp2 mμ12 h) rfl rfl dX7_worth_64 (fun r14 μ13 hr14 mμ13 h => ?_)
      refine r_cVI1 B cb_X7_accept lk_X7_100 cv_X7_accept kd_0 (c_X7_accept (xl x) E hr14 mμ13 h) rfl rfl dX7_worth_67 (fun r16 μ15 hr16 mμ15 h => ?_)
      exact r_iret B hr hr16 mμ15 dX7_worth_70 h
    · have h := h.2 c11
      refine r_al0 dX7_worth_40 ?_
      refine r_iconst dX7_worth_41 ?_
      refine r_cVI1 B cb_X7_refuse lk_X7_70 cv_X7_refuse kd_0 (c_X7_refuse (xl x) E (inR_k rfl) mμ9 h) rfl rfl dX7_worth_42 (fun r18 μ17 hr18 mμ17 h => ?_)
      exact r_iret B hr hr18 mμ17 dX7_worth_45 h
  · have h := h.2 c7
    refine r_al0 dX7_worth_20 ?_
    refine r_il4 dX7_worth_21 ?_
    refine r_cVI1 B cb_X7_refuse lk_X7_70 cv_X7_refuse kd_0 (c_X7_refuse (xl x) E hr6 mμ5 h) rfl rfl dX7_worth_23 (fun r20 μ19 hr20 mμ19 h => ?_)
    exact r_iret B hr hr20 mμ19 dX7_worth_26 h
set_option maxRecDepth 20000 in
theorem t_X7_fewest_23 {x : Cx} {E : Gx} (B : Bd x E 17 5 "SlipCovers") (hr : (xt x).sig.returnType = (some .int)) {Q : Int → Mem → Prop} {v1 : Int} {v2 : Int} {v3 : Int} {s0 : Int} {μ : Mem} (hv1 : inR v1) (hv2 : inR v2) (hv3 : inR v3) (hs0 : inR s0) (hμ : okM μ) (h : wp_X7_fewest_23 Q v1 v2 v3 s0 μ) : J cX7_fewest x E z0 μ 23 [some (rv E 0), some (iv v1), some (iv v2), some (iv v3), none] [iv s0] (MQ (xb x) (QI E z0 Q) (xa x) (xs x) 0 0 (gA E)) := by
  unfold wp_X7_fewest_23 at h
  refine r_il2 dX7_fewest_23 ?_
  refine r_cSI1 B cb_X7_isSlips lk_X7_141 cs_X7_isSlips (c_X7_isSlips (xl x) E hv2 hμ h) rfl rfl dX7_fewest_24 (fun r5 μ4 hr5 mμ4 h => ?_)
  refine r_cSI2 B cb_X7_flawOf lk_X7_144 cs_X7_flawOf (c_X7_flawOf (xl x) E hs0 hr5 mμ4 h) rfl rfl dX7_fewest_27 (fun r7 μ6 hr7 mμ6 h => ?_)
  refine r_is4 dX7_fewest_30 rfl ?_
  refine r_il4 dX7_fewest_32 ?_
  refine r_if_eq 44 dX7_fewest_34 rfl hr7 (fun c8 => ?_) (fun c8 => ?_)
  · have h := h.1 c8
    refine r_al0 dX7_fewest_44 ?_
    refine r_getR B 22 fg_X7_18 kd_0 (kl kd_0) (ρo (off := 22) kd_0 rfl) dX7_fewest_45 ?_
    refine r_il1 dX7_fewest_48 ?_
    obtain ⟨o9, h⟩ := h
    refine r_aald B _ kd_22 (kl kd_22) (by decide) o9 (ρa (b := 83) kd_22 rfl) dX7_fewest_49 ?_
    refine r_getIN B fg_X7_211 ((isC_codesI o9)).1 (kl ((isC_codesI o9)).1) dX7_fewest_50 ?_
    refine r_bipush dX7_fewest_53 (by decide) ?_
    refine r_icmp_le 64 dX7_fewest_55 rfl (mμ6 (83 + 4 * v1.toNat) 2) (inR_k rfl) (fun c10 => ?_) (fun c10 => ?_)
    · have h := h.1 c10
      refine r_al0 dX7_fewest_64 ?_
      refine r_getR B 70 fg_X7_37 kd_0 (kl kd_0) (ρo (off := 70) kd_0 rfl) dX7_fewest_65 ?_
      refine r_al0 dX7_fewest_68 ?_
      refine r_getR B 22 fg_X7_18 kd_0 (kl kd_0) (ρo (off := 22) kd_0 rfl) dX7_fewest_69 ?_
      refine r_il1 dX7_fewest_72 ?_
      refine r_aald B _ kd_22 (kl kd_22) (by decide) o9 (ρa (b := 83) kd_22 rfl) dX7_fewest_73 ?_
      refine r_cVV1 B cb_X3_lay lk_X7_130 cv_X3_lay kd_70 (c_X3_lay (xl x) E (isC_codesI o9) mμ6 h) rfl rfl dX7_fewest_74 (fun μ11 mμ11 h => ?_)
      refine r_al0 dX7_fewest_77 ?_
      refine r_getR B 74 fg_X7_44 kd_0 (kl kd_0) (ρo (off := 74) kd_0 rfl) dX7_fewest_78 ?_
      refine r_al0 dX7_fewest_81 ?_
      refine r_getR B 70 fg_X7_37 kd_0 (kl kd_0) (ρo (off := 70) kd_0 rfl) dX7_fewest_82 ?_
      refine r_il2 dX7_fewest_85 ?_
      refine r_cVV2 B cb_X6_run lk_X7_212 cv_X6_run kd_74 (c_X6_run (xl x) E hv2 mμ11 h) rfl rfl dX7_fewest_86 (fun μ12 mμ12 h => ?_)
      refine r_al0 dX7_fewest_89 ?_
      refine r_al0 dX7_fewest_90 ?_
      refine r_getR B 74 fg_X7_44 kd_0 (kl kd_0) (ρo (off := 74) kd_0 rfl) dX7_fewest_91 ?_
      refine r_il3 dX7_fewest_94 ?_
      refine r_cVI1 B cb_X6_told lk_X7_216 cv_X6_told kd_74 (c_X6_told (xl x) E hv3 mμ12 h) rfl rfl dX7_fewest_95 (fun r14 μ13 hr14 mμ13 h => ?_)
      refine r_cVI1 B cb_X7_accept lk_X7_100 cv_X7_accept kd_0 (c_X7_accept (xl x) E hr14 mμ13 h) rfl rfl dX7_fewest_98 (fun r16 μ15 hr16 mμ15 h => ?_)
      exact r_iret B hr hr16 mμ15 dX7_fewest_101 h
    · have h := h.2 c10
      refine r_al0 dX7_fewest_58 ?_
      refine r_iconst dX7_fewest_59 ?_
      refine r_cVI1 B cb_X7_refuse lk_X7_70 cv_X7_refuse kd_0 (c_X7_refuse (xl x) E (inR_k rfl) mμ6 h) rfl rfl dX7_fewest_60 (fun r18 μ17 hr18 mμ17 h => ?_)
      exact r_iret B hr hr18 mμ17 dX7_fewest_63 h
  · have h := h.2 c8
    refine r_al0 dX7_fewest_37 ?_
    refine r_il4 dX7_fewest_38 ?_
    refine r_cVI1 B cb_X7_refuse lk_X7_70 cv_X7_refuse kd_0 (c_X7_refuse (xl x) E hr7 mμ6 h) rfl rfl dX7_fewest_40 (fun r20 μ19 hr20 mμ19 h => ?_)
    exact r_iret B hr hr20 mμ19 dX7_fewest_43 h
set_option maxRecDepth 20000 in
theorem t_X7_fewest_22 {x : Cx} {E : Gx} (B : Bd x E 17 5 "SlipCovers") (hr : (xt x).sig.returnType = (some .int)) {Q : Int → Mem → Prop} {v1 : Int} {v2 : Int} {v3 : Int} {μ : Mem} (hv1 : inR v1) (hv2 : inR v2) (hv3 : inR v3) (hμ : okM μ) (h : wp_X7_fewest_22 Q v1 v2 v3 μ) : J cX7_fewest x E z0 μ 22 [some (rv E 0), some (iv v1), some (iv v2), some (iv v3), none] [] (MQ (xb x) (QI E z0 Q) (xa x) (xs x) 0 0 (gA E)) := by
  unfold wp_X7_fewest_22 at h
  refine r_iconst dX7_fewest_22 ?_
  exact J_weak (t_X7_fewest_23 B hr hv1 hv2 hv3 (inR_k rfl) hμ h) (⟨rfl, ⟨rfl, ⟨rfl, ⟨rfl, trivial⟩⟩⟩⟩)
set_option maxRecDepth 20000 in
theorem c_X7_fewest (l : Launch) (E : Gx) {p0 : Int} {p1 : Int} {p2 : Int} {μ : Mem} {Q : Int → Mem → Prop} (hp0 : inR p0) (hp1 : inR p1) (hp2 : inR p2) (hμ : okM μ) (h : wp_X7_fewest p0 p1 p2 μ Q) : MT l yX7_fewest cX7_fewest 5 (some .int) E 17 0 0 z0 [rv E 0, iv p0, iv p1, iv p2] μ (QI E z0 Q) := by
  refine m_start [some (rv E 0), some (iv p0), some (iv p1), some (iv p2), none] (by decide) rfl rfl rfl (fun x hxl hxc hxs B hr hnm => ?_)
  unfold wp_X7_fewest at h
  refine r_al0 dX7_fewest_0 ?_
  refine r_il1 dX7_fewest_1 ?_
  refine r_cVI1 B cb_X7_isCode lk_X7_103 cv_X7_isCode kd_0 (c_X7_isCode (xl x) E hp0 hμ h) rfl rfl dX7_fewest_2 (fun r2 μ1 hr2 mμ1 h => ?_)
  refine r_if_eq 22 dX7_fewest_5 rfl hr2 (fun c3 => ?_) (fun c3 => ?_)
  · have h := h.1 c3
    exact J_weak (t_X7_fewest_22 B hr hp0 hp1 hp2 mμ1 h) (⟨rfl, ⟨rfl, ⟨rfl, ⟨rfl, trivial⟩⟩⟩⟩)
  · have h := h.2 c3
    refine r_il3 dX7_fewest_8 ?_
    refine r_if_lt 22 dX7_fewest_9 rfl hp2 (fun c21 => ?_) (fun c21 => ?_)
    · have h := h.1 c21
      exact J_weak (t_X7_fewest_22 B hr hp0 hp1 hp2 mμ1 h) (⟨rfl, ⟨rfl, ⟨rfl, ⟨rfl, trivial⟩⟩⟩⟩)
    · have h := h.2 c21
      refine r_il3 dX7_fewest_12 ?_
      refine r_bipush dX7_fewest_13 (by decide) ?_
      refine r_icmp_gt 22 dX7_fewest_15 rfl hp2 (inR_k rfl) (fun c22 => ?_) (fun c22 => ?_)
      · have h := h.1 c22
        exact J_weak (t_X7_fewest_22 B hr hp0 hp1 hp2 mμ1 h) (⟨rfl, ⟨rfl, ⟨rfl, ⟨rfl, trivial⟩⟩⟩⟩)
      · have h := h.2 c22
        refine r_iconst dX7_fewest_18 ?_
        refine r_goto 23 dX7_fewest_19 rfl ?_
        exact J_weak (t_X7_fewest_23 B hr hp0 hp1 hp2 (inR_k rfl) mμ1 h) (⟨rfl, ⟨rfl, ⟨rfl, ⟨rfl, trivial⟩⟩⟩⟩)

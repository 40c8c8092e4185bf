set_option maxRecDepth 20000 in
theorem c_X8_isOwn (l : Launch) (E : Gx) {μ : Mem} {Q : Int → Mem → Prop} (hμ : okM μ) (h : wp_X8_isOwn  μ Q) : MT l yX8_isOwn cX8_isOwn 1 (some .boolean) E 11 0 0 z0 [rv E 115] μ (QI E z0 Q) := by
  refine m_start [some (rv E 115)] (by decide) rfl rfl rfl (fun x hxl hxc hxs B hr hnm => ?_)
  unfold wp_X8_isOwn at h
  refine r_al0 dX8_isOwn_0 ?_
  refine r_ldcS B 3 rfl dX8_isOwn_1 ?_
  refine r_cVI1 B cb_X8_isWord lk_X8_125 cv_X8_isWord kd_115 (c_X8_isWord (xl x) E (by decide) hμ h) rfl rfl dX8_isOwn_3 (fun r2 μ1 hr2 mμ1 h => ?_)
  refine r_if_ne 27 dX8_isOwn_6 rfl hr2 (fun c3 => ?_) (fun c3 => ?_)
  · have h := h.1 c3
    refine r_iconst dX8_isOwn_27 ?_
    refine r_goto 32 dX8_isOwn_28 rfl ?_
    exact r_zret B hr (Or.inr rfl) mμ1 dX8_isOwn_32 h
  · have h := h.2 c3
    refine r_al0 dX8_isOwn_9 ?_
    refine r_ldcS B 4 rfl dX8_isOwn_10 ?_
    refine r_cVI1 B cb_X8_isWord lk_X8_125 cv_X8_isWord kd_115 (c_X8_isWord (xl x) E (by decide) mμ1 h) rfl rfl dX8_isOwn_12 (fun r5 μ4 hr5 mμ4 h => ?_)
    refine r_if_ne 27 dX8_isOwn_15 rfl hr5 (fun c6 => ?_) (fun c6 => ?_)
    · have h := h.1 c6
      refine r_iconst dX8_isOwn_27 ?_
      refine r_goto 32 dX8_isOwn_28 rfl ?_
      exact r_zret B hr (Or.inr rfl) mμ4 dX8_isOwn_32 h
    · have h := h.2 c6
      refine r_al0 dX8_isOwn_18 ?_
      refine r_ldcS B 5 rfl dX8_isOwn_19 ?_
      refine r_cVI1 B cb_X8_isWord lk_X8_125 cv_X8_isWord kd_115 (c_X8_isWord (xl x) E (by decide) mμ4 h) rfl rfl dX8_isOwn_21 (fun r8 μ7 hr8 mμ7 h => ?_)
      refine r_if_eq 31 dX8_isOwn_24 rfl hr8 (fun c9 => ?_) (fun c9 => ?_)
      · have h := h.1 c9
        refine r_iconst dX8_isOwn_31 ?_
        exact r_zret B hr (Or.inl rfl) mμ7 dX8_isOwn_32 h
      · have h := h.2 c9
        refine r_iconst dX8_isOwn_27 ?_
        refine r_goto 32 dX8_isOwn_28 rfl ?_
        exact r_zret B hr (Or.inr rfl) mμ7 dX8_isOwn_32 h
set_option maxRecDepth 20000 in
theorem c_X8_oneDigit (l : Launch) (E : Gx) {μ : Mem} {Q : Int → Mem → Prop} (hμ : okM μ) (h : wp_X8_oneDigit  μ Q) : MT l yX8_oneDigit cX8_oneDigit 1 (some .int) E 1 0 0 z0 [rv E 115] μ (QI E z0 Q) := by
  refine m_start [some (rv E 115)] (by decide) rfl rfl rfl (fun x hxl hxc hxs B hr hnm => ?_)
  unfold wp_X8_oneDigit at h
  refine r_al0 dX8_oneDigit_0 ?_
  refine r_getI B fg_X8_67 kd_115 (kl kd_115) dX8_oneDigit_1 ?_
  refine r_al0 dX8_oneDigit_4 ?_
  refine r_getI B fg_X8_54 kd_115 (kl kd_115) dX8_oneDigit_5 ?_
  refine r_isub dX8_oneDigit_8 ?_
  refine r_iconst dX8_oneDigit_9 ?_
  obtain ⟨o1, h⟩ := h
  refine r_icmp_ne 28 dX8_oneDigit_10 rfl o1 (inR_k rfl) (fun c2 => ?_) (fun c2 => ?_)
  · have h := h.1 c2
    refine r_iconst dX8_oneDigit_28 ?_
    exact r_iret B hr (inR_k rfl) hμ dX8_oneDigit_29 h
  · have h := h.2 c2
    refine r_al0 dX8_oneDigit_13 ?_
    refine r_getR B 116 fg_X8_13 kd_115 (kl kd_115) (ρo (off := 1) kd_115 rfl) dX8_oneDigit_14 ?_
    refine r_al0 dX8_oneDigit_17 ?_
    refine r_getI B fg_X8_54 kd_115 (kl kd_115) dX8_oneDigit_18 ?_
    obtain ⟨o3, h⟩ := h
    refine r_iald B kd_116 (kl kd_116) (by decide) o3 dX8_oneDigit_21 ?_
    refine r_bipush dX8_oneDigit_22 (by decide) ?_
    refine r_isub dX8_oneDigit_24 ?_
    refine r_goto 29 dX8_oneDigit_25 rfl ?_
    obtain ⟨o4, h⟩ := h
    exact r_iret B hr o4 hμ dX8_oneDigit_29 h
set_option maxRecDepth 20000 in
theorem t_X8_readSizes_73 {x : Cx} {E : Gx} (B : Bd x E 4 3 "SlipCoversModel") (hr : (xt x).sig.returnType = none) {Q : Mem → Prop} {X2 : Int → Int → Mem → Prop} (hX2 : ∀ (v1 : Int) (v2 : Int) (μ : Mem), X2 v1 v2 μ → inR v1 → inR v2 → okM μ → J cX8_readSizes x E z0 μ 2 [some (rv E 115), some (iv v1), some (iv v2)] [] (MQ (xb x) (QV E z0 Q) (xa x) (xs x) 0 0 (gA E))) {v1 : Int} {μ : Mem} (hv1 : inR v1) (hμ : okM μ) (h : wp_X8_readSizes_73 Q X2 v1 μ) : J cX8_readSizes x E z0 μ 73 [some (rv E 115), some (iv v1), none] [] (MQ (xb x) (QV E z0 Q) (xa x) (xs x) 0 0 (gA E)) := by
  unfold wp_X8_readSizes_73 at h
  refine r_al0 dX8_readSizes_73 ?_
  refine r_getI B fg_X8_51 kd_115 (kl kd_115) dX8_readSizes_74 ?_
  refine r_if_le 81 dX8_readSizes_77 rfl (hμ 115 7) (fun c12 => ?_) (fun c12 => ?_)
  · have h := h.1 c12
    refine r_al0 dX8_readSizes_81 ?_
    refine r_il1 dX8_readSizes_82 ?_
    refine r_al0 dX8_readSizes_83 ?_
    refine r_cVI0 B cb_X8_oneDigit lk_X8_137 cv_X8_oneDigit kd_115 (c_X8_oneDigit (xl x) E hμ h) rfl rfl dX8_readSizes_84 (fun r14 μ13 hr14 mμ13 h => ?_)
    refine r_iconst dX8_readSizes_87 ?_
    refine r_cVV3 B cb_X8_adds lk_X8_140 cv_X8_adds kd_115 (c_X8_adds (xl x) E hv1 hr14 (inR_k rfl) mμ13 h) rfl rfl dX8_readSizes_88 (fun μ15 mμ15 h => ?_)
    refine r_al0 dX8_readSizes_91 ?_
    refine r_cVV0 B cb_X8_goOn lk_X8_144 cv_X8_goOn kd_115 (c_X8_goOn (xl x) E mμ15 h) rfl rfl dX8_readSizes_92 (fun μ16 mμ16 h => ?_)
    refine r_al0 dX8_readSizes_95 ?_
    refine r_getI B fg_X8_51 kd_115 (kl kd_115) dX8_readSizes_96 ?_
    refine r_if_ne 114 dX8_readSizes_99 rfl (mμ16 115 7) (fun c17 => ?_) (fun c17 => ?_)
    · have h := h.1 c17
      refine r_iconst dX8_readSizes_114 ?_
      refine r_is2 dX8_readSizes_115 rfl ?_
      refine r_goto 2 dX8_readSizes_116 rfl ?_
      exact J_weak (hX2 v1 0 μ16 h hv1 (inR_k rfl) mμ16) (⟨rfl, ⟨rfl, ⟨rfl, trivial⟩⟩⟩)
    · have h := h.2 c17
      refine r_al0 dX8_readSizes_102 ?_
      refine r_getI B fg_X8_70 kd_115 (kl kd_115) dX8_readSizes_103 ?_
      refine r_iconst dX8_readSizes_106 ?_
      refine r_icmp_ne 114 dX8_readSizes_107 rfl (mμ16 115 9) (inR_k rfl) (fun c18 => ?_) (fun c18 => ?_)
      · have h := h.1 c18
        refine r_iconst dX8_readSizes_114 ?_
        refine r_is2 dX8_readSizes_115 rfl ?_
        refine r_goto 2 dX8_readSizes_116 rfl ?_
        exact J_weak (hX2 v1 0 μ16 h hv1 (inR_k rfl) mμ16) (⟨rfl, ⟨rfl, ⟨rfl, trivial⟩⟩⟩)
      · have h := h.2 c18
        refine r_iconst dX8_readSizes_110 ?_
        refine r_goto 115 dX8_readSizes_111 rfl ?_
        refine r_is2 dX8_readSizes_115 rfl ?_
        refine r_goto 2 dX8_readSizes_116 rfl ?_
        exact J_weak (hX2 v1 1 μ16 h hv1 (inR_k rfl) mμ16) (⟨rfl, ⟨rfl, ⟨rfl, trivial⟩⟩⟩)
  · have h := h.2 c12
    exact r_vret B hr hμ dX8_readSizes_80 h
set_option maxRecDepth 20000 in
theorem t_X8_readSizes_68 {x : Cx} {E : Gx} (B : Bd x E 4 3 "SlipCoversModel") (hr : (xt x).sig.returnType = none) {Q : Mem → Prop} {X2 : Int → Int → Mem → Prop} (hX2 : ∀ (v1 : Int) (v2 : Int) (μ : Mem), X2 v1 v2 μ → inR v1 → inR v2 → okM μ → J cX8_readSizes x E z0 μ 2 [some (rv E 115), some (iv v1), some (iv v2)] [] (MQ (xb x) (QV E z0 Q) (xa x) (xs x) 0 0 (gA E))) {v1 : Int} {μ : Mem} (hv1 : inR v1) (hμ : okM μ) (h : wp_X8_readSizes_68 Q X2 v1 μ) : J cX8_readSizes x E z0 μ 68 [some (rv E 115), some (iv v1), none] [] (MQ (xb x) (QV E z0 Q) (xa x) (xs x) 0 0 (gA E)) := by
  unfold wp_X8_readSizes_68 at h
  refine r_al0 dX8_readSizes_68 ?_
  refine r_iconst dX8_readSizes_69 ?_
  refine r_cVV1 B cb_X8_flaw lk_X8_133 cv_X8_flaw kd_115 (c_X8_flaw (xl x) E (inR_k rfl) hμ h) rfl rfl dX8_readSizes_70 (fun μ11 mμ11 h => ?_)
  exact J_weak (t_X8_readSizes_73 B hr hX2 hv1 mμ11 h) (⟨rfl, ⟨rfl, trivial⟩⟩)
set_option maxRecDepth 20000 in
theorem t_X8_readSizes_2 {x : Cx} {E : Gx} (B : Bd x E 4 3 "SlipCoversModel") (hr : (xt x).sig.returnType = none) {Q : Mem → Prop} {v1 : Int} {v2 : Int} {μ : Mem} (hv1 : inR v1) (hv2 : inR v2) (hμ : okM μ) (h : LP3 (wp_X8_readSizes_2 Q) v1 v2 μ) : J cX8_readSizes x E z0 μ 2 [some (rv E 115), some (iv v1), some (iv v2)] [] (MQ (xb x) (QV E z0 Q) (xa x) (xs x) 0 0 (gA E)) := by
  refine LP3_ind (T := fun (v1 : Int) (v2 : Int) (μ : Mem) => inR v1 → inR v2 → okM μ → J cX8_readSizes x E z0 μ 2 [some (rv E 115), some (iv v1), some (iv v2)] [] (MQ (xb x) (QV E z0 Q) (xa x) (xs x) 0 0 (gA E))) (fun X2 hX2 v1 v2 μ h hv1 hv2 hμ => ?_) h hv1 hv2 hμ
  unfold wp_X8_readSizes_2 at h
  refine r_il2 dX8_readSizes_2 ?_
  refine r_if_eq 119 dX8_readSizes_3 rfl hv2 (fun c1 => ?_) (fun c1 => ?_)
  · have h := h.1 c1
    exact r_vret B hr hμ dX8_readSizes_119 h
  · have h := h.2 c1
    refine r_al0 dX8_readSizes_6 ?_
    refine r_getI B fg_X8_70 kd_115 (kl kd_115) dX8_readSizes_7 ?_
    refine r_iconst dX8_readSizes_10 ?_
    refine r_icmp_eq 22 dX8_readSizes_11 rfl (hμ 115 9) (inR_k rfl) (fun c2 => ?_) (fun c2 => ?_)
    · have h := h.1 c2
      refine r_al0 dX8_readSizes_22 ?_
      refine r_cVI0 B cb_X8_oneDigit lk_X8_137 cv_X8_oneDigit kd_115 (c_X8_oneDigit (xl x) E hμ h) rfl rfl dX8_readSizes_23 (fun r4 μ3 hr4 mμ3 h => ?_)
      refine r_iconst dX8_readSizes_26 ?_
      refine r_iconst dX8_readSizes_27 ?_
      refine r_cSI3 B cb_X8_in lk_X8_63 cs_X8_in (c_X8_in (xl x) E hr4 (inR_k rfl) (inR_k rfl) mμ3 h) rfl rfl dX8_readSizes_28 (fun r6 μ5 hr6 mμ5 h => ?_)
      refine r_if_ne 42 dX8_readSizes_31 rfl hr6 (fun c7 => ?_) (fun c7 => ?_)
      · have h := h.1 c7
        refine r_al0 dX8_readSizes_42 ?_
        refine r_il1 dX8_readSizes_43 ?_
        refine r_cVI1 B cb_X8_places lk_X8_105 cv_X8_places kd_115 (c_X8_places (xl x) E hv1 mμ5 h) rfl rfl dX8_readSizes_44 (fun r9 μ8 hr9 mμ8 h => ?_)
        refine r_bipush dX8_readSizes_47 (by decide) ?_
        refine r_icmp_eq 68 dX8_readSizes_49 rfl hr9 (inR_k rfl) (fun c10 => ?_) (fun c10 => ?_)
        · have h := h.1 c10
          exact J_weak (t_X8_readSizes_68 B hr hX2 hv1 mμ8 h) (⟨rfl, ⟨rfl, trivial⟩⟩)
        · have h := h.2 c10
          refine r_al0 dX8_readSizes_52 ?_
          refine r_il1 dX8_readSizes_53 ?_
          refine r_cVI1 B cb_X8_words lk_X8_113 cv_X8_words kd_115 (c_X8_words (xl x) E hv1 mμ8 h) rfl rfl dX8_readSizes_54 (fun r20 μ19 hr20 mμ19 h => ?_)
          refine r_al0 dX8_readSizes_57 ?_
          refine r_cVI0 B cb_X8_oneDigit lk_X8_137 cv_X8_oneDigit kd_115 (c_X8_oneDigit (xl x) E mμ19 h) rfl rfl dX8_readSizes_58 (fun r22 μ21 hr22 mμ21 h => ?_)
          refine r_imul dX8_readSizes_61 ?_
          refine r_sipush dX8_readSizes_62 (by decide) ?_
          obtain ⟨o23, h⟩ := h
          refine r_icmp_le 73 dX8_readSizes_65 rfl o23 (inR_k rfl) (fun c24 => ?_) (fun c24 => ?_)
          · have h := h.1 c24
            exact J_weak (t_X8_readSizes_73 B hr hX2 hv1 mμ21 h) (⟨rfl, ⟨rfl, trivial⟩⟩)
          · have h := h.2 c24
            exact J_weak (t_X8_readSizes_68 B hr hX2 hv1 mμ21 h) (⟨rfl, ⟨rfl, trivial⟩⟩)
      · have h := h.2 c7
        refine r_al0 dX8_readSizes_34 ?_
        refine r_iconst dX8_readSizes_35 ?_
        refine r_cVV1 B cb_X8_flaw lk_X8_133 cv_X8_flaw kd_115 (c_X8_flaw (xl x) E (inR_k rfl) mμ5 h) rfl rfl dX8_readSizes_36 (fun μ25 mμ25 h => ?_)
        refine r_goto 73 dX8_readSizes_39 rfl ?_
        exact J_weak (t_X8_readSizes_73 B hr hX2 hv1 mμ25 h) (⟨rfl, ⟨rfl, trivial⟩⟩)
    · have h := h.2 c2
      refine r_al0 dX8_readSizes_14 ?_
      refine r_iconst dX8_readSizes_15 ?_
      refine r_cVV1 B cb_X8_flaw lk_X8_133 cv_X8_flaw kd_115 (c_X8_flaw (xl x) E (inR_k rfl) hμ h) rfl rfl dX8_readSizes_16 (fun μ26 mμ26 h => ?_)
      refine r_goto 73 dX8_readSizes_19 rfl ?_
      exact J_weak (t_X8_readSizes_73 B hr hX2 hv1 mμ26 h) (⟨rfl, ⟨rfl, trivial⟩⟩)
set_option maxRecDepth 20000 in
theorem c_X8_readSizes (l : Launch) (E : Gx) {p0 : Int} {μ : Mem} {Q : Mem → Prop} (hp0 : inR p0) (hμ : okM μ) (h : wp_X8_readSizes p0 μ Q) : MT l yX8_readSizes cX8_readSizes 3 none E 4 0 0 z0 [rv E 115, iv p0] μ (QV E z0 Q) := by
  refine m_start [some (rv E 115), some (iv p0), none] (by decide) rfl rfl rfl (fun x hxl hxc hxs B hr hnm => ?_)
  unfold wp_X8_readSizes at h
  refine r_iconst dX8_readSizes_0 ?_
  refine r_is2 dX8_readSizes_1 rfl ?_
  exact J_weak (t_X8_readSizes_2 B hr hp0 (inR_k rfl) hμ h) (⟨rfl, ⟨rfl, ⟨rfl, trivial⟩⟩⟩)
set_option maxRecDepth 20000 in
theorem t_X8_readWeights_55 {x : Cx} {E : Gx} (B : Bd x E 4 3 "SlipCoversModel") (hr : (xt x).sig.returnType = none) {Q : Mem → Prop} {X6 : Int → Int → Mem → Prop} (hX6 : ∀ (v1 : Int) (v2 : Int) (μ : Mem), X6 v1 v2 μ → inR v1 → inR v2 → okM μ → J cX8_readWeights x E z0 μ 6 [some (rv E 115), some (iv v1), some (iv v2)] [] (MQ (xb x) (QV E z0 Q) (xa x) (xs x) 0 0 (gA E))) {v1 : Int} {v2 : Int} {μ : Mem} (hv1 : inR v1) (hv2 : inR v2) (hμ : okM μ) (h : wp_X8_readWeights_55 Q X6 v1 v2 μ) : J cX8_readWeights x E z0 μ 55 [some (rv E 115), some (iv v1), some (iv v2)] [] (MQ (xb x) (QV E z0 Q) (xa x) (xs x) 0 0 (gA E)) := by
  unfold wp_X8_readWeights_55 at h
  refine r_al0 dX8_readWeights_55 ?_
  refine r_getI B fg_X8_51 kd_115 (kl kd_115) dX8_readWeights_56 ?_
  refine r_if_le 63 dX8_readWeights_59 rfl (hμ 115 7) (fun c12 => ?_) (fun c12 => ?_)
  · have h := h.1 c12
    refine r_al0 dX8_readWeights_63 ?_
    refine r_getR B 117 fg_X8_17 kd_115 (kl kd_115) (ρo (off := 2) kd_115 rfl) dX8_readWeights_64 ?_
    refine r_sipush dX8_readWeights_67 (by decide) ?_
    refine r_il1 dX8_readWeights_70 ?_
    refine r_imul dX8_readWeights_71 ?_
    refine r_bipush dX8_readWeights_72 (by decide) ?_
    refine r_iadd dX8_readWeights_74 ?_
    refine r_il2 dX8_readWeights_75 ?_
    refine r_iadd dX8_readWeights_76 ?_
    refine r_al0 dX8_readWeights_77 ?_
    refine r_cVI0 B cb_X8_oneDigit lk_X8_137 cv_X8_oneDigit kd_115 (c_X8_oneDigit (xl x) E hμ h) rfl rfl dX8_readWeights_78 (fun r14 μ13 hr14 mμ13 h => ?_)
    obtain ⟨o15, h⟩ := h
    refine r_iast B kd_117 (kl kd_117) (by decide) o15 dX8_readWeights_81 ?_
    refine n_mem (fun μ16 eμ16 => ?_)
    have h := h μ16 eμ16
    have mμ16 : okM μ16 := eqM eμ16 (okM_sI mμ13 hr14)
    refine r_al0 dX8_readWeights_82 ?_
    refine r_cVV0 B cb_X8_goOn lk_X8_144 cv_X8_goOn kd_115 (c_X8_goOn (xl x) E mμ16 h) rfl rfl dX8_readWeights_83 (fun μ17 mμ17 h => ?_)
    refine r_inc2 dX8_readWeights_86 rfl ?_
    obtain ⟨o18, h⟩ := h
    refine r_goto 6 dX8_readWeights_89 rfl ?_
    exact J_weak (hX6 v1 (v2 + 1) μ17 h hv1 o18 mμ17) (⟨rfl, ⟨rfl, ⟨rfl, trivial⟩⟩⟩)
  · have h := h.2 c12
    exact r_vret B hr hμ dX8_readWeights_62 h
set_option maxRecDepth 20000 in
theorem t_X8_readWeights_6 {x : Cx} {E : Gx} (B : Bd x E 4 3 "SlipCoversModel") (hr : (xt x).sig.returnType = none) {Q : Mem → Prop} {v1 : Int} {v2 : Int} {μ : Mem} (hv1 : inR v1) (hv2 : inR v2) (hμ : okM μ) (h : LP3 (wp_X8_readWeights_6 Q) v1 v2 μ) : J cX8_readWeights x E z0 μ 6 [some (rv E 115), some (iv v1), some (iv v2)] [] (MQ (xb x) (QV E z0 Q) (xa x) (xs x) 0 0 (gA E)) := by
  refine LP3_ind (T := fun (v1 : Int) (v2 : Int) (μ : Mem) => inR v1 → inR v2 → okM μ → J cX8_readWeights x E z0 μ 6 [some (rv E 115), some (iv v1), some (iv v2)] [] (MQ (xb x) (QV E z0 Q) (xa x) (xs x) 0 0 (gA E))) (fun X6 hX6 v1 v2 μ h hv1 hv2 hμ => ?_) h hv1 hv2 hμ
  unfold wp_X8_readWeights_6 at h
  refine r_il2 dX8_readWeights_6 ?_
  refine r_al0 dX8_readWeights_7 ?_
  refine r_il1 dX8_readWeights_8 ?_
  refine r_cVI1 B cb_X8_places lk_X8_105 cv_X8_places kd_115 (c_X8_places (xl x) E hv1 hμ h) rfl rfl dX8_readWeights_9 (fun r3 μ2 hr3 mμ2 h => ?_)
  refine r_icmp_ge 92 dX8_readWeights_12 rfl hv2 hr3 (fun c4 => ?_) (fun c4 => ?_)
  · have h := h.1 c4
    exact r_vret B hr mμ2 dX8_readWeights_92 h
  · have h := h.2 c4
    refine r_al0 dX8_readWeights_15 ?_
    refine r_getI B fg_X8_51 kd_115 (kl kd_115) dX8_readWeights_16 ?_
    refine r_if_ne 92 dX8_readWeights_19 rfl (mμ2 115 7) (fun c5 => ?_) (fun c5 => ?_)
    · have h := h.1 c5
      exact r_vret B hr mμ2 dX8_readWeights_92 h
    · have h := h.2 c5
      refine r_al0 dX8_readWeights_22 ?_
      refine r_getI B fg_X8_70 kd_115 (kl kd_115) dX8_readWeights_23 ?_
      refine r_iconst dX8_readWeights_26 ?_
      refine r_icmp_eq 38 dX8_readWeights_27 rfl (mμ2 115 9) (inR_k rfl) (fun c6 => ?_) (fun c6 => ?_)
      · have h := h.1 c6
        refine r_al0 dX8_readWeights_38 ?_
        refine r_cVI0 B cb_X8_oneDigit lk_X8_137 cv_X8_oneDigit kd_115 (c_X8_oneDigit (xl x) E mμ2 h) rfl rfl dX8_readWeights_39 (fun r8 μ7 hr8 mμ7 h => ?_)
        refine r_iconst dX8_readWeights_42 ?_
        refine r_iconst dX8_readWeights_43 ?_
        refine r_cSI3 B cb_X8_in lk_X8_63 cs_X8_in (c_X8_in (xl x) E hr8 (inR_k rfl) (inR_k rfl) mμ7 h) rfl rfl dX8_readWeights_44 (fun r10 μ9 hr10 mμ9 h => ?_)
        refine r_if_ne 55 dX8_readWeights_47 rfl hr10 (fun c11 => ?_) (fun c11 => ?_)
        · have h := h.1 c11
          exact J_weak (t_X8_readWeights_55 B hr hX6 hv1 hv2 mμ9 h) (⟨rfl, ⟨rfl, ⟨rfl, trivial⟩⟩⟩)
        · have h := h.2 c11
          refine r_al0 dX8_readWeights_50 ?_
          refine r_iconst dX8_readWeights_51 ?_
          refine r_cVV1 B cb_X8_flaw lk_X8_133 cv_X8_flaw kd_115 (c_X8_flaw (xl x) E (inR_k rfl) mμ9 h) rfl rfl dX8_readWeights_52 (fun μ19 mμ19 h => ?_)
          exact J_weak (t_X8_readWeights_55 B hr hX6 hv1 hv2 mμ19 h) (⟨rfl, ⟨rfl, ⟨rfl, trivial⟩⟩⟩)
      · have h := h.2 c6
        refine r_al0 dX8_readWeights_30 ?_
        refine r_iconst dX8_readWeights_31 ?_
        refine r_cVV1 B cb_X8_flaw lk_X8_133 cv_X8_flaw kd_115 (c_X8_flaw (xl x) E (inR_k rfl) mμ2 h) rfl rfl dX8_readWeights_32 (fun μ20 mμ20 h => ?_)
        refine r_goto 55 dX8_readWeights_35 rfl ?_
        exact J_weak (t_X8_readWeights_55 B hr hX6 hv1 hv2 mμ20 h) (⟨rfl, ⟨rfl, ⟨rfl, trivial⟩⟩⟩)
set_option maxRecDepth 20000 in
theorem c_X8_readWeights (l : Launch) (E : Gx) {p0 : Int} {μ : Mem} {Q : Mem → Prop} (hp0 : inR p0) (hμ : okM μ) (h : wp_X8_readWeights p0 μ Q) : MT l yX8_readWeights cX8_readWeights 3 none E 4 0 0 z0 [rv E 115, iv p0] μ (QV E z0 Q) := by
  refine m_start [some (rv E 115), some (iv p0), none] (by decide) rfl rfl rfl (fun x hxl hxc hxs B hr hnm => ?_)
  unfold wp_X8_readWeights at h
  refine r_al0 dX8_readWeights_0 ?_
  refine r_cVV0 B cb_X8_goOn lk_X8_144 cv_X8_goOn kd_115 (c_X8_goOn (xl x) E hμ h) rfl rfl dX8_readWeights_1 (fun μ1 mμ1 h => ?_)
  refine r_iconst dX8_readWeights_4 ?_
  refine r_is2 dX8_readWeights_5 rfl ?_
  exact J_weak (t_X8_readWeights_6 B hr hp0 (inR_k rfl) mμ1 h) (⟨rfl, ⟨rfl, ⟨rfl, trivial⟩⟩⟩)
set_option maxRecDepth 20000 in
theorem t_X8_readWord_143 {x : Cx} {E : Gx} (B : Bd x E 4 6 "SlipCoversModel") (hr : (xt x).sig.returnType = none) {Q : Mem → Prop} {v1 : Int} {v3 : Int} {μ : Mem} (hv1 : inR v1) (hv3 : inR v3) (hμ : okM μ) (h : wp_X8_readWord_143 Q v1 v3 μ) : J cX8_readWord x E z0 μ 143 [some (rv E 115), some (iv v1), none, some (iv v3), none, none] [] (MQ (xb x) (QV E z0 Q) (xa x) (xs x) 0 0 (gA E)) := by
  unfold wp_X8_readWord_143 at h
  refine r_al0 dX8_readWord_143 ?_
  refine r_getI B fg_X8_51 kd_115 (kl kd_115) dX8_readWord_144 ?_
  refine r_if_ne 157 dX8_readWord_147 rfl (hμ 115 7) (fun c12 => ?_) (fun c12 => ?_)
  · have h := h.1 c12
    refine r_al0 dX8_readWord_157 ?_
    refine r_cVV0 B cb_X8_goOn lk_X8_144 cv_X8_goOn kd_115 (c_X8_goOn (xl x) E hμ h) rfl rfl dX8_readWord_158 (fun μ13 mμ13 h => ?_)
    exact r_vret B hr mμ13 dX8_readWord_161 h
  · have h := h.2 c12
    refine r_al0 dX8_readWord_150 ?_
    refine r_il1 dX8_readWord_151 ?_
    refine r_il3 dX8_readWord_152 ?_
    refine r_iconst dX8_readWord_153 ?_
    refine r_cVV3 B cb_X8_marks lk_X8_147 cv_X8_marks kd_115 (c_X8_marks (xl x) E hv1 hv3 (inR_k rfl) hμ h) rfl rfl dX8_readWord_154 (fun μ14 mμ14 h => ?_)
    refine r_al0 dX8_readWord_157 ?_
    refine r_cVV0 B cb_X8_goOn lk_X8_144 cv_X8_goOn kd_115 (c_X8_goOn (xl x) E mμ14 h) rfl rfl dX8_readWord_158 (fun μ15 mμ15 h => ?_)
    exact r_vret B hr mμ15 dX8_readWord_161 h
set_option maxRecDepth 20000 in
theorem t_X8_readWord_117 {x : Cx} {E : Gx} (B : Bd x E 4 6 "SlipCoversModel") (hr : (xt x).sig.returnType = none) {Q : Mem → Prop} {v1 : Int} {v2 : Int} {v3 : Int} {μ : Mem} (hv1 : inR v1) (hv2 : inR v2) (hv3 : inR v3) (hμ : okM μ) (h : wp_X8_readWord_117 Q v1 v2 v3 μ) : J cX8_readWord x E z0 μ 117 [some (rv E 115), some (iv v1), some (iv v2), some (iv v3), none, none] [] (MQ (xb x) (QV E z0 Q) (xa x) (xs x) 0 0 (gA E)) := by
  unfold wp_X8_readWord_117 at h
  refine r_il2 dX8_readWord_117 ?_
  refine r_if_ne 129 dX8_readWord_118 rfl hv2 (fun c8 => ?_) (fun c8 => ?_)
  · have h := h.1 c8
    refine r_al0 dX8_readWord_129 ?_
    refine r_il1 dX8_readWord_130 ?_
    refine r_il3 dX8_readWord_131 ?_
    refine r_cVI2 B cb_X8_isIn lk_X8_116 cv_X8_isIn kd_115 (c_X8_isIn (xl x) E hv1 hv3 hμ h) rfl rfl dX8_readWord_132 (fun r10 μ9 hr10 mμ9 h => ?_)
    refine r_if_eq 143 dX8_readWord_135 rfl hr10 (fun c11 => ?_) (fun c11 => ?_)
    · have h := h.1 c11
      exact J_weak (t_X8_readWord_143 B hr hv1 hv3 mμ9 h) (⟨rfl, ⟨rfl, ⟨rfl, trivial⟩⟩⟩)
    · have h := h.2 c11
      refine r_al0 dX8_readWord_138 ?_
      refine r_iconst dX8_readWord_139 ?_
      refine r_cVV1 B cb_X8_flaw lk_X8_133 cv_X8_flaw kd_115 (c_X8_flaw (xl x) E (inR_k rfl) mμ9 h) rfl rfl dX8_readWord_140 (fun μ16 mμ16 h => ?_)
      exact J_weak (t_X8_readWord_143 B hr hv1 hv3 mμ16 h) (⟨rfl, ⟨rfl, ⟨rfl, trivial⟩⟩⟩)
  · have h := h.2 c8
    refine r_al0 dX8_readWord_121 ?_
    refine r_iconst dX8_readWord_122 ?_
    refine r_cVV1 B cb_X8_flaw lk_X8_133 cv_X8_flaw kd_115 (c_X8_flaw (xl x) E (inR_k rfl) hμ h) rfl rfl dX8_readWord_123 (fun μ17 mμ17 h => ?_)
    refine r_goto 143 dX8_readWord_126 rfl ?_
    exact J_weak (t_X8_readWord_143 B hr hv1 hv3 mμ17 h) (⟨rfl, ⟨rfl, ⟨rfl, trivial⟩⟩⟩)
set_option maxRecDepth 20000 in
theorem t_X8_readWord_97 {x : Cx} {E : Gx} (B : Bd x E 4 6 "SlipCoversModel") (hr : (xt x).sig.returnType = none) {Q : Mem → Prop} {X49 : Int → Int → Int → Int → Mem → Prop} (hX49 : ∀ (v1 : Int) (v2 : Int) (v3 : Int) (v4 : Int) (μ : Mem), X49 v1 v2 v3 v4 μ → inR v1 → inR v2 → inR v3 → inR v4 → okM μ → J cX8_readWord x E z0 μ 49 [some (rv E 115), some (iv v1), some (iv v2), some (iv v3), some (iv v4), none] [] (MQ (xb x) (QV E z0 Q) (xa x) (xs x) 0 0 (gA E))) {v1 : Int} {v3 : Int} {v4 : Int} {v5 : Int} {s0 : Int} {μ : Mem} (hv1 : inR v1) (hv3 : inR v3) (hv4 : inR v4) (hv5 : inR v5) (hs0 : inR s0) (hμ : okM μ) (h : wp_X8_readWord_97 Q X49 v1 v3 v4 v5 s0 μ) : J cX8_readWord x E z0 μ 97 [some (rv E 115), some (iv v1), none, some (iv v3), some (iv v4), some (iv v5)] [iv s0] (MQ (xb x) (QV E z0 Q) (xa x) (xs x) 0 0 (gA E)) := by
  unfold wp_X8_readWord_97 at h
  refine r_is2 dX8_readWord_97 rfl ?_
  refine r_il3 dX8_readWord_98 ?_
  refine r_al0 dX8_readWord_99 ?_
  refine r_il1 dX8_readWord_100 ?_
  refine r_il4 dX8_readWord_101 ?_
  refine r_cVI2 B cb_X8_sizeOf lk_X8_109 cv_X8_sizeOf kd_115 (c_X8_sizeOf (xl x) E hv1 hv4 hμ h) rfl rfl dX8_readWord_103 (fun r28 μ27 hr28 mμ27 h => ?_)
  refine r_imul dX8_readWord_106 ?_
  refine r_il5 dX8_readWord_107 ?_
  refine r_iadd dX8_readWord_109 ?_
  obtain ⟨o30, h⟩ := h
  refine n_topi (fun x29 ex29 => ?_)
  have h := h x29 ex29
  refine r_is3 dX8_readWord_110 rfl ?_
  refine r_inc4 dX8_readWord_111 rfl ?_
  obtain ⟨o31, h⟩ := h
  refine r_goto 49 dX8_readWord_114 rfl ?_
  exact J_weak (hX49 v1 s0 x29 (v4 + 1) μ27 h hv1 hs0 (eqR ex29 o30) o31 mμ27) (⟨rfl, ⟨rfl, ⟨rfl, ⟨rfl, ⟨rfl, trivial⟩⟩⟩⟩⟩)
set_option maxRecDepth 20000 in
theorem t_X8_readWord_49 {x : Cx} {E : Gx} (B : Bd x E 4 6 "SlipCoversModel") (hr : (xt x).sig.returnType = none) {Q : Mem → Prop} {v1 : Int} {v2 : Int} {v3 : Int} {v4 : Int} {μ : Mem} (hv1 : inR v1) (hv2 : inR v2) (hv3 : inR v3) (hv4 : inR v4) (hμ : okM μ) (h : LP5 (wp_X8_readWord_49 Q) v1 v2 v3 v4 μ) : J cX8_readWord x E z0 μ 49 [some (rv E 115), some (iv v1), some (iv v2), some (iv v3), some (iv v4), none] [] (MQ (xb x) (QV E z0 Q) (xa x) (xs x) 0 0 (gA E)) := by
  refine LP5_ind (T := fun (v1 : Int) (v2 : Int) (v3 : Int) (v4 : Int) (μ : Mem) => inR v1 → inR v2 → inR v3 → inR v4 → okM μ → J cX8_readWord x E z0 μ 49 [some (rv E 115), some (iv v1), some (iv v2), some (iv v3), some (iv v4), none] [] (MQ (xb x) (QV E z0 Q) (xa x) (xs x) 0 0 (gA E))) (fun X49 hX49 v1 v2 v3 v4 μ h hv1 hv2 hv3 hv4 hμ => ?_) h hv1 hv2 hv3 hv4 hμ
  unfold wp_X8_readWord_49 at h
  refine r_il2 dX8_readWord_49 ?_
  refine r_if_eq 117 dX8_readWord_50 rfl hv2 (fun c7 => ?_) (fun c7 => ?_)
  · have h := h.1 c7
    exact J_weak (t_X8_readWord_117 B hr hv1 hv2 hv3 hμ h) (⟨rfl, ⟨rfl, ⟨rfl, ⟨rfl, trivial⟩⟩⟩⟩)
  · have h := h.2 c7
    refine r_il4 dX8_readWord_53 ?_
    refine r_al0 dX8_readWord_55 ?_
    refine r_il1 dX8_readWord_56 ?_
    refine r_cVI1 B cb_X8_places lk_X8_105 cv_X8_places kd_115 (c_X8_places (xl x) E hv1 hμ h) rfl rfl dX8_readWord_57 (fun r19 μ18 hr19 mμ18 h => ?_)
    refine r_icmp_ge 117 dX8_readWord_60 rfl hv4 hr19 (fun c20 => ?_) (fun c20 => ?_)
    · have h := h.1 c20
      exact J_weak (t_X8_readWord_117 B hr hv1 hv2 hv3 mμ18 h) (⟨rfl, ⟨rfl, ⟨rfl, ⟨rfl, trivial⟩⟩⟩⟩)
    · have h := h.2 c20
      refine r_al0 dX8_readWord_63 ?_
      refine r_getR B 116 fg_X8_13 kd_115 (kl kd_115) (ρo (off := 1) kd_115 rfl) dX8_readWord_64 ?_
      refine r_al0 dX8_readWord_67 ?_
      refine r_getI B fg_X8_54 kd_115 (kl kd_115) dX8_readWord_68 ?_
      refine r_il4 dX8_readWord_71 ?_
      refine r_iadd dX8_readWord_73 ?_
      obtain ⟨o21, h⟩ := h
      refine r_iald B kd_116 (kl kd_116) (by decide) o21 dX8_readWord_74 ?_
      refine r_bipush dX8_readWord_75 (by decide) ?_
      refine r_isub dX8_readWord_77 ?_
      obtain ⟨o23, h⟩ := h
      refine n_topi (fun x22 ex22 => ?_)
      have h := h x22 ex22
      refine r_is5 dX8_readWord_78 rfl ?_
      refine r_il5 dX8_readWord_80 ?_
      refine r_al0 dX8_readWord_82 ?_
      refine r_il1 dX8_readWord_83 ?_
      refine r_il4 dX8_readWord_84 ?_
      refine r_cVI2 B cb_X8_sizeOf lk_X8_109 cv_X8_sizeOf kd_115 (c_X8_sizeOf (xl x) E hv1 hv4 mμ18 h) rfl rfl dX8_readWord_86 (fun r25 μ24 hr25 mμ24 h => ?_)
      refine r_icmp_ge 96 dX8_readWord_89 rfl (eqR ex22 o23) hr25 (fun c26 => ?_) (fun c26 => ?_)
      · have h := h.1 c26
        refine r_iconst dX8_readWord_96 ?_
        exact J_weak (t_X8_readWord_97 B hr hX49 hv1 hv3 hv4 (eqR ex22 o23) (inR_k rfl) mμ24 h) (⟨rfl, ⟨rfl, ⟨rfl, ⟨rfl, ⟨rfl, trivial⟩⟩⟩⟩⟩)
      · have h := h.2 c26
        refine r_iconst dX8_readWord_92 ?_
        refine r_goto 97 dX8_readWord_93 rfl ?_
        exact J_weak (t_X8_readWord_97 B hr hX49 hv1 hv3 hv4 (eqR ex22 o23) (inR_k rfl) mμ24 h) (⟨rfl, ⟨rfl, ⟨rfl, ⟨rfl, ⟨rfl, trivial⟩⟩⟩⟩⟩)
set_option maxRecDepth 20000 in
theorem t_X8_readWord_43 {x : Cx} {E : Gx} (B : Bd x E 4 6 "SlipCoversModel") (hr : (xt x).sig.returnType = none) {Q : Mem → Prop} {v1 : Int} {s0 : Int} {μ : Mem} (hv1 : inR v1) (hs0 : inR s0) (hμ : okM μ) (h : wp_X8_readWord_43 Q v1 s0 μ) : J cX8_readWord x E z0 μ 43 [some (rv E 115), some (iv v1), none, none, none, none] [iv s0] (MQ (xb x) (QV E z0 Q) (xa x) (xs x) 0 0 (gA E)) := by
  unfold wp_X8_readWord_43 at h
  refine r_is2 dX8_readWord_43 rfl ?_
  refine r_iconst dX8_readWord_44 ?_
  refine r_is3 dX8_readWord_45 rfl ?_
  refine r_iconst dX8_readWord_46 ?_
  refine r_is4 dX8_readWord_47 rfl ?_
  exact J_weak (t_X8_readWord_49 B hr hv1 hs0 (inR_k rfl) (inR_k rfl) hμ h) (⟨rfl, ⟨rfl, ⟨rfl, ⟨rfl, ⟨rfl, trivial⟩⟩⟩⟩⟩)
set_option maxRecDepth 20000 in
theorem t_X8_readWord_13 {x : Cx} {E : Gx} (B : Bd x E 4 6 "SlipCoversModel") (hr : (xt x).sig.returnType = none) {Q : Mem → Prop} {v1 : Int} {μ : Mem} (hv1 : inR v1) (hμ : okM μ) (h : wp_X8_readWord_13 Q v1 μ) : J cX8_readWord x E z0 μ 13 [some (rv E 115), some (iv v1), none, none, none, none] [] (MQ (xb x) (QV E z0 Q) (xa x) (xs x) 0 0 (gA E)) := by
  unfold wp_X8_readWord_13 at h
  refine r_al0 dX8_readWord_13 ?_
  refine r_getI B fg_X8_51 kd_115 (kl kd_115) dX8_readWord_14 ?_
  refine r_if_le 21 dX8_readWord_17 rfl (hμ 115 7) (fun c2 => ?_) (fun c2 => ?_)
  · have h := h.1 c2
    refine r_al0 dX8_readWord_21 ?_
    refine r_getI B fg_X8_67 kd_115 (kl kd_115) dX8_readWord_22 ?_
    refine r_al0 dX8_readWord_25 ?_
    refine r_getI B fg_X8_54 kd_115 (kl kd_115) dX8_readWord_26 ?_
    refine r_isub dX8_readWord_29 ?_
    refine r_al0 dX8_readWord_30 ?_
    refine r_il1 dX8_readWord_31 ?_
    refine r_cVI1 B cb_X8_places lk_X8_105 cv_X8_places kd_115 (c_X8_places (xl x) E hv1 hμ h) rfl rfl dX8_readWord_32 (fun r4 μ3 hr4 mμ3 h => ?_)
    obtain ⟨o5, h⟩ := h
    refine r_icmp_ne 42 dX8_readWord_35 rfl o5 hr4 (fun c6 => ?_) (fun c6 => ?_)
    · have h := h.1 c6
      refine r_iconst dX8_readWord_42 ?_
      exact J_weak (t_X8_readWord_43 B hr hv1 (inR_k rfl) mμ3 h) (⟨rfl, ⟨rfl, trivial⟩⟩)
    · have h := h.2 c6
      refine r_iconst dX8_readWord_38 ?_
      refine r_goto 43 dX8_readWord_39 rfl ?_
      exact J_weak (t_X8_readWord_43 B hr hv1 (inR_k rfl) mμ3 h) (⟨rfl, ⟨rfl, trivial⟩⟩)
  · have h := h.2 c2
    exact r_vret B hr hμ dX8_readWord_20 h
set_option maxRecDepth 20000 in
theorem c_X8_readWord (l : Launch) (E : Gx) {p0 : Int} {μ : Mem} {Q : Mem → Prop} (hp0 : inR p0) (hμ : okM μ) (h : wp_X8_readWord p0 μ Q) : MT l yX8_readWord cX8_readWord 6 none E 4 0 0 z0 [rv E 115, iv p0] μ (QV E z0 Q) := by
  refine m_start [some (rv E 115), some (iv p0), none, none, none, none] (by decide) rfl rfl rfl (fun x hxl hxc hxs B hr hnm => ?_)
  unfold wp_X8_readWord at h
  refine r_al0 dX8_readWord_0 ?_
  refine r_getI B fg_X8_70 kd_115 (kl kd_115) dX8_readWord_1 ?_
  refine r_iconst dX8_readWord_4 ?_
  refine r_icmp_eq 13 dX8_readWord_5 rfl (hμ 115 9) (inR_k rfl) (fun c1 => ?_) (fun c1 => ?_)
  · have h := h.1 c1
    exact J_weak (t_X8_readWord_13 B hr hp0 hμ h) (⟨rfl, ⟨rfl, trivial⟩⟩)
  · have h := h.2 c1
    refine r_al0 dX8_readWord_8 ?_
    refine r_iconst dX8_readWord_9 ?_
    refine r_cVV1 B cb_X8_flaw lk_X8_133 cv_X8_flaw kd_115 (c_X8_flaw (xl x) E (inR_k rfl) hμ h) rfl rfl dX8_readWord_10 (fun μ32 mμ32 h => ?_)
    exact J_weak (t_X8_readWord_13 B hr hp0 mμ32 h) (⟨rfl, ⟨rfl, trivial⟩⟩)
set_option maxRecDepth 20000 in
theorem t_X8_readCode_217 {x : Cx} {E : Gx} (B : Bd x E 12 3 "SlipCoversModel") (hr : (xt x).sig.returnType = none) {Q : Mem → Prop} {v1 : Int} {μ : Mem} (hv1 : inR v1) (hμ : okM μ) (h : LP2 (wp_X8_readCode_217 Q) v1 μ) : J cX8_readCode x E z0 μ 217 [some (rv E 115), some (iv v1), none] [] (MQ (xb x) (QV E z0 Q) (xa x) (xs x) 0 0 (gA E)) := by
  refine LP2_ind (T := fun (v1 : Int) (μ : Mem) => inR v1 → okM μ → J cX8_readCode x E z0 μ 217 [some (rv E 115), some (iv v1), none] [] (MQ (xb x) (QV E z0 Q) (xa x) (xs x) 0 0 (gA E))) (fun X217 hX217 v1 μ h hv1 hμ => ?_) h hv1 hμ
  unfold wp_X8_readCode_217 at h
  refine r_al0 dX8_readCode_217 ?_
  refine r_bipush dX8_readCode_218 (by decide) ?_
  refine r_cVI1 B cb_X8_isSign lk_X8_167 cv_X8_isSign kd_115 (c_X8_isSign (xl x) E (inR_k rfl) hμ h) rfl rfl dX8_readCode_220 (fun r31 μ30 hr31 mμ30 h => ?_)
  refine r_if_eq 238 dX8_readCode_223 rfl hr31 (fun c32 => ?_) (fun c32 => ?_)
  · have h := h.1 c32
    refine r_al0 dX8_readCode_238 ?_
    refine r_getI B fg_X8_51 kd_115 (kl kd_115) dX8_readCode_239 ?_
    refine r_if_ne 255 dX8_readCode_242 rfl (mμ30 115 7) (fun c33 => ?_) (fun c33 => ?_)
    · have h := h.1 c33
      exact r_vret B hr mμ30 dX8_readCode_255 h
    · have h := h.2 c33
      refine r_al0 dX8_readCode_245 ?_
      refine r_dup rfl dX8_readCode_246 ?_
      refine r_getI B fg_X8_151 kd_115 (kl kd_115) dX8_readCode_247 ?_
      refine r_iconst dX8_readCode_250 ?_
      refine r_iadd dX8_readCode_251 ?_
      obtain ⟨o34, h⟩ := h
      refine r_putI B fg_X8_151 fp_8_18 kd_115 (kl kd_115) dX8_readCode_252 ?_
      refine n_mem (fun μ35 eμ35 => ?_)
      have h := h μ35 eμ35
      have mμ35 : okM μ35 := eqM eμ35 (okM_sI mμ30 o34)
      exact r_vret B hr mμ35 dX8_readCode_255 h
  · have h := h.2 c32
    refine r_al0 dX8_readCode_226 ?_
    refine r_cVV0 B cb_X8_goOn lk_X8_144 cv_X8_goOn kd_115 (c_X8_goOn (xl x) E mμ30 h) rfl rfl dX8_readCode_227 (fun μ36 mμ36 h => ?_)
    refine r_al0 dX8_readCode_230 ?_
    refine r_il1 dX8_readCode_231 ?_
    refine r_cVV1 B cb_X8_readWord lk_X8_170 cv_X8_readWord kd_115 (c_X8_readWord (xl x) E hv1 mμ36 h) rfl rfl dX8_readCode_232 (fun μ37 mμ37 h => ?_)
    refine r_goto 217 dX8_readCode_235 rfl ?_
    exact J_weak (hX217 v1 μ37 h hv1 mμ37) (⟨rfl, ⟨rfl, trivial⟩⟩)
set_option maxRecDepth 20000 in
theorem t_X8_readCode_200 {x : Cx} {E : Gx} (B : Bd x E 12 3 "SlipCoversModel") (hr : (xt x).sig.returnType = none) {Q : Mem → Prop} {v1 : Int} {μ : Mem} (hv1 : inR v1) (hμ : okM μ) (h : wp_X8_readCode_200 Q v1 μ) : J cX8_readCode x E z0 μ 200 [some (rv E 115), some (iv v1), none] [] (MQ (xb x) (QV E z0 Q) (xa x) (xs x) 0 0 (gA E)) := by
  unfold wp_X8_readCode_200 at h
  refine r_al0 dX8_readCode_200 ?_
  refine r_cVV0 B cb_X8_goOn lk_X8_144 cv_X8_goOn kd_115 (c_X8_goOn (xl x) E hμ h) rfl rfl dX8_readCode_201 (fun μ27 mμ27 h => ?_)
  refine r_al0 dX8_readCode_204 ?_
  refine r_getI B fg_X8_51 kd_115 (kl kd_115) dX8_readCode_205 ?_
  refine r_if_le 212 dX8_readCode_208 rfl (mμ27 115 7) (fun c28 => ?_) (fun c28 => ?_)
  · have h := h.1 c28
    refine r_al0 dX8_readCode_212 ?_
    refine r_il1 dX8_readCode_213 ?_
    refine r_cVV1 B cb_X8_readWord lk_X8_170 cv_X8_readWord kd_115 (c_X8_readWord (xl x) E hv1 mμ27 h) rfl rfl dX8_readCode_214 (fun μ29 mμ29 h => ?_)
    exact J_weak (t_X8_readCode_217 B hr hv1 mμ29 h) (⟨rfl, ⟨rfl, trivial⟩⟩)
  · have h := h.2 c28
    exact r_vret B hr mμ27 dX8_readCode_211 h
set_option maxRecDepth 20000 in
theorem t_X8_readCode_186 {x : Cx} {E : Gx} (B : Bd x E 12 3 "SlipCoversModel") (hr : (xt x).sig.returnType = none) {Q : Mem → Prop} {v1 : Int} {μ : Mem} (hv1 : inR v1) (hμ : okM μ) (h : wp_X8_readCode_186 Q v1 μ) : J cX8_readCode x E z0 μ 186 [some (rv E 115), some (iv v1), none] [] (MQ (xb x) (QV E z0 Q) (xa x) (xs x) 0 0 (gA E)) := by
  unfold wp_X8_readCode_186 at h
  refine r_al0 dX8_readCode_186 ?_
  refine r_bipush dX8_readCode_187 (by decide) ?_
  refine r_cVI1 B cb_X8_isSign lk_X8_167 cv_X8_isSign kd_115 (c_X8_isSign (xl x) E (inR_k rfl) hμ h) rfl rfl dX8_readCode_189 (fun r25 μ24 hr25 mμ24 h => ?_)
  refine r_if_ne 200 dX8_readCode_192 rfl hr25 (fun c26 => ?_) (fun c26 => ?_)
  · have h := h.1 c26
    exact J_weak (t_X8_readCode_200 B hr hv1 mμ24 h) (⟨rfl, ⟨rfl, trivial⟩⟩)
  · have h := h.2 c26
    refine r_al0 dX8_readCode_195 ?_
    refine r_iconst dX8_readCode_196 ?_
    refine r_cVV1 B cb_X8_flaw lk_X8_133 cv_X8_flaw kd_115 (c_X8_flaw (xl x) E (inR_k rfl) mμ24 h) rfl rfl dX8_readCode_197 (fun μ38 mμ38 h => ?_)
    exact J_weak (t_X8_readCode_200 B hr hv1 mμ38 h) (⟨rfl, ⟨rfl, trivial⟩⟩)
set_option maxRecDepth 20000 in
theorem t_X8_readCode_155 {x : Cx} {E : Gx} (B : Bd x E 12 3 "SlipCoversModel") (hr : (xt x).sig.returnType = none) {Q : Mem → Prop} {v1 : Int} {μ : Mem} (hv1 : inR v1) (hμ : okM μ) (h : wp_X8_readCode_155 Q v1 μ) : J cX8_readCode x E z0 μ 155 [some (rv E 115), some (iv v1), none] [] (MQ (xb x) (QV E z0 Q) (xa x) (xs x) 0 0 (gA E)) := by
  unfold wp_X8_readCode_155 at h
  refine r_al0 dX8_readCode_155 ?_
  refine r_cVV0 B cb_X8_goOn lk_X8_144 cv_X8_goOn kd_115 (c_X8_goOn (xl x) E hμ h) rfl rfl dX8_readCode_156 (fun μ18 mμ18 h => ?_)
  refine r_al0 dX8_readCode_159 ?_
  refine r_getI B fg_X8_51 kd_115 (kl kd_115) dX8_readCode_160 ?_
  refine r_if_le 167 dX8_readCode_163 rfl (mμ18 115 7) (fun c19 => ?_) (fun c19 => ?_)
  · have h := h.1 c19
    refine r_al0 dX8_readCode_167 ?_
    refine r_il1 dX8_readCode_168 ?_
    refine r_cVV1 B cb_X8_readSizes lk_X8_161 cv_X8_readSizes kd_115 (c_X8_readSizes (xl x) E hv1 mμ18 h) rfl rfl dX8_readCode_169 (fun μ20 mμ20 h => ?_)
    refine r_al0 dX8_readCode_172 ?_
    refine r_ldcS B 5 rfl dX8_readCode_173 ?_
    refine r_cVI1 B cb_X8_isWord lk_X8_125 cv_X8_isWord kd_115 (c_X8_isWord (xl x) E (by decide) mμ20 h) rfl rfl dX8_readCode_175 (fun r22 μ21 hr22 mμ21 h => ?_)
    refine r_if_eq 186 dX8_readCode_178 rfl hr22 (fun c23 => ?_) (fun c23 => ?_)
    · have h := h.1 c23
      exact J_weak (t_X8_readCode_186 B hr hv1 mμ21 h) (⟨rfl, ⟨rfl, trivial⟩⟩)
    · have h := h.2 c23
      refine r_al0 dX8_readCode_181 ?_
      refine r_il1 dX8_readCode_182 ?_
      refine r_cVV1 B cb_X8_readWeights lk_X8_164 cv_X8_readWeights kd_115 (c_X8_readWeights (xl x) E hv1 mμ21 h) rfl rfl dX8_readCode_183 (fun μ39 mμ39 h => ?_)
      exact J_weak (t_X8_readCode_186 B hr hv1 mμ39 h) (⟨rfl, ⟨rfl, trivial⟩⟩)
  · have h := h.2 c19
    exact r_vret B hr mμ18 dX8_readCode_166 h
set_option maxRecDepth 20000 in
theorem t_X8_readCode_111 {x : Cx} {E : Gx} (B : Bd x E 12 3 "SlipCoversModel") (hr : (xt x).sig.returnType = none) {Q : Mem → Prop} {v1 : Int} {μ : Mem} (hv1 : inR v1) (hμ : okM μ) (h : wp_X8_readCode_111 Q v1 μ) : J cX8_readCode x E z0 μ 111 [some (rv E 115), some (iv v1), none] [] (MQ (xb x) (QV E z0 Q) (xa x) (xs x) 0 0 (gA E)) := by
  unfold wp_X8_readCode_111 at h
  refine r_al0 dX8_readCode_111 ?_
  refine r_getI B fg_X8_51 kd_115 (kl kd_115) dX8_readCode_112 ?_
  refine r_if_le 119 dX8_readCode_115 rfl (hμ 115 7) (fun c10 => ?_) (fun c10 => ?_)
  · have h := h.1 c10
    refine r_al0 dX8_readCode_119 ?_
    refine r_getR B 120 fg_X8_27 kd_115 (kl kd_115) (ρo (off := 5) kd_115 rfl) dX8_readCode_120 ?_
    refine r_al0 dX8_readCode_123 ?_
    refine r_getI B fg_X8_151 kd_115 (kl kd_115) dX8_readCode_124 ?_
    refine r_al0 dX8_readCode_127 ?_
    refine r_getL B fg_X8_77 kd_115 (kl kd_115) dX8_readCode_128 ?_
    obtain ⟨o11, h⟩ := h
    refine r_last B kd_120 (kl kd_120) (by decide) o11 dX8_readCode_131 ?_
    refine n_mem (fun μ12 eμ12 => ?_)
    have h := h μ12 eμ12
    have mμ12 : okM μ12 := eqM eμ12 (okM_sL hμ)
    refine r_al0 dX8_readCode_132 ?_
    refine r_il1 dX8_readCode_133 ?_
    refine r_cVV1 B cb_X8_clears lk_X8_158 cv_X8_clears kd_115 (c_X8_clears (xl x) E hv1 mμ12 h) rfl rfl dX8_readCode_134 (fun μ13 mμ13 h => ?_)
    refine r_al0 dX8_readCode_137 ?_
    refine r_cVV0 B cb_X8_goOn lk_X8_144 cv_X8_goOn kd_115 (c_X8_goOn (xl x) E mμ13 h) rfl rfl dX8_readCode_138 (fun μ14 mμ14 h => ?_)
    refine r_al0 dX8_readCode_141 ?_
    refine r_ldcS B 4 rfl dX8_readCode_142 ?_
    refine r_cVI1 B cb_X8_isWord lk_X8_125 cv_X8_isWord kd_115 (c_X8_isWord (xl x) E (by decide) mμ14 h) rfl rfl dX8_readCode_144 (fun r16 μ15 hr16 mμ15 h => ?_)
    refine r_if_ne 155 dX8_readCode_147 rfl hr16 (fun c17 => ?_) (fun c17 => ?_)
    · have h := h.1 c17
      exact J_weak (t_X8_readCode_155 B hr hv1 mμ15 h) (⟨rfl, ⟨rfl, trivial⟩⟩)
    · have h := h.2 c17
      refine r_al0 dX8_readCode_150 ?_
      refine r_iconst dX8_readCode_151 ?_
      refine r_cVV1 B cb_X8_flaw lk_X8_133 cv_X8_flaw kd_115 (c_X8_flaw (xl x) E (inR_k rfl) mμ15 h) rfl rfl dX8_readCode_152 (fun μ40 mμ40 h => ?_)
      exact J_weak (t_X8_readCode_155 B hr hv1 mμ40 h) (⟨rfl, ⟨rfl, trivial⟩⟩)
  · have h := h.2 c10
    exact r_vret B hr hμ dX8_readCode_118 h
set_option maxRecDepth 20000 in
theorem t_X8_readCode_71 {x : Cx} {E : Gx} (B : Bd x E 12 3 "SlipCoversModel") (hr : (xt x).sig.returnType = none) {Q : Mem → Prop} {v1 : Int} {v2 : Int} {μ : Mem} (hv1 : inR v1) (hv2 : inR v2) (hμ : okM μ) (h : LP3 (wp_X8_readCode_71 Q) v1 v2 μ) : J cX8_readCode x E z0 μ 71 [some (rv E 115), some (iv v1), some (iv v2)] [] (MQ (xb x) (QV E z0 Q) (xa x) (xs x) 0 0 (gA E)) := by
  refine LP3_ind (T := fun (v1 : Int) (v2 : Int) (μ : Mem) => inR v1 → inR v2 → okM μ → J cX8_readCode x E z0 μ 71 [some (rv E 115), some (iv v1), some (iv v2)] [] (MQ (xb x) (QV E z0 Q) (xa x) (xs x) 0 0 (gA E))) (fun X71 hX71 v1 v2 μ h hv1 hv2 hμ => ?_) h hv1 hv2 hμ
  unfold wp_X8_readCode_71 at h
  refine r_al0 dX8_readCode_71 ?_
  refine r_getI B fg_X8_51 kd_115 (kl kd_115) dX8_readCode_72 ?_
  refine r_if_ne 111 dX8_readCode_75 rfl (hμ 115 7) (fun c9 => ?_) (fun c9 => ?_)
  · have h := h.1 c9
    exact J_weak (t_X8_readCode_111 B hr hv1 hμ h) (⟨rfl, ⟨rfl, trivial⟩⟩)
  · have h := h.2 c9
    refine r_il2 dX8_readCode_78 ?_
    refine r_al0 dX8_readCode_79 ?_
    refine r_getI B fg_X8_151 kd_115 (kl kd_115) dX8_readCode_80 ?_
    refine r_icmp_ge 111 dX8_readCode_83 rfl hv2 (hμ 115 18) (fun c41 => ?_) (fun c41 => ?_)
    · have h := h.1 c41
      exact J_weak (t_X8_readCode_111 B hr hv1 hμ h) (⟨rfl, ⟨rfl, trivial⟩⟩)
    · have h := h.2 c41
      refine r_al0 dX8_readCode_86 ?_
      refine r_getR B 120 fg_X8_27 kd_115 (kl kd_115) (ρo (off := 5) kd_115 rfl) dX8_readCode_87 ?_
      refine r_il2 dX8_readCode_90 ?_
      obtain ⟨o42, h⟩ := h
      refine r_lald B kd_120 (kl kd_120) (by decide) o42 dX8_readCode_91 ?_
      refine r_al0 dX8_readCode_92 ?_
      refine r_getL B fg_X8_77 kd_115 (kl kd_115) dX8_readCode_93 ?_
      refine r_lcmp dX8_readCode_96 ?_
      refine r_if_ne 105 dX8_readCode_97 rfl (inR_t _) (fun c43 => ?_) (fun c43 => ?_)
      · have h := h.1 c43
        refine r_inc2 dX8_readCode_105 rfl ?_
        obtain ⟨o44, h⟩ := h
        refine r_goto 71 dX8_readCode_108 rfl ?_
        exact J_weak (hX71 v1 (v2 + 1) μ h hv1 o44 hμ) (⟨rfl, ⟨rfl, ⟨rfl, trivial⟩⟩⟩)
      · have h := h.2 c43
        refine r_al0 dX8_readCode_100 ?_
        refine r_iconst dX8_readCode_101 ?_
        refine r_cVV1 B cb_X8_flaw lk_X8_133 cv_X8_flaw kd_115 (c_X8_flaw (xl x) E (inR_k rfl) hμ h) rfl rfl dX8_readCode_102 (fun μ45 mμ45 h => ?_)
        refine r_inc2 dX8_readCode_105 rfl ?_
        obtain ⟨o46, h⟩ := h
        refine r_goto 71 dX8_readCode_108 rfl ?_
        exact J_weak (hX71 v1 (v2 + 1) μ45 h hv1 o46 mμ45) (⟨rfl, ⟨rfl, ⟨rfl, trivial⟩⟩⟩)
set_option maxRecDepth 20000 in
theorem t_X8_readCode_64 {x : Cx} {E : Gx} (B : Bd x E 12 3 "SlipCoversModel") (hr : (xt x).sig.returnType = none) {Q : Mem → Prop} {v1 : Int} {μ : Mem} (hv1 : inR v1) (hμ : okM μ) (h : wp_X8_readCode_64 Q v1 μ) : J cX8_readCode x E z0 μ 64 [some (rv E 115), some (iv v1), none] [] (MQ (xb x) (QV E z0 Q) (xa x) (xs x) 0 0 (gA E)) := by
  unfold wp_X8_readCode_64 at h
  refine r_al0 dX8_readCode_64 ?_
  refine r_iconst dX8_readCode_65 ?_
  refine r_cVV1 B cb_X8_flaw lk_X8_133 cv_X8_flaw kd_115 (c_X8_flaw (xl x) E (inR_k rfl) hμ h) rfl rfl dX8_readCode_66 (fun μ48 mμ48 h => ?_)
  refine r_iconst dX8_readCode_69 ?_
  refine r_is2 dX8_readCode_70 rfl ?_
  exact J_weak (t_X8_readCode_71 B hr hv1 (inR_k rfl) mμ48 h) (⟨rfl, ⟨rfl, ⟨rfl, trivial⟩⟩⟩)
set_option maxRecDepth 20000 in
theorem t_X8_readCode_38 {x : Cx} {E : Gx} (B : Bd x E 12 3 "SlipCoversModel") (hr : (xt x).sig.returnType = none) {Q : Mem → Prop} {v1 : Int} {μ : Mem} (hv1 : inR v1) (hμ : okM μ) (h : wp_X8_readCode_38 Q v1 μ) : J cX8_readCode x E z0 μ 38 [some (rv E 115), some (iv v1), none] [] (MQ (xb x) (QV E z0 Q) (xa x) (xs x) 0 0 (gA E)) := by
  unfold wp_X8_readCode_38 at h
  refine r_al0 dX8_readCode_38 ?_
  refine r_cVV0 B cb_X8_goOn lk_X8_144 cv_X8_goOn kd_115 (c_X8_goOn (xl x) E hμ h) rfl rfl dX8_readCode_39 (fun μ7 mμ7 h => ?_)
  refine r_al0 dX8_readCode_42 ?_
  refine r_getI B fg_X8_51 kd_115 (kl kd_115) dX8_readCode_43 ?_
  refine r_if_ne 69 dX8_readCode_46 rfl (mμ7 115 7) (fun c8 => ?_) (fun c8 => ?_)
  · have h := h.1 c8
    refine r_iconst dX8_readCode_69 ?_
    refine r_is2 dX8_readCode_70 rfl ?_
    exact J_weak (t_X8_readCode_71 B hr hv1 (inR_k rfl) mμ7 h) (⟨rfl, ⟨rfl, ⟨rfl, trivial⟩⟩⟩)
  · have h := h.2 c8
    refine r_al0 dX8_readCode_49 ?_
    refine r_getI B fg_X8_70 kd_115 (kl kd_115) dX8_readCode_50 ?_
    refine r_iconst dX8_readCode_53 ?_
    refine r_icmp_ne 64 dX8_readCode_54 rfl (mμ7 115 9) (inR_k rfl) (fun c47 => ?_) (fun c47 => ?_)
    · have h := h.1 c47
      exact J_weak (t_X8_readCode_64 B hr hv1 mμ7 h) (⟨rfl, ⟨rfl, trivial⟩⟩)
    · have h := h.2 c47
      refine r_al0 dX8_readCode_57 ?_
      refine r_cVI0 B cb_X8_isOwn lk_X8_154 cv_X8_isOwn kd_115 (c_X8_isOwn (xl x) E mμ7 h) rfl rfl dX8_readCode_58 (fun r50 μ49 hr50 mμ49 h => ?_)
      refine r_if_eq 69 dX8_readCode_61 rfl hr50 (fun c51 => ?_) (fun c51 => ?_)
      · have h := h.1 c51
        refine r_iconst dX8_readCode_69 ?_
        refine r_is2 dX8_readCode_70 rfl ?_
        exact J_weak (t_X8_readCode_71 B hr hv1 (inR_k rfl) mμ49 h) (⟨rfl, ⟨rfl, ⟨rfl, trivial⟩⟩⟩)
      · have h := h.2 c51
        exact J_weak (t_X8_readCode_64 B hr hv1 mμ49 h) (⟨rfl, ⟨rfl, trivial⟩⟩)
set_option maxRecDepth 20000 in
theorem c_X8_readCode (l : Launch) (E : Gx) {μ : Mem} {Q : Mem → Prop} (hμ : okM μ) (h : wp_X8_readCode  μ Q) : MT l yX8_readCode cX8_readCode 3 none E 12 0 0 z0 [rv E 115] μ (QV E z0 Q) := by
  refine m_start [some (rv E 115), none, none] (by decide) rfl rfl rfl (fun x hxl hxc hxs B hr hnm => ?_)
  unfold wp_X8_readCode at h
  refine r_bipush dX8_readCode_0 (by decide) ?_
  refine r_al0 dX8_readCode_2 ?_
  refine r_getI B fg_X8_151 kd_115 (kl kd_115) dX8_readCode_3 ?_
  refine r_iadd dX8_readCode_6 ?_
  obtain ⟨o2, h⟩ := h
  refine n_topi (fun x1 ex1 => ?_)
  have h := h x1 ex1
  refine r_is1 dX8_readCode_7 rfl ?_
  refine r_al0 dX8_readCode_8 ?_
  refine r_ldcS B 3 rfl dX8_readCode_9 ?_
  refine r_cVI1 B cb_X8_isWord lk_X8_125 cv_X8_isWord kd_115 (c_X8_isWord (xl x) E (by decide) hμ h) rfl rfl dX8_readCode_11 (fun r4 μ3 hr4 mμ3 h => ?_)
  refine r_if_ne 25 dX8_readCode_14 rfl hr4 (fun c5 => ?_) (fun c5 => ?_)
  · have h := h.1 c5
    refine r_al0 dX8_readCode_25 ?_
    refine r_getI B fg_X8_151 kd_115 (kl kd_115) dX8_readCode_26 ?_
    refine r_iconst dX8_readCode_29 ?_
    refine r_icmp_ne 38 dX8_readCode_30 rfl (mμ3 115 18) (inR_k rfl) (fun c6 => ?_) (fun c6 => ?_)
    · have h := h.1 c6
      exact J_weak (t_X8_readCode_38 B hr (eqR ex1 o2) mμ3 h) (⟨rfl, ⟨rfl, trivial⟩⟩)
    · have h := h.2 c6
      refine r_al0 dX8_readCode_33 ?_
      refine r_iconst dX8_readCode_34 ?_
      refine r_cVV1 B cb_X8_flaw lk_X8_133 cv_X8_flaw kd_115 (c_X8_flaw (xl x) E (inR_k rfl) mμ3 h) rfl rfl dX8_readCode_35 (fun μ52 mμ52 h => ?_)
      exact J_weak (t_X8_readCode_38 B hr (eqR ex1 o2) mμ52 h) (⟨rfl, ⟨rfl, trivial⟩⟩)
  · have h := h.2 c5
    refine r_al0 dX8_readCode_17 ?_
    refine r_iconst dX8_readCode_18 ?_
    refine r_cVV1 B cb_X8_flaw lk_X8_133 cv_X8_flaw kd_115 (c_X8_flaw (xl x) E (inR_k rfl) mμ3 h) rfl rfl dX8_readCode_19 (fun μ53 mμ53 h => ?_)
    refine r_goto 38 dX8_readCode_22 rfl ?_
    exact J_weak (t_X8_readCode_38 B hr (eqR ex1 o2) mμ53 h) (⟨rfl, ⟨rfl, trivial⟩⟩)
set_option maxRecDepth 20000 in
theorem t_X8_text_139 {x : Cx} {E : Gx} (B : Bd x E 13 3 "SlipCoversModel") (hr : (xt x).sig.returnType = (some .int)) {Q : Int → Mem → Prop} {v2 : Int} {μ : Mem} (hv2 : inR v2) (hμ : okM μ) (h : LP2 (wp_X8_text_139 Q) v2 μ) : J cX8_text x E z0 μ 139 [some (rv E 115), none, some (iv v2)] [] (MQ (xb x) (QI E z0 Q) (xa x) (xs x) 0 0 (gA E)) := by
  refine LP2_ind (T := fun (v2 : Int) (μ : Mem) => inR v2 → okM μ → J cX8_text x E z0 μ 139 [some (rv E 115), none, some (iv v2)] [] (MQ (xb x) (QI E z0 Q) (xa x) (xs x) 0 0 (gA E))) (fun X139 hX139 v2 μ h hv2 hμ => ?_) h hv2 hμ
  unfold wp_X8_text_139 at h
  refine r_il2 dX8_text_139 ?_
  refine r_al0 dX8_text_140 ?_
  refine r_getI B fg_X8_151 kd_115 (kl kd_115) dX8_text_141 ?_
  refine r_icmp_ge 174 dX8_text_144 rfl hv2 (hμ 115 18) (fun c18 => ?_) (fun c18 => ?_)
  · have h := h.1 c18
    refine r_al0 dX8_text_174 ?_
    refine r_al0 dX8_text_175 ?_
    refine r_getI B fg_X8_151 kd_115 (kl kd_115) dX8_text_176 ?_
    refine r_putI B fg_X8_183 fp_8_17 kd_115 (kl kd_115) dX8_text_179 ?_
    refine n_mem (fun μ19 eμ19 => ?_)
    have h := h μ19 eμ19
    have mμ19 : okM μ19 := eqM eμ19 (okM_sI hμ (hμ 115 18))
    refine r_al0 dX8_text_182 ?_
    refine r_iconst dX8_text_183 ?_
    refine r_putI B fg_X8_186 fp_8_19 kd_115 (kl kd_115) dX8_text_184 ?_
    refine n_mem (fun μ20 eμ20 => ?_)
    have h := h μ20 eμ20
    have mμ20 : okM μ20 := eqM eμ20 (okM_sI mμ19 (inR_k rfl))
    refine r_al0 dX8_text_187 ?_
    refine r_al0 dX8_text_188 ?_
    refine r_getI B fg_X8_151 kd_115 (kl kd_115) dX8_text_189 ?_
    refine r_cVI1 B cb_X8_good lk_X8_189 cv_X8_good kd_115 (c_X8_good (xl x) E (mμ20 115 18) mμ20 h) rfl rfl dX8_text_192 (fun r22 μ21 hr22 mμ21 h => ?_)
    exact r_iret B hr hr22 mμ21 dX8_text_195 h
  · have h := h.2 c18
    refine r_al0 dX8_text_147 ?_
    refine r_bipush dX8_text_148 (by decide) ?_
    refine r_il2 dX8_text_150 ?_
    refine r_iadd dX8_text_151 ?_
    refine r_il2 dX8_text_152 ?_
    obtain ⟨o23, h⟩ := h
    refine r_cVV2 B cb_X8_copies lk_X8_179 cv_X8_copies kd_115 (c_X8_copies (xl x) E o23 hv2 hμ h) rfl rfl dX8_text_153 (fun μ24 mμ24 h => ?_)
    refine r_al0 dX8_text_156 ?_
    refine r_getR B 119 fg_X8_23 kd_115 (kl kd_115) (ρo (off := 4) kd_115 rfl) dX8_text_157 ?_
    refine r_il2 dX8_text_160 ?_
    refine r_al0 dX8_text_161 ?_
    refine r_getR B 120 fg_X8_27 kd_115 (kl kd_115) (ρo (off := 5) kd_115 rfl) dX8_text_162 ?_
    refine r_il2 dX8_text_165 ?_
    obtain ⟨o25, h⟩ := h
    refine r_lald B kd_120 (kl kd_120) (by decide) o25 dX8_text_166 ?_
    refine r_last B kd_119 (kl kd_119) (by decide) o25 dX8_text_167 ?_
    refine n_mem (fun μ26 eμ26 => ?_)
    have h := h μ26 eμ26
    have mμ26 : okM μ26 := eqM eμ26 (okM_sL mμ24)
    refine r_inc2 dX8_text_168 rfl ?_
    obtain ⟨o27, h⟩ := h
    refine r_goto 139 dX8_text_171 rfl ?_
    exact J_weak (hX139 (v2 + 1) μ26 h o27 mμ26) (⟨rfl, ⟨rfl, trivial⟩⟩)
set_option maxRecDepth 20000 in
theorem t_X8_text_120 {x : Cx} {E : Gx} (B : Bd x E 13 3 "SlipCoversModel") (hr : (xt x).sig.returnType = (some .int)) {Q : Int → Mem → Prop} {v2 : Int} {μ : Mem} (hv2 : inR v2) (hμ : okM μ) (h : LP2 (wp_X8_text_120 Q) v2 μ) : J cX8_text x E z0 μ 120 [some (rv E 115), none, some (iv v2)] [] (MQ (xb x) (QI E z0 Q) (xa x) (xs x) 0 0 (gA E)) := by
  refine LP2_ind (T := fun (v2 : Int) (μ : Mem) => inR v2 → okM μ → J cX8_text x E z0 μ 120 [some (rv E 115), none, some (iv v2)] [] (MQ (xb x) (QI E z0 Q) (xa x) (xs x) 0 0 (gA E))) (fun X120 hX120 v2 μ h hv2 hμ => ?_) h hv2 hμ
  unfold wp_X8_text_120 at h
  refine r_il2 dX8_text_120 ?_
  refine r_bipush dX8_text_121 (by decide) ?_
  refine r_icmp_ge 137 dX8_text_123 rfl hv2 (inR_k rfl) (fun c17 => ?_) (fun c17 => ?_)
  · have h := h.1 c17
    refine r_iconst dX8_text_137 ?_
    refine r_is2 dX8_text_138 rfl ?_
    exact J_weak (t_X8_text_139 B hr (inR_k rfl) hμ h) (⟨rfl, ⟨rfl, trivial⟩⟩)
  · have h := h.2 c17
    refine r_al0 dX8_text_126 ?_
    refine r_il2 dX8_text_127 ?_
    refine r_cVV1 B cb_X8_clears lk_X8_158 cv_X8_clears kd_115 (c_X8_clears (xl x) E hv2 hμ h) rfl rfl dX8_text_128 (fun μ28 mμ28 h => ?_)
    refine r_inc2 dX8_text_131 rfl ?_
    obtain ⟨o29, h⟩ := h
    refine r_goto 120 dX8_text_134 rfl ?_
    exact J_weak (hX120 (v2 + 1) μ28 h o29 mμ28) (⟨rfl, ⟨rfl, trivial⟩⟩)
set_option maxRecDepth 20000 in
theorem t_X8_text_96 {x : Cx} {E : Gx} (B : Bd x E 13 3 "SlipCoversModel") (hr : (xt x).sig.returnType = (some .int)) {Q : Int → Mem → Prop} {μ : Mem} (hμ : okM μ) (h : wp_X8_text_96 Q μ) : J cX8_text x E z0 μ 96 [some (rv E 115), none, none] [] (MQ (xb x) (QI E z0 Q) (xa x) (xs x) 0 0 (gA E)) := by
  unfold wp_X8_text_96 at h
  refine r_al0 dX8_text_96 ?_
  refine r_getI B fg_X8_51 kd_115 (kl kd_115) dX8_text_97 ?_
  refine r_if_le 118 dX8_text_100 rfl (hμ 115 7) (fun c16 => ?_) (fun c16 => ?_)
  · have h := h.1 c16
    refine r_iconst dX8_text_118 ?_
    refine r_is2 dX8_text_119 rfl ?_
    exact J_weak (t_X8_text_120 B hr (inR_k rfl) hμ h) (⟨rfl, ⟨rfl, trivial⟩⟩)
  · have h := h.2 c16
    refine r_al0 dX8_text_103 ?_
    refine r_iconst dX8_text_104 ?_
    refine r_putI B fg_X8_45 fp_8_1 kd_115 (kl kd_115) dX8_text_105 ?_
    refine n_mem (fun μ30 eμ30 => ?_)
    have h := h μ30 eμ30
    have mμ30 : okM μ30 := eqM eμ30 (okM_sI hμ (inR_k rfl))
    refine r_al0 dX8_text_108 ?_
    refine r_al0 dX8_text_109 ?_
    refine r_getI B fg_X8_57 kd_115 (kl kd_115) dX8_text_110 ?_
    refine r_putI B fg_X8_9 fp_8_2 kd_115 (kl kd_115) dX8_text_113 ?_
    refine n_mem (fun μ31 eμ31 => ?_)
    have h := h μ31 eμ31
    have mμ31 : okM μ31 := eqM eμ31 (okM_sI mμ30 (mμ30 115 8))
    refine r_iconst dX8_text_116 ?_
    exact r_iret B hr (inR_k rfl) mμ31 dX8_text_117 h
set_option maxRecDepth 20000 in
theorem t_X8_text_56 {x : Cx} {E : Gx} (B : Bd x E 13 3 "SlipCoversModel") (hr : (xt x).sig.returnType = (some .int)) {Q : Int → Mem → Prop} {μ : Mem} (hμ : okM μ) (h : LP1 (wp_X8_text_56 Q) μ) : J cX8_text x E z0 μ 56 [some (rv E 115), none, none] [] (MQ (xb x) (QI E z0 Q) (xa x) (xs x) 0 0 (gA E)) := by
  refine LP1_ind (T := fun  (μ : Mem) => okM μ → J cX8_text x E z0 μ 56 [some (rv E 115), none, none] [] (MQ (xb x) (QI E z0 Q) (xa x) (xs x) 0 0 (gA E))) (fun X56 hX56 μ h hμ => ?_) h hμ
  unfold wp_X8_text_56 at h
  refine r_al0 dX8_text_56 ?_
  refine r_bipush dX8_text_57 (by decide) ?_
  refine r_cVI1 B cb_X8_isSign lk_X8_167 cv_X8_isSign kd_115 (c_X8_isSign (xl x) E (inR_k rfl) hμ h) rfl rfl dX8_text_59 (fun r13 μ12 hr13 mμ12 h => ?_)
  refine r_if_eq 76 dX8_text_62 rfl hr13 (fun c14 => ?_) (fun c14 => ?_)
  · have h := h.1 c14
    refine r_al0 dX8_text_76 ?_
    refine r_getI B fg_X8_51 kd_115 (kl kd_115) dX8_text_77 ?_
    refine r_if_ne 96 dX8_text_80 rfl (mμ12 115 7) (fun c15 => ?_) (fun c15 => ?_)
    · have h := h.1 c15
      exact J_weak (t_X8_text_96 B hr mμ12 h) (⟨rfl, trivial⟩)
    · have h := h.2 c15
      refine r_al0 dX8_text_83 ?_
      refine r_getI B fg_X8_70 kd_115 (kl kd_115) dX8_text_84 ?_
      refine r_iconst dX8_text_87 ?_
      refine r_icmp_eq 96 dX8_text_88 rfl (mμ12 115 9) (inR_k rfl) (fun c32 => ?_) (fun c32 => ?_)
      · have h := h.1 c32
        exact J_weak (t_X8_text_96 B hr mμ12 h) (⟨rfl, trivial⟩)
      · have h := h.2 c32
        refine r_al0 dX8_text_91 ?_
        refine r_iconst dX8_text_92 ?_
        refine r_cVV1 B cb_X8_flaw lk_X8_133 cv_X8_flaw kd_115 (c_X8_flaw (xl x) E (inR_k rfl) mμ12 h) rfl rfl dX8_text_93 (fun μ33 mμ33 h => ?_)
        exact J_weak (t_X8_text_96 B hr mμ33 h) (⟨rfl, trivial⟩)
  · have h := h.2 c14
    refine r_al0 dX8_text_65 ?_
    refine r_cVV0 B cb_X8_goOn lk_X8_144 cv_X8_goOn kd_115 (c_X8_goOn (xl x) E mμ12 h) rfl rfl dX8_text_66 (fun μ34 mμ34 h => ?_)
    refine r_al0 dX8_text_69 ?_
    refine r_cVV0 B cb_X8_readCode lk_X8_176 cv_X8_readCode kd_115 (c_X8_readCode (xl x) E mμ34 h) rfl rfl dX8_text_70 (fun μ35 mμ35 h => ?_)
    refine r_goto 56 dX8_text_73 rfl ?_
    exact J_weak (hX56 μ35 h mμ35) (⟨rfl, trivial⟩)
set_option maxRecDepth 20000 in
theorem c_X8_text (l : Launch) (E : Gx) {p0 : Int} {μ : Mem} {Q : Int → Mem → Prop} (hp0 : inR p0) (hμ : okM μ) (h : wp_X8_text p0 μ Q) : MT l yX8_text cX8_text 3 (some .int) E 13 0 0 z0 [rv E 115, iv p0] μ (QI E z0 Q) := by
  refine m_start [some (rv E 115), some (iv p0), none] (by decide) rfl rfl rfl (fun x hxl hxc hxs B hr hnm => ?_)
  unfold wp_X8_text at h
  refine r_al0 dX8_text_0 ?_
  refine r_iconst dX8_text_1 ?_
  refine r_putI B fg_X8_42 fp_8_0 kd_115 (kl kd_115) dX8_text_2 ?_
  refine n_mem (fun μ1 eμ1 => ?_)
  have h := h μ1 eμ1
  have mμ1 : okM μ1 := eqM eμ1 (okM_sI hμ (inR_k rfl))
  refine r_il1 dX8_text_5 ?_
  refine r_iconst dX8_text_6 ?_
  refine r_al0 dX8_text_7 ?_
  refine r_getI B fg_X8_48 kd_115 (kl kd_115) dX8_text_8 ?_
  refine r_cSI3 B cb_X8_in lk_X8_63 cs_X8_in (c_X8_in (xl x) E hp0 (inR_k rfl) (mμ1 115 4) mμ1 h) rfl rfl dX8_text_11 (fun r3 μ2 hr3 mμ2 h => ?_)
  refine r_if_ne 23 dX8_text_14 rfl hr3 (fun c4 => ?_) (fun c4 => ?_)
  · have h := h.1 c4
    refine r_al0 dX8_text_23 ?_
    refine r_il1 dX8_text_24 ?_
    refine r_putI B fg_X8_60 fp_8_5 kd_115 (kl kd_115) dX8_text_25 ?_
    refine n_mem (fun μ5 eμ5 => ?_)
    have h := h μ5 eμ5
    have mμ5 : okM μ5 := eqM eμ5 (okM_sI mμ2 hp0)
    refine r_al0 dX8_text_28 ?_
    refine r_iconst dX8_text_29 ?_
    refine r_putI B fg_X8_48 fp_8_4 kd_115 (kl kd_115) dX8_text_30 ?_
    refine n_mem (fun μ6 eμ6 => ?_)
    have h := h μ6 eμ6
    have mμ6 : okM μ6 := eqM eμ6 (okM_sI mμ5 (inR_k rfl))
    refine r_al0 dX8_text_33 ?_
    refine r_iconst dX8_text_34 ?_
    refine r_putI B fg_X8_67 fp_8_6 kd_115 (kl kd_115) dX8_text_35 ?_
    refine n_mem (fun μ7 eμ7 => ?_)
    have h := h μ7 eμ7
    have mμ7 : okM μ7 := eqM eμ7 (okM_sI mμ6 (inR_k rfl))
    refine r_al0 dX8_text_38 ?_
    refine r_iconst dX8_text_39 ?_
    refine r_putI B fg_X8_51 fp_8_7 kd_115 (kl kd_115) dX8_text_40 ?_
    refine n_mem (fun μ8 eμ8 => ?_)
    have h := h μ8 eμ8
    have mμ8 : okM μ8 := eqM eμ8 (okM_sI mμ7 (inR_k rfl))
    refine r_al0 dX8_text_43 ?_
    refine r_iconst dX8_text_44 ?_
    refine r_putI B fg_X8_151 fp_8_18 kd_115 (kl kd_115) dX8_text_45 ?_
    refine n_mem (fun μ9 eμ9 => ?_)
    have h := h μ9 eμ9
    have mμ9 : okM μ9 := eqM eμ9 (okM_sI mμ8 (inR_k rfl))
    refine r_al0 dX8_text_48 ?_
    refine r_cVV0 B cb_X8_goOn lk_X8_144 cv_X8_goOn kd_115 (c_X8_goOn (xl x) E mμ9 h) rfl rfl dX8_text_49 (fun μ10 mμ10 h => ?_)
    refine r_al0 dX8_text_52 ?_
    refine r_cVV0 B cb_X8_readCode lk_X8_176 cv_X8_readCode kd_115 (c_X8_readCode (xl x) E mμ10 h) rfl rfl dX8_text_53 (fun μ11 mμ11 h => ?_)
    exact J_weak (t_X8_text_56 B hr mμ11 h) (⟨rfl, trivial⟩)
  · have h := h.2 c4
    refine r_al0 dX8_text_17 ?_
    refine r_iconst dX8_text_18 ?_
    refine r_cVI1 B cb_X8_refused lk_X8_173 cv_X8_refused kd_115 (c_X8_refused (xl x) E (inR_k rfl) mμ2 h) rfl rfl dX8_text_19 (fun r37 μ36 hr37 mμ36 h => ?_)
    exact r_iret B hr hr37 mμ36 dX8_text_22 h
set_option maxRecDepth 20000 in
theorem c_X8_isCode (l : Launch) (E : Gx) {p0 : Int} {μ : Mem} {Q : Int → Mem → Prop} (hp0 : inR p0) (hμ : okM μ) (h : wp_X8_isCode p0 μ Q) : MT l yX8_isCode cX8_isCode 2 (some .boolean) E 2 0 0 z0 [rv E 115, iv p0] μ (QI E z0 Q) := by
  refine m_start [some (rv E 115), some (iv p0)] (by decide) rfl rfl rfl (fun x hxl hxc hxs B hr hnm => ?_)
  unfold wp_X8_isCode at h
  refine r_il1 dX8_isCode_0 ?_
  refine r_iconst dX8_isCode_1 ?_
  refine r_bipush dX8_isCode_2 (by decide) ?_
  refine r_cSI3 B cb_X8_in lk_X8_63 cs_X8_in (c_X8_in (xl x) E hp0 (inR_k rfl) (inR_k rfl) hμ h) rfl rfl dX8_isCode_4 (fun r2 μ1 hr2 mμ1 h => ?_)
  refine r_if_eq 22 dX8_isCode_7 rfl hr2 (fun c3 => ?_) (fun c3 => ?_)
  · have h := h.1 c3
    refine r_iconst dX8_isCode_22 ?_
    exact r_zret B hr (Or.inl rfl) mμ1 dX8_isCode_23 h
  · have h := h.2 c3
    refine r_al0 dX8_isCode_10 ?_
    refine r_il1 dX8_isCode_11 ?_
    refine r_cVI1 B cb_X8_places lk_X8_105 cv_X8_places kd_115 (c_X8_places (xl x) E hp0 mμ1 h) rfl rfl dX8_isCode_12 (fun r5 μ4 hr5 mμ4 h => ?_)
    refine r_if_le 22 dX8_isCode_15 rfl hr5 (fun c6 => ?_) (fun c6 => ?_)
    · have h := h.1 c6
      refine r_iconst dX8_isCode_22 ?_
      exact r_zret B hr (Or.inl rfl) mμ4 dX8_isCode_23 h
    · have h := h.2 c6
      refine r_iconst dX8_isCode_18 ?_
      refine r_goto 23 dX8_isCode_19 rfl ?_
      exact r_zret B hr (Or.inr rfl) mμ4 dX8_isCode_23 h
set_option maxRecDepth 20000 in
theorem c_X8_isPlace (l : Launch) (E : Gx) {p0 : Int} {p1 : Int} {μ : Mem} {Q : Int → Mem → Prop} (hp0 : inR p0) (hp1 : inR p1) (hμ : okM μ) (h : wp_X8_isPlace p0 p1 μ Q) : MT l yX8_isPlace cX8_isPlace 3 (some .boolean) E 3 0 0 z0 [rv E 115, iv p0, iv p1] μ (QI E z0 Q) := by
  refine m_start [some (rv E 115), some (iv p0), some (iv p1)] (by decide) rfl rfl rfl (fun x hxl hxc hxs B hr hnm => ?_)
  unfold wp_X8_isPlace at h
  refine r_al0 dX8_isPlace_0 ?_
  refine r_il1 dX8_isPlace_1 ?_
  refine r_cVI1 B cb_X8_isCode lk_X8_192 cv_X8_isCode kd_115 (c_X8_isCode (xl x) E hp0 hμ h) rfl rfl dX8_isPlace_2 (fun r2 μ1 hr2 mμ1 h => ?_)
  refine r_if_eq 27 dX8_isPlace_5 rfl hr2 (fun c3 => ?_) (fun c3 => ?_)
  · have h := h.1 c3
    refine r_iconst dX8_isPlace_27 ?_
    exact r_zret B hr (Or.inl rfl) mμ1 dX8_isPlace_28 h
  · have h := h.2 c3
    refine r_il2 dX8_isPlace_8 ?_
    refine r_iconst dX8_isPlace_9 ?_
    refine r_al0 dX8_isPlace_10 ?_
    refine r_il1 dX8_isPlace_11 ?_
    refine r_cVI1 B cb_X8_places lk_X8_105 cv_X8_places kd_115 (c_X8_places (xl x) E hp0 mμ1 h) rfl rfl dX8_isPlace_12 (fun r5 μ4 hr5 mμ4 h => ?_)
    refine r_iconst dX8_isPlace_15 ?_
    refine r_isub dX8_isPlace_16 ?_
    obtain ⟨o6, h⟩ := h
    refine r_cSI3 B cb_X8_in lk_X8_63 cs_X8_in (c_X8_in (xl x) E hp1 (inR_k rfl) o6 mμ4 h) rfl rfl dX8_isPlace_17 (fun r8 μ7 hr8 mμ7 h => ?_)
    refine r_if_eq 27 dX8_isPlace_20 rfl hr8 (fun c9 => ?_) (fun c9 => ?_)
    · have h := h.1 c9
      refine r_iconst dX8_isPlace_27 ?_
      exact r_zret B hr (Or.inl rfl) mμ7 dX8_isPlace_28 h
    · have h := h.2 c9
      refine r_iconst dX8_isPlace_23 ?_
      refine r_goto 28 dX8_isPlace_24 rfl ?_
      exact r_zret B hr (Or.inr rfl) mμ7 dX8_isPlace_28 h
set_option maxRecDepth 20000 in
theorem c_X8_isWordOf (l : Launch) (E : Gx) {p0 : Int} {p1 : Int} {μ : Mem} {Q : Int → Mem → Prop} (hp0 : inR p0) (hp1 : inR p1) (hμ : okM μ) (h : wp_X8_isWordOf p0 p1 μ Q) : MT l yX8_isWordOf cX8_isWordOf 3 (some .boolean) E 3 0 0 z0 [rv E 115, iv p0, iv p1] μ (QI E z0 Q) := by
  refine m_start [some (rv E 115), some (iv p0), some (iv p1)] (by decide) rfl rfl rfl (fun x hxl hxc hxs B hr hnm => ?_)
  unfold wp_X8_isWordOf at h
  refine r_al0 dX8_isWordOf_0 ?_
  refine r_il1 dX8_isWordOf_1 ?_
  refine r_cVI1 B cb_X8_isCode lk_X8_192 cv_X8_isCode kd_115 (c_X8_isCode (xl x) E hp0 hμ h) rfl rfl dX8_isWordOf_2 (fun r2 μ1 hr2 mμ1 h => ?_)
  refine r_if_eq 27 dX8_isWordOf_5 rfl hr2 (fun c3 => ?_) (fun c3 => ?_)
  · have h := h.1 c3
    refine r_iconst dX8_isWordOf_27 ?_
    exact r_zret B hr (Or.inl rfl) mμ1 dX8_isWordOf_28 h
  · have h := h.2 c3
    refine r_il2 dX8_isWordOf_8 ?_
    refine r_iconst dX8_isWordOf_9 ?_
    refine r_al0 dX8_isWordOf_10 ?_
    refine r_il1 dX8_isWordOf_11 ?_
    refine r_cVI1 B cb_X8_words lk_X8_113 cv_X8_words kd_115 (c_X8_words (xl x) E hp0 mμ1 h) rfl rfl dX8_isWordOf_12 (fun r5 μ4 hr5 mμ4 h => ?_)
    refine r_iconst dX8_isWordOf_15 ?_
    refine r_isub dX8_isWordOf_16 ?_
    obtain ⟨o6, h⟩ := h
    refine r_cSI3 B cb_X8_in lk_X8_63 cs_X8_in (c_X8_in (xl x) E hp1 (inR_k rfl) o6 mμ4 h) rfl rfl dX8_isWordOf_17 (fun r8 μ7 hr8 mμ7 h => ?_)
    refine r_if_eq 27 dX8_isWordOf_20 rfl hr8 (fun c9 => ?_) (fun c9 => ?_)
    · have h := h.1 c9
      refine r_iconst dX8_isWordOf_27 ?_
      exact r_zret B hr (Or.inl rfl) mμ7 dX8_isWordOf_28 h
    · have h := h.2 c9
      refine r_iconst dX8_isWordOf_23 ?_
      refine r_goto 28 dX8_isWordOf_24 rfl ?_
      exact r_zret B hr (Or.inr rfl) mμ7 dX8_isWordOf_28 h
set_option maxRecDepth 20000 in
theorem c_X8_isSlips (l : Launch) (E : Gx) {p0 : Int} {μ : Mem} {Q : Int → Mem → Prop} (hp0 : inR p0) (hμ : okM μ) (h : wp_X8_isSlips p0 μ Q) : MT l yX8_isSlips cX8_isSlips 1 (some .boolean) E 2 0 0 z0 [iv p0] μ (QI E z0 Q) := by
  refine m_start [some (iv p0)] (by decide) rfl rfl rfl (fun x hxl hxc hxs B hr hnm => ?_)
  unfold wp_X8_isSlips at h
  refine r_il0 dX8_isSlips_0 ?_
  refine r_iconst dX8_isSlips_1 ?_
  refine r_bipush dX8_isSlips_2 (by decide) ?_
  refine r_cSI3 B cb_X8_in lk_X8_63 cs_X8_in (c_X8_in (xl x) E hp0 (inR_k rfl) (inR_k rfl) hμ h) rfl rfl dX8_isSlips_4 (fun r2 μ1 hr2 mμ1 h => ?_)
  obtain ⟨o3, h⟩ := h
  exact r_zret B hr o3 mμ1 dX8_isSlips_7 h
set_option maxRecDepth 20000 in
theorem t_X8_covers_96 {x : Cx} {E : Gx} (B : Bd x E 3 6 "SlipCoversModel") (hr : (xt x).sig.returnType = (some .int)) {Q : Int → Mem → Prop} {X5 : Int → Int → Int → Int → Mem → Prop} (hX5 : ∀ (v1 : Int) (v2 : Int) (v3 : Int) (v4 : Int) (μ : Mem), X5 v1 v2 v3 v4 μ → inR v1 → inR v2 → inR v3 → inR v4 → okM μ → J cX8_covers x E z0 μ 5 [some (rv E 115), some (iv v1), some (iv v2), some (iv v3), some (iv v4), none] [] (MQ (xb x) (QI E z0 Q) (xa x) (xs x) 0 0 (gA E))) {v1 : Int} {v2 : Int} {v4 : Int} {s0 : Int} {s1 : Int} {μ : Mem} (hv1 : inR v1) (hv2 : inR v2) (hv4 : inR v4) (hs0 : inR s0) (hs1 : inR s1) (hμ : okM μ) (h : wp_X8_covers_96 Q X5 v1 v2 v4 s0 s1 μ) : J cX8_covers x E z0 μ 96 [some (rv E 115), some (iv v1), some (iv v2), none, some (iv v4), none] [iv s1, iv s0] (MQ (xb x) (QI E z0 Q) (xa x) (xs x) 0 0 (gA E)) := by
  unfold wp_X8_covers_96 at h
  refine r_iadd dX8_covers_96 ?_
  obtain ⟨o12, h⟩ := h
  refine n_topi (fun x11 ex11 => ?_)
  have h := h x11 ex11
  refine r_is3 dX8_covers_97 rfl ?_
  refine r_inc4 dX8_covers_98 rfl ?_
  obtain ⟨o13, h⟩ := h
  refine r_goto 5 dX8_covers_101 rfl ?_
  exact J_weak (hX5 v1 v2 x11 (v4 + 1) μ h hv1 hv2 (eqR ex11 o12) o13 hμ) (⟨rfl, ⟨rfl, ⟨rfl, ⟨rfl, ⟨rfl, trivial⟩⟩⟩⟩⟩)
set_option maxRecDepth 20000 in
theorem t_X8_covers_72 {x : Cx} {E : Gx} (B : Bd x E 3 6 "SlipCoversModel") (hr : (xt x).sig.returnType = (some .int)) {Q : Int → Mem → Prop} {X5 : Int → Int → Int → Int → Mem → Prop} (hX5 : ∀ (v1 : Int) (v2 : Int) (v3 : Int) (v4 : Int) (μ : Mem), X5 v1 v2 v3 v4 μ → inR v1 → inR v2 → inR v3 → inR v4 → okM μ → J cX8_covers x E z0 μ 5 [some (rv E 115), some (iv v1), some (iv v2), some (iv v3), some (iv v4), none] [] (MQ (xb x) (QI E z0 Q) (xa x) (xs x) 0 0 (gA E))) {X26 : Int → Int → Int → Int → Int → Mem → Prop} (hX26 : ∀ (v1 : Int) (v2 : Int) (v3 : Int) (v4 : Int) (v5 : Int) (μ : Mem), X26 v1 v2 v3 v4 v5 μ → inR v1 → inR v2 → inR v3 → inR v4 → inR v5 → okM μ → J cX8_covers x E z0 μ 26 [some (rv E 115), some (iv v1), some (iv v2), some (iv v3), some (iv v4), some (iv v5)] [] (MQ (xb x) (QI E z0 Q) (xa x) (xs x) 0 0 (gA E))) {v1 : Int} {v2 : Int} {v3 : Int} {v4 : Int} {v5 : Int} {s1 : Int} {s2 : Int} {s3 : Int} {μ : Mem} (hv1 : inR v1) (hv2 : inR v2) (hv3 : inR v3) (hv4 : inR v4) (hv5 : inR v5) (hs1 : inR s1) (hs2 : inR s2) (hs3 : inR s3) (hμ : okM μ) (h : wp_X8_covers_72 Q X5 X26 v1 v2 v3 v4 v5 s1 s2 s3 μ) : J cX8_covers x E z0 μ 72 [some (rv E 115), some (iv v1), some (iv v2), some (iv v3), some (iv v4), some (iv v5)] [iv s3, iv s2, iv s1, rv E 121] (MQ (xb x) (QI E z0 Q) (xa x) (xs x) 0 0 (gA E)) := by
  unfold wp_X8_covers_72 at h
  refine r_iadd dX8_covers_72 ?_
  obtain ⟨o18, h⟩ := h
  obtain ⟨o19, h⟩ := h
  refine r_iast B kd_121 (kl kd_121) (by decide) o18 dX8_covers_73 ?_
  refine n_mem (fun μ20 eμ20 => ?_)
  have h := h μ20 eμ20
  have mμ20 : okM μ20 := eqM eμ20 (okM_sI hμ o19)
  refine r_inc5 dX8_covers_74 rfl ?_
  obtain ⟨o21, h⟩ := h
  refine r_goto 26 dX8_covers_77 rfl ?_
  exact J_weak (hX26 v1 v2 v3 v4 (v5 + 1) μ20 h hv1 hv2 hv3 hv4 o21 mμ20) (⟨rfl, ⟨rfl, ⟨rfl, ⟨rfl, ⟨rfl, ⟨rfl, trivial⟩⟩⟩⟩⟩⟩)
set_option maxRecDepth 20000 in
theorem t_X8_covers_71 {x : Cx} {E : Gx} (B : Bd x E 3 6 "SlipCoversModel") (hr : (xt x).sig.returnType = (some .int)) {Q : Int → Mem → Prop} {X5 : Int → Int → Int → Int → Mem → Prop} (hX5 : ∀ (v1 : Int) (v2 : Int) (v3 : Int) (v4 : Int) (μ : Mem), X5 v1 v2 v3 v4 μ → inR v1 → inR v2 → inR v3 → inR v4 → okM μ → J cX8_covers x E z0 μ 5 [some (rv E 115), some (iv v1), some (iv v2), some (iv v3), some (iv v4), none] [] (MQ (xb x) (QI E z0 Q) (xa x) (xs x) 0 0 (gA E))) {X26 : Int → Int → Int → Int → Int → Mem → Prop} (hX26 : ∀ (v1 : Int) (v2 : Int) (v3 : Int) (v4 : Int) (v5 : Int) (μ : Mem), X26 v1 v2 v3 v4 v5 μ → inR v1 → inR v2 → inR v3 → inR v4 → inR v5 → okM μ → J cX8_covers x E z0 μ 26 [some (rv E 115), some (iv v1), some (iv v2), some (iv v3), some (iv v4), some (iv v5)] [] (MQ (xb x) (QI E z0 Q) (xa x) (xs x) 0 0 (gA E))) {v1 : Int} {v2 : Int} {v3 : Int} {v4 : Int} {v5 : Int} {s1 : Int} {s2 : Int} {μ : Mem} (hv1 : inR v1) (hv2 : inR v2) (hv3 : inR v3) (hv4 : inR v4) (hv5 : inR v5) (hs1 : inR s1) (hs2 : inR s2) (hμ : okM μ) (h : wp_X8_covers_71 Q X5 X26 v1 v2 v3 v4 v5 s1 s2 μ) : J cX8_covers x E z0 μ 71 [some (rv E 115), some (iv v1), some (iv v2), some (iv v3), some (iv v4), some (iv v5)] [iv s2, iv s1, rv E 121] (MQ (xb x) (QI E z0 Q) (xa x) (xs x) 0 0 (gA E)) := by
  unfold wp_X8_covers_71 at h
  refine r_iconst dX8_covers_71 ?_
  exact J_weak (t_X8_covers_72 B hr hX5 hX26 hv1 hv2 hv3 hv4 hv5 hs1 hs2 (inR_k rfl) hμ h) (⟨rfl, ⟨rfl, ⟨rfl, ⟨rfl, ⟨rfl, ⟨rfl, trivial⟩⟩⟩⟩⟩⟩)
set_option maxRecDepth 20000 in
theorem t_X8_covers_26 {x : Cx} {E : Gx} (B : Bd x E 3 6 "SlipCoversModel") (hr : (xt x).sig.returnType = (some .int)) {Q : Int → Mem → Prop} {X5 : Int → Int → Int → Int → Mem → Prop} (hX5 : ∀ (v1 : Int) (v2 : Int) (v3 : Int) (v4 : Int) (μ : Mem), X5 v1 v2 v3 v4 μ → inR v1 → inR v2 → inR v3 → inR v4 → okM μ → J cX8_covers x E z0 μ 5 [some (rv E 115), some (iv v1), some (iv v2), some (iv v3), some (iv v4), none] [] (MQ (xb x) (QI E z0 Q) (xa x) (xs x) 0 0 (gA E))) {v1 : Int} {v2 : Int} {v3 : Int} {v4 : Int} {v5 : Int} {μ : Mem} (hv1 : inR v1) (hv2 : inR v2) (hv3 : inR v3) (hv4 : inR v4) (hv5 : inR v5) (hμ : okM μ) (h : LP6 (wp_X8_covers_26 Q X5) v1 v2 v3 v4 v5 μ) : J cX8_covers x E z0 μ 26 [some (rv E 115), some (iv v1), some (iv v2), some (iv v3), some (iv v4), some (iv v5)] [] (MQ (xb x) (QI E z0 Q) (xa x) (xs x) 0 0 (gA E)) := by
  refine LP6_ind (T := fun (v1 : Int) (v2 : Int) (v3 : Int) (v4 : Int) (v5 : Int) (μ : Mem) => inR v1 → inR v2 → inR v3 → inR v4 → inR v5 → okM μ → J cX8_covers x E z0 μ 26 [some (rv E 115), some (iv v1), some (iv v2), some (iv v3), some (iv v4), some (iv v5)] [] (MQ (xb x) (QI E z0 Q) (xa x) (xs x) 0 0 (gA E))) (fun X26 hX26 v1 v2 v3 v4 v5 μ h hv1 hv2 hv3 hv4 hv5 hμ => ?_) h hv1 hv2 hv3 hv4 hv5 hμ
  unfold wp_X8_covers_26 at h
  refine r_il5 dX8_covers_26 ?_
  refine r_al0 dX8_covers_28 ?_
  refine r_il1 dX8_covers_29 ?_
  refine r_cVI1 B cb_X8_words lk_X8_113 cv_X8_words kd_115 (c_X8_words (xl x) E hv1 hμ h) rfl rfl dX8_covers_30 (fun r7 μ6 hr7 mμ6 h => ?_)
  refine r_icmp_ge 80 dX8_covers_33 rfl hv5 hr7 (fun c8 => ?_) (fun c8 => ?_)
  · have h := h.1 c8
    refine r_il3 dX8_covers_80 ?_
    refine r_al0 dX8_covers_81 ?_
    refine r_getR B 121 fg_X8_30 kd_115 (kl kd_115) (ρo (off := 6) kd_115 rfl) dX8_covers_82 ?_
    refine r_il4 dX8_covers_85 ?_
    obtain ⟨o9, h⟩ := h
    refine r_iald B kd_121 (kl kd_121) (by decide) o9 dX8_covers_87 ?_
    refine r_if_ne 95 dX8_covers_88 rfl (mμ6 _ _) (fun c10 => ?_) (fun c10 => ?_)
    · have h := h.1 c10
      refine r_iconst dX8_covers_95 ?_
      exact J_weak (t_X8_covers_96 B hr hX5 hv1 hv2 hv4 hv3 (inR_k rfl) mμ6 h) (⟨rfl, ⟨rfl, ⟨rfl, ⟨rfl, trivial⟩⟩⟩⟩)
    · have h := h.2 c10
      refine r_iconst dX8_covers_91 ?_
      refine r_goto 96 dX8_covers_92 rfl ?_
      exact J_weak (t_X8_covers_96 B hr hX5 hv1 hv2 hv4 hv3 (inR_k rfl) mμ6 h) (⟨rfl, ⟨rfl, ⟨rfl, ⟨rfl, trivial⟩⟩⟩⟩)
  · have h := h.2 c8
    refine r_al0 dX8_covers_36 ?_
    refine r_getR B 121 fg_X8_30 kd_115 (kl kd_115) (ρo (off := 6) kd_115 rfl) dX8_covers_37 ?_
    refine r_il4 dX8_covers_40 ?_
    refine r_dup2 rfl rfl dX8_covers_42 ?_
    obtain ⟨o14, h⟩ := h
    refine r_iald B kd_121 (kl kd_121) (by decide) o14 dX8_covers_43 ?_
    refine r_al0 dX8_covers_44 ?_
    refine r_il1 dX8_covers_45 ?_
    refine r_il5 dX8_covers_46 ?_
    refine r_cVI2 B cb_X8_isIn lk_X8_116 cv_X8_isIn kd_115 (c_X8_isIn (xl x) E hv1 hv5 mμ6 h) rfl rfl dX8_covers_48 (fun r16 μ15 hr16 mμ15 h => ?_)
    refine r_if_eq 71 dX8_covers_51 rfl hr16 (fun c17 => ?_) (fun c17 => ?_)
    · have h := h.1 c17
      exact J_weak (t_X8_covers_71 B hr hX5 hX26 hv1 hv2 hv3 hv4 hv5 hv4 (mμ6 _ _) mμ15 h) (⟨rfl, ⟨rfl, ⟨rfl, ⟨rfl, ⟨rfl, ⟨rfl, trivial⟩⟩⟩⟩⟩⟩)
    · have h := h.2 c17
      refine r_al0 dX8_covers_54 ?_
      refine r_il1 dX8_covers_55 ?_
      refine r_il4 dX8_covers_56 ?_
      refine r_il5 dX8_covers_58 ?_
      refine r_cVI3 B cb_X8_farOf lk_X8_195 cv_X8_farOf kd_115 (c_X8_farOf (xl x) E hv1 hv4 hv5 mμ15 h) rfl rfl dX8_covers_60 (fun r23 μ22 hr23 mμ22 h => ?_)
      refine r_il2 dX8_covers_63 ?_
      refine r_icmp_gt 71 dX8_covers_64 rfl hr23 hv2 (fun c24 => ?_) (fun c24 => ?_)
      · have h := h.1 c24
        exact J_weak (t_X8_covers_71 B hr hX5 hX26 hv1 hv2 hv3 hv4 hv5 hv4 (mμ6 _ _) mμ22 h) (⟨rfl, ⟨rfl, ⟨rfl, ⟨rfl, ⟨rfl, ⟨rfl, trivial⟩⟩⟩⟩⟩⟩)
      · have h := h.2 c24
        refine r_iconst dX8_covers_67 ?_
        refine r_goto 72 dX8_covers_68 rfl ?_
        exact J_weak (t_X8_covers_72 B hr hX5 hX26 hv1 hv2 hv3 hv4 hv5 hv4 (mμ6 _ _) (inR_k rfl) mμ22 h) (⟨rfl, ⟨rfl, ⟨rfl, ⟨rfl, ⟨rfl, ⟨rfl, trivial⟩⟩⟩⟩⟩⟩)
set_option maxRecDepth 20000 in
theorem t_X8_covers_5 {x : Cx} {E : Gx} (B : Bd x E 3 6 "SlipCoversModel") (hr : (xt x).sig.returnType = (some .int)) {Q : Int → Mem → Prop} {v1 : Int} {v2 : Int} {v3 : Int} {v4 : Int} {μ : Mem} (hv1 : inR v1) (hv2 : inR v2) (hv3 : inR v3) (hv4 : inR v4) (hμ : okM μ) (h : LP5 (wp_X8_covers_5 Q) v1 v2 v3 v4 μ) : J cX8_covers x E z0 μ 5 [some (rv E 115), some (iv v1), some (iv v2), some (iv v3), some (iv v4), none] [] (MQ (xb x) (QI E z0 Q) (xa x) (xs x) 0 0 (gA E)) := by
  refine LP5_ind (T := fun (v1 : Int) (v2 : Int) (v3 : Int) (v4 : Int) (μ : Mem) => inR v1 → inR v2 → inR v3 → inR v4 → okM μ → J cX8_covers x E z0 μ 5 [some (rv E 115), some (iv v1), some (iv v2), some (iv v3), some (iv v4), none] [] (MQ (xb x) (QI E z0 Q) (xa x) (xs x) 0 0 (gA E))) (fun X5 hX5 v1 v2 v3 v4 μ h hv1 hv2 hv3 hv4 hμ => ?_) h hv1 hv2 hv3 hv4 hμ
  unfold wp_X8_covers_5 at h
  refine r_il4 dX8_covers_5 ?_
  refine r_al0 dX8_covers_7 ?_
  refine r_il1 dX8_covers_8 ?_
  refine r_cVI1 B cb_X8_words lk_X8_113 cv_X8_words kd_115 (c_X8_words (xl x) E hv1 hμ h) rfl rfl dX8_covers_9 (fun r2 μ1 hr2 mμ1 h => ?_)
  refine r_icmp_ge 104 dX8_covers_12 rfl hv4 hr2 (fun c3 => ?_) (fun c3 => ?_)
  · have h := h.1 c3
    refine r_il3 dX8_covers_104 ?_
    exact r_iret B hr hv3 mμ1 dX8_covers_105 h
  · have h := h.2 c3
    refine r_al0 dX8_covers_15 ?_
    refine r_getR B 121 fg_X8_30 kd_115 (kl kd_115) (ρo (off := 6) kd_115 rfl) dX8_covers_16 ?_
    refine r_il4 dX8_covers_19 ?_
    refine r_iconst dX8_covers_21 ?_
    obtain ⟨o4, h⟩ := h
    refine r_iast B kd_121 (kl kd_121) (by decide) o4 dX8_covers_22 ?_
    refine n_mem (fun μ5 eμ5 => ?_)
    have h := h μ5 eμ5
    have mμ5 : okM μ5 := eqM eμ5 (okM_sI mμ1 (inR_k rfl))
    refine r_iconst dX8_covers_23 ?_
    refine r_is5 dX8_covers_24 rfl ?_
    exact J_weak (t_X8_covers_26 B hr hX5 hv1 hv2 hv3 hv4 (inR_k rfl) mμ5 h) (⟨rfl, ⟨rfl, ⟨rfl, ⟨rfl, ⟨rfl, ⟨rfl, trivial⟩⟩⟩⟩⟩⟩)
set_option maxRecDepth 20000 in
theorem c_X8_covers (l : Launch) (E : Gx) {p0 : Int} {p1 : Int} {μ : Mem} {Q : Int → Mem → Prop} (hp0 : inR p0) (hp1 : inR p1) (hμ : okM μ) (h : wp_X8_covers p0 p1 μ Q) : MT l yX8_covers cX8_covers 6 (some .int) E 3 0 0 z0 [rv E 115, iv p0, iv p1] μ (QI E z0 Q) := by
  refine m_start [some (rv E 115), some (iv p0), some (iv p1), none, none, none] (by decide) rfl rfl rfl (fun x hxl hxc hxs B hr hnm => ?_)
  unfold wp_X8_covers at h
  refine r_iconst dX8_covers_0 ?_
  refine r_is3 dX8_covers_1 rfl ?_
  refine r_iconst dX8_covers_2 ?_
  refine r_is4 dX8_covers_3 rfl ?_
  exact J_weak (t_X8_covers_5 B hr hp0 hp1 (inR_k rfl) (inR_k rfl) hμ h) (⟨rfl, ⟨rfl, ⟨rfl, ⟨rfl, ⟨rfl, trivial⟩⟩⟩⟩⟩)
set_option maxRecDepth 20000 in
theorem t_X8_radius_13 {x : Cx} {E : Gx} (B : Bd x E 4 3 "SlipCoversModel") (hr : (xt x).sig.returnType = (some .int)) {Q : Int → Mem → Prop} {v1 : Int} {v2 : Int} {μ : Mem} (hv1 : inR v1) (hv2 : inR v2) (hμ : okM μ) (h : LP3 (wp_X8_radius_13 Q) v1 v2 μ) : J cX8_radius x E z0 μ 13 [some (rv E 115), some (iv v1), some (iv v2)] [] (MQ (xb x) (QI E z0 Q) (xa x) (xs x) 0 0 (gA E)) := by
  refine LP3_ind (T := fun (v1 : Int) (v2 : Int) (μ : Mem) => inR v1 → inR v2 → okM μ → J cX8_radius x E z0 μ 13 [some (rv E 115), some (iv v1), some (iv v2)] [] (MQ (xb x) (QI E z0 Q) (xa x) (xs x) 0 0 (gA E))) (fun X13 hX13 v1 v2 μ h hv1 hv2 hμ => ?_) h hv1 hv2 hμ
  unfold wp_X8_radius_13 at h
  refine r_al0 dX8_radius_13 ?_
  refine r_il1 dX8_radius_14 ?_
  refine r_il2 dX8_radius_15 ?_
  refine r_cVI2 B cb_X8_covers lk_X8_202 cv_X8_covers kd_115 (c_X8_covers (xl x) E hv1 hv2 hμ h) rfl rfl dX8_radius_16 (fun r5 μ4 hr5 mμ4 h => ?_)
  refine r_if_le 28 dX8_radius_19 rfl hr5 (fun c6 => ?_) (fun c6 => ?_)
  · have h := h.1 c6
    refine r_il2 dX8_radius_28 ?_
    exact r_iret B hr hv2 mμ4 dX8_radius_29 h
  · have h := h.2 c6
    refine r_inc2 dX8_radius_22 rfl ?_
    obtain ⟨o7, h⟩ := h
    refine r_goto 13 dX8_radius_25 rfl ?_
    exact J_weak (hX13 v1 (v2 + 1) μ4 h hv1 o7 mμ4) (⟨rfl, ⟨rfl, ⟨rfl, trivial⟩⟩⟩)
set_option maxRecDepth 20000 in
theorem c_X8_radius (l : Launch) (E : Gx) {p0 : Int} {μ : Mem} {Q : Int → Mem → Prop} (hp0 : inR p0) (hμ : okM μ) (h : wp_X8_radius p0 μ Q) : MT l yX8_radius cX8_radius 3 (some .int) E 4 0 0 z0 [rv E 115, iv p0] μ (QI E z0 Q) := by
  refine m_start [some (rv E 115), some (iv p0), none] (by decide) rfl rfl rfl (fun x hxl hxc hxs B hr hnm => ?_)
  unfold wp_X8_radius at h
  refine r_al0 dX8_radius_0 ?_
  refine r_il1 dX8_radius_1 ?_
  refine r_cVI1 B cb_X8_many lk_X8_199 cv_X8_many kd_115 (c_X8_many (xl x) E hp0 hμ h) rfl rfl dX8_radius_2 (fun r2 μ1 hr2 mμ1 h => ?_)
  refine r_if_ne 11 dX8_radius_5 rfl hr2 (fun c3 => ?_) (fun c3 => ?_)
  · have h := h.1 c3
    refine r_iconst dX8_radius_11 ?_
    refine r_is2 dX8_radius_12 rfl ?_
    exact J_weak (t_X8_radius_13 B hr hp0 (inR_k rfl) mμ1 h) (⟨rfl, ⟨rfl, ⟨rfl, trivial⟩⟩⟩)
  · have h := h.2 c3
    refine r_bipush dX8_radius_8 (by decide) ?_
    exact r_iret B hr (inR_k rfl) mμ1 dX8_radius_10 h
set_option maxRecDepth 20000 in
theorem t_X8_apart_67 {x : Cx} {E : Gx} (B : Bd x E 3 6 "SlipCoversModel") (hr : (xt x).sig.returnType = (some .int)) {Q : Int → Mem → Prop} {X5 : Int → Int → Int → Mem → Prop} (hX5 : ∀ (v1 : Int) (v2 : Int) (v3 : Int) (μ : Mem), X5 v1 v2 v3 μ → inR v1 → inR v2 → inR v3 → okM μ → J cX8_apart x E z0 μ 5 [some (rv E 115), some (iv v1), some (iv v2), some (iv v3), none, none] [] (MQ (xb x) (QI E z0 Q) (xa x) (xs x) 0 0 (gA E))) {X17 : Int → Int → Int → Int → Mem → Prop} (hX17 : ∀ (v1 : Int) (v2 : Int) (v3 : Int) (v4 : Int) (μ : Mem), X17 v1 v2 v3 v4 μ → inR v1 → inR v2 → inR v3 → inR v4 → okM μ → J cX8_apart x E z0 μ 17 [some (rv E 115), some (iv v1), some (iv v2), some (iv v3), some (iv v4), none] [] (MQ (xb x) (QI E z0 Q) (xa x) (xs x) 0 0 (gA E))) {v1 : Int} {v3 : Int} {v4 : Int} {v5 : Int} {μ : Mem} (hv1 : inR v1) (hv3 : inR v3) (hv4 : inR v4) (hv5 : inR v5) (hμ : okM μ) (h : wp_X8_apart_67 Q X5 X17 v1 v3 v4 v5 μ) : J cX8_apart x E z0 μ 67 [some (rv E 115), some (iv v1), none, some (iv v3), some (iv v4), some (iv v5)] [] (MQ (xb x) (QI E z0 Q) (xa x) (xs x) 0 0 (gA E)) := by
  unfold wp_X8_apart_67 at h
  refine r_il5 dX8_apart_67 ?_
  refine r_goto 73 dX8_apart_69 rfl ?_
  refine r_is2 dX8_apart_73 rfl ?_
  refine r_inc4 dX8_apart_74 rfl ?_
  obtain ⟨o16, h⟩ := h
  refine r_goto 17 dX8_apart_77 rfl ?_
  exact J_weak (hX17 v1 v5 v3 (v4 + 1) μ h hv1 hv5 hv3 o16 hμ) (⟨rfl, ⟨rfl, ⟨rfl, ⟨rfl, ⟨rfl, trivial⟩⟩⟩⟩⟩)
set_option maxRecDepth 20000 in
theorem t_X8_apart_17 {x : Cx} {E : Gx} (B : Bd x E 3 6 "SlipCoversModel") (hr : (xt x).sig.returnType = (some .int)) {Q : Int → Mem → Prop} {X5 : Int → Int → Int → Mem → Prop} (hX5 : ∀ (v1 : Int) (v2 : Int) (v3 : Int) (μ : Mem), X5 v1 v2 v3 μ → inR v1 → inR v2 → inR v3 → okM μ → J cX8_apart x E z0 μ 5 [some (rv E 115), some (iv v1), some (iv v2), some (iv v3), none, none] [] (MQ (xb x) (QI E z0 Q) (xa x) (xs x) 0 0 (gA E))) {v1 : Int} {v2 : Int} {v3 : Int} {v4 : Int} {μ : Mem} (hv1 : inR v1) (hv2 : inR v2) (hv3 : inR v3) (hv4 : inR v4) (hμ : okM μ) (h : LP5 (wp_X8_apart_17 Q X5) v1 v2 v3 v4 μ) : J cX8_apart x E z0 μ 17 [some (rv E 115), some (iv v1), some (iv v2), some (iv v3), some (iv v4), none] [] (MQ (xb x) (QI E z0 Q) (xa x) (xs x) 0 0 (gA E)) := by
  refine LP5_ind (T := fun (v1 : Int) (v2 : Int) (v3 : Int) (v4 : Int) (μ : Mem) => inR v1 → inR v2 → inR v3 → inR v4 → okM μ → J cX8_apart x E z0 μ 17 [some (rv E 115), some (iv v1), some (iv v2), some (iv v3), some (iv v4), none] [] (MQ (xb x) (QI E z0 Q) (xa x) (xs x) 0 0 (gA E))) (fun X17 hX17 v1 v2 v3 v4 μ h hv1 hv2 hv3 hv4 hμ => ?_) h hv1 hv2 hv3 hv4 hμ
  unfold wp_X8_apart_17 at h
  refine r_il4 dX8_apart_17 ?_
  refine r_il3 dX8_apart_19 ?_
  refine r_icmp_ge 80 dX8_apart_20 rfl hv4 hv3 (fun c4 => ?_) (fun c4 => ?_)
  · have h := h.1 c4
    refine r_inc3 dX8_apart_80 rfl ?_
    obtain ⟨o5, h⟩ := h
    refine r_goto 5 dX8_apart_83 rfl ?_
    exact J_weak (hX5 v1 v2 (v3 + 1) μ h hv1 hv2 o5 hμ) (⟨rfl, ⟨rfl, ⟨rfl, ⟨rfl, trivial⟩⟩⟩⟩)
  · have h := h.2 c4
    refine r_al0 dX8_apart_23 ?_
    refine r_il1 dX8_apart_24 ?_
    refine r_il3 dX8_apart_25 ?_
    refine r_cVI2 B cb_X8_isIn lk_X8_116 cv_X8_isIn kd_115 (c_X8_isIn (xl x) E hv1 hv3 hμ h) rfl rfl dX8_apart_26 (fun r7 μ6 hr7 mμ6 h => ?_)
    refine r_if_eq 74 dX8_apart_29 rfl hr7 (fun c8 => ?_) (fun c8 => ?_)
    · have h := h.1 c8
      refine r_inc4 dX8_apart_74 rfl ?_
      obtain ⟨o9, h⟩ := h
      refine r_goto 17 dX8_apart_77 rfl ?_
      exact J_weak (hX17 v1 v2 v3 (v4 + 1) μ6 h hv1 hv2 hv3 o9 mμ6) (⟨rfl, ⟨rfl, ⟨rfl, ⟨rfl, ⟨rfl, trivial⟩⟩⟩⟩⟩)
    · have h := h.2 c8
      refine r_al0 dX8_apart_32 ?_
      refine r_il1 dX8_apart_33 ?_
      refine r_il4 dX8_apart_34 ?_
      refine r_cVI2 B cb_X8_isIn lk_X8_116 cv_X8_isIn kd_115 (c_X8_isIn (xl x) E hv1 hv4 mμ6 h) rfl rfl dX8_apart_36 (fun r11 μ10 hr11 mμ10 h => ?_)
      refine r_if_ne 45 dX8_apart_39 rfl hr11 (fun c12 => ?_) (fun c12 => ?_)
      · have h := h.1 c12
        refine r_al0 dX8_apart_45 ?_
        refine r_il1 dX8_apart_46 ?_
        refine r_il3 dX8_apart_47 ?_
        refine r_il4 dX8_apart_48 ?_
        refine r_cVI3 B cb_X8_farOf lk_X8_195 cv_X8_farOf kd_115 (c_X8_farOf (xl x) E hv1 hv3 hv4 mμ10 h) rfl rfl dX8_apart_50 (fun r14 μ13 hr14 mμ13 h => ?_)
        refine r_is5 dX8_apart_53 rfl ?_
        refine r_il2 dX8_apart_55 ?_
        refine r_bipush dX8_apart_56 (by decide) ?_
        refine r_icmp_eq 67 dX8_apart_58 rfl hv2 (inR_k rfl) (fun c15 => ?_) (fun c15 => ?_)
        · have h := h.1 c15
          exact J_weak (t_X8_apart_67 B hr hX5 hX17 hv1 hv3 hv4 hr14 mμ13 h) (⟨rfl, ⟨rfl, ⟨rfl, ⟨rfl, ⟨rfl, trivial⟩⟩⟩⟩⟩)
        · have h := h.2 c15
          refine r_il5 dX8_apart_61 ?_
          refine r_il2 dX8_apart_63 ?_
          refine r_icmp_ge 72 dX8_apart_64 rfl hr14 hv2 (fun c17 => ?_) (fun c17 => ?_)
          · have h := h.1 c17
            refine r_il2 dX8_apart_72 ?_
            refine r_is2 dX8_apart_73 rfl ?_
            refine r_inc4 dX8_apart_74 rfl ?_
            obtain ⟨o18, h⟩ := h
            refine r_goto 17 dX8_apart_77 rfl ?_
            exact J_weak (hX17 v1 v2 v3 (v4 + 1) μ13 h hv1 hv2 hv3 o18 mμ13) (⟨rfl, ⟨rfl, ⟨rfl, ⟨rfl, ⟨rfl, trivial⟩⟩⟩⟩⟩)
          · have h := h.2 c17
            exact J_weak (t_X8_apart_67 B hr hX5 hX17 hv1 hv3 hv4 hr14 mμ13 h) (⟨rfl, ⟨rfl, ⟨rfl, ⟨rfl, ⟨rfl, trivial⟩⟩⟩⟩⟩)
      · have h := h.2 c12
        refine r_goto 74 dX8_apart_42 rfl ?_
        refine r_inc4 dX8_apart_74 rfl ?_
        obtain ⟨o19, h⟩ := h
        refine r_goto 17 dX8_apart_77 rfl ?_
        exact J_weak (hX17 v1 v2 v3 (v4 + 1) μ10 h hv1 hv2 hv3 o19 mμ10) (⟨rfl, ⟨rfl, ⟨rfl, ⟨rfl, ⟨rfl, trivial⟩⟩⟩⟩⟩)
set_option maxRecDepth 20000 in
theorem t_X8_apart_5 {x : Cx} {E : Gx} (B : Bd x E 3 6 "SlipCoversModel") (hr : (xt x).sig.returnType = (some .int)) {Q : Int → Mem → Prop} {v1 : Int} {v2 : Int} {v3 : Int} {μ : Mem} (hv1 : inR v1) (hv2 : inR v2) (hv3 : inR v3) (hμ : okM μ) (h : LP4 (wp_X8_apart_5 Q) v1 v2 v3 μ) : J cX8_apart x E z0 μ 5 [some (rv E 115), some (iv v1), some (iv v2), some (iv v3), none, none] [] (MQ (xb x) (QI E z0 Q) (xa x) (xs x) 0 0 (gA E)) := by
  refine LP4_ind (T := fun (v1 : Int) (v2 : Int) (v3 : Int) (μ : Mem) => inR v1 → inR v2 → inR v3 → okM μ → J cX8_apart x E z0 μ 5 [some (rv E 115), some (iv v1), some (iv v2), some (iv v3), none, none] [] (MQ (xb x) (QI E z0 Q) (xa x) (xs x) 0 0 (gA E))) (fun X5 hX5 v1 v2 v3 μ h hv1 hv2 hv3 hμ => ?_) h hv1 hv2 hv3 hμ
  unfold wp_X8_apart_5 at h
  refine r_il3 dX8_apart_5 ?_
  refine r_al0 dX8_apart_6 ?_
  refine r_il1 dX8_apart_7 ?_
  refine r_cVI1 B cb_X8_words lk_X8_113 cv_X8_words kd_115 (c_X8_words (xl x) E hv1 hμ h) rfl rfl dX8_apart_8 (fun r2 μ1 hr2 mμ1 h => ?_)
  refine r_icmp_ge 86 dX8_apart_11 rfl hv3 hr2 (fun c3 => ?_) (fun c3 => ?_)
  · have h := h.1 c3
    refine r_il2 dX8_apart_86 ?_
    exact r_iret B hr hv2 mμ1 dX8_apart_87 h
  · have h := h.2 c3
    refine r_iconst dX8_apart_14 ?_
    refine r_is4 dX8_apart_15 rfl ?_
    exact J_weak (t_X8_apart_17 B hr hX5 hv1 hv2 hv3 (inR_k rfl) mμ1 h) (⟨rfl, ⟨rfl, ⟨rfl, ⟨rfl, ⟨rfl, trivial⟩⟩⟩⟩⟩)
set_option maxRecDepth 20000 in
theorem c_X8_apart (l : Launch) (E : Gx) {p0 : Int} {μ : Mem} {Q : Int → Mem → Prop} (hp0 : inR p0) (hμ : okM μ) (h : wp_X8_apart p0 μ Q) : MT l yX8_apart cX8_apart 6 (some .int) E 3 0 0 z0 [rv E 115, iv p0] μ (QI E z0 Q) := by
  refine m_start [some (rv E 115), some (iv p0), none, none, none, none] (by decide) rfl rfl rfl (fun x hxl hxc hxs B hr hnm => ?_)
  unfold wp_X8_apart at h
  refine r_bipush dX8_apart_0 (by decide) ?_
  refine r_is2 dX8_apart_2 rfl ?_
  refine r_iconst dX8_apart_3 ?_
  refine r_is3 dX8_apart_4 rfl ?_
  exact J_weak (t_X8_apart_5 B hr hp0 (inR_k rfl) (inR_k rfl) hμ h) (⟨rfl, ⟨rfl, ⟨rfl, ⟨rfl, trivial⟩⟩⟩⟩)
set_option maxRecDepth 20000 in
theorem t_X8_weights_4 {x : Cx} {E : Gx} (B : Bd x E 2 4 "SlipCoversModel") (hr : (xt x).sig.returnType = (some .int)) {Q : Int → Mem → Prop} {v1 : Int} {v2 : Int} {v3 : Int} {μ : Mem} (hv1 : inR v1) (hv2 : inR v2) (hv3 : inR v3) (hμ : okM μ) (h : LP4 (wp_X8_weights_4 Q) v1 v2 v3 μ) : J cX8_weights x E z0 μ 4 [some (rv E 115), some (iv v1), some (iv v2), some (iv v3)] [] (MQ (xb x) (QI E z0 Q) (xa x) (xs x) 0 0 (gA E)) := by
  refine LP4_ind (T := fun (v1 : Int) (v2 : Int) (v3 : Int) (μ : Mem) => inR v1 → inR v2 → inR v3 → okM μ → J cX8_weights x E z0 μ 4 [some (rv E 115), some (iv v1), some (iv v2), some (iv v3)] [] (MQ (xb x) (QI E z0 Q) (xa x) (xs x) 0 0 (gA E))) (fun X4 hX4 v1 v2 v3 μ h hv1 hv2 hv3 hμ => ?_) h hv1 hv2 hv3 hμ
  unfold wp_X8_weights_4 at h
  refine r_il3 dX8_weights_4 ?_
  refine r_al0 dX8_weights_5 ?_
  refine r_il1 dX8_weights_6 ?_
  refine r_cVI1 B cb_X8_places lk_X8_105 cv_X8_places kd_115 (c_X8_places (xl x) E hv1 hμ h) rfl rfl dX8_weights_7 (fun r2 μ1 hr2 mμ1 h => ?_)
  refine r_icmp_ge 28 dX8_weights_10 rfl hv3 hr2 (fun c3 => ?_) (fun c3 => ?_)
  · have h := h.1 c3
    refine r_il2 dX8_weights_28 ?_
    exact r_iret B hr hv2 mμ1 dX8_weights_29 h
  · have h := h.2 c3
    refine r_il2 dX8_weights_13 ?_
    refine r_al0 dX8_weights_14 ?_
    refine r_il1 dX8_weights_15 ?_
    refine r_il3 dX8_weights_16 ?_
    refine r_cVI2 B cb_X8_weightOf lk_X8_120 cv_X8_weightOf kd_115 (c_X8_weightOf (xl x) E hv1 hv3 mμ1 h) rfl rfl dX8_weights_17 (fun r5 μ4 hr5 mμ4 h => ?_)
    refine r_iadd dX8_weights_20 ?_
    obtain ⟨o7, h⟩ := h
    refine n_topi (fun x6 ex6 => ?_)
    have h := h x6 ex6
    refine r_is2 dX8_weights_21 rfl ?_
    refine r_inc3 dX8_weights_22 rfl ?_
    obtain ⟨o8, h⟩ := h
    refine r_goto 4 dX8_weights_25 rfl ?_
    exact J_weak (hX4 v1 x6 (v3 + 1) μ4 h hv1 (eqR ex6 o7) o8 mμ4) (⟨rfl, ⟨rfl, ⟨rfl, ⟨rfl, trivial⟩⟩⟩⟩)
set_option maxRecDepth 20000 in
theorem c_X8_weights (l : Launch) (E : Gx) {p0 : Int} {μ : Mem} {Q : Int → Mem → Prop} (hp0 : inR p0) (hμ : okM μ) (h : wp_X8_weights p0 μ Q) : MT l yX8_weights cX8_weights 4 (some .int) E 2 0 0 z0 [rv E 115, iv p0] μ (QI E z0 Q) := by
  refine m_start [some (rv E 115), some (iv p0), none, none] (by decide) rfl rfl rfl (fun x hxl hxc hxs B hr hnm => ?_)
  unfold wp_X8_weights at h
  refine r_iconst dX8_weights_0 ?_
  refine r_is2 dX8_weights_1 rfl ?_
  refine r_iconst dX8_weights_2 ?_
  refine r_is3 dX8_weights_3 rfl ?_
  exact J_weak (t_X8_weights_4 B hr hp0 (inR_k rfl) (inR_k rfl) hμ h) (⟨rfl, ⟨rfl, ⟨rfl, ⟨rfl, trivial⟩⟩⟩⟩)
set_option maxRecDepth 20000 in
theorem c_X8_about (l : Launch) (E : Gx) {p0 : Int} {p1 : Int} {μ : Mem} {Q : Int → Mem → Prop} (hp0 : inR p0) (hp1 : inR p1) (hμ : okM μ) (h : wp_X8_about p0 p1 μ Q) : MT l yX8_about cX8_about 3 (some .int) E 5 0 0 z0 [rv E 115, iv p0, iv p1] μ (QI E z0 Q) := by
  refine m_start [some (rv E 115), some (iv p0), some (iv p1)] (by decide) rfl rfl rfl (fun x hxl hxc hxs B hr hnm => ?_)
  unfold wp_X8_about at h
  refine r_al0 dX8_about_0 ?_
  refine r_iconst dX8_about_1 ?_
  refine r_putI B fg_X8_42 fp_8_0 kd_115 (kl kd_115) dX8_about_2 ?_
  refine n_mem (fun μ1 eμ1 => ?_)
  have h := h μ1 eμ1
  have mμ1 : okM μ1 := eqM eμ1 (okM_sI hμ (inR_k rfl))
  refine r_al0 dX8_about_5 ?_
  refine r_il1 dX8_about_6 ?_
  refine r_cVI1 B cb_X8_isCode lk_X8_192 cv_X8_isCode kd_115 (c_X8_isCode (xl x) E hp0 mμ1 h) rfl rfl dX8_about_7 (fun r3 μ2 hr3 mμ2 h => ?_)
  refine r_if_ne 19 dX8_about_10 rfl hr3 (fun c4 => ?_) (fun c4 => ?_)
  · have h := h.1 c4
    refine r_il2 dX8_about_19 ?_
    by_cases q0 : p1 = 0
    · have h := h.1 q0
      refine r_tblI (off := 40) 60 dX8_about_20 hp1 (by omega) (by omega) (by rw [q0]; rfl) rfl ?_
      refine r_al0 dX8_about_60 ?_
      refine r_al0 dX8_about_61 ?_
      refine r_il1 dX8_about_62 ?_
      refine r_cVI1 B cb_X8_places lk_X8_105 cv_X8_places kd_115 (c_X8_places (xl x) E hp0 mμ2 h) rfl rfl dX8_about_63 (fun r6 μ5 hr6 mμ5 h => ?_)
      refine r_cVI1 B cb_X8_good lk_X8_189 cv_X8_good kd_115 (c_X8_good (xl x) E hr6 mμ5 h) rfl rfl dX8_about_66 (fun r8 μ7 hr8 mμ7 h => ?_)
      exact r_iret B hr hr8 mμ7 dX8_about_69 h
    by_cases q1 : p1 = 1
    · have h := h.2.1 q1
      refine r_tblI (off := 50) 70 dX8_about_20 hp1 (by omega) (by omega) (by rw [q1]; rfl) rfl ?_
      refine r_al0 dX8_about_70 ?_
      refine r_al0 dX8_about_71 ?_
      refine r_il1 dX8_about_72 ?_
      refine r_cVI1 B cb_X8_words lk_X8_113 cv_X8_words kd_115 (c_X8_words (xl x) E hp0 mμ2 h) rfl rfl dX8_about_73 (fun r10 μ9 hr10 mμ9 h => ?_)
      refine r_cVI1 B cb_X8_good lk_X8_189 cv_X8_good kd_115 (c_X8_good (xl x) E hr10 mμ9 h) rfl rfl dX8_about_76 (fun r12 μ11 hr12 mμ11 h => ?_)
      exact r_iret B hr hr12 mμ11 dX8_about_79 h
    by_cases q2 : p1 = 2
    · have h := h.2.2.1 q2
      refine r_tblI (off := 60) 80 dX8_about_20 hp1 (by omega) (by omega) (by rw [q2]; rfl) rfl ?_
      refine r_al0 dX8_about_80 ?_
      refine r_al0 dX8_about_81 ?_
      refine r_il1 dX8_about_82 ?_
      refine r_cVI1 B cb_X8_many lk_X8_199 cv_X8_many kd_115 (c_X8_many (xl x) E hp0 mμ2 h) rfl rfl dX8_about_83 (fun r14 μ13 hr14 mμ13 h => ?_)
      refine r_cVI1 B cb_X8_good lk_X8_189 cv_X8_good kd_115 (c_X8_good (xl x) E hr14 mμ13 h) rfl rfl dX8_about_86 (fun r16 μ15 hr16 mμ15 h => ?_)
      exact r_iret B hr hr16 mμ15 dX8_about_89 h
    by_cases q3 : p1 = 3
    · have h := h.2.2.2.1 q3
      refine r_tblI (off := 70) 90 dX8_about_20 hp1 (by omega) (by omega) (by rw [q3]; rfl) rfl ?_
      refine r_al0 dX8_about_90 ?_
      refine r_al0 dX8_about_91 ?_
      refine r_il1 dX8_about_92 ?_
      refine r_cVI1 B cb_X8_weights lk_X8_205 cv_X8_weights kd_115 (c_X8_weights (xl x) E hp0 mμ2 h) rfl rfl dX8_about_93 (fun r18 μ17 hr18 mμ17 h => ?_)
      refine r_cVI1 B cb_X8_good lk_X8_189 cv_X8_good kd_115 (c_X8_good (xl x) E hr18 mμ17 h) rfl rfl dX8_about_96 (fun r20 μ19 hr20 mμ19 h => ?_)
      exact r_iret B hr hr20 mμ19 dX8_about_99 h
    by_cases q4 : p1 = 4
    · have h := h.2.2.2.2.1 q4
      refine r_tblI (off := 80) 100 dX8_about_20 hp1 (by omega) (by omega) (by rw [q4]; rfl) rfl ?_
      refine r_al0 dX8_about_100 ?_
      refine r_al0 dX8_about_101 ?_
      refine r_il1 dX8_about_102 ?_
      refine r_cVI1 B cb_X8_radius lk_X8_208 cv_X8_radius kd_115 (c_X8_radius (xl x) E hp0 mμ2 h) rfl rfl dX8_about_103 (fun r22 μ21 hr22 mμ21 h => ?_)
      refine r_cVI1 B cb_X8_good lk_X8_189 cv_X8_good kd_115 (c_X8_good (xl x) E hr22 mμ21 h) rfl rfl dX8_about_106 (fun r24 μ23 hr24 mμ23 h => ?_)
      exact r_iret B hr hr24 mμ23 dX8_about_109 h
    by_cases q5 : p1 = 5
    · have h := h.2.2.2.2.2.1 q5
      refine r_tblI (off := 90) 110 dX8_about_20 hp1 (by omega) (by omega) (by rw [q5]; rfl) rfl ?_
      refine r_al0 dX8_about_110 ?_
      refine r_al0 dX8_about_111 ?_
      refine r_il1 dX8_about_112 ?_
      refine r_cVI1 B cb_X8_apart lk_X8_211 cv_X8_apart kd_115 (c_X8_apart (xl x) E hp0 mμ2 h) rfl rfl dX8_about_113 (fun r26 μ25 hr26 mμ25 h => ?_)
      refine r_cVI1 B cb_X8_good lk_X8_189 cv_X8_good kd_115 (c_X8_good (xl x) E hr26 mμ25 h) rfl rfl dX8_about_116 (fun r28 μ27 hr28 mμ27 h => ?_)
      exact r_iret B hr hr28 mμ27 dX8_about_119 h
    have q : p1 < 0 ∨ 5 < p1 := by omega
    have h := h.2.2.2.2.2.2 q
    refine r_tblO 120 dX8_about_20 hp1 q rfl ?_
    refine r_al0 dX8_about_120 ?_
    refine r_iconst dX8_about_121 ?_
    refine r_cVI1 B cb_X8_refused lk_X8_173 cv_X8_refused kd_115 (c_X8_refused (xl x) E (inR_k rfl) mμ2 h) rfl rfl dX8_about_122 (fun r30 μ29 hr30 mμ29 h => ?_)
    exact r_iret B hr hr30 mμ29 dX8_about_125 h
  · have h := h.2 c4
    refine r_al0 dX8_about_13 ?_
    refine r_iconst dX8_about_14 ?_
    refine r_cVI1 B cb_X8_refused lk_X8_173 cv_X8_refused kd_115 (c_X8_refused (xl x) E (inR_k rfl) mμ2 h) rfl rfl dX8_about_15 (fun r32 μ31 hr32 mμ31 h => ?_)
    exact r_iret B hr hr32 mμ31 dX8_about_18 h
set_option maxRecDepth 20000 in
theorem c_X8_place (l : Launch) (E : Gx) {p0 : Int} {p1 : Int} {p2 : Int} {μ : Mem} {Q : Int → Mem → Prop} (hp0 : inR p0) (hp1 : inR p1) (hp2 : inR p2) (hμ : okM μ) (h : wp_X8_place p0 p1 p2 μ Q) : MT l yX8_place cX8_place 4 (some .int) E 4 0 0 z0 [rv E 115, iv p0, iv p1, iv p2] μ (QI E z0 Q) := by
  refine m_start [some (rv E 115), some (iv p0), some (iv p1), some (iv p2)] (by decide) rfl rfl rfl (fun x hxl hxc hxs B hr hnm => ?_)
  unfold wp_X8_place at h
  refine r_al0 dX8_place_0 ?_
  refine r_iconst dX8_place_1 ?_
  refine r_putI B fg_X8_42 fp_8_0 kd_115 (kl kd_115) dX8_place_2 ?_
  refine n_mem (fun μ1 eμ1 => ?_)
  have h := h μ1 eμ1
  have mμ1 : okM μ1 := eqM eμ1 (okM_sI hμ (inR_k rfl))
  refine r_al0 dX8_place_5 ?_
  refine r_il1 dX8_place_6 ?_
  refine r_il2 dX8_place_7 ?_
  refine r_cVI2 B cb_X8_isPlace lk_X8_214 cv_X8_isPlace kd_115 (c_X8_isPlace (xl x) E hp0 hp1 mμ1 h) rfl rfl dX8_place_8 (fun r3 μ2 hr3 mμ2 h => ?_)
  refine r_if_eq 23 dX8_place_11 rfl hr3 (fun c4 => ?_) (fun c4 => ?_)
  · have h := h.1 c4
    refine r_al0 dX8_place_23 ?_
    refine r_iconst dX8_place_24 ?_
    refine r_cVI1 B cb_X8_refused lk_X8_173 cv_X8_refused kd_115 (c_X8_refused (xl x) E (inR_k rfl) mμ2 h) rfl rfl dX8_place_25 (fun r6 μ5 hr6 mμ5 h => ?_)
    exact r_iret B hr hr6 mμ5 dX8_place_28 h
  · have h := h.2 c4
    refine r_il3 dX8_place_14 ?_
    refine r_iconst dX8_place_15 ?_
    refine r_iconst dX8_place_16 ?_
    refine r_cSI3 B cb_X8_in lk_X8_63 cs_X8_in (c_X8_in (xl x) E hp2 (inR_k rfl) (inR_k rfl) mμ2 h) rfl rfl dX8_place_17 (fun r8 μ7 hr8 mμ7 h => ?_)
    refine r_if_ne 29 dX8_place_20 rfl hr8 (fun c9 => ?_) (fun c9 => ?_)
    · have h := h.1 c9
      refine r_al0 dX8_place_29 ?_
      refine r_il3 dX8_place_30 ?_
      refine r_if_ne 43 dX8_place_31 rfl hp2 (fun c10 => ?_) (fun c10 => ?_)
      · have h := h.1 c10
        refine r_al0 dX8_place_43 ?_
        refine r_il1 dX8_place_44 ?_
        refine r_il2 dX8_place_45 ?_
        refine r_cVI2 B cb_X8_weightOf lk_X8_120 cv_X8_weightOf kd_115 (c_X8_weightOf (xl x) E hp0 hp1 mμ7 h) rfl rfl dX8_place_46 (fun r12 μ11 hr12 mμ11 h => ?_)
        refine r_cVI1 B cb_X8_good lk_X8_189 cv_X8_good kd_115 (c_X8_good (xl x) E hr12 mμ11 h) rfl rfl dX8_place_49 (fun r14 μ13 hr14 mμ13 h => ?_)
        exact r_iret B hr hr14 mμ13 dX8_place_52 h
      · have h := h.2 c10
        refine r_al0 dX8_place_34 ?_
        refine r_il1 dX8_place_35 ?_
        refine r_il2 dX8_place_36 ?_
        refine r_cVI2 B cb_X8_sizeOf lk_X8_109 cv_X8_sizeOf kd_115 (c_X8_sizeOf (xl x) E hp0 hp1 mμ7 h) rfl rfl dX8_place_37 (fun r16 μ15 hr16 mμ15 h => ?_)
        refine r_goto 49 dX8_place_40 rfl ?_
        refine r_cVI1 B cb_X8_good lk_X8_189 cv_X8_good kd_115 (c_X8_good (xl x) E hr16 mμ15 h) rfl rfl dX8_place_49 (fun r18 μ17 hr18 mμ17 h => ?_)
        exact r_iret B hr hr18 mμ17 dX8_place_52 h
    · have h := h.2 c9
      refine r_al0 dX8_place_23 ?_
      refine r_iconst dX8_place_24 ?_
      refine r_cVI1 B cb_X8_refused lk_X8_173 cv_X8_refused kd_115 (c_X8_refused (xl x) E (inR_k rfl) mμ7 h) rfl rfl dX8_place_25 (fun r20 μ19 hr20 mμ19 h => ?_)
      exact r_iret B hr hr20 mμ19 dX8_place_28 h
set_option maxRecDepth 20000 in
theorem t_X8_word_28 {x : Cx} {E : Gx} (B : Bd x E 3 5 "SlipCoversModel") (hr : (xt x).sig.returnType = (some .int)) {Q : Int → Mem → Prop} {v1 : Int} {v3 : Int} {v4 : Int} {μ : Mem} (hv1 : inR v1) (hv3 : inR v3) (hv4 : inR v4) (hμ : okM μ) (h : LP4 (wp_X8_word_28 Q) v1 v3 v4 μ) : J cX8_word x E z0 μ 28 [some (rv E 115), some (iv v1), none, some (iv v3), some (iv v4)] [] (MQ (xb x) (QI E z0 Q) (xa x) (xs x) 0 0 (gA E)) := by
  refine LP4_ind (T := fun (v1 : Int) (v3 : Int) (v4 : Int) (μ : Mem) => inR v1 → inR v3 → inR v4 → okM μ → J cX8_word x E z0 μ 28 [some (rv E 115), some (iv v1), none, some (iv v3), some (iv v4)] [] (MQ (xb x) (QI E z0 Q) (xa x) (xs x) 0 0 (gA E))) (fun X28 hX28 v1 v3 v4 μ h hv1 hv3 hv4 hμ => ?_) h hv1 hv3 hv4 hμ
  unfold wp_X8_word_28 at h
  refine r_il4 dX8_word_28 ?_
  refine r_al0 dX8_word_30 ?_
  refine r_il1 dX8_word_31 ?_
  refine r_cVI1 B cb_X8_words lk_X8_113 cv_X8_words kd_115 (c_X8_words (xl x) E hv1 hμ h) rfl rfl dX8_word_32 (fun r9 μ8 hr9 mμ8 h => ?_)
  refine r_icmp_ge 71 dX8_word_35 rfl hv4 hr9 (fun c10 => ?_) (fun c10 => ?_)
  · have h := h.1 c10
    refine r_al0 dX8_word_71 ?_
    refine r_bipush dX8_word_72 (by decide) ?_
    refine r_cVI1 B cb_X8_good lk_X8_189 cv_X8_good kd_115 (c_X8_good (xl x) E (inR_k rfl) mμ8 h) rfl rfl dX8_word_74 (fun r12 μ11 hr12 mμ11 h => ?_)
    exact r_iret B hr hr12 mμ11 dX8_word_77 h
  · have h := h.2 c10
    refine r_al0 dX8_word_38 ?_
    refine r_il1 dX8_word_39 ?_
    refine r_il4 dX8_word_40 ?_
    refine r_cVI2 B cb_X8_isIn lk_X8_116 cv_X8_isIn kd_115 (c_X8_isIn (xl x) E hv1 hv4 mμ8 h) rfl rfl dX8_word_42 (fun r14 μ13 hr14 mμ13 h => ?_)
    refine r_if_ne 51 dX8_word_45 rfl hr14 (fun c15 => ?_) (fun c15 => ?_)
    · have h := h.1 c15
      refine r_il3 dX8_word_51 ?_
      refine r_if_ne 62 dX8_word_52 rfl hv3 (fun c16 => ?_) (fun c16 => ?_)
      · have h := h.1 c16
        refine r_inc3 dX8_word_62 rfl ?_
        obtain ⟨o17, h⟩ := h
        refine r_inc4 dX8_word_65 rfl ?_
        obtain ⟨o18, h⟩ := h
        refine r_goto 28 dX8_word_68 rfl ?_
        exact J_weak (hX28 v1 (v3 + (-1)) (v4 + 1) μ13 h hv1 o17 o18 mμ13) (⟨rfl, ⟨rfl, ⟨rfl, ⟨rfl, trivial⟩⟩⟩⟩)
      · have h := h.2 c16
        refine r_al0 dX8_word_55 ?_
        refine r_il4 dX8_word_56 ?_
        refine r_cVI1 B cb_X8_good lk_X8_189 cv_X8_good kd_115 (c_X8_good (xl x) E hv4 mμ13 h) rfl rfl dX8_word_58 (fun r20 μ19 hr20 mμ19 h => ?_)
        exact r_iret B hr hr20 mμ19 dX8_word_61 h
    · have h := h.2 c15
      refine r_goto 65 dX8_word_48 rfl ?_
      refine r_inc4 dX8_word_65 rfl ?_
      obtain ⟨o21, h⟩ := h
      refine r_goto 28 dX8_word_68 rfl ?_
      exact J_weak (hX28 v1 v3 (v4 + 1) μ13 h hv1 hv3 o21 mμ13) (⟨rfl, ⟨rfl, ⟨rfl, ⟨rfl, trivial⟩⟩⟩⟩)
set_option maxRecDepth 20000 in
theorem c_X8_word (l : Launch) (E : Gx) {p0 : Int} {p1 : Int} {μ : Mem} {Q : Int → Mem → Prop} (hp0 : inR p0) (hp1 : inR p1) (hμ : okM μ) (h : wp_X8_word p0 p1 μ Q) : MT l yX8_word cX8_word 5 (some .int) E 3 0 0 z0 [rv E 115, iv p0, iv p1] μ (QI E z0 Q) := by
  refine m_start [some (rv E 115), some (iv p0), some (iv p1), none, none] (by decide) rfl rfl rfl (fun x hxl hxc hxs B hr hnm => ?_)
  unfold wp_X8_word at h
  refine r_al0 dX8_word_0 ?_
  refine r_iconst dX8_word_1 ?_
  refine r_putI B fg_X8_42 fp_8_0 kd_115 (kl kd_115) dX8_word_2 ?_
  refine n_mem (fun μ1 eμ1 => ?_)
  have h := h μ1 eμ1
  have mμ1 : okM μ1 := eqM eμ1 (okM_sI hμ (inR_k rfl))
  refine r_al0 dX8_word_5 ?_
  refine r_il1 dX8_word_6 ?_
  refine r_cVI1 B cb_X8_isCode lk_X8_192 cv_X8_isCode kd_115 (c_X8_isCode (xl x) E hp0 mμ1 h) rfl rfl dX8_word_7 (fun r3 μ2 hr3 mμ2 h => ?_)
  refine r_if_eq 17 dX8_word_10 rfl hr3 (fun c4 => ?_) (fun c4 => ?_)
  · have h := h.1 c4
    refine r_al0 dX8_word_17 ?_
    refine r_iconst dX8_word_18 ?_
    refine r_cVI1 B cb_X8_refused lk_X8_173 cv_X8_refused kd_115 (c_X8_refused (xl x) E (inR_k rfl) mμ2 h) rfl rfl dX8_word_19 (fun r6 μ5 hr6 mμ5 h => ?_)
    exact r_iret B hr hr6 mμ5 dX8_word_22 h
  · have h := h.2 c4
    refine r_il2 dX8_word_13 ?_
    refine r_if_ge 23 dX8_word_14 rfl hp1 (fun c7 => ?_) (fun c7 => ?_)
    · have h := h.1 c7
      refine r_il2 dX8_word_23 ?_
      refine r_is3 dX8_word_24 rfl ?_
      refine r_iconst dX8_word_25 ?_
      refine r_is4 dX8_word_26 rfl ?_
      exact J_weak (t_X8_word_28 B hr hp0 hp1 (inR_k rfl) mμ2 h) (⟨rfl, ⟨rfl, ⟨rfl, ⟨rfl, trivial⟩⟩⟩⟩)
    · have h := h.2 c7
      refine r_al0 dX8_word_17 ?_
      refine r_iconst dX8_word_18 ?_
      refine r_cVI1 B cb_X8_refused lk_X8_173 cv_X8_refused kd_115 (c_X8_refused (xl x) E (inR_k rfl) mμ2 h) rfl rfl dX8_word_19 (fun r23 μ22 hr23 mμ22 h => ?_)
      exact r_iret B hr hr23 mμ22 dX8_word_22 h
set_option maxRecDepth 20000 in
theorem c_X8_has (l : Launch) (E : Gx) {p0 : Int} {p1 : Int} {μ : Mem} {Q : Int → Mem → Prop} (hp0 : inR p0) (hp1 : inR p1) (hμ : okM μ) (h : wp_X8_has p0 p1 μ Q) : MT l yX8_has cX8_has 3 (some .int) E 4 0 0 z0 [rv E 115, iv p0, iv p1] μ (QI E z0 Q) := by
  refine m_start [some (rv E 115), some (iv p0), some (iv p1)] (by decide) rfl rfl rfl (fun x hxl hxc hxs B hr hnm => ?_)
  unfold wp_X8_has at h
  refine r_al0 dX8_has_0 ?_
  refine r_iconst dX8_has_1 ?_
  refine r_putI B fg_X8_42 fp_8_0 kd_115 (kl kd_115) dX8_has_2 ?_
  refine n_mem (fun μ1 eμ1 => ?_)
  have h := h μ1 eμ1
  have mμ1 : okM μ1 := eqM eμ1 (okM_sI hμ (inR_k rfl))
  refine r_al0 dX8_has_5 ?_
  refine r_il1 dX8_has_6 ?_
  refine r_il2 dX8_has_7 ?_
  refine r_cVI2 B cb_X8_isWordOf lk_X8_217 cv_X8_isWordOf kd_115 (c_X8_isWordOf (xl x) E hp0 hp1 mμ1 h) rfl rfl dX8_has_8 (fun r3 μ2 hr3 mμ2 h => ?_)
  refine r_if_eq 35 dX8_has_11 rfl hr3 (fun c4 => ?_) (fun c4 => ?_)
  · have h := h.1 c4
    refine r_al0 dX8_has_35 ?_
    refine r_iconst dX8_has_36 ?_
    refine r_cVI1 B cb_X8_refused lk_X8_173 cv_X8_refused kd_115 (c_X8_refused (xl x) E (inR_k rfl) mμ2 h) rfl rfl dX8_has_37 (fun r6 μ5 hr6 mμ5 h => ?_)
    exact r_iret B hr hr6 mμ5 dX8_has_40 h
  · have h := h.2 c4
    refine r_al0 dX8_has_14 ?_
    refine r_al0 dX8_has_15 ?_
    refine r_il1 dX8_has_16 ?_
    refine r_il2 dX8_has_17 ?_
    refine r_cVI2 B cb_X8_isIn lk_X8_116 cv_X8_isIn kd_115 (c_X8_isIn (xl x) E hp0 hp1 mμ2 h) rfl rfl dX8_has_18 (fun r8 μ7 hr8 mμ7 h => ?_)
    refine r_if_eq 28 dX8_has_21 rfl hr8 (fun c9 => ?_) (fun c9 => ?_)
    · have h := h.1 c9
      refine r_iconst dX8_has_28 ?_
      refine r_cVI1 B cb_X8_good lk_X8_189 cv_X8_good kd_115 (c_X8_good (xl x) E (inR_k rfl) mμ7 h) rfl rfl dX8_has_29 (fun r11 μ10 hr11 mμ10 h => ?_)
      refine r_goto 40 dX8_has_32 rfl ?_
      exact r_iret B hr hr11 mμ10 dX8_has_40 h
    · have h := h.2 c9
      refine r_iconst dX8_has_24 ?_
      refine r_goto 29 dX8_has_25 rfl ?_
      refine r_cVI1 B cb_X8_good lk_X8_189 cv_X8_good kd_115 (c_X8_good (xl x) E (inR_k rfl) mμ7 h) rfl rfl dX8_has_29 (fun r13 μ12 hr13 mμ12 h => ?_)
      refine r_goto 40 dX8_has_32 rfl ?_
      exact r_iret B hr hr13 mμ12 dX8_has_40 h
set_option maxRecDepth 20000 in
theorem c_X8_digit (l : Launch) (E : Gx) {p0 : Int} {p1 : Int} {p2 : Int} {μ : Mem} {Q : Int → Mem → Prop} (hp0 : inR p0) (hp1 : inR p1) (hp2 : inR p2) (hμ : okM μ) (h : wp_X8_digit p0 p1 p2 μ Q) : MT l yX8_digit cX8_digit 4 (some .int) E 4 0 0 z0 [rv E 115, iv p0, iv p1, iv p2] μ (QI E z0 Q) := by
  refine m_start [some (rv E 115), some (iv p0), some (iv p1), some (iv p2)] (by decide) rfl rfl rfl (fun x hxl hxc hxs B hr hnm => ?_)
  unfold wp_X8_digit at h
  refine r_al0 dX8_digit_0 ?_
  refine r_iconst dX8_digit_1 ?_
  refine r_putI B fg_X8_42 fp_8_0 kd_115 (kl kd_115) dX8_digit_2 ?_
  refine n_mem (fun μ1 eμ1 => ?_)
  have h := h μ1 eμ1
  have mμ1 : okM μ1 := eqM eμ1 (okM_sI hμ (inR_k rfl))
  refine r_al0 dX8_digit_5 ?_
  refine r_il1 dX8_digit_6 ?_
  refine r_il2 dX8_digit_7 ?_
  refine r_cVI2 B cb_X8_isWordOf lk_X8_217 cv_X8_isWordOf kd_115 (c_X8_isWordOf (xl x) E hp0 hp1 mμ1 h) rfl rfl dX8_digit_8 (fun r3 μ2 hr3 mμ2 h => ?_)
  refine r_if_eq 37 dX8_digit_11 rfl hr3 (fun c4 => ?_) (fun c4 => ?_)
  · have h := h.1 c4
    refine r_al0 dX8_digit_37 ?_
    refine r_iconst dX8_digit_38 ?_
    refine r_cVI1 B cb_X8_refused lk_X8_173 cv_X8_refused kd_115 (c_X8_refused (xl x) E (inR_k rfl) mμ2 h) rfl rfl dX8_digit_39 (fun r6 μ5 hr6 mμ5 h => ?_)
    exact r_iret B hr hr6 mμ5 dX8_digit_42 h
  · have h := h.2 c4
    refine r_al0 dX8_digit_14 ?_
    refine r_il1 dX8_digit_15 ?_
    refine r_il3 dX8_digit_16 ?_
    refine r_cVI2 B cb_X8_isPlace lk_X8_214 cv_X8_isPlace kd_115 (c_X8_isPlace (xl x) E hp0 hp2 mμ2 h) rfl rfl dX8_digit_17 (fun r8 μ7 hr8 mμ7 h => ?_)
    refine r_if_eq 37 dX8_digit_20 rfl hr8 (fun c9 => ?_) (fun c9 => ?_)
    · have h := h.1 c9
      refine r_al0 dX8_digit_37 ?_
      refine r_iconst dX8_digit_38 ?_
      refine r_cVI1 B cb_X8_refused lk_X8_173 cv_X8_refused kd_115 (c_X8_refused (xl x) E (inR_k rfl) mμ7 h) rfl rfl dX8_digit_39 (fun r11 μ10 hr11 mμ10 h => ?_)
      exact r_iret B hr hr11 mμ10 dX8_digit_42 h
    · have h := h.2 c9
      refine r_al0 dX8_digit_23 ?_
      refine r_al0 dX8_digit_24 ?_
      refine r_il1 dX8_digit_25 ?_
      refine r_il2 dX8_digit_26 ?_
      refine r_il3 dX8_digit_27 ?_
      refine r_cVI3 B cb_X8_digitOf lk_X8_220 cv_X8_digitOf kd_115 (c_X8_digitOf (xl x) E hp0 hp1 hp2 mμ7 h) rfl rfl dX8_digit_28 (fun r13 μ12 hr13 mμ12 h => ?_)
      refine r_cVI1 B cb_X8_good lk_X8_189 cv_X8_good kd_115 (c_X8_good (xl x) E hr13 mμ12 h) rfl rfl dX8_digit_31 (fun r15 μ14 hr15 mμ14 h => ?_)
      refine r_goto 42 dX8_digit_34 rfl ?_
      exact r_iret B hr hr15 mμ14 dX8_digit_42 h
set_option maxRecDepth 20000 in
theorem c_X8_far (l : Launch) (E : Gx) {p0 : Int} {p1 : Int} {p2 : Int} {μ : Mem} {Q : Int → Mem → Prop} (hp0 : inR p0) (hp1 : inR p1) (hp2 : inR p2) (hμ : okM μ) (h : wp_X8_far p0 p1 p2 μ Q) : MT l yX8_far cX8_far 4 (some .int) E 4 0 0 z0 [rv E 115, iv p0, iv p1, iv p2] μ (QI E z0 Q) := by
  refine m_start [some (rv E 115), some (iv p0), some (iv p1), some (iv p2)] (by decide) rfl rfl rfl (fun x hxl hxc hxs B hr hnm => ?_)
  unfold wp_X8_far at h
  refine r_al0 dX8_far_0 ?_
  refine r_iconst dX8_far_1 ?_
  refine r_putI B fg_X8_42 fp_8_0 kd_115 (kl kd_115) dX8_far_2 ?_
  refine n_mem (fun μ1 eμ1 => ?_)
  have h := h μ1 eμ1
  have mμ1 : okM μ1 := eqM eμ1 (okM_sI hμ (inR_k rfl))
  refine r_al0 dX8_far_5 ?_
  refine r_il1 dX8_far_6 ?_
  refine r_il2 dX8_far_7 ?_
  refine r_cVI2 B cb_X8_isWordOf lk_X8_217 cv_X8_isWordOf kd_115 (c_X8_isWordOf (xl x) E hp0 hp1 mμ1 h) rfl rfl dX8_far_8 (fun r3 μ2 hr3 mμ2 h => ?_)
  refine r_if_eq 37 dX8_far_11 rfl hr3 (fun c4 => ?_) (fun c4 => ?_)
  · have h := h.1 c4
    refine r_al0 dX8_far_37 ?_
    refine r_iconst dX8_far_38 ?_
    refine r_cVI1 B cb_X8_refused lk_X8_173 cv_X8_refused kd_115 (c_X8_refused (xl x) E (inR_k rfl) mμ2 h) rfl rfl dX8_far_39 (fun r6 μ5 hr6 mμ5 h => ?_)
    exact r_iret B hr hr6 mμ5 dX8_far_42 h
  · have h := h.2 c4
    refine r_al0 dX8_far_14 ?_
    refine r_il1 dX8_far_15 ?_
    refine r_il3 dX8_far_16 ?_
    refine r_cVI2 B cb_X8_isWordOf lk_X8_217 cv_X8_isWordOf kd_115 (c_X8_isWordOf (xl x) E hp0 hp2 mμ2 h) rfl rfl dX8_far_17 (fun r8 μ7 hr8 mμ7 h => ?_)
    refine r_if_eq 37 dX8_far_20 rfl hr8 (fun c9 => ?_) (fun c9 => ?_)
    · have h := h.1 c9
      refine r_al0 dX8_far_37 ?_
      refine r_iconst dX8_far_38 ?_
      refine r_cVI1 B cb_X8_refused lk_X8_173 cv_X8_refused kd_115 (c_X8_refused (xl x) E (inR_k rfl) mμ7 h) rfl rfl dX8_far_39 (fun r11 μ10 hr11 mμ10 h => ?_)
      exact r_iret B hr hr11 mμ10 dX8_far_42 h
    · have h := h.2 c9
      refine r_al0 dX8_far_23 ?_
      refine r_al0 dX8_far_24 ?_
      refine r_il1 dX8_far_25 ?_
      refine r_il2 dX8_far_26 ?_
      refine r_il3 dX8_far_27 ?_
      refine r_cVI3 B cb_X8_farOf lk_X8_195 cv_X8_farOf kd_115 (c_X8_farOf (xl x) E hp0 hp1 hp2 mμ7 h) rfl rfl dX8_far_28 (fun r13 μ12 hr13 mμ12 h => ?_)
      refine r_cVI1 B cb_X8_good lk_X8_189 cv_X8_good kd_115 (c_X8_good (xl x) E hr13 mμ12 h) rfl rfl dX8_far_31 (fun r15 μ14 hr15 mμ14 h => ?_)
      refine r_goto 42 dX8_far_34 rfl ?_
      exact r_iret B hr hr15 mμ14 dX8_far_42 h
set_option maxRecDepth 20000 in
theorem t_X8_ballOf_33 {x : Cx} {E : Gx} (B : Bd x E 3 5 "SlipCoversModel") (hr : (xt x).sig.returnType = (some .int)) {Q : Int → Mem → Prop} {X5 : Int → Int → Int → Int → Mem → Prop} (hX5 : ∀ (v1 : Int) (v2 : Int) (v3 : Int) (v4 : Int) (μ : Mem), X5 v1 v2 v3 v4 μ → inR v1 → inR v2 → inR v3 → inR v4 → okM μ → J cX8_ballOf x E z0 μ 5 [some (rv E 115), some (iv v1), some (iv v2), some (iv v3), some (iv v4)] [] (MQ (xb x) (QI E z0 Q) (xa x) (xs x) 0 0 (gA E))) {v1 : Int} {v2 : Int} {v4 : Int} {s0 : Int} {s1 : Int} {μ : Mem} (hv1 : inR v1) (hv2 : inR v2) (hv4 : inR v4) (hs0 : inR s0) (hs1 : inR s1) (hμ : okM μ) (h : wp_X8_ballOf_33 Q X5 v1 v2 v4 s0 s1 μ) : J cX8_ballOf x E z0 μ 33 [some (rv E 115), some (iv v1), some (iv v2), none, some (iv v4)] [iv s1, iv s0] (MQ (xb x) (QI E z0 Q) (xa x) (xs x) 0 0 (gA E)) := by
  unfold wp_X8_ballOf_33 at h
  refine r_iadd dX8_ballOf_33 ?_
  obtain ⟨o8, h⟩ := h
  refine n_topi (fun x7 ex7 => ?_)
  have h := h x7 ex7
  refine r_is3 dX8_ballOf_34 rfl ?_
  refine r_inc4 dX8_ballOf_35 rfl ?_
  obtain ⟨o9, h⟩ := h
  refine r_goto 5 dX8_ballOf_38 rfl ?_
  exact J_weak (hX5 v1 v2 x7 (v4 + 1) μ h hv1 hv2 (eqR ex7 o8) o9 hμ) (⟨rfl, ⟨rfl, ⟨rfl, ⟨rfl, ⟨rfl, trivial⟩⟩⟩⟩⟩)
set_option maxRecDepth 20000 in
theorem t_X8_ballOf_5 {x : Cx} {E : Gx} (B : Bd x E 3 5 "SlipCoversModel") (hr : (xt x).sig.returnType = (some .int)) {Q : Int → Mem → Prop} {v1 : Int} {v2 : Int} {v3 : Int} {v4 : Int} {μ : Mem} (hv1 : inR v1) (hv2 : inR v2) (hv3 : inR v3) (hv4 : inR v4) (hμ : okM μ) (h : LP5 (wp_X8_ballOf_5 Q) v1 v2 v3 v4 μ) : J cX8_ballOf x E z0 μ 5 [some (rv E 115), some (iv v1), some (iv v2), some (iv v3), some (iv v4)] [] (MQ (xb x) (QI E z0 Q) (xa x) (xs x) 0 0 (gA E)) := by
  refine LP5_ind (T := fun (v1 : Int) (v2 : Int) (v3 : Int) (v4 : Int) (μ : Mem) => inR v1 → inR v2 → inR v3 → inR v4 → okM μ → J cX8_ballOf x E z0 μ 5 [some (rv E 115), some (iv v1), some (iv v2), some (iv v3), some (iv v4)] [] (MQ (xb x) (QI E z0 Q) (xa x) (xs x) 0 0 (gA E))) (fun X5 hX5 v1 v2 v3 v4 μ h hv1 hv2 hv3 hv4 hμ => ?_) h hv1 hv2 hv3 hv4 hμ
  unfold wp_X8_ballOf_5 at h
  refine r_il4 dX8_ballOf_5 ?_
  refine r_al0 dX8_ballOf_7 ?_
  refine r_il1 dX8_ballOf_8 ?_
  refine r_cVI1 B cb_X8_words lk_X8_113 cv_X8_words kd_115 (c_X8_words (xl x) E hv1 hμ h) rfl rfl dX8_ballOf_9 (fun r2 μ1 hr2 mμ1 h => ?_)
  refine r_icmp_ge 41 dX8_ballOf_12 rfl hv4 hr2 (fun c3 => ?_) (fun c3 => ?_)
  · have h := h.1 c3
    refine r_il3 dX8_ballOf_41 ?_
    exact r_iret B hr hv3 mμ1 dX8_ballOf_42 h
  · have h := h.2 c3
    refine r_il3 dX8_ballOf_15 ?_
    refine r_al0 dX8_ballOf_16 ?_
    refine r_il1 dX8_ballOf_17 ?_
    refine r_iconst dX8_ballOf_18 ?_
    refine r_il4 dX8_ballOf_19 ?_
    refine r_cVI3 B cb_X8_farOf lk_X8_195 cv_X8_farOf kd_115 (c_X8_farOf (xl x) E hv1 (inR_k rfl) hv4 mμ1 h) rfl rfl dX8_ballOf_21 (fun r5 μ4 hr5 mμ4 h => ?_)
    refine r_il2 dX8_ballOf_24 ?_
    refine r_icmp_gt 32 dX8_ballOf_25 rfl hr5 hv2 (fun c6 => ?_) (fun c6 => ?_)
    · have h := h.1 c6
      refine r_iconst dX8_ballOf_32 ?_
      exact J_weak (t_X8_ballOf_33 B hr hX5 hv1 hv2 hv4 hv3 (inR_k rfl) mμ4 h) (⟨rfl, ⟨rfl, ⟨rfl, ⟨rfl, trivial⟩⟩⟩⟩)
    · have h := h.2 c6
      refine r_iconst dX8_ballOf_28 ?_
      refine r_goto 33 dX8_ballOf_29 rfl ?_
      exact J_weak (t_X8_ballOf_33 B hr hX5 hv1 hv2 hv4 hv3 (inR_k rfl) mμ4 h) (⟨rfl, ⟨rfl, ⟨rfl, ⟨rfl, trivial⟩⟩⟩⟩)
set_option maxRecDepth 20000 in
theorem c_X8_ballOf (l : Launch) (E : Gx) {p0 : Int} {p1 : Int} {μ : Mem} {Q : Int → Mem → Prop} (hp0 : inR p0) (hp1 : inR p1) (hμ : okM μ) (h : wp_X8_ballOf p0 p1 μ Q) : MT l yX8_ballOf cX8_ballOf 5 (some .int) E 3 0 0 z0 [rv E 115, iv p0, iv p1] μ (QI E z0 Q) := by
  refine m_start [some (rv E 115), some (iv p0), some (iv p1), none, none] (by decide) rfl rfl rfl (fun x hxl hxc hxs B hr hnm => ?_)
  unfold wp_X8_ballOf at h
  refine r_iconst dX8_ballOf_0 ?_
  refine r_is3 dX8_ballOf_1 rfl ?_
  refine r_iconst dX8_ballOf_2 ?_
  refine r_is4 dX8_ballOf_3 rfl ?_
  exact J_weak (t_X8_ballOf_5 B hr hp0 hp1 (inR_k rfl) (inR_k rfl) hμ h) (⟨rfl, ⟨rfl, ⟨rfl, ⟨rfl, ⟨rfl, trivial⟩⟩⟩⟩⟩)
set_option maxRecDepth 20000 in
theorem c_X8_ball (l : Launch) (E : Gx) {p0 : Int} {p1 : Int} {μ : Mem} {Q : Int → Mem → Prop} (hp0 : inR p0) (hp1 : inR p1) (hμ : okM μ) (h : wp_X8_ball p0 p1 μ Q) : MT l yX8_ball cX8_ball 3 (some .int) E 4 0 0 z0 [rv E 115, iv p0, iv p1] μ (QI E z0 Q) := by
  refine m_start [some (rv E 115), some (iv p0), some (iv p1)] (by decide) rfl rfl rfl (fun x hxl hxc hxs B hr hnm => ?_)
  unfold wp_X8_ball at h
  refine r_al0 dX8_ball_0 ?_
  refine r_iconst dX8_ball_1 ?_
  refine r_putI B fg_X8_42 fp_8_0 kd_115 (kl kd_115) dX8_ball_2 ?_
  refine n_mem (fun μ1 eμ1 => ?_)
  have h := h μ1 eμ1
  have mμ1 : okM μ1 := eqM eμ1 (okM_sI hμ (inR_k rfl))
  refine r_al0 dX8_ball_5 ?_
  refine r_il1 dX8_ball_6 ?_
  refine r_cVI1 B cb_X8_isCode lk_X8_192 cv_X8_isCode kd_115 (c_X8_isCode (xl x) E hp0 mμ1 h) rfl rfl dX8_ball_7 (fun r3 μ2 hr3 mμ2 h => ?_)
  refine r_if_ne 19 dX8_ball_10 rfl hr3 (fun c4 => ?_) (fun c4 => ?_)
  · have h := h.1 c4
    refine r_il2 dX8_ball_19 ?_
    refine r_cSI1 B cb_X8_isSlips lk_X8_223 cs_X8_isSlips (c_X8_isSlips (xl x) E hp1 mμ2 h) rfl rfl dX8_ball_20 (fun r6 μ5 hr6 mμ5 h => ?_)
    refine r_if_eq 39 dX8_ball_23 rfl hr6 (fun c7 => ?_) (fun c7 => ?_)
    · have h := h.1 c7
      refine r_al0 dX8_ball_39 ?_
      refine r_iconst dX8_ball_40 ?_
      refine r_cVI1 B cb_X8_refused lk_X8_173 cv_X8_refused kd_115 (c_X8_refused (xl x) E (inR_k rfl) mμ5 h) rfl rfl dX8_ball_41 (fun r9 μ8 hr9 mμ8 h => ?_)
      exact r_iret B hr hr9 mμ8 dX8_ball_44 h
    · have h := h.2 c7
      refine r_al0 dX8_ball_26 ?_
      refine r_al0 dX8_ball_27 ?_
      refine r_il1 dX8_ball_28 ?_
      refine r_il2 dX8_ball_29 ?_
      refine r_cVI2 B cb_X8_ballOf lk_X8_226 cv_X8_ballOf kd_115 (c_X8_ballOf (xl x) E hp0 hp1 mμ5 h) rfl rfl dX8_ball_30 (fun r11 μ10 hr11 mμ10 h => ?_)
      refine r_cVI1 B cb_X8_good lk_X8_189 cv_X8_good kd_115 (c_X8_good (xl x) E hr11 mμ10 h) rfl rfl dX8_ball_33 (fun r13 μ12 hr13 mμ12 h => ?_)
      refine r_goto 44 dX8_ball_36 rfl ?_
      exact r_iret B hr hr13 mμ12 dX8_ball_44 h
  · have h := h.2 c4
    refine r_al0 dX8_ball_13 ?_
    refine r_iconst dX8_ball_14 ?_
    refine r_cVI1 B cb_X8_refused lk_X8_173 cv_X8_refused kd_115 (c_X8_refused (xl x) E (inR_k rfl) mμ2 h) rfl rfl dX8_ball_15 (fun r15 μ14 hr15 mμ14 h => ?_)
    exact r_iret B hr hr15 mμ14 dX8_ball_18 h
set_option maxRecDepth 20000 in
theorem t_X8_ballAt_45 {x : Cx} {E : Gx} (B : Bd x E 4 7 "SlipCoversModel") (hr : (xt x).sig.returnType = (some .int)) {Q : Int → Mem → Prop} {v1 : Int} {v2 : Int} {v3 : Int} {v5 : Int} {v6 : Int} {μ : Mem} (hv1 : inR v1) (hv2 : inR v2) (hv3 : inR v3) (hv5 : inR v5) (hv6 : inR v6) (hμ : okM μ) (h : LP6 (wp_X8_ballAt_45 Q) v1 v2 v3 v5 v6 μ) : J cX8_ballAt x E z0 μ 45 [some (rv E 115), some (iv v1), some (iv v2), some (iv v3), none, some (iv v5), some (iv v6)] [] (MQ (xb x) (QI E z0 Q) (xa x) (xs x) 0 0 (gA E)) := by
  refine LP6_ind (T := fun (v1 : Int) (v2 : Int) (v3 : Int) (v5 : Int) (v6 : Int) (μ : Mem) => inR v1 → inR v2 → inR v3 → inR v5 → inR v6 → okM μ → J cX8_ballAt x E z0 μ 45 [some (rv E 115), some (iv v1), some (iv v2), some (iv v3), none, some (iv v5), some (iv v6)] [] (MQ (xb x) (QI E z0 Q) (xa x) (xs x) 0 0 (gA E))) (fun X45 hX45 v1 v2 v3 v5 v6 μ h hv1 hv2 hv3 hv5 hv6 hμ => ?_) h hv1 hv2 hv3 hv5 hv6 hμ
  unfold wp_X8_ballAt_45 at h
  refine r_il6 dX8_ballAt_45 ?_
  refine r_al0 dX8_ballAt_47 ?_
  refine r_il1 dX8_ballAt_48 ?_
  refine r_cVI1 B cb_X8_words lk_X8_113 cv_X8_words kd_115 (c_X8_words (xl x) E hv1 hμ h) rfl rfl dX8_ballAt_49 (fun r12 μ11 hr12 mμ11 h => ?_)
  refine r_icmp_ge 91 dX8_ballAt_52 rfl hv6 hr12 (fun c13 => ?_) (fun c13 => ?_)
  · have h := h.1 c13
    refine r_al0 dX8_ballAt_91 ?_
    refine r_bipush dX8_ballAt_92 (by decide) ?_
    refine r_cVI1 B cb_X8_good lk_X8_189 cv_X8_good kd_115 (c_X8_good (xl x) E (inR_k rfl) mμ11 h) rfl rfl dX8_ballAt_94 (fun r15 μ14 hr15 mμ14 h => ?_)
    exact r_iret B hr hr15 mμ14 dX8_ballAt_97 h
  · have h := h.2 c13
    refine r_al0 dX8_ballAt_55 ?_
    refine r_il1 dX8_ballAt_56 ?_
    refine r_il2 dX8_ballAt_57 ?_
    refine r_il6 dX8_ballAt_58 ?_
    refine r_cVI3 B cb_X8_farOf lk_X8_195 cv_X8_farOf kd_115 (c_X8_farOf (xl x) E hv1 hv2 hv6 mμ11 h) rfl rfl dX8_ballAt_60 (fun r17 μ16 hr17 mμ16 h => ?_)
    refine r_il3 dX8_ballAt_63 ?_
    refine r_icmp_le 70 dX8_ballAt_64 rfl hr17 hv3 (fun c18 => ?_) (fun c18 => ?_)
    · have h := h.1 c18
      refine r_il5 dX8_ballAt_70 ?_
      refine r_if_ne 82 dX8_ballAt_72 rfl hv5 (fun c19 => ?_) (fun c19 => ?_)
      · have h := h.1 c19
        refine r_inc5 dX8_ballAt_82 rfl ?_
        obtain ⟨o20, h⟩ := h
        refine r_inc6 dX8_ballAt_85 rfl ?_
        obtain ⟨o21, h⟩ := h
        refine r_goto 45 dX8_ballAt_88 rfl ?_
        exact J_weak (hX45 v1 v2 v3 (v5 + (-1)) (v6 + 1) μ16 h hv1 hv2 hv3 o20 o21 mμ16) (⟨rfl, ⟨rfl, ⟨rfl, ⟨rfl, ⟨rfl, ⟨rfl, trivial⟩⟩⟩⟩⟩⟩)
      · have h := h.2 c19
        refine r_al0 dX8_ballAt_75 ?_
        refine r_il6 dX8_ballAt_76 ?_
        refine r_cVI1 B cb_X8_good lk_X8_189 cv_X8_good kd_115 (c_X8_good (xl x) E hv6 mμ16 h) rfl rfl dX8_ballAt_78 (fun r23 μ22 hr23 mμ22 h => ?_)
        exact r_iret B hr hr23 mμ22 dX8_ballAt_81 h
    · have h := h.2 c18
      refine r_goto 85 dX8_ballAt_67 rfl ?_
      refine r_inc6 dX8_ballAt_85 rfl ?_
      obtain ⟨o24, h⟩ := h
      refine r_goto 45 dX8_ballAt_88 rfl ?_
      exact J_weak (hX45 v1 v2 v3 v5 (v6 + 1) μ16 h hv1 hv2 hv3 hv5 o24 mμ16) (⟨rfl, ⟨rfl, ⟨rfl, ⟨rfl, ⟨rfl, ⟨rfl, trivial⟩⟩⟩⟩⟩⟩)
set_option maxRecDepth 20000 in
theorem c_X8_ballAt (l : Launch) (E : Gx) {p0 : Int} {p1 : Int} {p2 : Int} {p3 : Int} {μ : Mem} {Q : Int → Mem → Prop} (hp0 : inR p0) (hp1 : inR p1) (hp2 : inR p2) (hp3 : inR p3) (hμ : okM μ) (h : wp_X8_ballAt p0 p1 p2 p3 μ Q) : MT l yX8_ballAt cX8_ballAt 7 (some .int) E 4 0 0 z0 [rv E 115, iv p0, iv p1, iv p2, iv p3] μ (QI E z0 Q) := by
  refine m_start [some (rv E 115), some (iv p0), some (iv p1), some (iv p2), some (iv p3), none, none] (by decide) rfl rfl rfl (fun x hxl hxc hxs B hr hnm => ?_)
  unfold wp_X8_ballAt at h
  refine r_al0 dX8_ballAt_0 ?_
  refine r_iconst dX8_ballAt_1 ?_
  refine r_putI B fg_X8_42 fp_8_0 kd_115 (kl kd_115) dX8_ballAt_2 ?_
  refine n_mem (fun μ1 eμ1 => ?_)
  have h := h μ1 eμ1
  have mμ1 : okM μ1 := eqM eμ1 (okM_sI hμ (inR_k rfl))
  refine r_al0 dX8_ballAt_5 ?_
  refine r_il1 dX8_ballAt_6 ?_
  refine r_il2 dX8_ballAt_7 ?_
  refine r_cVI2 B cb_X8_isWordOf lk_X8_217 cv_X8_isWordOf kd_115 (c_X8_isWordOf (xl x) E hp0 hp1 mμ1 h) rfl rfl dX8_ballAt_8 (fun r3 μ2 hr3 mμ2 h => ?_)
  refine r_if_eq 19 dX8_ballAt_11 rfl hr3 (fun c4 => ?_) (fun c4 => ?_)
  · have h := h.1 c4
    refine r_al0 dX8_ballAt_19 ?_
    refine r_iconst dX8_ballAt_20 ?_
    refine r_cVI1 B cb_X8_refused lk_X8_173 cv_X8_refused kd_115 (c_X8_refused (xl x) E (inR_k rfl) mμ2 h) rfl rfl dX8_ballAt_21 (fun r6 μ5 hr6 mμ5 h => ?_)
    exact r_iret B hr hr6 mμ5 dX8_ballAt_24 h
  · have h := h.2 c4
    refine r_il4 dX8_ballAt_14 ?_
    refine r_if_ge 25 dX8_ballAt_16 rfl hp3 (fun c7 => ?_) (fun c7 => ?_)
    · have h := h.1 c7
      refine r_il3 dX8_ballAt_25 ?_
      refine r_cSI1 B cb_X8_isSlips lk_X8_223 cs_X8_isSlips (c_X8_isSlips (xl x) E hp2 mμ2 h) rfl rfl dX8_ballAt_26 (fun r9 μ8 hr9 mμ8 h => ?_)
      refine r_if_ne 38 dX8_ballAt_29 rfl hr9 (fun c10 => ?_) (fun c10 => ?_)
      · have h := h.1 c10
        refine r_il4 dX8_ballAt_38 ?_
        refine r_is5 dX8_ballAt_40 rfl ?_
        refine r_iconst dX8_ballAt_42 ?_
        refine r_is6 dX8_ballAt_43 rfl ?_
        exact J_weak (t_X8_ballAt_45 B hr hp0 hp1 hp2 hp3 (inR_k rfl) mμ8 h) (⟨rfl, ⟨rfl, ⟨rfl, ⟨rfl, ⟨rfl, ⟨rfl, trivial⟩⟩⟩⟩⟩⟩)
      · have h := h.2 c10
        refine r_al0 dX8_ballAt_32 ?_
        refine r_iconst dX8_ballAt_33 ?_
        refine r_cVI1 B cb_X8_refused lk_X8_173 cv_X8_refused kd_115 (c_X8_refused (xl x) E (inR_k rfl) mμ8 h) rfl rfl dX8_ballAt_34 (fun r26 μ25 hr26 mμ25 h => ?_)
        exact r_iret B hr hr26 mμ25 dX8_ballAt_37 h
    · have h := h.2 c7
      refine r_al0 dX8_ballAt_19 ?_
      refine r_iconst dX8_ballAt_20 ?_
      refine r_cVI1 B cb_X8_refused lk_X8_173 cv_X8_refused kd_115 (c_X8_refused (xl x) E (inR_k rfl) mμ2 h) rfl rfl dX8_ballAt_21 (fun r28 μ27 hr28 mμ27 h => ?_)
      exact r_iret B hr hr28 mμ27 dX8_ballAt_24 h
set_option maxRecDepth 20000 in
theorem c_X8_covered (l : Launch) (E : Gx) {p0 : Int} {p1 : Int} {μ : Mem} {Q : Int → Mem → Prop} (hp0 : inR p0) (hp1 : inR p1) (hμ : okM μ) (h : wp_X8_covered p0 p1 μ Q) : MT l yX8_covered cX8_covered 3 (some .int) E 4 0 0 z0 [rv E 115, iv p0, iv p1] μ (QI E z0 Q) := by
  refine m_start [some (rv E 115), some (iv p0), some (iv p1)] (by decide) rfl rfl rfl (fun x hxl hxc hxs B hr hnm => ?_)
  unfold wp_X8_covered at h
  refine r_al0 dX8_covered_0 ?_
  refine r_iconst dX8_covered_1 ?_
  refine r_putI B fg_X8_42 fp_8_0 kd_115 (kl kd_115) dX8_covered_2 ?_
  refine n_mem (fun μ1 eμ1 => ?_)
  have h := h μ1 eμ1
  have mμ1 : okM μ1 := eqM eμ1 (okM_sI hμ (inR_k rfl))
  refine r_al0 dX8_covered_5 ?_
  refine r_il1 dX8_covered_6 ?_
  refine r_cVI1 B cb_X8_isCode lk_X8_192 cv_X8_isCode kd_115 (c_X8_isCode (xl x) E hp0 mμ1 h) rfl rfl dX8_covered_7 (fun r3 μ2 hr3 mμ2 h => ?_)
  refine r_if_ne 19 dX8_covered_10 rfl hr3 (fun c4 => ?_) (fun c4 => ?_)
  · have h := h.1 c4
    refine r_il2 dX8_covered_19 ?_
    refine r_cSI1 B cb_X8_isSlips lk_X8_223 cs_X8_isSlips (c_X8_isSlips (xl x) E hp1 mμ2 h) rfl rfl dX8_covered_20 (fun r6 μ5 hr6 mμ5 h => ?_)
    refine r_if_eq 45 dX8_covered_23 rfl hr6 (fun c7 => ?_) (fun c7 => ?_)
    · have h := h.1 c7
      refine r_al0 dX8_covered_45 ?_
      refine r_iconst dX8_covered_46 ?_
      refine r_cVI1 B cb_X8_refused lk_X8_173 cv_X8_refused kd_115 (c_X8_refused (xl x) E (inR_k rfl) mμ5 h) rfl rfl dX8_covered_47 (fun r9 μ8 hr9 mμ8 h => ?_)
      exact r_iret B hr hr9 mμ8 dX8_covered_50 h
    · have h := h.2 c7
      refine r_al0 dX8_covered_26 ?_
      refine r_al0 dX8_covered_27 ?_
      refine r_il1 dX8_covered_28 ?_
      refine r_cVI1 B cb_X8_words lk_X8_113 cv_X8_words kd_115 (c_X8_words (xl x) E hp0 mμ5 h) rfl rfl dX8_covered_29 (fun r11 μ10 hr11 mμ10 h => ?_)
      refine r_al0 dX8_covered_32 ?_
      refine r_il1 dX8_covered_33 ?_
      refine r_il2 dX8_covered_34 ?_
      refine r_cVI2 B cb_X8_covers lk_X8_202 cv_X8_covers kd_115 (c_X8_covers (xl x) E hp0 hp1 mμ10 h) rfl rfl dX8_covered_35 (fun r13 μ12 hr13 mμ12 h => ?_)
      refine r_isub dX8_covered_38 ?_
      obtain ⟨o14, h⟩ := h
      refine r_cVI1 B cb_X8_good lk_X8_189 cv_X8_good kd_115 (c_X8_good (xl x) E o14 mμ12 h) rfl rfl dX8_covered_39 (fun r16 μ15 hr16 mμ15 h => ?_)
      refine r_goto 50 dX8_covered_42 rfl ?_
      exact r_iret B hr hr16 mμ15 dX8_covered_50 h
  · have h := h.2 c4
    refine r_al0 dX8_covered_13 ?_
    refine r_iconst dX8_covered_14 ?_
    refine r_cVI1 B cb_X8_refused lk_X8_173 cv_X8_refused kd_115 (c_X8_refused (xl x) E (inR_k rfl) mμ2 h) rfl rfl dX8_covered_15 (fun r18 μ17 hr18 mμ17 h => ?_)
    exact r_iret B hr hr18 mμ17 dX8_covered_18 h
set_option maxRecDepth 20000 in
theorem c_X8_times (l : Launch) (E : Gx) {p0 : Int} {p1 : Int} {p2 : Int} {μ : Mem} {Q : Int → Mem → Prop} (hp0 : inR p0) (hp1 : inR p1) (hp2 : inR p2) (hμ : okM μ) (h : wp_X8_times p0 p1 p2 μ Q) : MT l yX8_times cX8_times 5 (some .int) E 4 0 0 z0 [rv E 115, iv p0, iv p1, iv p2] μ (QI E z0 Q) := by
  refine m_start [some (rv E 115), some (iv p0), some (iv p1), some (iv p2), none] (by decide) rfl rfl rfl (fun x hxl hxc hxs B hr hnm => ?_)
  unfold wp_X8_times at h
  refine r_al0 dX8_times_0 ?_
  refine r_iconst dX8_times_1 ?_
  refine r_putI B fg_X8_42 fp_8_0 kd_115 (kl kd_115) dX8_times_2 ?_
  refine n_mem (fun μ1 eμ1 => ?_)
  have h := h μ1 eμ1
  have mμ1 : okM μ1 := eqM eμ1 (okM_sI hμ (inR_k rfl))
  refine r_al0 dX8_times_5 ?_
  refine r_il1 dX8_times_6 ?_
  refine r_il2 dX8_times_7 ?_
  refine r_cVI2 B cb_X8_isWordOf lk_X8_217 cv_X8_isWordOf kd_115 (c_X8_isWordOf (xl x) E hp0 hp1 mμ1 h) rfl rfl dX8_times_8 (fun r3 μ2 hr3 mμ2 h => ?_)
  refine r_if_ne 20 dX8_times_11 rfl hr3 (fun c4 => ?_) (fun c4 => ?_)
  · have h := h.1 c4
    refine r_il3 dX8_times_20 ?_
    refine r_cSI1 B cb_X8_isSlips lk_X8_223 cs_X8_isSlips (c_X8_isSlips (xl x) E hp2 mμ2 h) rfl rfl dX8_times_21 (fun r6 μ5 hr6 mμ5 h => ?_)
    refine r_if_ne 33 dX8_times_24 rfl hr6 (fun c7 => ?_) (fun c7 => ?_)
    · have h := h.1 c7
      refine r_al0 dX8_times_33 ?_
      refine r_il1 dX8_times_34 ?_
      refine r_il3 dX8_times_35 ?_
      refine r_cVI2 B cb_X8_covers lk_X8_202 cv_X8_covers kd_115 (c_X8_covers (xl x) E hp0 hp2 mμ5 h) rfl rfl dX8_times_36 (fun r9 μ8 hr9 mμ8 h => ?_)
      refine r_is4 dX8_times_39 rfl ?_
      refine r_al0 dX8_times_41 ?_
      refine r_al0 dX8_times_42 ?_
      refine r_getR B 121 fg_X8_30 kd_115 (kl kd_115) (ρo (off := 6) kd_115 rfl) dX8_times_43 ?_
      refine r_il2 dX8_times_46 ?_
      obtain ⟨o10, h⟩ := h
      refine r_iald B kd_121 (kl kd_121) (by decide) o10 dX8_times_47 ?_
      refine r_cVI1 B cb_X8_good lk_X8_189 cv_X8_good kd_115 (c_X8_good (xl x) E (mμ8 _ _) mμ8 h) rfl rfl dX8_times_48 (fun r12 μ11 hr12 mμ11 h => ?_)
      exact r_iret B hr hr12 mμ11 dX8_times_51 h
    · have h := h.2 c7
      refine r_al0 dX8_times_27 ?_
      refine r_iconst dX8_times_28 ?_
      refine r_cVI1 B cb_X8_refused lk_X8_173 cv_X8_refused kd_115 (c_X8_refused (xl x) E (inR_k rfl) mμ5 h) rfl rfl dX8_times_29 (fun r14 μ13 hr14 mμ13 h => ?_)
      exact r_iret B hr hr14 mμ13 dX8_times_32 h
  · have h := h.2 c4
    refine r_al0 dX8_times_14 ?_
    refine r_iconst dX8_times_15 ?_
    refine r_cVI1 B cb_X8_refused lk_X8_173 cv_X8_refused kd_115 (c_X8_refused (xl x) E (inR_k rfl) mμ2 h) rfl rfl dX8_times_16 (fun r16 μ15 hr16 mμ15 h => ?_)
    exact r_iret B hr hr16 mμ15 dX8_times_19 h
set_option maxRecDepth 20000 in
theorem t_X8_table_78 {x : Cx} {E : Gx} (B : Bd x E 4 6 "SlipCoversModel") (hr : (xt x).sig.returnType = (some .int)) {Q : Int → Mem → Prop} {X50 : Int → Int → Int → Int → Mem → Prop} (hX50 : ∀ (v1 : Int) (v3 : Int) (v4 : Int) (v5 : Int) (μ : Mem), X50 v1 v3 v4 v5 μ → inR v1 → inR v3 → inR v4 → inR v5 → okM μ → J cX8_table x E z0 μ 50 [some (rv E 115), some (iv v1), none, some (iv v3), some (iv v4), some (iv v5)] [] (MQ (xb x) (QI E z0 Q) (xa x) (xs x) 0 0 (gA E))) {v1 : Int} {v3 : Int} {v5 : Int} {s0 : Int} {s1 : Int} {μ : Mem} (hv1 : inR v1) (hv3 : inR v3) (hv5 : inR v5) (hs0 : inR s0) (hs1 : inR s1) (hμ : okM μ) (h : wp_X8_table_78 Q X50 v1 v3 v5 s0 s1 μ) : J cX8_table x E z0 μ 78 [some (rv E 115), some (iv v1), none, some (iv v3), none, some (iv v5)] [iv s1, iv s0] (MQ (xb x) (QI E z0 Q) (xa x) (xs x) 0 0 (gA E)) := by
  unfold wp_X8_table_78 at h
  refine r_iadd dX8_table_78 ?_
  obtain ⟨o21, h⟩ := h
  refine n_topi (fun x20 ex20 => ?_)
  have h := h x20 ex20
  refine r_is4 dX8_table_79 rfl ?_
  refine r_inc5 dX8_table_81 rfl ?_
  obtain ⟨o22, h⟩ := h
  refine r_goto 50 dX8_table_84 rfl ?_
  exact J_weak (hX50 v1 v3 x20 (v5 + 1) μ h hv1 hv3 (eqR ex20 o21) o22 hμ) (⟨rfl, ⟨rfl, ⟨rfl, ⟨rfl, ⟨rfl, trivial⟩⟩⟩⟩⟩)
set_option maxRecDepth 20000 in
theorem t_X8_table_50 {x : Cx} {E : Gx} (B : Bd x E 4 6 "SlipCoversModel") (hr : (xt x).sig.returnType = (some .int)) {Q : Int → Mem → Prop} {v1 : Int} {v3 : Int} {v4 : Int} {v5 : Int} {μ : Mem} (hv1 : inR v1) (hv3 : inR v3) (hv4 : inR v4) (hv5 : inR v5) (hμ : okM μ) (h : LP5 (wp_X8_table_50 Q) v1 v3 v4 v5 μ) : J cX8_table x E z0 μ 50 [some (rv E 115), some (iv v1), none, some (iv v3), some (iv v4), some (iv v5)] [] (MQ (xb x) (QI E z0 Q) (xa x) (xs x) 0 0 (gA E)) := by
  refine LP5_ind (T := fun (v1 : Int) (v3 : Int) (v4 : Int) (v5 : Int) (μ : Mem) => inR v1 → inR v3 → inR v4 → inR v5 → okM μ → J cX8_table x E z0 μ 50 [some (rv E 115), some (iv v1), none, some (iv v3), some (iv v4), some (iv v5)] [] (MQ (xb x) (QI E z0 Q) (xa x) (xs x) 0 0 (gA E))) (fun X50 hX50 v1 v3 v4 v5 μ h hv1 hv3 hv4 hv5 hμ => ?_) h hv1 hv3 hv4 hv5 hμ
  unfold wp_X8_table_50 at h
  refine r_il5 dX8_table_50 ?_
  refine r_al0 dX8_table_52 ?_
  refine r_il1 dX8_table_53 ?_
  refine r_cVI1 B cb_X8_words lk_X8_113 cv_X8_words kd_115 (c_X8_words (xl x) E hv1 hμ h) rfl rfl dX8_table_54 (fun r14 μ13 hr14 mμ13 h => ?_)
  refine r_icmp_ge 87 dX8_table_57 rfl hv5 hr14 (fun c15 => ?_) (fun c15 => ?_)
  · have h := h.1 c15
    refine r_al0 dX8_table_87 ?_
    refine r_il4 dX8_table_88 ?_
    refine r_cVI1 B cb_X8_good lk_X8_189 cv_X8_good kd_115 (c_X8_good (xl x) E hv4 mμ13 h) rfl rfl dX8_table_90 (fun r17 μ16 hr17 mμ16 h => ?_)
    exact r_iret B hr hr17 mμ16 dX8_table_93 h
  · have h := h.2 c15
    refine r_il4 dX8_table_60 ?_
    refine r_al0 dX8_table_62 ?_
    refine r_getR B 121 fg_X8_30 kd_115 (kl kd_115) (ρo (off := 6) kd_115 rfl) dX8_table_63 ?_
    refine r_il5 dX8_table_66 ?_
    obtain ⟨o18, h⟩ := h
    refine r_iald B kd_121 (kl kd_121) (by decide) o18 dX8_table_68 ?_
    refine r_il3 dX8_table_69 ?_
    refine r_icmp_ne 77 dX8_table_70 rfl (mμ13 _ _) hv3 (fun c19 => ?_) (fun c19 => ?_)
    · have h := h.1 c19
      refine r_iconst dX8_table_77 ?_
      exact J_weak (t_X8_table_78 B hr hX50 hv1 hv3 hv5 hv4 (inR_k rfl) mμ13 h) (⟨rfl, ⟨rfl, ⟨rfl, ⟨rfl, trivial⟩⟩⟩⟩)
    · have h := h.2 c19
      refine r_iconst dX8_table_73 ?_
      refine r_goto 78 dX8_table_74 rfl ?_
      exact J_weak (t_X8_table_78 B hr hX50 hv1 hv3 hv5 hv4 (inR_k rfl) mμ13 h) (⟨rfl, ⟨rfl, ⟨rfl, ⟨rfl, trivial⟩⟩⟩⟩)
set_option maxRecDepth 20000 in
theorem c_X8_table (l : Launch) (E : Gx) {p0 : Int} {p1 : Int} {p2 : Int} {μ : Mem} {Q : Int → Mem → Prop} (hp0 : inR p0) (hp1 : inR p1) (hp2 : inR p2) (hμ : okM μ) (h : wp_X8_table p0 p1 p2 μ Q) : MT l yX8_table cX8_table 6 (some .int) E 4 0 0 z0 [rv E 115, iv p0, iv p1, iv p2] μ (QI E z0 Q) := by
  refine m_start [some (rv E 115), some (iv p0), some (iv p1), some (iv p2), none, none] (by decide) rfl rfl rfl (fun x hxl hxc hxs B hr hnm => ?_)
  unfold wp_X8_table at h
  refine r_al0 dX8_table_0 ?_
  refine r_iconst dX8_table_1 ?_
  refine r_putI B fg_X8_42 fp_8_0 kd_115 (kl kd_115) dX8_table_2 ?_
  refine n_mem (fun μ1 eμ1 => ?_)
  have h := h μ1 eμ1
  have mμ1 : okM μ1 := eqM eμ1 (okM_sI hμ (inR_k rfl))
  refine r_al0 dX8_table_5 ?_
  refine r_il1 dX8_table_6 ?_
  refine r_cVI1 B cb_X8_isCode lk_X8_192 cv_X8_isCode kd_115 (c_X8_isCode (xl x) E hp0 mμ1 h) rfl rfl dX8_table_7 (fun r3 μ2 hr3 mμ2 h => ?_)
  refine r_if_ne 19 dX8_table_10 rfl hr3 (fun c4 => ?_) (fun c4 => ?_)
  · have h := h.1 c4
    refine r_il2 dX8_table_19 ?_
    refine r_cSI1 B cb_X8_isSlips lk_X8_223 cs_X8_isSlips (c_X8_isSlips (xl x) E hp1 mμ2 h) rfl rfl dX8_table_20 (fun r6 μ5 hr6 mμ5 h => ?_)
    refine r_if_eq 30 dX8_table_23 rfl hr6 (fun c7 => ?_) (fun c7 => ?_)
    · have h := h.1 c7
      refine r_al0 dX8_table_30 ?_
      refine r_iconst dX8_table_31 ?_
      refine r_cVI1 B cb_X8_refused lk_X8_173 cv_X8_refused kd_115 (c_X8_refused (xl x) E (inR_k rfl) mμ5 h) rfl rfl dX8_table_32 (fun r9 μ8 hr9 mμ8 h => ?_)
      exact r_iret B hr hr9 mμ8 dX8_table_35 h
    · have h := h.2 c7
      refine r_il3 dX8_table_26 ?_
      refine r_if_ge 36 dX8_table_27 rfl hp2 (fun c10 => ?_) (fun c10 => ?_)
      · have h := h.1 c10
        refine r_al0 dX8_table_36 ?_
        refine r_il1 dX8_table_37 ?_
        refine r_il2 dX8_table_38 ?_
        refine r_cVI2 B cb_X8_covers lk_X8_202 cv_X8_covers kd_115 (c_X8_covers (xl x) E hp0 hp1 mμ5 h) rfl rfl dX8_table_39 (fun r12 μ11 hr12 mμ11 h => ?_)
        refine r_is4 dX8_table_42 rfl ?_
        refine r_iconst dX8_table_44 ?_
        refine r_is4 dX8_table_45 rfl ?_
        refine r_iconst dX8_table_47 ?_
        refine r_is5 dX8_table_48 rfl ?_
        exact J_weak (t_X8_table_50 B hr hp0 hp2 (inR_k rfl) (inR_k rfl) mμ11 h) (⟨rfl, ⟨rfl, ⟨rfl, ⟨rfl, ⟨rfl, trivial⟩⟩⟩⟩⟩)
      · have h := h.2 c10
        refine r_al0 dX8_table_30 ?_
        refine r_iconst dX8_table_31 ?_
        refine r_cVI1 B cb_X8_refused lk_X8_173 cv_X8_refused kd_115 (c_X8_refused (xl x) E (inR_k rfl) mμ5 h) rfl rfl dX8_table_32 (fun r24 μ23 hr24 mμ23 h => ?_)
        exact r_iret B hr hr24 mμ23 dX8_table_35 h
  · have h := h.2 c4
    refine r_al0 dX8_table_13 ?_
    refine r_iconst dX8_table_14 ?_
    refine r_cVI1 B cb_X8_refused lk_X8_173 cv_X8_refused kd_115 (c_X8_refused (xl x) E (inR_k rfl) mμ2 h) rfl rfl dX8_table_15 (fun r26 μ25 hr26 mμ25 h => ?_)
    exact r_iret B hr hr26 mμ25 dX8_table_18 h
set_option maxRecDepth 20000 in
theorem t_X8_hole_50 {x : Cx} {E : Gx} (B : Bd x E 4 7 "SlipCoversModel") (hr : (xt x).sig.returnType = (some .int)) {Q : Int → Mem → Prop} {v1 : Int} {v4 : Int} {v5 : Int} {v6 : Int} {μ : Mem} (hv1 : inR v1) (hv4 : inR v4) (hv5 : inR v5) (hv6 : inR v6) (hμ : okM μ) (h : LP5 (wp_X8_hole_50 Q) v1 v4 v5 v6 μ) : J cX8_hole x E z0 μ 50 [some (rv E 115), some (iv v1), none, none, some (iv v4), some (iv v5), some (iv v6)] [] (MQ (xb x) (QI E z0 Q) (xa x) (xs x) 0 0 (gA E)) := by
  refine LP5_ind (T := fun (v1 : Int) (v4 : Int) (v5 : Int) (v6 : Int) (μ : Mem) => inR v1 → inR v4 → inR v5 → inR v6 → okM μ → J cX8_hole x E z0 μ 50 [some (rv E 115), some (iv v1), none, none, some (iv v4), some (iv v5), some (iv v6)] [] (MQ (xb x) (QI E z0 Q) (xa x) (xs x) 0 0 (gA E))) (fun X50 hX50 v1 v4 v5 v6 μ h hv1 hv4 hv5 hv6 hμ => ?_) h hv1 hv4 hv5 hv6 hμ
  unfold wp_X8_hole_50 at h
  refine r_il6 dX8_hole_50 ?_
  refine r_al0 dX8_hole_52 ?_
  refine r_il1 dX8_hole_53 ?_
  refine r_cVI1 B cb_X8_words lk_X8_113 cv_X8_words kd_115 (c_X8_words (xl x) E hv1 hμ h) rfl rfl dX8_hole_54 (fun r14 μ13 hr14 mμ13 h => ?_)
  refine r_icmp_ge 99 dX8_hole_57 rfl hv6 hr14 (fun c15 => ?_) (fun c15 => ?_)
  · have h := h.1 c15
    refine r_al0 dX8_hole_99 ?_
    refine r_bipush dX8_hole_100 (by decide) ?_
    refine r_cVI1 B cb_X8_good lk_X8_189 cv_X8_good kd_115 (c_X8_good (xl x) E (inR_k rfl) mμ13 h) rfl rfl dX8_hole_102 (fun r17 μ16 hr17 mμ16 h => ?_)
    exact r_iret B hr hr17 mμ16 dX8_hole_105 h
  · have h := h.2 c15
    refine r_il5 dX8_hole_60 ?_
    refine r_if_le 99 dX8_hole_62 rfl hv5 (fun c18 => ?_) (fun c18 => ?_)
    · have h := h.1 c18
      refine r_al0 dX8_hole_99 ?_
      refine r_bipush dX8_hole_100 (by decide) ?_
      refine r_cVI1 B cb_X8_good lk_X8_189 cv_X8_good kd_115 (c_X8_good (xl x) E (inR_k rfl) mμ13 h) rfl rfl dX8_hole_102 (fun r20 μ19 hr20 mμ19 h => ?_)
      exact r_iret B hr hr20 mμ19 dX8_hole_105 h
    · have h := h.2 c18
      refine r_al0 dX8_hole_65 ?_
      refine r_getR B 121 fg_X8_30 kd_115 (kl kd_115) (ρo (off := 6) kd_115 rfl) dX8_hole_66 ?_
      refine r_il6 dX8_hole_69 ?_
      obtain ⟨o21, h⟩ := h
      refine r_iald B kd_121 (kl kd_121) (by decide) o21 dX8_hole_71 ?_
      refine r_if_le 78 dX8_hole_72 rfl (mμ13 _ _) (fun c22 => ?_) (fun c22 => ?_)
      · have h := h.1 c22
        refine r_il4 dX8_hole_78 ?_
        refine r_if_ne 90 dX8_hole_80 rfl hv4 (fun c23 => ?_) (fun c23 => ?_)
        · have h := h.1 c23
          refine r_inc4 dX8_hole_90 rfl ?_
          obtain ⟨o24, h⟩ := h
          refine r_inc6 dX8_hole_93 rfl ?_
          obtain ⟨o25, h⟩ := h
          refine r_goto 50 dX8_hole_96 rfl ?_
          exact J_weak (hX50 v1 (v4 + (-1)) v5 (v6 + 1) μ13 h hv1 o24 hv5 o25 mμ13) (⟨rfl, ⟨rfl, ⟨rfl, ⟨rfl, ⟨rfl, trivial⟩⟩⟩⟩⟩)
        · have h := h.2 c23
          refine r_al0 dX8_hole_83 ?_
          refine r_il6 dX8_hole_84 ?_
          refine r_cVI1 B cb_X8_good lk_X8_189 cv_X8_good kd_115 (c_X8_good (xl x) E hv6 mμ13 h) rfl rfl dX8_hole_86 (fun r27 μ26 hr27 mμ26 h => ?_)
          exact r_iret B hr hr27 mμ26 dX8_hole_89 h
      · have h := h.2 c22
        refine r_goto 93 dX8_hole_75 rfl ?_
        refine r_inc6 dX8_hole_93 rfl ?_
        obtain ⟨o28, h⟩ := h
        refine r_goto 50 dX8_hole_96 rfl ?_
        exact J_weak (hX50 v1 v4 v5 (v6 + 1) μ13 h hv1 hv4 hv5 o28 mμ13) (⟨rfl, ⟨rfl, ⟨rfl, ⟨rfl, ⟨rfl, trivial⟩⟩⟩⟩⟩)
set_option maxRecDepth 20000 in
theorem c_X8_hole (l : Launch) (E : Gx) {p0 : Int} {p1 : Int} {p2 : Int} {μ : Mem} {Q : Int → Mem → Prop} (hp0 : inR p0) (hp1 : inR p1) (hp2 : inR p2) (hμ : okM μ) (h : wp_X8_hole p0 p1 p2 μ Q) : MT l yX8_hole cX8_hole 7 (some .int) E 4 0 0 z0 [rv E 115, iv p0, iv p1, iv p2] μ (QI E z0 Q) := by
  refine m_start [some (rv E 115), some (iv p0), some (iv p1), some (iv p2), none, none, none] (by decide) rfl rfl rfl (fun x hxl hxc hxs B hr hnm => ?_)
  unfold wp_X8_hole at h
  refine r_al0 dX8_hole_0 ?_
  refine r_iconst dX8_hole_1 ?_
  refine r_putI B fg_X8_42 fp_8_0 kd_115 (kl kd_115) dX8_hole_2 ?_
  refine n_mem (fun μ1 eμ1 => ?_)
  have h := h μ1 eμ1
  have mμ1 : okM μ1 := eqM eμ1 (okM_sI hμ (inR_k rfl))
  refine r_al0 dX8_hole_5 ?_
  refine r_il1 dX8_hole_6 ?_
  refine r_cVI1 B cb_X8_isCode lk_X8_192 cv_X8_isCode kd_115 (c_X8_isCode (xl x) E hp0 mμ1 h) rfl rfl dX8_hole_7 (fun r3 μ2 hr3 mμ2 h => ?_)
  refine r_if_eq 17 dX8_hole_10 rfl hr3 (fun c4 => ?_) (fun c4 => ?_)
  · have h := h.1 c4
    refine r_al0 dX8_hole_17 ?_
    refine r_iconst dX8_hole_18 ?_
    refine r_cVI1 B cb_X8_refused lk_X8_173 cv_X8_refused kd_115 (c_X8_refused (xl x) E (inR_k rfl) mμ2 h) rfl rfl dX8_hole_19 (fun r6 μ5 hr6 mμ5 h => ?_)
    exact r_iret B hr hr6 mμ5 dX8_hole_22 h
  · have h := h.2 c4
    refine r_il3 dX8_hole_13 ?_
    refine r_if_ge 23 dX8_hole_14 rfl hp2 (fun c7 => ?_) (fun c7 => ?_)
    · have h := h.1 c7
      refine r_il2 dX8_hole_23 ?_
      refine r_cSI1 B cb_X8_isSlips lk_X8_223 cs_X8_isSlips (c_X8_isSlips (xl x) E hp1 mμ2 h) rfl rfl dX8_hole_24 (fun r9 μ8 hr9 mμ8 h => ?_)
      refine r_if_ne 36 dX8_hole_27 rfl hr9 (fun c10 => ?_) (fun c10 => ?_)
      · have h := h.1 c10
        refine r_il3 dX8_hole_36 ?_
        refine r_is4 dX8_hole_37 rfl ?_
        refine r_al0 dX8_hole_39 ?_
        refine r_il1 dX8_hole_40 ?_
        refine r_il2 dX8_hole_41 ?_
        refine r_cVI2 B cb_X8_covers lk_X8_202 cv_X8_covers kd_115 (c_X8_covers (xl x) E hp0 hp1 mμ8 h) rfl rfl dX8_hole_42 (fun r12 μ11 hr12 mμ11 h => ?_)
        refine r_is5 dX8_hole_45 rfl ?_
        refine r_iconst dX8_hole_47 ?_
        refine r_is6 dX8_hole_48 rfl ?_
        exact J_weak (t_X8_hole_50 B hr hp0 hp2 hr12 (inR_k rfl) mμ11 h) (⟨rfl, ⟨rfl, ⟨rfl, ⟨rfl, ⟨rfl, trivial⟩⟩⟩⟩⟩)
      · have h := h.2 c10
        refine r_al0 dX8_hole_30 ?_
        refine r_iconst dX8_hole_31 ?_
        refine r_cVI1 B cb_X8_refused lk_X8_173 cv_X8_refused kd_115 (c_X8_refused (xl x) E (inR_k rfl) mμ8 h) rfl rfl dX8_hole_32 (fun r30 μ29 hr30 mμ29 h => ?_)
        exact r_iret B hr hr30 mμ29 dX8_hole_35 h
    · have h := h.2 c7
      refine r_al0 dX8_hole_17 ?_
      refine r_iconst dX8_hole_18 ?_
      refine r_cVI1 B cb_X8_refused lk_X8_173 cv_X8_refused kd_115 (c_X8_refused (xl x) E (inR_k rfl) mμ2 h) rfl rfl dX8_hole_19 (fun r32 μ31 hr32 mμ31 h => ?_)
      exact r_iret B hr hr32 mμ31 dX8_hole_22 h
set_option maxRecDepth 20000 in
theorem t_X8_isIdle_3 {x : Cx} {E : Gx} (B : Bd x E 3 5 "SlipCoversModel") (hr : (xt x).sig.returnType = (some .boolean)) {Q : Int → Mem → Prop} {v1 : Int} {v2 : Int} {v3 : Int} {v4 : Int} {μ : Mem} (hv1 : inR v1) (hv2 : inR v2) (hv3 : inR v3) (hv4 : inR v4) (hμ : okM μ) (h : LP5 (wp_X8_isIdle_3 Q) v1 v2 v3 v4 μ) : J cX8_isIdle x E z0 μ 3 [some (rv E 115), some (iv v1), some (iv v2), some (iv v3), some (iv v4)] [] (MQ (xb x) (QI E z0 Q) (xa x) (xs x) 0 0 (gA E)) := by
  refine LP5_ind (T := fun (v1 : Int) (v2 : Int) (v3 : Int) (v4 : Int) (μ : Mem) => inR v1 → inR v2 → inR v3 → inR v4 → okM μ → J cX8_isIdle x E z0 μ 3 [some (rv E 115), some (iv v1), some (iv v2), some (iv v3), some (iv v4)] [] (MQ (xb x) (QI E z0 Q) (xa x) (xs x) 0 0 (gA E))) (fun X3 hX3 v1 v2 v3 v4 μ h hv1 hv2 hv3 hv4 hμ => ?_) h hv1 hv2 hv3 hv4 hμ
  unfold wp_X8_isIdle_3 at h
  refine r_il4 dX8_isIdle_3 ?_
  refine r_al0 dX8_isIdle_5 ?_
  refine r_il1 dX8_isIdle_6 ?_
  refine r_cVI1 B cb_X8_words lk_X8_113 cv_X8_words kd_115 (c_X8_words (xl x) E hv1 hμ h) rfl rfl dX8_isIdle_7 (fun r2 μ1 hr2 mμ1 h => ?_)
  refine r_icmp_ge 44 dX8_isIdle_10 rfl hv4 hr2 (fun c3 => ?_) (fun c3 => ?_)
  · have h := h.1 c3
    refine r_iconst dX8_isIdle_44 ?_
    exact r_zret B hr (Or.inr rfl) mμ1 dX8_isIdle_45 h
  · have h := h.2 c3
    refine r_al0 dX8_isIdle_13 ?_
    refine r_getR B 121 fg_X8_30 kd_115 (kl kd_115) (ρo (off := 6) kd_115 rfl) dX8_isIdle_14 ?_
    refine r_il4 dX8_isIdle_17 ?_
    obtain ⟨o4, h⟩ := h
    refine r_iald B kd_121 (kl kd_121) (by decide) o4 dX8_isIdle_19 ?_
    refine r_iconst dX8_isIdle_20 ?_
    refine r_icmp_ne 38 dX8_isIdle_21 rfl (mμ1 _ _) (inR_k rfl) (fun c5 => ?_) (fun c5 => ?_)
    · have h := h.1 c5
      refine r_inc4 dX8_isIdle_38 rfl ?_
      obtain ⟨o6, h⟩ := h
      refine r_goto 3 dX8_isIdle_41 rfl ?_
      exact J_weak (hX3 v1 v2 v3 (v4 + 1) μ1 h hv1 hv2 hv3 o6 mμ1) (⟨rfl, ⟨rfl, ⟨rfl, ⟨rfl, ⟨rfl, trivial⟩⟩⟩⟩⟩)
    · have h := h.2 c5
      refine r_al0 dX8_isIdle_24 ?_
      refine r_il1 dX8_isIdle_25 ?_
      refine r_il2 dX8_isIdle_26 ?_
      refine r_il4 dX8_isIdle_27 ?_
      refine r_cVI3 B cb_X8_farOf lk_X8_195 cv_X8_farOf kd_115 (c_X8_farOf (xl x) E hv1 hv2 hv4 mμ1 h) rfl rfl dX8_isIdle_29 (fun r8 μ7 hr8 mμ7 h => ?_)
      refine r_il3 dX8_isIdle_32 ?_
      refine r_icmp_gt 38 dX8_isIdle_33 rfl hr8 hv3 (fun c9 => ?_) (fun c9 => ?_)
      · have h := h.1 c9
        refine r_inc4 dX8_isIdle_38 rfl ?_
        obtain ⟨o10, h⟩ := h
        refine r_goto 3 dX8_isIdle_41 rfl ?_
        exact J_weak (hX3 v1 v2 v3 (v4 + 1) μ7 h hv1 hv2 hv3 o10 mμ7) (⟨rfl, ⟨rfl, ⟨rfl, ⟨rfl, ⟨rfl, trivial⟩⟩⟩⟩⟩)
      · have h := h.2 c9
        refine r_iconst dX8_isIdle_36 ?_
        exact r_zret B hr (Or.inl rfl) mμ7 dX8_isIdle_37 h
set_option maxRecDepth 20000 in
theorem c_X8_isIdle (l : Launch) (E : Gx) {p0 : Int} {p1 : Int} {p2 : Int} {μ : Mem} {Q : Int → Mem → Prop} (hp0 : inR p0) (hp1 : inR p1) (hp2 : inR p2) (hμ : okM μ) (h : wp_X8_isIdle p0 p1 p2 μ Q) : MT l yX8_isIdle cX8_isIdle 5 (some .boolean) E 3 0 0 z0 [rv E 115, iv p0, iv p1, iv p2] μ (QI E z0 Q) := by
  refine m_start [some (rv E 115), some (iv p0), some (iv p1), some (iv p2), none] (by decide) rfl rfl rfl (fun x hxl hxc hxs B hr hnm => ?_)
  unfold wp_X8_isIdle at h
  refine r_iconst dX8_isIdle_0 ?_
  refine r_is4 dX8_isIdle_1 rfl ?_
  exact J_weak (t_X8_isIdle_3 B hr hp0 hp1 hp2 (inR_k rfl) hμ h) (⟨rfl, ⟨rfl, ⟨rfl, ⟨rfl, ⟨rfl, trivial⟩⟩⟩⟩⟩)
set_option maxRecDepth 20000 in
theorem t_X8_idle_50 {x : Cx} {E : Gx} (B : Bd x E 4 6 "SlipCoversModel") (hr : (xt x).sig.returnType = (some .int)) {Q : Int → Mem → Prop} {v1 : Int} {v2 : Int} {v4 : Int} {v5 : Int} {μ : Mem} (hv1 : inR v1) (hv2 : inR v2) (hv4 : inR v4) (hv5 : inR v5) (hμ : okM μ) (h : LP5 (wp_X8_idle_50 Q) v1 v2 v4 v5 μ) : J cX8_idle x E z0 μ 50 [some (rv E 115), some (iv v1), some (iv v2), none, some (iv v4), some (iv v5)] [] (MQ (xb x) (QI E z0 Q) (xa x) (xs x) 0 0 (gA E)) := by
  refine LP5_ind (T := fun (v1 : Int) (v2 : Int) (v4 : Int) (v5 : Int) (μ : Mem) => inR v1 → inR v2 → inR v4 → inR v5 → okM μ → J cX8_idle x E z0 μ 50 [some (rv E 115), some (iv v1), some (iv v2), none, some (iv v4), some (iv v5)] [] (MQ (xb x) (QI E z0 Q) (xa x) (xs x) 0 0 (gA E))) (fun X50 hX50 v1 v2 v4 v5 μ h hv1 hv2 hv4 hv5 hμ => ?_) h hv1 hv2 hv4 hv5 hμ
  unfold wp_X8_idle_50 at h
  refine r_il5 dX8_idle_50 ?_
  refine r_al0 dX8_idle_52 ?_
  refine r_il1 dX8_idle_53 ?_
  refine r_cVI1 B cb_X8_words lk_X8_113 cv_X8_words kd_115 (c_X8_words (xl x) E hv1 hμ h) rfl rfl dX8_idle_54 (fun r14 μ13 hr14 mμ13 h => ?_)
  refine r_icmp_ge 105 dX8_idle_57 rfl hv5 hr14 (fun c15 => ?_) (fun c15 => ?_)
  · have h := h.1 c15
    refine r_al0 dX8_idle_105 ?_
    refine r_bipush dX8_idle_106 (by decide) ?_
    refine r_cVI1 B cb_X8_good lk_X8_189 cv_X8_good kd_115 (c_X8_good (xl x) E (inR_k rfl) mμ13 h) rfl rfl dX8_idle_108 (fun r17 μ16 hr17 mμ16 h => ?_)
    exact r_iret B hr hr17 mμ16 dX8_idle_111 h
  · have h := h.2 c15
    refine r_al0 dX8_idle_60 ?_
    refine r_il1 dX8_idle_61 ?_
    refine r_il5 dX8_idle_62 ?_
    refine r_cVI2 B cb_X8_isIn lk_X8_116 cv_X8_isIn kd_115 (c_X8_isIn (xl x) E hv1 hv5 mμ13 h) rfl rfl dX8_idle_64 (fun r19 μ18 hr19 mμ18 h => ?_)
    refine r_if_eq 99 dX8_idle_67 rfl hr19 (fun c20 => ?_) (fun c20 => ?_)
    · have h := h.1 c20
      refine r_inc5 dX8_idle_99 rfl ?_
      obtain ⟨o21, h⟩ := h
      refine r_goto 50 dX8_idle_102 rfl ?_
      exact J_weak (hX50 v1 v2 v4 (v5 + 1) μ18 h hv1 hv2 hv4 o21 mμ18) (⟨rfl, ⟨rfl, ⟨rfl, ⟨rfl, ⟨rfl, trivial⟩⟩⟩⟩⟩)
    · have h := h.2 c20
      refine r_al0 dX8_idle_70 ?_
      refine r_il1 dX8_idle_71 ?_
      refine r_il5 dX8_idle_72 ?_
      refine r_il2 dX8_idle_74 ?_
      refine r_cVI3 B cb_X8_isIdle lk_X8_229 cv_X8_isIdle kd_115 (c_X8_isIdle (xl x) E hv1 hv5 hv2 mμ18 h) rfl rfl dX8_idle_75 (fun r23 μ22 hr23 mμ22 h => ?_)
      refine r_if_ne 84 dX8_idle_78 rfl hr23 (fun c24 => ?_) (fun c24 => ?_)
      · have h := h.1 c24
        refine r_il4 dX8_idle_84 ?_
        refine r_if_ne 96 dX8_idle_86 rfl hv4 (fun c25 => ?_) (fun c25 => ?_)
        · have h := h.1 c25
          refine r_inc4 dX8_idle_96 rfl ?_
          obtain ⟨o26, h⟩ := h
          refine r_inc5 dX8_idle_99 rfl ?_
          obtain ⟨o27, h⟩ := h
          refine r_goto 50 dX8_idle_102 rfl ?_
          exact J_weak (hX50 v1 v2 (v4 + (-1)) (v5 + 1) μ22 h hv1 hv2 o26 o27 mμ22) (⟨rfl, ⟨rfl, ⟨rfl, ⟨rfl, ⟨rfl, trivial⟩⟩⟩⟩⟩)
        · have h := h.2 c25
          refine r_al0 dX8_idle_89 ?_
          refine r_il5 dX8_idle_90 ?_
          refine r_cVI1 B cb_X8_good lk_X8_189 cv_X8_good kd_115 (c_X8_good (xl x) E hv5 mμ22 h) rfl rfl dX8_idle_92 (fun r29 μ28 hr29 mμ28 h => ?_)
          exact r_iret B hr hr29 mμ28 dX8_idle_95 h
      · have h := h.2 c24
        refine r_goto 99 dX8_idle_81 rfl ?_
        refine r_inc5 dX8_idle_99 rfl ?_
        obtain ⟨o30, h⟩ := h
        refine r_goto 50 dX8_idle_102 rfl ?_
        exact J_weak (hX50 v1 v2 v4 (v5 + 1) μ22 h hv1 hv2 hv4 o30 mμ22) (⟨rfl, ⟨rfl, ⟨rfl, ⟨rfl, ⟨rfl, trivial⟩⟩⟩⟩⟩)
set_option maxRecDepth 20000 in
theorem c_X8_idle (l : Launch) (E : Gx) {p0 : Int} {p1 : Int} {p2 : Int} {μ : Mem} {Q : Int → Mem → Prop} (hp0 : inR p0) (hp1 : inR p1) (hp2 : inR p2) (hμ : okM μ) (h : wp_X8_idle p0 p1 p2 μ Q) : MT l yX8_idle cX8_idle 6 (some .int) E 4 0 0 z0 [rv E 115, iv p0, iv p1, iv p2] μ (QI E z0 Q) := by
  refine m_start [some (rv E 115), some (iv p0), some (iv p1), some (iv p2), none, none] (by decide) rfl rfl rfl (fun x hxl hxc hxs B hr hnm => ?_)
  unfold wp_X8_idle at h
  refine r_al0 dX8_idle_0 ?_
  refine r_iconst dX8_idle_1 ?_
  refine r_putI B fg_X8_42 fp_8_0 kd_115 (kl kd_115) dX8_idle_2 ?_
  refine n_mem (fun μ1 eμ1 => ?_)
  have h := h μ1 eμ1
  have mμ1 : okM μ1 := eqM eμ1 (okM_sI hμ (inR_k rfl))
  refine r_al0 dX8_idle_5 ?_
  refine r_il1 dX8_idle_6 ?_
  refine r_cVI1 B cb_X8_isCode lk_X8_192 cv_X8_isCode kd_115 (c_X8_isCode (xl x) E hp0 mμ1 h) rfl rfl dX8_idle_7 (fun r3 μ2 hr3 mμ2 h => ?_)
  refine r_if_eq 17 dX8_idle_10 rfl hr3 (fun c4 => ?_) (fun c4 => ?_)
  · have h := h.1 c4
    refine r_al0 dX8_idle_17 ?_
    refine r_iconst dX8_idle_18 ?_
    refine r_cVI1 B cb_X8_refused lk_X8_173 cv_X8_refused kd_115 (c_X8_refused (xl x) E (inR_k rfl) mμ2 h) rfl rfl dX8_idle_19 (fun r6 μ5 hr6 mμ5 h => ?_)
    exact r_iret B hr hr6 mμ5 dX8_idle_22 h
  · have h := h.2 c4
    refine r_il3 dX8_idle_13 ?_
    refine r_if_ge 23 dX8_idle_14 rfl hp2 (fun c7 => ?_) (fun c7 => ?_)
    · have h := h.1 c7
      refine r_il2 dX8_idle_23 ?_
      refine r_cSI1 B cb_X8_isSlips lk_X8_223 cs_X8_isSlips (c_X8_isSlips (xl x) E hp1 mμ2 h) rfl rfl dX8_idle_24 (fun r9 μ8 hr9 mμ8 h => ?_)
      refine r_if_ne 36 dX8_idle_27 rfl hr9 (fun c10 => ?_) (fun c10 => ?_)
      · have h := h.1 c10
        refine r_al0 dX8_idle_36 ?_
        refine r_il1 dX8_idle_37 ?_
        refine r_il2 dX8_idle_38 ?_
        refine r_cVI2 B cb_X8_covers lk_X8_202 cv_X8_covers kd_115 (c_X8_covers (xl x) E hp0 hp1 mμ8 h) rfl rfl dX8_idle_39 (fun r12 μ11 hr12 mμ11 h => ?_)
        refine r_is4 dX8_idle_42 rfl ?_
        refine r_il3 dX8_idle_44 ?_
        refine r_is4 dX8_idle_45 rfl ?_
        refine r_iconst dX8_idle_47 ?_
        refine r_is5 dX8_idle_48 rfl ?_
        exact J_weak (t_X8_idle_50 B hr hp0 hp1 hp2 (inR_k rfl) mμ11 h) (⟨rfl, ⟨rfl, ⟨rfl, ⟨rfl, ⟨rfl, trivial⟩⟩⟩⟩⟩)
      · have h := h.2 c10
        refine r_al0 dX8_idle_30 ?_
        refine r_iconst dX8_idle_31 ?_
        refine r_cVI1 B cb_X8_refused lk_X8_173 cv_X8_refused kd_115 (c_X8_refused (xl x) E (inR_k rfl) mμ8 h) rfl rfl dX8_idle_32 (fun r32 μ31 hr32 mμ31 h => ?_)
        exact r_iret B hr hr32 mμ31 dX8_idle_35 h
    · have h := h.2 c7
      refine r_al0 dX8_idle_17 ?_
      refine r_iconst dX8_idle_18 ?_
      refine r_cVI1 B cb_X8_refused lk_X8_173 cv_X8_refused kd_115 (c_X8_refused (xl x) E (inR_k rfl) mμ2 h) rfl rfl dX8_idle_19 (fun r34 μ33 hr34 mμ33 h => ?_)
      exact r_iret B hr hr34 mμ33 dX8_idle_22 h
set_option maxRecDepth 20000 in
theorem t_X8_excess_78 {x : Cx} {E : Gx} (B : Bd x E 4 5 "SlipCoversModel") (hr : (xt x).sig.returnType = (some .int)) {Q : Int → Mem → Prop} {X44 : Int → Int → Int → Mem → Prop} (hX44 : ∀ (v1 : Int) (v3 : Int) (v4 : Int) (μ : Mem), X44 v1 v3 v4 μ → inR v1 → inR v3 → inR v4 → okM μ → J cX8_excess x E z0 μ 44 [some (rv E 115), some (iv v1), none, some (iv v3), some (iv v4)] [] (MQ (xb x) (QI E z0 Q) (xa x) (xs x) 0 0 (gA E))) {v1 : Int} {v4 : Int} {s0 : Int} {s1 : Int} {μ : Mem} (hv1 : inR v1) (hv4 : inR v4) (hs0 : inR s0) (hs1 : inR s1) (hμ : okM μ) (h : wp_X8_excess_78 Q X44 v1 v4 s0 s1 μ) : J cX8_excess x E z0 μ 78 [some (rv E 115), some (iv v1), none, none, some (iv v4)] [iv s1, iv s0] (MQ (xb x) (QI E z0 Q) (xa x) (xs x) 0 0 (gA E)) := by
  unfold wp_X8_excess_78 at h
  refine r_iadd dX8_excess_78 ?_
  obtain ⟨o18, h⟩ := h
  refine n_topi (fun x17 ex17 => ?_)
  have h := h x17 ex17
  refine r_is3 dX8_excess_79 rfl ?_
  refine r_inc4 dX8_excess_80 rfl ?_
  obtain ⟨o19, h⟩ := h
  refine r_goto 44 dX8_excess_83 rfl ?_
  exact J_weak (hX44 v1 x17 (v4 + 1) μ h hv1 (eqR ex17 o18) o19 hμ) (⟨rfl, ⟨rfl, ⟨rfl, ⟨rfl, trivial⟩⟩⟩⟩)
set_option maxRecDepth 20000 in
theorem t_X8_excess_44 {x : Cx} {E : Gx} (B : Bd x E 4 5 "SlipCoversModel") (hr : (xt x).sig.returnType = (some .int)) {Q : Int → Mem → Prop} {v1 : Int} {v3 : Int} {v4 : Int} {μ : Mem} (hv1 : inR v1) (hv3 : inR v3) (hv4 : inR v4) (hμ : okM μ) (h : LP4 (wp_X8_excess_44 Q) v1 v3 v4 μ) : J cX8_excess x E z0 μ 44 [some (rv E 115), some (iv v1), none, some (iv v3), some (iv v4)] [] (MQ (xb x) (QI E z0 Q) (xa x) (xs x) 0 0 (gA E)) := by
  refine LP4_ind (T := fun (v1 : Int) (v3 : Int) (v4 : Int) (μ : Mem) => inR v1 → inR v3 → inR v4 → okM μ → J cX8_excess x E z0 μ 44 [some (rv E 115), some (iv v1), none, some (iv v3), some (iv v4)] [] (MQ (xb x) (QI E z0 Q) (xa x) (xs x) 0 0 (gA E))) (fun X44 hX44 v1 v3 v4 μ h hv1 hv3 hv4 hμ => ?_) h hv1 hv3 hv4 hμ
  unfold wp_X8_excess_44 at h
  refine r_il4 dX8_excess_44 ?_
  refine r_al0 dX8_excess_46 ?_
  refine r_il1 dX8_excess_47 ?_
  refine r_cVI1 B cb_X8_words lk_X8_113 cv_X8_words kd_115 (c_X8_words (xl x) E hv1 hμ h) rfl rfl dX8_excess_48 (fun r11 μ10 hr11 mμ10 h => ?_)
  refine r_icmp_ge 86 dX8_excess_51 rfl hv4 hr11 (fun c12 => ?_) (fun c12 => ?_)
  · have h := h.1 c12
    refine r_al0 dX8_excess_86 ?_
    refine r_il3 dX8_excess_87 ?_
    refine r_cVI1 B cb_X8_good lk_X8_189 cv_X8_good kd_115 (c_X8_good (xl x) E hv3 mμ10 h) rfl rfl dX8_excess_88 (fun r14 μ13 hr14 mμ13 h => ?_)
    exact r_iret B hr hr14 mμ13 dX8_excess_91 h
  · have h := h.2 c12
    refine r_il3 dX8_excess_54 ?_
    refine r_al0 dX8_excess_55 ?_
    refine r_getR B 121 fg_X8_30 kd_115 (kl kd_115) (ρo (off := 6) kd_115 rfl) dX8_excess_56 ?_
    refine r_il4 dX8_excess_59 ?_
    obtain ⟨o15, h⟩ := h
    refine r_iald B kd_121 (kl kd_121) (by decide) o15 dX8_excess_61 ?_
    refine r_if_le 77 dX8_excess_62 rfl (mμ10 _ _) (fun c16 => ?_) (fun c16 => ?_)
    · have h := h.1 c16
      refine r_iconst dX8_excess_77 ?_
      exact J_weak (t_X8_excess_78 B hr hX44 hv1 hv4 hv3 (inR_k rfl) mμ10 h) (⟨rfl, ⟨rfl, ⟨rfl, trivial⟩⟩⟩)
    · have h := h.2 c16
      refine r_al0 dX8_excess_65 ?_
      refine r_getR B 121 fg_X8_30 kd_115 (kl kd_115) (ρo (off := 6) kd_115 rfl) dX8_excess_66 ?_
      refine r_il4 dX8_excess_69 ?_
      refine r_iald B kd_121 (kl kd_121) (by decide) o15 dX8_excess_71 ?_
      refine r_iconst dX8_excess_72 ?_
      refine r_isub dX8_excess_73 ?_
      refine r_goto 78 dX8_excess_74 rfl ?_
      obtain ⟨o20, h⟩ := h
      exact J_weak (t_X8_excess_78 B hr hX44 hv1 hv4 hv3 o20 mμ10 h) (⟨rfl, ⟨rfl, ⟨rfl, trivial⟩⟩⟩)
set_option maxRecDepth 20000 in
theorem c_X8_excess (l : Launch) (E : Gx) {p0 : Int} {p1 : Int} {μ : Mem} {Q : Int → Mem → Prop} (hp0 : inR p0) (hp1 : inR p1) (hμ : okM μ) (h : wp_X8_excess p0 p1 μ Q) : MT l yX8_excess cX8_excess 5 (some .int) E 4 0 0 z0 [rv E 115, iv p0, iv p1] μ (QI E z0 Q) := by
  refine m_start [some (rv E 115), some (iv p0), some (iv p1), none, none] (by decide) rfl rfl rfl (fun x hxl hxc hxs B hr hnm => ?_)
  unfold wp_X8_excess at h
  refine r_al0 dX8_excess_0 ?_
  refine r_iconst dX8_excess_1 ?_
  refine r_putI B fg_X8_42 fp_8_0 kd_115 (kl kd_115) dX8_excess_2 ?_
  refine n_mem (fun μ1 eμ1 => ?_)
  have h := h μ1 eμ1
  have mμ1 : okM μ1 := eqM eμ1 (okM_sI hμ (inR_k rfl))
  refine r_al0 dX8_excess_5 ?_
  refine r_il1 dX8_excess_6 ?_
  refine r_cVI1 B cb_X8_isCode lk_X8_192 cv_X8_isCode kd_115 (c_X8_isCode (xl x) E hp0 mμ1 h) rfl rfl dX8_excess_7 (fun r3 μ2 hr3 mμ2 h => ?_)
  refine r_if_ne 19 dX8_excess_10 rfl hr3 (fun c4 => ?_) (fun c4 => ?_)
  · have h := h.1 c4
    refine r_il2 dX8_excess_19 ?_
    refine r_cSI1 B cb_X8_isSlips lk_X8_223 cs_X8_isSlips (c_X8_isSlips (xl x) E hp1 mμ2 h) rfl rfl dX8_excess_20 (fun r6 μ5 hr6 mμ5 h => ?_)
    refine r_if_ne 32 dX8_excess_23 rfl hr6 (fun c7 => ?_) (fun c7 => ?_)
    · have h := h.1 c7
      refine r_al0 dX8_excess_32 ?_
      refine r_il1 dX8_excess_33 ?_
      refine r_il2 dX8_excess_34 ?_
      refine r_cVI2 B cb_X8_covers lk_X8_202 cv_X8_covers kd_115 (c_X8_covers (xl x) E hp0 hp1 mμ5 h) rfl rfl dX8_excess_35 (fun r9 μ8 hr9 mμ8 h => ?_)
      refine r_is3 dX8_excess_38 rfl ?_
      refine r_iconst dX8_excess_39 ?_
      refine r_is3 dX8_excess_40 rfl ?_
      refine r_iconst dX8_excess_41 ?_
      refine r_is4 dX8_excess_42 rfl ?_
      exact J_weak (t_X8_excess_44 B hr hp0 (inR_k rfl) (inR_k rfl) mμ8 h) (⟨rfl, ⟨rfl, ⟨rfl, ⟨rfl, trivial⟩⟩⟩⟩)
    · have h := h.2 c7
      refine r_al0 dX8_excess_26 ?_
      refine r_iconst dX8_excess_27 ?_
      refine r_cVI1 B cb_X8_refused lk_X8_173 cv_X8_refused kd_115 (c_X8_refused (xl x) E (inR_k rfl) mμ5 h) rfl rfl dX8_excess_28 (fun r22 μ21 hr22 mμ21 h => ?_)
      exact r_iret B hr hr22 mμ21 dX8_excess_31 h
  · have h := h.2 c4
    refine r_al0 dX8_excess_13 ?_
    refine r_iconst dX8_excess_14 ?_
    refine r_cVI1 B cb_X8_refused lk_X8_173 cv_X8_refused kd_115 (c_X8_refused (xl x) E (inR_k rfl) mμ2 h) rfl rfl dX8_excess_15 (fun r24 μ23 hr24 mμ23 h => ?_)
    exact r_iret B hr hr24 mμ23 dX8_excess_18 h

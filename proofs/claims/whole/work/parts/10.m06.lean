set_option maxRecDepth 20000 in
theorem t_X8_longer_124 {x : Cx} {E : Gx} (B : Bd x E 5 8 "SlipCoversModel") (hr : (xt x).sig.returnType = (some .int)) {Q : Int → Mem → Prop} {X106 : Int → Int → Int → Int → Int → Mem → Prop} (hX106 : ∀ (v1 : Int) (v2 : Int) (v3 : Int) (v5 : Int) (v6 : Int) (μ : Mem), X106 v1 v2 v3 v5 v6 μ → inR v1 → inR v2 → inR v3 → inR v5 → inR v6 → okM μ → J cX8_longer x E z0 μ 106 [some (rv E 115), some (iv v1), some (iv v2), some (iv v3), none, some (iv v5), some (iv v6), none] [] (MQ (xb x) (QI E z0 Q) (xa x) (xs x) 0 0 (gA E))) {v1 : Int} {v2 : Int} {v3 : Int} {v5 : Int} {v6 : Int} {v7 : Int} {μ : Mem} (hv1 : inR v1) (hv2 : inR v2) (hv3 : inR v3) (hv5 : inR v5) (hv6 : inR v6) (hv7 : inR v7) (hμ : okM μ) (h : LP7 (wp_X8_longer_124 Q X106) v1 v2 v3 v5 v6 v7 μ) : J cX8_longer x E z0 μ 124 [some (rv E 115), some (iv v1), some (iv v2), some (iv v3), none, some (iv v5), some (iv v6), some (iv v7)] [] (MQ (xb x) (QI E z0 Q) (xa x) (xs x) 0 0 (gA E)) := by
  refine LP7_ind (T := fun (v1 : Int) (v2 : Int) (v3 : Int) (v5 : Int) (v6 : Int) (v7 : Int) (μ : Mem) => inR v1 → inR v2 → inR v3 → inR v5 → inR v6 → inR v7 → okM μ → J cX8_longer x E z0 μ 124 [some (rv E 115), some (iv v1), some (iv v2), some (iv v3), none, some (iv v5), some (iv v6), some (iv v7)] [] (MQ (xb x) (QI E z0 Q) (xa x) (xs x) 0 0 (gA E))) (fun X124 hX124 v1 v2 v3 v5 v6 v7 μ h hv1 hv2 hv3 hv5 hv6 hv7 hμ => ?_) h hv1 hv2 hv3 hv5 hv6 hv7 hμ
  unfold wp_X8_longer_124 at h
  refine r_il7 dX8_longer_124 ?_
  refine r_il3 dX8_longer_126 ?_
  refine r_icmp_ge 156 dX8_longer_127 rfl hv7 hv3 (fun c39 => ?_) (fun c39 => ?_)
  · have h := h.1 c39
    refine r_inc6 dX8_longer_156 rfl ?_
    obtain ⟨o40, h⟩ := h
    refine r_goto 106 dX8_longer_159 rfl ?_
    exact J_weak (hX106 v1 v2 v3 v5 (v6 + 1) μ h hv1 hv2 hv3 hv5 o40 hμ) (⟨rfl, ⟨rfl, ⟨rfl, ⟨rfl, ⟨rfl, ⟨rfl, trivial⟩⟩⟩⟩⟩⟩)
  · have h := h.2 c39
    refine r_al0 dX8_longer_130 ?_
    refine r_bipush dX8_longer_131 (by decide) ?_
    refine r_il6 dX8_longer_133 ?_
    refine r_il3 dX8_longer_135 ?_
    refine r_imul dX8_longer_136 ?_
    refine r_il7 dX8_longer_137 ?_
    refine r_iadd dX8_longer_139 ?_
    refine r_al0 dX8_longer_140 ?_
    refine r_il2 dX8_longer_141 ?_
    refine r_il6 dX8_longer_142 ?_
    refine r_cVI2 B cb_X8_isIn lk_X8_116 cv_X8_isIn kd_115 (c_X8_isIn (xl x) E hv2 hv6 hμ h) rfl rfl dX8_longer_144 (fun r42 μ41 hr42 mμ41 h => ?_)
    obtain ⟨o43, h⟩ := h
    refine r_cVV3 B cb_X8_marks lk_X8_147 cv_X8_marks kd_115 (c_X8_marks (xl x) E (inR_k rfl) o43 hr42 mμ41 h) rfl rfl dX8_longer_147 (fun μ44 mμ44 h => ?_)
    refine r_inc7 dX8_longer_150 rfl ?_
    obtain ⟨o45, h⟩ := h
    refine r_goto 124 dX8_longer_153 rfl ?_
    exact J_weak (hX124 v1 v2 v3 v5 v6 (v7 + 1) μ44 h hv1 hv2 hv3 hv5 hv6 o45 mμ44) (⟨rfl, ⟨rfl, ⟨rfl, ⟨rfl, ⟨rfl, ⟨rfl, ⟨rfl, trivial⟩⟩⟩⟩⟩⟩⟩)
set_option maxRecDepth 20000 in
theorem t_X8_longer_106 {x : Cx} {E : Gx} (B : Bd x E 5 8 "SlipCoversModel") (hr : (xt x).sig.returnType = (some .int)) {Q : Int → Mem → Prop} {v1 : Int} {v2 : Int} {v3 : Int} {v5 : Int} {v6 : Int} {μ : Mem} (hv1 : inR v1) (hv2 : inR v2) (hv3 : inR v3) (hv5 : inR v5) (hv6 : inR v6) (hμ : okM μ) (h : LP6 (wp_X8_longer_106 Q) v1 v2 v3 v5 v6 μ) : J cX8_longer x E z0 μ 106 [some (rv E 115), some (iv v1), some (iv v2), some (iv v3), none, some (iv v5), some (iv v6), none] [] (MQ (xb x) (QI E z0 Q) (xa x) (xs x) 0 0 (gA E)) := by
  refine LP6_ind (T := fun (v1 : Int) (v2 : Int) (v3 : Int) (v5 : Int) (v6 : Int) (μ : Mem) => inR v1 → inR v2 → inR v3 → inR v5 → inR v6 → okM μ → J cX8_longer x E z0 μ 106 [some (rv E 115), some (iv v1), some (iv v2), some (iv v3), none, some (iv v5), some (iv v6), none] [] (MQ (xb x) (QI E z0 Q) (xa x) (xs x) 0 0 (gA E))) (fun X106 hX106 v1 v2 v3 v5 v6 μ h hv1 hv2 hv3 hv5 hv6 hμ => ?_) h hv1 hv2 hv3 hv5 hv6 hμ
  unfold wp_X8_longer_106 at h
  refine r_il5 dX8_longer_106 ?_
  refine r_if_eq 162 dX8_longer_108 rfl hv5 (fun c31 => ?_) (fun c31 => ?_)
  · have h := h.1 c31
    refine r_al0 dX8_longer_162 ?_
    refine r_il1 dX8_longer_163 ?_
    refine r_cVI1 B cb_X8_becomes lk_X8_285 cv_X8_becomes kd_115 (c_X8_becomes (xl x) E hv1 hμ h) rfl rfl dX8_longer_164 (fun r33 μ32 hr33 mμ32 h => ?_)
    exact r_iret B hr hr33 mμ32 dX8_longer_167 h
  · have h := h.2 c31
    refine r_il6 dX8_longer_111 ?_
    refine r_al0 dX8_longer_113 ?_
    refine r_il2 dX8_longer_114 ?_
    refine r_cVI1 B cb_X8_words lk_X8_113 cv_X8_words kd_115 (c_X8_words (xl x) E hv2 hμ h) rfl rfl dX8_longer_115 (fun r35 μ34 hr35 mμ34 h => ?_)
    refine r_icmp_ge 162 dX8_longer_118 rfl hv6 hr35 (fun c36 => ?_) (fun c36 => ?_)
    · have h := h.1 c36
      refine r_al0 dX8_longer_162 ?_
      refine r_il1 dX8_longer_163 ?_
      refine r_cVI1 B cb_X8_becomes lk_X8_285 cv_X8_becomes kd_115 (c_X8_becomes (xl x) E hv1 mμ34 h) rfl rfl dX8_longer_164 (fun r38 μ37 hr38 mμ37 h => ?_)
      exact r_iret B hr hr38 mμ37 dX8_longer_167 h
    · have h := h.2 c36
      refine r_iconst dX8_longer_121 ?_
      refine r_is7 dX8_longer_122 rfl ?_
      exact J_weak (t_X8_longer_124 B hr hX106 hv1 hv2 hv3 hv5 hv6 (inR_k rfl) mμ34 h) (⟨rfl, ⟨rfl, ⟨rfl, ⟨rfl, ⟨rfl, ⟨rfl, ⟨rfl, trivial⟩⟩⟩⟩⟩⟩⟩)
set_option maxRecDepth 20000 in
theorem c_X8_longer (l : Launch) (E : Gx) {p0 : Int} {p1 : Int} {p2 : Int} {p3 : Int} {μ : Mem} {Q : Int → Mem → Prop} (hp0 : inR p0) (hp1 : inR p1) (hp2 : inR p2) (hp3 : inR p3) (hμ : okM μ) (h : wp_X8_longer p0 p1 p2 p3 μ Q) : MT l yX8_longer cX8_longer 8 (some .int) E 5 0 0 z0 [rv E 115, iv p0, iv p1, iv p2, iv p3] μ (QI E z0 Q) := by
  refine m_start [some (rv E 115), some (iv p0), some (iv p1), some (iv p2), some (iv p3), none, none, none] (by decide) rfl rfl rfl (fun x hxl hxc hxs B hr hnm => ?_)
  unfold wp_X8_longer at h
  refine r_al0 dX8_longer_0 ?_
  refine r_iconst dX8_longer_1 ?_
  refine r_putI B fg_X8_42 fp_8_0 kd_115 (kl kd_115) dX8_longer_2 ?_
  refine n_mem (fun μ1 eμ1 => ?_)
  have h := h μ1 eμ1
  have mμ1 : okM μ1 := eqM eμ1 (okM_sI hμ (inR_k rfl))
  refine r_il1 dX8_longer_5 ?_
  refine r_cSI1 B cb_X8_isTo lk_X8_279 cs_X8_isTo (c_X8_isTo (xl x) E hp0 mμ1 h) rfl rfl dX8_longer_6 (fun r3 μ2 hr3 mμ2 h => ?_)
  refine r_if_eq 20 dX8_longer_9 rfl hr3 (fun c4 => ?_) (fun c4 => ?_)
  · have h := h.1 c4
    refine r_al0 dX8_longer_20 ?_
    refine r_iconst dX8_longer_21 ?_
    refine r_cVI1 B cb_X8_refused lk_X8_173 cv_X8_refused kd_115 (c_X8_refused (xl x) E (inR_k rfl) mμ2 h) rfl rfl dX8_longer_22 (fun r6 μ5 hr6 mμ5 h => ?_)
    exact r_iret B hr hr6 mμ5 dX8_longer_25 h
  · have h := h.2 c4
    refine r_al0 dX8_longer_12 ?_
    refine r_il2 dX8_longer_13 ?_
    refine r_cVI1 B cb_X8_isCode lk_X8_192 cv_X8_isCode kd_115 (c_X8_isCode (xl x) E hp1 mμ2 h) rfl rfl dX8_longer_14 (fun r8 μ7 hr8 mμ7 h => ?_)
    refine r_if_ne 26 dX8_longer_17 rfl hr8 (fun c9 => ?_) (fun c9 => ?_)
    · have h := h.1 c9
      refine r_il3 dX8_longer_26 ?_
      refine r_iconst dX8_longer_27 ?_
      refine r_iconst dX8_longer_28 ?_
      refine r_cSI3 B cb_X8_in lk_X8_63 cs_X8_in (c_X8_in (xl x) E hp2 (inR_k rfl) (inR_k rfl) mμ7 h) rfl rfl dX8_longer_29 (fun r11 μ10 hr11 mμ10 h => ?_)
      refine r_if_eq 45 dX8_longer_32 rfl hr11 (fun c12 => ?_) (fun c12 => ?_)
      · have h := h.1 c12
        refine r_al0 dX8_longer_45 ?_
        refine r_iconst dX8_longer_46 ?_
        refine r_cVI1 B cb_X8_refused lk_X8_173 cv_X8_refused kd_115 (c_X8_refused (xl x) E (inR_k rfl) mμ10 h) rfl rfl dX8_longer_47 (fun r14 μ13 hr14 mμ13 h => ?_)
        exact r_iret B hr hr14 mμ13 dX8_longer_50 h
      · have h := h.2 c12
        refine r_il4 dX8_longer_35 ?_
        refine r_iconst dX8_longer_37 ?_
        refine r_iconst dX8_longer_38 ?_
        refine r_cSI3 B cb_X8_in lk_X8_63 cs_X8_in (c_X8_in (xl x) E hp3 (inR_k rfl) (inR_k rfl) mμ10 h) rfl rfl dX8_longer_39 (fun r16 μ15 hr16 mμ15 h => ?_)
        refine r_if_ne 51 dX8_longer_42 rfl hr16 (fun c17 => ?_) (fun c17 => ?_)
        · have h := h.1 c17
          refine r_al0 dX8_longer_51 ?_
          refine r_il2 dX8_longer_52 ?_
          refine r_cVI1 B cb_X8_places lk_X8_105 cv_X8_places kd_115 (c_X8_places (xl x) E hp1 mμ15 h) rfl rfl dX8_longer_53 (fun r19 μ18 hr19 mμ18 h => ?_)
          refine r_bipush dX8_longer_56 (by decide) ?_
          refine r_icmp_eq 74 dX8_longer_58 rfl hr19 (inR_k rfl) (fun c20 => ?_) (fun c20 => ?_)
          · have h := h.1 c20
            refine r_al0 dX8_longer_74 ?_
            refine r_iconst dX8_longer_75 ?_
            refine r_cVI1 B cb_X8_refused lk_X8_173 cv_X8_refused kd_115 (c_X8_refused (xl x) E (inR_k rfl) mμ18 h) rfl rfl dX8_longer_76 (fun r22 μ21 hr22 mμ21 h => ?_)
            exact r_iret B hr hr22 mμ21 dX8_longer_79 h
          · have h := h.2 c20
            refine r_al0 dX8_longer_61 ?_
            refine r_il2 dX8_longer_62 ?_
            refine r_cVI1 B cb_X8_words lk_X8_113 cv_X8_words kd_115 (c_X8_words (xl x) E hp1 mμ18 h) rfl rfl dX8_longer_63 (fun r24 μ23 hr24 mμ23 h => ?_)
            refine r_il3 dX8_longer_66 ?_
            refine r_imul dX8_longer_67 ?_
            refine r_sipush dX8_longer_68 (by decide) ?_
            obtain ⟨o25, h⟩ := h
            refine r_icmp_le 80 dX8_longer_71 rfl o25 (inR_k rfl) (fun c26 => ?_) (fun c26 => ?_)
            · have h := h.1 c26
              refine r_al0 dX8_longer_80 ?_
              refine r_bipush dX8_longer_81 (by decide) ?_
              refine r_cVV1 B cb_X8_clears lk_X8_158 cv_X8_clears kd_115 (c_X8_clears (xl x) E (inR_k rfl) mμ23 h) rfl rfl dX8_longer_83 (fun μ27 mμ27 h => ?_)
              refine r_al0 dX8_longer_86 ?_
              refine r_il2 dX8_longer_87 ?_
              refine r_iconst dX8_longer_88 ?_
              refine r_cVI2 B cb_X8_laysPlaces lk_X8_282 cv_X8_laysPlaces kd_115 (c_X8_laysPlaces (xl x) E hp1 (inR_k rfl) mμ27 h) rfl rfl dX8_longer_89 (fun r29 μ28 hr29 mμ28 h => ?_)
              refine r_is5 dX8_longer_92 rfl ?_
              refine r_al0 dX8_longer_94 ?_
              refine r_bipush dX8_longer_95 (by decide) ?_
              refine r_il3 dX8_longer_97 ?_
              refine r_il4 dX8_longer_98 ?_
              refine r_cVV3 B cb_X8_adds lk_X8_140 cv_X8_adds kd_115 (c_X8_adds (xl x) E (inR_k rfl) hp2 hp3 mμ28 h) rfl rfl dX8_longer_100 (fun μ30 mμ30 h => ?_)
              refine r_iconst dX8_longer_103 ?_
              refine r_is6 dX8_longer_104 rfl ?_
              exact J_weak (t_X8_longer_106 B hr hp0 hp1 hp2 hr29 (inR_k rfl) mμ30 h) (⟨rfl, ⟨rfl, ⟨rfl, ⟨rfl, ⟨rfl, ⟨rfl, trivial⟩⟩⟩⟩⟩⟩)
            · have h := h.2 c26
              refine r_al0 dX8_longer_74 ?_
              refine r_iconst dX8_longer_75 ?_
              refine r_cVI1 B cb_X8_refused lk_X8_173 cv_X8_refused kd_115 (c_X8_refused (xl x) E (inR_k rfl) mμ23 h) rfl rfl dX8_longer_76 (fun r47 μ46 hr47 mμ46 h => ?_)
              exact r_iret B hr hr47 mμ46 dX8_longer_79 h
        · have h := h.2 c17
          refine r_al0 dX8_longer_45 ?_
          refine r_iconst dX8_longer_46 ?_
          refine r_cVI1 B cb_X8_refused lk_X8_173 cv_X8_refused kd_115 (c_X8_refused (xl x) E (inR_k rfl) mμ15 h) rfl rfl dX8_longer_47 (fun r49 μ48 hr49 mμ48 h => ?_)
          exact r_iret B hr hr49 mμ48 dX8_longer_50 h
    · have h := h.2 c9
      refine r_al0 dX8_longer_20 ?_
      refine r_iconst dX8_longer_21 ?_
      refine r_cVI1 B cb_X8_refused lk_X8_173 cv_X8_refused kd_115 (c_X8_refused (xl x) E (inR_k rfl) mμ7 h) rfl rfl dX8_longer_22 (fun r51 μ50 hr51 mμ50 h => ?_)
      exact r_iret B hr hr51 mμ50 dX8_longer_25 h
set_option maxRecDepth 20000 in
theorem t_X8_shorter_140 {x : Cx} {E : Gx} (B : Bd x E 5 7 "SlipCoversModel") (hr : (xt x).sig.returnType = (some .int)) {Q : Int → Mem → Prop} {v1 : Int} {v2 : Int} {v3 : Int} {v4 : Int} {v5 : Int} {v6 : Int} {μ : Mem} (hv1 : inR v1) (hv2 : inR v2) (hv3 : inR v3) (hv4 : inR v4) (hv5 : inR v5) (hv6 : inR v6) (hμ : okM μ) (h : LP7 (wp_X8_shorter_140 Q) v1 v2 v3 v4 v5 v6 μ) : J cX8_shorter x E z0 μ 140 [some (rv E 115), some (iv v1), some (iv v2), some (iv v3), some (iv v4), some (iv v5), some (iv v6)] [] (MQ (xb x) (QI E z0 Q) (xa x) (xs x) 0 0 (gA E)) := by
  refine LP7_ind (T := fun (v1 : Int) (v2 : Int) (v3 : Int) (v4 : Int) (v5 : Int) (v6 : Int) (μ : Mem) => inR v1 → inR v2 → inR v3 → inR v4 → inR v5 → inR v6 → okM μ → J cX8_shorter x E z0 μ 140 [some (rv E 115), some (iv v1), some (iv v2), some (iv v3), some (iv v4), some (iv v5), some (iv v6)] [] (MQ (xb x) (QI E z0 Q) (xa x) (xs x) 0 0 (gA E))) (fun X140 hX140 v1 v2 v3 v4 v5 v6 μ h hv1 hv2 hv3 hv4 hv5 hv6 hμ => ?_) h hv1 hv2 hv3 hv4 hv5 hv6 hμ
  unfold wp_X8_shorter_140 at h
  refine r_il6 dX8_shorter_140 ?_
  refine r_al0 dX8_shorter_142 ?_
  refine r_il2 dX8_shorter_143 ?_
  refine r_cVI1 B cb_X8_words lk_X8_113 cv_X8_words kd_115 (c_X8_words (xl x) E hv2 hμ h) rfl rfl dX8_shorter_144 (fun r24 μ23 hr24 mμ23 h => ?_)
  refine r_icmp_ge 207 dX8_shorter_147 rfl hv6 hr24 (fun c25 => ?_) (fun c25 => ?_)
  · have h := h.1 c25
    refine r_al0 dX8_shorter_207 ?_
    refine r_il1 dX8_shorter_208 ?_
    refine r_cVI1 B cb_X8_becomes lk_X8_285 cv_X8_becomes kd_115 (c_X8_becomes (xl x) E hv1 mμ23 h) rfl rfl dX8_shorter_209 (fun r27 μ26 hr27 mμ26 h => ?_)
    exact r_iret B hr hr27 mμ26 dX8_shorter_212 h
  · have h := h.2 c25
    refine r_al0 dX8_shorter_150 ?_
    refine r_il2 dX8_shorter_151 ?_
    refine r_il6 dX8_shorter_152 ?_
    refine r_cVI2 B cb_X8_isIn lk_X8_116 cv_X8_isIn kd_115 (c_X8_isIn (xl x) E hv2 hv6 mμ23 h) rfl rfl dX8_shorter_154 (fun r29 μ28 hr29 mμ28 h => ?_)
    refine r_if_eq 201 dX8_shorter_157 rfl hr29 (fun c30 => ?_) (fun c30 => ?_)
    · have h := h.1 c30
      refine r_inc6 dX8_shorter_201 rfl ?_
      obtain ⟨o31, h⟩ := h
      refine r_goto 140 dX8_shorter_204 rfl ?_
      exact J_weak (hX140 v1 v2 v3 v4 v5 (v6 + 1) μ28 h hv1 hv2 hv3 hv4 hv5 o31 mμ28) (⟨rfl, ⟨rfl, ⟨rfl, ⟨rfl, ⟨rfl, ⟨rfl, ⟨rfl, trivial⟩⟩⟩⟩⟩⟩⟩)
    · have h := h.2 c30
      refine r_al0 dX8_shorter_160 ?_
      refine r_il2 dX8_shorter_161 ?_
      refine r_il6 dX8_shorter_162 ?_
      refine r_il3 dX8_shorter_164 ?_
      refine r_cVI3 B cb_X8_digitOf lk_X8_220 cv_X8_digitOf kd_115 (c_X8_digitOf (xl x) E hv2 hv6 hv3 mμ28 h) rfl rfl dX8_shorter_165 (fun r33 μ32 hr33 mμ32 h => ?_)
      refine r_il4 dX8_shorter_168 ?_
      refine r_icmp_ne 201 dX8_shorter_170 rfl hr33 hv4 (fun c34 => ?_) (fun c34 => ?_)
      · have h := h.1 c34
        refine r_inc6 dX8_shorter_201 rfl ?_
        obtain ⟨o35, h⟩ := h
        refine r_goto 140 dX8_shorter_204 rfl ?_
        exact J_weak (hX140 v1 v2 v3 v4 v5 (v6 + 1) μ32 h hv1 hv2 hv3 hv4 hv5 o35 mμ32) (⟨rfl, ⟨rfl, ⟨rfl, ⟨rfl, ⟨rfl, ⟨rfl, ⟨rfl, trivial⟩⟩⟩⟩⟩⟩⟩)
      · have h := h.2 c34
        refine r_al0 dX8_shorter_173 ?_
        refine r_bipush dX8_shorter_174 (by decide) ?_
        refine r_il6 dX8_shorter_176 ?_
        refine r_il5 dX8_shorter_178 ?_
        obtain ⟨o36, h⟩ := h
        refine r_idiv dX8_shorter_180 o36 hv6 hv5 ?_
        refine r_al0 dX8_shorter_181 ?_
        refine r_il2 dX8_shorter_182 ?_
        refine r_il3 dX8_shorter_183 ?_
        refine r_cVI2 B cb_X8_sizeOf lk_X8_109 cv_X8_sizeOf kd_115 (c_X8_sizeOf (xl x) E hv2 hv3 mμ32 h) rfl rfl dX8_shorter_184 (fun r38 μ37 hr38 mμ37 h => ?_)
        obtain ⟨o39, h⟩ := h
        refine r_idiv dX8_shorter_187 o39 (inR_idiv o36 hv6 hv5) hr38 ?_
        refine r_il5 dX8_shorter_188 ?_
        refine r_imul dX8_shorter_190 ?_
        refine r_il6 dX8_shorter_191 ?_
        refine r_il5 dX8_shorter_193 ?_
        obtain ⟨o40, h⟩ := h
        refine r_irem dX8_shorter_195 o40 hv6 hv5 ?_
        refine r_iadd dX8_shorter_196 ?_
        refine r_iconst dX8_shorter_197 ?_
        obtain ⟨o41, h⟩ := h
        refine r_cVV3 B cb_X8_marks lk_X8_147 cv_X8_marks kd_115 (c_X8_marks (xl x) E (inR_k rfl) o41 (inR_k rfl) mμ37 h) rfl rfl dX8_shorter_198 (fun μ42 mμ42 h => ?_)
        refine r_inc6 dX8_shorter_201 rfl ?_
        obtain ⟨o43, h⟩ := h
        refine r_goto 140 dX8_shorter_204 rfl ?_
        exact J_weak (hX140 v1 v2 v3 v4 v5 (v6 + 1) μ42 h hv1 hv2 hv3 hv4 hv5 o43 mμ42) (⟨rfl, ⟨rfl, ⟨rfl, ⟨rfl, ⟨rfl, ⟨rfl, ⟨rfl, trivial⟩⟩⟩⟩⟩⟩⟩)
set_option maxRecDepth 20000 in
theorem t_X8_shorter_113 {x : Cx} {E : Gx} (B : Bd x E 5 7 "SlipCoversModel") (hr : (xt x).sig.returnType = (some .int)) {Q : Int → Mem → Prop} {X77 : Int → Int → Int → Int → Int → Int → Mem → Prop} (hX77 : ∀ (v1 : Int) (v2 : Int) (v3 : Int) (v4 : Int) (v5 : Int) (v6 : Int) (μ : Mem), X77 v1 v2 v3 v4 v5 v6 μ → inR v1 → inR v2 → inR v3 → inR v4 → inR v5 → inR v6 → okM μ → J cX8_shorter x E z0 μ 77 [some (rv E 115), some (iv v1), some (iv v2), some (iv v3), some (iv v4), some (iv v5), some (iv v6)] [] (MQ (xb x) (QI E z0 Q) (xa x) (xs x) 0 0 (gA E))) {v1 : Int} {v2 : Int} {v3 : Int} {v4 : Int} {v5 : Int} {v6 : Int} {μ : Mem} (hv1 : inR v1) (hv2 : inR v2) (hv3 : inR v3) (hv4 : inR v4) (hv5 : inR v5) (hv6 : inR v6) (hμ : okM μ) (h : wp_X8_shorter_113 Q X77 v1 v2 v3 v4 v5 v6 μ) : J cX8_shorter x E z0 μ 113 [some (rv E 115), some (iv v1), some (iv v2), some (iv v3), some (iv v4), some (iv v5), some (iv v6)] [] (MQ (xb x) (QI E z0 Q) (xa x) (xs x) 0 0 (gA E)) := by
  unfold wp_X8_shorter_113 at h
  refine r_il6 dX8_shorter_113 ?_
  refine r_il3 dX8_shorter_115 ?_
  refine r_icmp_le 131 dX8_shorter_116 rfl hv6 hv3 (fun c45 => ?_) (fun c45 => ?_)
  · have h := h.1 c45
    refine r_inc6 dX8_shorter_131 rfl ?_
    obtain ⟨o46, h⟩ := h
    refine r_goto 77 dX8_shorter_134 rfl ?_
    exact J_weak (hX77 v1 v2 v3 v4 v5 (v6 + 1) μ h hv1 hv2 hv3 hv4 hv5 o46 hμ) (⟨rfl, ⟨rfl, ⟨rfl, ⟨rfl, ⟨rfl, ⟨rfl, ⟨rfl, trivial⟩⟩⟩⟩⟩⟩⟩)
  · have h := h.2 c45
    refine r_il5 dX8_shorter_119 ?_
    refine r_al0 dX8_shorter_121 ?_
    refine r_il2 dX8_shorter_122 ?_
    refine r_il6 dX8_shorter_123 ?_
    refine r_cVI2 B cb_X8_sizeOf lk_X8_109 cv_X8_sizeOf kd_115 (c_X8_sizeOf (xl x) E hv2 hv6 hμ h) rfl rfl dX8_shorter_125 (fun r48 μ47 hr48 mμ47 h => ?_)
    refine r_imul dX8_shorter_128 ?_
    obtain ⟨o50, h⟩ := h
    refine n_topi (fun x49 ex49 => ?_)
    have h := h x49 ex49
    refine r_is5 dX8_shorter_129 rfl ?_
    refine r_inc6 dX8_shorter_131 rfl ?_
    obtain ⟨o51, h⟩ := h
    refine r_goto 77 dX8_shorter_134 rfl ?_
    exact J_weak (hX77 v1 v2 v3 v4 x49 (v6 + 1) μ47 h hv1 hv2 hv3 hv4 (eqR ex49 o50) o51 mμ47) (⟨rfl, ⟨rfl, ⟨rfl, ⟨rfl, ⟨rfl, ⟨rfl, ⟨rfl, trivial⟩⟩⟩⟩⟩⟩⟩)
set_option maxRecDepth 20000 in
theorem t_X8_shorter_77 {x : Cx} {E : Gx} (B : Bd x E 5 7 "SlipCoversModel") (hr : (xt x).sig.returnType = (some .int)) {Q : Int → Mem → Prop} {v1 : Int} {v2 : Int} {v3 : Int} {v4 : Int} {v5 : Int} {v6 : Int} {μ : Mem} (hv1 : inR v1) (hv2 : inR v2) (hv3 : inR v3) (hv4 : inR v4) (hv5 : inR v5) (hv6 : inR v6) (hμ : okM μ) (h : LP7 (wp_X8_shorter_77 Q) v1 v2 v3 v4 v5 v6 μ) : J cX8_shorter x E z0 μ 77 [some (rv E 115), some (iv v1), some (iv v2), some (iv v3), some (iv v4), some (iv v5), some (iv v6)] [] (MQ (xb x) (QI E z0 Q) (xa x) (xs x) 0 0 (gA E)) := by
  refine LP7_ind (T := fun (v1 : Int) (v2 : Int) (v3 : Int) (v4 : Int) (v5 : Int) (v6 : Int) (μ : Mem) => inR v1 → inR v2 → inR v3 → inR v4 → inR v5 → inR v6 → okM μ → J cX8_shorter x E z0 μ 77 [some (rv E 115), some (iv v1), some (iv v2), some (iv v3), some (iv v4), some (iv v5), some (iv v6)] [] (MQ (xb x) (QI E z0 Q) (xa x) (xs x) 0 0 (gA E))) (fun X77 hX77 v1 v2 v3 v4 v5 v6 μ h hv1 hv2 hv3 hv4 hv5 hv6 hμ => ?_) h hv1 hv2 hv3 hv4 hv5 hv6 hμ
  unfold wp_X8_shorter_77 at h
  refine r_il6 dX8_shorter_77 ?_
  refine r_al0 dX8_shorter_79 ?_
  refine r_il2 dX8_shorter_80 ?_
  refine r_cVI1 B cb_X8_places lk_X8_105 cv_X8_places kd_115 (c_X8_places (xl x) E hv2 hμ h) rfl rfl dX8_shorter_81 (fun r21 μ20 hr21 mμ20 h => ?_)
  refine r_icmp_ge 137 dX8_shorter_84 rfl hv6 hr21 (fun c22 => ?_) (fun c22 => ?_)
  · have h := h.1 c22
    refine r_iconst dX8_shorter_137 ?_
    refine r_is6 dX8_shorter_138 rfl ?_
    exact J_weak (t_X8_shorter_140 B hr hv1 hv2 hv3 hv4 hv5 (inR_k rfl) mμ20 h) (⟨rfl, ⟨rfl, ⟨rfl, ⟨rfl, ⟨rfl, ⟨rfl, ⟨rfl, trivial⟩⟩⟩⟩⟩⟩⟩)
  · have h := h.2 c22
    refine r_il6 dX8_shorter_87 ?_
    refine r_il3 dX8_shorter_89 ?_
    refine r_icmp_eq 113 dX8_shorter_90 rfl hv6 hv3 (fun c44 => ?_) (fun c44 => ?_)
    · have h := h.1 c44
      exact J_weak (t_X8_shorter_113 B hr hX77 hv1 hv2 hv3 hv4 hv5 hv6 mμ20 h) (⟨rfl, ⟨rfl, ⟨rfl, ⟨rfl, ⟨rfl, ⟨rfl, ⟨rfl, trivial⟩⟩⟩⟩⟩⟩⟩)
    · have h := h.2 c44
      refine r_al0 dX8_shorter_93 ?_
      refine r_bipush dX8_shorter_94 (by decide) ?_
      refine r_al0 dX8_shorter_96 ?_
      refine r_il2 dX8_shorter_97 ?_
      refine r_il6 dX8_shorter_98 ?_
      refine r_cVI2 B cb_X8_sizeOf lk_X8_109 cv_X8_sizeOf kd_115 (c_X8_sizeOf (xl x) E hv2 hv6 mμ20 h) rfl rfl dX8_shorter_100 (fun r53 μ52 hr53 mμ52 h => ?_)
      refine r_al0 dX8_shorter_103 ?_
      refine r_il2 dX8_shorter_104 ?_
      refine r_il6 dX8_shorter_105 ?_
      refine r_cVI2 B cb_X8_weightOf lk_X8_120 cv_X8_weightOf kd_115 (c_X8_weightOf (xl x) E hv2 hv6 mμ52 h) rfl rfl dX8_shorter_107 (fun r55 μ54 hr55 mμ54 h => ?_)
      refine r_cVV3 B cb_X8_adds lk_X8_140 cv_X8_adds kd_115 (c_X8_adds (xl x) E (inR_k rfl) hr53 hr55 mμ54 h) rfl rfl dX8_shorter_110 (fun μ56 mμ56 h => ?_)
      exact J_weak (t_X8_shorter_113 B hr hX77 hv1 hv2 hv3 hv4 hv5 hv6 mμ56 h) (⟨rfl, ⟨rfl, ⟨rfl, ⟨rfl, ⟨rfl, ⟨rfl, ⟨rfl, trivial⟩⟩⟩⟩⟩⟩⟩)
set_option maxRecDepth 20000 in
theorem c_X8_shorter (l : Launch) (E : Gx) {p0 : Int} {p1 : Int} {p2 : Int} {p3 : Int} {μ : Mem} {Q : Int → Mem → Prop} (hp0 : inR p0) (hp1 : inR p1) (hp2 : inR p2) (hp3 : inR p3) (hμ : okM μ) (h : wp_X8_shorter p0 p1 p2 p3 μ Q) : MT l yX8_shorter cX8_shorter 7 (some .int) E 5 0 0 z0 [rv E 115, iv p0, iv p1, iv p2, iv p3] μ (QI E z0 Q) := by
  refine m_start [some (rv E 115), some (iv p0), some (iv p1), some (iv p2), some (iv p3), none, none] (by decide) rfl rfl rfl (fun x hxl hxc hxs B hr hnm => ?_)
  unfold wp_X8_shorter at h
  refine r_al0 dX8_shorter_0 ?_
  refine r_iconst dX8_shorter_1 ?_
  refine r_putI B fg_X8_42 fp_8_0 kd_115 (kl kd_115) dX8_shorter_2 ?_
  refine n_mem (fun μ1 eμ1 => ?_)
  have h := h μ1 eμ1
  have mμ1 : okM μ1 := eqM eμ1 (okM_sI hμ (inR_k rfl))
  refine r_il1 dX8_shorter_5 ?_
  refine r_cSI1 B cb_X8_isTo lk_X8_279 cs_X8_isTo (c_X8_isTo (xl x) E hp0 mμ1 h) rfl rfl dX8_shorter_6 (fun r3 μ2 hr3 mμ2 h => ?_)
  refine r_if_eq 21 dX8_shorter_9 rfl hr3 (fun c4 => ?_) (fun c4 => ?_)
  · have h := h.1 c4
    refine r_al0 dX8_shorter_21 ?_
    refine r_iconst dX8_shorter_22 ?_
    refine r_cVI1 B cb_X8_refused lk_X8_173 cv_X8_refused kd_115 (c_X8_refused (xl x) E (inR_k rfl) mμ2 h) rfl rfl dX8_shorter_23 (fun r6 μ5 hr6 mμ5 h => ?_)
    exact r_iret B hr hr6 mμ5 dX8_shorter_26 h
  · have h := h.2 c4
    refine r_al0 dX8_shorter_12 ?_
    refine r_il2 dX8_shorter_13 ?_
    refine r_il3 dX8_shorter_14 ?_
    refine r_cVI2 B cb_X8_isPlace lk_X8_214 cv_X8_isPlace kd_115 (c_X8_isPlace (xl x) E hp1 hp2 mμ2 h) rfl rfl dX8_shorter_15 (fun r8 μ7 hr8 mμ7 h => ?_)
    refine r_if_ne 27 dX8_shorter_18 rfl hr8 (fun c9 => ?_) (fun c9 => ?_)
    · have h := h.1 c9
      refine r_il4 dX8_shorter_27 ?_
      refine r_iconst dX8_shorter_29 ?_
      refine r_al0 dX8_shorter_30 ?_
      refine r_il2 dX8_shorter_31 ?_
      refine r_il3 dX8_shorter_32 ?_
      refine r_cVI2 B cb_X8_sizeOf lk_X8_109 cv_X8_sizeOf kd_115 (c_X8_sizeOf (xl x) E hp1 hp2 mμ7 h) rfl rfl dX8_shorter_33 (fun r11 μ10 hr11 mμ10 h => ?_)
      refine r_iconst dX8_shorter_36 ?_
      refine r_isub dX8_shorter_37 ?_
      obtain ⟨o12, h⟩ := h
      refine r_cSI3 B cb_X8_in lk_X8_63 cs_X8_in (c_X8_in (xl x) E hp3 (inR_k rfl) o12 mμ10 h) rfl rfl dX8_shorter_38 (fun r14 μ13 hr14 mμ13 h => ?_)
      refine r_if_ne 50 dX8_shorter_41 rfl hr14 (fun c15 => ?_) (fun c15 => ?_)
      · have h := h.1 c15
        refine r_al0 dX8_shorter_50 ?_
        refine r_il2 dX8_shorter_51 ?_
        refine r_cVI1 B cb_X8_places lk_X8_105 cv_X8_places kd_115 (c_X8_places (xl x) E hp1 mμ13 h) rfl rfl dX8_shorter_52 (fun r17 μ16 hr17 mμ16 h => ?_)
        refine r_iconst dX8_shorter_55 ?_
        refine r_icmp_ne 65 dX8_shorter_56 rfl hr17 (inR_k rfl) (fun c18 => ?_) (fun c18 => ?_)
        · have h := h.1 c18
          refine r_al0 dX8_shorter_65 ?_
          refine r_bipush dX8_shorter_66 (by decide) ?_
          refine r_cVV1 B cb_X8_clears lk_X8_158 cv_X8_clears kd_115 (c_X8_clears (xl x) E (inR_k rfl) mμ16 h) rfl rfl dX8_shorter_68 (fun μ19 mμ19 h => ?_)
          refine r_iconst dX8_shorter_71 ?_
          refine r_is5 dX8_shorter_72 rfl ?_
          refine r_iconst dX8_shorter_74 ?_
          refine r_is6 dX8_shorter_75 rfl ?_
          exact J_weak (t_X8_shorter_77 B hr hp0 hp1 hp2 hp3 (inR_k rfl) (inR_k rfl) mμ19 h) (⟨rfl, ⟨rfl, ⟨rfl, ⟨rfl, ⟨rfl, ⟨rfl, ⟨rfl, trivial⟩⟩⟩⟩⟩⟩⟩)
        · have h := h.2 c18
          refine r_al0 dX8_shorter_59 ?_
          refine r_iconst dX8_shorter_60 ?_
          refine r_cVI1 B cb_X8_refused lk_X8_173 cv_X8_refused kd_115 (c_X8_refused (xl x) E (inR_k rfl) mμ16 h) rfl rfl dX8_shorter_61 (fun r58 μ57 hr58 mμ57 h => ?_)
          exact r_iret B hr hr58 mμ57 dX8_shorter_64 h
      · have h := h.2 c15
        refine r_al0 dX8_shorter_44 ?_
        refine r_iconst dX8_shorter_45 ?_
        refine r_cVI1 B cb_X8_refused lk_X8_173 cv_X8_refused kd_115 (c_X8_refused (xl x) E (inR_k rfl) mμ13 h) rfl rfl dX8_shorter_46 (fun r60 μ59 hr60 mμ59 h => ?_)
        exact r_iret B hr hr60 mμ59 dX8_shorter_49 h
    · have h := h.2 c9
      refine r_al0 dX8_shorter_21 ?_
      refine r_iconst dX8_shorter_22 ?_
      refine r_cVI1 B cb_X8_refused lk_X8_173 cv_X8_refused kd_115 (c_X8_refused (xl x) E (inR_k rfl) mμ7 h) rfl rfl dX8_shorter_23 (fun r62 μ61 hr62 mμ61 h => ?_)
      exact r_iret B hr hr62 mμ61 dX8_shorter_26 h
set_option maxRecDepth 20000 in
theorem t_X8_swap_176 {x : Cx} {E : Gx} (B : Bd x E 5 8 "SlipCoversModel") (hr : (xt x).sig.returnType = (some .boolean)) {Q : Int → Mem → Prop} {X111 : Int → Int → Int → Int → Int → Mem → Prop} (hX111 : ∀ (v1 : Int) (v2 : Int) (v3 : Int) (v4 : Int) (v5 : Int) (μ : Mem), X111 v1 v2 v3 v4 v5 μ → inR v1 → inR v2 → inR v3 → inR v4 → inR v5 → okM μ → J cX8_swap x E z0 μ 111 [some (rv E 115), some (iv v1), some (iv v2), some (iv v3), some (iv v4), some (iv v5), none, none] [] (MQ (xb x) (QI E z0 Q) (xa x) (xs x) 0 0 (gA E))) {X127 : Int → Int → Int → Int → Int → Int → Int → Mem → Prop} (hX127 : ∀ (v1 : Int) (v2 : Int) (v3 : Int) (v4 : Int) (v5 : Int) (v6 : Int) (v7 : Int) (μ : Mem), X127 v1 v2 v3 v4 v5 v6 v7 μ → inR v1 → inR v2 → inR v3 → inR v4 → inR v5 → inR v6 → inR v7 → okM μ → J cX8_swap x E z0 μ 127 [some (rv E 115), some (iv v1), some (iv v2), some (iv v3), some (iv v4), some (iv v5), some (iv v6), some (iv v7)] [] (MQ (xb x) (QI E z0 Q) (xa x) (xs x) 0 0 (gA E))) {v1 : Int} {v2 : Int} {v3 : Int} {v4 : Int} {v5 : Int} {v7 : Int} {s0 : Int} {s2 : Int} {s3 : Int} {s4 : Int} {μ : Mem} (hv1 : inR v1) (hv2 : inR v2) (hv3 : inR v3) (hv4 : inR v4) (hv5 : inR v5) (hv7 : inR v7) (hs0 : inR s0) (hs2 : inR s2) (hs3 : inR s3) (hs4 : inR s4) (hμ : okM μ) (h : wp_X8_swap_176 Q X111 X127 v1 v2 v3 v4 v5 v7 s0 s2 s3 s4 μ) : J cX8_swap x E z0 μ 176 [some (rv E 115), some (iv v1), some (iv v2), some (iv v3), some (iv v4), some (iv v5), none, some (iv v7)] [iv s4, iv s3, iv s2, rv E 115, iv s0] (MQ (xb x) (QI E z0 Q) (xa x) (xs x) 0 0 (gA E)) := by
  unfold wp_X8_swap_176 at h
  refine r_cVI3 B cb_X8_digitOf lk_X8_220 cv_X8_digitOf kd_115 (c_X8_digitOf (xl x) E hs2 hs3 hs4 hμ h) rfl rfl dX8_swap_176 (fun r44 μ43 hr44 mμ43 h => ?_)
  refine r_iadd dX8_swap_179 ?_
  obtain ⟨o46, h⟩ := h
  refine n_topi (fun x45 ex45 => ?_)
  have h := h x45 ex45
  refine r_is6 dX8_swap_180 rfl ?_
  refine r_inc7 dX8_swap_182 rfl ?_
  obtain ⟨o47, h⟩ := h
  refine r_goto 127 dX8_swap_185 rfl ?_
  exact J_weak (hX127 v1 v2 v3 v4 v5 x45 (v7 + 1) μ43 h hv1 hv2 hv3 hv4 hv5 (eqR ex45 o46) o47 mμ43) (⟨rfl, ⟨rfl, ⟨rfl, ⟨rfl, ⟨rfl, ⟨rfl, ⟨rfl, ⟨rfl, trivial⟩⟩⟩⟩⟩⟩⟩⟩)
set_option maxRecDepth 20000 in
theorem t_X8_swap_127 {x : Cx} {E : Gx} (B : Bd x E 5 8 "SlipCoversModel") (hr : (xt x).sig.returnType = (some .boolean)) {Q : Int → Mem → Prop} {X111 : Int → Int → Int → Int → Int → Mem → Prop} (hX111 : ∀ (v1 : Int) (v2 : Int) (v3 : Int) (v4 : Int) (v5 : Int) (μ : Mem), X111 v1 v2 v3 v4 v5 μ → inR v1 → inR v2 → inR v3 → inR v4 → inR v5 → okM μ → J cX8_swap x E z0 μ 111 [some (rv E 115), some (iv v1), some (iv v2), some (iv v3), some (iv v4), some (iv v5), none, none] [] (MQ (xb x) (QI E z0 Q) (xa x) (xs x) 0 0 (gA E))) {v1 : Int} {v2 : Int} {v3 : Int} {v4 : Int} {v5 : Int} {v6 : Int} {v7 : Int} {μ : Mem} (hv1 : inR v1) (hv2 : inR v2) (hv3 : inR v3) (hv4 : inR v4) (hv5 : inR v5) (hv6 : inR v6) (hv7 : inR v7) (hμ : okM μ) (h : LP8 (wp_X8_swap_127 Q X111) v1 v2 v3 v4 v5 v6 v7 μ) : J cX8_swap x E z0 μ 127 [some (rv E 115), some (iv v1), some (iv v2), some (iv v3), some (iv v4), some (iv v5), some (iv v6), some (iv v7)] [] (MQ (xb x) (QI E z0 Q) (xa x) (xs x) 0 0 (gA E)) := by
  refine LP8_ind (T := fun (v1 : Int) (v2 : Int) (v3 : Int) (v4 : Int) (v5 : Int) (v6 : Int) (v7 : Int) (μ : Mem) => inR v1 → inR v2 → inR v3 → inR v4 → inR v5 → inR v6 → inR v7 → okM μ → J cX8_swap x E z0 μ 127 [some (rv E 115), some (iv v1), some (iv v2), some (iv v3), some (iv v4), some (iv v5), some (iv v6), some (iv v7)] [] (MQ (xb x) (QI E z0 Q) (xa x) (xs x) 0 0 (gA E))) (fun X127 hX127 v1 v2 v3 v4 v5 v6 v7 μ h hv1 hv2 hv3 hv4 hv5 hv6 hv7 hμ => ?_) h hv1 hv2 hv3 hv4 hv5 hv6 hv7 hμ
  unfold wp_X8_swap_127 at h
  refine r_il7 dX8_swap_127 ?_
  refine r_al0 dX8_swap_129 ?_
  refine r_il2 dX8_swap_130 ?_
  refine r_cVI1 B cb_X8_places lk_X8_105 cv_X8_places kd_115 (c_X8_places (xl x) E hv2 hμ h) rfl rfl dX8_swap_131 (fun r30 μ29 hr30 mμ29 h => ?_)
  refine r_icmp_ge 188 dX8_swap_134 rfl hv7 hr30 (fun c31 => ?_) (fun c31 => ?_)
  · have h := h.1 c31
    refine r_al0 dX8_swap_188 ?_
    refine r_il2 dX8_swap_189 ?_
    refine r_il5 dX8_swap_190 ?_
    refine r_cVI2 B cb_X8_isIn lk_X8_116 cv_X8_isIn kd_115 (c_X8_isIn (xl x) E hv2 hv5 mμ29 h) rfl rfl dX8_swap_192 (fun r33 μ32 hr33 mμ32 h => ?_)
    refine r_if_eq 207 dX8_swap_195 rfl hr33 (fun c34 => ?_) (fun c34 => ?_)
    · have h := h.1 c34
      refine r_inc5 dX8_swap_207 rfl ?_
      obtain ⟨o35, h⟩ := h
      refine r_goto 111 dX8_swap_210 rfl ?_
      exact J_weak (hX111 v1 v2 v3 v4 (v5 + 1) μ32 h hv1 hv2 hv3 hv4 o35 mμ32) (⟨rfl, ⟨rfl, ⟨rfl, ⟨rfl, ⟨rfl, ⟨rfl, trivial⟩⟩⟩⟩⟩⟩)
    · have h := h.2 c34
      refine r_al0 dX8_swap_198 ?_
      refine r_bipush dX8_swap_199 (by decide) ?_
      refine r_il6 dX8_swap_201 ?_
      refine r_iconst dX8_swap_203 ?_
      refine r_cVV3 B cb_X8_marks lk_X8_147 cv_X8_marks kd_115 (c_X8_marks (xl x) E (inR_k rfl) hv6 (inR_k rfl) mμ32 h) rfl rfl dX8_swap_204 (fun μ36 mμ36 h => ?_)
      refine r_inc5 dX8_swap_207 rfl ?_
      obtain ⟨o37, h⟩ := h
      refine r_goto 111 dX8_swap_210 rfl ?_
      exact J_weak (hX111 v1 v2 v3 v4 (v5 + 1) μ36 h hv1 hv2 hv3 hv4 o37 mμ36) (⟨rfl, ⟨rfl, ⟨rfl, ⟨rfl, ⟨rfl, ⟨rfl, trivial⟩⟩⟩⟩⟩⟩)
  · have h := h.2 c31
    refine r_il6 dX8_swap_137 ?_
    refine r_al0 dX8_swap_139 ?_
    refine r_bipush dX8_swap_140 (by decide) ?_
    refine r_il7 dX8_swap_142 ?_
    refine r_cVI2 B cb_X8_sizeOf lk_X8_109 cv_X8_sizeOf kd_115 (c_X8_sizeOf (xl x) E (inR_k rfl) hv7 mμ29 h) rfl rfl dX8_swap_144 (fun r39 μ38 hr39 mμ38 h => ?_)
    refine r_imul dX8_swap_147 ?_
    refine r_al0 dX8_swap_148 ?_
    refine r_il2 dX8_swap_149 ?_
    refine r_il5 dX8_swap_150 ?_
    refine r_il7 dX8_swap_152 ?_
    refine r_il3 dX8_swap_154 ?_
    refine r_icmp_ne 163 dX8_swap_155 rfl hv7 hv3 (fun c40 => ?_) (fun c40 => ?_)
    · have h := h.1 c40
      refine r_il7 dX8_swap_163 ?_
      refine r_il4 dX8_swap_165 ?_
      refine r_icmp_ne 174 dX8_swap_167 rfl hv7 hv4 (fun c41 => ?_) (fun c41 => ?_)
      · have h := h.1 c41
        refine r_il7 dX8_swap_174 ?_
        obtain ⟨o42, h⟩ := h
        exact J_weak (t_X8_swap_176 B hr hX111 hX127 hv1 hv2 hv3 hv4 hv5 hv7 o42 hv2 hv5 hv7 mμ38 h) (⟨rfl, ⟨rfl, ⟨rfl, ⟨rfl, ⟨rfl, ⟨rfl, ⟨rfl, trivial⟩⟩⟩⟩⟩⟩⟩)
      · have h := h.2 c41
        refine r_il3 dX8_swap_170 ?_
        refine r_goto 176 dX8_swap_171 rfl ?_
        obtain ⟨o48, h⟩ := h
        exact J_weak (t_X8_swap_176 B hr hX111 hX127 hv1 hv2 hv3 hv4 hv5 hv7 o48 hv2 hv5 hv3 mμ38 h) (⟨rfl, ⟨rfl, ⟨rfl, ⟨rfl, ⟨rfl, ⟨rfl, ⟨rfl, trivial⟩⟩⟩⟩⟩⟩⟩)
    · have h := h.2 c40
      refine r_il4 dX8_swap_158 ?_
      refine r_goto 176 dX8_swap_160 rfl ?_
      obtain ⟨o49, h⟩ := h
      exact J_weak (t_X8_swap_176 B hr hX111 hX127 hv1 hv2 hv3 hv4 hv5 hv7 o49 hv2 hv5 hv4 mμ38 h) (⟨rfl, ⟨rfl, ⟨rfl, ⟨rfl, ⟨rfl, ⟨rfl, ⟨rfl, trivial⟩⟩⟩⟩⟩⟩⟩)
set_option maxRecDepth 20000 in
theorem t_X8_swap_111 {x : Cx} {E : Gx} (B : Bd x E 5 8 "SlipCoversModel") (hr : (xt x).sig.returnType = (some .boolean)) {Q : Int → Mem → Prop} {v1 : Int} {v2 : Int} {v3 : Int} {v4 : Int} {v5 : Int} {μ : Mem} (hv1 : inR v1) (hv2 : inR v2) (hv3 : inR v3) (hv4 : inR v4) (hv5 : inR v5) (hμ : okM μ) (h : LP6 (wp_X8_swap_111 Q) v1 v2 v3 v4 v5 μ) : J cX8_swap x E z0 μ 111 [some (rv E 115), some (iv v1), some (iv v2), some (iv v3), some (iv v4), some (iv v5), none, none] [] (MQ (xb x) (QI E z0 Q) (xa x) (xs x) 0 0 (gA E)) := by
  refine LP6_ind (T := fun (v1 : Int) (v2 : Int) (v3 : Int) (v4 : Int) (v5 : Int) (μ : Mem) => inR v1 → inR v2 → inR v3 → inR v4 → inR v5 → okM μ → J cX8_swap x E z0 μ 111 [some (rv E 115), some (iv v1), some (iv v2), some (iv v3), some (iv v4), some (iv v5), none, none] [] (MQ (xb x) (QI E z0 Q) (xa x) (xs x) 0 0 (gA E))) (fun X111 hX111 v1 v2 v3 v4 v5 μ h hv1 hv2 hv3 hv4 hv5 hμ => ?_) h hv1 hv2 hv3 hv4 hv5 hμ
  unfold wp_X8_swap_111 at h
  refine r_il5 dX8_swap_111 ?_
  refine r_al0 dX8_swap_113 ?_
  refine r_il2 dX8_swap_114 ?_
  refine r_cVI1 B cb_X8_words lk_X8_113 cv_X8_words kd_115 (c_X8_words (xl x) E hv2 hμ h) rfl rfl dX8_swap_115 (fun r22 μ21 hr22 mμ21 h => ?_)
  refine r_icmp_ge 213 dX8_swap_118 rfl hv5 hr22 (fun c23 => ?_) (fun c23 => ?_)
  · have h := h.1 c23
    refine r_al0 dX8_swap_213 ?_
    refine r_il1 dX8_swap_214 ?_
    refine r_cVI1 B cb_X8_becomes lk_X8_285 cv_X8_becomes kd_115 (c_X8_becomes (xl x) E hv1 mμ21 h) rfl rfl dX8_swap_215 (fun r25 μ24 hr25 mμ24 h => ?_)
    refine r_is5 dX8_swap_218 rfl ?_
    refine r_al0 dX8_swap_220 ?_
    refine r_iconst dX8_swap_221 ?_
    refine r_cVI1 B cb_X8_granted lk_X8_288 cv_X8_granted kd_115 (c_X8_granted (xl x) E (inR_k rfl) mμ24 h) rfl rfl dX8_swap_222 (fun r27 μ26 hr27 mμ26 h => ?_)
    obtain ⟨o28, h⟩ := h
    exact r_zret B hr o28 mμ26 dX8_swap_225 h
  · have h := h.2 c23
    refine r_iconst dX8_swap_121 ?_
    refine r_is6 dX8_swap_122 rfl ?_
    refine r_iconst dX8_swap_124 ?_
    refine r_is7 dX8_swap_125 rfl ?_
    exact J_weak (t_X8_swap_127 B hr hX111 hv1 hv2 hv3 hv4 hv5 (inR_k rfl) (inR_k rfl) mμ21 h) (⟨rfl, ⟨rfl, ⟨rfl, ⟨rfl, ⟨rfl, ⟨rfl, ⟨rfl, ⟨rfl, trivial⟩⟩⟩⟩⟩⟩⟩⟩)
set_option maxRecDepth 20000 in
theorem t_X8_swap_80 {x : Cx} {E : Gx} (B : Bd x E 5 8 "SlipCoversModel") (hr : (xt x).sig.returnType = (some .boolean)) {Q : Int → Mem → Prop} {X46 : Int → Int → Int → Int → Int → Mem → Prop} (hX46 : ∀ (v1 : Int) (v2 : Int) (v3 : Int) (v4 : Int) (v5 : Int) (μ : Mem), X46 v1 v2 v3 v4 v5 μ → inR v1 → inR v2 → inR v3 → inR v4 → inR v5 → okM μ → J cX8_swap x E z0 μ 46 [some (rv E 115), some (iv v1), some (iv v2), some (iv v3), some (iv v4), some (iv v5), none, none] [] (MQ (xb x) (QI E z0 Q) (xa x) (xs x) 0 0 (gA E))) {v1 : Int} {v2 : Int} {v3 : Int} {v4 : Int} {v5 : Int} {s0 : Int} {μ : Mem} (hv1 : inR v1) (hv2 : inR v2) (hv3 : inR v3) (hv4 : inR v4) (hv5 : inR v5) (hs0 : inR s0) (hμ : okM μ) (h : wp_X8_swap_80 Q X46 v1 v2 v3 v4 v5 s0 μ) : J cX8_swap x E z0 μ 80 [some (rv E 115), some (iv v1), some (iv v2), some (iv v3), some (iv v4), some (iv v5), none, none] [iv s0] (MQ (xb x) (QI E z0 Q) (xa x) (xs x) 0 0 (gA E)) := by
  unfold wp_X8_swap_80 at h
  refine r_is6 dX8_swap_80 rfl ?_
  refine r_al0 dX8_swap_82 ?_
  refine r_bipush dX8_swap_83 (by decide) ?_
  refine r_al0 dX8_swap_85 ?_
  refine r_il2 dX8_swap_86 ?_
  refine r_il6 dX8_swap_87 ?_
  refine r_cVI2 B cb_X8_sizeOf lk_X8_109 cv_X8_sizeOf kd_115 (c_X8_sizeOf (xl x) E hv2 hs0 hμ h) rfl rfl dX8_swap_89 (fun r53 μ52 hr53 mμ52 h => ?_)
  refine r_al0 dX8_swap_92 ?_
  refine r_il2 dX8_swap_93 ?_
  refine r_il6 dX8_swap_94 ?_
  refine r_cVI2 B cb_X8_weightOf lk_X8_120 cv_X8_weightOf kd_115 (c_X8_weightOf (xl x) E hv2 hs0 mμ52 h) rfl rfl dX8_swap_96 (fun r55 μ54 hr55 mμ54 h => ?_)
  refine r_cVV3 B cb_X8_adds lk_X8_140 cv_X8_adds kd_115 (c_X8_adds (xl x) E (inR_k rfl) hr53 hr55 mμ54 h) rfl rfl dX8_swap_99 (fun μ56 mμ56 h => ?_)
  refine r_inc5 dX8_swap_102 rfl ?_
  obtain ⟨o57, h⟩ := h
  refine r_goto 46 dX8_swap_105 rfl ?_
  exact J_weak (hX46 v1 v2 v3 v4 (v5 + 1) μ56 h hv1 hv2 hv3 hv4 o57 mμ56) (⟨rfl, ⟨rfl, ⟨rfl, ⟨rfl, ⟨rfl, ⟨rfl, trivial⟩⟩⟩⟩⟩⟩)
set_option maxRecDepth 20000 in
theorem t_X8_swap_46 {x : Cx} {E : Gx} (B : Bd x E 5 8 "SlipCoversModel") (hr : (xt x).sig.returnType = (some .boolean)) {Q : Int → Mem → Prop} {v1 : Int} {v2 : Int} {v3 : Int} {v4 : Int} {v5 : Int} {μ : Mem} (hv1 : inR v1) (hv2 : inR v2) (hv3 : inR v3) (hv4 : inR v4) (hv5 : inR v5) (hμ : okM μ) (h : LP6 (wp_X8_swap_46 Q) v1 v2 v3 v4 v5 μ) : J cX8_swap x E z0 μ 46 [some (rv E 115), some (iv v1), some (iv v2), some (iv v3), some (iv v4), some (iv v5), none, none] [] (MQ (xb x) (QI E z0 Q) (xa x) (xs x) 0 0 (gA E)) := by
  refine LP6_ind (T := fun (v1 : Int) (v2 : Int) (v3 : Int) (v4 : Int) (v5 : Int) (μ : Mem) => inR v1 → inR v2 → inR v3 → inR v4 → inR v5 → okM μ → J cX8_swap x E z0 μ 46 [some (rv E 115), some (iv v1), some (iv v2), some (iv v3), some (iv v4), some (iv v5), none, none] [] (MQ (xb x) (QI E z0 Q) (xa x) (xs x) 0 0 (gA E))) (fun X46 hX46 v1 v2 v3 v4 v5 μ h hv1 hv2 hv3 hv4 hv5 hμ => ?_) h hv1 hv2 hv3 hv4 hv5 hμ
  unfold wp_X8_swap_46 at h
  refine r_il5 dX8_swap_46 ?_
  refine r_al0 dX8_swap_48 ?_
  refine r_il2 dX8_swap_49 ?_
  refine r_cVI1 B cb_X8_places lk_X8_105 cv_X8_places kd_115 (c_X8_places (xl x) E hv2 hμ h) rfl rfl dX8_swap_50 (fun r19 μ18 hr19 mμ18 h => ?_)
  refine r_icmp_ge 108 dX8_swap_53 rfl hv5 hr19 (fun c20 => ?_) (fun c20 => ?_)
  · have h := h.1 c20
    refine r_iconst dX8_swap_108 ?_
    refine r_is5 dX8_swap_109 rfl ?_
    exact J_weak (t_X8_swap_111 B hr hv1 hv2 hv3 hv4 (inR_k rfl) mμ18 h) (⟨rfl, ⟨rfl, ⟨rfl, ⟨rfl, ⟨rfl, ⟨rfl, trivial⟩⟩⟩⟩⟩⟩)
  · have h := h.2 c20
    refine r_il5 dX8_swap_56 ?_
    refine r_il3 dX8_swap_58 ?_
    refine r_icmp_ne 67 dX8_swap_59 rfl hv5 hv3 (fun c50 => ?_) (fun c50 => ?_)
    · have h := h.1 c50
      refine r_il5 dX8_swap_67 ?_
      refine r_il4 dX8_swap_69 ?_
      refine r_icmp_ne 78 dX8_swap_71 rfl hv5 hv4 (fun c51 => ?_) (fun c51 => ?_)
      · have h := h.1 c51
        refine r_il5 dX8_swap_78 ?_
        exact J_weak (t_X8_swap_80 B hr hX46 hv1 hv2 hv3 hv4 hv5 hv5 mμ18 h) (⟨rfl, ⟨rfl, ⟨rfl, ⟨rfl, ⟨rfl, ⟨rfl, trivial⟩⟩⟩⟩⟩⟩)
      · have h := h.2 c51
        refine r_il3 dX8_swap_74 ?_
        refine r_goto 80 dX8_swap_75 rfl ?_
        exact J_weak (t_X8_swap_80 B hr hX46 hv1 hv2 hv3 hv4 hv5 hv3 mμ18 h) (⟨rfl, ⟨rfl, ⟨rfl, ⟨rfl, ⟨rfl, ⟨rfl, trivial⟩⟩⟩⟩⟩⟩)
    · have h := h.2 c50
      refine r_il4 dX8_swap_62 ?_
      refine r_goto 80 dX8_swap_64 rfl ?_
      exact J_weak (t_X8_swap_80 B hr hX46 hv1 hv2 hv3 hv4 hv5 hv4 mμ18 h) (⟨rfl, ⟨rfl, ⟨rfl, ⟨rfl, ⟨rfl, ⟨rfl, trivial⟩⟩⟩⟩⟩⟩)
set_option maxRecDepth 20000 in
theorem c_X8_swap (l : Launch) (E : Gx) {p0 : Int} {p1 : Int} {p2 : Int} {p3 : Int} {μ : Mem} {Q : Int → Mem → Prop} (hp0 : inR p0) (hp1 : inR p1) (hp2 : inR p2) (hp3 : inR p3) (hμ : okM μ) (h : wp_X8_swap p0 p1 p2 p3 μ Q) : MT l yX8_swap cX8_swap 8 (some .boolean) E 5 0 0 z0 [rv E 115, iv p0, iv p1, iv p2, iv p3] μ (QI E z0 Q) := by
  refine m_start [some (rv E 115), some (iv p0), some (iv p1), some (iv p2), some (iv p3), none, none, none] (by decide) rfl rfl rfl (fun x hxl hxc hxs B hr hnm => ?_)
  unfold wp_X8_swap at h
  refine r_al0 dX8_swap_0 ?_
  refine r_iconst dX8_swap_1 ?_
  refine r_putI B fg_X8_42 fp_8_0 kd_115 (kl kd_115) dX8_swap_2 ?_
  refine n_mem (fun μ1 eμ1 => ?_)
  have h := h μ1 eμ1
  have mμ1 : okM μ1 := eqM eμ1 (okM_sI hμ (inR_k rfl))
  refine r_il1 dX8_swap_5 ?_
  refine r_cSI1 B cb_X8_isTo lk_X8_279 cs_X8_isTo (c_X8_isTo (xl x) E hp0 mμ1 h) rfl rfl dX8_swap_6 (fun r3 μ2 hr3 mμ2 h => ?_)
  refine r_if_eq 31 dX8_swap_9 rfl hr3 (fun c4 => ?_) (fun c4 => ?_)
  · have h := h.1 c4
    refine r_al0 dX8_swap_31 ?_
    refine r_iconst dX8_swap_32 ?_
    refine r_cVI1 B cb_X8_granted lk_X8_288 cv_X8_granted kd_115 (c_X8_granted (xl x) E (inR_k rfl) mμ2 h) rfl rfl dX8_swap_33 (fun r6 μ5 hr6 mμ5 h => ?_)
    obtain ⟨o7, h⟩ := h
    exact r_zret B hr o7 mμ5 dX8_swap_36 h
  · have h := h.2 c4
    refine r_al0 dX8_swap_12 ?_
    refine r_il2 dX8_swap_13 ?_
    refine r_il3 dX8_swap_14 ?_
    refine r_cVI2 B cb_X8_isPlace lk_X8_214 cv_X8_isPlace kd_115 (c_X8_isPlace (xl x) E hp1 hp2 mμ2 h) rfl rfl dX8_swap_15 (fun r9 μ8 hr9 mμ8 h => ?_)
    refine r_if_eq 31 dX8_swap_18 rfl hr9 (fun c10 => ?_) (fun c10 => ?_)
    · have h := h.1 c10
      refine r_al0 dX8_swap_31 ?_
      refine r_iconst dX8_swap_32 ?_
      refine r_cVI1 B cb_X8_granted lk_X8_288 cv_X8_granted kd_115 (c_X8_granted (xl x) E (inR_k rfl) mμ8 h) rfl rfl dX8_swap_33 (fun r12 μ11 hr12 mμ11 h => ?_)
      obtain ⟨o13, h⟩ := h
      exact r_zret B hr o13 mμ11 dX8_swap_36 h
    · have h := h.2 c10
      refine r_al0 dX8_swap_21 ?_
      refine r_il2 dX8_swap_22 ?_
      refine r_il4 dX8_swap_23 ?_
      refine r_cVI2 B cb_X8_isPlace lk_X8_214 cv_X8_isPlace kd_115 (c_X8_isPlace (xl x) E hp1 hp3 mμ8 h) rfl rfl dX8_swap_25 (fun r15 μ14 hr15 mμ14 h => ?_)
      refine r_if_ne 37 dX8_swap_28 rfl hr15 (fun c16 => ?_) (fun c16 => ?_)
      · have h := h.1 c16
        refine r_al0 dX8_swap_37 ?_
        refine r_bipush dX8_swap_38 (by decide) ?_
        refine r_cVV1 B cb_X8_clears lk_X8_158 cv_X8_clears kd_115 (c_X8_clears (xl x) E (inR_k rfl) mμ14 h) rfl rfl dX8_swap_40 (fun μ17 mμ17 h => ?_)
        refine r_iconst dX8_swap_43 ?_
        refine r_is5 dX8_swap_44 rfl ?_
        exact J_weak (t_X8_swap_46 B hr hp0 hp1 hp2 hp3 (inR_k rfl) mμ17 h) (⟨rfl, ⟨rfl, ⟨rfl, ⟨rfl, ⟨rfl, ⟨rfl, trivial⟩⟩⟩⟩⟩⟩)
      · have h := h.2 c16
        refine r_al0 dX8_swap_31 ?_
        refine r_iconst dX8_swap_32 ?_
        refine r_cVI1 B cb_X8_granted lk_X8_288 cv_X8_granted kd_115 (c_X8_granted (xl x) E (inR_k rfl) mμ14 h) rfl rfl dX8_swap_33 (fun r59 μ58 hr59 mμ58 h => ?_)
        obtain ⟨o60, h⟩ := h
        exact r_zret B hr o60 mμ58 dX8_swap_36 h
set_option maxRecDepth 20000 in
theorem t_X8_shift_139 {x : Cx} {E : Gx} (B : Bd x E 5 9 "SlipCoversModel") (hr : (xt x).sig.returnType = (some .boolean)) {Q : Int → Mem → Prop} {X60 : Int → Int → Int → Int → Int → Int → Mem → Prop} (hX60 : ∀ (v1 : Int) (v2 : Int) (v3 : Int) (v4 : Int) (v5 : Int) (v6 : Int) (μ : Mem), X60 v1 v2 v3 v4 v5 v6 μ → inR v1 → inR v2 → inR v3 → inR v4 → inR v5 → inR v6 → okM μ → J cX8_shift x E z0 μ 60 [some (rv E 115), some (iv v1), some (iv v2), some (iv v3), some (iv v4), some (iv v5), some (iv v6), none, none] [] (MQ (xb x) (QI E z0 Q) (xa x) (xs x) 0 0 (gA E))) {X81 : Int → Int → Int → Int → Int → Int → Int → Int → Mem → Prop} (hX81 : ∀ (v1 : Int) (v2 : Int) (v3 : Int) (v4 : Int) (v5 : Int) (v6 : Int) (v7 : Int) (v8 : Int) (μ : Mem), X81 v1 v2 v3 v4 v5 v6 v7 v8 μ → inR v1 → inR v2 → inR v3 → inR v4 → inR v5 → inR v6 → inR v7 → inR v8 → okM μ → J cX8_shift x E z0 μ 81 [some (rv E 115), some (iv v1), some (iv v2), some (iv v3), some (iv v4), some (iv v5), some (iv v6), some (iv v7), some (iv v8)] [] (MQ (xb x) (QI E z0 Q) (xa x) (xs x) 0 0 (gA E))) {v1 : Int} {v2 : Int} {v3 : Int} {v4 : Int} {v5 : Int} {v6 : Int} {v8 : Int} {s0 : Int} {s1 : Int} {μ : Mem} (hv1 : inR v1) (hv2 : inR v2) (hv3 : inR v3) (hv4 : inR v4) (hv5 : inR v5) (hv6 : inR v6) (hv8 : inR v8) (hs0 : inR s0) (hs1 : inR s1) (hμ : okM μ) (h : wp_X8_shift_139 Q X60 X81 v1 v2 v3 v4 v5 v6 v8 s0 s1 μ) : J cX8_shift x E z0 μ 139 [some (rv E 115), some (iv v1), some (iv v2), some (iv v3), some (iv v4), some (iv v5), some (iv v6), none, some (iv v8)] [iv s1, iv s0] (MQ (xb x) (QI E z0 Q) (xa x) (xs x) 0 0 (gA E)) := by
  unfold wp_X8_shift_139 at h
  refine r_iadd dX8_shift_139 ?_
  obtain ⟨o47, h⟩ := h
  refine n_topi (fun x46 ex46 => ?_)
  have h := h x46 ex46
  refine r_is7 dX8_shift_140 rfl ?_
  refine r_inc8 dX8_shift_142 rfl ?_
  obtain ⟨o48, h⟩ := h
  refine r_goto 81 dX8_shift_145 rfl ?_
  exact J_weak (hX81 v1 v2 v3 v4 v5 v6 x46 (v8 + 1) μ h hv1 hv2 hv3 hv4 hv5 hv6 (eqR ex46 o47) o48 hμ) (⟨rfl, ⟨rfl, ⟨rfl, ⟨rfl, ⟨rfl, ⟨rfl, ⟨rfl, ⟨rfl, ⟨rfl, trivial⟩⟩⟩⟩⟩⟩⟩⟩⟩)
set_option maxRecDepth 20000 in
theorem t_X8_shift_81 {x : Cx} {E : Gx} (B : Bd x E 5 9 "SlipCoversModel") (hr : (xt x).sig.returnType = (some .boolean)) {Q : Int → Mem → Prop} {X60 : Int → Int → Int → Int → Int → Int → Mem → Prop} (hX60 : ∀ (v1 : Int) (v2 : Int) (v3 : Int) (v4 : Int) (v5 : Int) (v6 : Int) (μ : Mem), X60 v1 v2 v3 v4 v5 v6 μ → inR v1 → inR v2 → inR v3 → inR v4 → inR v5 → inR v6 → okM μ → J cX8_shift x E z0 μ 60 [some (rv E 115), some (iv v1), some (iv v2), some (iv v3), some (iv v4), some (iv v5), some (iv v6), none, none] [] (MQ (xb x) (QI E z0 Q) (xa x) (xs x) 0 0 (gA E))) {v1 : Int} {v2 : Int} {v3 : Int} {v4 : Int} {v5 : Int} {v6 : Int} {v7 : Int} {v8 : Int} {μ : Mem} (hv1 : inR v1) (hv2 : inR v2) (hv3 : inR v3) (hv4 : inR v4) (hv5 : inR v5) (hv6 : inR v6) (hv7 : inR v7) (hv8 : inR v8) (hμ : okM μ) (h : LP9 (wp_X8_shift_81 Q X60) v1 v2 v3 v4 v5 v6 v7 v8 μ) : J cX8_shift x E z0 μ 81 [some (rv E 115), some (iv v1), some (iv v2), some (iv v3), some (iv v4), some (iv v5), some (iv v6), some (iv v7), some (iv v8)] [] (MQ (xb x) (QI E z0 Q) (xa x) (xs x) 0 0 (gA E)) := by
  refine LP9_ind (T := fun (v1 : Int) (v2 : Int) (v3 : Int) (v4 : Int) (v5 : Int) (v6 : Int) (v7 : Int) (v8 : Int) (μ : Mem) => inR v1 → inR v2 → inR v3 → inR v4 → inR v5 → inR v6 → inR v7 → inR v8 → okM μ → J cX8_shift x E z0 μ 81 [some (rv E 115), some (iv v1), some (iv v2), some (iv v3), some (iv v4), some (iv v5), some (iv v6), some (iv v7), some (iv v8)] [] (MQ (xb x) (QI E z0 Q) (xa x) (xs x) 0 0 (gA E))) (fun X81 hX81 v1 v2 v3 v4 v5 v6 v7 v8 μ h hv1 hv2 hv3 hv4 hv5 hv6 hv7 hv8 hμ => ?_) h hv1 hv2 hv3 hv4 hv5 hv6 hv7 hv8 hμ
  unfold wp_X8_shift_81 at h
  refine r_il8 dX8_shift_81 ?_
  refine r_al0 dX8_shift_83 ?_
  refine r_il2 dX8_shift_84 ?_
  refine r_cVI1 B cb_X8_places lk_X8_105 cv_X8_places kd_115 (c_X8_places (xl x) E hv2 hμ h) rfl rfl dX8_shift_85 (fun r32 μ31 hr32 mμ31 h => ?_)
  refine r_icmp_ge 148 dX8_shift_88 rfl hv8 hr32 (fun c33 => ?_) (fun c33 => ?_)
  · have h := h.1 c33
    refine r_al0 dX8_shift_148 ?_
    refine r_il2 dX8_shift_149 ?_
    refine r_il6 dX8_shift_150 ?_
    refine r_cVI2 B cb_X8_isIn lk_X8_116 cv_X8_isIn kd_115 (c_X8_isIn (xl x) E hv2 hv6 mμ31 h) rfl rfl dX8_shift_152 (fun r35 μ34 hr35 mμ34 h => ?_)
    refine r_if_eq 167 dX8_shift_155 rfl hr35 (fun c36 => ?_) (fun c36 => ?_)
    · have h := h.1 c36
      refine r_inc6 dX8_shift_167 rfl ?_
      obtain ⟨o37, h⟩ := h
      refine r_goto 60 dX8_shift_170 rfl ?_
      exact J_weak (hX60 v1 v2 v3 v4 v5 (v6 + 1) μ34 h hv1 hv2 hv3 hv4 hv5 o37 mμ34) (⟨rfl, ⟨rfl, ⟨rfl, ⟨rfl, ⟨rfl, ⟨rfl, ⟨rfl, trivial⟩⟩⟩⟩⟩⟩⟩)
    · have h := h.2 c36
      refine r_al0 dX8_shift_158 ?_
      refine r_bipush dX8_shift_159 (by decide) ?_
      refine r_il7 dX8_shift_161 ?_
      refine r_iconst dX8_shift_163 ?_
      refine r_cVV3 B cb_X8_marks lk_X8_147 cv_X8_marks kd_115 (c_X8_marks (xl x) E (inR_k rfl) hv7 (inR_k rfl) mμ34 h) rfl rfl dX8_shift_164 (fun μ38 mμ38 h => ?_)
      refine r_inc6 dX8_shift_167 rfl ?_
      obtain ⟨o39, h⟩ := h
      refine r_goto 60 dX8_shift_170 rfl ?_
      exact J_weak (hX60 v1 v2 v3 v4 v5 (v6 + 1) μ38 h hv1 hv2 hv3 hv4 hv5 o39 mμ38) (⟨rfl, ⟨rfl, ⟨rfl, ⟨rfl, ⟨rfl, ⟨rfl, ⟨rfl, trivial⟩⟩⟩⟩⟩⟩⟩)
  · have h := h.2 c33
    refine r_il7 dX8_shift_91 ?_
    refine r_al0 dX8_shift_93 ?_
    refine r_il2 dX8_shift_94 ?_
    refine r_il8 dX8_shift_95 ?_
    refine r_cVI2 B cb_X8_sizeOf lk_X8_109 cv_X8_sizeOf kd_115 (c_X8_sizeOf (xl x) E hv2 hv8 mμ31 h) rfl rfl dX8_shift_97 (fun r41 μ40 hr41 mμ40 h => ?_)
    refine r_imul dX8_shift_100 ?_
    refine r_il8 dX8_shift_101 ?_
    refine r_il3 dX8_shift_103 ?_
    refine r_icmp_ne 130 dX8_shift_104 rfl hv8 hv3 (fun c42 => ?_) (fun c42 => ?_)
    · have h := h.1 c42
      refine r_al0 dX8_shift_130 ?_
      refine r_il2 dX8_shift_131 ?_
      refine r_il6 dX8_shift_132 ?_
      refine r_il8 dX8_shift_134 ?_
      refine r_cVI3 B cb_X8_digitOf lk_X8_220 cv_X8_digitOf kd_115 (c_X8_digitOf (xl x) E hv2 hv6 hv8 mμ40 h) rfl rfl dX8_shift_136 (fun r44 μ43 hr44 mμ43 h => ?_)
      obtain ⟨o45, h⟩ := h
      exact J_weak (t_X8_shift_139 B hr hX60 hX81 hv1 hv2 hv3 hv4 hv5 hv6 hv8 o45 hr44 mμ43 h) (⟨rfl, ⟨rfl, ⟨rfl, ⟨rfl, ⟨rfl, ⟨rfl, ⟨rfl, ⟨rfl, trivial⟩⟩⟩⟩⟩⟩⟩⟩)
    · have h := h.2 c42
      refine r_al0 dX8_shift_107 ?_
      refine r_il2 dX8_shift_108 ?_
      refine r_il6 dX8_shift_109 ?_
      refine r_il8 dX8_shift_111 ?_
      refine r_cVI3 B cb_X8_digitOf lk_X8_220 cv_X8_digitOf kd_115 (c_X8_digitOf (xl x) E hv2 hv6 hv8 mμ40 h) rfl rfl dX8_shift_113 (fun r50 μ49 hr50 mμ49 h => ?_)
      refine r_il4 dX8_shift_116 ?_
      refine r_iadd dX8_shift_118 ?_
      refine r_al0 dX8_shift_119 ?_
      refine r_il2 dX8_shift_120 ?_
      refine r_il8 dX8_shift_121 ?_
      refine r_cVI2 B cb_X8_sizeOf lk_X8_109 cv_X8_sizeOf kd_115 (c_X8_sizeOf (xl x) E hv2 hv8 mμ49 h) rfl rfl dX8_shift_123 (fun r52 μ51 hr52 mμ51 h => ?_)
      obtain ⟨o53, h⟩ := h
      obtain ⟨o54, h⟩ := h
      refine r_irem dX8_shift_126 o54 o53 hr52 ?_
      refine r_goto 139 dX8_shift_127 rfl ?_
      obtain ⟨o55, h⟩ := h
      exact J_weak (t_X8_shift_139 B hr hX60 hX81 hv1 hv2 hv3 hv4 hv5 hv6 hv8 o55 (inR_irem o54 o53 hr52) mμ51 h) (⟨rfl, ⟨rfl, ⟨rfl, ⟨rfl, ⟨rfl, ⟨rfl, ⟨rfl, ⟨rfl, trivial⟩⟩⟩⟩⟩⟩⟩⟩)
set_option maxRecDepth 20000 in
theorem t_X8_shift_60 {x : Cx} {E : Gx} (B : Bd x E 5 9 "SlipCoversModel") (hr : (xt x).sig.returnType = (some .boolean)) {Q : Int → Mem → Prop} {v1 : Int} {v2 : Int} {v3 : Int} {v4 : Int} {v5 : Int} {v6 : Int} {μ : Mem} (hv1 : inR v1) (hv2 : inR v2) (hv3 : inR v3) (hv4 : inR v4) (hv5 : inR v5) (hv6 : inR v6) (hμ : okM μ) (h : LP7 (wp_X8_shift_60 Q) v1 v2 v3 v4 v5 v6 μ) : J cX8_shift x E z0 μ 60 [some (rv E 115), some (iv v1), some (iv v2), some (iv v3), some (iv v4), some (iv v5), some (iv v6), none, none] [] (MQ (xb x) (QI E z0 Q) (xa x) (xs x) 0 0 (gA E)) := by
  refine LP7_ind (T := fun (v1 : Int) (v2 : Int) (v3 : Int) (v4 : Int) (v5 : Int) (v6 : Int) (μ : Mem) => inR v1 → inR v2 → inR v3 → inR v4 → inR v5 → inR v6 → okM μ → J cX8_shift x E z0 μ 60 [some (rv E 115), some (iv v1), some (iv v2), some (iv v3), some (iv v4), some (iv v5), some (iv v6), none, none] [] (MQ (xb x) (QI E z0 Q) (xa x) (xs x) 0 0 (gA E))) (fun X60 hX60 v1 v2 v3 v4 v5 v6 μ h hv1 hv2 hv3 hv4 hv5 hv6 hμ => ?_) h hv1 hv2 hv3 hv4 hv5 hv6 hμ
  unfold wp_X8_shift_60 at h
  refine r_il5 dX8_shift_60 ?_
  refine r_if_eq 173 dX8_shift_62 rfl hv5 (fun c17 => ?_) (fun c17 => ?_)
  · have h := h.1 c17
    refine r_al0 dX8_shift_173 ?_
    refine r_il1 dX8_shift_174 ?_
    refine r_cVI1 B cb_X8_becomes lk_X8_285 cv_X8_becomes kd_115 (c_X8_becomes (xl x) E hv1 hμ h) rfl rfl dX8_shift_175 (fun r19 μ18 hr19 mμ18 h => ?_)
    refine r_is6 dX8_shift_178 rfl ?_
    refine r_al0 dX8_shift_180 ?_
    refine r_iconst dX8_shift_181 ?_
    refine r_cVI1 B cb_X8_granted lk_X8_288 cv_X8_granted kd_115 (c_X8_granted (xl x) E (inR_k rfl) mμ18 h) rfl rfl dX8_shift_182 (fun r21 μ20 hr21 mμ20 h => ?_)
    obtain ⟨o22, h⟩ := h
    exact r_zret B hr o22 mμ20 dX8_shift_185 h
  · have h := h.2 c17
    refine r_il6 dX8_shift_65 ?_
    refine r_al0 dX8_shift_67 ?_
    refine r_il2 dX8_shift_68 ?_
    refine r_cVI1 B cb_X8_words lk_X8_113 cv_X8_words kd_115 (c_X8_words (xl x) E hv2 hμ h) rfl rfl dX8_shift_69 (fun r24 μ23 hr24 mμ23 h => ?_)
    refine r_icmp_ge 173 dX8_shift_72 rfl hv6 hr24 (fun c25 => ?_) (fun c25 => ?_)
    · have h := h.1 c25
      refine r_al0 dX8_shift_173 ?_
      refine r_il1 dX8_shift_174 ?_
      refine r_cVI1 B cb_X8_becomes lk_X8_285 cv_X8_becomes kd_115 (c_X8_becomes (xl x) E hv1 mμ23 h) rfl rfl dX8_shift_175 (fun r27 μ26 hr27 mμ26 h => ?_)
      refine r_is6 dX8_shift_178 rfl ?_
      refine r_al0 dX8_shift_180 ?_
      refine r_iconst dX8_shift_181 ?_
      refine r_cVI1 B cb_X8_granted lk_X8_288 cv_X8_granted kd_115 (c_X8_granted (xl x) E (inR_k rfl) mμ26 h) rfl rfl dX8_shift_182 (fun r29 μ28 hr29 mμ28 h => ?_)
      obtain ⟨o30, h⟩ := h
      exact r_zret B hr o30 mμ28 dX8_shift_185 h
    · have h := h.2 c25
      refine r_iconst dX8_shift_75 ?_
      refine r_is7 dX8_shift_76 rfl ?_
      refine r_iconst dX8_shift_78 ?_
      refine r_is8 dX8_shift_79 rfl ?_
      exact J_weak (t_X8_shift_81 B hr hX60 hv1 hv2 hv3 hv4 hv5 hv6 (inR_k rfl) (inR_k rfl) mμ23 h) (⟨rfl, ⟨rfl, ⟨rfl, ⟨rfl, ⟨rfl, ⟨rfl, ⟨rfl, ⟨rfl, ⟨rfl, trivial⟩⟩⟩⟩⟩⟩⟩⟩⟩)
set_option maxRecDepth 20000 in
theorem c_X8_shift (l : Launch) (E : Gx) {p0 : Int} {p1 : Int} {p2 : Int} {p3 : Int} {μ : Mem} {Q : Int → Mem → Prop} (hp0 : inR p0) (hp1 : inR p1) (hp2 : inR p2) (hp3 : inR p3) (hμ : okM μ) (h : wp_X8_shift p0 p1 p2 p3 μ Q) : MT l yX8_shift cX8_shift 9 (some .boolean) E 5 0 0 z0 [rv E 115, iv p0, iv p1, iv p2, iv p3] μ (QI E z0 Q) := by
  refine m_start [some (rv E 115), some (iv p0), some (iv p1), some (iv p2), some (iv p3), none, none, none, none] (by decide) rfl rfl rfl (fun x hxl hxc hxs B hr hnm => ?_)
  unfold wp_X8_shift at h
  refine r_al0 dX8_shift_0 ?_
  refine r_iconst dX8_shift_1 ?_
  refine r_putI B fg_X8_42 fp_8_0 kd_115 (kl kd_115) dX8_shift_2 ?_
  refine n_mem (fun μ1 eμ1 => ?_)
  have h := h μ1 eμ1
  have mμ1 : okM μ1 := eqM eμ1 (okM_sI hμ (inR_k rfl))
  refine r_il1 dX8_shift_5 ?_
  refine r_cSI1 B cb_X8_isTo lk_X8_279 cs_X8_isTo (c_X8_isTo (xl x) E hp0 mμ1 h) rfl rfl dX8_shift_6 (fun r3 μ2 hr3 mμ2 h => ?_)
  refine r_if_eq 21 dX8_shift_9 rfl hr3 (fun c4 => ?_) (fun c4 => ?_)
  · have h := h.1 c4
    refine r_al0 dX8_shift_21 ?_
    refine r_iconst dX8_shift_22 ?_
    refine r_cVI1 B cb_X8_granted lk_X8_288 cv_X8_granted kd_115 (c_X8_granted (xl x) E (inR_k rfl) mμ2 h) rfl rfl dX8_shift_23 (fun r6 μ5 hr6 mμ5 h => ?_)
    obtain ⟨o7, h⟩ := h
    exact r_zret B hr o7 mμ5 dX8_shift_26 h
  · have h := h.2 c4
    refine r_al0 dX8_shift_12 ?_
    refine r_il2 dX8_shift_13 ?_
    refine r_il3 dX8_shift_14 ?_
    refine r_cVI2 B cb_X8_isPlace lk_X8_214 cv_X8_isPlace kd_115 (c_X8_isPlace (xl x) E hp1 hp2 mμ2 h) rfl rfl dX8_shift_15 (fun r9 μ8 hr9 mμ8 h => ?_)
    refine r_if_ne 27 dX8_shift_18 rfl hr9 (fun c10 => ?_) (fun c10 => ?_)
    · have h := h.1 c10
      refine r_il4 dX8_shift_27 ?_
      refine r_iconst dX8_shift_29 ?_
      refine r_iconst dX8_shift_30 ?_
      refine r_cSI3 B cb_X8_in lk_X8_63 cs_X8_in (c_X8_in (xl x) E hp3 (inR_k rfl) (inR_k rfl) mμ8 h) rfl rfl dX8_shift_31 (fun r12 μ11 hr12 mμ11 h => ?_)
      refine r_if_ne 43 dX8_shift_34 rfl hr12 (fun c13 => ?_) (fun c13 => ?_)
      · have h := h.1 c13
        refine r_al0 dX8_shift_43 ?_
        refine r_bipush dX8_shift_44 (by decide) ?_
        refine r_cVV1 B cb_X8_clears lk_X8_158 cv_X8_clears kd_115 (c_X8_clears (xl x) E (inR_k rfl) mμ11 h) rfl rfl dX8_shift_46 (fun μ14 mμ14 h => ?_)
        refine r_al0 dX8_shift_49 ?_
        refine r_il2 dX8_shift_50 ?_
        refine r_iconst dX8_shift_51 ?_
        refine r_cVI2 B cb_X8_laysPlaces lk_X8_282 cv_X8_laysPlaces kd_115 (c_X8_laysPlaces (xl x) E hp1 (inR_k rfl) mμ14 h) rfl rfl dX8_shift_52 (fun r16 μ15 hr16 mμ15 h => ?_)
        refine r_is5 dX8_shift_55 rfl ?_
        refine r_iconst dX8_shift_57 ?_
        refine r_is6 dX8_shift_58 rfl ?_
        exact J_weak (t_X8_shift_60 B hr hp0 hp1 hp2 hp3 hr16 (inR_k rfl) mμ15 h) (⟨rfl, ⟨rfl, ⟨rfl, ⟨rfl, ⟨rfl, ⟨rfl, ⟨rfl, trivial⟩⟩⟩⟩⟩⟩⟩)
      · have h := h.2 c13
        refine r_al0 dX8_shift_37 ?_
        refine r_iconst dX8_shift_38 ?_
        refine r_cVI1 B cb_X8_granted lk_X8_288 cv_X8_granted kd_115 (c_X8_granted (xl x) E (inR_k rfl) mμ11 h) rfl rfl dX8_shift_39 (fun r57 μ56 hr57 mμ56 h => ?_)
        obtain ⟨o58, h⟩ := h
        exact r_zret B hr o58 mμ56 dX8_shift_42 h
    · have h := h.2 c10
      refine r_al0 dX8_shift_21 ?_
      refine r_iconst dX8_shift_22 ?_
      refine r_cVI1 B cb_X8_granted lk_X8_288 cv_X8_granted kd_115 (c_X8_granted (xl x) E (inR_k rfl) mμ8 h) rfl rfl dX8_shift_23 (fun r60 μ59 hr60 mμ59 h => ?_)
      obtain ⟨o61, h⟩ := h
      exact r_zret B hr o61 mμ59 dX8_shift_26 h
set_option maxRecDepth 20000 in
theorem t_X8_areOfOne_74 {x : Cx} {E : Gx} (B : Bd x E 2 5 "SlipCoversModel") (hr : (xt x).sig.returnType = (some .boolean)) {Q : Int → Mem → Prop} {X22 : Int → Int → Int → Int → Mem → Prop} (hX22 : ∀ (v1 : Int) (v2 : Int) (v3 : Int) (v4 : Int) (μ : Mem), X22 v1 v2 v3 v4 μ → inR v1 → inR v2 → inR v3 → inR v4 → okM μ → J cX8_areOfOne x E z0 μ 22 [some (rv E 115), some (iv v1), some (iv v2), some (iv v3), some (iv v4)] [] (MQ (xb x) (QI E z0 Q) (xa x) (xs x) 0 0 (gA E))) {v1 : Int} {v2 : Int} {v4 : Int} {μ : Mem} (hv1 : inR v1) (hv2 : inR v2) (hv4 : inR v4) (hμ : okM μ) (h : wp_X8_areOfOne_74 Q X22 v1 v2 v4 μ) : J cX8_areOfOne x E z0 μ 74 [some (rv E 115), some (iv v1), some (iv v2), none, some (iv v4)] [] (MQ (xb x) (QI E z0 Q) (xa x) (xs x) 0 0 (gA E)) := by
  unfold wp_X8_areOfOne_74 at h
  refine r_iconst dX8_areOfOne_74 ?_
  refine r_is3 dX8_areOfOne_75 rfl ?_
  refine r_inc4 dX8_areOfOne_76 rfl ?_
  obtain ⟨o17, h⟩ := h
  refine r_goto 22 dX8_areOfOne_79 rfl ?_
  exact J_weak (hX22 v1 v2 0 (v4 + 1) μ h hv1 hv2 (inR_k rfl) o17 hμ) (⟨rfl, ⟨rfl, ⟨rfl, ⟨rfl, ⟨rfl, trivial⟩⟩⟩⟩⟩)
set_option maxRecDepth 20000 in
theorem t_X8_areOfOne_22 {x : Cx} {E : Gx} (B : Bd x E 2 5 "SlipCoversModel") (hr : (xt x).sig.returnType = (some .boolean)) {Q : Int → Mem → Prop} {v1 : Int} {v2 : Int} {v3 : Int} {v4 : Int} {μ : Mem} (hv1 : inR v1) (hv2 : inR v2) (hv3 : inR v3) (hv4 : inR v4) (hμ : okM μ) (h : LP5 (wp_X8_areOfOne_22 Q) v1 v2 v3 v4 μ) : J cX8_areOfOne x E z0 μ 22 [some (rv E 115), some (iv v1), some (iv v2), some (iv v3), some (iv v4)] [] (MQ (xb x) (QI E z0 Q) (xa x) (xs x) 0 0 (gA E)) := by
  refine LP5_ind (T := fun (v1 : Int) (v2 : Int) (v3 : Int) (v4 : Int) (μ : Mem) => inR v1 → inR v2 → inR v3 → inR v4 → okM μ → J cX8_areOfOne x E z0 μ 22 [some (rv E 115), some (iv v1), some (iv v2), some (iv v3), some (iv v4)] [] (MQ (xb x) (QI E z0 Q) (xa x) (xs x) 0 0 (gA E))) (fun X22 hX22 v1 v2 v3 v4 μ h hv1 hv2 hv3 hv4 hμ => ?_) h hv1 hv2 hv3 hv4 hμ
  unfold wp_X8_areOfOne_22 at h
  refine r_il3 dX8_areOfOne_22 ?_
  refine r_if_eq 82 dX8_areOfOne_23 rfl hv3 (fun c6 => ?_) (fun c6 => ?_)
  · have h := h.1 c6
    refine r_il3 dX8_areOfOne_82 ?_
    obtain ⟨o7, h⟩ := h
    exact r_zret B hr o7 hμ dX8_areOfOne_83 h
  · have h := h.2 c6
    refine r_il4 dX8_areOfOne_26 ?_
    refine r_al0 dX8_areOfOne_28 ?_
    refine r_il1 dX8_areOfOne_29 ?_
    refine r_cVI1 B cb_X8_places lk_X8_105 cv_X8_places kd_115 (c_X8_places (xl x) E hv1 hμ h) rfl rfl dX8_areOfOne_30 (fun r9 μ8 hr9 mμ8 h => ?_)
    refine r_icmp_ge 82 dX8_areOfOne_33 rfl hv4 hr9 (fun c10 => ?_) (fun c10 => ?_)
    · have h := h.1 c10
      refine r_il3 dX8_areOfOne_82 ?_
      obtain ⟨o11, h⟩ := h
      exact r_zret B hr o11 mμ8 dX8_areOfOne_83 h
    · have h := h.2 c10
      refine r_al0 dX8_areOfOne_36 ?_
      refine r_il1 dX8_areOfOne_37 ?_
      refine r_il4 dX8_areOfOne_38 ?_
      refine r_cVI2 B cb_X8_sizeOf lk_X8_109 cv_X8_sizeOf kd_115 (c_X8_sizeOf (xl x) E hv1 hv4 mμ8 h) rfl rfl dX8_areOfOne_40 (fun r13 μ12 hr13 mμ12 h => ?_)
      refine r_al0 dX8_areOfOne_43 ?_
      refine r_il2 dX8_areOfOne_44 ?_
      refine r_il4 dX8_areOfOne_45 ?_
      refine r_cVI2 B cb_X8_sizeOf lk_X8_109 cv_X8_sizeOf kd_115 (c_X8_sizeOf (xl x) E hv2 hv4 mμ12 h) rfl rfl dX8_areOfOne_47 (fun r15 μ14 hr15 mμ14 h => ?_)
      refine r_icmp_ne 74 dX8_areOfOne_50 rfl hr13 hr15 (fun c16 => ?_) (fun c16 => ?_)
      · have h := h.1 c16
        exact J_weak (t_X8_areOfOne_74 B hr hX22 hv1 hv2 hv4 mμ14 h) (⟨rfl, ⟨rfl, ⟨rfl, ⟨rfl, trivial⟩⟩⟩⟩)
      · have h := h.2 c16
        refine r_al0 dX8_areOfOne_53 ?_
        refine r_il1 dX8_areOfOne_54 ?_
        refine r_il4 dX8_areOfOne_55 ?_
        refine r_cVI2 B cb_X8_weightOf lk_X8_120 cv_X8_weightOf kd_115 (c_X8_weightOf (xl x) E hv1 hv4 mμ14 h) rfl rfl dX8_areOfOne_57 (fun r19 μ18 hr19 mμ18 h => ?_)
        refine r_al0 dX8_areOfOne_60 ?_
        refine r_il2 dX8_areOfOne_61 ?_
        refine r_il4 dX8_areOfOne_62 ?_
        refine r_cVI2 B cb_X8_weightOf lk_X8_120 cv_X8_weightOf kd_115 (c_X8_weightOf (xl x) E hv2 hv4 mμ18 h) rfl rfl dX8_areOfOne_64 (fun r21 μ20 hr21 mμ20 h => ?_)
        refine r_icmp_ne 74 dX8_areOfOne_67 rfl hr19 hr21 (fun c22 => ?_) (fun c22 => ?_)
        · have h := h.1 c22
          exact J_weak (t_X8_areOfOne_74 B hr hX22 hv1 hv2 hv4 mμ20 h) (⟨rfl, ⟨rfl, ⟨rfl, ⟨rfl, trivial⟩⟩⟩⟩)
        · have h := h.2 c22
          refine r_iconst dX8_areOfOne_70 ?_
          refine r_goto 75 dX8_areOfOne_71 rfl ?_
          refine r_is3 dX8_areOfOne_75 rfl ?_
          refine r_inc4 dX8_areOfOne_76 rfl ?_
          obtain ⟨o23, h⟩ := h
          refine r_goto 22 dX8_areOfOne_79 rfl ?_
          exact J_weak (hX22 v1 v2 1 (v4 + 1) μ20 h hv1 hv2 (inR_k rfl) o23 mμ20) (⟨rfl, ⟨rfl, ⟨rfl, ⟨rfl, ⟨rfl, trivial⟩⟩⟩⟩⟩)
set_option maxRecDepth 20000 in
theorem c_X8_areOfOne (l : Launch) (E : Gx) {p0 : Int} {p1 : Int} {μ : Mem} {Q : Int → Mem → Prop} (hp0 : inR p0) (hp1 : inR p1) (hμ : okM μ) (h : wp_X8_areOfOne p0 p1 μ Q) : MT l yX8_areOfOne cX8_areOfOne 5 (some .boolean) E 2 0 0 z0 [rv E 115, iv p0, iv p1] μ (QI E z0 Q) := by
  refine m_start [some (rv E 115), some (iv p0), some (iv p1), none, none] (by decide) rfl rfl rfl (fun x hxl hxc hxs B hr hnm => ?_)
  unfold wp_X8_areOfOne at h
  refine r_al0 dX8_areOfOne_0 ?_
  refine r_il1 dX8_areOfOne_1 ?_
  refine r_cVI1 B cb_X8_places lk_X8_105 cv_X8_places kd_115 (c_X8_places (xl x) E hp0 hμ h) rfl rfl dX8_areOfOne_2 (fun r2 μ1 hr2 mμ1 h => ?_)
  refine r_al0 dX8_areOfOne_5 ?_
  refine r_il2 dX8_areOfOne_6 ?_
  refine r_cVI1 B cb_X8_places lk_X8_105 cv_X8_places kd_115 (c_X8_places (xl x) E hp1 mμ1 h) rfl rfl dX8_areOfOne_7 (fun r4 μ3 hr4 mμ3 h => ?_)
  refine r_icmp_ne 17 dX8_areOfOne_10 rfl hr2 hr4 (fun c5 => ?_) (fun c5 => ?_)
  · have h := h.1 c5
    refine r_iconst dX8_areOfOne_17 ?_
    refine r_is3 dX8_areOfOne_18 rfl ?_
    refine r_iconst dX8_areOfOne_19 ?_
    refine r_is4 dX8_areOfOne_20 rfl ?_
    exact J_weak (t_X8_areOfOne_22 B hr hp0 hp1 (inR_k rfl) (inR_k rfl) mμ3 h) (⟨rfl, ⟨rfl, ⟨rfl, ⟨rfl, ⟨rfl, trivial⟩⟩⟩⟩⟩)
  · have h := h.2 c5
    refine r_iconst dX8_areOfOne_13 ?_
    refine r_goto 18 dX8_areOfOne_14 rfl ?_
    refine r_is3 dX8_areOfOne_18 rfl ?_
    refine r_iconst dX8_areOfOne_19 ?_
    refine r_is4 dX8_areOfOne_20 rfl ?_
    exact J_weak (t_X8_areOfOne_22 B hr hp0 hp1 (inR_k rfl) (inR_k rfl) mμ3 h) (⟨rfl, ⟨rfl, ⟨rfl, ⟨rfl, ⟨rfl, trivial⟩⟩⟩⟩⟩)
set_option maxRecDepth 20000 in
theorem t_X8_mix_163 {x : Cx} {E : Gx} (B : Bd x E 5 8 "SlipCoversModel") (hr : (xt x).sig.returnType = (some .int)) {Q : Int → Mem → Prop} {X69 : Int → Int → Int → Int → Int → Mem → Prop} (hX69 : ∀ (v1 : Int) (v2 : Int) (v3 : Int) (v4 : Int) (v5 : Int) (μ : Mem), X69 v1 v2 v3 v4 v5 μ → inR v1 → inR v2 → inR v3 → inR v4 → inR v5 → okM μ → J cX8_mix x E z0 μ 69 [some (rv E 115), some (iv v1), some (iv v2), some (iv v3), some (iv v4), some (iv v5), none, none] [] (MQ (xb x) (QI E z0 Q) (xa x) (xs x) 0 0 (gA E))) {v1 : Int} {v2 : Int} {v3 : Int} {v4 : Int} {v5 : Int} {s1 : Int} {s2 : Int} {μ : Mem} (hv1 : inR v1) (hv2 : inR v2) (hv3 : inR v3) (hv4 : inR v4) (hv5 : inR v5) (hs1 : inR s1) (hs2 : inR s2) (hμ : okM μ) (h : wp_X8_mix_163 Q X69 v1 v2 v3 v4 v5 s1 s2 μ) : J cX8_mix x E z0 μ 163 [some (rv E 115), some (iv v1), some (iv v2), some (iv v3), some (iv v4), some (iv v5), none, none] [iv s2, iv s1, rv E 115] (MQ (xb x) (QI E z0 Q) (xa x) (xs x) 0 0 (gA E)) := by
  unfold wp_X8_mix_163 at h
  refine r_iconst dX8_mix_163 ?_
  refine r_cVV3 B cb_X8_marks lk_X8_147 cv_X8_marks kd_115 (c_X8_marks (xl x) E hs1 hs2 (inR_k rfl) hμ h) rfl rfl dX8_mix_164 (fun μ36 mμ36 h => ?_)
  refine r_inc5 dX8_mix_167 rfl ?_
  obtain ⟨o37, h⟩ := h
  refine r_goto 69 dX8_mix_170 rfl ?_
  exact J_weak (hX69 v1 v2 v3 v4 (v5 + 1) μ36 h hv1 hv2 hv3 hv4 o37 mμ36) (⟨rfl, ⟨rfl, ⟨rfl, ⟨rfl, ⟨rfl, ⟨rfl, trivial⟩⟩⟩⟩⟩⟩)
set_option maxRecDepth 20000 in
theorem t_X8_mix_145 {x : Cx} {E : Gx} (B : Bd x E 5 8 "SlipCoversModel") (hr : (xt x).sig.returnType = (some .int)) {Q : Int → Mem → Prop} {X69 : Int → Int → Int → Int → Int → Mem → Prop} (hX69 : ∀ (v1 : Int) (v2 : Int) (v3 : Int) (v4 : Int) (v5 : Int) (μ : Mem), X69 v1 v2 v3 v4 v5 μ → inR v1 → inR v2 → inR v3 → inR v4 → inR v5 → okM μ → J cX8_mix x E z0 μ 69 [some (rv E 115), some (iv v1), some (iv v2), some (iv v3), some (iv v4), some (iv v5), none, none] [] (MQ (xb x) (QI E z0 Q) (xa x) (xs x) 0 0 (gA E))) {v1 : Int} {v2 : Int} {v3 : Int} {v4 : Int} {v5 : Int} {s1 : Int} {s2 : Int} {μ : Mem} (hv1 : inR v1) (hv2 : inR v2) (hv3 : inR v3) (hv4 : inR v4) (hv5 : inR v5) (hs1 : inR s1) (hs2 : inR s2) (hμ : okM μ) (h : wp_X8_mix_145 Q X69 v1 v2 v3 v4 v5 s1 s2 μ) : J cX8_mix x E z0 μ 145 [some (rv E 115), some (iv v1), some (iv v2), some (iv v3), some (iv v4), some (iv v5), none, none] [iv s2, iv s1, rv E 115] (MQ (xb x) (QI E z0 Q) (xa x) (xs x) 0 0 (gA E)) := by
  unfold wp_X8_mix_145 at h
  refine r_iconst dX8_mix_145 ?_
  refine r_goto 164 dX8_mix_146 rfl ?_
  refine r_cVV3 B cb_X8_marks lk_X8_147 cv_X8_marks kd_115 (c_X8_marks (xl x) E hs1 hs2 (inR_k rfl) hμ h) rfl rfl dX8_mix_164 (fun μ42 mμ42 h => ?_)
  refine r_inc5 dX8_mix_167 rfl ?_
  obtain ⟨o43, h⟩ := h
  refine r_goto 69 dX8_mix_170 rfl ?_
  exact J_weak (hX69 v1 v2 v3 v4 (v5 + 1) μ42 h hv1 hv2 hv3 hv4 o43 mμ42) (⟨rfl, ⟨rfl, ⟨rfl, ⟨rfl, ⟨rfl, ⟨rfl, trivial⟩⟩⟩⟩⟩⟩)
set_option maxRecDepth 20000 in
theorem t_X8_mix_117 {x : Cx} {E : Gx} (B : Bd x E 5 8 "SlipCoversModel") (hr : (xt x).sig.returnType = (some .int)) {Q : Int → Mem → Prop} {X69 : Int → Int → Int → Int → Int → Mem → Prop} (hX69 : ∀ (v1 : Int) (v2 : Int) (v3 : Int) (v4 : Int) (v5 : Int) (μ : Mem), X69 v1 v2 v3 v4 v5 μ → inR v1 → inR v2 → inR v3 → inR v4 → inR v5 → okM μ → J cX8_mix x E z0 μ 69 [some (rv E 115), some (iv v1), some (iv v2), some (iv v3), some (iv v4), some (iv v5), none, none] [] (MQ (xb x) (QI E z0 Q) (xa x) (xs x) 0 0 (gA E))) {v1 : Int} {v2 : Int} {v3 : Int} {v4 : Int} {v5 : Int} {s1 : Int} {s2 : Int} {μ : Mem} (hv1 : inR v1) (hv2 : inR v2) (hv3 : inR v3) (hv4 : inR v4) (hv5 : inR v5) (hs1 : inR s1) (hs2 : inR s2) (hμ : okM μ) (h : wp_X8_mix_117 Q X69 v1 v2 v3 v4 v5 s1 s2 μ) : J cX8_mix x E z0 μ 117 [some (rv E 115), some (iv v1), some (iv v2), some (iv v3), some (iv v4), some (iv v5), none, none] [iv s2, iv s1, rv E 115] (MQ (xb x) (QI E z0 Q) (xa x) (xs x) 0 0 (gA E)) := by
  unfold wp_X8_mix_117 at h
  refine r_iconst dX8_mix_117 ?_
  refine r_goto 164 dX8_mix_118 rfl ?_
  refine r_cVV3 B cb_X8_marks lk_X8_147 cv_X8_marks kd_115 (c_X8_marks (xl x) E hs1 hs2 (inR_k rfl) hμ h) rfl rfl dX8_mix_164 (fun μ48 mμ48 h => ?_)
  refine r_inc5 dX8_mix_167 rfl ?_
  obtain ⟨o49, h⟩ := h
  refine r_goto 69 dX8_mix_170 rfl ?_
  exact J_weak (hX69 v1 v2 v3 v4 (v5 + 1) μ48 h hv1 hv2 hv3 hv4 o49 mμ48) (⟨rfl, ⟨rfl, ⟨rfl, ⟨rfl, ⟨rfl, ⟨rfl, trivial⟩⟩⟩⟩⟩⟩)
set_option maxRecDepth 20000 in
theorem t_X8_mix_69 {x : Cx} {E : Gx} (B : Bd x E 5 8 "SlipCoversModel") (hr : (xt x).sig.returnType = (some .int)) {Q : Int → Mem → Prop} {v1 : Int} {v2 : Int} {v3 : Int} {v4 : Int} {v5 : Int} {μ : Mem} (hv1 : inR v1) (hv2 : inR v2) (hv3 : inR v3) (hv4 : inR v4) (hv5 : inR v5) (hμ : okM μ) (h : LP6 (wp_X8_mix_69 Q) v1 v2 v3 v4 v5 μ) : J cX8_mix x E z0 μ 69 [some (rv E 115), some (iv v1), some (iv v2), some (iv v3), some (iv v4), some (iv v5), none, none] [] (MQ (xb x) (QI E z0 Q) (xa x) (xs x) 0 0 (gA E)) := by
  refine LP6_ind (T := fun (v1 : Int) (v2 : Int) (v3 : Int) (v4 : Int) (v5 : Int) (μ : Mem) => inR v1 → inR v2 → inR v3 → inR v4 → inR v5 → okM μ → J cX8_mix x E z0 μ 69 [some (rv E 115), some (iv v1), some (iv v2), some (iv v3), some (iv v4), some (iv v5), none, none] [] (MQ (xb x) (QI E z0 Q) (xa x) (xs x) 0 0 (gA E))) (fun X69 hX69 v1 v2 v3 v4 v5 μ h hv1 hv2 hv3 hv4 hv5 hμ => ?_) h hv1 hv2 hv3 hv4 hv5 hμ
  unfold wp_X8_mix_69 at h
  refine r_il5 dX8_mix_69 ?_
  refine r_al0 dX8_mix_71 ?_
  refine r_il2 dX8_mix_72 ?_
  refine r_cVI1 B cb_X8_words lk_X8_113 cv_X8_words kd_115 (c_X8_words (xl x) E hv2 hμ h) rfl rfl dX8_mix_73 (fun r25 μ24 hr25 mμ24 h => ?_)
  refine r_icmp_ge 173 dX8_mix_76 rfl hv5 hr25 (fun c26 => ?_) (fun c26 => ?_)
  · have h := h.1 c26
    refine r_al0 dX8_mix_173 ?_
    refine r_il1 dX8_mix_174 ?_
    refine r_cVI1 B cb_X8_becomes lk_X8_285 cv_X8_becomes kd_115 (c_X8_becomes (xl x) E hv1 mμ24 h) rfl rfl dX8_mix_175 (fun r28 μ27 hr28 mμ27 h => ?_)
    exact r_iret B hr hr28 mμ27 dX8_mix_178 h
  · have h := h.2 c26
    refine r_al0 dX8_mix_79 ?_
    refine r_il2 dX8_mix_80 ?_
    refine r_il5 dX8_mix_81 ?_
    refine r_cVI2 B cb_X8_isIn lk_X8_116 cv_X8_isIn kd_115 (c_X8_isIn (xl x) E hv2 hv5 mμ24 h) rfl rfl dX8_mix_83 (fun r30 μ29 hr30 mμ29 h => ?_)
    refine r_is6 dX8_mix_86 rfl ?_
    refine r_al0 dX8_mix_88 ?_
    refine r_il3 dX8_mix_89 ?_
    refine r_il5 dX8_mix_90 ?_
    refine r_cVI2 B cb_X8_isIn lk_X8_116 cv_X8_isIn kd_115 (c_X8_isIn (xl x) E hv3 hv5 mμ29 h) rfl rfl dX8_mix_92 (fun r32 μ31 hr32 mμ31 h => ?_)
    refine r_is7 dX8_mix_95 rfl ?_
    refine r_al0 dX8_mix_97 ?_
    refine r_bipush dX8_mix_98 (by decide) ?_
    refine r_il5 dX8_mix_100 ?_
    refine r_il4 dX8_mix_102 ?_
    refine r_if_ne 125 dX8_mix_104 rfl hv4 (fun c33 => ?_) (fun c33 => ?_)
    · have h := h.1 c33
      refine r_il4 dX8_mix_125 ?_
      refine r_iconst dX8_mix_127 ?_
      refine r_icmp_ne 149 dX8_mix_128 rfl hv4 (inR_k rfl) (fun c34 => ?_) (fun c34 => ?_)
      · have h := h.1 c34
        refine r_il6 dX8_mix_149 ?_
        refine r_if_eq 163 dX8_mix_151 rfl hr30 (fun c35 => ?_) (fun c35 => ?_)
        · have h := h.1 c35
          exact J_weak (t_X8_mix_163 B hr hX69 hv1 hv2 hv3 hv4 hv5 (inR_k rfl) hv5 mμ31 h) (⟨rfl, ⟨rfl, ⟨rfl, ⟨rfl, ⟨rfl, ⟨rfl, trivial⟩⟩⟩⟩⟩⟩)
        · have h := h.2 c35
          refine r_il7 dX8_mix_154 ?_
          refine r_if_ne 163 dX8_mix_156 rfl hr32 (fun c38 => ?_) (fun c38 => ?_)
          · have h := h.1 c38
            exact J_weak (t_X8_mix_163 B hr hX69 hv1 hv2 hv3 hv4 hv5 (inR_k rfl) hv5 mμ31 h) (⟨rfl, ⟨rfl, ⟨rfl, ⟨rfl, ⟨rfl, ⟨rfl, trivial⟩⟩⟩⟩⟩⟩)
          · have h := h.2 c38
            refine r_iconst dX8_mix_159 ?_
            refine r_goto 164 dX8_mix_160 rfl ?_
            refine r_cVV3 B cb_X8_marks lk_X8_147 cv_X8_marks kd_115 (c_X8_marks (xl x) E (inR_k rfl) hv5 (inR_k rfl) mμ31 h) rfl rfl dX8_mix_164 (fun μ39 mμ39 h => ?_)
            refine r_inc5 dX8_mix_167 rfl ?_
            obtain ⟨o40, h⟩ := h
            refine r_goto 69 dX8_mix_170 rfl ?_
            exact J_weak (hX69 v1 v2 v3 v4 (v5 + 1) μ39 h hv1 hv2 hv3 hv4 o40 mμ39) (⟨rfl, ⟨rfl, ⟨rfl, ⟨rfl, ⟨rfl, ⟨rfl, trivial⟩⟩⟩⟩⟩⟩)
      · have h := h.2 c34
        refine r_il6 dX8_mix_131 ?_
        refine r_if_eq 145 dX8_mix_133 rfl hr30 (fun c41 => ?_) (fun c41 => ?_)
        · have h := h.1 c41
          exact J_weak (t_X8_mix_145 B hr hX69 hv1 hv2 hv3 hv4 hv5 (inR_k rfl) hv5 mμ31 h) (⟨rfl, ⟨rfl, ⟨rfl, ⟨rfl, ⟨rfl, ⟨rfl, trivial⟩⟩⟩⟩⟩⟩)
        · have h := h.2 c41
          refine r_il7 dX8_mix_136 ?_
          refine r_if_eq 145 dX8_mix_138 rfl hr32 (fun c44 => ?_) (fun c44 => ?_)
          · have h := h.1 c44
            exact J_weak (t_X8_mix_145 B hr hX69 hv1 hv2 hv3 hv4 hv5 (inR_k rfl) hv5 mμ31 h) (⟨rfl, ⟨rfl, ⟨rfl, ⟨rfl, ⟨rfl, ⟨rfl, trivial⟩⟩⟩⟩⟩⟩)
          · have h := h.2 c44
            refine r_iconst dX8_mix_141 ?_
            refine r_goto 164 dX8_mix_142 rfl ?_
            refine r_cVV3 B cb_X8_marks lk_X8_147 cv_X8_marks kd_115 (c_X8_marks (xl x) E (inR_k rfl) hv5 (inR_k rfl) mμ31 h) rfl rfl dX8_mix_164 (fun μ45 mμ45 h => ?_)
            refine r_inc5 dX8_mix_167 rfl ?_
            obtain ⟨o46, h⟩ := h
            refine r_goto 69 dX8_mix_170 rfl ?_
            exact J_weak (hX69 v1 v2 v3 v4 (v5 + 1) μ45 h hv1 hv2 hv3 hv4 o46 mμ45) (⟨rfl, ⟨rfl, ⟨rfl, ⟨rfl, ⟨rfl, ⟨rfl, trivial⟩⟩⟩⟩⟩⟩)
    · have h := h.2 c33
      refine r_il6 dX8_mix_107 ?_
      refine r_if_ne 117 dX8_mix_109 rfl hr30 (fun c47 => ?_) (fun c47 => ?_)
      · have h := h.1 c47
        exact J_weak (t_X8_mix_117 B hr hX69 hv1 hv2 hv3 hv4 hv5 (inR_k rfl) hv5 mμ31 h) (⟨rfl, ⟨rfl, ⟨rfl, ⟨rfl, ⟨rfl, ⟨rfl, trivial⟩⟩⟩⟩⟩⟩)
      · have h := h.2 c47
        refine r_il7 dX8_mix_112 ?_
        refine r_if_eq 121 dX8_mix_114 rfl hr32 (fun c50 => ?_) (fun c50 => ?_)
        · have h := h.1 c50
          refine r_iconst dX8_mix_121 ?_
          refine r_goto 164 dX8_mix_122 rfl ?_
          refine r_cVV3 B cb_X8_marks lk_X8_147 cv_X8_marks kd_115 (c_X8_marks (xl x) E (inR_k rfl) hv5 (inR_k rfl) mμ31 h) rfl rfl dX8_mix_164 (fun μ51 mμ51 h => ?_)
          refine r_inc5 dX8_mix_167 rfl ?_
          obtain ⟨o52, h⟩ := h
          refine r_goto 69 dX8_mix_170 rfl ?_
          exact J_weak (hX69 v1 v2 v3 v4 (v5 + 1) μ51 h hv1 hv2 hv3 hv4 o52 mμ51) (⟨rfl, ⟨rfl, ⟨rfl, ⟨rfl, ⟨rfl, ⟨rfl, trivial⟩⟩⟩⟩⟩⟩)
        · have h := h.2 c50
          exact J_weak (t_X8_mix_117 B hr hX69 hv1 hv2 hv3 hv4 hv5 (inR_k rfl) hv5 mμ31 h) (⟨rfl, ⟨rfl, ⟨rfl, ⟨rfl, ⟨rfl, ⟨rfl, trivial⟩⟩⟩⟩⟩⟩)
set_option maxRecDepth 20000 in
theorem c_X8_mix (l : Launch) (E : Gx) {p0 : Int} {p1 : Int} {p2 : Int} {p3 : Int} {μ : Mem} {Q : Int → Mem → Prop} (hp0 : inR p0) (hp1 : inR p1) (hp2 : inR p2) (hp3 : inR p3) (hμ : okM μ) (h : wp_X8_mix p0 p1 p2 p3 μ Q) : MT l yX8_mix cX8_mix 8 (some .int) E 5 0 0 z0 [rv E 115, iv p0, iv p1, iv p2, iv p3] μ (QI E z0 Q) := by
  refine m_start [some (rv E 115), some (iv p0), some (iv p1), some (iv p2), some (iv p3), none, none, none] (by decide) rfl rfl rfl (fun x hxl hxc hxs B hr hnm => ?_)
  unfold wp_X8_mix at h
  refine r_al0 dX8_mix_0 ?_
  refine r_iconst dX8_mix_1 ?_
  refine r_putI B fg_X8_42 fp_8_0 kd_115 (kl kd_115) dX8_mix_2 ?_
  refine n_mem (fun μ1 eμ1 => ?_)
  have h := h μ1 eμ1
  have mμ1 : okM μ1 := eqM eμ1 (okM_sI hμ (inR_k rfl))
  refine r_il1 dX8_mix_5 ?_
  refine r_cSI1 B cb_X8_isTo lk_X8_279 cs_X8_isTo (c_X8_isTo (xl x) E hp0 mμ1 h) rfl rfl dX8_mix_6 (fun r3 μ2 hr3 mμ2 h => ?_)
  refine r_if_eq 38 dX8_mix_9 rfl hr3 (fun c4 => ?_) (fun c4 => ?_)
  · have h := h.1 c4
    refine r_al0 dX8_mix_38 ?_
    refine r_iconst dX8_mix_39 ?_
    refine r_cVI1 B cb_X8_refused lk_X8_173 cv_X8_refused kd_115 (c_X8_refused (xl x) E (inR_k rfl) mμ2 h) rfl rfl dX8_mix_40 (fun r6 μ5 hr6 mμ5 h => ?_)
    exact r_iret B hr hr6 mμ5 dX8_mix_43 h
  · have h := h.2 c4
    refine r_al0 dX8_mix_12 ?_
    refine r_il2 dX8_mix_13 ?_
    refine r_cVI1 B cb_X8_isCode lk_X8_192 cv_X8_isCode kd_115 (c_X8_isCode (xl x) E hp1 mμ2 h) rfl rfl dX8_mix_14 (fun r8 μ7 hr8 mμ7 h => ?_)
    refine r_if_eq 38 dX8_mix_17 rfl hr8 (fun c9 => ?_) (fun c9 => ?_)
    · have h := h.1 c9
      refine r_al0 dX8_mix_38 ?_
      refine r_iconst dX8_mix_39 ?_
      refine r_cVI1 B cb_X8_refused lk_X8_173 cv_X8_refused kd_115 (c_X8_refused (xl x) E (inR_k rfl) mμ7 h) rfl rfl dX8_mix_40 (fun r11 μ10 hr11 mμ10 h => ?_)
      exact r_iret B hr hr11 mμ10 dX8_mix_43 h
    · have h := h.2 c9
      refine r_al0 dX8_mix_20 ?_
      refine r_il3 dX8_mix_21 ?_
      refine r_cVI1 B cb_X8_isCode lk_X8_192 cv_X8_isCode kd_115 (c_X8_isCode (xl x) E hp2 mμ7 h) rfl rfl dX8_mix_22 (fun r13 μ12 hr13 mμ12 h => ?_)
      refine r_if_eq 38 dX8_mix_25 rfl hr13 (fun c14 => ?_) (fun c14 => ?_)
      · have h := h.1 c14
        refine r_al0 dX8_mix_38 ?_
        refine r_iconst dX8_mix_39 ?_
        refine r_cVI1 B cb_X8_refused lk_X8_173 cv_X8_refused kd_115 (c_X8_refused (xl x) E (inR_k rfl) mμ12 h) rfl rfl dX8_mix_40 (fun r16 μ15 hr16 mμ15 h => ?_)
        exact r_iret B hr hr16 mμ15 dX8_mix_43 h
      · have h := h.2 c14
        refine r_il4 dX8_mix_28 ?_
        refine r_iconst dX8_mix_30 ?_
        refine r_iconst dX8_mix_31 ?_
        refine r_cSI3 B cb_X8_in lk_X8_63 cs_X8_in (c_X8_in (xl x) E hp3 (inR_k rfl) (inR_k rfl) mμ12 h) rfl rfl dX8_mix_32 (fun r18 μ17 hr18 mμ17 h => ?_)
        refine r_if_ne 44 dX8_mix_35 rfl hr18 (fun c19 => ?_) (fun c19 => ?_)
        · have h := h.1 c19
          refine r_al0 dX8_mix_44 ?_
          refine r_il2 dX8_mix_45 ?_
          refine r_il3 dX8_mix_46 ?_
          refine r_cVI2 B cb_X8_areOfOne lk_X8_291 cv_X8_areOfOne kd_115 (c_X8_areOfOne (xl x) E hp1 hp2 mμ17 h) rfl rfl dX8_mix_47 (fun r21 μ20 hr21 mμ20 h => ?_)
          refine r_if_ne 59 dX8_mix_50 rfl hr21 (fun c22 => ?_) (fun c22 => ?_)
          · have h := h.1 c22
            refine r_al0 dX8_mix_59 ?_
            refine r_il2 dX8_mix_60 ?_
            refine r_bipush dX8_mix_61 (by decide) ?_
            refine r_cVV2 B cb_X8_copies lk_X8_179 cv_X8_copies kd_115 (c_X8_copies (xl x) E hp1 (inR_k rfl) mμ20 h) rfl rfl dX8_mix_63 (fun μ23 mμ23 h => ?_)
            refine r_iconst dX8_mix_66 ?_
            refine r_is5 dX8_mix_67 rfl ?_
            exact J_weak (t_X8_mix_69 B hr hp0 hp1 hp2 hp3 (inR_k rfl) mμ23 h) (⟨rfl, ⟨rfl, ⟨rfl, ⟨rfl, ⟨rfl, ⟨rfl, trivial⟩⟩⟩⟩⟩⟩)
          · have h := h.2 c22
            refine r_al0 dX8_mix_53 ?_
            refine r_iconst dX8_mix_54 ?_
            refine r_cVI1 B cb_X8_refused lk_X8_173 cv_X8_refused kd_115 (c_X8_refused (xl x) E (inR_k rfl) mμ20 h) rfl rfl dX8_mix_55 (fun r54 μ53 hr54 mμ53 h => ?_)
            exact r_iret B hr hr54 mμ53 dX8_mix_58 h
        · have h := h.2 c19
          refine r_al0 dX8_mix_38 ?_
          refine r_iconst dX8_mix_39 ?_
          refine r_cVI1 B cb_X8_refused lk_X8_173 cv_X8_refused kd_115 (c_X8_refused (xl x) E (inR_k rfl) mμ17 h) rfl rfl dX8_mix_40 (fun r56 μ55 hr56 mμ55 h => ?_)
          exact r_iret B hr hr56 mμ55 dX8_mix_43 h
set_option maxRecDepth 20000 in
theorem t_X8_holes_91 {x : Cx} {E : Gx} (B : Bd x E 5 6 "SlipCoversModel") (hr : (xt x).sig.returnType = (some .int)) {Q : Int → Mem → Prop} {X57 : Int → Int → Int → Int → Mem → Prop} (hX57 : ∀ (v1 : Int) (v2 : Int) (v4 : Int) (v5 : Int) (μ : Mem), X57 v1 v2 v4 v5 μ → inR v1 → inR v2 → inR v4 → inR v5 → okM μ → J cX8_holes x E z0 μ 57 [some (rv E 115), some (iv v1), some (iv v2), none, some (iv v4), some (iv v5)] [] (MQ (xb x) (QI E z0 Q) (xa x) (xs x) 0 0 (gA E))) {v1 : Int} {v2 : Int} {v4 : Int} {v5 : Int} {s1 : Int} {s2 : Int} {μ : Mem} (hv1 : inR v1) (hv2 : inR v2) (hv4 : inR v4) (hv5 : inR v5) (hs1 : inR s1) (hs2 : inR s2) (hμ : okM μ) (h : wp_X8_holes_91 Q X57 v1 v2 v4 v5 s1 s2 μ) : J cX8_holes x E z0 μ 91 [some (rv E 115), some (iv v1), some (iv v2), none, some (iv v4), some (iv v5)] [iv s2, iv s1, rv E 115] (MQ (xb x) (QI E z0 Q) (xa x) (xs x) 0 0 (gA E)) := by
  unfold wp_X8_holes_91 at h
  refine r_iconst dX8_holes_91 ?_
  refine r_cVV3 B cb_X8_marks lk_X8_147 cv_X8_marks kd_115 (c_X8_marks (xl x) E hs1 hs2 (inR_k rfl) hμ h) rfl rfl dX8_holes_92 (fun μ22 mμ22 h => ?_)
  refine r_inc5 dX8_holes_95 rfl ?_
  obtain ⟨o23, h⟩ := h
  refine r_goto 57 dX8_holes_98 rfl ?_
  exact J_weak (hX57 v1 v2 v4 (v5 + 1) μ22 h hv1 hv2 hv4 o23 mμ22) (⟨rfl, ⟨rfl, ⟨rfl, ⟨rfl, ⟨rfl, trivial⟩⟩⟩⟩⟩)
set_option maxRecDepth 20000 in
theorem t_X8_holes_57 {x : Cx} {E : Gx} (B : Bd x E 5 6 "SlipCoversModel") (hr : (xt x).sig.returnType = (some .int)) {Q : Int → Mem → Prop} {v1 : Int} {v2 : Int} {v4 : Int} {v5 : Int} {μ : Mem} (hv1 : inR v1) (hv2 : inR v2) (hv4 : inR v4) (hv5 : inR v5) (hμ : okM μ) (h : LP5 (wp_X8_holes_57 Q) v1 v2 v4 v5 μ) : J cX8_holes x E z0 μ 57 [some (rv E 115), some (iv v1), some (iv v2), none, some (iv v4), some (iv v5)] [] (MQ (xb x) (QI E z0 Q) (xa x) (xs x) 0 0 (gA E)) := by
  refine LP5_ind (T := fun (v1 : Int) (v2 : Int) (v4 : Int) (v5 : Int) (μ : Mem) => inR v1 → inR v2 → inR v4 → inR v5 → okM μ → J cX8_holes x E z0 μ 57 [some (rv E 115), some (iv v1), some (iv v2), none, some (iv v4), some (iv v5)] [] (MQ (xb x) (QI E z0 Q) (xa x) (xs x) 0 0 (gA E))) (fun X57 hX57 v1 v2 v4 v5 μ h hv1 hv2 hv4 hv5 hμ => ?_) h hv1 hv2 hv4 hv5 hμ
  unfold wp_X8_holes_57 at h
  refine r_il5 dX8_holes_57 ?_
  refine r_al0 dX8_holes_59 ?_
  refine r_il2 dX8_holes_60 ?_
  refine r_cVI1 B cb_X8_words lk_X8_113 cv_X8_words kd_115 (c_X8_words (xl x) E hv2 hμ h) rfl rfl dX8_holes_61 (fun r17 μ16 hr17 mμ16 h => ?_)
  refine r_icmp_ge 101 dX8_holes_64 rfl hv5 hr17 (fun c18 => ?_) (fun c18 => ?_)
  · have h := h.1 c18
    refine r_al0 dX8_holes_101 ?_
    refine r_il1 dX8_holes_102 ?_
    refine r_cVI1 B cb_X8_becomes lk_X8_285 cv_X8_becomes kd_115 (c_X8_becomes (xl x) E hv1 mμ16 h) rfl rfl dX8_holes_103 (fun r20 μ19 hr20 mμ19 h => ?_)
    exact r_iret B hr hr20 mμ19 dX8_holes_106 h
  · have h := h.2 c18
    refine r_al0 dX8_holes_67 ?_
    refine r_bipush dX8_holes_68 (by decide) ?_
    refine r_il5 dX8_holes_70 ?_
    refine r_il4 dX8_holes_72 ?_
    refine r_if_le 91 dX8_holes_74 rfl hv4 (fun c21 => ?_) (fun c21 => ?_)
    · have h := h.1 c21
      exact J_weak (t_X8_holes_91 B hr hX57 hv1 hv2 hv4 hv5 (inR_k rfl) hv5 mμ16 h) (⟨rfl, ⟨rfl, ⟨rfl, ⟨rfl, ⟨rfl, trivial⟩⟩⟩⟩⟩)
    · have h := h.2 c21
      refine r_al0 dX8_holes_77 ?_
      refine r_getR B 121 fg_X8_30 kd_115 (kl kd_115) (ρo (off := 6) kd_115 rfl) dX8_holes_78 ?_
      refine r_il5 dX8_holes_81 ?_
      obtain ⟨o24, h⟩ := h
      refine r_iald B kd_121 (kl kd_121) (by decide) o24 dX8_holes_83 ?_
      refine r_if_ne 91 dX8_holes_84 rfl (mμ16 _ _) (fun c25 => ?_) (fun c25 => ?_)
      · have h := h.1 c25
        exact J_weak (t_X8_holes_91 B hr hX57 hv1 hv2 hv4 hv5 (inR_k rfl) hv5 mμ16 h) (⟨rfl, ⟨rfl, ⟨rfl, ⟨rfl, ⟨rfl, trivial⟩⟩⟩⟩⟩)
      · have h := h.2 c25
        refine r_iconst dX8_holes_87 ?_
        refine r_goto 92 dX8_holes_88 rfl ?_
        refine r_cVV3 B cb_X8_marks lk_X8_147 cv_X8_marks kd_115 (c_X8_marks (xl x) E (inR_k rfl) hv5 (inR_k rfl) mμ16 h) rfl rfl dX8_holes_92 (fun μ26 mμ26 h => ?_)
        refine r_inc5 dX8_holes_95 rfl ?_
        obtain ⟨o27, h⟩ := h
        refine r_goto 57 dX8_holes_98 rfl ?_
        exact J_weak (hX57 v1 v2 v4 (v5 + 1) μ26 h hv1 hv2 hv4 o27 mμ26) (⟨rfl, ⟨rfl, ⟨rfl, ⟨rfl, ⟨rfl, trivial⟩⟩⟩⟩⟩)
set_option maxRecDepth 20000 in
theorem c_X8_holes (l : Launch) (E : Gx) {p0 : Int} {p1 : Int} {p2 : Int} {μ : Mem} {Q : Int → Mem → Prop} (hp0 : inR p0) (hp1 : inR p1) (hp2 : inR p2) (hμ : okM μ) (h : wp_X8_holes p0 p1 p2 μ Q) : MT l yX8_holes cX8_holes 6 (some .int) E 5 0 0 z0 [rv E 115, iv p0, iv p1, iv p2] μ (QI E z0 Q) := by
  refine m_start [some (rv E 115), some (iv p0), some (iv p1), some (iv p2), none, none] (by decide) rfl rfl rfl (fun x hxl hxc hxs B hr hnm => ?_)
  unfold wp_X8_holes at h
  refine r_al0 dX8_holes_0 ?_
  refine r_iconst dX8_holes_1 ?_
  refine r_putI B fg_X8_42 fp_8_0 kd_115 (kl kd_115) dX8_holes_2 ?_
  refine n_mem (fun μ1 eμ1 => ?_)
  have h := h μ1 eμ1
  have mμ1 : okM μ1 := eqM eμ1 (okM_sI hμ (inR_k rfl))
  refine r_il1 dX8_holes_5 ?_
  refine r_cSI1 B cb_X8_isTo lk_X8_279 cs_X8_isTo (c_X8_isTo (xl x) E hp0 mμ1 h) rfl rfl dX8_holes_6 (fun r3 μ2 hr3 mμ2 h => ?_)
  refine r_if_eq 20 dX8_holes_9 rfl hr3 (fun c4 => ?_) (fun c4 => ?_)
  · have h := h.1 c4
    refine r_al0 dX8_holes_20 ?_
    refine r_iconst dX8_holes_21 ?_
    refine r_cVI1 B cb_X8_refused lk_X8_173 cv_X8_refused kd_115 (c_X8_refused (xl x) E (inR_k rfl) mμ2 h) rfl rfl dX8_holes_22 (fun r6 μ5 hr6 mμ5 h => ?_)
    exact r_iret B hr hr6 mμ5 dX8_holes_25 h
  · have h := h.2 c4
    refine r_al0 dX8_holes_12 ?_
    refine r_il2 dX8_holes_13 ?_
    refine r_cVI1 B cb_X8_isCode lk_X8_192 cv_X8_isCode kd_115 (c_X8_isCode (xl x) E hp1 mμ2 h) rfl rfl dX8_holes_14 (fun r8 μ7 hr8 mμ7 h => ?_)
    refine r_if_ne 26 dX8_holes_17 rfl hr8 (fun c9 => ?_) (fun c9 => ?_)
    · have h := h.1 c9
      refine r_il3 dX8_holes_26 ?_
      refine r_cSI1 B cb_X8_isSlips lk_X8_223 cs_X8_isSlips (c_X8_isSlips (xl x) E hp2 mμ7 h) rfl rfl dX8_holes_27 (fun r11 μ10 hr11 mμ10 h => ?_)
      refine r_if_ne 39 dX8_holes_30 rfl hr11 (fun c12 => ?_) (fun c12 => ?_)
      · have h := h.1 c12
        refine r_al0 dX8_holes_39 ?_
        refine r_il2 dX8_holes_40 ?_
        refine r_il3 dX8_holes_41 ?_
        refine r_cVI2 B cb_X8_covers lk_X8_202 cv_X8_covers kd_115 (c_X8_covers (xl x) E hp1 hp2 mμ10 h) rfl rfl dX8_holes_42 (fun r14 μ13 hr14 mμ13 h => ?_)
        refine r_is4 dX8_holes_45 rfl ?_
        refine r_al0 dX8_holes_47 ?_
        refine r_il2 dX8_holes_48 ?_
        refine r_bipush dX8_holes_49 (by decide) ?_
        refine r_cVV2 B cb_X8_copies lk_X8_179 cv_X8_copies kd_115 (c_X8_copies (xl x) E hp1 (inR_k rfl) mμ13 h) rfl rfl dX8_holes_51 (fun μ15 mμ15 h => ?_)
        refine r_iconst dX8_holes_54 ?_
        refine r_is5 dX8_holes_55 rfl ?_
        exact J_weak (t_X8_holes_57 B hr hp0 hp1 hr14 (inR_k rfl) mμ15 h) (⟨rfl, ⟨rfl, ⟨rfl, ⟨rfl, ⟨rfl, trivial⟩⟩⟩⟩⟩)
      · have h := h.2 c12
        refine r_al0 dX8_holes_33 ?_
        refine r_iconst dX8_holes_34 ?_
        refine r_cVI1 B cb_X8_refused lk_X8_173 cv_X8_refused kd_115 (c_X8_refused (xl x) E (inR_k rfl) mμ10 h) rfl rfl dX8_holes_35 (fun r29 μ28 hr29 mμ28 h => ?_)
        exact r_iret B hr hr29 mμ28 dX8_holes_38 h
    · have h := h.2 c9
      refine r_al0 dX8_holes_20 ?_
      refine r_iconst dX8_holes_21 ?_
      refine r_cVI1 B cb_X8_refused lk_X8_173 cv_X8_refused kd_115 (c_X8_refused (xl x) E (inR_k rfl) mμ7 h) rfl rfl dX8_holes_22 (fun r31 μ30 hr31 mμ30 h => ?_)
      exact r_iret B hr hr31 mμ30 dX8_holes_25 h
set_option maxRecDepth 20000 in
theorem t_X8_undo_30 {x : Cx} {E : Gx} (B : Bd x E 2 2 "SlipCoversModel") (hr : (xt x).sig.returnType = (some .int)) {Q : Int → Mem → Prop} {v1 : Int} {μ : Mem} (hv1 : inR v1) (hμ : okM μ) (h : LP2 (wp_X8_undo_30 Q) v1 μ) : J cX8_undo x E z0 μ 30 [some (rv E 115), some (iv v1)] [] (MQ (xb x) (QI E z0 Q) (xa x) (xs x) 0 0 (gA E)) := by
  refine LP2_ind (T := fun (v1 : Int) (μ : Mem) => inR v1 → okM μ → J cX8_undo x E z0 μ 30 [some (rv E 115), some (iv v1)] [] (MQ (xb x) (QI E z0 Q) (xa x) (xs x) 0 0 (gA E))) (fun X30 hX30 v1 μ h hv1 hμ => ?_) h hv1 hμ
  unfold wp_X8_undo_30 at h
  refine r_il1 dX8_undo_30 ?_
  refine r_sipush dX8_undo_31 (by decide) ?_
  refine r_icmp_ge 67 dX8_undo_34 rfl hv1 (inR_k rfl) (fun c5 => ?_) (fun c5 => ?_)
  · have h := h.1 c5
    refine r_al0 dX8_undo_67 ?_
    refine r_al0 dX8_undo_68 ?_
    refine r_getI B fg_X8_186 kd_115 (kl kd_115) dX8_undo_69 ?_
    refine r_cVI1 B cb_X8_good lk_X8_189 cv_X8_good kd_115 (c_X8_good (xl x) E (hμ 115 19) hμ h) rfl rfl dX8_undo_72 (fun r7 μ6 hr7 mμ6 h => ?_)
    exact r_iret B hr hr7 mμ6 dX8_undo_75 h
  · have h := h.2 c5
    refine r_al0 dX8_undo_37 ?_
    refine r_getR B 117 fg_X8_17 kd_115 (kl kd_115) (ρo (off := 2) kd_115 rfl) dX8_undo_38 ?_
    refine r_il1 dX8_undo_41 ?_
    refine r_al0 dX8_undo_42 ?_
    refine r_getR B 118 fg_X8_20 kd_115 (kl kd_115) (ρo (off := 3) kd_115 rfl) dX8_undo_43 ?_
    refine r_al0 dX8_undo_46 ?_
    refine r_getI B fg_X8_186 kd_115 (kl kd_115) dX8_undo_47 ?_
    refine r_bipush dX8_undo_50 (by decide) ?_
    refine r_imul dX8_undo_52 ?_
    refine r_sipush dX8_undo_53 (by decide) ?_
    refine r_imul dX8_undo_56 ?_
    refine r_il1 dX8_undo_57 ?_
    refine r_iadd dX8_undo_58 ?_
    obtain ⟨o8, h⟩ := h
    refine r_iald B kd_118 (kl kd_118) (by decide) o8 dX8_undo_59 ?_
    obtain ⟨o9, h⟩ := h
    refine r_iast B kd_117 (kl kd_117) (by decide) o9 dX8_undo_60 ?_
    refine n_mem (fun μ10 eμ10 => ?_)
    have h := h μ10 eμ10
    have mμ10 : okM μ10 := eqM eμ10 (okM_sI hμ (hμ _ _))
    refine r_inc1 dX8_undo_61 rfl ?_
    obtain ⟨o11, h⟩ := h
    refine r_goto 30 dX8_undo_64 rfl ?_
    exact J_weak (hX30 (v1 + 1) μ10 h o11 mμ10) (⟨rfl, ⟨rfl, trivial⟩⟩)
set_option maxRecDepth 20000 in
theorem c_X8_undo (l : Launch) (E : Gx) {μ : Mem} {Q : Int → Mem → Prop} (hμ : okM μ) (h : wp_X8_undo  μ Q) : MT l yX8_undo cX8_undo 2 (some .int) E 2 0 0 z0 [rv E 115] μ (QI E z0 Q) := by
  refine m_start [some (rv E 115), none] (by decide) rfl rfl rfl (fun x hxl hxc hxs B hr hnm => ?_)
  unfold wp_X8_undo at h
  refine r_al0 dX8_undo_0 ?_
  refine r_iconst dX8_undo_1 ?_
  refine r_putI B fg_X8_42 fp_8_0 kd_115 (kl kd_115) dX8_undo_2 ?_
  refine n_mem (fun μ1 eμ1 => ?_)
  have h := h μ1 eμ1
  have mμ1 : okM μ1 := eqM eμ1 (okM_sI hμ (inR_k rfl))
  refine r_al0 dX8_undo_5 ?_
  refine r_getI B fg_X8_186 kd_115 (kl kd_115) dX8_undo_6 ?_
  refine r_if_ne 18 dX8_undo_9 rfl (mμ1 115 19) (fun c2 => ?_) (fun c2 => ?_)
  · have h := h.1 c2
    refine r_al0 dX8_undo_18 ?_
    refine r_dup rfl dX8_undo_19 ?_
    refine r_getI B fg_X8_186 kd_115 (kl kd_115) dX8_undo_20 ?_
    refine r_iconst dX8_undo_23 ?_
    refine r_isub dX8_undo_24 ?_
    obtain ⟨o3, h⟩ := h
    refine r_putI B fg_X8_186 fp_8_19 kd_115 (kl kd_115) dX8_undo_25 ?_
    refine n_mem (fun μ4 eμ4 => ?_)
    have h := h μ4 eμ4
    have mμ4 : okM μ4 := eqM eμ4 (okM_sI mμ1 o3)
    refine r_iconst dX8_undo_28 ?_
    refine r_is1 dX8_undo_29 rfl ?_
    exact J_weak (t_X8_undo_30 B hr (inR_k rfl) mμ4 h) (⟨rfl, ⟨rfl, trivial⟩⟩)
  · have h := h.2 c2
    refine r_al0 dX8_undo_12 ?_
    refine r_iconst dX8_undo_13 ?_
    refine r_cVI1 B cb_X8_refused lk_X8_173 cv_X8_refused kd_115 (c_X8_refused (xl x) E (inR_k rfl) mμ1 h) rfl rfl dX8_undo_14 (fun r13 μ12 hr13 mμ12 h => ?_)
    exact r_iret B hr hr13 mμ12 dX8_undo_17 h
set_option maxRecDepth 20000 in
theorem t_X8_same_80 {x : Cx} {E : Gx} (B : Bd x E 3 5 "SlipCoversModel") (hr : (xt x).sig.returnType = (some .int)) {Q : Int → Mem → Prop} {v3 : Int} {μ : Mem} (hv3 : inR v3) (hμ : okM μ) (h : wp_X8_same_80 Q v3 μ) : J cX8_same x E z0 μ 80 [some (rv E 115), none, none, some (iv v3), none] [] (MQ (xb x) (QI E z0 Q) (xa x) (xs x) 0 0 (gA E)) := by
  unfold wp_X8_same_80 at h
  refine r_al0 dX8_same_80 ?_
  refine r_il3 dX8_same_81 ?_
  refine r_if_eq 89 dX8_same_82 rfl hv3 (fun c13 => ?_) (fun c13 => ?_)
  · have h := h.1 c13
    refine r_iconst dX8_same_89 ?_
    refine r_cVI1 B cb_X8_good lk_X8_189 cv_X8_good kd_115 (c_X8_good (xl x) E (inR_k rfl) hμ h) rfl rfl dX8_same_90 (fun r15 μ14 hr15 mμ14 h => ?_)
    exact r_iret B hr hr15 mμ14 dX8_same_93 h
  · have h := h.2 c13
    refine r_iconst dX8_same_85 ?_
    refine r_goto 90 dX8_same_86 rfl ?_
    refine r_cVI1 B cb_X8_good lk_X8_189 cv_X8_good kd_115 (c_X8_good (xl x) E (inR_k rfl) hμ h) rfl rfl dX8_same_90 (fun r17 μ16 hr17 mμ16 h => ?_)
    exact r_iret B hr hr17 mμ16 dX8_same_93 h
set_option maxRecDepth 20000 in
theorem t_X8_same_37 {x : Cx} {E : Gx} (B : Bd x E 3 5 "SlipCoversModel") (hr : (xt x).sig.returnType = (some .int)) {Q : Int → Mem → Prop} {v1 : Int} {v2 : Int} {v3 : Int} {v4 : Int} {μ : Mem} (hv1 : inR v1) (hv2 : inR v2) (hv3 : inR v3) (hv4 : inR v4) (hμ : okM μ) (h : LP5 (wp_X8_same_37 Q) v1 v2 v3 v4 μ) : J cX8_same x E z0 μ 37 [some (rv E 115), some (iv v1), some (iv v2), some (iv v3), some (iv v4)] [] (MQ (xb x) (QI E z0 Q) (xa x) (xs x) 0 0 (gA E)) := by
  refine LP5_ind (T := fun (v1 : Int) (v2 : Int) (v3 : Int) (v4 : Int) (μ : Mem) => inR v1 → inR v2 → inR v3 → inR v4 → okM μ → J cX8_same x E z0 μ 37 [some (rv E 115), some (iv v1), some (iv v2), some (iv v3), some (iv v4)] [] (MQ (xb x) (QI E z0 Q) (xa x) (xs x) 0 0 (gA E))) (fun X37 hX37 v1 v2 v3 v4 μ h hv1 hv2 hv3 hv4 hμ => ?_) h hv1 hv2 hv3 hv4 hμ
  unfold wp_X8_same_37 at h
  refine r_il3 dX8_same_37 ?_
  refine r_if_eq 80 dX8_same_38 rfl hv3 (fun c12 => ?_) (fun c12 => ?_)
  · have h := h.1 c12
    exact J_weak (t_X8_same_80 B hr hv3 hμ h) (⟨rfl, ⟨rfl, trivial⟩⟩)
  · have h := h.2 c12
    refine r_il4 dX8_same_41 ?_
    refine r_al0 dX8_same_43 ?_
    refine r_il1 dX8_same_44 ?_
    refine r_cVI1 B cb_X8_words lk_X8_113 cv_X8_words kd_115 (c_X8_words (xl x) E hv1 hμ h) rfl rfl dX8_same_45 (fun r19 μ18 hr19 mμ18 h => ?_)
    refine r_icmp_ge 80 dX8_same_48 rfl hv4 hr19 (fun c20 => ?_) (fun c20 => ?_)
    · have h := h.1 c20
      exact J_weak (t_X8_same_80 B hr hv3 mμ18 h) (⟨rfl, ⟨rfl, trivial⟩⟩)
    · have h := h.2 c20
      refine r_al0 dX8_same_51 ?_
      refine r_il1 dX8_same_52 ?_
      refine r_il4 dX8_same_53 ?_
      refine r_cVI2 B cb_X8_isIn lk_X8_116 cv_X8_isIn kd_115 (c_X8_isIn (xl x) E hv1 hv4 mμ18 h) rfl rfl dX8_same_55 (fun r22 μ21 hr22 mμ21 h => ?_)
      refine r_al0 dX8_same_58 ?_
      refine r_il2 dX8_same_59 ?_
      refine r_il4 dX8_same_60 ?_
      refine r_cVI2 B cb_X8_isIn lk_X8_116 cv_X8_isIn kd_115 (c_X8_isIn (xl x) E hv2 hv4 mμ21 h) rfl rfl dX8_same_62 (fun r24 μ23 hr24 mμ23 h => ?_)
      refine r_icmp_ne 72 dX8_same_65 rfl hr22 hr24 (fun c25 => ?_) (fun c25 => ?_)
      · have h := h.1 c25
        refine r_iconst dX8_same_72 ?_
        refine r_is3 dX8_same_73 rfl ?_
        refine r_inc4 dX8_same_74 rfl ?_
        obtain ⟨o26, h⟩ := h
        refine r_goto 37 dX8_same_77 rfl ?_
        exact J_weak (hX37 v1 v2 0 (v4 + 1) μ23 h hv1 hv2 (inR_k rfl) o26 mμ23) (⟨rfl, ⟨rfl, ⟨rfl, ⟨rfl, ⟨rfl, trivial⟩⟩⟩⟩⟩)
      · have h := h.2 c25
        refine r_iconst dX8_same_68 ?_
        refine r_goto 73 dX8_same_69 rfl ?_
        refine r_is3 dX8_same_73 rfl ?_
        refine r_inc4 dX8_same_74 rfl ?_
        obtain ⟨o27, h⟩ := h
        refine r_goto 37 dX8_same_77 rfl ?_
        exact J_weak (hX37 v1 v2 1 (v4 + 1) μ23 h hv1 hv2 (inR_k rfl) o27 mμ23) (⟨rfl, ⟨rfl, ⟨rfl, ⟨rfl, ⟨rfl, trivial⟩⟩⟩⟩⟩)
set_option maxRecDepth 20000 in
theorem c_X8_same (l : Launch) (E : Gx) {p0 : Int} {p1 : Int} {μ : Mem} {Q : Int → Mem → Prop} (hp0 : inR p0) (hp1 : inR p1) (hμ : okM μ) (h : wp_X8_same p0 p1 μ Q) : MT l yX8_same cX8_same 5 (some .int) E 3 0 0 z0 [rv E 115, iv p0, iv p1] μ (QI E z0 Q) := by
  refine m_start [some (rv E 115), some (iv p0), some (iv p1), none, none] (by decide) rfl rfl rfl (fun x hxl hxc hxs B hr hnm => ?_)
  unfold wp_X8_same at h
  refine r_al0 dX8_same_0 ?_
  refine r_iconst dX8_same_1 ?_
  refine r_putI B fg_X8_42 fp_8_0 kd_115 (kl kd_115) dX8_same_2 ?_
  refine n_mem (fun μ1 eμ1 => ?_)
  have h := h μ1 eμ1
  have mμ1 : okM μ1 := eqM eμ1 (okM_sI hμ (inR_k rfl))
  refine r_al0 dX8_same_5 ?_
  refine r_il1 dX8_same_6 ?_
  refine r_cVI1 B cb_X8_isCode lk_X8_192 cv_X8_isCode kd_115 (c_X8_isCode (xl x) E hp0 mμ1 h) rfl rfl dX8_same_7 (fun r3 μ2 hr3 mμ2 h => ?_)
  refine r_if_eq 21 dX8_same_10 rfl hr3 (fun c4 => ?_) (fun c4 => ?_)
  · have h := h.1 c4
    refine r_al0 dX8_same_21 ?_
    refine r_iconst dX8_same_22 ?_
    refine r_cVI1 B cb_X8_refused lk_X8_173 cv_X8_refused kd_115 (c_X8_refused (xl x) E (inR_k rfl) mμ2 h) rfl rfl dX8_same_23 (fun r6 μ5 hr6 mμ5 h => ?_)
    exact r_iret B hr hr6 mμ5 dX8_same_26 h
  · have h := h.2 c4
    refine r_al0 dX8_same_13 ?_
    refine r_il2 dX8_same_14 ?_
    refine r_cVI1 B cb_X8_isCode lk_X8_192 cv_X8_isCode kd_115 (c_X8_isCode (xl x) E hp1 mμ2 h) rfl rfl dX8_same_15 (fun r8 μ7 hr8 mμ7 h => ?_)
    refine r_if_ne 27 dX8_same_18 rfl hr8 (fun c9 => ?_) (fun c9 => ?_)
    · have h := h.1 c9
      refine r_al0 dX8_same_27 ?_
      refine r_il1 dX8_same_28 ?_
      refine r_il2 dX8_same_29 ?_
      refine r_cVI2 B cb_X8_areOfOne lk_X8_291 cv_X8_areOfOne kd_115 (c_X8_areOfOne (xl x) E hp0 hp1 mμ7 h) rfl rfl dX8_same_30 (fun r11 μ10 hr11 mμ10 h => ?_)
      refine r_is3 dX8_same_33 rfl ?_
      refine r_iconst dX8_same_34 ?_
      refine r_is4 dX8_same_35 rfl ?_
      exact J_weak (t_X8_same_37 B hr hp0 hp1 hr11 (inR_k rfl) mμ10 h) (⟨rfl, ⟨rfl, ⟨rfl, ⟨rfl, ⟨rfl, trivial⟩⟩⟩⟩⟩)
    · have h := h.2 c9
      refine r_al0 dX8_same_21 ?_
      refine r_iconst dX8_same_22 ?_
      refine r_cVI1 B cb_X8_refused lk_X8_173 cv_X8_refused kd_115 (c_X8_refused (xl x) E (inR_k rfl) mμ7 h) rfl rfl dX8_same_23 (fun r29 μ28 hr29 mμ28 h => ?_)
      exact r_iret B hr hr29 mμ28 dX8_same_26 h
set_option maxRecDepth 20000 in
theorem t_X8_letter_81 {x : Cx} {E : Gx} (B : Bd x E 2 7 "SlipCoversModel") (hr : (xt x).sig.returnType = (some .int)) {Q : Int → Mem → Prop} {v2 : Int} {v4 : Int64} {v6 : Int} {μ : Mem} (hv2 : inR v2) (hv6 : inR v6) (hμ : okM μ) (h : LP4 (wp_X8_letter_81 Q) v2 v4 v6 μ) : J cX8_letter x E z0 μ 81 [none, none, some (iv v2), none, some (.long v4), none, some (iv v6)] [] (MQ (xb x) (QI E z0 Q) (xa x) (xs x) 0 0 (gA E)) := by
  refine LP4_ind (T := fun (v2 : Int) (v4 : Int64) (v6 : Int) (μ : Mem) => inR v2 → inR v6 → okM μ → J cX8_letter x E z0 μ 81 [none, none, some (iv v2), none, some (.long v4), none, some (iv v6)] [] (MQ (xb x) (QI E z0 Q) (xa x) (xs x) 0 0 (gA E))) (fun X81 hX81 v2 v4 v6 μ h hv2 hv6 hμ => ?_) h hv2 hv6 hμ
  unfold wp_X8_letter_81 at h
  refine r_il6 dX8_letter_81 ?_
  refine r_il2 dX8_letter_83 ?_
  refine r_icmp_le 101 dX8_letter_84 rfl hv6 hv2 (fun c13 => ?_) (fun c13 => ?_)
  · have h := h.1 c13
    refine r_ll4 dX8_letter_101 ?_
    refine r_ldc2 B kc_X8_81 dX8_letter_103 ?_
    refine r_lrem dX8_letter_106 (by decide) ?_
    refine r_l2i dX8_letter_107 ?_
    refine r_iconst dX8_letter_108 ?_
    refine r_isub dX8_letter_109 ?_
    obtain ⟨o15, h⟩ := h
    exact r_iret B hr o15 hμ dX8_letter_110 h
  · have h := h.2 c13
    refine r_ll4 dX8_letter_87 ?_
    refine r_ldc2 B kc_X8_81 dX8_letter_89 ?_
    refine r_ldiv dX8_letter_92 (by decide) ?_
    refine n_topl (fun y17 ey17 => ?_)
    have h := h y17 ey17
    refine r_ls4 dX8_letter_93 rfl ?_
    refine r_inc6 dX8_letter_95 rfl ?_
    obtain ⟨o18, h⟩ := h
    refine r_goto 81 dX8_letter_98 rfl ?_
    exact J_weak (hX81 v2 y17 (v6 + (-1)) μ h hv2 o18 hμ) (⟨rfl, ⟨rfl, ⟨rfl, trivial⟩⟩⟩)
set_option maxRecDepth 20000 in
theorem t_X8_letter_50 {x : Cx} {E : Gx} (B : Bd x E 2 7 "SlipCoversModel") (hr : (xt x).sig.returnType = (some .int)) {Q : Int → Mem → Prop} {v1 : Int} {v2 : Int} {v3 : Int} {μ : Mem} (hv1 : inR v1) (hv2 : inR v2) (hv3 : inR v3) (hμ : okM μ) (h : wp_X8_letter_50 Q v1 v2 v3 μ) : J cX8_letter x E z0 μ 50 [some (rv E 115), some (iv v1), some (iv v2), some (iv v3), none, none, none] [] (MQ (xb x) (QI E z0 Q) (xa x) (xs x) 0 0 (gA E)) := by
  unfold wp_X8_letter_50 at h
  refine r_il2 dX8_letter_50 ?_
  refine r_iconst dX8_letter_51 ?_
  refine r_il3 dX8_letter_52 ?_
  refine r_iconst dX8_letter_53 ?_
  refine r_isub dX8_letter_54 ?_
  obtain ⟨o6, h⟩ := h
  refine r_cSI3 B cb_X8_in lk_X8_63 cs_X8_in (c_X8_in (xl x) E hv2 (inR_k rfl) o6 hμ h) rfl rfl dX8_letter_55 (fun r8 μ7 hr8 mμ7 h => ?_)
  refine r_if_ne 68 dX8_letter_58 rfl hr8 (fun c9 => ?_) (fun c9 => ?_)
  · have h := h.1 c9
    refine r_al0 dX8_letter_68 ?_
    refine r_getR B 119 fg_X8_23 kd_115 (kl kd_115) (ρo (off := 4) kd_115 rfl) dX8_letter_69 ?_
    refine r_il1 dX8_letter_72 ?_
    obtain ⟨o10, h⟩ := h
    refine r_lald B kd_119 (kl kd_119) (by decide) o10 dX8_letter_73 ?_
    refine r_ls4 dX8_letter_74 rfl ?_
    refine r_il3 dX8_letter_76 ?_
    refine r_iconst dX8_letter_77 ?_
    refine r_isub dX8_letter_78 ?_
    obtain ⟨o12, h⟩ := h
    refine n_topi (fun x11 ex11 => ?_)
    have h := h x11 ex11
    refine r_is6 dX8_letter_79 rfl ?_
    exact J_weak (t_X8_letter_81 B hr hv2 (eqR ex11 o12) mμ7 h) (⟨rfl, ⟨rfl, ⟨rfl, trivial⟩⟩⟩)
  · have h := h.2 c9
    refine r_al0 dX8_letter_61 ?_
    refine r_iconst dX8_letter_62 ?_
    refine r_putI B fg_X8_42 fp_8_0 kd_115 (kl kd_115) dX8_letter_63 ?_
    refine n_mem (fun μ19 eμ19 => ?_)
    have h := h μ19 eμ19
    have mμ19 : okM μ19 := eqM eμ19 (okM_sI mμ7 (inR_k rfl))
    refine r_iconst dX8_letter_66 ?_
    exact r_iret B hr (inR_k rfl) mμ19 dX8_letter_67 h
set_option maxRecDepth 20000 in
theorem t_X8_letter_29 {x : Cx} {E : Gx} (B : Bd x E 2 7 "SlipCoversModel") (hr : (xt x).sig.returnType = (some .int)) {Q : Int → Mem → Prop} {v1 : Int} {v2 : Int} {v3 : Int} {v4 : Int64} {μ : Mem} (hv1 : inR v1) (hv2 : inR v2) (hv3 : inR v3) (hμ : okM μ) (h : LP5 (wp_X8_letter_29 Q) v1 v2 v3 v4 μ) : J cX8_letter x E z0 μ 29 [some (rv E 115), some (iv v1), some (iv v2), some (iv v3), some (.long v4), none, none] [] (MQ (xb x) (QI E z0 Q) (xa x) (xs x) 0 0 (gA E)) := by
  refine LP5_ind (T := fun (v1 : Int) (v2 : Int) (v3 : Int) (v4 : Int64) (μ : Mem) => inR v1 → inR v2 → inR v3 → okM μ → J cX8_letter x E z0 μ 29 [some (rv E 115), some (iv v1), some (iv v2), some (iv v3), some (.long v4), none, none] [] (MQ (xb x) (QI E z0 Q) (xa x) (xs x) 0 0 (gA E))) (fun X29 hX29 v1 v2 v3 v4 μ h hv1 hv2 hv3 hμ => ?_) h hv1 hv2 hv3 hμ
  unfold wp_X8_letter_29 at h
  refine r_ll4 dX8_letter_29 ?_
  refine r_lconst (v := 0) rfl dX8_letter_31 ?_
  refine r_lcmp dX8_letter_32 ?_
  refine r_if_le 50 dX8_letter_33 rfl (inR_t _) (fun c21 => ?_) (fun c21 => ?_)
  · have h := h.1 c21
    exact J_weak (t_X8_letter_50 B hr hv1 hv2 hv3 hμ h) (⟨rfl, ⟨rfl, ⟨rfl, ⟨rfl, trivial⟩⟩⟩⟩)
  · have h := h.2 c21
    refine r_inc3 dX8_letter_36 rfl ?_
    obtain ⟨o22, h⟩ := h
    refine r_ll4 dX8_letter_39 ?_
    refine r_ldc2 B kc_X8_81 dX8_letter_41 ?_
    refine r_ldiv dX8_letter_44 (by decide) ?_
    refine n_topl (fun y24 ey24 => ?_)
    have h := h y24 ey24
    refine r_ls4 dX8_letter_45 rfl ?_
    refine r_goto 29 dX8_letter_47 rfl ?_
    exact J_weak (hX29 v1 v2 (v3 + 1) y24 μ h hv1 hv2 o22 hμ) (⟨rfl, ⟨rfl, ⟨rfl, ⟨rfl, ⟨rfl, trivial⟩⟩⟩⟩⟩)
set_option maxRecDepth 20000 in
theorem c_X8_letter (l : Launch) (E : Gx) {p0 : Int} {p1 : Int} {μ : Mem} {Q : Int → Mem → Prop} (hp0 : inR p0) (hp1 : inR p1) (hμ : okM μ) (h : wp_X8_letter p0 p1 μ Q) : MT l yX8_letter cX8_letter 7 (some .int) E 2 0 0 z0 [rv E 115, iv p0, iv p1] μ (QI E z0 Q) := by
  refine m_start [some (rv E 115), some (iv p0), some (iv p1), none, none, none, none] (by decide) rfl rfl rfl (fun x hxl hxc hxs B hr hnm => ?_)
  unfold wp_X8_letter at h
  refine r_al0 dX8_letter_0 ?_
  refine r_iconst dX8_letter_1 ?_
  refine r_putI B fg_X8_42 fp_8_0 kd_115 (kl kd_115) dX8_letter_2 ?_
  refine n_mem (fun μ1 eμ1 => ?_)
  have h := h μ1 eμ1
  have mμ1 : okM μ1 := eqM eμ1 (okM_sI hμ (inR_k rfl))
  refine r_iconst dX8_letter_5 ?_
  refine r_is3 dX8_letter_6 rfl ?_
  refine r_il1 dX8_letter_7 ?_
  refine r_iconst dX8_letter_8 ?_
  refine r_al0 dX8_letter_9 ?_
  refine r_getI B fg_X8_183 kd_115 (kl kd_115) dX8_letter_10 ?_
  refine r_iconst dX8_letter_13 ?_
  refine r_isub dX8_letter_14 ?_
  obtain ⟨o2, h⟩ := h
  refine r_cSI3 B cb_X8_in lk_X8_63 cs_X8_in (c_X8_in (xl x) E hp0 (inR_k rfl) o2 mμ1 h) rfl rfl dX8_letter_15 (fun r4 μ3 hr4 mμ3 h => ?_)
  refine r_if_eq 50 dX8_letter_18 rfl hr4 (fun c5 => ?_) (fun c5 => ?_)
  · have h := h.1 c5
    exact J_weak (t_X8_letter_50 B hr hp0 hp1 (inR_k rfl) mμ3 h) (⟨rfl, ⟨rfl, ⟨rfl, ⟨rfl, trivial⟩⟩⟩⟩)
  · have h := h.2 c5
    refine r_al0 dX8_letter_21 ?_
    refine r_getR B 119 fg_X8_23 kd_115 (kl kd_115) (ρo (off := 4) kd_115 rfl) dX8_letter_22 ?_
    refine r_il1 dX8_letter_25 ?_
    obtain ⟨o20, h⟩ := h
    refine r_lald B kd_119 (kl kd_119) (by decide) o20 dX8_letter_26 ?_
    refine r_ls4 dX8_letter_27 rfl ?_
    exact J_weak (t_X8_letter_29 B hr hp0 hp1 (inR_k rfl) mμ3 h) (⟨rfl, ⟨rfl, ⟨rfl, ⟨rfl, ⟨rfl, trivial⟩⟩⟩⟩⟩)
set_option maxRecDepth 20000 in
theorem c_X8_bytes (l : Launch) (E : Gx) {μ : Mem} {Q : Int → Mem → Prop} (hμ : okM μ) (h : wp_X8_bytes  μ Q) : MT l yX8_bytes cX8_bytes 1 (some .int) E 1 0 0 z0 [rv E 115] μ (QI E z0 Q) := by
  refine m_start [some (rv E 115)] (by decide) rfl rfl rfl (fun x hxl hxc hxs B hr hnm => ?_)
  unfold wp_X8_bytes at h
  refine r_al0 dX8_bytes_0 ?_
  refine r_iconst dX8_bytes_1 ?_
  refine r_putI B fg_X8_42 fp_8_0 kd_115 (kl kd_115) dX8_bytes_2 ?_
  refine n_mem (fun μ1 eμ1 => ?_)
  have h := h μ1 eμ1
  have mμ1 : okM μ1 := eqM eμ1 (okM_sI hμ (inR_k rfl))
  refine r_al0 dX8_bytes_5 ?_
  refine r_getI B fg_X8_48 kd_115 (kl kd_115) dX8_bytes_6 ?_
  exact r_iret B hr (mμ1 115 4) mμ1 dX8_bytes_9 h
set_option maxRecDepth 20000 in
theorem c_X8_trouble (l : Launch) (E : Gx) {μ : Mem} {Q : Int → Mem → Prop} (hμ : okM μ) (h : wp_X8_trouble  μ Q) : MT l yX8_trouble cX8_trouble 1 (some .int) E 1 0 0 z0 [rv E 115] μ (QI E z0 Q) := by
  refine m_start [some (rv E 115)] (by decide) rfl rfl rfl (fun x hxl hxc hxs B hr hnm => ?_)
  unfold wp_X8_trouble at h
  refine r_al0 dX8_trouble_0 ?_
  refine r_iconst dX8_trouble_1 ?_
  refine r_putI B fg_X8_42 fp_8_0 kd_115 (kl kd_115) dX8_trouble_2 ?_
  refine n_mem (fun μ1 eμ1 => ?_)
  have h := h μ1 eμ1
  have mμ1 : okM μ1 := eqM eμ1 (okM_sI hμ (inR_k rfl))
  refine r_al0 dX8_trouble_5 ?_
  refine r_getI B fg_X8_45 kd_115 (kl kd_115) dX8_trouble_6 ?_
  exact r_iret B hr (mμ1 115 1) mμ1 dX8_trouble_9 h

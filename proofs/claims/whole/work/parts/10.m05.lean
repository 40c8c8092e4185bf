set_option maxRecDepth 20000 in
theorem c_X8_bound (l : Launch) (E : Gx) {p0 : Int} {p1 : Int} {μ : Mem} {Q : Int → Mem → Prop} (hp0 : inR p0) (hp1 : inR p1) (hμ : okM μ) (h : wp_X8_bound p0 p1 μ Q) : MT l yX8_bound cX8_bound 4 (some .int) E 4 0 0 z0 [rv E 115, iv p0, iv p1] μ (QI E z0 Q) := by
  refine m_start [some (rv E 115), some (iv p0), some (iv p1), none] (by decide) rfl rfl rfl (fun x hxl hxc hxs B hr hnm => ?_)
  unfold wp_X8_bound at h
  refine r_al0 dX8_bound_0 ?_
  refine r_iconst dX8_bound_1 ?_
  refine r_putI B fg_X8_42 fp_8_0 kd_115 (kl kd_115) dX8_bound_2 ?_
  refine n_mem (fun μ1 eμ1 => ?_)
  have h := h μ1 eμ1
  have mμ1 : okM μ1 := eqM eμ1 (okM_sI hμ (inR_k rfl))
  refine r_al0 dX8_bound_5 ?_
  refine r_il1 dX8_bound_6 ?_
  refine r_cVI1 B cb_X8_isCode lk_X8_192 cv_X8_isCode kd_115 (c_X8_isCode (xl x) E hp0 mμ1 h) rfl rfl dX8_bound_7 (fun r3 μ2 hr3 mμ2 h => ?_)
  refine r_if_ne 19 dX8_bound_10 rfl hr3 (fun c4 => ?_) (fun c4 => ?_)
  · have h := h.1 c4
    refine r_il2 dX8_bound_19 ?_
    refine r_cSI1 B cb_X8_isSlips lk_X8_223 cs_X8_isSlips (c_X8_isSlips (xl x) E hp1 mμ2 h) rfl rfl dX8_bound_20 (fun r6 μ5 hr6 mμ5 h => ?_)
    refine r_if_ne 32 dX8_bound_23 rfl hr6 (fun c7 => ?_) (fun c7 => ?_)
    · have h := h.1 c7
      refine r_al0 dX8_bound_32 ?_
      refine r_il1 dX8_bound_33 ?_
      refine r_il2 dX8_bound_34 ?_
      refine r_cVI2 B cb_X8_ballOf lk_X8_226 cv_X8_ballOf kd_115 (c_X8_ballOf (xl x) E hp0 hp1 mμ5 h) rfl rfl dX8_bound_35 (fun r9 μ8 hr9 mμ8 h => ?_)
      refine r_is3 dX8_bound_38 rfl ?_
      refine r_al0 dX8_bound_39 ?_
      refine r_al0 dX8_bound_40 ?_
      refine r_il1 dX8_bound_41 ?_
      refine r_cVI1 B cb_X8_words lk_X8_113 cv_X8_words kd_115 (c_X8_words (xl x) E hp0 mμ8 h) rfl rfl dX8_bound_42 (fun r11 μ10 hr11 mμ10 h => ?_)
      refine r_il3 dX8_bound_45 ?_
      refine r_iadd dX8_bound_46 ?_
      refine r_iconst dX8_bound_47 ?_
      refine r_isub dX8_bound_48 ?_
      refine r_il3 dX8_bound_49 ?_
      obtain ⟨o12, h⟩ := h
      obtain ⟨o13, h⟩ := h
      refine r_idiv dX8_bound_50 o13 o12 hr9 ?_
      refine r_cVI1 B cb_X8_good lk_X8_189 cv_X8_good kd_115 (c_X8_good (xl x) E (inR_idiv o13 o12 hr9) mμ10 h) rfl rfl dX8_bound_51 (fun r15 μ14 hr15 mμ14 h => ?_)
      exact r_iret B hr hr15 mμ14 dX8_bound_54 h
    · have h := h.2 c7
      refine r_al0 dX8_bound_26 ?_
      refine r_iconst dX8_bound_27 ?_
      refine r_cVI1 B cb_X8_refused lk_X8_173 cv_X8_refused kd_115 (c_X8_refused (xl x) E (inR_k rfl) mμ5 h) rfl rfl dX8_bound_28 (fun r17 μ16 hr17 mμ16 h => ?_)
      exact r_iret B hr hr17 mμ16 dX8_bound_31 h
  · have h := h.2 c4
    refine r_al0 dX8_bound_13 ?_
    refine r_iconst dX8_bound_14 ?_
    refine r_cVI1 B cb_X8_refused lk_X8_173 cv_X8_refused kd_115 (c_X8_refused (xl x) E (inR_k rfl) mμ2 h) rfl rfl dX8_bound_15 (fun r19 μ18 hr19 mμ18 h => ?_)
    exact r_iret B hr hr19 mμ18 dX8_bound_18 h
set_option maxRecDepth 20000 in
theorem t_X8_pairs_93 {x : Cx} {E : Gx} (B : Bd x E 3 6 "SlipCoversModel") (hr : (xt x).sig.returnType = (some .int)) {Q : Int → Mem → Prop} {X34 : Int → Int → Int → Int → Mem → Prop} (hX34 : ∀ (v1 : Int) (v2 : Int) (v3 : Int) (v4 : Int) (μ : Mem), X34 v1 v2 v3 v4 μ → inR v1 → inR v2 → inR v3 → inR v4 → okM μ → J cX8_pairs x E z0 μ 34 [some (rv E 115), some (iv v1), some (iv v2), some (iv v3), some (iv v4), none] [] (MQ (xb x) (QI E z0 Q) (xa x) (xs x) 0 0 (gA E))) {X47 : Int → Int → Int → Int → Int → Mem → Prop} (hX47 : ∀ (v1 : Int) (v2 : Int) (v3 : Int) (v4 : Int) (v5 : Int) (μ : Mem), X47 v1 v2 v3 v4 v5 μ → inR v1 → inR v2 → inR v3 → inR v4 → inR v5 → okM μ → J cX8_pairs x E z0 μ 47 [some (rv E 115), some (iv v1), some (iv v2), some (iv v3), some (iv v4), some (iv v5)] [] (MQ (xb x) (QI E z0 Q) (xa x) (xs x) 0 0 (gA E))) {v1 : Int} {v2 : Int} {v4 : Int} {v5 : Int} {s0 : Int} {s1 : Int} {μ : Mem} (hv1 : inR v1) (hv2 : inR v2) (hv4 : inR v4) (hv5 : inR v5) (hs0 : inR s0) (hs1 : inR s1) (hμ : okM μ) (h : wp_X8_pairs_93 Q X34 X47 v1 v2 v4 v5 s0 s1 μ) : J cX8_pairs x E z0 μ 93 [some (rv E 115), some (iv v1), some (iv v2), none, some (iv v4), some (iv v5)] [iv s1, iv s0] (MQ (xb x) (QI E z0 Q) (xa x) (xs x) 0 0 (gA E)) := by
  unfold wp_X8_pairs_93 at h
  refine r_iadd dX8_pairs_93 ?_
  obtain ⟨o17, h⟩ := h
  refine n_topi (fun x16 ex16 => ?_)
  have h := h x16 ex16
  refine r_is3 dX8_pairs_94 rfl ?_
  refine r_inc5 dX8_pairs_95 rfl ?_
  obtain ⟨o18, h⟩ := h
  refine r_goto 47 dX8_pairs_98 rfl ?_
  exact J_weak (hX47 v1 v2 x16 v4 (v5 + 1) μ h hv1 hv2 (eqR ex16 o17) hv4 o18 hμ) (⟨rfl, ⟨rfl, ⟨rfl, ⟨rfl, ⟨rfl, ⟨rfl, trivial⟩⟩⟩⟩⟩⟩)
set_option maxRecDepth 20000 in
theorem t_X8_pairs_92 {x : Cx} {E : Gx} (B : Bd x E 3 6 "SlipCoversModel") (hr : (xt x).sig.returnType = (some .int)) {Q : Int → Mem → Prop} {X34 : Int → Int → Int → Int → Mem → Prop} (hX34 : ∀ (v1 : Int) (v2 : Int) (v3 : Int) (v4 : Int) (μ : Mem), X34 v1 v2 v3 v4 μ → inR v1 → inR v2 → inR v3 → inR v4 → okM μ → J cX8_pairs x E z0 μ 34 [some (rv E 115), some (iv v1), some (iv v2), some (iv v3), some (iv v4), none] [] (MQ (xb x) (QI E z0 Q) (xa x) (xs x) 0 0 (gA E))) {X47 : Int → Int → Int → Int → Int → Mem → Prop} (hX47 : ∀ (v1 : Int) (v2 : Int) (v3 : Int) (v4 : Int) (v5 : Int) (μ : Mem), X47 v1 v2 v3 v4 v5 μ → inR v1 → inR v2 → inR v3 → inR v4 → inR v5 → okM μ → J cX8_pairs x E z0 μ 47 [some (rv E 115), some (iv v1), some (iv v2), some (iv v3), some (iv v4), some (iv v5)] [] (MQ (xb x) (QI E z0 Q) (xa x) (xs x) 0 0 (gA E))) {v1 : Int} {v2 : Int} {v4 : Int} {v5 : Int} {s0 : Int} {μ : Mem} (hv1 : inR v1) (hv2 : inR v2) (hv4 : inR v4) (hv5 : inR v5) (hs0 : inR s0) (hμ : okM μ) (h : wp_X8_pairs_92 Q X34 X47 v1 v2 v4 v5 s0 μ) : J cX8_pairs x E z0 μ 92 [some (rv E 115), some (iv v1), some (iv v2), none, some (iv v4), some (iv v5)] [iv s0] (MQ (xb x) (QI E z0 Q) (xa x) (xs x) 0 0 (gA E)) := by
  unfold wp_X8_pairs_92 at h
  refine r_iconst dX8_pairs_92 ?_
  exact J_weak (t_X8_pairs_93 B hr hX34 hX47 hv1 hv2 hv4 hv5 hs0 (inR_k rfl) hμ h) (⟨rfl, ⟨rfl, ⟨rfl, ⟨rfl, ⟨rfl, trivial⟩⟩⟩⟩⟩)
set_option maxRecDepth 20000 in
theorem t_X8_pairs_47 {x : Cx} {E : Gx} (B : Bd x E 3 6 "SlipCoversModel") (hr : (xt x).sig.returnType = (some .int)) {Q : Int → Mem → Prop} {X34 : Int → Int → Int → Int → Mem → Prop} (hX34 : ∀ (v1 : Int) (v2 : Int) (v3 : Int) (v4 : Int) (μ : Mem), X34 v1 v2 v3 v4 μ → inR v1 → inR v2 → inR v3 → inR v4 → okM μ → J cX8_pairs x E z0 μ 34 [some (rv E 115), some (iv v1), some (iv v2), some (iv v3), some (iv v4), none] [] (MQ (xb x) (QI E z0 Q) (xa x) (xs x) 0 0 (gA E))) {v1 : Int} {v2 : Int} {v3 : Int} {v4 : Int} {v5 : Int} {μ : Mem} (hv1 : inR v1) (hv2 : inR v2) (hv3 : inR v3) (hv4 : inR v4) (hv5 : inR v5) (hμ : okM μ) (h : LP6 (wp_X8_pairs_47 Q X34) v1 v2 v3 v4 v5 μ) : J cX8_pairs x E z0 μ 47 [some (rv E 115), some (iv v1), some (iv v2), some (iv v3), some (iv v4), some (iv v5)] [] (MQ (xb x) (QI E z0 Q) (xa x) (xs x) 0 0 (gA E)) := by
  refine LP6_ind (T := fun (v1 : Int) (v2 : Int) (v3 : Int) (v4 : Int) (v5 : Int) (μ : Mem) => inR v1 → inR v2 → inR v3 → inR v4 → inR v5 → okM μ → J cX8_pairs x E z0 μ 47 [some (rv E 115), some (iv v1), some (iv v2), some (iv v3), some (iv v4), some (iv v5)] [] (MQ (xb x) (QI E z0 Q) (xa x) (xs x) 0 0 (gA E))) (fun X47 hX47 v1 v2 v3 v4 v5 μ h hv1 hv2 hv3 hv4 hv5 hμ => ?_) h hv1 hv2 hv3 hv4 hv5 hμ
  unfold wp_X8_pairs_47 at h
  refine r_il5 dX8_pairs_47 ?_
  refine r_il4 dX8_pairs_49 ?_
  refine r_icmp_ge 101 dX8_pairs_51 rfl hv5 hv4 (fun c11 => ?_) (fun c11 => ?_)
  · have h := h.1 c11
    refine r_inc4 dX8_pairs_101 rfl ?_
    obtain ⟨o12, h⟩ := h
    refine r_goto 34 dX8_pairs_104 rfl ?_
    exact J_weak (hX34 v1 v2 v3 (v4 + 1) μ h hv1 hv2 hv3 o12 hμ) (⟨rfl, ⟨rfl, ⟨rfl, ⟨rfl, ⟨rfl, trivial⟩⟩⟩⟩⟩)
  · have h := h.2 c11
    refine r_il3 dX8_pairs_54 ?_
    refine r_al0 dX8_pairs_55 ?_
    refine r_il1 dX8_pairs_56 ?_
    refine r_il4 dX8_pairs_57 ?_
    refine r_cVI2 B cb_X8_isIn lk_X8_116 cv_X8_isIn kd_115 (c_X8_isIn (xl x) E hv1 hv4 hμ h) rfl rfl dX8_pairs_59 (fun r14 μ13 hr14 mμ13 h => ?_)
    refine r_if_eq 92 dX8_pairs_62 rfl hr14 (fun c15 => ?_) (fun c15 => ?_)
    · have h := h.1 c15
      exact J_weak (t_X8_pairs_92 B hr hX34 hX47 hv1 hv2 hv4 hv5 hv3 mμ13 h) (⟨rfl, ⟨rfl, ⟨rfl, ⟨rfl, ⟨rfl, trivial⟩⟩⟩⟩⟩)
    · have h := h.2 c15
      refine r_al0 dX8_pairs_65 ?_
      refine r_il1 dX8_pairs_66 ?_
      refine r_il5 dX8_pairs_67 ?_
      refine r_cVI2 B cb_X8_isIn lk_X8_116 cv_X8_isIn kd_115 (c_X8_isIn (xl x) E hv1 hv5 mμ13 h) rfl rfl dX8_pairs_69 (fun r20 μ19 hr20 mμ19 h => ?_)
      refine r_if_eq 92 dX8_pairs_72 rfl hr20 (fun c21 => ?_) (fun c21 => ?_)
      · have h := h.1 c21
        exact J_weak (t_X8_pairs_92 B hr hX34 hX47 hv1 hv2 hv4 hv5 hv3 mμ19 h) (⟨rfl, ⟨rfl, ⟨rfl, ⟨rfl, ⟨rfl, trivial⟩⟩⟩⟩⟩)
      · have h := h.2 c21
        refine r_al0 dX8_pairs_75 ?_
        refine r_il1 dX8_pairs_76 ?_
        refine r_il4 dX8_pairs_77 ?_
        refine r_il5 dX8_pairs_79 ?_
        refine r_cVI3 B cb_X8_farOf lk_X8_195 cv_X8_farOf kd_115 (c_X8_farOf (xl x) E hv1 hv4 hv5 mμ19 h) rfl rfl dX8_pairs_81 (fun r23 μ22 hr23 mμ22 h => ?_)
        refine r_il2 dX8_pairs_84 ?_
        refine r_icmp_ne 92 dX8_pairs_85 rfl hr23 hv2 (fun c24 => ?_) (fun c24 => ?_)
        · have h := h.1 c24
          exact J_weak (t_X8_pairs_92 B hr hX34 hX47 hv1 hv2 hv4 hv5 hv3 mμ22 h) (⟨rfl, ⟨rfl, ⟨rfl, ⟨rfl, ⟨rfl, trivial⟩⟩⟩⟩⟩)
        · have h := h.2 c24
          refine r_iconst dX8_pairs_88 ?_
          refine r_goto 93 dX8_pairs_89 rfl ?_
          exact J_weak (t_X8_pairs_93 B hr hX34 hX47 hv1 hv2 hv4 hv5 hv3 (inR_k rfl) mμ22 h) (⟨rfl, ⟨rfl, ⟨rfl, ⟨rfl, ⟨rfl, trivial⟩⟩⟩⟩⟩)
set_option maxRecDepth 20000 in
theorem t_X8_pairs_34 {x : Cx} {E : Gx} (B : Bd x E 3 6 "SlipCoversModel") (hr : (xt x).sig.returnType = (some .int)) {Q : Int → Mem → Prop} {v1 : Int} {v2 : Int} {v3 : Int} {v4 : Int} {μ : Mem} (hv1 : inR v1) (hv2 : inR v2) (hv3 : inR v3) (hv4 : inR v4) (hμ : okM μ) (h : LP5 (wp_X8_pairs_34 Q) v1 v2 v3 v4 μ) : J cX8_pairs x E z0 μ 34 [some (rv E 115), some (iv v1), some (iv v2), some (iv v3), some (iv v4), none] [] (MQ (xb x) (QI E z0 Q) (xa x) (xs x) 0 0 (gA E)) := by
  refine LP5_ind (T := fun (v1 : Int) (v2 : Int) (v3 : Int) (v4 : Int) (μ : Mem) => inR v1 → inR v2 → inR v3 → inR v4 → okM μ → J cX8_pairs x E z0 μ 34 [some (rv E 115), some (iv v1), some (iv v2), some (iv v3), some (iv v4), none] [] (MQ (xb x) (QI E z0 Q) (xa x) (xs x) 0 0 (gA E))) (fun X34 hX34 v1 v2 v3 v4 μ h hv1 hv2 hv3 hv4 hμ => ?_) h hv1 hv2 hv3 hv4 hμ
  unfold wp_X8_pairs_34 at h
  refine r_il4 dX8_pairs_34 ?_
  refine r_al0 dX8_pairs_36 ?_
  refine r_il1 dX8_pairs_37 ?_
  refine r_cVI1 B cb_X8_words lk_X8_113 cv_X8_words kd_115 (c_X8_words (xl x) E hv1 hμ h) rfl rfl dX8_pairs_38 (fun r7 μ6 hr7 mμ6 h => ?_)
  refine r_icmp_ge 107 dX8_pairs_41 rfl hv4 hr7 (fun c8 => ?_) (fun c8 => ?_)
  · have h := h.1 c8
    refine r_al0 dX8_pairs_107 ?_
    refine r_il3 dX8_pairs_108 ?_
    refine r_cVI1 B cb_X8_good lk_X8_189 cv_X8_good kd_115 (c_X8_good (xl x) E hv3 mμ6 h) rfl rfl dX8_pairs_109 (fun r10 μ9 hr10 mμ9 h => ?_)
    exact r_iret B hr hr10 mμ9 dX8_pairs_112 h
  · have h := h.2 c8
    refine r_iconst dX8_pairs_44 ?_
    refine r_is5 dX8_pairs_45 rfl ?_
    exact J_weak (t_X8_pairs_47 B hr hX34 hv1 hv2 hv3 hv4 (inR_k rfl) mμ6 h) (⟨rfl, ⟨rfl, ⟨rfl, ⟨rfl, ⟨rfl, ⟨rfl, trivial⟩⟩⟩⟩⟩⟩)
set_option maxRecDepth 20000 in
theorem c_X8_pairs (l : Launch) (E : Gx) {p0 : Int} {p1 : Int} {μ : Mem} {Q : Int → Mem → Prop} (hp0 : inR p0) (hp1 : inR p1) (hμ : okM μ) (h : wp_X8_pairs p0 p1 μ Q) : MT l yX8_pairs cX8_pairs 6 (some .int) E 3 0 0 z0 [rv E 115, iv p0, iv p1] μ (QI E z0 Q) := by
  refine m_start [some (rv E 115), some (iv p0), some (iv p1), none, none, none] (by decide) rfl rfl rfl (fun x hxl hxc hxs B hr hnm => ?_)
  unfold wp_X8_pairs at h
  refine r_al0 dX8_pairs_0 ?_
  refine r_iconst dX8_pairs_1 ?_
  refine r_putI B fg_X8_42 fp_8_0 kd_115 (kl kd_115) dX8_pairs_2 ?_
  refine n_mem (fun μ1 eμ1 => ?_)
  have h := h μ1 eμ1
  have mμ1 : okM μ1 := eqM eμ1 (okM_sI hμ (inR_k rfl))
  refine r_al0 dX8_pairs_5 ?_
  refine r_il1 dX8_pairs_6 ?_
  refine r_cVI1 B cb_X8_isCode lk_X8_192 cv_X8_isCode kd_115 (c_X8_isCode (xl x) E hp0 mμ1 h) rfl rfl dX8_pairs_7 (fun r3 μ2 hr3 mμ2 h => ?_)
  refine r_if_ne 19 dX8_pairs_10 rfl hr3 (fun c4 => ?_) (fun c4 => ?_)
  · have h := h.1 c4
    refine r_il2 dX8_pairs_19 ?_
    refine r_if_ge 29 dX8_pairs_20 rfl hp1 (fun c5 => ?_) (fun c5 => ?_)
    · have h := h.1 c5
      refine r_iconst dX8_pairs_29 ?_
      refine r_is3 dX8_pairs_30 rfl ?_
      refine r_iconst dX8_pairs_31 ?_
      refine r_is4 dX8_pairs_32 rfl ?_
      exact J_weak (t_X8_pairs_34 B hr hp0 hp1 (inR_k rfl) (inR_k rfl) mμ2 h) (⟨rfl, ⟨rfl, ⟨rfl, ⟨rfl, ⟨rfl, trivial⟩⟩⟩⟩⟩)
    · have h := h.2 c5
      refine r_al0 dX8_pairs_23 ?_
      refine r_iconst dX8_pairs_24 ?_
      refine r_cVI1 B cb_X8_refused lk_X8_173 cv_X8_refused kd_115 (c_X8_refused (xl x) E (inR_k rfl) mμ2 h) rfl rfl dX8_pairs_25 (fun r26 μ25 hr26 mμ25 h => ?_)
      exact r_iret B hr hr26 mμ25 dX8_pairs_28 h
  · have h := h.2 c4
    refine r_al0 dX8_pairs_13 ?_
    refine r_iconst dX8_pairs_14 ?_
    refine r_cVI1 B cb_X8_refused lk_X8_173 cv_X8_refused kd_115 (c_X8_refused (xl x) E (inR_k rfl) mμ2 h) rfl rfl dX8_pairs_15 (fun r28 μ27 hr28 mμ27 h => ?_)
    exact r_iret B hr hr28 mμ27 dX8_pairs_18 h
set_option maxRecDepth 20000 in
theorem t_X8_mostOf_5 {x : Cx} {E : Gx} (B : Bd x E 3 5 "SlipCoversModel") (hr : (xt x).sig.returnType = (some .int)) {Q : Int → Mem → Prop} {v1 : Int} {v2 : Int} {v3 : Int} {v4 : Int} {μ : Mem} (hv1 : inR v1) (hv2 : inR v2) (hv3 : inR v3) (hv4 : inR v4) (hμ : okM μ) (h : LP5 (wp_X8_mostOf_5 Q) v1 v2 v3 v4 μ) : J cX8_mostOf x E z0 μ 5 [some (rv E 115), some (iv v1), some (iv v2), some (iv v3), some (iv v4)] [] (MQ (xb x) (QI E z0 Q) (xa x) (xs x) 0 0 (gA E)) := by
  refine LP5_ind (T := fun (v1 : Int) (v2 : Int) (v3 : Int) (v4 : Int) (μ : Mem) => inR v1 → inR v2 → inR v3 → inR v4 → okM μ → J cX8_mostOf x E z0 μ 5 [some (rv E 115), some (iv v1), some (iv v2), some (iv v3), some (iv v4)] [] (MQ (xb x) (QI E z0 Q) (xa x) (xs x) 0 0 (gA E))) (fun X5 hX5 v1 v2 v3 v4 μ h hv1 hv2 hv3 hv4 hμ => ?_) h hv1 hv2 hv3 hv4 hμ
  unfold wp_X8_mostOf_5 at h
  refine r_il4 dX8_mostOf_5 ?_
  refine r_al0 dX8_mostOf_7 ?_
  refine r_il1 dX8_mostOf_8 ?_
  refine r_cVI1 B cb_X8_words lk_X8_113 cv_X8_words kd_115 (c_X8_words (xl x) E hv1 hμ h) rfl rfl dX8_mostOf_9 (fun r2 μ1 hr2 mμ1 h => ?_)
  refine r_icmp_ge 52 dX8_mostOf_12 rfl hv4 hr2 (fun c3 => ?_) (fun c3 => ?_)
  · have h := h.1 c3
    refine r_il3 dX8_mostOf_52 ?_
    exact r_iret B hr hv3 mμ1 dX8_mostOf_53 h
  · have h := h.2 c3
    refine r_al0 dX8_mostOf_15 ?_
    refine r_il1 dX8_mostOf_16 ?_
    refine r_il4 dX8_mostOf_17 ?_
    refine r_cVI2 B cb_X8_isIn lk_X8_116 cv_X8_isIn kd_115 (c_X8_isIn (xl x) E hv1 hv4 mμ1 h) rfl rfl dX8_mostOf_19 (fun r5 μ4 hr5 mμ4 h => ?_)
    refine r_if_eq 46 dX8_mostOf_22 rfl hr5 (fun c6 => ?_) (fun c6 => ?_)
    · have h := h.1 c6
      refine r_inc4 dX8_mostOf_46 rfl ?_
      obtain ⟨o7, h⟩ := h
      refine r_goto 5 dX8_mostOf_49 rfl ?_
      exact J_weak (hX5 v1 v2 v3 (v4 + 1) μ4 h hv1 hv2 hv3 o7 mμ4) (⟨rfl, ⟨rfl, ⟨rfl, ⟨rfl, ⟨rfl, trivial⟩⟩⟩⟩⟩)
    · have h := h.2 c6
      refine r_al0 dX8_mostOf_25 ?_
      refine r_il1 dX8_mostOf_26 ?_
      refine r_il2 dX8_mostOf_27 ?_
      refine r_il4 dX8_mostOf_28 ?_
      refine r_cVI3 B cb_X8_farOf lk_X8_195 cv_X8_farOf kd_115 (c_X8_farOf (xl x) E hv1 hv2 hv4 mμ4 h) rfl rfl dX8_mostOf_30 (fun r9 μ8 hr9 mμ8 h => ?_)
      refine r_il3 dX8_mostOf_33 ?_
      refine r_icmp_le 46 dX8_mostOf_34 rfl hr9 hv3 (fun c10 => ?_) (fun c10 => ?_)
      · have h := h.1 c10
        refine r_inc4 dX8_mostOf_46 rfl ?_
        obtain ⟨o11, h⟩ := h
        refine r_goto 5 dX8_mostOf_49 rfl ?_
        exact J_weak (hX5 v1 v2 v3 (v4 + 1) μ8 h hv1 hv2 hv3 o11 mμ8) (⟨rfl, ⟨rfl, ⟨rfl, ⟨rfl, ⟨rfl, trivial⟩⟩⟩⟩⟩)
      · have h := h.2 c10
        refine r_al0 dX8_mostOf_37 ?_
        refine r_il1 dX8_mostOf_38 ?_
        refine r_il2 dX8_mostOf_39 ?_
        refine r_il4 dX8_mostOf_40 ?_
        refine r_cVI3 B cb_X8_farOf lk_X8_195 cv_X8_farOf kd_115 (c_X8_farOf (xl x) E hv1 hv2 hv4 mμ8 h) rfl rfl dX8_mostOf_42 (fun r13 μ12 hr13 mμ12 h => ?_)
        refine r_is3 dX8_mostOf_45 rfl ?_
        refine r_inc4 dX8_mostOf_46 rfl ?_
        obtain ⟨o14, h⟩ := h
        refine r_goto 5 dX8_mostOf_49 rfl ?_
        exact J_weak (hX5 v1 v2 r13 (v4 + 1) μ12 h hv1 hv2 hr13 o14 mμ12) (⟨rfl, ⟨rfl, ⟨rfl, ⟨rfl, ⟨rfl, trivial⟩⟩⟩⟩⟩)
set_option maxRecDepth 20000 in
theorem c_X8_mostOf (l : Launch) (E : Gx) {p0 : Int} {p1 : Int} {μ : Mem} {Q : Int → Mem → Prop} (hp0 : inR p0) (hp1 : inR p1) (hμ : okM μ) (h : wp_X8_mostOf p0 p1 μ Q) : MT l yX8_mostOf cX8_mostOf 5 (some .int) E 3 0 0 z0 [rv E 115, iv p0, iv p1] μ (QI E z0 Q) := by
  refine m_start [some (rv E 115), some (iv p0), some (iv p1), none, none] (by decide) rfl rfl rfl (fun x hxl hxc hxs B hr hnm => ?_)
  unfold wp_X8_mostOf at h
  refine r_iconst dX8_mostOf_0 ?_
  refine r_is3 dX8_mostOf_1 rfl ?_
  refine r_iconst dX8_mostOf_2 ?_
  refine r_is4 dX8_mostOf_3 rfl ?_
  exact J_weak (t_X8_mostOf_5 B hr hp0 hp1 (inR_k rfl) (inR_k rfl) hμ h) (⟨rfl, ⟨rfl, ⟨rfl, ⟨rfl, ⟨rfl, trivial⟩⟩⟩⟩⟩)
set_option maxRecDepth 20000 in
theorem t_X8_centre_47 {x : Cx} {E : Gx} (B : Bd x E 4 5 "SlipCoversModel") (hr : (xt x).sig.returnType = (some .int)) {Q : Int → Mem → Prop} {v1 : Int} {v2 : Int} {v3 : Int} {v4 : Int} {μ : Mem} (hv1 : inR v1) (hv2 : inR v2) (hv3 : inR v3) (hv4 : inR v4) (hμ : okM μ) (h : LP5 (wp_X8_centre_47 Q) v1 v2 v3 v4 μ) : J cX8_centre x E z0 μ 47 [some (rv E 115), some (iv v1), some (iv v2), some (iv v3), some (iv v4)] [] (MQ (xb x) (QI E z0 Q) (xa x) (xs x) 0 0 (gA E)) := by
  refine LP5_ind (T := fun (v1 : Int) (v2 : Int) (v3 : Int) (v4 : Int) (μ : Mem) => inR v1 → inR v2 → inR v3 → inR v4 → okM μ → J cX8_centre x E z0 μ 47 [some (rv E 115), some (iv v1), some (iv v2), some (iv v3), some (iv v4)] [] (MQ (xb x) (QI E z0 Q) (xa x) (xs x) 0 0 (gA E))) (fun X47 hX47 v1 v2 v3 v4 μ h hv1 hv2 hv3 hv4 hμ => ?_) h hv1 hv2 hv3 hv4 hμ
  unfold wp_X8_centre_47 at h
  refine r_il4 dX8_centre_47 ?_
  refine r_al0 dX8_centre_49 ?_
  refine r_il1 dX8_centre_50 ?_
  refine r_cVI1 B cb_X8_words lk_X8_113 cv_X8_words kd_115 (c_X8_words (xl x) E hv1 hμ h) rfl rfl dX8_centre_51 (fun r14 μ13 hr14 mμ13 h => ?_)
  refine r_icmp_ge 82 dX8_centre_54 rfl hv4 hr14 (fun c15 => ?_) (fun c15 => ?_)
  · have h := h.1 c15
    refine r_al0 dX8_centre_82 ?_
    refine r_il2 dX8_centre_83 ?_
    refine r_if_ne 91 dX8_centre_84 rfl hv2 (fun c16 => ?_) (fun c16 => ?_)
    · have h := h.1 c16
      refine r_al0 dX8_centre_91 ?_
      refine r_il1 dX8_centre_92 ?_
      refine r_il3 dX8_centre_93 ?_
      refine r_cVI2 B cb_X8_mostOf lk_X8_232 cv_X8_mostOf kd_115 (c_X8_mostOf (xl x) E hv1 hv3 mμ13 h) rfl rfl dX8_centre_94 (fun r18 μ17 hr18 mμ17 h => ?_)
      refine r_cVI1 B cb_X8_good lk_X8_189 cv_X8_good kd_115 (c_X8_good (xl x) E hr18 mμ17 h) rfl rfl dX8_centre_97 (fun r20 μ19 hr20 mμ19 h => ?_)
      exact r_iret B hr hr20 mμ19 dX8_centre_100 h
    · have h := h.2 c16
      refine r_il3 dX8_centre_87 ?_
      refine r_goto 97 dX8_centre_88 rfl ?_
      refine r_cVI1 B cb_X8_good lk_X8_189 cv_X8_good kd_115 (c_X8_good (xl x) E hv3 mμ13 h) rfl rfl dX8_centre_97 (fun r22 μ21 hr22 mμ21 h => ?_)
      exact r_iret B hr hr22 mμ21 dX8_centre_100 h
  · have h := h.2 c15
    refine r_al0 dX8_centre_57 ?_
    refine r_il1 dX8_centre_58 ?_
    refine r_il4 dX8_centre_59 ?_
    refine r_cVI2 B cb_X8_mostOf lk_X8_232 cv_X8_mostOf kd_115 (c_X8_mostOf (xl x) E hv1 hv4 mμ13 h) rfl rfl dX8_centre_61 (fun r24 μ23 hr24 mμ23 h => ?_)
    refine r_al0 dX8_centre_64 ?_
    refine r_il1 dX8_centre_65 ?_
    refine r_il3 dX8_centre_66 ?_
    refine r_cVI2 B cb_X8_mostOf lk_X8_232 cv_X8_mostOf kd_115 (c_X8_mostOf (xl x) E hv1 hv3 mμ23 h) rfl rfl dX8_centre_67 (fun r26 μ25 hr26 mμ25 h => ?_)
    refine r_icmp_ge 76 dX8_centre_70 rfl hr24 hr26 (fun c27 => ?_) (fun c27 => ?_)
    · have h := h.1 c27
      refine r_inc4 dX8_centre_76 rfl ?_
      obtain ⟨o28, h⟩ := h
      refine r_goto 47 dX8_centre_79 rfl ?_
      exact J_weak (hX47 v1 v2 v3 (v4 + 1) μ25 h hv1 hv2 hv3 o28 mμ25) (⟨rfl, ⟨rfl, ⟨rfl, ⟨rfl, ⟨rfl, trivial⟩⟩⟩⟩⟩)
    · have h := h.2 c27
      refine r_il4 dX8_centre_73 ?_
      refine r_is3 dX8_centre_75 rfl ?_
      refine r_inc4 dX8_centre_76 rfl ?_
      obtain ⟨o29, h⟩ := h
      refine r_goto 47 dX8_centre_79 rfl ?_
      exact J_weak (hX47 v1 v2 v4 (v4 + 1) μ25 h hv1 hv2 hv4 o29 mμ25) (⟨rfl, ⟨rfl, ⟨rfl, ⟨rfl, ⟨rfl, trivial⟩⟩⟩⟩⟩)
set_option maxRecDepth 20000 in
theorem c_X8_centre (l : Launch) (E : Gx) {p0 : Int} {p1 : Int} {μ : Mem} {Q : Int → Mem → Prop} (hp0 : inR p0) (hp1 : inR p1) (hμ : okM μ) (h : wp_X8_centre p0 p1 μ Q) : MT l yX8_centre cX8_centre 5 (some .int) E 4 0 0 z0 [rv E 115, iv p0, iv p1] μ (QI E z0 Q) := by
  refine m_start [some (rv E 115), some (iv p0), some (iv p1), none, none] (by decide) rfl rfl rfl (fun x hxl hxc hxs B hr hnm => ?_)
  unfold wp_X8_centre at h
  refine r_al0 dX8_centre_0 ?_
  refine r_iconst dX8_centre_1 ?_
  refine r_putI B fg_X8_42 fp_8_0 kd_115 (kl kd_115) dX8_centre_2 ?_
  refine n_mem (fun μ1 eμ1 => ?_)
  have h := h μ1 eμ1
  have mμ1 : okM μ1 := eqM eμ1 (okM_sI hμ (inR_k rfl))
  refine r_al0 dX8_centre_5 ?_
  refine r_il1 dX8_centre_6 ?_
  refine r_cVI1 B cb_X8_isCode lk_X8_192 cv_X8_isCode kd_115 (c_X8_isCode (xl x) E hp0 mμ1 h) rfl rfl dX8_centre_7 (fun r3 μ2 hr3 mμ2 h => ?_)
  refine r_if_eq 22 dX8_centre_10 rfl hr3 (fun c4 => ?_) (fun c4 => ?_)
  · have h := h.1 c4
    refine r_al0 dX8_centre_22 ?_
    refine r_iconst dX8_centre_23 ?_
    refine r_cVI1 B cb_X8_refused lk_X8_173 cv_X8_refused kd_115 (c_X8_refused (xl x) E (inR_k rfl) mμ2 h) rfl rfl dX8_centre_24 (fun r6 μ5 hr6 mμ5 h => ?_)
    exact r_iret B hr hr6 mμ5 dX8_centre_27 h
  · have h := h.2 c4
    refine r_il2 dX8_centre_13 ?_
    refine r_iconst dX8_centre_14 ?_
    refine r_iconst dX8_centre_15 ?_
    refine r_cSI3 B cb_X8_in lk_X8_63 cs_X8_in (c_X8_in (xl x) E hp1 (inR_k rfl) (inR_k rfl) mμ2 h) rfl rfl dX8_centre_16 (fun r8 μ7 hr8 mμ7 h => ?_)
    refine r_if_ne 28 dX8_centre_19 rfl hr8 (fun c9 => ?_) (fun c9 => ?_)
    · have h := h.1 c9
      refine r_al0 dX8_centre_28 ?_
      refine r_il1 dX8_centre_29 ?_
      refine r_cVI1 B cb_X8_many lk_X8_199 cv_X8_many kd_115 (c_X8_many (xl x) E hp0 mμ7 h) rfl rfl dX8_centre_30 (fun r11 μ10 hr11 mμ10 h => ?_)
      refine r_if_ne 42 dX8_centre_33 rfl hr11 (fun c12 => ?_) (fun c12 => ?_)
      · have h := h.1 c12
        refine r_iconst dX8_centre_42 ?_
        refine r_is3 dX8_centre_43 rfl ?_
        refine r_iconst dX8_centre_44 ?_
        refine r_is4 dX8_centre_45 rfl ?_
        exact J_weak (t_X8_centre_47 B hr hp0 hp1 (inR_k rfl) (inR_k rfl) mμ10 h) (⟨rfl, ⟨rfl, ⟨rfl, ⟨rfl, ⟨rfl, trivial⟩⟩⟩⟩⟩)
      · have h := h.2 c12
        refine r_al0 dX8_centre_36 ?_
        refine r_iconst dX8_centre_37 ?_
        refine r_cVI1 B cb_X8_refused lk_X8_173 cv_X8_refused kd_115 (c_X8_refused (xl x) E (inR_k rfl) mμ10 h) rfl rfl dX8_centre_38 (fun r31 μ30 hr31 mμ30 h => ?_)
        exact r_iret B hr hr31 mμ30 dX8_centre_41 h
    · have h := h.2 c9
      refine r_al0 dX8_centre_22 ?_
      refine r_iconst dX8_centre_23 ?_
      refine r_cVI1 B cb_X8_refused lk_X8_173 cv_X8_refused kd_115 (c_X8_refused (xl x) E (inR_k rfl) mμ7 h) rfl rfl dX8_centre_24 (fun r33 μ32 hr33 mμ32 h => ?_)
      exact r_iret B hr hr33 mμ32 dX8_centre_27 h
set_option maxRecDepth 20000 in
theorem t_X8_nearest_68 {x : Cx} {E : Gx} (B : Bd x E 4 5 "SlipCoversModel") (hr : (xt x).sig.returnType = (some .int)) {Q : Int → Mem → Prop} {X25 : Int → Int → Int → Int → Mem → Prop} (hX25 : ∀ (v1 : Int) (v2 : Int) (v3 : Int) (v4 : Int) (μ : Mem), X25 v1 v2 v3 v4 μ → inR v1 → inR v2 → inR v3 → inR v4 → okM μ → J cX8_nearest x E z0 μ 25 [some (rv E 115), some (iv v1), some (iv v2), some (iv v3), some (iv v4)] [] (MQ (xb x) (QI E z0 Q) (xa x) (xs x) 0 0 (gA E))) {v1 : Int} {v2 : Int} {v4 : Int} {μ : Mem} (hv1 : inR v1) (hv2 : inR v2) (hv4 : inR v4) (hμ : okM μ) (h : wp_X8_nearest_68 Q X25 v1 v2 v4 μ) : J cX8_nearest x E z0 μ 68 [some (rv E 115), some (iv v1), some (iv v2), none, some (iv v4)] [] (MQ (xb x) (QI E z0 Q) (xa x) (xs x) 0 0 (gA E)) := by
  unfold wp_X8_nearest_68 at h
  refine r_il4 dX8_nearest_68 ?_
  refine r_is3 dX8_nearest_70 rfl ?_
  refine r_inc4 dX8_nearest_71 rfl ?_
  obtain ⟨o18, h⟩ := h
  refine r_goto 25 dX8_nearest_74 rfl ?_
  exact J_weak (hX25 v1 v2 v4 (v4 + 1) μ h hv1 hv2 hv4 o18 hμ) (⟨rfl, ⟨rfl, ⟨rfl, ⟨rfl, ⟨rfl, trivial⟩⟩⟩⟩⟩)
set_option maxRecDepth 20000 in
theorem t_X8_nearest_25 {x : Cx} {E : Gx} (B : Bd x E 4 5 "SlipCoversModel") (hr : (xt x).sig.returnType = (some .int)) {Q : Int → Mem → Prop} {v1 : Int} {v2 : Int} {v3 : Int} {v4 : Int} {μ : Mem} (hv1 : inR v1) (hv2 : inR v2) (hv3 : inR v3) (hv4 : inR v4) (hμ : okM μ) (h : LP5 (wp_X8_nearest_25 Q) v1 v2 v3 v4 μ) : J cX8_nearest x E z0 μ 25 [some (rv E 115), some (iv v1), some (iv v2), some (iv v3), some (iv v4)] [] (MQ (xb x) (QI E z0 Q) (xa x) (xs x) 0 0 (gA E)) := by
  refine LP5_ind (T := fun (v1 : Int) (v2 : Int) (v3 : Int) (v4 : Int) (μ : Mem) => inR v1 → inR v2 → inR v3 → inR v4 → okM μ → J cX8_nearest x E z0 μ 25 [some (rv E 115), some (iv v1), some (iv v2), some (iv v3), some (iv v4)] [] (MQ (xb x) (QI E z0 Q) (xa x) (xs x) 0 0 (gA E))) (fun X25 hX25 v1 v2 v3 v4 μ h hv1 hv2 hv3 hv4 hμ => ?_) h hv1 hv2 hv3 hv4 hμ
  unfold wp_X8_nearest_25 at h
  refine r_il4 dX8_nearest_25 ?_
  refine r_al0 dX8_nearest_27 ?_
  refine r_il1 dX8_nearest_28 ?_
  refine r_cVI1 B cb_X8_words lk_X8_113 cv_X8_words kd_115 (c_X8_words (xl x) E hv1 hμ h) rfl rfl dX8_nearest_29 (fun r6 μ5 hr6 mμ5 h => ?_)
  refine r_icmp_ge 77 dX8_nearest_32 rfl hv4 hr6 (fun c7 => ?_) (fun c7 => ?_)
  · have h := h.1 c7
    refine r_il3 dX8_nearest_77 ?_
    refine r_iconst dX8_nearest_78 ?_
    refine r_icmp_ne 90 dX8_nearest_79 rfl hv3 (inR_k rfl) (fun c8 => ?_) (fun c8 => ?_)
    · have h := h.1 c8
      refine r_al0 dX8_nearest_90 ?_
      refine r_il3 dX8_nearest_91 ?_
      refine r_cVI1 B cb_X8_good lk_X8_189 cv_X8_good kd_115 (c_X8_good (xl x) E hv3 mμ5 h) rfl rfl dX8_nearest_92 (fun r10 μ9 hr10 mμ9 h => ?_)
      exact r_iret B hr hr10 mμ9 dX8_nearest_95 h
    · have h := h.2 c8
      refine r_al0 dX8_nearest_82 ?_
      refine r_iconst dX8_nearest_83 ?_
      refine r_cVI1 B cb_X8_refused lk_X8_173 cv_X8_refused kd_115 (c_X8_refused (xl x) E (inR_k rfl) mμ5 h) rfl rfl dX8_nearest_84 (fun r12 μ11 hr12 mμ11 h => ?_)
      refine r_goto 95 dX8_nearest_87 rfl ?_
      exact r_iret B hr hr12 mμ11 dX8_nearest_95 h
  · have h := h.2 c7
    refine r_al0 dX8_nearest_35 ?_
    refine r_il1 dX8_nearest_36 ?_
    refine r_il4 dX8_nearest_37 ?_
    refine r_cVI2 B cb_X8_isIn lk_X8_116 cv_X8_isIn kd_115 (c_X8_isIn (xl x) E hv1 hv4 mμ5 h) rfl rfl dX8_nearest_39 (fun r14 μ13 hr14 mμ13 h => ?_)
    refine r_if_eq 71 dX8_nearest_42 rfl hr14 (fun c15 => ?_) (fun c15 => ?_)
    · have h := h.1 c15
      refine r_inc4 dX8_nearest_71 rfl ?_
      obtain ⟨o16, h⟩ := h
      refine r_goto 25 dX8_nearest_74 rfl ?_
      exact J_weak (hX25 v1 v2 v3 (v4 + 1) μ13 h hv1 hv2 hv3 o16 mμ13) (⟨rfl, ⟨rfl, ⟨rfl, ⟨rfl, ⟨rfl, trivial⟩⟩⟩⟩⟩)
    · have h := h.2 c15
      refine r_il3 dX8_nearest_45 ?_
      refine r_iconst dX8_nearest_46 ?_
      refine r_icmp_eq 68 dX8_nearest_47 rfl hv3 (inR_k rfl) (fun c17 => ?_) (fun c17 => ?_)
      · have h := h.1 c17
        exact J_weak (t_X8_nearest_68 B hr hX25 hv1 hv2 hv4 mμ13 h) (⟨rfl, ⟨rfl, ⟨rfl, ⟨rfl, trivial⟩⟩⟩⟩)
      · have h := h.2 c17
        refine r_al0 dX8_nearest_50 ?_
        refine r_il1 dX8_nearest_51 ?_
        refine r_il2 dX8_nearest_52 ?_
        refine r_il4 dX8_nearest_53 ?_
        refine r_cVI3 B cb_X8_farOf lk_X8_195 cv_X8_farOf kd_115 (c_X8_farOf (xl x) E hv1 hv2 hv4 mμ13 h) rfl rfl dX8_nearest_55 (fun r20 μ19 hr20 mμ19 h => ?_)
        refine r_al0 dX8_nearest_58 ?_
        refine r_il1 dX8_nearest_59 ?_
        refine r_il2 dX8_nearest_60 ?_
        refine r_il3 dX8_nearest_61 ?_
        refine r_cVI3 B cb_X8_farOf lk_X8_195 cv_X8_farOf kd_115 (c_X8_farOf (xl x) E hv1 hv2 hv3 mμ19 h) rfl rfl dX8_nearest_62 (fun r22 μ21 hr22 mμ21 h => ?_)
        refine r_icmp_ge 71 dX8_nearest_65 rfl hr20 hr22 (fun c23 => ?_) (fun c23 => ?_)
        · have h := h.1 c23
          refine r_inc4 dX8_nearest_71 rfl ?_
          obtain ⟨o24, h⟩ := h
          refine r_goto 25 dX8_nearest_74 rfl ?_
          exact J_weak (hX25 v1 v2 v3 (v4 + 1) μ21 h hv1 hv2 hv3 o24 mμ21) (⟨rfl, ⟨rfl, ⟨rfl, ⟨rfl, ⟨rfl, trivial⟩⟩⟩⟩⟩)
        · have h := h.2 c23
          exact J_weak (t_X8_nearest_68 B hr hX25 hv1 hv2 hv4 mμ21 h) (⟨rfl, ⟨rfl, ⟨rfl, ⟨rfl, trivial⟩⟩⟩⟩)
set_option maxRecDepth 20000 in
theorem c_X8_nearest (l : Launch) (E : Gx) {p0 : Int} {p1 : Int} {μ : Mem} {Q : Int → Mem → Prop} (hp0 : inR p0) (hp1 : inR p1) (hμ : okM μ) (h : wp_X8_nearest p0 p1 μ Q) : MT l yX8_nearest cX8_nearest 5 (some .int) E 4 0 0 z0 [rv E 115, iv p0, iv p1] μ (QI E z0 Q) := by
  refine m_start [some (rv E 115), some (iv p0), some (iv p1), none, none] (by decide) rfl rfl rfl (fun x hxl hxc hxs B hr hnm => ?_)
  unfold wp_X8_nearest at h
  refine r_al0 dX8_nearest_0 ?_
  refine r_iconst dX8_nearest_1 ?_
  refine r_putI B fg_X8_42 fp_8_0 kd_115 (kl kd_115) dX8_nearest_2 ?_
  refine n_mem (fun μ1 eμ1 => ?_)
  have h := h μ1 eμ1
  have mμ1 : okM μ1 := eqM eμ1 (okM_sI hμ (inR_k rfl))
  refine r_al0 dX8_nearest_5 ?_
  refine r_il1 dX8_nearest_6 ?_
  refine r_il2 dX8_nearest_7 ?_
  refine r_cVI2 B cb_X8_isWordOf lk_X8_217 cv_X8_isWordOf kd_115 (c_X8_isWordOf (xl x) E hp0 hp1 mμ1 h) rfl rfl dX8_nearest_8 (fun r3 μ2 hr3 mμ2 h => ?_)
  refine r_if_ne 20 dX8_nearest_11 rfl hr3 (fun c4 => ?_) (fun c4 => ?_)
  · have h := h.1 c4
    refine r_iconst dX8_nearest_20 ?_
    refine r_is3 dX8_nearest_21 rfl ?_
    refine r_iconst dX8_nearest_22 ?_
    refine r_is4 dX8_nearest_23 rfl ?_
    exact J_weak (t_X8_nearest_25 B hr hp0 hp1 (inR_k rfl) (inR_k rfl) mμ2 h) (⟨rfl, ⟨rfl, ⟨rfl, ⟨rfl, ⟨rfl, trivial⟩⟩⟩⟩⟩)
  · have h := h.2 c4
    refine r_al0 dX8_nearest_14 ?_
    refine r_iconst dX8_nearest_15 ?_
    refine r_cVI1 B cb_X8_refused lk_X8_173 cv_X8_refused kd_115 (c_X8_refused (xl x) E (inR_k rfl) mμ2 h) rfl rfl dX8_nearest_16 (fun r26 μ25 hr26 mμ25 h => ?_)
    exact r_iret B hr hr26 mμ25 dX8_nearest_19 h
set_option maxRecDepth 20000 in
theorem t_X8_ring_75 {x : Cx} {E : Gx} (B : Bd x E 4 6 "SlipCoversModel") (hr : (xt x).sig.returnType = (some .int)) {Q : Int → Mem → Prop} {X36 : Int → Int → Int → Int → Int → Mem → Prop} (hX36 : ∀ (v1 : Int) (v2 : Int) (v3 : Int) (v4 : Int) (v5 : Int) (μ : Mem), X36 v1 v2 v3 v4 v5 μ → inR v1 → inR v2 → inR v3 → inR v4 → inR v5 → okM μ → J cX8_ring x E z0 μ 36 [some (rv E 115), some (iv v1), some (iv v2), some (iv v3), some (iv v4), some (iv v5)] [] (MQ (xb x) (QI E z0 Q) (xa x) (xs x) 0 0 (gA E))) {v1 : Int} {v2 : Int} {v3 : Int} {v5 : Int} {s0 : Int} {s1 : Int} {μ : Mem} (hv1 : inR v1) (hv2 : inR v2) (hv3 : inR v3) (hv5 : inR v5) (hs0 : inR s0) (hs1 : inR s1) (hμ : okM μ) (h : wp_X8_ring_75 Q X36 v1 v2 v3 v5 s0 s1 μ) : J cX8_ring x E z0 μ 75 [some (rv E 115), some (iv v1), some (iv v2), some (iv v3), none, some (iv v5)] [iv s1, iv s0] (MQ (xb x) (QI E z0 Q) (xa x) (xs x) 0 0 (gA E)) := by
  unfold wp_X8_ring_75 at h
  refine r_iadd dX8_ring_75 ?_
  obtain ⟨o15, h⟩ := h
  refine n_topi (fun x14 ex14 => ?_)
  have h := h x14 ex14
  refine r_is4 dX8_ring_76 rfl ?_
  refine r_inc5 dX8_ring_78 rfl ?_
  obtain ⟨o16, h⟩ := h
  refine r_goto 36 dX8_ring_81 rfl ?_
  exact J_weak (hX36 v1 v2 v3 x14 (v5 + 1) μ h hv1 hv2 hv3 (eqR ex14 o15) o16 hμ) (⟨rfl, ⟨rfl, ⟨rfl, ⟨rfl, ⟨rfl, ⟨rfl, trivial⟩⟩⟩⟩⟩⟩)
set_option maxRecDepth 20000 in
theorem t_X8_ring_74 {x : Cx} {E : Gx} (B : Bd x E 4 6 "SlipCoversModel") (hr : (xt x).sig.returnType = (some .int)) {Q : Int → Mem → Prop} {X36 : Int → Int → Int → Int → Int → Mem → Prop} (hX36 : ∀ (v1 : Int) (v2 : Int) (v3 : Int) (v4 : Int) (v5 : Int) (μ : Mem), X36 v1 v2 v3 v4 v5 μ → inR v1 → inR v2 → inR v3 → inR v4 → inR v5 → okM μ → J cX8_ring x E z0 μ 36 [some (rv E 115), some (iv v1), some (iv v2), some (iv v3), some (iv v4), some (iv v5)] [] (MQ (xb x) (QI E z0 Q) (xa x) (xs x) 0 0 (gA E))) {v1 : Int} {v2 : Int} {v3 : Int} {v5 : Int} {s0 : Int} {μ : Mem} (hv1 : inR v1) (hv2 : inR v2) (hv3 : inR v3) (hv5 : inR v5) (hs0 : inR s0) (hμ : okM μ) (h : wp_X8_ring_74 Q X36 v1 v2 v3 v5 s0 μ) : J cX8_ring x E z0 μ 74 [some (rv E 115), some (iv v1), some (iv v2), some (iv v3), none, some (iv v5)] [iv s0] (MQ (xb x) (QI E z0 Q) (xa x) (xs x) 0 0 (gA E)) := by
  unfold wp_X8_ring_74 at h
  refine r_iconst dX8_ring_74 ?_
  exact J_weak (t_X8_ring_75 B hr hX36 hv1 hv2 hv3 hv5 hs0 (inR_k rfl) hμ h) (⟨rfl, ⟨rfl, ⟨rfl, ⟨rfl, ⟨rfl, trivial⟩⟩⟩⟩⟩)
set_option maxRecDepth 20000 in
theorem t_X8_ring_36 {x : Cx} {E : Gx} (B : Bd x E 4 6 "SlipCoversModel") (hr : (xt x).sig.returnType = (some .int)) {Q : Int → Mem → Prop} {v1 : Int} {v2 : Int} {v3 : Int} {v4 : Int} {v5 : Int} {μ : Mem} (hv1 : inR v1) (hv2 : inR v2) (hv3 : inR v3) (hv4 : inR v4) (hv5 : inR v5) (hμ : okM μ) (h : LP6 (wp_X8_ring_36 Q) v1 v2 v3 v4 v5 μ) : J cX8_ring x E z0 μ 36 [some (rv E 115), some (iv v1), some (iv v2), some (iv v3), some (iv v4), some (iv v5)] [] (MQ (xb x) (QI E z0 Q) (xa x) (xs x) 0 0 (gA E)) := by
  refine LP6_ind (T := fun (v1 : Int) (v2 : Int) (v3 : Int) (v4 : Int) (v5 : Int) (μ : Mem) => inR v1 → inR v2 → inR v3 → inR v4 → inR v5 → okM μ → J cX8_ring x E z0 μ 36 [some (rv E 115), some (iv v1), some (iv v2), some (iv v3), some (iv v4), some (iv v5)] [] (MQ (xb x) (QI E z0 Q) (xa x) (xs x) 0 0 (gA E))) (fun X36 hX36 v1 v2 v3 v4 v5 μ h hv1 hv2 hv3 hv4 hv5 hμ => ?_) h hv1 hv2 hv3 hv4 hv5 hμ
  unfold wp_X8_ring_36 at h
  refine r_il5 dX8_ring_36 ?_
  refine r_al0 dX8_ring_38 ?_
  refine r_il1 dX8_ring_39 ?_
  refine r_cVI1 B cb_X8_words lk_X8_113 cv_X8_words kd_115 (c_X8_words (xl x) E hv1 hμ h) rfl rfl dX8_ring_40 (fun r7 μ6 hr7 mμ6 h => ?_)
  refine r_icmp_ge 84 dX8_ring_43 rfl hv5 hr7 (fun c8 => ?_) (fun c8 => ?_)
  · have h := h.1 c8
    refine r_al0 dX8_ring_84 ?_
    refine r_il4 dX8_ring_85 ?_
    refine r_cVI1 B cb_X8_good lk_X8_189 cv_X8_good kd_115 (c_X8_good (xl x) E hv4 mμ6 h) rfl rfl dX8_ring_87 (fun r10 μ9 hr10 mμ9 h => ?_)
    exact r_iret B hr hr10 mμ9 dX8_ring_90 h
  · have h := h.2 c8
    refine r_il4 dX8_ring_46 ?_
    refine r_al0 dX8_ring_48 ?_
    refine r_il1 dX8_ring_49 ?_
    refine r_il5 dX8_ring_50 ?_
    refine r_cVI2 B cb_X8_isIn lk_X8_116 cv_X8_isIn kd_115 (c_X8_isIn (xl x) E hv1 hv5 mμ6 h) rfl rfl dX8_ring_52 (fun r12 μ11 hr12 mμ11 h => ?_)
    refine r_if_eq 74 dX8_ring_55 rfl hr12 (fun c13 => ?_) (fun c13 => ?_)
    · have h := h.1 c13
      exact J_weak (t_X8_ring_74 B hr hX36 hv1 hv2 hv3 hv5 hv4 mμ11 h) (⟨rfl, ⟨rfl, ⟨rfl, ⟨rfl, ⟨rfl, trivial⟩⟩⟩⟩⟩)
    · have h := h.2 c13
      refine r_al0 dX8_ring_58 ?_
      refine r_il1 dX8_ring_59 ?_
      refine r_il2 dX8_ring_60 ?_
      refine r_il5 dX8_ring_61 ?_
      refine r_cVI3 B cb_X8_farOf lk_X8_195 cv_X8_farOf kd_115 (c_X8_farOf (xl x) E hv1 hv2 hv5 mμ11 h) rfl rfl dX8_ring_63 (fun r18 μ17 hr18 mμ17 h => ?_)
      refine r_il3 dX8_ring_66 ?_
      refine r_icmp_ne 74 dX8_ring_67 rfl hr18 hv3 (fun c19 => ?_) (fun c19 => ?_)
      · have h := h.1 c19
        exact J_weak (t_X8_ring_74 B hr hX36 hv1 hv2 hv3 hv5 hv4 mμ17 h) (⟨rfl, ⟨rfl, ⟨rfl, ⟨rfl, ⟨rfl, trivial⟩⟩⟩⟩⟩)
      · have h := h.2 c19
        refine r_iconst dX8_ring_70 ?_
        refine r_goto 75 dX8_ring_71 rfl ?_
        exact J_weak (t_X8_ring_75 B hr hX36 hv1 hv2 hv3 hv5 hv4 (inR_k rfl) mμ17 h) (⟨rfl, ⟨rfl, ⟨rfl, ⟨rfl, ⟨rfl, trivial⟩⟩⟩⟩⟩)
set_option maxRecDepth 20000 in
theorem c_X8_ring (l : Launch) (E : Gx) {p0 : Int} {p1 : Int} {p2 : Int} {μ : Mem} {Q : Int → Mem → Prop} (hp0 : inR p0) (hp1 : inR p1) (hp2 : inR p2) (hμ : okM μ) (h : wp_X8_ring p0 p1 p2 μ Q) : MT l yX8_ring cX8_ring 6 (some .int) E 4 0 0 z0 [rv E 115, iv p0, iv p1, iv p2] μ (QI E z0 Q) := by
  refine m_start [some (rv E 115), some (iv p0), some (iv p1), some (iv p2), none, none] (by decide) rfl rfl rfl (fun x hxl hxc hxs B hr hnm => ?_)
  unfold wp_X8_ring at h
  refine r_al0 dX8_ring_0 ?_
  refine r_iconst dX8_ring_1 ?_
  refine r_putI B fg_X8_42 fp_8_0 kd_115 (kl kd_115) dX8_ring_2 ?_
  refine n_mem (fun μ1 eμ1 => ?_)
  have h := h μ1 eμ1
  have mμ1 : okM μ1 := eqM eμ1 (okM_sI hμ (inR_k rfl))
  refine r_al0 dX8_ring_5 ?_
  refine r_il1 dX8_ring_6 ?_
  refine r_il2 dX8_ring_7 ?_
  refine r_cVI2 B cb_X8_isWordOf lk_X8_217 cv_X8_isWordOf kd_115 (c_X8_isWordOf (xl x) E hp0 hp1 mμ1 h) rfl rfl dX8_ring_8 (fun r3 μ2 hr3 mμ2 h => ?_)
  refine r_if_ne 20 dX8_ring_11 rfl hr3 (fun c4 => ?_) (fun c4 => ?_)
  · have h := h.1 c4
    refine r_il3 dX8_ring_20 ?_
    refine r_if_ge 30 dX8_ring_21 rfl hp2 (fun c5 => ?_) (fun c5 => ?_)
    · have h := h.1 c5
      refine r_iconst dX8_ring_30 ?_
      refine r_is4 dX8_ring_31 rfl ?_
      refine r_iconst dX8_ring_33 ?_
      refine r_is5 dX8_ring_34 rfl ?_
      exact J_weak (t_X8_ring_36 B hr hp0 hp1 hp2 (inR_k rfl) (inR_k rfl) mμ2 h) (⟨rfl, ⟨rfl, ⟨rfl, ⟨rfl, ⟨rfl, ⟨rfl, trivial⟩⟩⟩⟩⟩⟩)
    · have h := h.2 c5
      refine r_al0 dX8_ring_24 ?_
      refine r_iconst dX8_ring_25 ?_
      refine r_cVI1 B cb_X8_refused lk_X8_173 cv_X8_refused kd_115 (c_X8_refused (xl x) E (inR_k rfl) mμ2 h) rfl rfl dX8_ring_26 (fun r21 μ20 hr21 mμ20 h => ?_)
      exact r_iret B hr hr21 mμ20 dX8_ring_29 h
  · have h := h.2 c4
    refine r_al0 dX8_ring_14 ?_
    refine r_iconst dX8_ring_15 ?_
    refine r_cVI1 B cb_X8_refused lk_X8_173 cv_X8_refused kd_115 (c_X8_refused (xl x) E (inR_k rfl) mμ2 h) rfl rfl dX8_ring_16 (fun r23 μ22 hr23 mμ22 h => ?_)
    exact r_iret B hr hr23 mμ22 dX8_ring_19 h
set_option maxRecDepth 20000 in
theorem t_X8_column_87 {x : Cx} {E : Gx} (B : Bd x E 4 6 "SlipCoversModel") (hr : (xt x).sig.returnType = (some .int)) {Q : Int → Mem → Prop} {X48 : Int → Int → Int → Int → Int → Mem → Prop} (hX48 : ∀ (v1 : Int) (v2 : Int) (v3 : Int) (v4 : Int) (v5 : Int) (μ : Mem), X48 v1 v2 v3 v4 v5 μ → inR v1 → inR v2 → inR v3 → inR v4 → inR v5 → okM μ → J cX8_column x E z0 μ 48 [some (rv E 115), some (iv v1), some (iv v2), some (iv v3), some (iv v4), some (iv v5)] [] (MQ (xb x) (QI E z0 Q) (xa x) (xs x) 0 0 (gA E))) {v1 : Int} {v2 : Int} {v3 : Int} {v5 : Int} {s0 : Int} {s1 : Int} {μ : Mem} (hv1 : inR v1) (hv2 : inR v2) (hv3 : inR v3) (hv5 : inR v5) (hs0 : inR s0) (hs1 : inR s1) (hμ : okM μ) (h : wp_X8_column_87 Q X48 v1 v2 v3 v5 s0 s1 μ) : J cX8_column x E z0 μ 87 [some (rv E 115), some (iv v1), some (iv v2), some (iv v3), none, some (iv v5)] [iv s1, iv s0] (MQ (xb x) (QI E z0 Q) (xa x) (xs x) 0 0 (gA E)) := by
  unfold wp_X8_column_87 at h
  refine r_iadd dX8_column_87 ?_
  obtain ⟨o20, h⟩ := h
  refine n_topi (fun x19 ex19 => ?_)
  have h := h x19 ex19
  refine r_is4 dX8_column_88 rfl ?_
  refine r_inc5 dX8_column_90 rfl ?_
  obtain ⟨o21, h⟩ := h
  refine r_goto 48 dX8_column_93 rfl ?_
  exact J_weak (hX48 v1 v2 v3 x19 (v5 + 1) μ h hv1 hv2 hv3 (eqR ex19 o20) o21 hμ) (⟨rfl, ⟨rfl, ⟨rfl, ⟨rfl, ⟨rfl, ⟨rfl, trivial⟩⟩⟩⟩⟩⟩)
set_option maxRecDepth 20000 in
theorem t_X8_column_86 {x : Cx} {E : Gx} (B : Bd x E 4 6 "SlipCoversModel") (hr : (xt x).sig.returnType = (some .int)) {Q : Int → Mem → Prop} {X48 : Int → Int → Int → Int → Int → Mem → Prop} (hX48 : ∀ (v1 : Int) (v2 : Int) (v3 : Int) (v4 : Int) (v5 : Int) (μ : Mem), X48 v1 v2 v3 v4 v5 μ → inR v1 → inR v2 → inR v3 → inR v4 → inR v5 → okM μ → J cX8_column x E z0 μ 48 [some (rv E 115), some (iv v1), some (iv v2), some (iv v3), some (iv v4), some (iv v5)] [] (MQ (xb x) (QI E z0 Q) (xa x) (xs x) 0 0 (gA E))) {v1 : Int} {v2 : Int} {v3 : Int} {v5 : Int} {s0 : Int} {μ : Mem} (hv1 : inR v1) (hv2 : inR v2) (hv3 : inR v3) (hv5 : inR v5) (hs0 : inR s0) (hμ : okM μ) (h : wp_X8_column_86 Q X48 v1 v2 v3 v5 s0 μ) : J cX8_column x E z0 μ 86 [some (rv E 115), some (iv v1), some (iv v2), some (iv v3), none, some (iv v5)] [iv s0] (MQ (xb x) (QI E z0 Q) (xa x) (xs x) 0 0 (gA E)) := by
  unfold wp_X8_column_86 at h
  refine r_iconst dX8_column_86 ?_
  exact J_weak (t_X8_column_87 B hr hX48 hv1 hv2 hv3 hv5 hs0 (inR_k rfl) hμ h) (⟨rfl, ⟨rfl, ⟨rfl, ⟨rfl, ⟨rfl, trivial⟩⟩⟩⟩⟩)
set_option maxRecDepth 20000 in
theorem t_X8_column_48 {x : Cx} {E : Gx} (B : Bd x E 4 6 "SlipCoversModel") (hr : (xt x).sig.returnType = (some .int)) {Q : Int → Mem → Prop} {v1 : Int} {v2 : Int} {v3 : Int} {v4 : Int} {v5 : Int} {μ : Mem} (hv1 : inR v1) (hv2 : inR v2) (hv3 : inR v3) (hv4 : inR v4) (hv5 : inR v5) (hμ : okM μ) (h : LP6 (wp_X8_column_48 Q) v1 v2 v3 v4 v5 μ) : J cX8_column x E z0 μ 48 [some (rv E 115), some (iv v1), some (iv v2), some (iv v3), some (iv v4), some (iv v5)] [] (MQ (xb x) (QI E z0 Q) (xa x) (xs x) 0 0 (gA E)) := by
  refine LP6_ind (T := fun (v1 : Int) (v2 : Int) (v3 : Int) (v4 : Int) (v5 : Int) (μ : Mem) => inR v1 → inR v2 → inR v3 → inR v4 → inR v5 → okM μ → J cX8_column x E z0 μ 48 [some (rv E 115), some (iv v1), some (iv v2), some (iv v3), some (iv v4), some (iv v5)] [] (MQ (xb x) (QI E z0 Q) (xa x) (xs x) 0 0 (gA E))) (fun X48 hX48 v1 v2 v3 v4 v5 μ h hv1 hv2 hv3 hv4 hv5 hμ => ?_) h hv1 hv2 hv3 hv4 hv5 hμ
  unfold wp_X8_column_48 at h
  refine r_il5 dX8_column_48 ?_
  refine r_al0 dX8_column_50 ?_
  refine r_il1 dX8_column_51 ?_
  refine r_cVI1 B cb_X8_words lk_X8_113 cv_X8_words kd_115 (c_X8_words (xl x) E hv1 hμ h) rfl rfl dX8_column_52 (fun r12 μ11 hr12 mμ11 h => ?_)
  refine r_icmp_ge 96 dX8_column_55 rfl hv5 hr12 (fun c13 => ?_) (fun c13 => ?_)
  · have h := h.1 c13
    refine r_al0 dX8_column_96 ?_
    refine r_il4 dX8_column_97 ?_
    refine r_cVI1 B cb_X8_good lk_X8_189 cv_X8_good kd_115 (c_X8_good (xl x) E hv4 mμ11 h) rfl rfl dX8_column_99 (fun r15 μ14 hr15 mμ14 h => ?_)
    exact r_iret B hr hr15 mμ14 dX8_column_102 h
  · have h := h.2 c13
    refine r_il4 dX8_column_58 ?_
    refine r_al0 dX8_column_60 ?_
    refine r_il1 dX8_column_61 ?_
    refine r_il5 dX8_column_62 ?_
    refine r_cVI2 B cb_X8_isIn lk_X8_116 cv_X8_isIn kd_115 (c_X8_isIn (xl x) E hv1 hv5 mμ11 h) rfl rfl dX8_column_64 (fun r17 μ16 hr17 mμ16 h => ?_)
    refine r_if_eq 86 dX8_column_67 rfl hr17 (fun c18 => ?_) (fun c18 => ?_)
    · have h := h.1 c18
      exact J_weak (t_X8_column_86 B hr hX48 hv1 hv2 hv3 hv5 hv4 mμ16 h) (⟨rfl, ⟨rfl, ⟨rfl, ⟨rfl, ⟨rfl, trivial⟩⟩⟩⟩⟩)
    · have h := h.2 c18
      refine r_al0 dX8_column_70 ?_
      refine r_il1 dX8_column_71 ?_
      refine r_il5 dX8_column_72 ?_
      refine r_il2 dX8_column_74 ?_
      refine r_cVI3 B cb_X8_digitOf lk_X8_220 cv_X8_digitOf kd_115 (c_X8_digitOf (xl x) E hv1 hv5 hv2 mμ16 h) rfl rfl dX8_column_75 (fun r23 μ22 hr23 mμ22 h => ?_)
      refine r_il3 dX8_column_78 ?_
      refine r_icmp_ne 86 dX8_column_79 rfl hr23 hv3 (fun c24 => ?_) (fun c24 => ?_)
      · have h := h.1 c24
        exact J_weak (t_X8_column_86 B hr hX48 hv1 hv2 hv3 hv5 hv4 mμ22 h) (⟨rfl, ⟨rfl, ⟨rfl, ⟨rfl, ⟨rfl, trivial⟩⟩⟩⟩⟩)
      · have h := h.2 c24
        refine r_iconst dX8_column_82 ?_
        refine r_goto 87 dX8_column_83 rfl ?_
        exact J_weak (t_X8_column_87 B hr hX48 hv1 hv2 hv3 hv5 hv4 (inR_k rfl) mμ22 h) (⟨rfl, ⟨rfl, ⟨rfl, ⟨rfl, ⟨rfl, trivial⟩⟩⟩⟩⟩)
set_option maxRecDepth 20000 in
theorem c_X8_column (l : Launch) (E : Gx) {p0 : Int} {p1 : Int} {p2 : Int} {μ : Mem} {Q : Int → Mem → Prop} (hp0 : inR p0) (hp1 : inR p1) (hp2 : inR p2) (hμ : okM μ) (h : wp_X8_column p0 p1 p2 μ Q) : MT l yX8_column cX8_column 6 (some .int) E 4 0 0 z0 [rv E 115, iv p0, iv p1, iv p2] μ (QI E z0 Q) := by
  refine m_start [some (rv E 115), some (iv p0), some (iv p1), some (iv p2), none, none] (by decide) rfl rfl rfl (fun x hxl hxc hxs B hr hnm => ?_)
  unfold wp_X8_column at h
  refine r_al0 dX8_column_0 ?_
  refine r_iconst dX8_column_1 ?_
  refine r_putI B fg_X8_42 fp_8_0 kd_115 (kl kd_115) dX8_column_2 ?_
  refine n_mem (fun μ1 eμ1 => ?_)
  have h := h μ1 eμ1
  have mμ1 : okM μ1 := eqM eμ1 (okM_sI hμ (inR_k rfl))
  refine r_al0 dX8_column_5 ?_
  refine r_il1 dX8_column_6 ?_
  refine r_il2 dX8_column_7 ?_
  refine r_cVI2 B cb_X8_isPlace lk_X8_214 cv_X8_isPlace kd_115 (c_X8_isPlace (xl x) E hp0 hp1 mμ1 h) rfl rfl dX8_column_8 (fun r3 μ2 hr3 mμ2 h => ?_)
  refine r_if_ne 20 dX8_column_11 rfl hr3 (fun c4 => ?_) (fun c4 => ?_)
  · have h := h.1 c4
    refine r_il3 dX8_column_20 ?_
    refine r_iconst dX8_column_21 ?_
    refine r_al0 dX8_column_22 ?_
    refine r_il1 dX8_column_23 ?_
    refine r_il2 dX8_column_24 ?_
    refine r_cVI2 B cb_X8_sizeOf lk_X8_109 cv_X8_sizeOf kd_115 (c_X8_sizeOf (xl x) E hp0 hp1 mμ2 h) rfl rfl dX8_column_25 (fun r6 μ5 hr6 mμ5 h => ?_)
    refine r_iconst dX8_column_28 ?_
    refine r_isub dX8_column_29 ?_
    obtain ⟨o7, h⟩ := h
    refine r_cSI3 B cb_X8_in lk_X8_63 cs_X8_in (c_X8_in (xl x) E hp2 (inR_k rfl) o7 mμ5 h) rfl rfl dX8_column_30 (fun r9 μ8 hr9 mμ8 h => ?_)
    refine r_if_ne 42 dX8_column_33 rfl hr9 (fun c10 => ?_) (fun c10 => ?_)
    · have h := h.1 c10
      refine r_iconst dX8_column_42 ?_
      refine r_is4 dX8_column_43 rfl ?_
      refine r_iconst dX8_column_45 ?_
      refine r_is5 dX8_column_46 rfl ?_
      exact J_weak (t_X8_column_48 B hr hp0 hp1 hp2 (inR_k rfl) (inR_k rfl) mμ8 h) (⟨rfl, ⟨rfl, ⟨rfl, ⟨rfl, ⟨rfl, ⟨rfl, trivial⟩⟩⟩⟩⟩⟩)
    · have h := h.2 c10
      refine r_al0 dX8_column_36 ?_
      refine r_iconst dX8_column_37 ?_
      refine r_cVI1 B cb_X8_refused lk_X8_173 cv_X8_refused kd_115 (c_X8_refused (xl x) E (inR_k rfl) mμ8 h) rfl rfl dX8_column_38 (fun r26 μ25 hr26 mμ25 h => ?_)
      exact r_iret B hr hr26 mμ25 dX8_column_41 h
  · have h := h.2 c4
    refine r_al0 dX8_column_14 ?_
    refine r_iconst dX8_column_15 ?_
    refine r_cVI1 B cb_X8_refused lk_X8_173 cv_X8_refused kd_115 (c_X8_refused (xl x) E (inR_k rfl) mμ2 h) rfl rfl dX8_column_16 (fun r28 μ27 hr28 mμ27 h => ?_)
    exact r_iret B hr hr28 mμ27 dX8_column_19 h
set_option maxRecDepth 20000 in
theorem t_X8_worth_102 {x : Cx} {E : Gx} (B : Bd x E 4 6 "SlipCoversModel") (hr : (xt x).sig.returnType = (some .int)) {Q : Int → Mem → Prop} {X62 : Int → Int → Int → Int → Int → Mem → Prop} (hX62 : ∀ (v1 : Int) (v2 : Int) (v3 : Int) (v4 : Int) (v5 : Int) (μ : Mem), X62 v1 v2 v3 v4 v5 μ → inR v1 → inR v2 → inR v3 → inR v4 → inR v5 → okM μ → J cX8_worth x E z0 μ 62 [some (rv E 115), some (iv v1), some (iv v2), some (iv v3), some (iv v4), some (iv v5)] [] (MQ (xb x) (QI E z0 Q) (xa x) (xs x) 0 0 (gA E))) {v1 : Int} {v2 : Int} {v3 : Int} {v5 : Int} {s0 : Int} {s1 : Int} {μ : Mem} (hv1 : inR v1) (hv2 : inR v2) (hv3 : inR v3) (hv5 : inR v5) (hs0 : inR s0) (hs1 : inR s1) (hμ : okM μ) (h : wp_X8_worth_102 Q X62 v1 v2 v3 v5 s0 s1 μ) : J cX8_worth x E z0 μ 102 [some (rv E 115), some (iv v1), some (iv v2), some (iv v3), none, some (iv v5)] [iv s1, iv s0] (MQ (xb x) (QI E z0 Q) (xa x) (xs x) 0 0 (gA E)) := by
  unfold wp_X8_worth_102 at h
  refine r_iadd dX8_worth_102 ?_
  obtain ⟨o21, h⟩ := h
  refine n_topi (fun x20 ex20 => ?_)
  have h := h x20 ex20
  refine r_is4 dX8_worth_103 rfl ?_
  refine r_inc5 dX8_worth_105 rfl ?_
  obtain ⟨o22, h⟩ := h
  refine r_goto 62 dX8_worth_108 rfl ?_
  exact J_weak (hX62 v1 v2 v3 x20 (v5 + 1) μ h hv1 hv2 hv3 (eqR ex20 o21) o22 hμ) (⟨rfl, ⟨rfl, ⟨rfl, ⟨rfl, ⟨rfl, ⟨rfl, trivial⟩⟩⟩⟩⟩⟩)
set_option maxRecDepth 20000 in
theorem t_X8_worth_101 {x : Cx} {E : Gx} (B : Bd x E 4 6 "SlipCoversModel") (hr : (xt x).sig.returnType = (some .int)) {Q : Int → Mem → Prop} {X62 : Int → Int → Int → Int → Int → Mem → Prop} (hX62 : ∀ (v1 : Int) (v2 : Int) (v3 : Int) (v4 : Int) (v5 : Int) (μ : Mem), X62 v1 v2 v3 v4 v5 μ → inR v1 → inR v2 → inR v3 → inR v4 → inR v5 → okM μ → J cX8_worth x E z0 μ 62 [some (rv E 115), some (iv v1), some (iv v2), some (iv v3), some (iv v4), some (iv v5)] [] (MQ (xb x) (QI E z0 Q) (xa x) (xs x) 0 0 (gA E))) {v1 : Int} {v2 : Int} {v3 : Int} {v5 : Int} {s0 : Int} {μ : Mem} (hv1 : inR v1) (hv2 : inR v2) (hv3 : inR v3) (hv5 : inR v5) (hs0 : inR s0) (hμ : okM μ) (h : wp_X8_worth_101 Q X62 v1 v2 v3 v5 s0 μ) : J cX8_worth x E z0 μ 101 [some (rv E 115), some (iv v1), some (iv v2), some (iv v3), none, some (iv v5)] [iv s0] (MQ (xb x) (QI E z0 Q) (xa x) (xs x) 0 0 (gA E)) := by
  unfold wp_X8_worth_101 at h
  refine r_iconst dX8_worth_101 ?_
  exact J_weak (t_X8_worth_102 B hr hX62 hv1 hv2 hv3 hv5 hs0 (inR_k rfl) hμ h) (⟨rfl, ⟨rfl, ⟨rfl, ⟨rfl, ⟨rfl, trivial⟩⟩⟩⟩⟩)
set_option maxRecDepth 20000 in
theorem t_X8_worth_62 {x : Cx} {E : Gx} (B : Bd x E 4 6 "SlipCoversModel") (hr : (xt x).sig.returnType = (some .int)) {Q : Int → Mem → Prop} {v1 : Int} {v2 : Int} {v3 : Int} {v4 : Int} {v5 : Int} {μ : Mem} (hv1 : inR v1) (hv2 : inR v2) (hv3 : inR v3) (hv4 : inR v4) (hv5 : inR v5) (hμ : okM μ) (h : LP6 (wp_X8_worth_62 Q) v1 v2 v3 v4 v5 μ) : J cX8_worth x E z0 μ 62 [some (rv E 115), some (iv v1), some (iv v2), some (iv v3), some (iv v4), some (iv v5)] [] (MQ (xb x) (QI E z0 Q) (xa x) (xs x) 0 0 (gA E)) := by
  refine LP6_ind (T := fun (v1 : Int) (v2 : Int) (v3 : Int) (v4 : Int) (v5 : Int) (μ : Mem) => inR v1 → inR v2 → inR v3 → inR v4 → inR v5 → okM μ → J cX8_worth x E z0 μ 62 [some (rv E 115), some (iv v1), some (iv v2), some (iv v3), some (iv v4), some (iv v5)] [] (MQ (xb x) (QI E z0 Q) (xa x) (xs x) 0 0 (gA E))) (fun X62 hX62 v1 v2 v3 v4 v5 μ h hv1 hv2 hv3 hv4 hv5 hμ => ?_) h hv1 hv2 hv3 hv4 hv5 hμ
  unfold wp_X8_worth_62 at h
  refine r_il5 dX8_worth_62 ?_
  refine r_al0 dX8_worth_64 ?_
  refine r_il1 dX8_worth_65 ?_
  refine r_cVI1 B cb_X8_words lk_X8_113 cv_X8_words kd_115 (c_X8_words (xl x) E hv1 hμ h) rfl rfl dX8_worth_66 (fun r14 μ13 hr14 mμ13 h => ?_)
  refine r_icmp_ge 111 dX8_worth_69 rfl hv5 hr14 (fun c15 => ?_) (fun c15 => ?_)
  · have h := h.1 c15
    refine r_al0 dX8_worth_111 ?_
    refine r_il4 dX8_worth_112 ?_
    refine r_cVI1 B cb_X8_good lk_X8_189 cv_X8_good kd_115 (c_X8_good (xl x) E hv4 mμ13 h) rfl rfl dX8_worth_114 (fun r17 μ16 hr17 mμ16 h => ?_)
    exact r_iret B hr hr17 mμ16 dX8_worth_117 h
  · have h := h.2 c15
    refine r_il4 dX8_worth_72 ?_
    refine r_al0 dX8_worth_74 ?_
    refine r_getR B 121 fg_X8_30 kd_115 (kl kd_115) (ρo (off := 6) kd_115 rfl) dX8_worth_75 ?_
    refine r_il5 dX8_worth_78 ?_
    obtain ⟨o18, h⟩ := h
    refine r_iald B kd_121 (kl kd_121) (by decide) o18 dX8_worth_80 ?_
    refine r_iconst dX8_worth_81 ?_
    refine r_icmp_ne 101 dX8_worth_82 rfl (mμ13 _ _) (inR_k rfl) (fun c19 => ?_) (fun c19 => ?_)
    · have h := h.1 c19
      exact J_weak (t_X8_worth_101 B hr hX62 hv1 hv2 hv3 hv5 hv4 mμ13 h) (⟨rfl, ⟨rfl, ⟨rfl, ⟨rfl, ⟨rfl, trivial⟩⟩⟩⟩⟩)
    · have h := h.2 c19
      refine r_al0 dX8_worth_85 ?_
      refine r_il1 dX8_worth_86 ?_
      refine r_il2 dX8_worth_87 ?_
      refine r_il5 dX8_worth_88 ?_
      refine r_cVI3 B cb_X8_farOf lk_X8_195 cv_X8_farOf kd_115 (c_X8_farOf (xl x) E hv1 hv2 hv5 mμ13 h) rfl rfl dX8_worth_90 (fun r24 μ23 hr24 mμ23 h => ?_)
      refine r_il3 dX8_worth_93 ?_
      refine r_icmp_gt 101 dX8_worth_94 rfl hr24 hv3 (fun c25 => ?_) (fun c25 => ?_)
      · have h := h.1 c25
        exact J_weak (t_X8_worth_101 B hr hX62 hv1 hv2 hv3 hv5 hv4 mμ23 h) (⟨rfl, ⟨rfl, ⟨rfl, ⟨rfl, ⟨rfl, trivial⟩⟩⟩⟩⟩)
      · have h := h.2 c25
        refine r_iconst dX8_worth_97 ?_
        refine r_goto 102 dX8_worth_98 rfl ?_
        exact J_weak (t_X8_worth_102 B hr hX62 hv1 hv2 hv3 hv5 hv4 (inR_k rfl) mμ23 h) (⟨rfl, ⟨rfl, ⟨rfl, ⟨rfl, ⟨rfl, trivial⟩⟩⟩⟩⟩)
set_option maxRecDepth 20000 in
theorem c_X8_worth (l : Launch) (E : Gx) {p0 : Int} {p1 : Int} {p2 : Int} {μ : Mem} {Q : Int → Mem → Prop} (hp0 : inR p0) (hp1 : inR p1) (hp2 : inR p2) (hμ : okM μ) (h : wp_X8_worth p0 p1 p2 μ Q) : MT l yX8_worth cX8_worth 6 (some .int) E 4 0 0 z0 [rv E 115, iv p0, iv p1, iv p2] μ (QI E z0 Q) := by
  refine m_start [some (rv E 115), some (iv p0), some (iv p1), some (iv p2), none, none] (by decide) rfl rfl rfl (fun x hxl hxc hxs B hr hnm => ?_)
  unfold wp_X8_worth at h
  refine r_al0 dX8_worth_0 ?_
  refine r_iconst dX8_worth_1 ?_
  refine r_putI B fg_X8_42 fp_8_0 kd_115 (kl kd_115) dX8_worth_2 ?_
  refine n_mem (fun μ1 eμ1 => ?_)
  have h := h μ1 eμ1
  have mμ1 : okM μ1 := eqM eμ1 (okM_sI hμ (inR_k rfl))
  refine r_al0 dX8_worth_5 ?_
  refine r_il1 dX8_worth_6 ?_
  refine r_il2 dX8_worth_7 ?_
  refine r_cVI2 B cb_X8_isWordOf lk_X8_217 cv_X8_isWordOf kd_115 (c_X8_isWordOf (xl x) E hp0 hp1 mμ1 h) rfl rfl dX8_worth_8 (fun r3 μ2 hr3 mμ2 h => ?_)
  refine r_if_ne 20 dX8_worth_11 rfl hr3 (fun c4 => ?_) (fun c4 => ?_)
  · have h := h.1 c4
    refine r_il3 dX8_worth_20 ?_
    refine r_cSI1 B cb_X8_isSlips lk_X8_223 cs_X8_isSlips (c_X8_isSlips (xl x) E hp2 mμ2 h) rfl rfl dX8_worth_21 (fun r6 μ5 hr6 mμ5 h => ?_)
    refine r_if_ne 33 dX8_worth_24 rfl hr6 (fun c7 => ?_) (fun c7 => ?_)
    · have h := h.1 c7
      refine r_al0 dX8_worth_33 ?_
      refine r_il1 dX8_worth_34 ?_
      refine r_il2 dX8_worth_35 ?_
      refine r_cVI2 B cb_X8_isIn lk_X8_116 cv_X8_isIn kd_115 (c_X8_isIn (xl x) E hp0 hp1 mμ5 h) rfl rfl dX8_worth_36 (fun r9 μ8 hr9 mμ8 h => ?_)
      refine r_if_ne 48 dX8_worth_39 rfl hr9 (fun c10 => ?_) (fun c10 => ?_)
      · have h := h.1 c10
        refine r_al0 dX8_worth_48 ?_
        refine r_il1 dX8_worth_49 ?_
        refine r_il3 dX8_worth_50 ?_
        refine r_cVI2 B cb_X8_covers lk_X8_202 cv_X8_covers kd_115 (c_X8_covers (xl x) E hp0 hp2 mμ8 h) rfl rfl dX8_worth_51 (fun r12 μ11 hr12 mμ11 h => ?_)
        refine r_is4 dX8_worth_54 rfl ?_
        refine r_iconst dX8_worth_56 ?_
        refine r_is4 dX8_worth_57 rfl ?_
        refine r_iconst dX8_worth_59 ?_
        refine r_is5 dX8_worth_60 rfl ?_
        exact J_weak (t_X8_worth_62 B hr hp0 hp1 hp2 (inR_k rfl) (inR_k rfl) mμ11 h) (⟨rfl, ⟨rfl, ⟨rfl, ⟨rfl, ⟨rfl, ⟨rfl, trivial⟩⟩⟩⟩⟩⟩)
      · have h := h.2 c10
        refine r_al0 dX8_worth_42 ?_
        refine r_iconst dX8_worth_43 ?_
        refine r_cVI1 B cb_X8_refused lk_X8_173 cv_X8_refused kd_115 (c_X8_refused (xl x) E (inR_k rfl) mμ8 h) rfl rfl dX8_worth_44 (fun r27 μ26 hr27 mμ26 h => ?_)
        exact r_iret B hr hr27 mμ26 dX8_worth_47 h
    · have h := h.2 c7
      refine r_al0 dX8_worth_27 ?_
      refine r_iconst dX8_worth_28 ?_
      refine r_cVI1 B cb_X8_refused lk_X8_173 cv_X8_refused kd_115 (c_X8_refused (xl x) E (inR_k rfl) mμ5 h) rfl rfl dX8_worth_29 (fun r29 μ28 hr29 mμ28 h => ?_)
      exact r_iret B hr hr29 mμ28 dX8_worth_32 h
  · have h := h.2 c4
    refine r_al0 dX8_worth_14 ?_
    refine r_iconst dX8_worth_15 ?_
    refine r_cVI1 B cb_X8_refused lk_X8_173 cv_X8_refused kd_115 (c_X8_refused (xl x) E (inR_k rfl) mμ2 h) rfl rfl dX8_worth_16 (fun r31 μ30 hr31 mμ30 h => ?_)
    exact r_iret B hr hr31 mμ30 dX8_worth_19 h
set_option maxRecDepth 20000 in
theorem c_X8_bits (l : Launch) (E : Gx) {p0 : Int64} {p1 : Int64} {μ : Mem} {Q : Int → Mem → Prop} (hμ : okM μ) (h : wp_X8_bits p0 p1 μ Q) : MT l yX8_bits cX8_bits 4 (some .int) E 2 0 0 z0 [.long p0, .long p1] μ (QI E z0 Q) := by
  refine m_start [some (.long p0), none, some (.long p1), none] (by decide) rfl rfl rfl (fun x hxl hxc hxs B hr hnm => ?_)
  unfold wp_X8_bits at h
  refine r_ll0 dX8_bits_0 ?_
  refine r_cSI1 B cb_J13_bitCount_95d88 lk_X8_235 cs_J13_bitCount_95d88 (c_J13_bitCount_95d88 (xl x) E hμ h) rfl rfl dX8_bits_1 (fun r2 μ1 hr2 mμ1 h => ?_)
  refine r_ll2 dX8_bits_4 ?_
  refine r_cSI1 B cb_J13_bitCount_95d88 lk_X8_235 cs_J13_bitCount_95d88 (c_J13_bitCount_95d88 (xl x) E mμ1 h) rfl rfl dX8_bits_5 (fun r4 μ3 hr4 mμ3 h => ?_)
  refine r_iadd dX8_bits_8 ?_
  obtain ⟨o5, h⟩ := h
  exact r_iret B hr o5 mμ3 dX8_bits_9 h
set_option maxRecDepth 20000 in
theorem t_X8_seeks_259 {x : Cx} {E : Gx} {N : Nat} (B : Bd x E (N + 4) 11 "SlipCoversModel") (hr : (xt x).sig.returnType = (some .boolean)) {Q : Int → Mem → Prop} {REC : Int → Int → Int64 → Int64 → Mem → (Int → Mem → Prop) → Prop} (hREC : ∀ {p0 : Int} {p1 : Int} {p2 : Int64} {p3 : Int64} {μ : Mem} {Q : Int → Mem → Prop}, inR p0 → inR p1 → okM μ → REC p0 p1 p2 p3 μ Q → MT (xl x) yX8_seeks cX8_seeks 11 (some .boolean) E (N + 3) 0 0 z0 [rv E 115, iv p0, iv p1, .long p2, .long p3] μ (QI E z0 Q)) {X85 : Int → Int → Int64 → Int64 → Int → Int → Mem → Prop} (hX85 : ∀ (v1 : Int) (v2 : Int) (v3 : Int64) (v5 : Int64) (v8 : Int) (v9 : Int) (μ : Mem), X85 v1 v2 v3 v5 v8 v9 μ → inR v1 → inR v2 → inR v8 → inR v9 → okM μ → J cX8_seeks x E z0 μ 85 [some (rv E 115), some (iv v1), some (iv v2), some (.long v3), none, some (.long v5), none, none, some (iv v8), some (iv v9), none] [] (MQ (xb x) (QI E z0 Q) (xa x) (xs x) 0 0 (gA E))) {v1 : Int} {v2 : Int} {v3 : Int64} {v5 : Int64} {v8 : Int} {v9 : Int} {μ : Mem} (hv1 : inR v1) (hv2 : inR v2) (hv8 : inR v8) (hv9 : inR v9) (hμ : okM μ) (h : wp_X8_seeks_259 Q REC X85 v1 v2 v3 v5 v8 v9 μ) : J cX8_seeks x E z0 μ 259 [some (rv E 115), some (iv v1), some (iv v2), some (.long v3), none, some (.long v5), none, none, some (iv v8), some (iv v9), none] [] (MQ (xb x) (QI E z0 Q) (xa x) (xs x) 0 0 (gA E)) := by
  unfold wp_X8_seeks_259 at h
  refine r_al0 dX8_seeks_259 ?_
  refine r_getI B fg_X8_262 kd_115 (kl kd_115) dX8_seeks_260 ?_
  refine r_if_eq 268 dX8_seeks_263 rfl (hμ 115 28) (fun c31 => ?_) (fun c31 => ?_)
  · have h := h.1 c31
    refine r_inc9 dX8_seeks_268 rfl ?_
    obtain ⟨o32, h⟩ := h
    refine r_goto 85 dX8_seeks_271 rfl ?_
    exact J_weak (hX85 v1 v2 v3 v5 v8 (v9 + 1) μ h hv1 hv2 hv8 o32 hμ) (⟨rfl, ⟨rfl, ⟨rfl, ⟨rfl, ⟨rfl, ⟨rfl, ⟨rfl, trivial⟩⟩⟩⟩⟩⟩⟩)
  · have h := h.2 c31
    refine r_iconst dX8_seeks_266 ?_
    exact r_zret B hr (Or.inl rfl) hμ dX8_seeks_267 h
set_option maxRecDepth 20000 in
theorem t_X8_seeks_151 {x : Cx} {E : Gx} {N : Nat} (B : Bd x E (N + 4) 11 "SlipCoversModel") (hr : (xt x).sig.returnType = (some .boolean)) {Q : Int → Mem → Prop} {REC : Int → Int → Int64 → Int64 → Mem → (Int → Mem → Prop) → Prop} (hREC : ∀ {p0 : Int} {p1 : Int} {p2 : Int64} {p3 : Int64} {μ : Mem} {Q : Int → Mem → Prop}, inR p0 → inR p1 → okM μ → REC p0 p1 p2 p3 μ Q → MT (xl x) yX8_seeks cX8_seeks 11 (some .boolean) E (N + 3) 0 0 z0 [rv E 115, iv p0, iv p1, .long p2, .long p3] μ (QI E z0 Q)) {X85 : Int → Int → Int64 → Int64 → Int → Int → Mem → Prop} (hX85 : ∀ (v1 : Int) (v2 : Int) (v3 : Int64) (v5 : Int64) (v8 : Int) (v9 : Int) (μ : Mem), X85 v1 v2 v3 v5 v8 v9 μ → inR v1 → inR v2 → inR v8 → inR v9 → okM μ → J cX8_seeks x E z0 μ 85 [some (rv E 115), some (iv v1), some (iv v2), some (.long v3), none, some (.long v5), none, none, some (iv v8), some (iv v9), none] [] (MQ (xb x) (QI E z0 Q) (xa x) (xs x) 0 0 (gA E))) {v1 : Int} {v2 : Int} {v3 : Int64} {v5 : Int64} {v8 : Int} {v9 : Int} {s0 : Int} {μ : Mem} (hv1 : inR v1) (hv2 : inR v2) (hv8 : inR v8) (hv9 : inR v9) (hs0 : inR s0) (hμ : okM μ) (h : wp_X8_seeks_151 Q REC X85 v1 v2 v3 v5 v8 v9 s0 μ) : J cX8_seeks x E z0 μ 151 [some (rv E 115), some (iv v1), some (iv v2), some (.long v3), none, some (.long v5), none, none, some (iv v8), some (iv v9), none] [iv s0] (MQ (xb x) (QI E z0 Q) (xa x) (xs x) 0 0 (gA E)) := by
  unfold wp_X8_seeks_151 at h
  refine r_is10 dX8_seeks_151 rfl ?_
  refine r_il10 dX8_seeks_153 ?_
  refine r_if_ne 161 dX8_seeks_155 rfl hs0 (fun c15 => ?_) (fun c15 => ?_)
  · have h := h.1 c15
    refine r_al0 dX8_seeks_161 ?_
    refine r_getI B fg_X8_251 kd_115 (kl kd_115) dX8_seeks_162 ?_
    refine r_ldc B (a := 60000) kc_X8_254 (by decide) dX8_seeks_165 ?_
    refine r_icmp_ne 172 dX8_seeks_167 rfl (hμ 115 24) (inR_k rfl) (fun c16 => ?_) (fun c16 => ?_)
    · have h := h.1 c16
      refine r_al0 dX8_seeks_172 ?_
      refine r_dup rfl dX8_seeks_173 ?_
      refine r_getI B fg_X8_251 kd_115 (kl kd_115) dX8_seeks_174 ?_
      refine r_iconst dX8_seeks_177 ?_
      refine r_iadd dX8_seeks_178 ?_
      obtain ⟨o17, h⟩ := h
      refine r_putI B fg_X8_251 fp_8_24 kd_115 (kl kd_115) dX8_seeks_179 ?_
      refine n_mem (fun μ18 eμ18 => ?_)
      have h := h μ18 eμ18
      have mμ18 : okM μ18 := eqM eμ18 (okM_sI hμ o17)
      refine r_al0 dX8_seeks_182 ?_
      refine r_getR B 124 fg_X8_39 kd_115 (kl kd_115) (ρo (off := 9) kd_115 rfl) dX8_seeks_183 ?_
      refine r_al0 dX8_seeks_186 ?_
      refine r_getI B fg_X8_255 kd_115 (kl kd_115) dX8_seeks_187 ?_
      refine r_il9 dX8_seeks_190 ?_
      obtain ⟨o19, h⟩ := h
      refine r_iast B kd_124 (kl kd_124) (by decide) o19 dX8_seeks_192 ?_
      refine n_mem (fun μ20 eμ20 => ?_)
      have h := h μ20 eμ20
      have mμ20 : okM μ20 := eqM eμ20 (okM_sI mμ18 hv9)
      refine r_al0 dX8_seeks_193 ?_
      refine r_dup rfl dX8_seeks_194 ?_
      refine r_getI B fg_X8_255 kd_115 (kl kd_115) dX8_seeks_195 ?_
      refine r_iconst dX8_seeks_198 ?_
      refine r_iadd dX8_seeks_199 ?_
      obtain ⟨o21, h⟩ := h
      refine r_putI B fg_X8_255 fp_8_25 kd_115 (kl kd_115) dX8_seeks_200 ?_
      refine n_mem (fun μ22 eμ22 => ?_)
      have h := h μ22 eμ22
      have mμ22 : okM μ22 := eqM eμ22 (okM_sI mμ20 o21)
      refine r_al0 dX8_seeks_203 ?_
      refine r_il1 dX8_seeks_204 ?_
      refine r_il2 dX8_seeks_205 ?_
      refine r_iconst dX8_seeks_206 ?_
      refine r_isub dX8_seeks_207 ?_
      refine r_ll3 dX8_seeks_208 ?_
      refine r_al0 dX8_seeks_209 ?_
      refine r_getR B 122 fg_X8_33 kd_115 (kl kd_115) (ρo (off := 7) kd_115 rfl) dX8_seeks_210 ?_
      refine r_il9 dX8_seeks_213 ?_
      obtain ⟨o23, h⟩ := h
      refine r_lald B kd_122 (kl kd_122) (by decide) o23 dX8_seeks_215 ?_
      refine r_lor dX8_seeks_216 ?_
      refine r_ll5 dX8_seeks_217 ?_
      refine r_al0 dX8_seeks_219 ?_
      refine r_getR B 123 fg_X8_36 kd_115 (kl kd_115) (ρo (off := 8) kd_115 rfl) dX8_seeks_220 ?_
      refine r_il9 dX8_seeks_223 ?_
      refine r_lald B kd_123 (kl kd_123) (by decide) o23 dX8_seeks_225 ?_
      refine r_lor dX8_seeks_226 ?_
      obtain ⟨o24, h⟩ := h
      refine r_cVI4 B cb_X8_seeks lk_X8_258 cv_X8_seeks kd_115 (hREC hv1 o24 mμ22 h) (bleN N) rfl dX8_seeks_227 (fun r26 μ25 hr26 mμ25 h => ?_)
      refine r_if_eq 235 dX8_seeks_230 rfl hr26 (fun c27 => ?_) (fun c27 => ?_)
      · have h := h.1 c27
        refine r_al0 dX8_seeks_235 ?_
        refine r_dup rfl dX8_seeks_236 ?_
        refine r_getI B fg_X8_255 kd_115 (kl kd_115) dX8_seeks_237 ?_
        refine r_iconst dX8_seeks_240 ?_
        refine r_isub dX8_seeks_241 ?_
        obtain ⟨o28, h⟩ := h
        refine r_putI B fg_X8_255 fp_8_25 kd_115 (kl kd_115) dX8_seeks_242 ?_
        refine n_mem (fun μ29 eμ29 => ?_)
        have h := h μ29 eμ29
        have mμ29 : okM μ29 := eqM eμ29 (okM_sI mμ25 o28)
        refine r_al0 dX8_seeks_245 ?_
        refine r_getI B fg_X8_251 kd_115 (kl kd_115) dX8_seeks_246 ?_
        refine r_ldc B (a := 60000) kc_X8_254 (by decide) dX8_seeks_249 ?_
        refine r_icmp_ne 259 dX8_seeks_251 rfl (mμ29 115 24) (inR_k rfl) (fun c30 => ?_) (fun c30 => ?_)
        · have h := h.1 c30
          exact J_weak (t_X8_seeks_259 B hr hREC hX85 hv1 hv2 hv8 hv9 mμ29 h) (⟨rfl, ⟨rfl, ⟨rfl, ⟨rfl, ⟨rfl, ⟨rfl, ⟨rfl, trivial⟩⟩⟩⟩⟩⟩⟩)
        · have h := h.2 c30
          refine r_al0 dX8_seeks_254 ?_
          refine r_iconst dX8_seeks_255 ?_
          refine r_putZ B fg_X8_262 fp_8_28 kd_115 (kl kd_115) (Or.inr rfl) dX8_seeks_256 ?_
          refine n_mem (fun μ33 eμ33 => ?_)
          have h := h μ33 eμ33
          have mμ33 : okM μ33 := eqM eμ33 (okM_sI mμ29 (inR_k rfl))
          exact J_weak (t_X8_seeks_259 B hr hREC hX85 hv1 hv2 hv8 hv9 mμ33 h) (⟨rfl, ⟨rfl, ⟨rfl, ⟨rfl, ⟨rfl, ⟨rfl, ⟨rfl, trivial⟩⟩⟩⟩⟩⟩⟩)
      · have h := h.2 c27
        refine r_iconst dX8_seeks_233 ?_
        exact r_zret B hr (Or.inr rfl) mμ25 dX8_seeks_234 h
    · have h := h.2 c16
      refine r_iconst dX8_seeks_170 ?_
      exact r_zret B hr (Or.inl rfl) hμ dX8_seeks_171 h
  · have h := h.2 c15
    refine r_goto 268 dX8_seeks_158 rfl ?_
    refine r_inc9 dX8_seeks_268 rfl ?_
    obtain ⟨o34, h⟩ := h
    refine r_goto 85 dX8_seeks_271 rfl ?_
    exact J_weak (hX85 v1 v2 v3 v5 v8 (v9 + 1) μ h hv1 hv2 hv8 o34 hμ) (⟨rfl, ⟨rfl, ⟨rfl, ⟨rfl, ⟨rfl, ⟨rfl, ⟨rfl, trivial⟩⟩⟩⟩⟩⟩⟩)
set_option maxRecDepth 20000 in
theorem t_X8_seeks_85 {x : Cx} {E : Gx} {N : Nat} (B : Bd x E (N + 4) 11 "SlipCoversModel") (hr : (xt x).sig.returnType = (some .boolean)) {Q : Int → Mem → Prop} {REC : Int → Int → Int64 → Int64 → Mem → (Int → Mem → Prop) → Prop} (hREC : ∀ {p0 : Int} {p1 : Int} {p2 : Int64} {p3 : Int64} {μ : Mem} {Q : Int → Mem → Prop}, inR p0 → inR p1 → okM μ → REC p0 p1 p2 p3 μ Q → MT (xl x) yX8_seeks cX8_seeks 11 (some .boolean) E (N + 3) 0 0 z0 [rv E 115, iv p0, iv p1, .long p2, .long p3] μ (QI E z0 Q)) {v1 : Int} {v2 : Int} {v3 : Int64} {v5 : Int64} {v8 : Int} {v9 : Int} {μ : Mem} (hv1 : inR v1) (hv2 : inR v2) (hv8 : inR v8) (hv9 : inR v9) (hμ : okM μ) (h : LP7 (wp_X8_seeks_85 Q REC) v1 v2 v3 v5 v8 v9 μ) : J cX8_seeks x E z0 μ 85 [some (rv E 115), some (iv v1), some (iv v2), some (.long v3), none, some (.long v5), none, none, some (iv v8), some (iv v9), none] [] (MQ (xb x) (QI E z0 Q) (xa x) (xs x) 0 0 (gA E)) := by
  refine LP7_ind (T := fun (v1 : Int) (v2 : Int) (v3 : Int64) (v5 : Int64) (v8 : Int) (v9 : Int) (μ : Mem) => inR v1 → inR v2 → inR v8 → inR v9 → okM μ → J cX8_seeks x E z0 μ 85 [some (rv E 115), some (iv v1), some (iv v2), some (.long v3), none, some (.long v5), none, none, some (iv v8), some (iv v9), none] [] (MQ (xb x) (QI E z0 Q) (xa x) (xs x) 0 0 (gA E))) (fun X85 hX85 v1 v2 v3 v5 v8 v9 μ h hv1 hv2 hv8 hv9 hμ => ?_) h hv1 hv2 hv8 hv9 hμ
  unfold wp_X8_seeks_85 at h
  refine r_il9 dX8_seeks_85 ?_
  refine r_al0 dX8_seeks_87 ?_
  refine r_getI B fg_X8_241 kd_115 (kl kd_115) dX8_seeks_88 ?_
  refine r_icmp_ge 274 dX8_seeks_91 rfl hv9 (hμ 115 26) (fun c11 => ?_) (fun c11 => ?_)
  · have h := h.1 c11
    refine r_iconst dX8_seeks_274 ?_
    exact r_zret B hr (Or.inl rfl) hμ dX8_seeks_275 h
  · have h := h.2 c11
    refine r_il8 dX8_seeks_94 ?_
    refine r_bipush dX8_seeks_96 (by decide) ?_
    refine r_icmp_ge 126 dX8_seeks_98 rfl hv8 (inR_k rfl) (fun c12 => ?_) (fun c12 => ?_)
    · have h := h.1 c12
      refine r_al0 dX8_seeks_126 ?_
      refine r_getR B 123 fg_X8_36 kd_115 (kl kd_115) (ρo (off := 8) kd_115 rfl) dX8_seeks_127 ?_
      refine r_il9 dX8_seeks_130 ?_
      obtain ⟨o13, h⟩ := h
      refine r_lald B kd_123 (kl kd_123) (by decide) o13 dX8_seeks_132 ?_
      refine r_il8 dX8_seeks_133 ?_
      refine r_bipush dX8_seeks_135 (by decide) ?_
      refine r_isub dX8_seeks_137 ?_
      refine r_lshr dX8_seeks_138 ?_
      refine r_lconst (v := 1) rfl dX8_seeks_139 ?_
      refine r_land dX8_seeks_140 ?_
      refine r_lconst (v := 1) rfl dX8_seeks_141 ?_
      refine r_lcmp dX8_seeks_142 ?_
      refine r_if_ne 150 dX8_seeks_143 rfl (inR_t _) (fun c14 => ?_) (fun c14 => ?_)
      · have h := h.1 c14
        refine r_iconst dX8_seeks_150 ?_
        exact J_weak (t_X8_seeks_151 B hr hREC hX85 hv1 hv2 hv8 hv9 (inR_k rfl) hμ h) (⟨rfl, ⟨rfl, ⟨rfl, ⟨rfl, ⟨rfl, ⟨rfl, ⟨rfl, trivial⟩⟩⟩⟩⟩⟩⟩)
      · have h := h.2 c14
        refine r_iconst dX8_seeks_146 ?_
        refine r_goto 151 dX8_seeks_147 rfl ?_
        exact J_weak (t_X8_seeks_151 B hr hREC hX85 hv1 hv2 hv8 hv9 (inR_k rfl) hμ h) (⟨rfl, ⟨rfl, ⟨rfl, ⟨rfl, ⟨rfl, ⟨rfl, ⟨rfl, trivial⟩⟩⟩⟩⟩⟩⟩)
    · have h := h.2 c12
      refine r_al0 dX8_seeks_101 ?_
      refine r_getR B 122 fg_X8_33 kd_115 (kl kd_115) (ρo (off := 7) kd_115 rfl) dX8_seeks_102 ?_
      refine r_il9 dX8_seeks_105 ?_
      obtain ⟨o35, h⟩ := h
      refine r_lald B kd_122 (kl kd_122) (by decide) o35 dX8_seeks_107 ?_
      refine r_il8 dX8_seeks_108 ?_
      refine r_lshr dX8_seeks_110 ?_
      refine r_lconst (v := 1) rfl dX8_seeks_111 ?_
      refine r_land dX8_seeks_112 ?_
      refine r_lconst (v := 1) rfl dX8_seeks_113 ?_
      refine r_lcmp dX8_seeks_114 ?_
      refine r_if_ne 122 dX8_seeks_115 rfl (inR_t _) (fun c36 => ?_) (fun c36 => ?_)
      · have h := h.1 c36
        refine r_iconst dX8_seeks_122 ?_
        refine r_goto 151 dX8_seeks_123 rfl ?_
        exact J_weak (t_X8_seeks_151 B hr hREC hX85 hv1 hv2 hv8 hv9 (inR_k rfl) hμ h) (⟨rfl, ⟨rfl, ⟨rfl, ⟨rfl, ⟨rfl, ⟨rfl, ⟨rfl, trivial⟩⟩⟩⟩⟩⟩⟩)
      · have h := h.2 c36
        refine r_iconst dX8_seeks_118 ?_
        refine r_goto 151 dX8_seeks_119 rfl ?_
        exact J_weak (t_X8_seeks_151 B hr hREC hX85 hv1 hv2 hv8 hv9 (inR_k rfl) hμ h) (⟨rfl, ⟨rfl, ⟨rfl, ⟨rfl, ⟨rfl, ⟨rfl, ⟨rfl, trivial⟩⟩⟩⟩⟩⟩⟩)
set_option maxRecDepth 20000 in
theorem t_X8_seeks_40 {x : Cx} {E : Gx} {N : Nat} (B : Bd x E (N + 4) 11 "SlipCoversModel") (hr : (xt x).sig.returnType = (some .boolean)) {Q : Int → Mem → Prop} {REC : Int → Int → Int64 → Int64 → Mem → (Int → Mem → Prop) → Prop} (hREC : ∀ {p0 : Int} {p1 : Int} {p2 : Int64} {p3 : Int64} {μ : Mem} {Q : Int → Mem → Prop}, inR p0 → inR p1 → okM μ → REC p0 p1 p2 p3 μ Q → MT (xl x) yX8_seeks cX8_seeks 11 (some .boolean) E (N + 3) 0 0 z0 [rv E 115, iv p0, iv p1, .long p2, .long p3] μ (QI E z0 Q)) {v1 : Int} {v2 : Int} {v3 : Int64} {v5 : Int64} {v8 : Int} {μ : Mem} (hv1 : inR v1) (hv2 : inR v2) (hv8 : inR v8) (hμ : okM μ) (h : LP6 (wp_X8_seeks_40 Q REC) v1 v2 v3 v5 v8 μ) : J cX8_seeks x E z0 μ 40 [some (rv E 115), some (iv v1), some (iv v2), some (.long v3), none, some (.long v5), none, none, some (iv v8), none, none] [] (MQ (xb x) (QI E z0 Q) (xa x) (xs x) 0 0 (gA E)) := by
  refine LP6_ind (T := fun (v1 : Int) (v2 : Int) (v3 : Int64) (v5 : Int64) (v8 : Int) (μ : Mem) => inR v1 → inR v2 → inR v8 → okM μ → J cX8_seeks x E z0 μ 40 [some (rv E 115), some (iv v1), some (iv v2), some (.long v3), none, some (.long v5), none, none, some (iv v8), none, none] [] (MQ (xb x) (QI E z0 Q) (xa x) (xs x) 0 0 (gA E))) (fun X40 hX40 v1 v2 v3 v5 v8 μ h hv1 hv2 hv8 hμ => ?_) h hv1 hv2 hv8 hμ
  unfold wp_X8_seeks_40 at h
  refine r_il8 dX8_seeks_40 ?_
  refine r_bipush dX8_seeks_42 (by decide) ?_
  refine r_icmp_ge 61 dX8_seeks_44 rfl hv8 (inR_k rfl) (fun c9 => ?_) (fun c9 => ?_)
  · have h := h.1 c9
    refine r_ll5 dX8_seeks_61 ?_
    refine r_il8 dX8_seeks_63 ?_
    refine r_bipush dX8_seeks_65 (by decide) ?_
    refine r_isub dX8_seeks_67 ?_
    refine r_lshr dX8_seeks_68 ?_
    refine r_lconst (v := 1) rfl dX8_seeks_69 ?_
    refine r_land dX8_seeks_70 ?_
    refine r_lconst (v := 1) rfl dX8_seeks_71 ?_
    refine r_lcmp dX8_seeks_72 ?_
    refine r_if_ne 82 dX8_seeks_73 rfl (inR_t _) (fun c10 => ?_) (fun c10 => ?_)
    · have h := h.1 c10
      refine r_iconst dX8_seeks_82 ?_
      refine r_is9 dX8_seeks_83 rfl ?_
      exact J_weak (t_X8_seeks_85 B hr hREC hv1 hv2 hv8 (inR_k rfl) hμ h) (⟨rfl, ⟨rfl, ⟨rfl, ⟨rfl, ⟨rfl, ⟨rfl, ⟨rfl, trivial⟩⟩⟩⟩⟩⟩⟩)
    · have h := h.2 c10
      refine r_inc8 dX8_seeks_76 rfl ?_
      obtain ⟨o37, h⟩ := h
      refine r_goto 40 dX8_seeks_79 rfl ?_
      exact J_weak (hX40 v1 v2 v3 v5 (v8 + 1) μ h hv1 hv2 o37 hμ) (⟨rfl, ⟨rfl, ⟨rfl, ⟨rfl, ⟨rfl, ⟨rfl, trivial⟩⟩⟩⟩⟩⟩)
  · have h := h.2 c9
    refine r_ll3 dX8_seeks_47 ?_
    refine r_il8 dX8_seeks_48 ?_
    refine r_lshr dX8_seeks_50 ?_
    refine r_lconst (v := 1) rfl dX8_seeks_51 ?_
    refine r_land dX8_seeks_52 ?_
    refine r_lconst (v := 1) rfl dX8_seeks_53 ?_
    refine r_lcmp dX8_seeks_54 ?_
    refine r_if_ne 82 dX8_seeks_55 rfl (inR_t _) (fun c38 => ?_) (fun c38 => ?_)
    · have h := h.1 c38
      refine r_iconst dX8_seeks_82 ?_
      refine r_is9 dX8_seeks_83 rfl ?_
      exact J_weak (t_X8_seeks_85 B hr hREC hv1 hv2 hv8 (inR_k rfl) hμ h) (⟨rfl, ⟨rfl, ⟨rfl, ⟨rfl, ⟨rfl, ⟨rfl, ⟨rfl, trivial⟩⟩⟩⟩⟩⟩⟩)
    · have h := h.2 c38
      refine r_goto 76 dX8_seeks_58 rfl ?_
      refine r_inc8 dX8_seeks_76 rfl ?_
      obtain ⟨o39, h⟩ := h
      refine r_goto 40 dX8_seeks_79 rfl ?_
      exact J_weak (hX40 v1 v2 v3 v5 (v8 + 1) μ h hv1 hv2 o39 hμ) (⟨rfl, ⟨rfl, ⟨rfl, ⟨rfl, ⟨rfl, ⟨rfl, trivial⟩⟩⟩⟩⟩⟩)
set_option maxRecDepth 20000 in
theorem c_X8_seeks_n (l : Launch) (E : Gx) : ∀ (N : Nat) (p0 : Int) (p1 : Int) (p2 : Int64) (p3 : Int64) (μ : Mem) (Q : Int → Mem → Prop), inR p0 → inR p1 → okM μ → wp_X8_seeks N p0 p1 p2 p3 μ Q → MT l yX8_seeks cX8_seeks 11 (some .boolean) E (N + 3) 0 0 z0 [rv E 115, iv p0, iv p1, .long p2, .long p3] μ (QI E z0 Q) := by
  intro N
  induction N with
  | zero => intro p0 p1 p2 p3 μ Q hp0 hp1 hμ h; exact absurd h (fun q => q)
  | succ N ih =>
    intro p0 p1 p2 p3 μ Q hp0 hp1 hμ h
    refine m_start [some (rv E 115), some (iv p0), some (iv p1), some (.long p2), none, some (.long p3), none, none, none, none, none] (by decide) rfl rfl rfl (fun x hxl hxc hxs B hr hnm => ?_)
    subst hxl
    have hREC := fun {p0 : Int} {p1 : Int} {p2 : Int64} {p3 : Int64} {μ : Mem} {Q : Int → Mem → Prop} => ih p0 p1 p2 p3 μ Q
    generalize hG : wp_X8_seeks N = REC at hREC
    have h : wp_X8_seeks_b REC p0 p1 p2 p3 μ Q := hG ▸ h
    unfold wp_X8_seeks_b at h
    refine r_al0 dX8_seeks_0 ?_
    refine r_getI B fg_X8_241 kd_115 (kl kd_115) dX8_seeks_1 ?_
    refine r_ll3 dX8_seeks_4 ?_
    refine r_ll5 dX8_seeks_5 ?_
    refine r_cSI2 B cb_X8_bits lk_X8_244 cs_X8_bits (c_X8_bits (xl x) E hμ h) rfl rfl dX8_seeks_7 (fun r2 μ1 hr2 mμ1 h => ?_)
    refine r_isub dX8_seeks_10 ?_
    obtain ⟨o4, h⟩ := h
    refine n_topi (fun x3 ex3 => ?_)
    have h := h x3 ex3
    refine r_is7 dX8_seeks_11 rfl ?_
    refine r_il7 dX8_seeks_13 ?_
    refine r_if_ne 20 dX8_seeks_15 rfl (eqR ex3 o4) (fun c5 => ?_) (fun c5 => ?_)
    · have h := h.1 c5
      refine r_il2 dX8_seeks_20 ?_
      refine r_if_eq 35 dX8_seeks_21 rfl hp1 (fun c6 => ?_) (fun c6 => ?_)
      · have h := h.1 c6
        refine r_iconst dX8_seeks_35 ?_
        exact r_zret B hr (Or.inl rfl) mμ1 dX8_seeks_36 h
      · have h := h.2 c6
        refine r_il2 dX8_seeks_24 ?_
        refine r_al0 dX8_seeks_25 ?_
        refine r_getI B fg_X8_248 kd_115 (kl kd_115) dX8_seeks_26 ?_
        refine r_imul dX8_seeks_29 ?_
        refine r_il7 dX8_seeks_30 ?_
        obtain ⟨o7, h⟩ := h
        refine r_icmp_ge 37 dX8_seeks_32 rfl o7 (eqR ex3 o4) (fun c8 => ?_) (fun c8 => ?_)
        · have h := h.1 c8
          refine r_iconst dX8_seeks_37 ?_
          refine r_is8 dX8_seeks_38 rfl ?_
          exact J_weak (t_X8_seeks_40 B hr hREC hp0 hp1 (inR_k rfl) mμ1 h) (⟨rfl, ⟨rfl, ⟨rfl, ⟨rfl, ⟨rfl, ⟨rfl, trivial⟩⟩⟩⟩⟩⟩)
        · have h := h.2 c8
          refine r_iconst dX8_seeks_35 ?_
          exact r_zret B hr (Or.inl rfl) mμ1 dX8_seeks_36 h
    · have h := h.2 c5
      refine r_iconst dX8_seeks_18 ?_
      exact r_zret B hr (Or.inr rfl) mμ1 dX8_seeks_19 h
theorem c_X8_seeks (l : Launch) (E : Gx) {p0 : Int} {p1 : Int} {p2 : Int64} {p3 : Int64} {μ : Mem} {Q : Int → Mem → Prop} (hp0 : inR p0) (hp1 : inR p1) (hμ : okM μ) (h : wp_X8_seeks 12 p0 p1 p2 p3 μ Q) : MT l yX8_seeks cX8_seeks 11 (some .boolean) E 15 0 0 z0 [rv E 115, iv p0, iv p1, .long p2, .long p3] μ (QI E z0 Q) := c_X8_seeks_n l E 12 p0 p1 p2 p3 μ Q hp0 hp1 hμ h
set_option maxRecDepth 20000 in
theorem t_X8_fewestOf_133 {x : Cx} {E : Gx} (B : Bd x E 16 5 "SlipCoversModel") (hr : (xt x).sig.returnType = (some .int)) {Q : Int → Mem → Prop} {v1 : Int} {v3 : Int} {μ : Mem} (hv1 : inR v1) (hv3 : inR v3) (hμ : okM μ) (h : LP3 (wp_X8_fewestOf_133 Q) v1 v3 μ) : J cX8_fewestOf x E z0 μ 133 [some (rv E 115), some (iv v1), none, some (iv v3), none] [] (MQ (xb x) (QI E z0 Q) (xa x) (xs x) 0 0 (gA E)) := by
  refine LP3_ind (T := fun (v1 : Int) (v3 : Int) (μ : Mem) => inR v1 → inR v3 → okM μ → J cX8_fewestOf x E z0 μ 133 [some (rv E 115), some (iv v1), none, some (iv v3), none] [] (MQ (xb x) (QI E z0 Q) (xa x) (xs x) 0 0 (gA E))) (fun X133 hX133 v1 v3 μ h hv1 hv3 hμ => ?_) h hv1 hv3 hμ
  unfold wp_X8_fewestOf_133 at h
  refine r_il3 dX8_fewestOf_133 ?_
  refine r_bipush dX8_fewestOf_134 (by decide) ?_
  refine r_icmp_gt 173 dX8_fewestOf_136 rfl hv3 (inR_k rfl) (fun c10 => ?_) (fun c10 => ?_)
  · have h := h.1 c10
    refine r_al0 dX8_fewestOf_173 ?_
    refine r_iconst dX8_fewestOf_174 ?_
    refine r_putI B fg_X8_255 fp_8_25 kd_115 (kl kd_115) dX8_fewestOf_175 ?_
    refine n_mem (fun μ11 eμ11 => ?_)
    have h := h μ11 eμ11
    have mμ11 : okM μ11 := eqM eμ11 (okM_sI hμ (inR_k rfl))
    refine r_bipush dX8_fewestOf_178 (by decide) ?_
    exact r_iret B hr (inR_k rfl) mμ11 dX8_fewestOf_180 h
  · have h := h.2 c10
    refine r_al0 dX8_fewestOf_139 ?_
    refine r_getI B fg_X8_262 kd_115 (kl kd_115) dX8_fewestOf_140 ?_
    refine r_if_ne 173 dX8_fewestOf_143 rfl (hμ 115 28) (fun c12 => ?_) (fun c12 => ?_)
    · have h := h.1 c12
      refine r_al0 dX8_fewestOf_173 ?_
      refine r_iconst dX8_fewestOf_174 ?_
      refine r_putI B fg_X8_255 fp_8_25 kd_115 (kl kd_115) dX8_fewestOf_175 ?_
      refine n_mem (fun μ13 eμ13 => ?_)
      have h := h μ13 eμ13
      have mμ13 : okM μ13 := eqM eμ13 (okM_sI hμ (inR_k rfl))
      refine r_bipush dX8_fewestOf_178 (by decide) ?_
      exact r_iret B hr (inR_k rfl) mμ13 dX8_fewestOf_180 h
    · have h := h.2 c12
      refine r_al0 dX8_fewestOf_146 ?_
      refine r_iconst dX8_fewestOf_147 ?_
      refine r_putI B fg_X8_255 fp_8_25 kd_115 (kl kd_115) dX8_fewestOf_148 ?_
      refine n_mem (fun μ14 eμ14 => ?_)
      have h := h μ14 eμ14
      have mμ14 : okM μ14 := eqM eμ14 (okM_sI hμ (inR_k rfl))
      refine r_al0 dX8_fewestOf_151 ?_
      refine r_il1 dX8_fewestOf_152 ?_
      refine r_il3 dX8_fewestOf_153 ?_
      refine r_lconst (v := 0) rfl dX8_fewestOf_154 ?_
      refine r_lconst (v := 0) rfl dX8_fewestOf_155 ?_
      refine r_cVI4 B cb_X8_seeks lk_X8_258 cv_X8_seeks kd_115 (c_X8_seeks (xl x) E hv1 hv3 mμ14 h) rfl rfl dX8_fewestOf_156 (fun r16 μ15 hr16 mμ15 h => ?_)
      refine r_if_eq 167 dX8_fewestOf_159 rfl hr16 (fun c17 => ?_) (fun c17 => ?_)
      · have h := h.1 c17
        refine r_inc3 dX8_fewestOf_167 rfl ?_
        obtain ⟨o18, h⟩ := h
        refine r_goto 133 dX8_fewestOf_170 rfl ?_
        exact J_weak (hX133 v1 (v3 + 1) μ15 h hv1 o18 mμ15) (⟨rfl, ⟨rfl, ⟨rfl, trivial⟩⟩⟩)
      · have h := h.2 c17
        refine r_al0 dX8_fewestOf_162 ?_
        refine r_getI B fg_X8_255 kd_115 (kl kd_115) dX8_fewestOf_163 ?_
        exact r_iret B hr (mμ15 115 25) mμ15 dX8_fewestOf_166 h
set_option maxRecDepth 20000 in
theorem t_X8_fewestOf_46 {x : Cx} {E : Gx} (B : Bd x E 16 5 "SlipCoversModel") (hr : (xt x).sig.returnType = (some .int)) {Q : Int → Mem → Prop} {X21 : Int → Int → Int → Mem → Prop} (hX21 : ∀ (v1 : Int) (v2 : Int) (v3 : Int) (μ : Mem), X21 v1 v2 v3 μ → inR v1 → inR v2 → inR v3 → okM μ → J cX8_fewestOf x E z0 μ 21 [some (rv E 115), some (iv v1), some (iv v2), some (iv v3), none] [] (MQ (xb x) (QI E z0 Q) (xa x) (xs x) 0 0 (gA E))) {v1 : Int} {v2 : Int} {v3 : Int} {v4 : Int} {μ : Mem} (hv1 : inR v1) (hv2 : inR v2) (hv3 : inR v3) (hv4 : inR v4) (hμ : okM μ) (h : LP5 (wp_X8_fewestOf_46 Q X21) v1 v2 v3 v4 μ) : J cX8_fewestOf x E z0 μ 46 [some (rv E 115), some (iv v1), some (iv v2), some (iv v3), some (iv v4)] [] (MQ (xb x) (QI E z0 Q) (xa x) (xs x) 0 0 (gA E)) := by
  refine LP5_ind (T := fun (v1 : Int) (v2 : Int) (v3 : Int) (v4 : Int) (μ : Mem) => inR v1 → inR v2 → inR v3 → inR v4 → okM μ → J cX8_fewestOf x E z0 μ 46 [some (rv E 115), some (iv v1), some (iv v2), some (iv v3), some (iv v4)] [] (MQ (xb x) (QI E z0 Q) (xa x) (xs x) 0 0 (gA E))) (fun X46 hX46 v1 v2 v3 v4 μ h hv1 hv2 hv3 hv4 hμ => ?_) h hv1 hv2 hv3 hv4 hμ
  unfold wp_X8_fewestOf_46 at h
  refine r_il4 dX8_fewestOf_46 ?_
  refine r_al0 dX8_fewestOf_48 ?_
  refine r_getI B fg_X8_241 kd_115 (kl kd_115) dX8_fewestOf_49 ?_
  refine r_icmp_ge 115 dX8_fewestOf_52 rfl hv4 (hμ 115 26) (fun c22 => ?_) (fun c22 => ?_)
  · have h := h.1 c22
    refine r_inc3 dX8_fewestOf_115 rfl ?_
    obtain ⟨o23, h⟩ := h
    refine r_goto 21 dX8_fewestOf_118 rfl ?_
    exact J_weak (hX21 v1 v2 (v3 + 1) μ h hv1 hv2 o23 hμ) (⟨rfl, ⟨rfl, ⟨rfl, ⟨rfl, trivial⟩⟩⟩⟩)
  · have h := h.2 c22
    refine r_al0 dX8_fewestOf_55 ?_
    refine r_il1 dX8_fewestOf_56 ?_
    refine r_il3 dX8_fewestOf_57 ?_
    refine r_il4 dX8_fewestOf_58 ?_
    refine r_cVI3 B cb_X8_farOf lk_X8_195 cv_X8_farOf kd_115 (c_X8_farOf (xl x) E hv1 hv3 hv4 hμ h) rfl rfl dX8_fewestOf_60 (fun r25 μ24 hr25 mμ24 h => ?_)
    refine r_il2 dX8_fewestOf_63 ?_
    refine r_icmp_le 70 dX8_fewestOf_64 rfl hr25 hv2 (fun c26 => ?_) (fun c26 => ?_)
    · have h := h.1 c26
      refine r_il4 dX8_fewestOf_70 ?_
      refine r_bipush dX8_fewestOf_72 (by decide) ?_
      refine r_icmp_ge 93 dX8_fewestOf_74 rfl hv4 (inR_k rfl) (fun c27 => ?_) (fun c27 => ?_)
      · have h := h.1 c27
        refine r_al0 dX8_fewestOf_93 ?_
        refine r_getR B 123 fg_X8_36 kd_115 (kl kd_115) (ρo (off := 8) kd_115 rfl) dX8_fewestOf_94 ?_
        refine r_il3 dX8_fewestOf_97 ?_
        refine r_dup2 rfl rfl dX8_fewestOf_98 ?_
        obtain ⟨o28, h⟩ := h
        refine r_lald B kd_123 (kl kd_123) (by decide) o28 dX8_fewestOf_99 ?_
        refine r_lconst (v := 1) rfl dX8_fewestOf_100 ?_
        refine r_il4 dX8_fewestOf_101 ?_
        refine r_bipush dX8_fewestOf_103 (by decide) ?_
        refine r_isub dX8_fewestOf_105 ?_
        refine r_lshl dX8_fewestOf_106 ?_
        refine r_lor dX8_fewestOf_107 ?_
        refine r_last B kd_123 (kl kd_123) (by decide) o28 dX8_fewestOf_108 ?_
        refine n_mem (fun μ29 eμ29 => ?_)
        have h := h μ29 eμ29
        have mμ29 : okM μ29 := eqM eμ29 (okM_sL mμ24)
        refine r_inc4 dX8_fewestOf_109 rfl ?_
        obtain ⟨o30, h⟩ := h
        refine r_goto 46 dX8_fewestOf_112 rfl ?_
        exact J_weak (hX46 v1 v2 v3 (v4 + 1) μ29 h hv1 hv2 hv3 o30 mμ29) (⟨rfl, ⟨rfl, ⟨rfl, ⟨rfl, ⟨rfl, trivial⟩⟩⟩⟩⟩)
      · have h := h.2 c27
        refine r_al0 dX8_fewestOf_77 ?_
        refine r_getR B 122 fg_X8_33 kd_115 (kl kd_115) (ρo (off := 7) kd_115 rfl) dX8_fewestOf_78 ?_
        refine r_il3 dX8_fewestOf_81 ?_
        refine r_dup2 rfl rfl dX8_fewestOf_82 ?_
        obtain ⟨o31, h⟩ := h
        refine r_lald B kd_122 (kl kd_122) (by decide) o31 dX8_fewestOf_83 ?_
        refine r_lconst (v := 1) rfl dX8_fewestOf_84 ?_
        refine r_il4 dX8_fewestOf_85 ?_
        refine r_lshl dX8_fewestOf_87 ?_
        refine r_lor dX8_fewestOf_88 ?_
        refine r_last B kd_122 (kl kd_122) (by decide) o31 dX8_fewestOf_89 ?_
        refine n_mem (fun μ32 eμ32 => ?_)
        have h := h μ32 eμ32
        have mμ32 : okM μ32 := eqM eμ32 (okM_sL mμ24)
        refine r_goto 109 dX8_fewestOf_90 rfl ?_
        refine r_inc4 dX8_fewestOf_109 rfl ?_
        obtain ⟨o33, h⟩ := h
        refine r_goto 46 dX8_fewestOf_112 rfl ?_
        exact J_weak (hX46 v1 v2 v3 (v4 + 1) μ32 h hv1 hv2 hv3 o33 mμ32) (⟨rfl, ⟨rfl, ⟨rfl, ⟨rfl, ⟨rfl, trivial⟩⟩⟩⟩⟩)
    · have h := h.2 c26
      refine r_goto 109 dX8_fewestOf_67 rfl ?_
      refine r_inc4 dX8_fewestOf_109 rfl ?_
      obtain ⟨o34, h⟩ := h
      refine r_goto 46 dX8_fewestOf_112 rfl ?_
      exact J_weak (hX46 v1 v2 v3 (v4 + 1) μ24 h hv1 hv2 hv3 o34 mμ24) (⟨rfl, ⟨rfl, ⟨rfl, ⟨rfl, ⟨rfl, trivial⟩⟩⟩⟩⟩)
set_option maxRecDepth 20000 in
theorem t_X8_fewestOf_21 {x : Cx} {E : Gx} (B : Bd x E 16 5 "SlipCoversModel") (hr : (xt x).sig.returnType = (some .int)) {Q : Int → Mem → Prop} {v1 : Int} {v2 : Int} {v3 : Int} {μ : Mem} (hv1 : inR v1) (hv2 : inR v2) (hv3 : inR v3) (hμ : okM μ) (h : LP4 (wp_X8_fewestOf_21 Q) v1 v2 v3 μ) : J cX8_fewestOf x E z0 μ 21 [some (rv E 115), some (iv v1), some (iv v2), some (iv v3), none] [] (MQ (xb x) (QI E z0 Q) (xa x) (xs x) 0 0 (gA E)) := by
  refine LP4_ind (T := fun (v1 : Int) (v2 : Int) (v3 : Int) (μ : Mem) => inR v1 → inR v2 → inR v3 → okM μ → J cX8_fewestOf x E z0 μ 21 [some (rv E 115), some (iv v1), some (iv v2), some (iv v3), none] [] (MQ (xb x) (QI E z0 Q) (xa x) (xs x) 0 0 (gA E))) (fun X21 hX21 v1 v2 v3 μ h hv1 hv2 hv3 hμ => ?_) h hv1 hv2 hv3 hμ
  unfold wp_X8_fewestOf_21 at h
  refine r_il3 dX8_fewestOf_21 ?_
  refine r_al0 dX8_fewestOf_22 ?_
  refine r_getI B fg_X8_241 kd_115 (kl kd_115) dX8_fewestOf_23 ?_
  refine r_icmp_ge 121 dX8_fewestOf_26 rfl hv3 (hμ 115 26) (fun c7 => ?_) (fun c7 => ?_)
  · have h := h.1 c7
    refine r_al0 dX8_fewestOf_121 ?_
    refine r_iconst dX8_fewestOf_122 ?_
    refine r_putI B fg_X8_251 fp_8_24 kd_115 (kl kd_115) dX8_fewestOf_123 ?_
    refine n_mem (fun μ8 eμ8 => ?_)
    have h := h μ8 eμ8
    have mμ8 : okM μ8 := eqM eμ8 (okM_sI hμ (inR_k rfl))
    refine r_al0 dX8_fewestOf_126 ?_
    refine r_iconst dX8_fewestOf_127 ?_
    refine r_putZ B fg_X8_262 fp_8_28 kd_115 (kl kd_115) (Or.inl rfl) dX8_fewestOf_128 ?_
    refine n_mem (fun μ9 eμ9 => ?_)
    have h := h μ9 eμ9
    have mμ9 : okM μ9 := eqM eμ9 (okM_sI mμ8 (inR_k rfl))
    refine r_iconst dX8_fewestOf_131 ?_
    refine r_is3 dX8_fewestOf_132 rfl ?_
    exact J_weak (t_X8_fewestOf_133 B hr hv1 (inR_k rfl) mμ9 h) (⟨rfl, ⟨rfl, ⟨rfl, trivial⟩⟩⟩)
  · have h := h.2 c7
    refine r_al0 dX8_fewestOf_29 ?_
    refine r_getR B 122 fg_X8_33 kd_115 (kl kd_115) (ρo (off := 7) kd_115 rfl) dX8_fewestOf_30 ?_
    refine r_il3 dX8_fewestOf_33 ?_
    refine r_lconst (v := 0) rfl dX8_fewestOf_34 ?_
    obtain ⟨o19, h⟩ := h
    refine r_last B kd_122 (kl kd_122) (by decide) o19 dX8_fewestOf_35 ?_
    refine n_mem (fun μ20 eμ20 => ?_)
    have h := h μ20 eμ20
    have mμ20 : okM μ20 := eqM eμ20 (okM_sL hμ)
    refine r_al0 dX8_fewestOf_36 ?_
    refine r_getR B 123 fg_X8_36 kd_115 (kl kd_115) (ρo (off := 8) kd_115 rfl) dX8_fewestOf_37 ?_
    refine r_il3 dX8_fewestOf_40 ?_
    refine r_lconst (v := 0) rfl dX8_fewestOf_41 ?_
    refine r_last B kd_123 (kl kd_123) (by decide) o19 dX8_fewestOf_42 ?_
    refine n_mem (fun μ21 eμ21 => ?_)
    have h := h μ21 eμ21
    have mμ21 : okM μ21 := eqM eμ21 (okM_sL mμ20)
    refine r_iconst dX8_fewestOf_43 ?_
    refine r_is4 dX8_fewestOf_44 rfl ?_
    exact J_weak (t_X8_fewestOf_46 B hr hX21 hv1 hv2 hv3 (inR_k rfl) mμ21 h) (⟨rfl, ⟨rfl, ⟨rfl, ⟨rfl, ⟨rfl, trivial⟩⟩⟩⟩⟩)
set_option maxRecDepth 20000 in
theorem c_X8_fewestOf (l : Launch) (E : Gx) {p0 : Int} {p1 : Int} {μ : Mem} {Q : Int → Mem → Prop} (hp0 : inR p0) (hp1 : inR p1) (hμ : okM μ) (h : wp_X8_fewestOf p0 p1 μ Q) : MT l yX8_fewestOf cX8_fewestOf 5 (some .int) E 16 0 0 z0 [rv E 115, iv p0, iv p1] μ (QI E z0 Q) := by
  refine m_start [some (rv E 115), some (iv p0), some (iv p1), none, none] (by decide) rfl rfl rfl (fun x hxl hxc hxs B hr hnm => ?_)
  unfold wp_X8_fewestOf at h
  refine r_al0 dX8_fewestOf_0 ?_
  refine r_al0 dX8_fewestOf_1 ?_
  refine r_il1 dX8_fewestOf_2 ?_
  refine r_cVI1 B cb_X8_words lk_X8_113 cv_X8_words kd_115 (c_X8_words (xl x) E hp0 hμ h) rfl rfl dX8_fewestOf_3 (fun r2 μ1 hr2 mμ1 h => ?_)
  refine r_putI B fg_X8_241 fp_8_26 kd_115 (kl kd_115) dX8_fewestOf_6 ?_
  refine n_mem (fun μ3 eμ3 => ?_)
  have h := h μ3 eμ3
  have mμ3 : okM μ3 := eqM eμ3 (okM_sI mμ1 hr2)
  refine r_al0 dX8_fewestOf_9 ?_
  refine r_al0 dX8_fewestOf_10 ?_
  refine r_il1 dX8_fewestOf_11 ?_
  refine r_il2 dX8_fewestOf_12 ?_
  refine r_cVI2 B cb_X8_ballOf lk_X8_226 cv_X8_ballOf kd_115 (c_X8_ballOf (xl x) E hp0 hp1 mμ3 h) rfl rfl dX8_fewestOf_13 (fun r5 μ4 hr5 mμ4 h => ?_)
  refine r_putI B fg_X8_248 fp_8_27 kd_115 (kl kd_115) dX8_fewestOf_16 ?_
  refine n_mem (fun μ6 eμ6 => ?_)
  have h := h μ6 eμ6
  have mμ6 : okM μ6 := eqM eμ6 (okM_sI mμ4 hr5)
  refine r_iconst dX8_fewestOf_19 ?_
  refine r_is3 dX8_fewestOf_20 rfl ?_
  exact J_weak (t_X8_fewestOf_21 B hr hp0 hp1 (inR_k rfl) mμ6 h) (⟨rfl, ⟨rfl, ⟨rfl, ⟨rfl, trivial⟩⟩⟩⟩)
set_option maxRecDepth 20000 in
theorem c_X8_fewest (l : Launch) (E : Gx) {p0 : Int} {p1 : Int} {p2 : Int} {μ : Mem} {Q : Int → Mem → Prop} (hp0 : inR p0) (hp1 : inR p1) (hp2 : inR p2) (hμ : okM μ) (h : wp_X8_fewest p0 p1 p2 μ Q) : MT l yX8_fewest cX8_fewest 5 (some .int) E 17 0 0 z0 [rv E 115, iv p0, iv p1, iv p2] μ (QI E z0 Q) := by
  refine m_start [some (rv E 115), some (iv p0), some (iv p1), some (iv p2), none] (by decide) rfl rfl rfl (fun x hxl hxc hxs B hr hnm => ?_)
  unfold wp_X8_fewest at h
  refine r_al0 dX8_fewest_0 ?_
  refine r_iconst dX8_fewest_1 ?_
  refine r_putI B fg_X8_42 fp_8_0 kd_115 (kl kd_115) dX8_fewest_2 ?_
  refine n_mem (fun μ1 eμ1 => ?_)
  have h := h μ1 eμ1
  have mμ1 : okM μ1 := eqM eμ1 (okM_sI hμ (inR_k rfl))
  refine r_al0 dX8_fewest_5 ?_
  refine r_il1 dX8_fewest_6 ?_
  refine r_cVI1 B cb_X8_isCode lk_X8_192 cv_X8_isCode kd_115 (c_X8_isCode (xl x) E hp0 mμ1 h) rfl rfl dX8_fewest_7 (fun r3 μ2 hr3 mμ2 h => ?_)
  refine r_if_eq 23 dX8_fewest_10 rfl hr3 (fun c4 => ?_) (fun c4 => ?_)
  · have h := h.1 c4
    refine r_al0 dX8_fewest_23 ?_
    refine r_iconst dX8_fewest_24 ?_
    refine r_cVI1 B cb_X8_refused lk_X8_173 cv_X8_refused kd_115 (c_X8_refused (xl x) E (inR_k rfl) mμ2 h) rfl rfl dX8_fewest_25 (fun r6 μ5 hr6 mμ5 h => ?_)
    exact r_iret B hr hr6 mμ5 dX8_fewest_28 h
  · have h := h.2 c4
    refine r_il3 dX8_fewest_13 ?_
    refine r_iconst dX8_fewest_14 ?_
    refine r_bipush dX8_fewest_15 (by decide) ?_
    refine r_cSI3 B cb_X8_in lk_X8_63 cs_X8_in (c_X8_in (xl x) E hp2 (inR_k rfl) (inR_k rfl) mμ2 h) rfl rfl dX8_fewest_17 (fun r8 μ7 hr8 mμ7 h => ?_)
    refine r_if_ne 29 dX8_fewest_20 rfl hr8 (fun c9 => ?_) (fun c9 => ?_)
    · have h := h.1 c9
      refine r_il2 dX8_fewest_29 ?_
      refine r_cSI1 B cb_X8_isSlips lk_X8_223 cs_X8_isSlips (c_X8_isSlips (xl x) E hp1 mμ7 h) rfl rfl dX8_fewest_30 (fun r11 μ10 hr11 mμ10 h => ?_)
      refine r_if_ne 42 dX8_fewest_33 rfl hr11 (fun c12 => ?_) (fun c12 => ?_)
      · have h := h.1 c12
        refine r_al0 dX8_fewest_42 ?_
        refine r_il1 dX8_fewest_43 ?_
        refine r_cVI1 B cb_X8_words lk_X8_113 cv_X8_words kd_115 (c_X8_words (xl x) E hp0 mμ10 h) rfl rfl dX8_fewest_44 (fun r14 μ13 hr14 mμ13 h => ?_)
        refine r_bipush dX8_fewest_47 (by decide) ?_
        refine r_icmp_le 58 dX8_fewest_49 rfl hr14 (inR_k rfl) (fun c15 => ?_) (fun c15 => ?_)
        · have h := h.1 c15
          refine r_al0 dX8_fewest_58 ?_
          refine r_il1 dX8_fewest_59 ?_
          refine r_il2 dX8_fewest_60 ?_
          refine r_cVI2 B cb_X8_fewestOf lk_X8_266 cv_X8_fewestOf kd_115 (c_X8_fewestOf (xl x) E hp0 hp1 mμ13 h) rfl rfl dX8_fewest_61 (fun r17 μ16 hr17 mμ16 h => ?_)
          refine r_is4 dX8_fewest_64 rfl ?_
          refine r_al0 dX8_fewest_66 ?_
          refine r_il3 dX8_fewest_67 ?_
          refine r_if_ne 76 dX8_fewest_68 rfl hp2 (fun c18 => ?_) (fun c18 => ?_)
          · have h := h.1 c18
            refine r_il3 dX8_fewest_76 ?_
            refine r_iconst dX8_fewest_77 ?_
            refine r_icmp_ne 88 dX8_fewest_78 rfl hp2 (inR_k rfl) (fun c19 => ?_) (fun c19 => ?_)
            · have h := h.1 c19
              refine r_il3 dX8_fewest_88 ?_
              refine r_iconst dX8_fewest_89 ?_
              refine r_isub dX8_fewest_90 ?_
              refine r_al0 dX8_fewest_91 ?_
              refine r_getI B fg_X8_255 kd_115 (kl kd_115) dX8_fewest_92 ?_
              obtain ⟨o20, h⟩ := h
              refine r_icmp_ge 109 dX8_fewest_95 rfl o20 (mμ16 115 25) (fun c21 => ?_) (fun c21 => ?_)
              · have h := h.1 c21
                refine r_bipush dX8_fewest_109 (by decide) ?_
                refine r_cVI1 B cb_X8_good lk_X8_189 cv_X8_good kd_115 (c_X8_good (xl x) E (inR_k rfl) mμ16 h) rfl rfl dX8_fewest_111 (fun r23 μ22 hr23 mμ22 h => ?_)
                exact r_iret B hr hr23 mμ22 dX8_fewest_114 h
              · have h := h.2 c21
                refine r_al0 dX8_fewest_98 ?_
                refine r_getR B 124 fg_X8_39 kd_115 (kl kd_115) (ρo (off := 9) kd_115 rfl) dX8_fewest_99 ?_
                refine r_il3 dX8_fewest_102 ?_
                refine r_iconst dX8_fewest_103 ?_
                refine r_isub dX8_fewest_104 ?_
                obtain ⟨o24, h⟩ := h
                refine r_iald B kd_124 (kl kd_124) (by decide) o24 dX8_fewest_105 ?_
                refine r_goto 111 dX8_fewest_106 rfl ?_
                refine r_cVI1 B cb_X8_good lk_X8_189 cv_X8_good kd_115 (c_X8_good (xl x) E (mμ16 _ _) mμ16 h) rfl rfl dX8_fewest_111 (fun r26 μ25 hr26 mμ25 h => ?_)
                exact r_iret B hr hr26 mμ25 dX8_fewest_114 h
            · have h := h.2 c19
              refine r_al0 dX8_fewest_81 ?_
              refine r_getI B fg_X8_251 kd_115 (kl kd_115) dX8_fewest_82 ?_
              refine r_goto 111 dX8_fewest_85 rfl ?_
              refine r_cVI1 B cb_X8_good lk_X8_189 cv_X8_good kd_115 (c_X8_good (xl x) E (mμ16 115 24) mμ16 h) rfl rfl dX8_fewest_111 (fun r28 μ27 hr28 mμ27 h => ?_)
              exact r_iret B hr hr28 mμ27 dX8_fewest_114 h
          · have h := h.2 c18
            refine r_il4 dX8_fewest_71 ?_
            refine r_goto 111 dX8_fewest_73 rfl ?_
            refine r_cVI1 B cb_X8_good lk_X8_189 cv_X8_good kd_115 (c_X8_good (xl x) E hr17 mμ16 h) rfl rfl dX8_fewest_111 (fun r30 μ29 hr30 mμ29 h => ?_)
            exact r_iret B hr hr30 mμ29 dX8_fewest_114 h
        · have h := h.2 c15
          refine r_al0 dX8_fewest_52 ?_
          refine r_iconst dX8_fewest_53 ?_
          refine r_cVI1 B cb_X8_refused lk_X8_173 cv_X8_refused kd_115 (c_X8_refused (xl x) E (inR_k rfl) mμ13 h) rfl rfl dX8_fewest_54 (fun r32 μ31 hr32 mμ31 h => ?_)
          exact r_iret B hr hr32 mμ31 dX8_fewest_57 h
      · have h := h.2 c12
        refine r_al0 dX8_fewest_36 ?_
        refine r_iconst dX8_fewest_37 ?_
        refine r_cVI1 B cb_X8_refused lk_X8_173 cv_X8_refused kd_115 (c_X8_refused (xl x) E (inR_k rfl) mμ10 h) rfl rfl dX8_fewest_38 (fun r34 μ33 hr34 mμ33 h => ?_)
        exact r_iret B hr hr34 mμ33 dX8_fewest_41 h
    · have h := h.2 c9
      refine r_al0 dX8_fewest_23 ?_
      refine r_iconst dX8_fewest_24 ?_
      refine r_cVI1 B cb_X8_refused lk_X8_173 cv_X8_refused kd_115 (c_X8_refused (xl x) E (inR_k rfl) mμ7 h) rfl rfl dX8_fewest_25 (fun r36 μ35 hr36 mμ35 h => ?_)
      exact r_iret B hr hr36 mμ35 dX8_fewest_28 h
set_option maxRecDepth 20000 in
theorem t_X8_remembers_60 {x : Cx} {E : Gx} (B : Bd x E 1 2 "SlipCoversModel") (hr : (xt x).sig.returnType = none) {Q : Mem → Prop} {v1 : Int} {μ : Mem} (hv1 : inR v1) (hμ : okM μ) (h : LP2 (wp_X8_remembers_60 Q) v1 μ) : J cX8_remembers x E z0 μ 60 [some (rv E 115), some (iv v1)] [] (MQ (xb x) (QV E z0 Q) (xa x) (xs x) 0 0 (gA E)) := by
  refine LP2_ind (T := fun (v1 : Int) (μ : Mem) => inR v1 → okM μ → J cX8_remembers x E z0 μ 60 [some (rv E 115), some (iv v1)] [] (MQ (xb x) (QV E z0 Q) (xa x) (xs x) 0 0 (gA E))) (fun X60 hX60 v1 μ h hv1 hμ => ?_) h hv1 hμ
  unfold wp_X8_remembers_60 at h
  refine r_il1 dX8_remembers_60 ?_
  refine r_sipush dX8_remembers_61 (by decide) ?_
  refine r_icmp_ge 97 dX8_remembers_64 rfl hv1 (inR_k rfl) (fun c2 => ?_) (fun c2 => ?_)
  · have h := h.1 c2
    refine r_al0 dX8_remembers_97 ?_
    refine r_dup rfl dX8_remembers_98 ?_
    refine r_getI B fg_X8_186 kd_115 (kl kd_115) dX8_remembers_99 ?_
    refine r_iconst dX8_remembers_102 ?_
    refine r_iadd dX8_remembers_103 ?_
    obtain ⟨o3, h⟩ := h
    refine r_putI B fg_X8_186 fp_8_19 kd_115 (kl kd_115) dX8_remembers_104 ?_
    refine n_mem (fun μ4 eμ4 => ?_)
    have h := h μ4 eμ4
    have mμ4 : okM μ4 := eqM eμ4 (okM_sI hμ o3)
    exact r_vret B hr mμ4 dX8_remembers_107 h
  · have h := h.2 c2
    refine r_al0 dX8_remembers_67 ?_
    refine r_getR B 118 fg_X8_20 kd_115 (kl kd_115) (ρo (off := 3) kd_115 rfl) dX8_remembers_68 ?_
    refine r_al0 dX8_remembers_71 ?_
    refine r_getI B fg_X8_186 kd_115 (kl kd_115) dX8_remembers_72 ?_
    refine r_bipush dX8_remembers_75 (by decide) ?_
    refine r_imul dX8_remembers_77 ?_
    refine r_sipush dX8_remembers_78 (by decide) ?_
    refine r_imul dX8_remembers_81 ?_
    refine r_il1 dX8_remembers_82 ?_
    refine r_iadd dX8_remembers_83 ?_
    refine r_al0 dX8_remembers_84 ?_
    refine r_getR B 117 fg_X8_17 kd_115 (kl kd_115) (ρo (off := 2) kd_115 rfl) dX8_remembers_85 ?_
    refine r_il1 dX8_remembers_88 ?_
    obtain ⟨o5, h⟩ := h
    refine r_iald B kd_117 (kl kd_117) (by decide) o5 dX8_remembers_89 ?_
    obtain ⟨o6, h⟩ := h
    refine r_iast B kd_118 (kl kd_118) (by decide) o6 dX8_remembers_90 ?_
    refine n_mem (fun μ7 eμ7 => ?_)
    have h := h μ7 eμ7
    have mμ7 : okM μ7 := eqM eμ7 (okM_sI hμ (hμ _ _))
    refine r_inc1 dX8_remembers_91 rfl ?_
    obtain ⟨o8, h⟩ := h
    refine r_goto 60 dX8_remembers_94 rfl ?_
    exact J_weak (hX60 (v1 + 1) μ7 h o8 mμ7) (⟨rfl, ⟨rfl, trivial⟩⟩)
set_option maxRecDepth 20000 in
theorem t_X8_remembers_21 {x : Cx} {E : Gx} (B : Bd x E 1 2 "SlipCoversModel") (hr : (xt x).sig.returnType = none) {Q : Mem → Prop} {v1 : Int} {μ : Mem} (hv1 : inR v1) (hμ : okM μ) (h : LP2 (wp_X8_remembers_21 Q) v1 μ) : J cX8_remembers x E z0 μ 21 [some (rv E 115), some (iv v1)] [] (MQ (xb x) (QV E z0 Q) (xa x) (xs x) 0 0 (gA E)) := by
  refine LP2_ind (T := fun (v1 : Int) (μ : Mem) => inR v1 → okM μ → J cX8_remembers x E z0 μ 21 [some (rv E 115), some (iv v1)] [] (MQ (xb x) (QV E z0 Q) (xa x) (xs x) 0 0 (gA E))) (fun X21 hX21 v1 μ h hv1 hμ => ?_) h hv1 hμ
  unfold wp_X8_remembers_21 at h
  refine r_il1 dX8_remembers_21 ?_
  refine r_al0 dX8_remembers_22 ?_
  refine r_getI B fg_X8_186 kd_115 (kl kd_115) dX8_remembers_23 ?_
  refine r_bipush dX8_remembers_26 (by decide) ?_
  refine r_imul dX8_remembers_28 ?_
  refine r_sipush dX8_remembers_29 (by decide) ?_
  refine r_imul dX8_remembers_32 ?_
  obtain ⟨o11, h⟩ := h
  refine r_icmp_ge 58 dX8_remembers_33 rfl hv1 o11 (fun c12 => ?_) (fun c12 => ?_)
  · have h := h.1 c12
    refine r_iconst dX8_remembers_58 ?_
    refine r_is1 dX8_remembers_59 rfl ?_
    exact J_weak (t_X8_remembers_60 B hr (inR_k rfl) hμ h) (⟨rfl, ⟨rfl, trivial⟩⟩)
  · have h := h.2 c12
    refine r_al0 dX8_remembers_36 ?_
    refine r_getR B 118 fg_X8_20 kd_115 (kl kd_115) (ρo (off := 3) kd_115 rfl) dX8_remembers_37 ?_
    refine r_il1 dX8_remembers_40 ?_
    refine r_al0 dX8_remembers_41 ?_
    refine r_getR B 118 fg_X8_20 kd_115 (kl kd_115) (ρo (off := 3) kd_115 rfl) dX8_remembers_42 ?_
    refine r_il1 dX8_remembers_45 ?_
    refine r_sipush dX8_remembers_46 (by decide) ?_
    refine r_iadd dX8_remembers_49 ?_
    obtain ⟨o13, h⟩ := h
    refine r_iald B kd_118 (kl kd_118) (by decide) o13 dX8_remembers_50 ?_
    obtain ⟨o14, h⟩ := h
    refine r_iast B kd_118 (kl kd_118) (by decide) o14 dX8_remembers_51 ?_
    refine n_mem (fun μ15 eμ15 => ?_)
    have h := h μ15 eμ15
    have mμ15 : okM μ15 := eqM eμ15 (okM_sI hμ (hμ _ _))
    refine r_inc1 dX8_remembers_52 rfl ?_
    obtain ⟨o16, h⟩ := h
    refine r_goto 21 dX8_remembers_55 rfl ?_
    exact J_weak (hX21 (v1 + 1) μ15 h o16 mμ15) (⟨rfl, ⟨rfl, trivial⟩⟩)
set_option maxRecDepth 20000 in
theorem c_X8_remembers (l : Launch) (E : Gx) {μ : Mem} {Q : Mem → Prop} (hμ : okM μ) (h : wp_X8_remembers  μ Q) : MT l yX8_remembers cX8_remembers 2 none E 1 0 0 z0 [rv E 115] μ (QV E z0 Q) := by
  refine m_start [some (rv E 115), none] (by decide) rfl rfl rfl (fun x hxl hxc hxs B hr hnm => ?_)
  unfold wp_X8_remembers at h
  refine r_al0 dX8_remembers_0 ?_
  refine r_getI B fg_X8_186 kd_115 (kl kd_115) dX8_remembers_1 ?_
  refine r_bipush dX8_remembers_4 (by decide) ?_
  refine r_icmp_ne 58 dX8_remembers_6 rfl (hμ 115 19) (inR_k rfl) (fun c1 => ?_) (fun c1 => ?_)
  · have h := h.1 c1
    refine r_iconst dX8_remembers_58 ?_
    refine r_is1 dX8_remembers_59 rfl ?_
    exact J_weak (t_X8_remembers_60 B hr (inR_k rfl) hμ h) (⟨rfl, ⟨rfl, trivial⟩⟩)
  · have h := h.2 c1
    refine r_al0 dX8_remembers_9 ?_
    refine r_dup rfl dX8_remembers_10 ?_
    refine r_getI B fg_X8_186 kd_115 (kl kd_115) dX8_remembers_11 ?_
    refine r_iconst dX8_remembers_14 ?_
    refine r_isub dX8_remembers_15 ?_
    obtain ⟨o9, h⟩ := h
    refine r_putI B fg_X8_186 fp_8_19 kd_115 (kl kd_115) dX8_remembers_16 ?_
    refine n_mem (fun μ10 eμ10 => ?_)
    have h := h μ10 eμ10
    have mμ10 : okM μ10 := eqM eμ10 (okM_sI hμ o9)
    refine r_iconst dX8_remembers_19 ?_
    refine r_is1 dX8_remembers_20 rfl ?_
    exact J_weak (t_X8_remembers_21 B hr (inR_k rfl) mμ10 h) (⟨rfl, ⟨rfl, trivial⟩⟩)
set_option maxRecDepth 20000 in
theorem c_X8_becomes (l : Launch) (E : Gx) {p0 : Int} {μ : Mem} {Q : Int → Mem → Prop} (hp0 : inR p0) (hμ : okM μ) (h : wp_X8_becomes p0 μ Q) : MT l yX8_becomes cX8_becomes 2 (some .int) E 4 0 0 z0 [rv E 115, iv p0] μ (QI E z0 Q) := by
  refine m_start [some (rv E 115), some (iv p0)] (by decide) rfl rfl rfl (fun x hxl hxc hxs B hr hnm => ?_)
  unfold wp_X8_becomes at h
  refine r_al0 dX8_becomes_0 ?_
  refine r_cVV0 B cb_X8_remembers lk_X8_269 cv_X8_remembers kd_115 (c_X8_remembers (xl x) E hμ h) rfl rfl dX8_becomes_1 (fun μ1 mμ1 h => ?_)
  refine r_al0 dX8_becomes_4 ?_
  refine r_bipush dX8_becomes_5 (by decide) ?_
  refine r_il1 dX8_becomes_7 ?_
  refine r_cVV2 B cb_X8_copies lk_X8_179 cv_X8_copies kd_115 (c_X8_copies (xl x) E (inR_k rfl) hp0 mμ1 h) rfl rfl dX8_becomes_8 (fun μ2 mμ2 h => ?_)
  refine r_al0 dX8_becomes_11 ?_
  refine r_al0 dX8_becomes_12 ?_
  refine r_il1 dX8_becomes_13 ?_
  refine r_cVI1 B cb_X8_many lk_X8_199 cv_X8_many kd_115 (c_X8_many (xl x) E hp0 mμ2 h) rfl rfl dX8_becomes_14 (fun r4 μ3 hr4 mμ3 h => ?_)
  refine r_cVI1 B cb_X8_good lk_X8_189 cv_X8_good kd_115 (c_X8_good (xl x) E hr4 mμ3 h) rfl rfl dX8_becomes_17 (fun r6 μ5 hr6 mμ5 h => ?_)
  exact r_iret B hr hr6 mμ5 dX8_becomes_20 h
set_option maxRecDepth 20000 in
theorem c_X8_isTo (l : Launch) (E : Gx) {p0 : Int} {μ : Mem} {Q : Int → Mem → Prop} (hp0 : inR p0) (hμ : okM μ) (h : wp_X8_isTo p0 μ Q) : MT l yX8_isTo cX8_isTo 1 (some .boolean) E 2 0 0 z0 [iv p0] μ (QI E z0 Q) := by
  refine m_start [some (iv p0)] (by decide) rfl rfl rfl (fun x hxl hxc hxs B hr hnm => ?_)
  unfold wp_X8_isTo at h
  refine r_il0 dX8_isTo_0 ?_
  refine r_iconst dX8_isTo_1 ?_
  refine r_bipush dX8_isTo_2 (by decide) ?_
  refine r_cSI3 B cb_X8_in lk_X8_63 cs_X8_in (c_X8_in (xl x) E hp0 (inR_k rfl) (inR_k rfl) hμ h) rfl rfl dX8_isTo_4 (fun r2 μ1 hr2 mμ1 h => ?_)
  obtain ⟨o3, h⟩ := h
  exact r_zret B hr o3 mμ1 dX8_isTo_7 h
set_option maxRecDepth 20000 in
theorem c_X8_set (l : Launch) (E : Gx) {p0 : Int} {p1 : Int} {p2 : Int} {μ : Mem} {Q : Int → Mem → Prop} (hp0 : inR p0) (hp1 : inR p1) (hp2 : inR p2) (hμ : okM μ) (h : wp_X8_set p0 p1 p2 μ Q) : MT l yX8_set cX8_set 4 (some .int) E 4 0 0 z0 [rv E 115, iv p0, iv p1, iv p2] μ (QI E z0 Q) := by
  refine m_start [some (rv E 115), some (iv p0), some (iv p1), some (iv p2)] (by decide) rfl rfl rfl (fun x hxl hxc hxs B hr hnm => ?_)
  unfold wp_X8_set at h
  refine r_al0 dX8_set_0 ?_
  refine r_iconst dX8_set_1 ?_
  refine r_putI B fg_X8_42 fp_8_0 kd_115 (kl kd_115) dX8_set_2 ?_
  refine n_mem (fun μ1 eμ1 => ?_)
  have h := h μ1 eμ1
  have mμ1 : okM μ1 := eqM eμ1 (okM_sI hμ (inR_k rfl))
  refine r_al0 dX8_set_5 ?_
  refine r_il1 dX8_set_6 ?_
  refine r_il2 dX8_set_7 ?_
  refine r_cVI2 B cb_X8_isWordOf lk_X8_217 cv_X8_isWordOf kd_115 (c_X8_isWordOf (xl x) E hp0 hp1 mμ1 h) rfl rfl dX8_set_8 (fun r3 μ2 hr3 mμ2 h => ?_)
  refine r_if_ne 20 dX8_set_11 rfl hr3 (fun c4 => ?_) (fun c4 => ?_)
  · have h := h.1 c4
    refine r_al0 dX8_set_20 ?_
    refine r_il1 dX8_set_21 ?_
    refine r_il2 dX8_set_22 ?_
    refine r_cVI2 B cb_X8_isIn lk_X8_116 cv_X8_isIn kd_115 (c_X8_isIn (xl x) E hp0 hp1 mμ2 h) rfl rfl dX8_set_23 (fun r6 μ5 hr6 mμ5 h => ?_)
    refine r_il3 dX8_set_26 ?_
    refine r_icmp_ne 36 dX8_set_27 rfl hr6 hp2 (fun c7 => ?_) (fun c7 => ?_)
    · have h := h.1 c7
      refine r_al0 dX8_set_36 ?_
      refine r_cVV0 B cb_X8_remembers lk_X8_269 cv_X8_remembers kd_115 (c_X8_remembers (xl x) E mμ5 h) rfl rfl dX8_set_37 (fun μ8 mμ8 h => ?_)
      refine r_al0 dX8_set_40 ?_
      refine r_il1 dX8_set_41 ?_
      refine r_il2 dX8_set_42 ?_
      refine r_il3 dX8_set_43 ?_
      refine r_cVV3 B cb_X8_marks lk_X8_147 cv_X8_marks kd_115 (c_X8_marks (xl x) E hp0 hp1 hp2 mμ8 h) rfl rfl dX8_set_44 (fun μ9 mμ9 h => ?_)
      refine r_al0 dX8_set_47 ?_
      refine r_al0 dX8_set_48 ?_
      refine r_il1 dX8_set_49 ?_
      refine r_cVI1 B cb_X8_many lk_X8_199 cv_X8_many kd_115 (c_X8_many (xl x) E hp0 mμ9 h) rfl rfl dX8_set_50 (fun r11 μ10 hr11 mμ10 h => ?_)
      refine r_cVI1 B cb_X8_good lk_X8_189 cv_X8_good kd_115 (c_X8_good (xl x) E hr11 mμ10 h) rfl rfl dX8_set_53 (fun r13 μ12 hr13 mμ12 h => ?_)
      exact r_iret B hr hr13 mμ12 dX8_set_56 h
    · have h := h.2 c7
      refine r_al0 dX8_set_30 ?_
      refine r_iconst dX8_set_31 ?_
      refine r_cVI1 B cb_X8_refused lk_X8_173 cv_X8_refused kd_115 (c_X8_refused (xl x) E (inR_k rfl) mμ5 h) rfl rfl dX8_set_32 (fun r15 μ14 hr15 mμ14 h => ?_)
      exact r_iret B hr hr15 mμ14 dX8_set_35 h
  · have h := h.2 c4
    refine r_al0 dX8_set_14 ?_
    refine r_iconst dX8_set_15 ?_
    refine r_cVI1 B cb_X8_refused lk_X8_173 cv_X8_refused kd_115 (c_X8_refused (xl x) E (inR_k rfl) mμ2 h) rfl rfl dX8_set_16 (fun r17 μ16 hr17 mμ16 h => ?_)
    exact r_iret B hr hr17 mμ16 dX8_set_19 h
set_option maxRecDepth 20000 in
theorem t_X8_holesBy_45 {x : Cx} {E : Gx} (B : Bd x E 3 6 "SlipCoversModel") (hr : (xt x).sig.returnType = (some .int)) {Q : Int → Mem → Prop} {X6 : Int → Int → Int → Int → Int → Mem → Prop} (hX6 : ∀ (v1 : Int) (v2 : Int) (v3 : Int) (v4 : Int) (v5 : Int) (μ : Mem), X6 v1 v2 v3 v4 v5 μ → inR v1 → inR v2 → inR v3 → inR v4 → inR v5 → okM μ → J cX8_holesBy x E z0 μ 6 [some (rv E 115), some (iv v1), some (iv v2), some (iv v3), some (iv v4), some (iv v5)] [] (MQ (xb x) (QI E z0 Q) (xa x) (xs x) 0 0 (gA E))) {v1 : Int} {v2 : Int} {v3 : Int} {v5 : Int} {s0 : Int} {s1 : Int} {μ : Mem} (hv1 : inR v1) (hv2 : inR v2) (hv3 : inR v3) (hv5 : inR v5) (hs0 : inR s0) (hs1 : inR s1) (hμ : okM μ) (h : wp_X8_holesBy_45 Q X6 v1 v2 v3 v5 s0 s1 μ) : J cX8_holesBy x E z0 μ 45 [some (rv E 115), some (iv v1), some (iv v2), some (iv v3), none, some (iv v5)] [iv s1, iv s0] (MQ (xb x) (QI E z0 Q) (xa x) (xs x) 0 0 (gA E)) := by
  unfold wp_X8_holesBy_45 at h
  refine r_iadd dX8_holesBy_45 ?_
  obtain ⟨o7, h⟩ := h
  refine n_topi (fun x6 ex6 => ?_)
  have h := h x6 ex6
  refine r_is4 dX8_holesBy_46 rfl ?_
  refine r_inc5 dX8_holesBy_48 rfl ?_
  obtain ⟨o8, h⟩ := h
  refine r_goto 6 dX8_holesBy_51 rfl ?_
  exact J_weak (hX6 v1 v2 v3 x6 (v5 + 1) μ h hv1 hv2 hv3 (eqR ex6 o7) o8 hμ) (⟨rfl, ⟨rfl, ⟨rfl, ⟨rfl, ⟨rfl, ⟨rfl, trivial⟩⟩⟩⟩⟩⟩)
set_option maxRecDepth 20000 in
theorem t_X8_holesBy_44 {x : Cx} {E : Gx} (B : Bd x E 3 6 "SlipCoversModel") (hr : (xt x).sig.returnType = (some .int)) {Q : Int → Mem → Prop} {X6 : Int → Int → Int → Int → Int → Mem → Prop} (hX6 : ∀ (v1 : Int) (v2 : Int) (v3 : Int) (v4 : Int) (v5 : Int) (μ : Mem), X6 v1 v2 v3 v4 v5 μ → inR v1 → inR v2 → inR v3 → inR v4 → inR v5 → okM μ → J cX8_holesBy x E z0 μ 6 [some (rv E 115), some (iv v1), some (iv v2), some (iv v3), some (iv v4), some (iv v5)] [] (MQ (xb x) (QI E z0 Q) (xa x) (xs x) 0 0 (gA E))) {v1 : Int} {v2 : Int} {v3 : Int} {v5 : Int} {s0 : Int} {μ : Mem} (hv1 : inR v1) (hv2 : inR v2) (hv3 : inR v3) (hv5 : inR v5) (hs0 : inR s0) (hμ : okM μ) (h : wp_X8_holesBy_44 Q X6 v1 v2 v3 v5 s0 μ) : J cX8_holesBy x E z0 μ 44 [some (rv E 115), some (iv v1), some (iv v2), some (iv v3), none, some (iv v5)] [iv s0] (MQ (xb x) (QI E z0 Q) (xa x) (xs x) 0 0 (gA E)) := by
  unfold wp_X8_holesBy_44 at h
  refine r_iconst dX8_holesBy_44 ?_
  exact J_weak (t_X8_holesBy_45 B hr hX6 hv1 hv2 hv3 hv5 hs0 (inR_k rfl) hμ h) (⟨rfl, ⟨rfl, ⟨rfl, ⟨rfl, ⟨rfl, trivial⟩⟩⟩⟩⟩)
set_option maxRecDepth 20000 in
theorem t_X8_holesBy_6 {x : Cx} {E : Gx} (B : Bd x E 3 6 "SlipCoversModel") (hr : (xt x).sig.returnType = (some .int)) {Q : Int → Mem → Prop} {v1 : Int} {v2 : Int} {v3 : Int} {v4 : Int} {v5 : Int} {μ : Mem} (hv1 : inR v1) (hv2 : inR v2) (hv3 : inR v3) (hv4 : inR v4) (hv5 : inR v5) (hμ : okM μ) (h : LP6 (wp_X8_holesBy_6 Q) v1 v2 v3 v4 v5 μ) : J cX8_holesBy x E z0 μ 6 [some (rv E 115), some (iv v1), some (iv v2), some (iv v3), some (iv v4), some (iv v5)] [] (MQ (xb x) (QI E z0 Q) (xa x) (xs x) 0 0 (gA E)) := by
  refine LP6_ind (T := fun (v1 : Int) (v2 : Int) (v3 : Int) (v4 : Int) (v5 : Int) (μ : Mem) => inR v1 → inR v2 → inR v3 → inR v4 → inR v5 → okM μ → J cX8_holesBy x E z0 μ 6 [some (rv E 115), some (iv v1), some (iv v2), some (iv v3), some (iv v4), some (iv v5)] [] (MQ (xb x) (QI E z0 Q) (xa x) (xs x) 0 0 (gA E))) (fun X6 hX6 v1 v2 v3 v4 v5 μ h hv1 hv2 hv3 hv4 hv5 hμ => ?_) h hv1 hv2 hv3 hv4 hv5 hμ
  unfold wp_X8_holesBy_6 at h
  refine r_il5 dX8_holesBy_6 ?_
  refine r_al0 dX8_holesBy_8 ?_
  refine r_il1 dX8_holesBy_9 ?_
  refine r_cVI1 B cb_X8_words lk_X8_113 cv_X8_words kd_115 (c_X8_words (xl x) E hv1 hμ h) rfl rfl dX8_holesBy_10 (fun r2 μ1 hr2 mμ1 h => ?_)
  refine r_icmp_ge 54 dX8_holesBy_13 rfl hv5 hr2 (fun c3 => ?_) (fun c3 => ?_)
  · have h := h.1 c3
    refine r_il4 dX8_holesBy_54 ?_
    exact r_iret B hr hv4 mμ1 dX8_holesBy_56 h
  · have h := h.2 c3
    refine r_il4 dX8_holesBy_16 ?_
    refine r_al0 dX8_holesBy_18 ?_
    refine r_getR B 121 fg_X8_30 kd_115 (kl kd_115) (ρo (off := 6) kd_115 rfl) dX8_holesBy_19 ?_
    refine r_il5 dX8_holesBy_22 ?_
    obtain ⟨o4, h⟩ := h
    refine r_iald B kd_121 (kl kd_121) (by decide) o4 dX8_holesBy_24 ?_
    refine r_if_ne 44 dX8_holesBy_25 rfl (mμ1 _ _) (fun c5 => ?_) (fun c5 => ?_)
    · have h := h.1 c5
      exact J_weak (t_X8_holesBy_44 B hr hX6 hv1 hv2 hv3 hv5 hv4 mμ1 h) (⟨rfl, ⟨rfl, ⟨rfl, ⟨rfl, ⟨rfl, trivial⟩⟩⟩⟩⟩)
    · have h := h.2 c5
      refine r_al0 dX8_holesBy_28 ?_
      refine r_il1 dX8_holesBy_29 ?_
      refine r_il2 dX8_holesBy_30 ?_
      refine r_il5 dX8_holesBy_31 ?_
      refine r_cVI3 B cb_X8_farOf lk_X8_195 cv_X8_farOf kd_115 (c_X8_farOf (xl x) E hv1 hv2 hv5 mμ1 h) rfl rfl dX8_holesBy_33 (fun r10 μ9 hr10 mμ9 h => ?_)
      refine r_il3 dX8_holesBy_36 ?_
      refine r_icmp_gt 44 dX8_holesBy_37 rfl hr10 hv3 (fun c11 => ?_) (fun c11 => ?_)
      · have h := h.1 c11
        exact J_weak (t_X8_holesBy_44 B hr hX6 hv1 hv2 hv3 hv5 hv4 mμ9 h) (⟨rfl, ⟨rfl, ⟨rfl, ⟨rfl, ⟨rfl, trivial⟩⟩⟩⟩⟩)
      · have h := h.2 c11
        refine r_iconst dX8_holesBy_40 ?_
        refine r_goto 45 dX8_holesBy_41 rfl ?_
        exact J_weak (t_X8_holesBy_45 B hr hX6 hv1 hv2 hv3 hv5 hv4 (inR_k rfl) mμ9 h) (⟨rfl, ⟨rfl, ⟨rfl, ⟨rfl, ⟨rfl, trivial⟩⟩⟩⟩⟩)
set_option maxRecDepth 20000 in
theorem c_X8_holesBy (l : Launch) (E : Gx) {p0 : Int} {p1 : Int} {p2 : Int} {μ : Mem} {Q : Int → Mem → Prop} (hp0 : inR p0) (hp1 : inR p1) (hp2 : inR p2) (hμ : okM μ) (h : wp_X8_holesBy p0 p1 p2 μ Q) : MT l yX8_holesBy cX8_holesBy 6 (some .int) E 3 0 0 z0 [rv E 115, iv p0, iv p1, iv p2] μ (QI E z0 Q) := by
  refine m_start [some (rv E 115), some (iv p0), some (iv p1), some (iv p2), none, none] (by decide) rfl rfl rfl (fun x hxl hxc hxs B hr hnm => ?_)
  unfold wp_X8_holesBy at h
  refine r_iconst dX8_holesBy_0 ?_
  refine r_is4 dX8_holesBy_1 rfl ?_
  refine r_iconst dX8_holesBy_3 ?_
  refine r_is5 dX8_holesBy_4 rfl ?_
  exact J_weak (t_X8_holesBy_6 B hr hp0 hp1 hp2 (inR_k rfl) (inR_k rfl) hμ h) (⟨rfl, ⟨rfl, ⟨rfl, ⟨rfl, ⟨rfl, ⟨rfl, trivial⟩⟩⟩⟩⟩⟩)
set_option maxRecDepth 20000 in
theorem t_X8_greedy_53 {x : Cx} {E : Gx} (B : Bd x E 4 6 "SlipCoversModel") (hr : (xt x).sig.returnType = (some .int)) {Q : Int → Mem → Prop} {X38 : Int → Int → Int → Mem → Prop} (hX38 : ∀ (v1 : Int) (v2 : Int) (v3 : Int) (μ : Mem), X38 v1 v2 v3 μ → inR v1 → inR v2 → inR v3 → okM μ → J cX8_greedy x E z0 μ 38 [some (rv E 115), some (iv v1), some (iv v2), some (iv v3), none, none] [] (MQ (xb x) (QI E z0 Q) (xa x) (xs x) 0 0 (gA E))) {v1 : Int} {v2 : Int} {v3 : Int} {v4 : Int} {v5 : Int} {μ : Mem} (hv1 : inR v1) (hv2 : inR v2) (hv3 : inR v3) (hv4 : inR v4) (hv5 : inR v5) (hμ : okM μ) (h : LP6 (wp_X8_greedy_53 Q X38) v1 v2 v3 v4 v5 μ) : J cX8_greedy x E z0 μ 53 [some (rv E 115), some (iv v1), some (iv v2), some (iv v3), some (iv v4), some (iv v5)] [] (MQ (xb x) (QI E z0 Q) (xa x) (xs x) 0 0 (gA E)) := by
  refine LP6_ind (T := fun (v1 : Int) (v2 : Int) (v3 : Int) (v4 : Int) (v5 : Int) (μ : Mem) => inR v1 → inR v2 → inR v3 → inR v4 → inR v5 → okM μ → J cX8_greedy x E z0 μ 53 [some (rv E 115), some (iv v1), some (iv v2), some (iv v3), some (iv v4), some (iv v5)] [] (MQ (xb x) (QI E z0 Q) (xa x) (xs x) 0 0 (gA E))) (fun X53 hX53 v1 v2 v3 v4 v5 μ h hv1 hv2 hv3 hv4 hv5 hμ => ?_) h hv1 hv2 hv3 hv4 hv5 hμ
  unfold wp_X8_greedy_53 at h
  refine r_il5 dX8_greedy_53 ?_
  refine r_al0 dX8_greedy_55 ?_
  refine r_il1 dX8_greedy_56 ?_
  refine r_cVI1 B cb_X8_words lk_X8_113 cv_X8_words kd_115 (c_X8_words (xl x) E hv1 hμ h) rfl rfl dX8_greedy_57 (fun r15 μ14 hr15 mμ14 h => ?_)
  refine r_icmp_ge 92 dX8_greedy_60 rfl hv5 hr15 (fun c16 => ?_) (fun c16 => ?_)
  · have h := h.1 c16
    refine r_al0 dX8_greedy_92 ?_
    refine r_il1 dX8_greedy_93 ?_
    refine r_il4 dX8_greedy_94 ?_
    refine r_iconst dX8_greedy_96 ?_
    refine r_cVV3 B cb_X8_marks lk_X8_147 cv_X8_marks kd_115 (c_X8_marks (xl x) E hv1 hv4 (inR_k rfl) mμ14 h) rfl rfl dX8_greedy_97 (fun μ17 mμ17 h => ?_)
    refine r_inc3 dX8_greedy_100 rfl ?_
    obtain ⟨o18, h⟩ := h
    refine r_goto 38 dX8_greedy_103 rfl ?_
    exact J_weak (hX38 v1 v2 (v3 + 1) μ17 h hv1 hv2 o18 mμ17) (⟨rfl, ⟨rfl, ⟨rfl, ⟨rfl, trivial⟩⟩⟩⟩)
  · have h := h.2 c16
    refine r_al0 dX8_greedy_63 ?_
    refine r_il1 dX8_greedy_64 ?_
    refine r_il5 dX8_greedy_65 ?_
    refine r_il2 dX8_greedy_67 ?_
    refine r_cVI3 B cb_X8_holesBy lk_X8_272 cv_X8_holesBy kd_115 (c_X8_holesBy (xl x) E hv1 hv5 hv2 mμ14 h) rfl rfl dX8_greedy_68 (fun r20 μ19 hr20 mμ19 h => ?_)
    refine r_al0 dX8_greedy_71 ?_
    refine r_il1 dX8_greedy_72 ?_
    refine r_il4 dX8_greedy_73 ?_
    refine r_il2 dX8_greedy_75 ?_
    refine r_cVI3 B cb_X8_holesBy lk_X8_272 cv_X8_holesBy kd_115 (c_X8_holesBy (xl x) E hv1 hv4 hv2 mμ19 h) rfl rfl dX8_greedy_76 (fun r22 μ21 hr22 mμ21 h => ?_)
    refine r_icmp_le 86 dX8_greedy_79 rfl hr20 hr22 (fun c23 => ?_) (fun c23 => ?_)
    · have h := h.1 c23
      refine r_inc5 dX8_greedy_86 rfl ?_
      obtain ⟨o24, h⟩ := h
      refine r_goto 53 dX8_greedy_89 rfl ?_
      exact J_weak (hX53 v1 v2 v3 v4 (v5 + 1) μ21 h hv1 hv2 hv3 hv4 o24 mμ21) (⟨rfl, ⟨rfl, ⟨rfl, ⟨rfl, ⟨rfl, ⟨rfl, trivial⟩⟩⟩⟩⟩⟩)
    · have h := h.2 c23
      refine r_il5 dX8_greedy_82 ?_
      refine r_is4 dX8_greedy_84 rfl ?_
      refine r_inc5 dX8_greedy_86 rfl ?_
      obtain ⟨o25, h⟩ := h
      refine r_goto 53 dX8_greedy_89 rfl ?_
      exact J_weak (hX53 v1 v2 v3 v5 (v5 + 1) μ21 h hv1 hv2 hv3 hv5 o25 mμ21) (⟨rfl, ⟨rfl, ⟨rfl, ⟨rfl, ⟨rfl, ⟨rfl, trivial⟩⟩⟩⟩⟩⟩)
set_option maxRecDepth 20000 in
theorem t_X8_greedy_38 {x : Cx} {E : Gx} (B : Bd x E 4 6 "SlipCoversModel") (hr : (xt x).sig.returnType = (some .int)) {Q : Int → Mem → Prop} {v1 : Int} {v2 : Int} {v3 : Int} {μ : Mem} (hv1 : inR v1) (hv2 : inR v2) (hv3 : inR v3) (hμ : okM μ) (h : LP4 (wp_X8_greedy_38 Q) v1 v2 v3 μ) : J cX8_greedy x E z0 μ 38 [some (rv E 115), some (iv v1), some (iv v2), some (iv v3), none, none] [] (MQ (xb x) (QI E z0 Q) (xa x) (xs x) 0 0 (gA E)) := by
  refine LP4_ind (T := fun (v1 : Int) (v2 : Int) (v3 : Int) (μ : Mem) => inR v1 → inR v2 → inR v3 → okM μ → J cX8_greedy x E z0 μ 38 [some (rv E 115), some (iv v1), some (iv v2), some (iv v3), none, none] [] (MQ (xb x) (QI E z0 Q) (xa x) (xs x) 0 0 (gA E))) (fun X38 hX38 v1 v2 v3 μ h hv1 hv2 hv3 hμ => ?_) h hv1 hv2 hv3 hμ
  unfold wp_X8_greedy_38 at h
  refine r_al0 dX8_greedy_38 ?_
  refine r_il1 dX8_greedy_39 ?_
  refine r_il2 dX8_greedy_40 ?_
  refine r_cVI2 B cb_X8_covers lk_X8_202 cv_X8_covers kd_115 (c_X8_covers (xl x) E hv1 hv2 hμ h) rfl rfl dX8_greedy_41 (fun r10 μ9 hr10 mμ9 h => ?_)
  refine r_if_le 106 dX8_greedy_44 rfl hr10 (fun c11 => ?_) (fun c11 => ?_)
  · have h := h.1 c11
    refine r_al0 dX8_greedy_106 ?_
    refine r_il3 dX8_greedy_107 ?_
    refine r_cVI1 B cb_X8_good lk_X8_189 cv_X8_good kd_115 (c_X8_good (xl x) E hv3 mμ9 h) rfl rfl dX8_greedy_108 (fun r13 μ12 hr13 mμ12 h => ?_)
    exact r_iret B hr hr13 mμ12 dX8_greedy_111 h
  · have h := h.2 c11
    refine r_iconst dX8_greedy_47 ?_
    refine r_is4 dX8_greedy_48 rfl ?_
    refine r_iconst dX8_greedy_50 ?_
    refine r_is5 dX8_greedy_51 rfl ?_
    exact J_weak (t_X8_greedy_53 B hr hX38 hv1 hv2 hv3 (inR_k rfl) (inR_k rfl) mμ9 h) (⟨rfl, ⟨rfl, ⟨rfl, ⟨rfl, ⟨rfl, ⟨rfl, trivial⟩⟩⟩⟩⟩⟩)
set_option maxRecDepth 20000 in
theorem c_X8_greedy (l : Launch) (E : Gx) {p0 : Int} {p1 : Int} {μ : Mem} {Q : Int → Mem → Prop} (hp0 : inR p0) (hp1 : inR p1) (hμ : okM μ) (h : wp_X8_greedy p0 p1 μ Q) : MT l yX8_greedy cX8_greedy 6 (some .int) E 4 0 0 z0 [rv E 115, iv p0, iv p1] μ (QI E z0 Q) := by
  refine m_start [some (rv E 115), some (iv p0), some (iv p1), none, none, none] (by decide) rfl rfl rfl (fun x hxl hxc hxs B hr hnm => ?_)
  unfold wp_X8_greedy at h
  refine r_al0 dX8_greedy_0 ?_
  refine r_iconst dX8_greedy_1 ?_
  refine r_putI B fg_X8_42 fp_8_0 kd_115 (kl kd_115) dX8_greedy_2 ?_
  refine n_mem (fun μ1 eμ1 => ?_)
  have h := h μ1 eμ1
  have mμ1 : okM μ1 := eqM eμ1 (okM_sI hμ (inR_k rfl))
  refine r_al0 dX8_greedy_5 ?_
  refine r_il1 dX8_greedy_6 ?_
  refine r_cVI1 B cb_X8_isCode lk_X8_192 cv_X8_isCode kd_115 (c_X8_isCode (xl x) E hp0 mμ1 h) rfl rfl dX8_greedy_7 (fun r3 μ2 hr3 mμ2 h => ?_)
  refine r_if_ne 19 dX8_greedy_10 rfl hr3 (fun c4 => ?_) (fun c4 => ?_)
  · have h := h.1 c4
    refine r_il2 dX8_greedy_19 ?_
    refine r_cSI1 B cb_X8_isSlips lk_X8_223 cs_X8_isSlips (c_X8_isSlips (xl x) E hp1 mμ2 h) rfl rfl dX8_greedy_20 (fun r6 μ5 hr6 mμ5 h => ?_)
    refine r_if_ne 32 dX8_greedy_23 rfl hr6 (fun c7 => ?_) (fun c7 => ?_)
    · have h := h.1 c7
      refine r_al0 dX8_greedy_32 ?_
      refine r_cVV0 B cb_X8_remembers lk_X8_269 cv_X8_remembers kd_115 (c_X8_remembers (xl x) E mμ5 h) rfl rfl dX8_greedy_33 (fun μ8 mμ8 h => ?_)
      refine r_iconst dX8_greedy_36 ?_
      refine r_is3 dX8_greedy_37 rfl ?_
      exact J_weak (t_X8_greedy_38 B hr hp0 hp1 (inR_k rfl) mμ8 h) (⟨rfl, ⟨rfl, ⟨rfl, ⟨rfl, trivial⟩⟩⟩⟩)
    · have h := h.2 c7
      refine r_al0 dX8_greedy_26 ?_
      refine r_iconst dX8_greedy_27 ?_
      refine r_cVI1 B cb_X8_refused lk_X8_173 cv_X8_refused kd_115 (c_X8_refused (xl x) E (inR_k rfl) mμ5 h) rfl rfl dX8_greedy_28 (fun r27 μ26 hr27 mμ26 h => ?_)
      exact r_iret B hr hr27 mμ26 dX8_greedy_31 h
  · have h := h.2 c4
    refine r_al0 dX8_greedy_13 ?_
    refine r_iconst dX8_greedy_14 ?_
    refine r_cVI1 B cb_X8_refused lk_X8_173 cv_X8_refused kd_115 (c_X8_refused (xl x) E (inR_k rfl) mμ2 h) rfl rfl dX8_greedy_15 (fun r29 μ28 hr29 mμ28 h => ?_)
    exact r_iret B hr hr29 mμ28 dX8_greedy_18 h
set_option maxRecDepth 20000 in
theorem t_X8_thin_72 {x : Cx} {E : Gx} (B : Bd x E 4 6 "SlipCoversModel") (hr : (xt x).sig.returnType = (some .int)) {Q : Int → Mem → Prop} {X47 : Int → Int → Int → Int → Mem → Prop} (hX47 : ∀ (v1 : Int) (v2 : Int) (v3 : Int) (v4 : Int) (μ : Mem), X47 v1 v2 v3 v4 μ → inR v1 → inR v2 → inR v3 → inR v4 → okM μ → J cX8_thin x E z0 μ 47 [some (rv E 115), some (iv v1), some (iv v2), some (iv v3), some (iv v4), none] [] (MQ (xb x) (QI E z0 Q) (xa x) (xs x) 0 0 (gA E))) {v1 : Int} {v2 : Int} {v3 : Int} {v4 : Int} {s0 : Int} {μ : Mem} (hv1 : inR v1) (hv2 : inR v2) (hv3 : inR v3) (hv4 : inR v4) (hs0 : inR s0) (hμ : okM μ) (h : wp_X8_thin_72 Q X47 v1 v2 v3 v4 s0 μ) : J cX8_thin x E z0 μ 72 [some (rv E 115), some (iv v1), some (iv v2), some (iv v3), some (iv v4), none] [iv s0] (MQ (xb x) (QI E z0 Q) (xa x) (xs x) 0 0 (gA E)) := by
  unfold wp_X8_thin_72 at h
  refine r_is5 dX8_thin_72 rfl ?_
  refine r_il5 dX8_thin_74 ?_
  refine r_iconst dX8_thin_76 ?_
  refine r_icmp_eq 105 dX8_thin_77 rfl hs0 (inR_k rfl) (fun c19 => ?_) (fun c19 => ?_)
  · have h := h.1 c19
    refine r_inc4 dX8_thin_105 rfl ?_
    obtain ⟨o20, h⟩ := h
    refine r_goto 47 dX8_thin_108 rfl ?_
    exact J_weak (hX47 v1 v2 v3 (v4 + (-1)) μ h hv1 hv2 hv3 o20 hμ) (⟨rfl, ⟨rfl, ⟨rfl, ⟨rfl, ⟨rfl, trivial⟩⟩⟩⟩⟩)
  · have h := h.2 c19
    refine r_al0 dX8_thin_80 ?_
    refine r_il1 dX8_thin_81 ?_
    refine r_il4 dX8_thin_82 ?_
    refine r_il2 dX8_thin_84 ?_
    refine r_cVI3 B cb_X8_isIdle lk_X8_229 cv_X8_isIdle kd_115 (c_X8_isIdle (xl x) E hv1 hv4 hv2 hμ h) rfl rfl dX8_thin_85 (fun r22 μ21 hr22 mμ21 h => ?_)
    refine r_if_ne 94 dX8_thin_88 rfl hr22 (fun c23 => ?_) (fun c23 => ?_)
    · have h := h.1 c23
      refine r_al0 dX8_thin_94 ?_
      refine r_il1 dX8_thin_95 ?_
      refine r_il4 dX8_thin_96 ?_
      refine r_iconst dX8_thin_98 ?_
      refine r_cVV3 B cb_X8_marks lk_X8_147 cv_X8_marks kd_115 (c_X8_marks (xl x) E hv1 hv4 (inR_k rfl) mμ21 h) rfl rfl dX8_thin_99 (fun μ24 mμ24 h => ?_)
      refine r_inc3 dX8_thin_102 rfl ?_
      obtain ⟨o25, h⟩ := h
      refine r_inc4 dX8_thin_105 rfl ?_
      obtain ⟨o26, h⟩ := h
      refine r_goto 47 dX8_thin_108 rfl ?_
      exact J_weak (hX47 v1 v2 (v3 + 1) (v4 + (-1)) μ24 h hv1 hv2 o25 o26 mμ24) (⟨rfl, ⟨rfl, ⟨rfl, ⟨rfl, ⟨rfl, trivial⟩⟩⟩⟩⟩)
    · have h := h.2 c23
      refine r_goto 105 dX8_thin_91 rfl ?_
      refine r_inc4 dX8_thin_105 rfl ?_
      obtain ⟨o27, h⟩ := h
      refine r_goto 47 dX8_thin_108 rfl ?_
      exact J_weak (hX47 v1 v2 v3 (v4 + (-1)) μ21 h hv1 hv2 hv3 o27 mμ21) (⟨rfl, ⟨rfl, ⟨rfl, ⟨rfl, ⟨rfl, trivial⟩⟩⟩⟩⟩)
set_option maxRecDepth 20000 in
theorem t_X8_thin_47 {x : Cx} {E : Gx} (B : Bd x E 4 6 "SlipCoversModel") (hr : (xt x).sig.returnType = (some .int)) {Q : Int → Mem → Prop} {v1 : Int} {v2 : Int} {v3 : Int} {v4 : Int} {μ : Mem} (hv1 : inR v1) (hv2 : inR v2) (hv3 : inR v3) (hv4 : inR v4) (hμ : okM μ) (h : LP5 (wp_X8_thin_47 Q) v1 v2 v3 v4 μ) : J cX8_thin x E z0 μ 47 [some (rv E 115), some (iv v1), some (iv v2), some (iv v3), some (iv v4), none] [] (MQ (xb x) (QI E z0 Q) (xa x) (xs x) 0 0 (gA E)) := by
  refine LP5_ind (T := fun (v1 : Int) (v2 : Int) (v3 : Int) (v4 : Int) (μ : Mem) => inR v1 → inR v2 → inR v3 → inR v4 → okM μ → J cX8_thin x E z0 μ 47 [some (rv E 115), some (iv v1), some (iv v2), some (iv v3), some (iv v4), none] [] (MQ (xb x) (QI E z0 Q) (xa x) (xs x) 0 0 (gA E))) (fun X47 hX47 v1 v2 v3 v4 μ h hv1 hv2 hv3 hv4 hμ => ?_) h hv1 hv2 hv3 hv4 hμ
  unfold wp_X8_thin_47 at h
  refine r_il4 dX8_thin_47 ?_
  refine r_if_lt 111 dX8_thin_49 rfl hv4 (fun c13 => ?_) (fun c13 => ?_)
  · have h := h.1 c13
    refine r_al0 dX8_thin_111 ?_
    refine r_il3 dX8_thin_112 ?_
    refine r_cVI1 B cb_X8_good lk_X8_189 cv_X8_good kd_115 (c_X8_good (xl x) E hv3 hμ h) rfl rfl dX8_thin_113 (fun r15 μ14 hr15 mμ14 h => ?_)
    exact r_iret B hr hr15 mμ14 dX8_thin_116 h
  · have h := h.2 c13
    refine r_al0 dX8_thin_52 ?_
    refine r_il1 dX8_thin_53 ?_
    refine r_il4 dX8_thin_54 ?_
    refine r_cVI2 B cb_X8_isIn lk_X8_116 cv_X8_isIn kd_115 (c_X8_isIn (xl x) E hv1 hv4 hμ h) rfl rfl dX8_thin_56 (fun r17 μ16 hr17 mμ16 h => ?_)
    refine r_if_eq 71 dX8_thin_59 rfl hr17 (fun c18 => ?_) (fun c18 => ?_)
    · have h := h.1 c18
      refine r_iconst dX8_thin_71 ?_
      exact J_weak (t_X8_thin_72 B hr hX47 hv1 hv2 hv3 hv4 (inR_k rfl) mμ16 h) (⟨rfl, ⟨rfl, ⟨rfl, ⟨rfl, ⟨rfl, trivial⟩⟩⟩⟩⟩)
    · have h := h.2 c18
      refine r_al0 dX8_thin_62 ?_
      refine r_il1 dX8_thin_63 ?_
      refine r_il2 dX8_thin_64 ?_
      refine r_cVI2 B cb_X8_covers lk_X8_202 cv_X8_covers kd_115 (c_X8_covers (xl x) E hv1 hv2 mμ16 h) rfl rfl dX8_thin_65 (fun r29 μ28 hr29 mμ28 h => ?_)
      refine r_goto 72 dX8_thin_68 rfl ?_
      exact J_weak (t_X8_thin_72 B hr hX47 hv1 hv2 hv3 hv4 hr29 mμ28 h) (⟨rfl, ⟨rfl, ⟨rfl, ⟨rfl, ⟨rfl, trivial⟩⟩⟩⟩⟩)
set_option maxRecDepth 20000 in
theorem c_X8_thin (l : Launch) (E : Gx) {p0 : Int} {p1 : Int} {μ : Mem} {Q : Int → Mem → Prop} (hp0 : inR p0) (hp1 : inR p1) (hμ : okM μ) (h : wp_X8_thin p0 p1 μ Q) : MT l yX8_thin cX8_thin 6 (some .int) E 4 0 0 z0 [rv E 115, iv p0, iv p1] μ (QI E z0 Q) := by
  refine m_start [some (rv E 115), some (iv p0), some (iv p1), none, none, none] (by decide) rfl rfl rfl (fun x hxl hxc hxs B hr hnm => ?_)
  unfold wp_X8_thin at h
  refine r_al0 dX8_thin_0 ?_
  refine r_iconst dX8_thin_1 ?_
  refine r_putI B fg_X8_42 fp_8_0 kd_115 (kl kd_115) dX8_thin_2 ?_
  refine n_mem (fun μ1 eμ1 => ?_)
  have h := h μ1 eμ1
  have mμ1 : okM μ1 := eqM eμ1 (okM_sI hμ (inR_k rfl))
  refine r_al0 dX8_thin_5 ?_
  refine r_il1 dX8_thin_6 ?_
  refine r_cVI1 B cb_X8_isCode lk_X8_192 cv_X8_isCode kd_115 (c_X8_isCode (xl x) E hp0 mμ1 h) rfl rfl dX8_thin_7 (fun r3 μ2 hr3 mμ2 h => ?_)
  refine r_if_ne 19 dX8_thin_10 rfl hr3 (fun c4 => ?_) (fun c4 => ?_)
  · have h := h.1 c4
    refine r_il2 dX8_thin_19 ?_
    refine r_cSI1 B cb_X8_isSlips lk_X8_223 cs_X8_isSlips (c_X8_isSlips (xl x) E hp1 mμ2 h) rfl rfl dX8_thin_20 (fun r6 μ5 hr6 mμ5 h => ?_)
    refine r_if_ne 32 dX8_thin_23 rfl hr6 (fun c7 => ?_) (fun c7 => ?_)
    · have h := h.1 c7
      refine r_al0 dX8_thin_32 ?_
      refine r_cVV0 B cb_X8_remembers lk_X8_269 cv_X8_remembers kd_115 (c_X8_remembers (xl x) E mμ5 h) rfl rfl dX8_thin_33 (fun μ8 mμ8 h => ?_)
      refine r_iconst dX8_thin_36 ?_
      refine r_is3 dX8_thin_37 rfl ?_
      refine r_al0 dX8_thin_38 ?_
      refine r_il1 dX8_thin_39 ?_
      refine r_cVI1 B cb_X8_words lk_X8_113 cv_X8_words kd_115 (c_X8_words (xl x) E hp0 mμ8 h) rfl rfl dX8_thin_40 (fun r10 μ9 hr10 mμ9 h => ?_)
      refine r_iconst dX8_thin_43 ?_
      refine r_isub dX8_thin_44 ?_
      obtain ⟨o12, h⟩ := h
      refine n_topi (fun x11 ex11 => ?_)
      have h := h x11 ex11
      refine r_is4 dX8_thin_45 rfl ?_
      exact J_weak (t_X8_thin_47 B hr hp0 hp1 (inR_k rfl) (eqR ex11 o12) mμ9 h) (⟨rfl, ⟨rfl, ⟨rfl, ⟨rfl, ⟨rfl, trivial⟩⟩⟩⟩⟩)
    · have h := h.2 c7
      refine r_al0 dX8_thin_26 ?_
      refine r_iconst dX8_thin_27 ?_
      refine r_cVI1 B cb_X8_refused lk_X8_173 cv_X8_refused kd_115 (c_X8_refused (xl x) E (inR_k rfl) mμ5 h) rfl rfl dX8_thin_28 (fun r31 μ30 hr31 mμ30 h => ?_)
      exact r_iret B hr hr31 mμ30 dX8_thin_31 h
  · have h := h.2 c4
    refine r_al0 dX8_thin_13 ?_
    refine r_iconst dX8_thin_14 ?_
    refine r_cVI1 B cb_X8_refused lk_X8_173 cv_X8_refused kd_115 (c_X8_refused (xl x) E (inR_k rfl) mμ2 h) rfl rfl dX8_thin_15 (fun r33 μ32 hr33 mμ32 h => ?_)
    exact r_iret B hr hr33 mμ32 dX8_thin_18 h
set_option maxRecDepth 20000 in
theorem t_X8_holesIf_75 {x : Cx} {E : Gx} (B : Bd x E 3 8 "SlipCoversModel") (hr : (xt x).sig.returnType = (some .int)) {Q : Int → Mem → Prop} {X6 : Int → Int → Int → Int → Int → Int → Mem → Prop} (hX6 : ∀ (v1 : Int) (v2 : Int) (v3 : Int) (v4 : Int) (v5 : Int) (v6 : Int) (μ : Mem), X6 v1 v2 v3 v4 v5 v6 μ → inR v1 → inR v2 → inR v3 → inR v4 → inR v5 → inR v6 → okM μ → J cX8_holesIf x E z0 μ 6 [some (rv E 115), some (iv v1), some (iv v2), some (iv v3), some (iv v4), some (iv v5), some (iv v6), none] [] (MQ (xb x) (QI E z0 Q) (xa x) (xs x) 0 0 (gA E))) {v1 : Int} {v2 : Int} {v3 : Int} {v4 : Int} {v6 : Int} {s0 : Int} {s1 : Int} {μ : Mem} (hv1 : inR v1) (hv2 : inR v2) (hv3 : inR v3) (hv4 : inR v4) (hv6 : inR v6) (hs0 : inR s0) (hs1 : inR s1) (hμ : okM μ) (h : wp_X8_holesIf_75 Q X6 v1 v2 v3 v4 v6 s0 s1 μ) : J cX8_holesIf x E z0 μ 75 [some (rv E 115), some (iv v1), some (iv v2), some (iv v3), some (iv v4), none, some (iv v6), none] [iv s1, iv s0] (MQ (xb x) (QI E z0 Q) (xa x) (xs x) 0 0 (gA E)) := by
  unfold wp_X8_holesIf_75 at h
  refine r_iadd dX8_holesIf_75 ?_
  obtain ⟨o16, h⟩ := h
  refine n_topi (fun x15 ex15 => ?_)
  have h := h x15 ex15
  refine r_is5 dX8_holesIf_76 rfl ?_
  refine r_inc6 dX8_holesIf_78 rfl ?_
  obtain ⟨o17, h⟩ := h
  refine r_goto 6 dX8_holesIf_81 rfl ?_
  exact J_weak (hX6 v1 v2 v3 v4 x15 (v6 + 1) μ h hv1 hv2 hv3 hv4 (eqR ex15 o16) o17 hμ) (⟨rfl, ⟨rfl, ⟨rfl, ⟨rfl, ⟨rfl, ⟨rfl, ⟨rfl, trivial⟩⟩⟩⟩⟩⟩⟩)
set_option maxRecDepth 20000 in
theorem t_X8_holesIf_60 {x : Cx} {E : Gx} (B : Bd x E 3 8 "SlipCoversModel") (hr : (xt x).sig.returnType = (some .int)) {Q : Int → Mem → Prop} {X6 : Int → Int → Int → Int → Int → Int → Mem → Prop} (hX6 : ∀ (v1 : Int) (v2 : Int) (v3 : Int) (v4 : Int) (v5 : Int) (v6 : Int) (μ : Mem), X6 v1 v2 v3 v4 v5 v6 μ → inR v1 → inR v2 → inR v3 → inR v4 → inR v5 → inR v6 → okM μ → J cX8_holesIf x E z0 μ 6 [some (rv E 115), some (iv v1), some (iv v2), some (iv v3), some (iv v4), some (iv v5), some (iv v6), none] [] (MQ (xb x) (QI E z0 Q) (xa x) (xs x) 0 0 (gA E))) {v1 : Int} {v2 : Int} {v3 : Int} {v4 : Int} {v5 : Int} {v6 : Int} {s0 : Int} {s1 : Int} {μ : Mem} (hv1 : inR v1) (hv2 : inR v2) (hv3 : inR v3) (hv4 : inR v4) (hv5 : inR v5) (hv6 : inR v6) (hs0 : inR s0) (hs1 : inR s1) (hμ : okM μ) (h : wp_X8_holesIf_60 Q X6 v1 v2 v3 v4 v5 v6 s0 s1 μ) : J cX8_holesIf x E z0 μ 60 [some (rv E 115), some (iv v1), some (iv v2), some (iv v3), some (iv v4), some (iv v5), some (iv v6), none] [iv s1, iv s0] (MQ (xb x) (QI E z0 Q) (xa x) (xs x) 0 0 (gA E)) := by
  unfold wp_X8_holesIf_60 at h
  refine r_iadd dX8_holesIf_60 ?_
  obtain ⟨o13, h⟩ := h
  refine n_topi (fun x12 ex12 => ?_)
  have h := h x12 ex12
  refine r_is7 dX8_holesIf_61 rfl ?_
  refine r_il5 dX8_holesIf_63 ?_
  refine r_il7 dX8_holesIf_65 ?_
  refine r_if_ne 74 dX8_holesIf_67 rfl (eqR ex12 o13) (fun c14 => ?_) (fun c14 => ?_)
  · have h := h.1 c14
    refine r_iconst dX8_holesIf_74 ?_
    exact J_weak (t_X8_holesIf_75 B hr hX6 hv1 hv2 hv3 hv4 hv6 hv5 (inR_k rfl) hμ h) (⟨rfl, ⟨rfl, ⟨rfl, ⟨rfl, ⟨rfl, ⟨rfl, trivial⟩⟩⟩⟩⟩⟩)
  · have h := h.2 c14
    refine r_iconst dX8_holesIf_70 ?_
    refine r_goto 75 dX8_holesIf_71 rfl ?_
    exact J_weak (t_X8_holesIf_75 B hr hX6 hv1 hv2 hv3 hv4 hv6 hv5 (inR_k rfl) hμ h) (⟨rfl, ⟨rfl, ⟨rfl, ⟨rfl, ⟨rfl, ⟨rfl, trivial⟩⟩⟩⟩⟩⟩)
set_option maxRecDepth 20000 in
theorem t_X8_holesIf_41 {x : Cx} {E : Gx} (B : Bd x E 3 8 "SlipCoversModel") (hr : (xt x).sig.returnType = (some .int)) {Q : Int → Mem → Prop} {X6 : Int → Int → Int → Int → Int → Int → Mem → Prop} (hX6 : ∀ (v1 : Int) (v2 : Int) (v3 : Int) (v4 : Int) (v5 : Int) (v6 : Int) (μ : Mem), X6 v1 v2 v3 v4 v5 v6 μ → inR v1 → inR v2 → inR v3 → inR v4 → inR v5 → inR v6 → okM μ → J cX8_holesIf x E z0 μ 6 [some (rv E 115), some (iv v1), some (iv v2), some (iv v3), some (iv v4), some (iv v5), some (iv v6), none] [] (MQ (xb x) (QI E z0 Q) (xa x) (xs x) 0 0 (gA E))) {v1 : Int} {v2 : Int} {v3 : Int} {v4 : Int} {v5 : Int} {v6 : Int} {s0 : Int} {s1 : Int} {μ : Mem} (hv1 : inR v1) (hv2 : inR v2) (hv3 : inR v3) (hv4 : inR v4) (hv5 : inR v5) (hv6 : inR v6) (hs0 : inR s0) (hs1 : inR s1) (hμ : okM μ) (h : wp_X8_holesIf_41 Q X6 v1 v2 v3 v4 v5 v6 s0 s1 μ) : J cX8_holesIf x E z0 μ 41 [some (rv E 115), some (iv v1), some (iv v2), some (iv v3), some (iv v4), some (iv v5), some (iv v6), none] [iv s1, iv s0] (MQ (xb x) (QI E z0 Q) (xa x) (xs x) 0 0 (gA E)) := by
  unfold wp_X8_holesIf_41 at h
  refine r_isub dX8_holesIf_41 ?_
  refine r_al0 dX8_holesIf_42 ?_
  refine r_il1 dX8_holesIf_43 ?_
  refine r_il3 dX8_holesIf_44 ?_
  refine r_il6 dX8_holesIf_45 ?_
  refine r_cVI3 B cb_X8_farOf lk_X8_195 cv_X8_farOf kd_115 (c_X8_farOf (xl x) E hv1 hv3 hv6 hμ h) rfl rfl dX8_holesIf_47 (fun r9 μ8 hr9 mμ8 h => ?_)
  refine r_il4 dX8_holesIf_50 ?_
  refine r_icmp_gt 59 dX8_holesIf_52 rfl hr9 hv4 (fun c10 => ?_) (fun c10 => ?_)
  · have h := h.1 c10
    refine r_iconst dX8_holesIf_59 ?_
    obtain ⟨o11, h⟩ := h
    exact J_weak (t_X8_holesIf_60 B hr hX6 hv1 hv2 hv3 hv4 hv5 hv6 o11 (inR_k rfl) mμ8 h) (⟨rfl, ⟨rfl, ⟨rfl, ⟨rfl, ⟨rfl, ⟨rfl, ⟨rfl, trivial⟩⟩⟩⟩⟩⟩⟩)
  · have h := h.2 c10
    refine r_iconst dX8_holesIf_55 ?_
    refine r_goto 60 dX8_holesIf_56 rfl ?_
    obtain ⟨o18, h⟩ := h
    exact J_weak (t_X8_holesIf_60 B hr hX6 hv1 hv2 hv3 hv4 hv5 hv6 o18 (inR_k rfl) mμ8 h) (⟨rfl, ⟨rfl, ⟨rfl, ⟨rfl, ⟨rfl, ⟨rfl, ⟨rfl, trivial⟩⟩⟩⟩⟩⟩⟩)
set_option maxRecDepth 20000 in
theorem t_X8_holesIf_6 {x : Cx} {E : Gx} (B : Bd x E 3 8 "SlipCoversModel") (hr : (xt x).sig.returnType = (some .int)) {Q : Int → Mem → Prop} {v1 : Int} {v2 : Int} {v3 : Int} {v4 : Int} {v5 : Int} {v6 : Int} {μ : Mem} (hv1 : inR v1) (hv2 : inR v2) (hv3 : inR v3) (hv4 : inR v4) (hv5 : inR v5) (hv6 : inR v6) (hμ : okM μ) (h : LP7 (wp_X8_holesIf_6 Q) v1 v2 v3 v4 v5 v6 μ) : J cX8_holesIf x E z0 μ 6 [some (rv E 115), some (iv v1), some (iv v2), some (iv v3), some (iv v4), some (iv v5), some (iv v6), none] [] (MQ (xb x) (QI E z0 Q) (xa x) (xs x) 0 0 (gA E)) := by
  refine LP7_ind (T := fun (v1 : Int) (v2 : Int) (v3 : Int) (v4 : Int) (v5 : Int) (v6 : Int) (μ : Mem) => inR v1 → inR v2 → inR v3 → inR v4 → inR v5 → inR v6 → okM μ → J cX8_holesIf x E z0 μ 6 [some (rv E 115), some (iv v1), some (iv v2), some (iv v3), some (iv v4), some (iv v5), some (iv v6), none] [] (MQ (xb x) (QI E z0 Q) (xa x) (xs x) 0 0 (gA E))) (fun X6 hX6 v1 v2 v3 v4 v5 v6 μ h hv1 hv2 hv3 hv4 hv5 hv6 hμ => ?_) h hv1 hv2 hv3 hv4 hv5 hv6 hμ
  unfold wp_X8_holesIf_6 at h
  refine r_il6 dX8_holesIf_6 ?_
  refine r_al0 dX8_holesIf_8 ?_
  refine r_il1 dX8_holesIf_9 ?_
  refine r_cVI1 B cb_X8_words lk_X8_113 cv_X8_words kd_115 (c_X8_words (xl x) E hv1 hμ h) rfl rfl dX8_holesIf_10 (fun r2 μ1 hr2 mμ1 h => ?_)
  refine r_icmp_ge 84 dX8_holesIf_13 rfl hv6 hr2 (fun c3 => ?_) (fun c3 => ?_)
  · have h := h.1 c3
    refine r_il5 dX8_holesIf_84 ?_
    exact r_iret B hr hv5 mμ1 dX8_holesIf_86 h
  · have h := h.2 c3
    refine r_al0 dX8_holesIf_16 ?_
    refine r_getR B 121 fg_X8_30 kd_115 (kl kd_115) (ρo (off := 6) kd_115 rfl) dX8_holesIf_17 ?_
    refine r_il6 dX8_holesIf_20 ?_
    obtain ⟨o4, h⟩ := h
    refine r_iald B kd_121 (kl kd_121) (by decide) o4 dX8_holesIf_22 ?_
    refine r_al0 dX8_holesIf_23 ?_
    refine r_il1 dX8_holesIf_24 ?_
    refine r_il2 dX8_holesIf_25 ?_
    refine r_il6 dX8_holesIf_26 ?_
    refine r_cVI3 B cb_X8_farOf lk_X8_195 cv_X8_farOf kd_115 (c_X8_farOf (xl x) E hv1 hv2 hv6 mμ1 h) rfl rfl dX8_holesIf_28 (fun r6 μ5 hr6 mμ5 h => ?_)
    refine r_il4 dX8_holesIf_31 ?_
    refine r_icmp_gt 40 dX8_holesIf_33 rfl hr6 hv4 (fun c7 => ?_) (fun c7 => ?_)
    · have h := h.1 c7
      refine r_iconst dX8_holesIf_40 ?_
      exact J_weak (t_X8_holesIf_41 B hr hX6 hv1 hv2 hv3 hv4 hv5 hv6 (mμ1 _ _) (inR_k rfl) mμ5 h) (⟨rfl, ⟨rfl, ⟨rfl, ⟨rfl, ⟨rfl, ⟨rfl, ⟨rfl, trivial⟩⟩⟩⟩⟩⟩⟩)
    · have h := h.2 c7
      refine r_iconst dX8_holesIf_36 ?_
      refine r_goto 41 dX8_holesIf_37 rfl ?_
      exact J_weak (t_X8_holesIf_41 B hr hX6 hv1 hv2 hv3 hv4 hv5 hv6 (mμ1 _ _) (inR_k rfl) mμ5 h) (⟨rfl, ⟨rfl, ⟨rfl, ⟨rfl, ⟨rfl, ⟨rfl, ⟨rfl, trivial⟩⟩⟩⟩⟩⟩⟩)
set_option maxRecDepth 20000 in
theorem c_X8_holesIf (l : Launch) (E : Gx) {p0 : Int} {p1 : Int} {p2 : Int} {p3 : Int} {μ : Mem} {Q : Int → Mem → Prop} (hp0 : inR p0) (hp1 : inR p1) (hp2 : inR p2) (hp3 : inR p3) (hμ : okM μ) (h : wp_X8_holesIf p0 p1 p2 p3 μ Q) : MT l yX8_holesIf cX8_holesIf 8 (some .int) E 3 0 0 z0 [rv E 115, iv p0, iv p1, iv p2, iv p3] μ (QI E z0 Q) := by
  refine m_start [some (rv E 115), some (iv p0), some (iv p1), some (iv p2), some (iv p3), none, none, none] (by decide) rfl rfl rfl (fun x hxl hxc hxs B hr hnm => ?_)
  unfold wp_X8_holesIf at h
  refine r_iconst dX8_holesIf_0 ?_
  refine r_is5 dX8_holesIf_1 rfl ?_
  refine r_iconst dX8_holesIf_3 ?_
  refine r_is6 dX8_holesIf_4 rfl ?_
  exact J_weak (t_X8_holesIf_6 B hr hp0 hp1 hp2 hp3 (inR_k rfl) (inR_k rfl) hμ h) (⟨rfl, ⟨rfl, ⟨rfl, ⟨rfl, ⟨rfl, ⟨rfl, ⟨rfl, trivial⟩⟩⟩⟩⟩⟩⟩)
set_option maxRecDepth 20000 in
theorem t_X8_better_188 {x : Cx} {E : Gx} (B : Bd x E 4 11 "SlipCoversModel") (hr : (xt x).sig.returnType = (some .int)) {Q : Int → Mem → Prop} {X57 : Int → Int → Int → Int → Mem → Prop} (hX57 : ∀ (v1 : Int) (v2 : Int) (v3 : Int) (v4 : Int) (μ : Mem), X57 v1 v2 v3 v4 μ → inR v1 → inR v2 → inR v3 → inR v4 → okM μ → J cX8_better x E z0 μ 57 [some (rv E 115), some (iv v1), some (iv v2), some (iv v3), some (iv v4), none, none, none, none, none, none] [] (MQ (xb x) (QI E z0 Q) (xa x) (xs x) 0 0 (gA E))) {v1 : Int} {v2 : Int} {v3 : Int} {v6 : Int} {v7 : Int} {s0 : Int} {μ : Mem} (hv1 : inR v1) (hv2 : inR v2) (hv3 : inR v3) (hv6 : inR v6) (hv7 : inR v7) (hs0 : inR s0) (hμ : okM μ) (h : wp_X8_better_188 Q X57 v1 v2 v3 v6 v7 s0 μ) : J cX8_better x E z0 μ 188 [some (rv E 115), some (iv v1), some (iv v2), some (iv v3), none, none, some (iv v6), some (iv v7), none, none, none] [iv s0] (MQ (xb x) (QI E z0 Q) (xa x) (xs x) 0 0 (gA E)) := by
  unfold wp_X8_better_188 at h
  refine r_is4 dX8_better_188 rfl ?_
  refine r_il4 dX8_better_190 ?_
  refine r_if_ne 198 dX8_better_192 rfl hs0 (fun c24 => ?_) (fun c24 => ?_)
  · have h := h.1 c24
    refine r_al0 dX8_better_198 ?_
    refine r_il1 dX8_better_199 ?_
    refine r_il6 dX8_better_200 ?_
    refine r_iconst dX8_better_202 ?_
    refine r_cVV3 B cb_X8_marks lk_X8_147 cv_X8_marks kd_115 (c_X8_marks (xl x) E hv1 hv6 (inR_k rfl) hμ h) rfl rfl dX8_better_203 (fun μ25 mμ25 h => ?_)
    refine r_al0 dX8_better_206 ?_
    refine r_il1 dX8_better_207 ?_
    refine r_il7 dX8_better_208 ?_
    refine r_iconst dX8_better_210 ?_
    refine r_cVV3 B cb_X8_marks lk_X8_147 cv_X8_marks kd_115 (c_X8_marks (xl x) E hv1 hv7 (inR_k rfl) mμ25 h) rfl rfl dX8_better_211 (fun μ26 mμ26 h => ?_)
    refine r_inc3 dX8_better_214 rfl ?_
    obtain ⟨o27, h⟩ := h
    refine r_goto 57 dX8_better_217 rfl ?_
    exact J_weak (hX57 v1 v2 (v3 + 1) s0 μ26 h hv1 hv2 o27 hs0 mμ26) (⟨rfl, ⟨rfl, ⟨rfl, ⟨rfl, ⟨rfl, trivial⟩⟩⟩⟩⟩)
  · have h := h.2 c24
    refine r_goto 57 dX8_better_195 rfl ?_
    exact J_weak (hX57 v1 v2 v3 s0 μ h hv1 hv2 hv3 hs0 hμ) (⟨rfl, ⟨rfl, ⟨rfl, ⟨rfl, ⟨rfl, trivial⟩⟩⟩⟩⟩)
set_option maxRecDepth 20000 in
theorem t_X8_better_98 {x : Cx} {E : Gx} (B : Bd x E 4 11 "SlipCoversModel") (hr : (xt x).sig.returnType = (some .int)) {Q : Int → Mem → Prop} {X57 : Int → Int → Int → Int → Mem → Prop} (hX57 : ∀ (v1 : Int) (v2 : Int) (v3 : Int) (v4 : Int) (μ : Mem), X57 v1 v2 v3 v4 μ → inR v1 → inR v2 → inR v3 → inR v4 → okM μ → J cX8_better x E z0 μ 57 [some (rv E 115), some (iv v1), some (iv v2), some (iv v3), some (iv v4), none, none, none, none, none, none] [] (MQ (xb x) (QI E z0 Q) (xa x) (xs x) 0 0 (gA E))) {X85 : Int → Int → Int → Int → Int → Int → Int → Mem → Prop} (hX85 : ∀ (v1 : Int) (v2 : Int) (v3 : Int) (v5 : Int) (v6 : Int) (v7 : Int) (v8 : Int) (μ : Mem), X85 v1 v2 v3 v5 v6 v7 v8 μ → inR v1 → inR v2 → inR v3 → inR v5 → inR v6 → inR v7 → inR v8 → okM μ → J cX8_better x E z0 μ 85 [some (rv E 115), some (iv v1), some (iv v2), some (iv v3), none, some (iv v5), some (iv v6), some (iv v7), some (iv v8), none, none] [] (MQ (xb x) (QI E z0 Q) (xa x) (xs x) 0 0 (gA E))) {v1 : Int} {v2 : Int} {v3 : Int} {v5 : Int} {v6 : Int} {v7 : Int} {v8 : Int} {v9 : Int} {μ : Mem} (hv1 : inR v1) (hv2 : inR v2) (hv3 : inR v3) (hv5 : inR v5) (hv6 : inR v6) (hv7 : inR v7) (hv8 : inR v8) (hv9 : inR v9) (hμ : okM μ) (h : LP9 (wp_X8_better_98 Q X57 X85) v1 v2 v3 v5 v6 v7 v8 v9 μ) : J cX8_better x E z0 μ 98 [some (rv E 115), some (iv v1), some (iv v2), some (iv v3), none, some (iv v5), some (iv v6), some (iv v7), some (iv v8), some (iv v9), none] [] (MQ (xb x) (QI E z0 Q) (xa x) (xs x) 0 0 (gA E)) := by
  refine LP9_ind (T := fun (v1 : Int) (v2 : Int) (v3 : Int) (v5 : Int) (v6 : Int) (v7 : Int) (v8 : Int) (v9 : Int) (μ : Mem) => inR v1 → inR v2 → inR v3 → inR v5 → inR v6 → inR v7 → inR v8 → inR v9 → okM μ → J cX8_better x E z0 μ 98 [some (rv E 115), some (iv v1), some (iv v2), some (iv v3), none, some (iv v5), some (iv v6), some (iv v7), some (iv v8), some (iv v9), none] [] (MQ (xb x) (QI E z0 Q) (xa x) (xs x) 0 0 (gA E))) (fun X98 hX98 v1 v2 v3 v5 v6 v7 v8 v9 μ h hv1 hv2 hv3 hv5 hv6 hv7 hv8 hv9 hμ => ?_) h hv1 hv2 hv3 hv5 hv6 hv7 hv8 hv9 hμ
  unfold wp_X8_better_98 at h
  refine r_il9 dX8_better_98 ?_
  refine r_al0 dX8_better_100 ?_
  refine r_il1 dX8_better_101 ?_
  refine r_cVI1 B cb_X8_words lk_X8_113 cv_X8_words kd_115 (c_X8_words (xl x) E hv1 hμ h) rfl rfl dX8_better_102 (fun r29 μ28 hr29 mμ28 h => ?_)
  refine r_icmp_ge 171 dX8_better_105 rfl hv9 hr29 (fun c30 => ?_) (fun c30 => ?_)
  · have h := h.1 c30
    refine r_inc8 dX8_better_171 rfl ?_
    obtain ⟨o31, h⟩ := h
    refine r_goto 85 dX8_better_174 rfl ?_
    exact J_weak (hX85 v1 v2 v3 v5 v6 v7 (v8 + 1) μ28 h hv1 hv2 hv3 hv5 hv6 hv7 o31 mμ28) (⟨rfl, ⟨rfl, ⟨rfl, ⟨rfl, ⟨rfl, ⟨rfl, ⟨rfl, ⟨rfl, trivial⟩⟩⟩⟩⟩⟩⟩⟩)
  · have h := h.2 c30
    refine r_al0 dX8_better_108 ?_
    refine r_il1 dX8_better_109 ?_
    refine r_il8 dX8_better_110 ?_
    refine r_cVI2 B cb_X8_isIn lk_X8_116 cv_X8_isIn kd_115 (c_X8_isIn (xl x) E hv1 hv8 mμ28 h) rfl rfl dX8_better_112 (fun r33 μ32 hr33 mμ32 h => ?_)
    refine r_if_eq 165 dX8_better_115 rfl hr33 (fun c34 => ?_) (fun c34 => ?_)
    · have h := h.1 c34
      refine r_inc9 dX8_better_165 rfl ?_
      obtain ⟨o35, h⟩ := h
      refine r_goto 98 dX8_better_168 rfl ?_
      exact J_weak (hX98 v1 v2 v3 v5 v6 v7 v8 (v9 + 1) μ32 h hv1 hv2 hv3 hv5 hv6 hv7 hv8 o35 mμ32) (⟨rfl, ⟨rfl, ⟨rfl, ⟨rfl, ⟨rfl, ⟨rfl, ⟨rfl, ⟨rfl, ⟨rfl, trivial⟩⟩⟩⟩⟩⟩⟩⟩⟩)
    · have h := h.2 c34
      refine r_al0 dX8_better_118 ?_
      refine r_il1 dX8_better_119 ?_
      refine r_il9 dX8_better_120 ?_
      refine r_cVI2 B cb_X8_isIn lk_X8_116 cv_X8_isIn kd_115 (c_X8_isIn (xl x) E hv1 hv9 mμ32 h) rfl rfl dX8_better_122 (fun r37 μ36 hr37 mμ36 h => ?_)
      refine r_if_eq 131 dX8_better_125 rfl hr37 (fun c38 => ?_) (fun c38 => ?_)
      · have h := h.1 c38
        refine r_al0 dX8_better_131 ?_
        refine r_il1 dX8_better_132 ?_
        refine r_il8 dX8_better_133 ?_
        refine r_il9 dX8_better_135 ?_
        refine r_il2 dX8_better_137 ?_
        refine r_cVI4 B cb_X8_holesIf lk_X8_275 cv_X8_holesIf kd_115 (c_X8_holesIf (xl x) E hv1 hv8 hv9 hv2 mμ36 h) rfl rfl dX8_better_138 (fun r40 μ39 hr40 mμ39 h => ?_)
        refine r_is10 dX8_better_141 rfl ?_
        refine r_il10 dX8_better_143 ?_
        refine r_il5 dX8_better_145 ?_
        refine r_icmp_lt 153 dX8_better_147 rfl hr40 hv5 (fun c41 => ?_) (fun c41 => ?_)
        · have h := h.1 c41
          refine r_il10 dX8_better_153 ?_
          refine r_is5 dX8_better_155 rfl ?_
          refine r_il8 dX8_better_157 ?_
          refine r_is6 dX8_better_159 rfl ?_
          refine r_il9 dX8_better_161 ?_
          refine r_is7 dX8_better_163 rfl ?_
          refine r_inc9 dX8_better_165 rfl ?_
          obtain ⟨o42, h⟩ := h
          refine r_goto 98 dX8_better_168 rfl ?_
          exact J_weak (hX98 v1 v2 v3 r40 v8 v9 v8 (v9 + 1) μ39 h hv1 hv2 hv3 hr40 hv8 hv9 hv8 o42 mμ39) (⟨rfl, ⟨rfl, ⟨rfl, ⟨rfl, ⟨rfl, ⟨rfl, ⟨rfl, ⟨rfl, ⟨rfl, trivial⟩⟩⟩⟩⟩⟩⟩⟩⟩)
        · have h := h.2 c41
          refine r_goto 165 dX8_better_150 rfl ?_
          refine r_inc9 dX8_better_165 rfl ?_
          obtain ⟨o43, h⟩ := h
          refine r_goto 98 dX8_better_168 rfl ?_
          exact J_weak (hX98 v1 v2 v3 v5 v6 v7 v8 (v9 + 1) μ39 h hv1 hv2 hv3 hv5 hv6 hv7 hv8 o43 mμ39) (⟨rfl, ⟨rfl, ⟨rfl, ⟨rfl, ⟨rfl, ⟨rfl, ⟨rfl, ⟨rfl, ⟨rfl, trivial⟩⟩⟩⟩⟩⟩⟩⟩⟩)
      · have h := h.2 c38
        refine r_goto 165 dX8_better_128 rfl ?_
        refine r_inc9 dX8_better_165 rfl ?_
        obtain ⟨o44, h⟩ := h
        refine r_goto 98 dX8_better_168 rfl ?_
        exact J_weak (hX98 v1 v2 v3 v5 v6 v7 v8 (v9 + 1) μ36 h hv1 hv2 hv3 hv5 hv6 hv7 hv8 o44 mμ36) (⟨rfl, ⟨rfl, ⟨rfl, ⟨rfl, ⟨rfl, ⟨rfl, ⟨rfl, ⟨rfl, ⟨rfl, trivial⟩⟩⟩⟩⟩⟩⟩⟩⟩)
set_option maxRecDepth 20000 in
theorem t_X8_better_85 {x : Cx} {E : Gx} (B : Bd x E 4 11 "SlipCoversModel") (hr : (xt x).sig.returnType = (some .int)) {Q : Int → Mem → Prop} {X57 : Int → Int → Int → Int → Mem → Prop} (hX57 : ∀ (v1 : Int) (v2 : Int) (v3 : Int) (v4 : Int) (μ : Mem), X57 v1 v2 v3 v4 μ → inR v1 → inR v2 → inR v3 → inR v4 → okM μ → J cX8_better x E z0 μ 57 [some (rv E 115), some (iv v1), some (iv v2), some (iv v3), some (iv v4), none, none, none, none, none, none] [] (MQ (xb x) (QI E z0 Q) (xa x) (xs x) 0 0 (gA E))) {v1 : Int} {v2 : Int} {v3 : Int} {v5 : Int} {v6 : Int} {v7 : Int} {v8 : Int} {μ : Mem} (hv1 : inR v1) (hv2 : inR v2) (hv3 : inR v3) (hv5 : inR v5) (hv6 : inR v6) (hv7 : inR v7) (hv8 : inR v8) (hμ : okM μ) (h : LP8 (wp_X8_better_85 Q X57) v1 v2 v3 v5 v6 v7 v8 μ) : J cX8_better x E z0 μ 85 [some (rv E 115), some (iv v1), some (iv v2), some (iv v3), none, some (iv v5), some (iv v6), some (iv v7), some (iv v8), none, none] [] (MQ (xb x) (QI E z0 Q) (xa x) (xs x) 0 0 (gA E)) := by
  refine LP8_ind (T := fun (v1 : Int) (v2 : Int) (v3 : Int) (v5 : Int) (v6 : Int) (v7 : Int) (v8 : Int) (μ : Mem) => inR v1 → inR v2 → inR v3 → inR v5 → inR v6 → inR v7 → inR v8 → okM μ → J cX8_better x E z0 μ 85 [some (rv E 115), some (iv v1), some (iv v2), some (iv v3), none, some (iv v5), some (iv v6), some (iv v7), some (iv v8), none, none] [] (MQ (xb x) (QI E z0 Q) (xa x) (xs x) 0 0 (gA E))) (fun X85 hX85 v1 v2 v3 v5 v6 v7 v8 μ h hv1 hv2 hv3 hv5 hv6 hv7 hv8 hμ => ?_) h hv1 hv2 hv3 hv5 hv6 hv7 hv8 hμ
  unfold wp_X8_better_85 at h
  refine r_il8 dX8_better_85 ?_
  refine r_al0 dX8_better_87 ?_
  refine r_il1 dX8_better_88 ?_
  refine r_cVI1 B cb_X8_words lk_X8_113 cv_X8_words kd_115 (c_X8_words (xl x) E hv1 hμ h) rfl rfl dX8_better_89 (fun r21 μ20 hr21 mμ20 h => ?_)
  refine r_icmp_ge 177 dX8_better_92 rfl hv8 hr21 (fun c22 => ?_) (fun c22 => ?_)
  · have h := h.1 c22
    refine r_il6 dX8_better_177 ?_
    refine r_iconst dX8_better_179 ?_
    refine r_icmp_eq 187 dX8_better_180 rfl hv6 (inR_k rfl) (fun c23 => ?_) (fun c23 => ?_)
    · have h := h.1 c23
      refine r_iconst dX8_better_187 ?_
      exact J_weak (t_X8_better_188 B hr hX57 hv1 hv2 hv3 hv6 hv7 (inR_k rfl) mμ20 h) (⟨rfl, ⟨rfl, ⟨rfl, ⟨rfl, ⟨rfl, ⟨rfl, trivial⟩⟩⟩⟩⟩⟩)
    · have h := h.2 c23
      refine r_iconst dX8_better_183 ?_
      refine r_goto 188 dX8_better_184 rfl ?_
      exact J_weak (t_X8_better_188 B hr hX57 hv1 hv2 hv3 hv6 hv7 (inR_k rfl) mμ20 h) (⟨rfl, ⟨rfl, ⟨rfl, ⟨rfl, ⟨rfl, ⟨rfl, trivial⟩⟩⟩⟩⟩⟩)
  · have h := h.2 c22
    refine r_iconst dX8_better_95 ?_
    refine r_is9 dX8_better_96 rfl ?_
    exact J_weak (t_X8_better_98 B hr hX57 hX85 hv1 hv2 hv3 hv5 hv6 hv7 hv8 (inR_k rfl) mμ20 h) (⟨rfl, ⟨rfl, ⟨rfl, ⟨rfl, ⟨rfl, ⟨rfl, ⟨rfl, ⟨rfl, ⟨rfl, trivial⟩⟩⟩⟩⟩⟩⟩⟩⟩)
set_option maxRecDepth 20000 in
theorem t_X8_better_57 {x : Cx} {E : Gx} (B : Bd x E 4 11 "SlipCoversModel") (hr : (xt x).sig.returnType = (some .int)) {Q : Int → Mem → Prop} {v1 : Int} {v2 : Int} {v3 : Int} {v4 : Int} {μ : Mem} (hv1 : inR v1) (hv2 : inR v2) (hv3 : inR v3) (hv4 : inR v4) (hμ : okM μ) (h : LP5 (wp_X8_better_57 Q) v1 v2 v3 v4 μ) : J cX8_better x E z0 μ 57 [some (rv E 115), some (iv v1), some (iv v2), some (iv v3), some (iv v4), none, none, none, none, none, none] [] (MQ (xb x) (QI E z0 Q) (xa x) (xs x) 0 0 (gA E)) := by
  refine LP5_ind (T := fun (v1 : Int) (v2 : Int) (v3 : Int) (v4 : Int) (μ : Mem) => inR v1 → inR v2 → inR v3 → inR v4 → okM μ → J cX8_better x E z0 μ 57 [some (rv E 115), some (iv v1), some (iv v2), some (iv v3), some (iv v4), none, none, none, none, none, none] [] (MQ (xb x) (QI E z0 Q) (xa x) (xs x) 0 0 (gA E))) (fun X57 hX57 v1 v2 v3 v4 μ h hv1 hv2 hv3 hv4 hμ => ?_) h hv1 hv2 hv3 hv4 hμ
  unfold wp_X8_better_57 at h
  refine r_il4 dX8_better_57 ?_
  refine r_if_eq 220 dX8_better_59 rfl hv4 (fun c12 => ?_) (fun c12 => ?_)
  · have h := h.1 c12
    refine r_al0 dX8_better_220 ?_
    refine r_il3 dX8_better_221 ?_
    refine r_cVI1 B cb_X8_good lk_X8_189 cv_X8_good kd_115 (c_X8_good (xl x) E hv3 hμ h) rfl rfl dX8_better_222 (fun r14 μ13 hr14 mμ13 h => ?_)
    exact r_iret B hr hr14 mμ13 dX8_better_225 h
  · have h := h.2 c12
    refine r_il3 dX8_better_62 ?_
    refine r_bipush dX8_better_63 (by decide) ?_
    refine r_icmp_ge 220 dX8_better_65 rfl hv3 (inR_k rfl) (fun c15 => ?_) (fun c15 => ?_)
    · have h := h.1 c15
      refine r_al0 dX8_better_220 ?_
      refine r_il3 dX8_better_221 ?_
      refine r_cVI1 B cb_X8_good lk_X8_189 cv_X8_good kd_115 (c_X8_good (xl x) E hv3 hμ h) rfl rfl dX8_better_222 (fun r17 μ16 hr17 mμ16 h => ?_)
      exact r_iret B hr hr17 mμ16 dX8_better_225 h
    · have h := h.2 c15
      refine r_al0 dX8_better_68 ?_
      refine r_il1 dX8_better_69 ?_
      refine r_il2 dX8_better_70 ?_
      refine r_cVI2 B cb_X8_covers lk_X8_202 cv_X8_covers kd_115 (c_X8_covers (xl x) E hv1 hv2 hμ h) rfl rfl dX8_better_71 (fun r19 μ18 hr19 mμ18 h => ?_)
      refine r_is5 dX8_better_74 rfl ?_
      refine r_iconst dX8_better_76 ?_
      refine r_is6 dX8_better_77 rfl ?_
      refine r_iconst dX8_better_79 ?_
      refine r_is7 dX8_better_80 rfl ?_
      refine r_iconst dX8_better_82 ?_
      refine r_is8 dX8_better_83 rfl ?_
      exact J_weak (t_X8_better_85 B hr hX57 hv1 hv2 hv3 hr19 (inR_k rfl) (inR_k rfl) (inR_k rfl) mμ18 h) (⟨rfl, ⟨rfl, ⟨rfl, ⟨rfl, ⟨rfl, ⟨rfl, ⟨rfl, ⟨rfl, trivial⟩⟩⟩⟩⟩⟩⟩⟩)
set_option maxRecDepth 20000 in
theorem c_X8_better (l : Launch) (E : Gx) {p0 : Int} {p1 : Int} {μ : Mem} {Q : Int → Mem → Prop} (hp0 : inR p0) (hp1 : inR p1) (hμ : okM μ) (h : wp_X8_better p0 p1 μ Q) : MT l yX8_better cX8_better 11 (some .int) E 4 0 0 z0 [rv E 115, iv p0, iv p1] μ (QI E z0 Q) := by
  refine m_start [some (rv E 115), some (iv p0), some (iv p1), none, none, none, none, none, none, none, none] (by decide) rfl rfl rfl (fun x hxl hxc hxs B hr hnm => ?_)
  unfold wp_X8_better at h
  refine r_al0 dX8_better_0 ?_
  refine r_iconst dX8_better_1 ?_
  refine r_putI B fg_X8_42 fp_8_0 kd_115 (kl kd_115) dX8_better_2 ?_
  refine n_mem (fun μ1 eμ1 => ?_)
  have h := h μ1 eμ1
  have mμ1 : okM μ1 := eqM eμ1 (okM_sI hμ (inR_k rfl))
  refine r_al0 dX8_better_5 ?_
  refine r_il1 dX8_better_6 ?_
  refine r_cVI1 B cb_X8_isCode lk_X8_192 cv_X8_isCode kd_115 (c_X8_isCode (xl x) E hp0 mμ1 h) rfl rfl dX8_better_7 (fun r3 μ2 hr3 mμ2 h => ?_)
  refine r_if_ne 19 dX8_better_10 rfl hr3 (fun c4 => ?_) (fun c4 => ?_)
  · have h := h.1 c4
    refine r_il2 dX8_better_19 ?_
    refine r_cSI1 B cb_X8_isSlips lk_X8_223 cs_X8_isSlips (c_X8_isSlips (xl x) E hp1 mμ2 h) rfl rfl dX8_better_20 (fun r6 μ5 hr6 mμ5 h => ?_)
    refine r_if_ne 32 dX8_better_23 rfl hr6 (fun c7 => ?_) (fun c7 => ?_)
    · have h := h.1 c7
      refine r_al0 dX8_better_32 ?_
      refine r_il1 dX8_better_33 ?_
      refine r_cVI1 B cb_X8_words lk_X8_113 cv_X8_words kd_115 (c_X8_words (xl x) E hp0 mμ5 h) rfl rfl dX8_better_34 (fun r9 μ8 hr9 mμ8 h => ?_)
      refine r_bipush dX8_better_37 (by decide) ?_
      refine r_icmp_le 48 dX8_better_39 rfl hr9 (inR_k rfl) (fun c10 => ?_) (fun c10 => ?_)
      · have h := h.1 c10
        refine r_al0 dX8_better_48 ?_
        refine r_cVV0 B cb_X8_remembers lk_X8_269 cv_X8_remembers kd_115 (c_X8_remembers (xl x) E mμ8 h) rfl rfl dX8_better_49 (fun μ11 mμ11 h => ?_)
        refine r_iconst dX8_better_52 ?_
        refine r_is3 dX8_better_53 rfl ?_
        refine r_iconst dX8_better_54 ?_
        refine r_is4 dX8_better_55 rfl ?_
        exact J_weak (t_X8_better_57 B hr hp0 hp1 (inR_k rfl) (inR_k rfl) mμ11 h) (⟨rfl, ⟨rfl, ⟨rfl, ⟨rfl, ⟨rfl, trivial⟩⟩⟩⟩⟩)
      · have h := h.2 c10
        refine r_al0 dX8_better_42 ?_
        refine r_iconst dX8_better_43 ?_
        refine r_cVI1 B cb_X8_refused lk_X8_173 cv_X8_refused kd_115 (c_X8_refused (xl x) E (inR_k rfl) mμ8 h) rfl rfl dX8_better_44 (fun r46 μ45 hr46 mμ45 h => ?_)
        exact r_iret B hr hr46 mμ45 dX8_better_47 h
    · have h := h.2 c7
      refine r_al0 dX8_better_26 ?_
      refine r_iconst dX8_better_27 ?_
      refine r_cVI1 B cb_X8_refused lk_X8_173 cv_X8_refused kd_115 (c_X8_refused (xl x) E (inR_k rfl) mμ5 h) rfl rfl dX8_better_28 (fun r48 μ47 hr48 mμ47 h => ?_)
      exact r_iret B hr hr48 mμ47 dX8_better_31 h
  · have h := h.2 c4
    refine r_al0 dX8_better_13 ?_
    refine r_iconst dX8_better_14 ?_
    refine r_cVI1 B cb_X8_refused lk_X8_173 cv_X8_refused kd_115 (c_X8_refused (xl x) E (inR_k rfl) mμ2 h) rfl rfl dX8_better_15 (fun r50 μ49 hr50 mμ49 h => ?_)
    exact r_iret B hr hr50 mμ49 dX8_better_18 h
set_option maxRecDepth 20000 in
theorem t_X8_laysPlaces_2 {x : Cx} {E : Gx} (B : Bd x E 3 4 "SlipCoversModel") (hr : (xt x).sig.returnType = (some .boolean)) {Q : Int → Mem → Prop} {v1 : Int} {v3 : Int} {μ : Mem} (hv1 : inR v1) (hv3 : inR v3) (hμ : okM μ) (h : LP3 (wp_X8_laysPlaces_2 Q) v1 v3 μ) : J cX8_laysPlaces x E z0 μ 2 [some (rv E 115), some (iv v1), none, some (iv v3)] [] (MQ (xb x) (QI E z0 Q) (xa x) (xs x) 0 0 (gA E)) := by
  refine LP3_ind (T := fun (v1 : Int) (v3 : Int) (μ : Mem) => inR v1 → inR v3 → okM μ → J cX8_laysPlaces x E z0 μ 2 [some (rv E 115), some (iv v1), none, some (iv v3)] [] (MQ (xb x) (QI E z0 Q) (xa x) (xs x) 0 0 (gA E))) (fun X2 hX2 v1 v3 μ h hv1 hv3 hμ => ?_) h hv1 hv3 hμ
  unfold wp_X8_laysPlaces_2 at h
  refine r_il3 dX8_laysPlaces_2 ?_
  refine r_al0 dX8_laysPlaces_3 ?_
  refine r_il1 dX8_laysPlaces_4 ?_
  refine r_cVI1 B cb_X8_places lk_X8_105 cv_X8_places kd_115 (c_X8_places (xl x) E hv1 hμ h) rfl rfl dX8_laysPlaces_5 (fun r2 μ1 hr2 mμ1 h => ?_)
  refine r_icmp_ge 67 dX8_laysPlaces_8 rfl hv3 hr2 (fun c3 => ?_) (fun c3 => ?_)
  · have h := h.1 c3
    refine r_iconst dX8_laysPlaces_67 ?_
    exact r_zret B hr (Or.inr rfl) mμ1 dX8_laysPlaces_68 h
  · have h := h.2 c3
    refine r_al0 dX8_laysPlaces_11 ?_
    refine r_bipush dX8_laysPlaces_12 (by decide) ?_
    refine r_cVI1 B cb_X8_places lk_X8_105 cv_X8_places kd_115 (c_X8_places (xl x) E (inR_k rfl) mμ1 h) rfl rfl dX8_laysPlaces_14 (fun r5 μ4 hr5 mμ4 h => ?_)
    refine r_bipush dX8_laysPlaces_17 (by decide) ?_
    refine r_icmp_eq 41 dX8_laysPlaces_19 rfl hr5 (inR_k rfl) (fun c6 => ?_) (fun c6 => ?_)
    · have h := h.1 c6
      refine r_iconst dX8_laysPlaces_41 ?_
      exact r_zret B hr (Or.inl rfl) mμ4 dX8_laysPlaces_42 h
    · have h := h.2 c6
      refine r_al0 dX8_laysPlaces_22 ?_
      refine r_bipush dX8_laysPlaces_23 (by decide) ?_
      refine r_cVI1 B cb_X8_words lk_X8_113 cv_X8_words kd_115 (c_X8_words (xl x) E (inR_k rfl) mμ4 h) rfl rfl dX8_laysPlaces_25 (fun r8 μ7 hr8 mμ7 h => ?_)
      refine r_al0 dX8_laysPlaces_28 ?_
      refine r_il1 dX8_laysPlaces_29 ?_
      refine r_il3 dX8_laysPlaces_30 ?_
      refine r_cVI2 B cb_X8_sizeOf lk_X8_109 cv_X8_sizeOf kd_115 (c_X8_sizeOf (xl x) E hv1 hv3 mμ7 h) rfl rfl dX8_laysPlaces_31 (fun r10 μ9 hr10 mμ9 h => ?_)
      refine r_imul dX8_laysPlaces_34 ?_
      refine r_sipush dX8_laysPlaces_35 (by decide) ?_
      obtain ⟨o11, h⟩ := h
      refine r_icmp_le 43 dX8_laysPlaces_38 rfl o11 (inR_k rfl) (fun c12 => ?_) (fun c12 => ?_)
      · have h := h.1 c12
        refine r_al0 dX8_laysPlaces_43 ?_
        refine r_bipush dX8_laysPlaces_44 (by decide) ?_
        refine r_al0 dX8_laysPlaces_46 ?_
        refine r_il1 dX8_laysPlaces_47 ?_
        refine r_il3 dX8_laysPlaces_48 ?_
        refine r_cVI2 B cb_X8_sizeOf lk_X8_109 cv_X8_sizeOf kd_115 (c_X8_sizeOf (xl x) E hv1 hv3 mμ9 h) rfl rfl dX8_laysPlaces_49 (fun r14 μ13 hr14 mμ13 h => ?_)
        refine r_al0 dX8_laysPlaces_52 ?_
        refine r_il1 dX8_laysPlaces_53 ?_
        refine r_il3 dX8_laysPlaces_54 ?_
        refine r_cVI2 B cb_X8_weightOf lk_X8_120 cv_X8_weightOf kd_115 (c_X8_weightOf (xl x) E hv1 hv3 mμ13 h) rfl rfl dX8_laysPlaces_55 (fun r16 μ15 hr16 mμ15 h => ?_)
        refine r_cVV3 B cb_X8_adds lk_X8_140 cv_X8_adds kd_115 (c_X8_adds (xl x) E (inR_k rfl) hr14 hr16 mμ15 h) rfl rfl dX8_laysPlaces_58 (fun μ17 mμ17 h => ?_)
        refine r_inc3 dX8_laysPlaces_61 rfl ?_
        obtain ⟨o18, h⟩ := h
        refine r_goto 2 dX8_laysPlaces_64 rfl ?_
        exact J_weak (hX2 v1 (v3 + 1) μ17 h hv1 o18 mμ17) (⟨rfl, ⟨rfl, ⟨rfl, trivial⟩⟩⟩)
      · have h := h.2 c12
        refine r_iconst dX8_laysPlaces_41 ?_
        exact r_zret B hr (Or.inl rfl) mμ9 dX8_laysPlaces_42 h
set_option maxRecDepth 20000 in
theorem c_X8_laysPlaces (l : Launch) (E : Gx) {p0 : Int} {p1 : Int} {μ : Mem} {Q : Int → Mem → Prop} (hp0 : inR p0) (hp1 : inR p1) (hμ : okM μ) (h : wp_X8_laysPlaces p0 p1 μ Q) : MT l yX8_laysPlaces cX8_laysPlaces 4 (some .boolean) E 3 0 0 z0 [rv E 115, iv p0, iv p1] μ (QI E z0 Q) := by
  refine m_start [some (rv E 115), some (iv p0), some (iv p1), none] (by decide) rfl rfl rfl (fun x hxl hxc hxs B hr hnm => ?_)
  unfold wp_X8_laysPlaces at h
  refine r_il2 dX8_laysPlaces_0 ?_
  refine r_is3 dX8_laysPlaces_1 rfl ?_
  exact J_weak (t_X8_laysPlaces_2 B hr hp0 hp1 hμ h) (⟨rfl, ⟨rfl, ⟨rfl, trivial⟩⟩⟩)
set_option maxRecDepth 20000 in
theorem t_X8_sum_129 {x : Cx} {E : Gx} (B : Bd x E 5 7 "SlipCoversModel") (hr : (xt x).sig.returnType = (some .int)) {Q : Int → Mem → Prop} {X74 : Int → Int → Int → Int → Int → Mem → Prop} (hX74 : ∀ (v1 : Int) (v2 : Int) (v3 : Int) (v4 : Int) (v5 : Int) (μ : Mem), X74 v1 v2 v3 v4 v5 μ → inR v1 → inR v2 → inR v3 → inR v4 → inR v5 → okM μ → J cX8_sum x E z0 μ 74 [some (rv E 115), some (iv v1), some (iv v2), some (iv v3), some (iv v4), some (iv v5), none] [] (MQ (xb x) (QI E z0 Q) (xa x) (xs x) 0 0 (gA E))) {X87 : Int → Int → Int → Int → Int → Int → Mem → Prop} (hX87 : ∀ (v1 : Int) (v2 : Int) (v3 : Int) (v4 : Int) (v5 : Int) (v6 : Int) (μ : Mem), X87 v1 v2 v3 v4 v5 v6 μ → inR v1 → inR v2 → inR v3 → inR v4 → inR v5 → inR v6 → okM μ → J cX8_sum x E z0 μ 87 [some (rv E 115), some (iv v1), some (iv v2), some (iv v3), some (iv v4), some (iv v5), some (iv v6)] [] (MQ (xb x) (QI E z0 Q) (xa x) (xs x) 0 0 (gA E))) {v1 : Int} {v2 : Int} {v3 : Int} {v4 : Int} {v5 : Int} {v6 : Int} {s1 : Int} {s2 : Int} {μ : Mem} (hv1 : inR v1) (hv2 : inR v2) (hv3 : inR v3) (hv4 : inR v4) (hv5 : inR v5) (hv6 : inR v6) (hs1 : inR s1) (hs2 : inR s2) (hμ : okM μ) (h : wp_X8_sum_129 Q X74 X87 v1 v2 v3 v4 v5 v6 s1 s2 μ) : J cX8_sum x E z0 μ 129 [some (rv E 115), some (iv v1), some (iv v2), some (iv v3), some (iv v4), some (iv v5), some (iv v6)] [iv s2, iv s1, rv E 115] (MQ (xb x) (QI E z0 Q) (xa x) (xs x) 0 0 (gA E)) := by
  unfold wp_X8_sum_129 at h
  refine r_iconst dX8_sum_129 ?_
  refine r_cVV3 B cb_X8_marks lk_X8_147 cv_X8_marks kd_115 (c_X8_marks (xl x) E hs1 hs2 (inR_k rfl) hμ h) rfl rfl dX8_sum_130 (fun μ37 mμ37 h => ?_)
  refine r_inc6 dX8_sum_133 rfl ?_
  obtain ⟨o38, h⟩ := h
  refine r_goto 87 dX8_sum_136 rfl ?_
  exact J_weak (hX87 v1 v2 v3 v4 v5 (v6 + 1) μ37 h hv1 hv2 hv3 hv4 hv5 o38 mμ37) (⟨rfl, ⟨rfl, ⟨rfl, ⟨rfl, ⟨rfl, ⟨rfl, ⟨rfl, trivial⟩⟩⟩⟩⟩⟩⟩)
set_option maxRecDepth 20000 in
theorem t_X8_sum_87 {x : Cx} {E : Gx} (B : Bd x E 5 7 "SlipCoversModel") (hr : (xt x).sig.returnType = (some .int)) {Q : Int → Mem → Prop} {X74 : Int → Int → Int → Int → Int → Mem → Prop} (hX74 : ∀ (v1 : Int) (v2 : Int) (v3 : Int) (v4 : Int) (v5 : Int) (μ : Mem), X74 v1 v2 v3 v4 v5 μ → inR v1 → inR v2 → inR v3 → inR v4 → inR v5 → okM μ → J cX8_sum x E z0 μ 74 [some (rv E 115), some (iv v1), some (iv v2), some (iv v3), some (iv v4), some (iv v5), none] [] (MQ (xb x) (QI E z0 Q) (xa x) (xs x) 0 0 (gA E))) {v1 : Int} {v2 : Int} {v3 : Int} {v4 : Int} {v5 : Int} {v6 : Int} {μ : Mem} (hv1 : inR v1) (hv2 : inR v2) (hv3 : inR v3) (hv4 : inR v4) (hv5 : inR v5) (hv6 : inR v6) (hμ : okM μ) (h : LP7 (wp_X8_sum_87 Q X74) v1 v2 v3 v4 v5 v6 μ) : J cX8_sum x E z0 μ 87 [some (rv E 115), some (iv v1), some (iv v2), some (iv v3), some (iv v4), some (iv v5), some (iv v6)] [] (MQ (xb x) (QI E z0 Q) (xa x) (xs x) 0 0 (gA E)) := by
  refine LP7_ind (T := fun (v1 : Int) (v2 : Int) (v3 : Int) (v4 : Int) (v5 : Int) (v6 : Int) (μ : Mem) => inR v1 → inR v2 → inR v3 → inR v4 → inR v5 → inR v6 → okM μ → J cX8_sum x E z0 μ 87 [some (rv E 115), some (iv v1), some (iv v2), some (iv v3), some (iv v4), some (iv v5), some (iv v6)] [] (MQ (xb x) (QI E z0 Q) (xa x) (xs x) 0 0 (gA E))) (fun X87 hX87 v1 v2 v3 v4 v5 v6 μ h hv1 hv2 hv3 hv4 hv5 hv6 hμ => ?_) h hv1 hv2 hv3 hv4 hv5 hv6 hμ
  unfold wp_X8_sum_87 at h
  refine r_il6 dX8_sum_87 ?_
  refine r_il4 dX8_sum_89 ?_
  refine r_icmp_ge 139 dX8_sum_91 rfl hv6 hv4 (fun c31 => ?_) (fun c31 => ?_)
  · have h := h.1 c31
    refine r_inc5 dX8_sum_139 rfl ?_
    obtain ⟨o32, h⟩ := h
    refine r_goto 74 dX8_sum_142 rfl ?_
    exact J_weak (hX74 v1 v2 v3 v4 (v5 + 1) μ h hv1 hv2 hv3 hv4 o32 hμ) (⟨rfl, ⟨rfl, ⟨rfl, ⟨rfl, ⟨rfl, ⟨rfl, trivial⟩⟩⟩⟩⟩⟩)
  · have h := h.2 c31
    refine r_al0 dX8_sum_94 ?_
    refine r_bipush dX8_sum_95 (by decide) ?_
    refine r_il5 dX8_sum_97 ?_
    refine r_il4 dX8_sum_99 ?_
    refine r_imul dX8_sum_101 ?_
    refine r_il6 dX8_sum_102 ?_
    refine r_iadd dX8_sum_104 ?_
    refine r_al0 dX8_sum_105 ?_
    refine r_il2 dX8_sum_106 ?_
    refine r_il5 dX8_sum_107 ?_
    refine r_cVI2 B cb_X8_isIn lk_X8_116 cv_X8_isIn kd_115 (c_X8_isIn (xl x) E hv2 hv5 hμ h) rfl rfl dX8_sum_109 (fun r34 μ33 hr34 mμ33 h => ?_)
    refine r_if_eq 129 dX8_sum_112 rfl hr34 (fun c35 => ?_) (fun c35 => ?_)
    · have h := h.1 c35
      obtain ⟨o36, h⟩ := h
      exact J_weak (t_X8_sum_129 B hr hX74 hX87 hv1 hv2 hv3 hv4 hv5 hv6 (inR_k rfl) o36 mμ33 h) (⟨rfl, ⟨rfl, ⟨rfl, ⟨rfl, ⟨rfl, ⟨rfl, ⟨rfl, trivial⟩⟩⟩⟩⟩⟩⟩)
    · have h := h.2 c35
      refine r_al0 dX8_sum_115 ?_
      refine r_il3 dX8_sum_116 ?_
      refine r_il6 dX8_sum_117 ?_
      refine r_cVI2 B cb_X8_isIn lk_X8_116 cv_X8_isIn kd_115 (c_X8_isIn (xl x) E hv3 hv6 mμ33 h) rfl rfl dX8_sum_119 (fun r40 μ39 hr40 mμ39 h => ?_)
      refine r_if_eq 129 dX8_sum_122 rfl hr40 (fun c41 => ?_) (fun c41 => ?_)
      · have h := h.1 c41
        obtain ⟨o42, h⟩ := h
        exact J_weak (t_X8_sum_129 B hr hX74 hX87 hv1 hv2 hv3 hv4 hv5 hv6 (inR_k rfl) o42 mμ39 h) (⟨rfl, ⟨rfl, ⟨rfl, ⟨rfl, ⟨rfl, ⟨rfl, ⟨rfl, trivial⟩⟩⟩⟩⟩⟩⟩)
      · have h := h.2 c41
        refine r_iconst dX8_sum_125 ?_
        refine r_goto 130 dX8_sum_126 rfl ?_
        obtain ⟨o43, h⟩ := h
        refine r_cVV3 B cb_X8_marks lk_X8_147 cv_X8_marks kd_115 (c_X8_marks (xl x) E (inR_k rfl) o43 (inR_k rfl) mμ39 h) rfl rfl dX8_sum_130 (fun μ44 mμ44 h => ?_)
        refine r_inc6 dX8_sum_133 rfl ?_
        obtain ⟨o45, h⟩ := h
        refine r_goto 87 dX8_sum_136 rfl ?_
        exact J_weak (hX87 v1 v2 v3 v4 v5 (v6 + 1) μ44 h hv1 hv2 hv3 hv4 hv5 o45 mμ44) (⟨rfl, ⟨rfl, ⟨rfl, ⟨rfl, ⟨rfl, ⟨rfl, ⟨rfl, trivial⟩⟩⟩⟩⟩⟩⟩)
set_option maxRecDepth 20000 in
theorem t_X8_sum_74 {x : Cx} {E : Gx} (B : Bd x E 5 7 "SlipCoversModel") (hr : (xt x).sig.returnType = (some .int)) {Q : Int → Mem → Prop} {v1 : Int} {v2 : Int} {v3 : Int} {v4 : Int} {v5 : Int} {μ : Mem} (hv1 : inR v1) (hv2 : inR v2) (hv3 : inR v3) (hv4 : inR v4) (hv5 : inR v5) (hμ : okM μ) (h : LP6 (wp_X8_sum_74 Q) v1 v2 v3 v4 v5 μ) : J cX8_sum x E z0 μ 74 [some (rv E 115), some (iv v1), some (iv v2), some (iv v3), some (iv v4), some (iv v5), none] [] (MQ (xb x) (QI E z0 Q) (xa x) (xs x) 0 0 (gA E)) := by
  refine LP6_ind (T := fun (v1 : Int) (v2 : Int) (v3 : Int) (v4 : Int) (v5 : Int) (μ : Mem) => inR v1 → inR v2 → inR v3 → inR v4 → inR v5 → okM μ → J cX8_sum x E z0 μ 74 [some (rv E 115), some (iv v1), some (iv v2), some (iv v3), some (iv v4), some (iv v5), none] [] (MQ (xb x) (QI E z0 Q) (xa x) (xs x) 0 0 (gA E))) (fun X74 hX74 v1 v2 v3 v4 v5 μ h hv1 hv2 hv3 hv4 hv5 hμ => ?_) h hv1 hv2 hv3 hv4 hv5 hμ
  unfold wp_X8_sum_74 at h
  refine r_il5 dX8_sum_74 ?_
  refine r_al0 dX8_sum_76 ?_
  refine r_il2 dX8_sum_77 ?_
  refine r_cVI1 B cb_X8_words lk_X8_113 cv_X8_words kd_115 (c_X8_words (xl x) E hv2 hμ h) rfl rfl dX8_sum_78 (fun r27 μ26 hr27 mμ26 h => ?_)
  refine r_icmp_ge 145 dX8_sum_81 rfl hv5 hr27 (fun c28 => ?_) (fun c28 => ?_)
  · have h := h.1 c28
    refine r_al0 dX8_sum_145 ?_
    refine r_il1 dX8_sum_146 ?_
    refine r_cVI1 B cb_X8_becomes lk_X8_285 cv_X8_becomes kd_115 (c_X8_becomes (xl x) E hv1 mμ26 h) rfl rfl dX8_sum_147 (fun r30 μ29 hr30 mμ29 h => ?_)
    exact r_iret B hr hr30 mμ29 dX8_sum_150 h
  · have h := h.2 c28
    refine r_iconst dX8_sum_84 ?_
    refine r_is6 dX8_sum_85 rfl ?_
    exact J_weak (t_X8_sum_87 B hr hX74 hv1 hv2 hv3 hv4 hv5 (inR_k rfl) mμ26 h) (⟨rfl, ⟨rfl, ⟨rfl, ⟨rfl, ⟨rfl, ⟨rfl, ⟨rfl, trivial⟩⟩⟩⟩⟩⟩⟩)
set_option maxRecDepth 20000 in
theorem c_X8_sum (l : Launch) (E : Gx) {p0 : Int} {p1 : Int} {p2 : Int} {μ : Mem} {Q : Int → Mem → Prop} (hp0 : inR p0) (hp1 : inR p1) (hp2 : inR p2) (hμ : okM μ) (h : wp_X8_sum p0 p1 p2 μ Q) : MT l yX8_sum cX8_sum 7 (some .int) E 5 0 0 z0 [rv E 115, iv p0, iv p1, iv p2] μ (QI E z0 Q) := by
  refine m_start [some (rv E 115), some (iv p0), some (iv p1), some (iv p2), none, none, none] (by decide) rfl rfl rfl (fun x hxl hxc hxs B hr hnm => ?_)
  unfold wp_X8_sum at h
  refine r_al0 dX8_sum_0 ?_
  refine r_iconst dX8_sum_1 ?_
  refine r_putI B fg_X8_42 fp_8_0 kd_115 (kl kd_115) dX8_sum_2 ?_
  refine n_mem (fun μ1 eμ1 => ?_)
  have h := h μ1 eμ1
  have mμ1 : okM μ1 := eqM eμ1 (okM_sI hμ (inR_k rfl))
  refine r_il1 dX8_sum_5 ?_
  refine r_cSI1 B cb_X8_isTo lk_X8_279 cs_X8_isTo (c_X8_isTo (xl x) E hp0 mμ1 h) rfl rfl dX8_sum_6 (fun r3 μ2 hr3 mμ2 h => ?_)
  refine r_if_eq 28 dX8_sum_9 rfl hr3 (fun c4 => ?_) (fun c4 => ?_)
  · have h := h.1 c4
    refine r_al0 dX8_sum_28 ?_
    refine r_iconst dX8_sum_29 ?_
    refine r_cVI1 B cb_X8_refused lk_X8_173 cv_X8_refused kd_115 (c_X8_refused (xl x) E (inR_k rfl) mμ2 h) rfl rfl dX8_sum_30 (fun r6 μ5 hr6 mμ5 h => ?_)
    exact r_iret B hr hr6 mμ5 dX8_sum_33 h
  · have h := h.2 c4
    refine r_al0 dX8_sum_12 ?_
    refine r_il2 dX8_sum_13 ?_
    refine r_cVI1 B cb_X8_isCode lk_X8_192 cv_X8_isCode kd_115 (c_X8_isCode (xl x) E hp1 mμ2 h) rfl rfl dX8_sum_14 (fun r8 μ7 hr8 mμ7 h => ?_)
    refine r_if_eq 28 dX8_sum_17 rfl hr8 (fun c9 => ?_) (fun c9 => ?_)
    · have h := h.1 c9
      refine r_al0 dX8_sum_28 ?_
      refine r_iconst dX8_sum_29 ?_
      refine r_cVI1 B cb_X8_refused lk_X8_173 cv_X8_refused kd_115 (c_X8_refused (xl x) E (inR_k rfl) mμ7 h) rfl rfl dX8_sum_30 (fun r11 μ10 hr11 mμ10 h => ?_)
      exact r_iret B hr hr11 mμ10 dX8_sum_33 h
    · have h := h.2 c9
      refine r_al0 dX8_sum_20 ?_
      refine r_il3 dX8_sum_21 ?_
      refine r_cVI1 B cb_X8_isCode lk_X8_192 cv_X8_isCode kd_115 (c_X8_isCode (xl x) E hp2 mμ7 h) rfl rfl dX8_sum_22 (fun r13 μ12 hr13 mμ12 h => ?_)
      refine r_if_ne 34 dX8_sum_25 rfl hr13 (fun c14 => ?_) (fun c14 => ?_)
      · have h := h.1 c14
        refine r_al0 dX8_sum_34 ?_
        refine r_bipush dX8_sum_35 (by decide) ?_
        refine r_cVV1 B cb_X8_clears lk_X8_158 cv_X8_clears kd_115 (c_X8_clears (xl x) E (inR_k rfl) mμ12 h) rfl rfl dX8_sum_37 (fun μ15 mμ15 h => ?_)
        refine r_al0 dX8_sum_40 ?_
        refine r_il2 dX8_sum_41 ?_
        refine r_iconst dX8_sum_42 ?_
        refine r_cVI2 B cb_X8_laysPlaces lk_X8_282 cv_X8_laysPlaces kd_115 (c_X8_laysPlaces (xl x) E hp1 (inR_k rfl) mμ15 h) rfl rfl dX8_sum_43 (fun r17 μ16 hr17 mμ16 h => ?_)
        refine r_if_eq 58 dX8_sum_46 rfl hr17 (fun c18 => ?_) (fun c18 => ?_)
        · have h := h.1 c18
          refine r_al0 dX8_sum_58 ?_
          refine r_iconst dX8_sum_59 ?_
          refine r_cVI1 B cb_X8_refused lk_X8_173 cv_X8_refused kd_115 (c_X8_refused (xl x) E (inR_k rfl) mμ16 h) rfl rfl dX8_sum_60 (fun r20 μ19 hr20 mμ19 h => ?_)
          exact r_iret B hr hr20 mμ19 dX8_sum_63 h
        · have h := h.2 c18
          refine r_al0 dX8_sum_49 ?_
          refine r_il3 dX8_sum_50 ?_
          refine r_iconst dX8_sum_51 ?_
          refine r_cVI2 B cb_X8_laysPlaces lk_X8_282 cv_X8_laysPlaces kd_115 (c_X8_laysPlaces (xl x) E hp2 (inR_k rfl) mμ16 h) rfl rfl dX8_sum_52 (fun r22 μ21 hr22 mμ21 h => ?_)
          refine r_if_ne 64 dX8_sum_55 rfl hr22 (fun c23 => ?_) (fun c23 => ?_)
          · have h := h.1 c23
            refine r_al0 dX8_sum_64 ?_
            refine r_il3 dX8_sum_65 ?_
            refine r_cVI1 B cb_X8_words lk_X8_113 cv_X8_words kd_115 (c_X8_words (xl x) E hp2 mμ21 h) rfl rfl dX8_sum_66 (fun r25 μ24 hr25 mμ24 h => ?_)
            refine r_is4 dX8_sum_69 rfl ?_
            refine r_iconst dX8_sum_71 ?_
            refine r_is5 dX8_sum_72 rfl ?_
            exact J_weak (t_X8_sum_74 B hr hp0 hp1 hp2 hr25 (inR_k rfl) mμ24 h) (⟨rfl, ⟨rfl, ⟨rfl, ⟨rfl, ⟨rfl, ⟨rfl, trivial⟩⟩⟩⟩⟩⟩)
          · have h := h.2 c23
            refine r_al0 dX8_sum_58 ?_
            refine r_iconst dX8_sum_59 ?_
            refine r_cVI1 B cb_X8_refused lk_X8_173 cv_X8_refused kd_115 (c_X8_refused (xl x) E (inR_k rfl) mμ21 h) rfl rfl dX8_sum_60 (fun r47 μ46 hr47 mμ46 h => ?_)
            exact r_iret B hr hr47 mμ46 dX8_sum_63 h
      · have h := h.2 c14
        refine r_al0 dX8_sum_28 ?_
        refine r_iconst dX8_sum_29 ?_
        refine r_cVI1 B cb_X8_refused lk_X8_173 cv_X8_refused kd_115 (c_X8_refused (xl x) E (inR_k rfl) mμ12 h) rfl rfl dX8_sum_30 (fun r49 μ48 hr49 mμ48 h => ?_)
        exact r_iret B hr hr49 mμ48 dX8_sum_33 h
set_option maxRecDepth 20000 in
theorem t_X8_join_197 {x : Cx} {E : Gx} (B : Bd x E 5 9 "SlipCoversModel") (hr : (xt x).sig.returnType = (some .int)) {Q : Int → Mem → Prop} {X133 : Int → Int → Int → Int → Int → Int → Mem → Prop} (hX133 : ∀ (v1 : Int) (v2 : Int) (v3 : Int) (v5 : Int) (v6 : Int) (v7 : Int) (μ : Mem), X133 v1 v2 v3 v5 v6 v7 μ → inR v1 → inR v2 → inR v3 → inR v5 → inR v6 → inR v7 → okM μ → J cX8_join x E z0 μ 133 [some (rv E 115), some (iv v1), some (iv v2), some (iv v3), none, some (iv v5), some (iv v6), some (iv v7), none] [] (MQ (xb x) (QI E z0 Q) (xa x) (xs x) 0 0 (gA E))) {X146 : Int → Int → Int → Int → Int → Int → Int → Mem → Prop} (hX146 : ∀ (v1 : Int) (v2 : Int) (v3 : Int) (v5 : Int) (v6 : Int) (v7 : Int) (v8 : Int) (μ : Mem), X146 v1 v2 v3 v5 v6 v7 v8 μ → inR v1 → inR v2 → inR v3 → inR v5 → inR v6 → inR v7 → inR v8 → okM μ → J cX8_join x E z0 μ 146 [some (rv E 115), some (iv v1), some (iv v2), some (iv v3), none, some (iv v5), some (iv v6), some (iv v7), some (iv v8)] [] (MQ (xb x) (QI E z0 Q) (xa x) (xs x) 0 0 (gA E))) {v1 : Int} {v2 : Int} {v3 : Int} {v5 : Int} {v6 : Int} {v7 : Int} {v8 : Int} {s1 : Int} {s2 : Int} {μ : Mem} (hv1 : inR v1) (hv2 : inR v2) (hv3 : inR v3) (hv5 : inR v5) (hv6 : inR v6) (hv7 : inR v7) (hv8 : inR v8) (hs1 : inR s1) (hs2 : inR s2) (hμ : okM μ) (h : wp_X8_join_197 Q X133 X146 v1 v2 v3 v5 v6 v7 v8 s1 s2 μ) : J cX8_join x E z0 μ 197 [some (rv E 115), some (iv v1), some (iv v2), some (iv v3), none, some (iv v5), some (iv v6), some (iv v7), some (iv v8)] [iv s2, iv s1, rv E 115] (MQ (xb x) (QI E z0 Q) (xa x) (xs x) 0 0 (gA E)) := by
  unfold wp_X8_join_197 at h
  refine r_iconst dX8_join_197 ?_
  refine r_cVV3 B cb_X8_marks lk_X8_147 cv_X8_marks kd_115 (c_X8_marks (xl x) E hs1 hs2 (inR_k rfl) hμ h) rfl rfl dX8_join_198 (fun μ57 mμ57 h => ?_)
  refine r_inc8 dX8_join_201 rfl ?_
  obtain ⟨o58, h⟩ := h
  refine r_goto 146 dX8_join_204 rfl ?_
  exact J_weak (hX146 v1 v2 v3 v5 v6 v7 (v8 + 1) μ57 h hv1 hv2 hv3 hv5 hv6 hv7 o58 mμ57) (⟨rfl, ⟨rfl, ⟨rfl, ⟨rfl, ⟨rfl, ⟨rfl, ⟨rfl, ⟨rfl, trivial⟩⟩⟩⟩⟩⟩⟩⟩)
set_option maxRecDepth 20000 in
theorem t_X8_join_146 {x : Cx} {E : Gx} (B : Bd x E 5 9 "SlipCoversModel") (hr : (xt x).sig.returnType = (some .int)) {Q : Int → Mem → Prop} {X133 : Int → Int → Int → Int → Int → Int → Mem → Prop} (hX133 : ∀ (v1 : Int) (v2 : Int) (v3 : Int) (v5 : Int) (v6 : Int) (v7 : Int) (μ : Mem), X133 v1 v2 v3 v5 v6 v7 μ → inR v1 → inR v2 → inR v3 → inR v5 → inR v6 → inR v7 → okM μ → J cX8_join x E z0 μ 133 [some (rv E 115), some (iv v1), some (iv v2), some (iv v3), none, some (iv v5), some (iv v6), some (iv v7), none] [] (MQ (xb x) (QI E z0 Q) (xa x) (xs x) 0 0 (gA E))) {v1 : Int} {v2 : Int} {v3 : Int} {v5 : Int} {v6 : Int} {v7 : Int} {v8 : Int} {μ : Mem} (hv1 : inR v1) (hv2 : inR v2) (hv3 : inR v3) (hv5 : inR v5) (hv6 : inR v6) (hv7 : inR v7) (hv8 : inR v8) (hμ : okM μ) (h : LP8 (wp_X8_join_146 Q X133) v1 v2 v3 v5 v6 v7 v8 μ) : J cX8_join x E z0 μ 146 [some (rv E 115), some (iv v1), some (iv v2), some (iv v3), none, some (iv v5), some (iv v6), some (iv v7), some (iv v8)] [] (MQ (xb x) (QI E z0 Q) (xa x) (xs x) 0 0 (gA E)) := by
  refine LP8_ind (T := fun (v1 : Int) (v2 : Int) (v3 : Int) (v5 : Int) (v6 : Int) (v7 : Int) (v8 : Int) (μ : Mem) => inR v1 → inR v2 → inR v3 → inR v5 → inR v6 → inR v7 → inR v8 → okM μ → J cX8_join x E z0 μ 146 [some (rv E 115), some (iv v1), some (iv v2), some (iv v3), none, some (iv v5), some (iv v6), some (iv v7), some (iv v8)] [] (MQ (xb x) (QI E z0 Q) (xa x) (xs x) 0 0 (gA E))) (fun X146 hX146 v1 v2 v3 v5 v6 v7 v8 μ h hv1 hv2 hv3 hv5 hv6 hv7 hv8 hμ => ?_) h hv1 hv2 hv3 hv5 hv6 hv7 hv8 hμ
  unfold wp_X8_join_146 at h
  refine r_il8 dX8_join_146 ?_
  refine r_il6 dX8_join_148 ?_
  refine r_icmp_ge 207 dX8_join_150 rfl hv8 hv6 (fun c51 => ?_) (fun c51 => ?_)
  · have h := h.1 c51
    refine r_inc7 dX8_join_207 rfl ?_
    obtain ⟨o52, h⟩ := h
    refine r_goto 133 dX8_join_210 rfl ?_
    exact J_weak (hX133 v1 v2 v3 v5 v6 (v7 + 1) μ h hv1 hv2 hv3 hv5 hv6 o52 hμ) (⟨rfl, ⟨rfl, ⟨rfl, ⟨rfl, ⟨rfl, ⟨rfl, ⟨rfl, trivial⟩⟩⟩⟩⟩⟩⟩)
  · have h := h.2 c51
    refine r_al0 dX8_join_153 ?_
    refine r_bipush dX8_join_154 (by decide) ?_
    refine r_il7 dX8_join_156 ?_
    refine r_il6 dX8_join_158 ?_
    refine r_imul dX8_join_160 ?_
    refine r_il8 dX8_join_161 ?_
    refine r_iadd dX8_join_163 ?_
    refine r_al0 dX8_join_164 ?_
    refine r_il2 dX8_join_165 ?_
    refine r_il7 dX8_join_166 ?_
    refine r_cVI2 B cb_X8_isIn lk_X8_116 cv_X8_isIn kd_115 (c_X8_isIn (xl x) E hv2 hv7 hμ h) rfl rfl dX8_join_168 (fun r54 μ53 hr54 mμ53 h => ?_)
    refine r_if_eq 197 dX8_join_171 rfl hr54 (fun c55 => ?_) (fun c55 => ?_)
    · have h := h.1 c55
      obtain ⟨o56, h⟩ := h
      exact J_weak (t_X8_join_197 B hr hX133 hX146 hv1 hv2 hv3 hv5 hv6 hv7 hv8 (inR_k rfl) o56 mμ53 h) (⟨rfl, ⟨rfl, ⟨rfl, ⟨rfl, ⟨rfl, ⟨rfl, ⟨rfl, ⟨rfl, trivial⟩⟩⟩⟩⟩⟩⟩⟩)
    · have h := h.2 c55
      refine r_al0 dX8_join_174 ?_
      refine r_il3 dX8_join_175 ?_
      refine r_il7 dX8_join_176 ?_
      refine r_il5 dX8_join_178 ?_
      obtain ⟨o59, h⟩ := h
      refine r_irem dX8_join_180 o59 hv7 hv5 ?_
      refine r_il6 dX8_join_181 ?_
      refine r_imul dX8_join_183 ?_
      refine r_il8 dX8_join_184 ?_
      refine r_iadd dX8_join_186 ?_
      obtain ⟨o60, h⟩ := h
      refine r_cVI2 B cb_X8_isIn lk_X8_116 cv_X8_isIn kd_115 (c_X8_isIn (xl x) E hv3 o60 mμ53 h) rfl rfl dX8_join_187 (fun r62 μ61 hr62 mμ61 h => ?_)
      refine r_if_eq 197 dX8_join_190 rfl hr62 (fun c63 => ?_) (fun c63 => ?_)
      · have h := h.1 c63
        obtain ⟨o64, h⟩ := h
        exact J_weak (t_X8_join_197 B hr hX133 hX146 hv1 hv2 hv3 hv5 hv6 hv7 hv8 (inR_k rfl) o64 mμ61 h) (⟨rfl, ⟨rfl, ⟨rfl, ⟨rfl, ⟨rfl, ⟨rfl, ⟨rfl, ⟨rfl, trivial⟩⟩⟩⟩⟩⟩⟩⟩)
      · have h := h.2 c63
        refine r_iconst dX8_join_193 ?_
        refine r_goto 198 dX8_join_194 rfl ?_
        obtain ⟨o65, h⟩ := h
        refine r_cVV3 B cb_X8_marks lk_X8_147 cv_X8_marks kd_115 (c_X8_marks (xl x) E (inR_k rfl) o65 (inR_k rfl) mμ61 h) rfl rfl dX8_join_198 (fun μ66 mμ66 h => ?_)
        refine r_inc8 dX8_join_201 rfl ?_
        obtain ⟨o67, h⟩ := h
        refine r_goto 146 dX8_join_204 rfl ?_
        exact J_weak (hX146 v1 v2 v3 v5 v6 v7 (v8 + 1) μ66 h hv1 hv2 hv3 hv5 hv6 hv7 o67 mμ66) (⟨rfl, ⟨rfl, ⟨rfl, ⟨rfl, ⟨rfl, ⟨rfl, ⟨rfl, ⟨rfl, trivial⟩⟩⟩⟩⟩⟩⟩⟩)
set_option maxRecDepth 20000 in
theorem t_X8_join_133 {x : Cx} {E : Gx} (B : Bd x E 5 9 "SlipCoversModel") (hr : (xt x).sig.returnType = (some .int)) {Q : Int → Mem → Prop} {v1 : Int} {v2 : Int} {v3 : Int} {v5 : Int} {v6 : Int} {v7 : Int} {μ : Mem} (hv1 : inR v1) (hv2 : inR v2) (hv3 : inR v3) (hv5 : inR v5) (hv6 : inR v6) (hv7 : inR v7) (hμ : okM μ) (h : LP7 (wp_X8_join_133 Q) v1 v2 v3 v5 v6 v7 μ) : J cX8_join x E z0 μ 133 [some (rv E 115), some (iv v1), some (iv v2), some (iv v3), none, some (iv v5), some (iv v6), some (iv v7), none] [] (MQ (xb x) (QI E z0 Q) (xa x) (xs x) 0 0 (gA E)) := by
  refine LP7_ind (T := fun (v1 : Int) (v2 : Int) (v3 : Int) (v5 : Int) (v6 : Int) (v7 : Int) (μ : Mem) => inR v1 → inR v2 → inR v3 → inR v5 → inR v6 → inR v7 → okM μ → J cX8_join x E z0 μ 133 [some (rv E 115), some (iv v1), some (iv v2), some (iv v3), none, some (iv v5), some (iv v6), some (iv v7), none] [] (MQ (xb x) (QI E z0 Q) (xa x) (xs x) 0 0 (gA E))) (fun X133 hX133 v1 v2 v3 v5 v6 v7 μ h hv1 hv2 hv3 hv5 hv6 hv7 hμ => ?_) h hv1 hv2 hv3 hv5 hv6 hv7 hμ
  unfold wp_X8_join_133 at h
  refine r_il7 dX8_join_133 ?_
  refine r_al0 dX8_join_135 ?_
  refine r_il2 dX8_join_136 ?_
  refine r_cVI1 B cb_X8_words lk_X8_113 cv_X8_words kd_115 (c_X8_words (xl x) E hv2 hμ h) rfl rfl dX8_join_137 (fun r47 μ46 hr47 mμ46 h => ?_)
  refine r_icmp_ge 213 dX8_join_140 rfl hv7 hr47 (fun c48 => ?_) (fun c48 => ?_)
  · have h := h.1 c48
    refine r_al0 dX8_join_213 ?_
    refine r_il1 dX8_join_214 ?_
    refine r_cVI1 B cb_X8_becomes lk_X8_285 cv_X8_becomes kd_115 (c_X8_becomes (xl x) E hv1 mμ46 h) rfl rfl dX8_join_215 (fun r50 μ49 hr50 mμ49 h => ?_)
    exact r_iret B hr hr50 mμ49 dX8_join_218 h
  · have h := h.2 c48
    refine r_iconst dX8_join_143 ?_
    refine r_is8 dX8_join_144 rfl ?_
    exact J_weak (t_X8_join_146 B hr hX133 hv1 hv2 hv3 hv5 hv6 hv7 (inR_k rfl) mμ46 h) (⟨rfl, ⟨rfl, ⟨rfl, ⟨rfl, ⟨rfl, ⟨rfl, ⟨rfl, ⟨rfl, trivial⟩⟩⟩⟩⟩⟩⟩⟩)
set_option maxRecDepth 20000 in
theorem c_X8_join (l : Launch) (E : Gx) {p0 : Int} {p1 : Int} {p2 : Int} {μ : Mem} {Q : Int → Mem → Prop} (hp0 : inR p0) (hp1 : inR p1) (hp2 : inR p2) (hμ : okM μ) (h : wp_X8_join p0 p1 p2 μ Q) : MT l yX8_join cX8_join 9 (some .int) E 5 0 0 z0 [rv E 115, iv p0, iv p1, iv p2] μ (QI E z0 Q) := by
  refine m_start [some (rv E 115), some (iv p0), some (iv p1), some (iv p2), none, none, none, none, none] (by decide) rfl rfl rfl (fun x hxl hxc hxs B hr hnm => ?_)
  unfold wp_X8_join at h
  refine r_al0 dX8_join_0 ?_
  refine r_iconst dX8_join_1 ?_
  refine r_putI B fg_X8_42 fp_8_0 kd_115 (kl kd_115) dX8_join_2 ?_
  refine n_mem (fun μ1 eμ1 => ?_)
  have h := h μ1 eμ1
  have mμ1 : okM μ1 := eqM eμ1 (okM_sI hμ (inR_k rfl))
  refine r_il1 dX8_join_5 ?_
  refine r_cSI1 B cb_X8_isTo lk_X8_279 cs_X8_isTo (c_X8_isTo (xl x) E hp0 mμ1 h) rfl rfl dX8_join_6 (fun r3 μ2 hr3 mμ2 h => ?_)
  refine r_if_eq 28 dX8_join_9 rfl hr3 (fun c4 => ?_) (fun c4 => ?_)
  · have h := h.1 c4
    refine r_al0 dX8_join_28 ?_
    refine r_iconst dX8_join_29 ?_
    refine r_cVI1 B cb_X8_refused lk_X8_173 cv_X8_refused kd_115 (c_X8_refused (xl x) E (inR_k rfl) mμ2 h) rfl rfl dX8_join_30 (fun r6 μ5 hr6 mμ5 h => ?_)
    exact r_iret B hr hr6 mμ5 dX8_join_33 h
  · have h := h.2 c4
    refine r_al0 dX8_join_12 ?_
    refine r_il2 dX8_join_13 ?_
    refine r_cVI1 B cb_X8_isCode lk_X8_192 cv_X8_isCode kd_115 (c_X8_isCode (xl x) E hp1 mμ2 h) rfl rfl dX8_join_14 (fun r8 μ7 hr8 mμ7 h => ?_)
    refine r_if_eq 28 dX8_join_17 rfl hr8 (fun c9 => ?_) (fun c9 => ?_)
    · have h := h.1 c9
      refine r_al0 dX8_join_28 ?_
      refine r_iconst dX8_join_29 ?_
      refine r_cVI1 B cb_X8_refused lk_X8_173 cv_X8_refused kd_115 (c_X8_refused (xl x) E (inR_k rfl) mμ7 h) rfl rfl dX8_join_30 (fun r11 μ10 hr11 mμ10 h => ?_)
      exact r_iret B hr hr11 mμ10 dX8_join_33 h
    · have h := h.2 c9
      refine r_al0 dX8_join_20 ?_
      refine r_il3 dX8_join_21 ?_
      refine r_cVI1 B cb_X8_isCode lk_X8_192 cv_X8_isCode kd_115 (c_X8_isCode (xl x) E hp2 mμ7 h) rfl rfl dX8_join_22 (fun r13 μ12 hr13 mμ12 h => ?_)
      refine r_if_ne 34 dX8_join_25 rfl hr13 (fun c14 => ?_) (fun c14 => ?_)
      · have h := h.1 c14
        refine r_al0 dX8_join_34 ?_
        refine r_il2 dX8_join_35 ?_
        refine r_cVI1 B cb_X8_places lk_X8_105 cv_X8_places kd_115 (c_X8_places (xl x) E hp1 mμ12 h) rfl rfl dX8_join_36 (fun r16 μ15 hr16 mμ15 h => ?_)
        refine r_iconst dX8_join_39 ?_
        refine r_isub dX8_join_40 ?_
        obtain ⟨o18, h⟩ := h
        refine n_topi (fun x17 ex17 => ?_)
        have h := h x17 ex17
        refine r_is4 dX8_join_41 rfl ?_
        refine r_al0 dX8_join_43 ?_
        refine r_il2 dX8_join_44 ?_
        refine r_il4 dX8_join_45 ?_
        refine r_cVI2 B cb_X8_sizeOf lk_X8_109 cv_X8_sizeOf kd_115 (c_X8_sizeOf (xl x) E hp1 (eqR ex17 o18) mμ15 h) rfl rfl dX8_join_47 (fun r20 μ19 hr20 mμ19 h => ?_)
        refine r_al0 dX8_join_50 ?_
        refine r_il3 dX8_join_51 ?_
        refine r_iconst dX8_join_52 ?_
        refine r_cVI2 B cb_X8_sizeOf lk_X8_109 cv_X8_sizeOf kd_115 (c_X8_sizeOf (xl x) E hp2 (inR_k rfl) mμ19 h) rfl rfl dX8_join_53 (fun r22 μ21 hr22 mμ21 h => ?_)
        refine r_icmp_ne 75 dX8_join_56 rfl hr20 hr22 (fun c23 => ?_) (fun c23 => ?_)
        · have h := h.1 c23
          refine r_al0 dX8_join_75 ?_
          refine r_iconst dX8_join_76 ?_
          refine r_cVI1 B cb_X8_refused lk_X8_173 cv_X8_refused kd_115 (c_X8_refused (xl x) E (inR_k rfl) mμ21 h) rfl rfl dX8_join_77 (fun r25 μ24 hr25 mμ24 h => ?_)
          exact r_iret B hr hr25 mμ24 dX8_join_80 h
        · have h := h.2 c23
          refine r_al0 dX8_join_59 ?_
          refine r_il2 dX8_join_60 ?_
          refine r_il4 dX8_join_61 ?_
          refine r_cVI2 B cb_X8_weightOf lk_X8_120 cv_X8_weightOf kd_115 (c_X8_weightOf (xl x) E hp1 (eqR ex17 o18) mμ21 h) rfl rfl dX8_join_63 (fun r27 μ26 hr27 mμ26 h => ?_)
          refine r_al0 dX8_join_66 ?_
          refine r_il3 dX8_join_67 ?_
          refine r_iconst dX8_join_68 ?_
          refine r_cVI2 B cb_X8_weightOf lk_X8_120 cv_X8_weightOf kd_115 (c_X8_weightOf (xl x) E hp2 (inR_k rfl) mμ26 h) rfl rfl dX8_join_69 (fun r29 μ28 hr29 mμ28 h => ?_)
          refine r_icmp_eq 81 dX8_join_72 rfl hr27 hr29 (fun c30 => ?_) (fun c30 => ?_)
          · have h := h.1 c30
            refine r_al0 dX8_join_81 ?_
            refine r_bipush dX8_join_82 (by decide) ?_
            refine r_cVV1 B cb_X8_clears lk_X8_158 cv_X8_clears kd_115 (c_X8_clears (xl x) E (inR_k rfl) mμ28 h) rfl rfl dX8_join_84 (fun μ31 mμ31 h => ?_)
            refine r_al0 dX8_join_87 ?_
            refine r_il2 dX8_join_88 ?_
            refine r_iconst dX8_join_89 ?_
            refine r_cVI2 B cb_X8_laysPlaces lk_X8_282 cv_X8_laysPlaces kd_115 (c_X8_laysPlaces (xl x) E hp1 (inR_k rfl) mμ31 h) rfl rfl dX8_join_90 (fun r33 μ32 hr33 mμ32 h => ?_)
            refine r_if_eq 105 dX8_join_93 rfl hr33 (fun c34 => ?_) (fun c34 => ?_)
            · have h := h.1 c34
              refine r_al0 dX8_join_105 ?_
              refine r_iconst dX8_join_106 ?_
              refine r_cVI1 B cb_X8_refused lk_X8_173 cv_X8_refused kd_115 (c_X8_refused (xl x) E (inR_k rfl) mμ32 h) rfl rfl dX8_join_107 (fun r36 μ35 hr36 mμ35 h => ?_)
              exact r_iret B hr hr36 mμ35 dX8_join_110 h
            · have h := h.2 c34
              refine r_al0 dX8_join_96 ?_
              refine r_il3 dX8_join_97 ?_
              refine r_iconst dX8_join_98 ?_
              refine r_cVI2 B cb_X8_laysPlaces lk_X8_282 cv_X8_laysPlaces kd_115 (c_X8_laysPlaces (xl x) E hp2 (inR_k rfl) mμ32 h) rfl rfl dX8_join_99 (fun r38 μ37 hr38 mμ37 h => ?_)
              refine r_if_ne 111 dX8_join_102 rfl hr38 (fun c39 => ?_) (fun c39 => ?_)
              · have h := h.1 c39
                refine r_al0 dX8_join_111 ?_
                refine r_il2 dX8_join_112 ?_
                refine r_il4 dX8_join_113 ?_
                refine r_cVI2 B cb_X8_sizeOf lk_X8_109 cv_X8_sizeOf kd_115 (c_X8_sizeOf (xl x) E hp1 (eqR ex17 o18) mμ37 h) rfl rfl dX8_join_115 (fun r41 μ40 hr41 mμ40 h => ?_)
                refine r_is5 dX8_join_118 rfl ?_
                refine r_al0 dX8_join_120 ?_
                refine r_il3 dX8_join_121 ?_
                refine r_cVI1 B cb_X8_words lk_X8_113 cv_X8_words kd_115 (c_X8_words (xl x) E hp2 mμ40 h) rfl rfl dX8_join_122 (fun r43 μ42 hr43 mμ42 h => ?_)
                refine r_il5 dX8_join_125 ?_
                obtain ⟨o44, h⟩ := h
                refine r_idiv dX8_join_127 o44 hr43 hr41 ?_
                refine n_topi (fun x45 ex45 => ?_)
                have h := h x45 ex45
                refine r_is6 dX8_join_128 rfl ?_
                refine r_iconst dX8_join_130 ?_
                refine r_is7 dX8_join_131 rfl ?_
                exact J_weak (t_X8_join_133 B hr hp0 hp1 hp2 hr41 (eqR ex45 (inR_idiv o44 hr43 hr41)) (inR_k rfl) mμ42 h) (⟨rfl, ⟨rfl, ⟨rfl, ⟨rfl, ⟨rfl, ⟨rfl, ⟨rfl, trivial⟩⟩⟩⟩⟩⟩⟩)
              · have h := h.2 c39
                refine r_al0 dX8_join_105 ?_
                refine r_iconst dX8_join_106 ?_
                refine r_cVI1 B cb_X8_refused lk_X8_173 cv_X8_refused kd_115 (c_X8_refused (xl x) E (inR_k rfl) mμ37 h) rfl rfl dX8_join_107 (fun r69 μ68 hr69 mμ68 h => ?_)
                exact r_iret B hr hr69 mμ68 dX8_join_110 h
          · have h := h.2 c30
            refine r_al0 dX8_join_75 ?_
            refine r_iconst dX8_join_76 ?_
            refine r_cVI1 B cb_X8_refused lk_X8_173 cv_X8_refused kd_115 (c_X8_refused (xl x) E (inR_k rfl) mμ28 h) rfl rfl dX8_join_77 (fun r71 μ70 hr71 mμ70 h => ?_)
            exact r_iret B hr hr71 mμ70 dX8_join_80 h
      · have h := h.2 c14
        refine r_al0 dX8_join_28 ?_
        refine r_iconst dX8_join_29 ?_
        refine r_cVI1 B cb_X8_refused lk_X8_173 cv_X8_refused kd_115 (c_X8_refused (xl x) E (inR_k rfl) mμ12 h) rfl rfl dX8_join_30 (fun r73 μ72 hr73 mμ72 h => ?_)
        exact r_iret B hr hr73 mμ72 dX8_join_33 h

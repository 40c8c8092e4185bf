set_option maxRecDepth 20000 in
theorem c_X7_act (l : Launch) (E : Gx) {p0 : Int} {p1 : Int} {μ : Mem} {Q : Int → Mem → Prop} (hp0 : inR p0) (hp1 : inR p1) (hμ : okM μ) (h : wp_X7_act p0 p1 μ Q) : MT l yX7_act cX7_act 3 (some .int) E 6 0 0 z0 [rv E 0, iv p0, iv p1] μ (QI E z0 Q) := by
  refine m_start [some (rv E 0), some (iv p0), some (iv p1)] (by decide) rfl rfl rfl (fun x hxl hxc hxs B hr hnm => ?_)
  unfold wp_X7_act at h
  refine r_al0 dX7_act_0 ?_
  refine r_getR B 27 fg_X7_30 kd_0 (kl kd_0) (ρo (off := 27) kd_0 rfl) dX7_act_1 ?_
  refine r_il1 dX7_act_4 ?_
  refine r_al0 dX7_act_5 ?_
  refine r_getR B 22 fg_X7_18 kd_0 (kl kd_0) (ρo (off := 22) kd_0 rfl) dX7_act_6 ?_
  refine r_il1 dX7_act_9 ?_
  obtain ⟨o1, h⟩ := h
  refine r_aald B _ kd_22 (kl kd_22) (by decide) o1 (ρa (b := 83) kd_22 rfl) dX7_act_10 ?_
  refine r_cVV2 B cb_X4_keep lk_X7_317 cv_X4_keep kd_27 (c_X4_keep (xl x) E hp0 (isC_codesI o1) hμ h) rfl rfl dX7_act_11 (fun μ2 mμ2 h => ?_)
  refine r_al0 dX7_act_14 ?_
  refine r_getR B 22 fg_X7_18 kd_0 (kl kd_0) (ρo (off := 22) kd_0 rfl) dX7_act_15 ?_
  refine r_il1 dX7_act_18 ?_
  refine r_aald B _ kd_22 (kl kd_22) (by decide) o1 (ρa (b := 83) kd_22 rfl) dX7_act_19 ?_
  refine r_al0 dX7_act_20 ?_
  refine r_getR B 23 fg_X7_23 kd_0 (kl kd_0) (ρo (off := 23) kd_0 rfl) dX7_act_21 ?_
  refine r_cVV1 B cb_X1_copy lk_X7_218 cv_X1_copy ((isC_codesI o1)).1 (c_X1_copy (xl x) E (isC_codesI o1) isC_fresh mμ2 h) rfl rfl dX7_act_24 (fun μ3 mμ3 h => ?_)
  refine r_al0 dX7_act_27 ?_
  refine r_il2 dX7_act_28 ?_
  refine r_cVI1 B cb_X7_accept lk_X7_100 cv_X7_accept kd_0 (c_X7_accept (xl x) E hp1 mμ3 h) rfl rfl dX7_act_29 (fun r5 μ4 hr5 mμ4 h => ?_)
  exact r_iret B hr hr5 mμ4 dX7_act_32 h
set_option maxRecDepth 20000 in
theorem c_X7_set (l : Launch) (E : Gx) {p0 : Int} {p1 : Int} {p2 : Int} {μ : Mem} {Q : Int → Mem → Prop} (hp0 : inR p0) (hp1 : inR p1) (hp2 : inR p2) (hμ : okM μ) (h : wp_X7_set p0 p1 p2 μ Q) : MT l yX7_set cX7_set 4 (some .int) E 7 0 0 z0 [rv E 0, iv p0, iv p1, iv p2] μ (QI E z0 Q) := by
  refine m_start [some (rv E 0), some (iv p0), some (iv p1), some (iv p2)] (by decide) rfl rfl rfl (fun x hxl hxc hxs B hr hnm => ?_)
  unfold wp_X7_set at h
  refine r_al0 dX7_set_0 ?_
  refine r_il1 dX7_set_1 ?_
  refine r_il2 dX7_set_2 ?_
  refine r_cVI2 B cb_X7_isWord lk_X7_124 cv_X7_isWord kd_0 (c_X7_isWord (xl x) E hp0 hp1 hμ h) rfl rfl dX7_set_3 (fun r2 μ1 hr2 mμ1 h => ?_)
  refine r_if_ne 15 dX7_set_6 rfl hr2 (fun c3 => ?_) (fun c3 => ?_)
  · have h := h.1 c3
    refine r_al0 dX7_set_15 ?_
    refine r_getR B 22 fg_X7_18 kd_0 (kl kd_0) (ρo (off := 22) kd_0 rfl) dX7_set_16 ?_
    refine r_il1 dX7_set_19 ?_
    obtain ⟨o4, h⟩ := h
    refine r_aald B _ kd_22 (kl kd_22) (by decide) o4 (ρa (b := 83) kd_22 rfl) dX7_set_20 ?_
    refine r_il2 dX7_set_21 ?_
    refine r_cVI1 B cb_X1_holds lk_X7_127 cv_X1_holds ((isC_codesI o4)).1 (c_X1_holds (xl x) E (isC_codesI o4) hp1 mμ1 h) rfl rfl dX7_set_22 (fun r6 μ5 hr6 mμ5 h => ?_)
    refine r_il3 dX7_set_25 ?_
    refine r_icmp_ne 35 dX7_set_26 rfl hr6 hp2 (fun c7 => ?_) (fun c7 => ?_)
    · have h := h.1 c7
      refine r_al0 dX7_set_35 ?_
      refine r_getR B 23 fg_X7_23 kd_0 (kl kd_0) (ρo (off := 23) kd_0 rfl) dX7_set_36 ?_
      refine r_al0 dX7_set_39 ?_
      refine r_getR B 22 fg_X7_18 kd_0 (kl kd_0) (ρo (off := 22) kd_0 rfl) dX7_set_40 ?_
      refine r_il1 dX7_set_43 ?_
      refine r_aald B _ kd_22 (kl kd_22) (by decide) o4 (ρa (b := 83) kd_22 rfl) dX7_set_44 ?_
      refine r_cVV1 B cb_X1_copy lk_X7_218 cv_X1_copy kd_23 (c_X1_copy (xl x) E isC_fresh (isC_codesI o4) mμ5 h) rfl rfl dX7_set_45 (fun μ8 mμ8 h => ?_)
      refine r_il3 dX7_set_48 ?_
      refine r_if_eq 63 dX7_set_49 rfl hp2 (fun c9 => ?_) (fun c9 => ?_)
      · have h := h.1 c9
        refine r_al0 dX7_set_63 ?_
        refine r_getR B 23 fg_X7_23 kd_0 (kl kd_0) (ρo (off := 23) kd_0 rfl) dX7_set_64 ?_
        refine r_il2 dX7_set_67 ?_
        refine r_cVV1 B cb_X1_drop lk_X7_224 cv_X1_drop kd_23 (c_X1_drop (xl x) E isC_fresh hp1 mμ8 h) rfl rfl dX7_set_68 (fun μ10 mμ10 h => ?_)
        refine r_al0 dX7_set_71 ?_
        refine r_il1 dX7_set_72 ?_
        refine r_al0 dX7_set_73 ?_
        refine r_getR B 23 fg_X7_23 kd_0 (kl kd_0) (ρo (off := 23) kd_0 rfl) dX7_set_74 ?_
        refine r_getIN B fg_X7_185 kd_23 (kl kd_23) dX7_set_77 ?_
        refine r_cVI2 B cb_X7_act lk_X7_227 cv_X7_act kd_0 (c_X7_act (xl x) E hp0 (mμ10 23 3) mμ10 h) rfl rfl dX7_set_80 (fun r12 μ11 hr12 mμ11 h => ?_)
        exact r_iret B hr hr12 mμ11 dX7_set_83 h
      · have h := h.2 c9
        refine r_al0 dX7_set_52 ?_
        refine r_getR B 23 fg_X7_23 kd_0 (kl kd_0) (ρo (off := 23) kd_0 rfl) dX7_set_53 ?_
        refine r_il2 dX7_set_56 ?_
        refine r_cVV1 B cb_X1_put lk_X7_221 cv_X1_put kd_23 (c_X1_put (xl x) E isC_fresh hp1 mμ8 h) rfl rfl dX7_set_57 (fun μ13 mμ13 h => ?_)
        refine r_goto 71 dX7_set_60 rfl ?_
        refine r_al0 dX7_set_71 ?_
        refine r_il1 dX7_set_72 ?_
        refine r_al0 dX7_set_73 ?_
        refine r_getR B 23 fg_X7_23 kd_0 (kl kd_0) (ρo (off := 23) kd_0 rfl) dX7_set_74 ?_
        refine r_getIN B fg_X7_185 kd_23 (kl kd_23) dX7_set_77 ?_
        refine r_cVI2 B cb_X7_act lk_X7_227 cv_X7_act kd_0 (c_X7_act (xl x) E hp0 (mμ13 23 3) mμ13 h) rfl rfl dX7_set_80 (fun r15 μ14 hr15 mμ14 h => ?_)
        exact r_iret B hr hr15 mμ14 dX7_set_83 h
    · have h := h.2 c7
      refine r_al0 dX7_set_29 ?_
      refine r_iconst dX7_set_30 ?_
      refine r_cVI1 B cb_X7_refuse lk_X7_70 cv_X7_refuse kd_0 (c_X7_refuse (xl x) E (inR_k rfl) mμ5 h) rfl rfl dX7_set_31 (fun r17 μ16 hr17 mμ16 h => ?_)
      exact r_iret B hr hr17 mμ16 dX7_set_34 h
  · have h := h.2 c3
    refine r_al0 dX7_set_9 ?_
    refine r_iconst dX7_set_10 ?_
    refine r_cVI1 B cb_X7_refuse lk_X7_70 cv_X7_refuse kd_0 (c_X7_refuse (xl x) E (inR_k rfl) mμ1 h) rfl rfl dX7_set_11 (fun r19 μ18 hr19 mμ18 h => ?_)
    exact r_iret B hr hr19 mμ18 dX7_set_14 h
set_option maxRecDepth 20000 in
theorem c_X7_greedy (l : Launch) (E : Gx) {p0 : Int} {p1 : Int} {μ : Mem} {Q : Int → Mem → Prop} (hp0 : inR p0) (hp1 : inR p1) (hμ : okM μ) (h : wp_X7_greedy p0 p1 μ Q) : MT l yX7_greedy cX7_greedy 4 (some .int) E 7 0 0 z0 [rv E 0, iv p0, iv p1] μ (QI E z0 Q) := by
  refine m_start [some (rv E 0), some (iv p0), some (iv p1), none] (by decide) rfl rfl rfl (fun x hxl hxc hxs B hr hnm => ?_)
  unfold wp_X7_greedy at h
  refine r_al0 dX7_greedy_0 ?_
  refine r_il1 dX7_greedy_1 ?_
  refine r_cVI1 B cb_X7_isCode lk_X7_103 cv_X7_isCode kd_0 (c_X7_isCode (xl x) E hp0 hμ h) rfl rfl dX7_greedy_2 (fun r2 μ1 hr2 mμ1 h => ?_)
  refine r_il2 dX7_greedy_5 ?_
  refine r_cSI1 B cb_X7_isSlips lk_X7_141 cs_X7_isSlips (c_X7_isSlips (xl x) E hp1 mμ1 h) rfl rfl dX7_greedy_6 (fun r4 μ3 hr4 mμ3 h => ?_)
  refine r_cSI2 B cb_X7_flawOf lk_X7_144 cs_X7_flawOf (c_X7_flawOf (xl x) E hr2 hr4 mμ3 h) rfl rfl dX7_greedy_9 (fun r6 μ5 hr6 mμ5 h => ?_)
  refine r_is3 dX7_greedy_12 rfl ?_
  refine r_il3 dX7_greedy_13 ?_
  refine r_if_eq 23 dX7_greedy_14 rfl hr6 (fun c7 => ?_) (fun c7 => ?_)
  · have h := h.1 c7
    refine r_al0 dX7_greedy_23 ?_
    refine r_getR B 23 fg_X7_23 kd_0 (kl kd_0) (ρo (off := 23) kd_0 rfl) dX7_greedy_24 ?_
    refine r_al0 dX7_greedy_27 ?_
    refine r_getR B 22 fg_X7_18 kd_0 (kl kd_0) (ρo (off := 22) kd_0 rfl) dX7_greedy_28 ?_
    refine r_il1 dX7_greedy_31 ?_
    obtain ⟨o8, h⟩ := h
    refine r_aald B _ kd_22 (kl kd_22) (by decide) o8 (ρa (b := 83) kd_22 rfl) dX7_greedy_32 ?_
    refine r_cVV1 B cb_X1_copy lk_X7_218 cv_X1_copy kd_23 (c_X1_copy (xl x) E isC_fresh (isC_codesI o8) mμ5 h) rfl rfl dX7_greedy_33 (fun μ9 mμ9 h => ?_)
    refine r_al0 dX7_greedy_36 ?_
    refine r_al0 dX7_greedy_37 ?_
    refine r_getR B 23 fg_X7_23 kd_0 (kl kd_0) (ρo (off := 23) kd_0 rfl) dX7_greedy_38 ?_
    refine r_il2 dX7_greedy_41 ?_
    refine r_cVV2 B cb_X7_layTimes lk_X7_155 cv_X7_layTimes kd_0 (c_X7_layTimes (xl x) E isC_fresh hp1 mμ9 h) rfl rfl dX7_greedy_42 (fun μ10 mμ10 h => ?_)
    refine r_al0 dX7_greedy_45 ?_
    refine r_il1 dX7_greedy_46 ?_
    refine r_al0 dX7_greedy_47 ?_
    refine r_getR B 70 fg_X7_37 kd_0 (kl kd_0) (ρo (off := 70) kd_0 rfl) dX7_greedy_48 ?_
    refine r_al0 dX7_greedy_51 ?_
    refine r_getR B 23 fg_X7_23 kd_0 (kl kd_0) (ρo (off := 23) kd_0 rfl) dX7_greedy_52 ?_
    refine r_il2 dX7_greedy_55 ?_
    refine r_cVI2 B cb_X3_fill lk_X7_230 cv_X3_fill kd_70 (c_X3_fill (xl x) E isC_fresh hp1 mμ10 h) rfl rfl dX7_greedy_56 (fun r12 μ11 hr12 mμ11 h => ?_)
    refine r_cVI2 B cb_X7_act lk_X7_227 cv_X7_act kd_0 (c_X7_act (xl x) E hp0 hr12 mμ11 h) rfl rfl dX7_greedy_59 (fun r14 μ13 hr14 mμ13 h => ?_)
    exact r_iret B hr hr14 mμ13 dX7_greedy_62 h
  · have h := h.2 c7
    refine r_al0 dX7_greedy_17 ?_
    refine r_il3 dX7_greedy_18 ?_
    refine r_cVI1 B cb_X7_refuse lk_X7_70 cv_X7_refuse kd_0 (c_X7_refuse (xl x) E hr6 mμ5 h) rfl rfl dX7_greedy_19 (fun r16 μ15 hr16 mμ15 h => ?_)
    exact r_iret B hr hr16 mμ15 dX7_greedy_22 h
set_option maxRecDepth 20000 in
theorem c_X7_thin (l : Launch) (E : Gx) {p0 : Int} {p1 : Int} {μ : Mem} {Q : Int → Mem → Prop} (hp0 : inR p0) (hp1 : inR p1) (hμ : okM μ) (h : wp_X7_thin p0 p1 μ Q) : MT l yX7_thin cX7_thin 4 (some .int) E 7 0 0 z0 [rv E 0, iv p0, iv p1] μ (QI E z0 Q) := by
  refine m_start [some (rv E 0), some (iv p0), some (iv p1), none] (by decide) rfl rfl rfl (fun x hxl hxc hxs B hr hnm => ?_)
  unfold wp_X7_thin at h
  refine r_al0 dX7_thin_0 ?_
  refine r_il1 dX7_thin_1 ?_
  refine r_cVI1 B cb_X7_isCode lk_X7_103 cv_X7_isCode kd_0 (c_X7_isCode (xl x) E hp0 hμ h) rfl rfl dX7_thin_2 (fun r2 μ1 hr2 mμ1 h => ?_)
  refine r_il2 dX7_thin_5 ?_
  refine r_cSI1 B cb_X7_isSlips lk_X7_141 cs_X7_isSlips (c_X7_isSlips (xl x) E hp1 mμ1 h) rfl rfl dX7_thin_6 (fun r4 μ3 hr4 mμ3 h => ?_)
  refine r_cSI2 B cb_X7_flawOf lk_X7_144 cs_X7_flawOf (c_X7_flawOf (xl x) E hr2 hr4 mμ3 h) rfl rfl dX7_thin_9 (fun r6 μ5 hr6 mμ5 h => ?_)
  refine r_is3 dX7_thin_12 rfl ?_
  refine r_il3 dX7_thin_13 ?_
  refine r_if_eq 23 dX7_thin_14 rfl hr6 (fun c7 => ?_) (fun c7 => ?_)
  · have h := h.1 c7
    refine r_al0 dX7_thin_23 ?_
    refine r_getR B 23 fg_X7_23 kd_0 (kl kd_0) (ρo (off := 23) kd_0 rfl) dX7_thin_24 ?_
    refine r_al0 dX7_thin_27 ?_
    refine r_getR B 22 fg_X7_18 kd_0 (kl kd_0) (ρo (off := 22) kd_0 rfl) dX7_thin_28 ?_
    refine r_il1 dX7_thin_31 ?_
    obtain ⟨o8, h⟩ := h
    refine r_aald B _ kd_22 (kl kd_22) (by decide) o8 (ρa (b := 83) kd_22 rfl) dX7_thin_32 ?_
    refine r_cVV1 B cb_X1_copy lk_X7_218 cv_X1_copy kd_23 (c_X1_copy (xl x) E isC_fresh (isC_codesI o8) mμ5 h) rfl rfl dX7_thin_33 (fun μ9 mμ9 h => ?_)
    refine r_al0 dX7_thin_36 ?_
    refine r_al0 dX7_thin_37 ?_
    refine r_getR B 23 fg_X7_23 kd_0 (kl kd_0) (ρo (off := 23) kd_0 rfl) dX7_thin_38 ?_
    refine r_il2 dX7_thin_41 ?_
    refine r_cVV2 B cb_X7_layTimes lk_X7_155 cv_X7_layTimes kd_0 (c_X7_layTimes (xl x) E isC_fresh hp1 mμ9 h) rfl rfl dX7_thin_42 (fun μ10 mμ10 h => ?_)
    refine r_al0 dX7_thin_45 ?_
    refine r_il1 dX7_thin_46 ?_
    refine r_al0 dX7_thin_47 ?_
    refine r_getR B 70 fg_X7_37 kd_0 (kl kd_0) (ρo (off := 70) kd_0 rfl) dX7_thin_48 ?_
    refine r_al0 dX7_thin_51 ?_
    refine r_getR B 23 fg_X7_23 kd_0 (kl kd_0) (ρo (off := 23) kd_0 rfl) dX7_thin_52 ?_
    refine r_il2 dX7_thin_55 ?_
    refine r_cVI2 B cb_X3_weed lk_X7_233 cv_X3_weed kd_70 (c_X3_weed (xl x) E isC_fresh hp1 mμ10 h) rfl rfl dX7_thin_56 (fun r12 μ11 hr12 mμ11 h => ?_)
    refine r_cVI2 B cb_X7_act lk_X7_227 cv_X7_act kd_0 (c_X7_act (xl x) E hp0 hr12 mμ11 h) rfl rfl dX7_thin_59 (fun r14 μ13 hr14 mμ13 h => ?_)
    exact r_iret B hr hr14 mμ13 dX7_thin_62 h
  · have h := h.2 c7
    refine r_al0 dX7_thin_17 ?_
    refine r_il3 dX7_thin_18 ?_
    refine r_cVI1 B cb_X7_refuse lk_X7_70 cv_X7_refuse kd_0 (c_X7_refuse (xl x) E hr6 mμ5 h) rfl rfl dX7_thin_19 (fun r16 μ15 hr16 mμ15 h => ?_)
    exact r_iret B hr hr16 mμ15 dX7_thin_22 h
set_option maxRecDepth 20000 in
theorem c_X7_better (l : Launch) (E : Gx) {p0 : Int} {p1 : Int} {μ : Mem} {Q : Int → Mem → Prop} (hp0 : inR p0) (hp1 : inR p1) (hμ : okM μ) (h : wp_X7_better p0 p1 μ Q) : MT l yX7_better cX7_better 4 (some .int) E 7 0 0 z0 [rv E 0, iv p0, iv p1] μ (QI E z0 Q) := by
  refine m_start [some (rv E 0), some (iv p0), some (iv p1), none] (by decide) rfl rfl rfl (fun x hxl hxc hxs B hr hnm => ?_)
  unfold wp_X7_better at h
  refine r_al0 dX7_better_0 ?_
  refine r_il1 dX7_better_1 ?_
  refine r_cVI1 B cb_X7_isCode lk_X7_103 cv_X7_isCode kd_0 (c_X7_isCode (xl x) E hp0 hμ h) rfl rfl dX7_better_2 (fun r2 μ1 hr2 mμ1 h => ?_)
  refine r_il2 dX7_better_5 ?_
  refine r_cSI1 B cb_X7_isSlips lk_X7_141 cs_X7_isSlips (c_X7_isSlips (xl x) E hp1 mμ1 h) rfl rfl dX7_better_6 (fun r4 μ3 hr4 mμ3 h => ?_)
  refine r_cSI2 B cb_X7_flawOf lk_X7_144 cs_X7_flawOf (c_X7_flawOf (xl x) E hr2 hr4 mμ3 h) rfl rfl dX7_better_9 (fun r6 μ5 hr6 mμ5 h => ?_)
  refine r_is3 dX7_better_12 rfl ?_
  refine r_il3 dX7_better_13 ?_
  refine r_if_eq 23 dX7_better_14 rfl hr6 (fun c7 => ?_) (fun c7 => ?_)
  · have h := h.1 c7
    refine r_al0 dX7_better_23 ?_
    refine r_getR B 22 fg_X7_18 kd_0 (kl kd_0) (ρo (off := 22) kd_0 rfl) dX7_better_24 ?_
    refine r_il1 dX7_better_27 ?_
    obtain ⟨o8, h⟩ := h
    refine r_aald B _ kd_22 (kl kd_22) (by decide) o8 (ρa (b := 83) kd_22 rfl) dX7_better_28 ?_
    refine r_getIN B fg_X7_211 ((isC_codesI o8)).1 (kl ((isC_codesI o8)).1) dX7_better_29 ?_
    refine r_bipush dX7_better_32 (by decide) ?_
    refine r_icmp_le 43 dX7_better_34 rfl (mμ5 (83 + 4 * p0.toNat) 2) (inR_k rfl) (fun c9 => ?_) (fun c9 => ?_)
    · have h := h.1 c9
      refine r_al0 dX7_better_43 ?_
      refine r_getR B 23 fg_X7_23 kd_0 (kl kd_0) (ρo (off := 23) kd_0 rfl) dX7_better_44 ?_
      refine r_al0 dX7_better_47 ?_
      refine r_getR B 22 fg_X7_18 kd_0 (kl kd_0) (ρo (off := 22) kd_0 rfl) dX7_better_48 ?_
      refine r_il1 dX7_better_51 ?_
      refine r_aald B _ kd_22 (kl kd_22) (by decide) o8 (ρa (b := 83) kd_22 rfl) dX7_better_52 ?_
      refine r_cVV1 B cb_X1_copy lk_X7_218 cv_X1_copy kd_23 (c_X1_copy (xl x) E isC_fresh (isC_codesI o8) mμ5 h) rfl rfl dX7_better_53 (fun μ10 mμ10 h => ?_)
      refine r_al0 dX7_better_56 ?_
      refine r_getR B 70 fg_X7_37 kd_0 (kl kd_0) (ρo (off := 70) kd_0 rfl) dX7_better_57 ?_
      refine r_al0 dX7_better_60 ?_
      refine r_getR B 23 fg_X7_23 kd_0 (kl kd_0) (ρo (off := 23) kd_0 rfl) dX7_better_61 ?_
      refine r_cVV1 B cb_X3_lay lk_X7_130 cv_X3_lay kd_70 (c_X3_lay (xl x) E isC_fresh mμ10 h) rfl rfl dX7_better_64 (fun μ11 mμ11 h => ?_)
      refine r_al0 dX7_better_67 ?_
      refine r_il1 dX7_better_68 ?_
      refine r_al0 dX7_better_69 ?_
      refine r_getR B 79 fg_X7_51 kd_0 (kl kd_0) (ρo (off := 79) kd_0 rfl) dX7_better_70 ?_
      refine r_al0 dX7_better_73 ?_
      refine r_getR B 23 fg_X7_23 kd_0 (kl kd_0) (ρo (off := 23) kd_0 rfl) dX7_better_74 ?_
      refine r_al0 dX7_better_77 ?_
      refine r_getR B 70 fg_X7_37 kd_0 (kl kd_0) (ρo (off := 70) kd_0 rfl) dX7_better_78 ?_
      refine r_il2 dX7_better_81 ?_
      refine r_cVI3 B cb_X2_run lk_X7_236 cv_X2_run kd_79 (c_X2_run (xl x) E isC_fresh hp1 mμ11 h) rfl rfl dX7_better_82 (fun r13 μ12 hr13 mμ12 h => ?_)
      refine r_cVI2 B cb_X7_act lk_X7_227 cv_X7_act kd_0 (c_X7_act (xl x) E hp0 hr13 mμ12 h) rfl rfl dX7_better_85 (fun r15 μ14 hr15 mμ14 h => ?_)
      exact r_iret B hr hr15 mμ14 dX7_better_88 h
    · have h := h.2 c9
      refine r_al0 dX7_better_37 ?_
      refine r_iconst dX7_better_38 ?_
      refine r_cVI1 B cb_X7_refuse lk_X7_70 cv_X7_refuse kd_0 (c_X7_refuse (xl x) E (inR_k rfl) mμ5 h) rfl rfl dX7_better_39 (fun r17 μ16 hr17 mμ16 h => ?_)
      exact r_iret B hr hr17 mμ16 dX7_better_42 h
  · have h := h.2 c7
    refine r_al0 dX7_better_17 ?_
    refine r_il3 dX7_better_18 ?_
    refine r_cVI1 B cb_X7_refuse lk_X7_70 cv_X7_refuse kd_0 (c_X7_refuse (xl x) E hr6 mμ5 h) rfl rfl dX7_better_19 (fun r19 μ18 hr19 mμ18 h => ?_)
    exact r_iret B hr hr19 mμ18 dX7_better_22 h
set_option maxRecDepth 20000 in
theorem c_X7_sum (l : Launch) (E : Gx) {p0 : Int} {p1 : Int} {p2 : Int} {μ : Mem} {Q : Int → Mem → Prop} (hp0 : inR p0) (hp1 : inR p1) (hp2 : inR p2) (hμ : okM μ) (h : wp_X7_sum p0 p1 p2 μ Q) : MT l yX7_sum cX7_sum 4 (some .int) E 7 0 0 z0 [rv E 0, iv p0, iv p1, iv p2] μ (QI E z0 Q) := by
  refine m_start [some (rv E 0), some (iv p0), some (iv p1), some (iv p2)] (by decide) rfl rfl rfl (fun x hxl hxc hxs B hr hnm => ?_)
  unfold wp_X7_sum at h
  refine r_il1 dX7_sum_0 ?_
  refine r_cSI1 B cb_X7_isSlot lk_X7_239 cs_X7_isSlot (c_X7_isSlot (xl x) E hp0 hμ h) rfl rfl dX7_sum_1 (fun r2 μ1 hr2 mμ1 h => ?_)
  refine r_if_eq 23 dX7_sum_4 rfl hr2 (fun c3 => ?_) (fun c3 => ?_)
  · have h := h.1 c3
    refine r_al0 dX7_sum_23 ?_
    refine r_iconst dX7_sum_24 ?_
    refine r_cVI1 B cb_X7_refuse lk_X7_70 cv_X7_refuse kd_0 (c_X7_refuse (xl x) E (inR_k rfl) mμ1 h) rfl rfl dX7_sum_25 (fun r5 μ4 hr5 mμ4 h => ?_)
    exact r_iret B hr hr5 mμ4 dX7_sum_28 h
  · have h := h.2 c3
    refine r_al0 dX7_sum_7 ?_
    refine r_il2 dX7_sum_8 ?_
    refine r_cVI1 B cb_X7_isCode lk_X7_103 cv_X7_isCode kd_0 (c_X7_isCode (xl x) E hp1 mμ1 h) rfl rfl dX7_sum_9 (fun r7 μ6 hr7 mμ6 h => ?_)
    refine r_if_eq 23 dX7_sum_12 rfl hr7 (fun c8 => ?_) (fun c8 => ?_)
    · have h := h.1 c8
      refine r_al0 dX7_sum_23 ?_
      refine r_iconst dX7_sum_24 ?_
      refine r_cVI1 B cb_X7_refuse lk_X7_70 cv_X7_refuse kd_0 (c_X7_refuse (xl x) E (inR_k rfl) mμ6 h) rfl rfl dX7_sum_25 (fun r10 μ9 hr10 mμ9 h => ?_)
      exact r_iret B hr hr10 mμ9 dX7_sum_28 h
    · have h := h.2 c8
      refine r_al0 dX7_sum_15 ?_
      refine r_il3 dX7_sum_16 ?_
      refine r_cVI1 B cb_X7_isCode lk_X7_103 cv_X7_isCode kd_0 (c_X7_isCode (xl x) E hp2 mμ6 h) rfl rfl dX7_sum_17 (fun r12 μ11 hr12 mμ11 h => ?_)
      refine r_if_ne 29 dX7_sum_20 rfl hr12 (fun c13 => ?_) (fun c13 => ?_)
      · have h := h.1 c13
        refine r_al0 dX7_sum_29 ?_
        refine r_getR B 23 fg_X7_23 kd_0 (kl kd_0) (ρo (off := 23) kd_0 rfl) dX7_sum_30 ?_
        refine r_cVV0 B cb_X1_clear lk_X7_87 cv_X1_clear kd_23 (c_X1_clear (xl x) E isC_fresh mμ11 h) rfl rfl dX7_sum_33 (fun μ14 mμ14 h => ?_)
        refine r_al0 dX7_sum_36 ?_
        refine r_getR B 23 fg_X7_23 kd_0 (kl kd_0) (ρo (off := 23) kd_0 rfl) dX7_sum_37 ?_
        refine r_al0 dX7_sum_40 ?_
        refine r_getR B 22 fg_X7_18 kd_0 (kl kd_0) (ρo (off := 22) kd_0 rfl) dX7_sum_41 ?_
        refine r_il2 dX7_sum_44 ?_
        obtain ⟨o15, h⟩ := h
        refine r_aald B _ kd_22 (kl kd_22) (by decide) o15 (ρa (b := 83) kd_22 rfl) dX7_sum_45 ?_
        refine r_iconst dX7_sum_46 ?_
        refine r_cVI2 B cb_X1_addPlaces lk_X7_242 cv_X1_addPlaces kd_23 (c_X1_addPlaces (xl x) E isC_fresh (isC_codesI o15) (inR_k rfl) mμ14 h) rfl rfl dX7_sum_47 (fun r17 μ16 hr17 mμ16 h => ?_)
        refine r_if_eq 70 dX7_sum_50 rfl hr17 (fun c18 => ?_) (fun c18 => ?_)
        · have h := h.1 c18
          refine r_al0 dX7_sum_70 ?_
          refine r_iconst dX7_sum_71 ?_
          refine r_cVI1 B cb_X7_refuse lk_X7_70 cv_X7_refuse kd_0 (c_X7_refuse (xl x) E (inR_k rfl) mμ16 h) rfl rfl dX7_sum_72 (fun r20 μ19 hr20 mμ19 h => ?_)
          exact r_iret B hr hr20 mμ19 dX7_sum_75 h
        · have h := h.2 c18
          refine r_al0 dX7_sum_53 ?_
          refine r_getR B 23 fg_X7_23 kd_0 (kl kd_0) (ρo (off := 23) kd_0 rfl) dX7_sum_54 ?_
          refine r_al0 dX7_sum_57 ?_
          refine r_getR B 22 fg_X7_18 kd_0 (kl kd_0) (ρo (off := 22) kd_0 rfl) dX7_sum_58 ?_
          refine r_il3 dX7_sum_61 ?_
          obtain ⟨o21, h⟩ := h
          refine r_aald B _ kd_22 (kl kd_22) (by decide) o21 (ρa (b := 83) kd_22 rfl) dX7_sum_62 ?_
          refine r_iconst dX7_sum_63 ?_
          refine r_cVI2 B cb_X1_addPlaces lk_X7_242 cv_X1_addPlaces kd_23 (c_X1_addPlaces (xl x) E isC_fresh (isC_codesI o21) (inR_k rfl) mμ16 h) rfl rfl dX7_sum_64 (fun r23 μ22 hr23 mμ22 h => ?_)
          refine r_if_ne 76 dX7_sum_67 rfl hr23 (fun c24 => ?_) (fun c24 => ?_)
          · have h := h.1 c24
            refine r_al0 dX7_sum_76 ?_
            refine r_getR B 23 fg_X7_23 kd_0 (kl kd_0) (ρo (off := 23) kd_0 rfl) dX7_sum_77 ?_
            refine r_al0 dX7_sum_80 ?_
            refine r_getR B 22 fg_X7_18 kd_0 (kl kd_0) (ρo (off := 22) kd_0 rfl) dX7_sum_81 ?_
            refine r_il2 dX7_sum_84 ?_
            refine r_aald B _ kd_22 (kl kd_22) (by decide) o15 (ρa (b := 83) kd_22 rfl) dX7_sum_85 ?_
            refine r_al0 dX7_sum_86 ?_
            refine r_getR B 22 fg_X7_18 kd_0 (kl kd_0) (ρo (off := 22) kd_0 rfl) dX7_sum_87 ?_
            refine r_il3 dX7_sum_90 ?_
            refine r_aald B _ kd_22 (kl kd_22) (by decide) o21 (ρa (b := 83) kd_22 rfl) dX7_sum_91 ?_
            refine r_cVV2 B cb_X1_putPairs lk_X7_246 cv_X1_putPairs kd_23 (c_X1_putPairs (xl x) E isC_fresh (isC_codesI o15) (isC_codesI o21) mμ22 h) rfl rfl dX7_sum_92 (fun μ25 mμ25 h => ?_)
            refine r_al0 dX7_sum_95 ?_
            refine r_il1 dX7_sum_96 ?_
            refine r_al0 dX7_sum_97 ?_
            refine r_getR B 23 fg_X7_23 kd_0 (kl kd_0) (ρo (off := 23) kd_0 rfl) dX7_sum_98 ?_
            refine r_getIN B fg_X7_185 kd_23 (kl kd_23) dX7_sum_101 ?_
            refine r_cVI2 B cb_X7_act lk_X7_227 cv_X7_act kd_0 (c_X7_act (xl x) E hp0 (mμ25 23 3) mμ25 h) rfl rfl dX7_sum_104 (fun r27 μ26 hr27 mμ26 h => ?_)
            exact r_iret B hr hr27 mμ26 dX7_sum_107 h
          · have h := h.2 c24
            refine r_al0 dX7_sum_70 ?_
            refine r_iconst dX7_sum_71 ?_
            refine r_cVI1 B cb_X7_refuse lk_X7_70 cv_X7_refuse kd_0 (c_X7_refuse (xl x) E (inR_k rfl) mμ22 h) rfl rfl dX7_sum_72 (fun r29 μ28 hr29 mμ28 h => ?_)
            exact r_iret B hr hr29 mμ28 dX7_sum_75 h
      · have h := h.2 c13
        refine r_al0 dX7_sum_23 ?_
        refine r_iconst dX7_sum_24 ?_
        refine r_cVI1 B cb_X7_refuse lk_X7_70 cv_X7_refuse kd_0 (c_X7_refuse (xl x) E (inR_k rfl) mμ11 h) rfl rfl dX7_sum_25 (fun r31 μ30 hr31 mμ30 h => ?_)
        exact r_iret B hr hr31 mμ30 dX7_sum_28 h
set_option maxRecDepth 20000 in
theorem c_X7_join (l : Launch) (E : Gx) {p0 : Int} {p1 : Int} {p2 : Int} {μ : Mem} {Q : Int → Mem → Prop} (hp0 : inR p0) (hp1 : inR p1) (hp2 : inR p2) (hμ : okM μ) (h : wp_X7_join p0 p1 p2 μ Q) : MT l yX7_join cX7_join 4 (some .int) E 7 0 0 z0 [rv E 0, iv p0, iv p1, iv p2] μ (QI E z0 Q) := by
  refine m_start [some (rv E 0), some (iv p0), some (iv p1), some (iv p2)] (by decide) rfl rfl rfl (fun x hxl hxc hxs B hr hnm => ?_)
  unfold wp_X7_join at h
  refine r_il1 dX7_join_0 ?_
  refine r_cSI1 B cb_X7_isSlot lk_X7_239 cs_X7_isSlot (c_X7_isSlot (xl x) E hp0 hμ h) rfl rfl dX7_join_1 (fun r2 μ1 hr2 mμ1 h => ?_)
  refine r_if_eq 23 dX7_join_4 rfl hr2 (fun c3 => ?_) (fun c3 => ?_)
  · have h := h.1 c3
    refine r_al0 dX7_join_23 ?_
    refine r_iconst dX7_join_24 ?_
    refine r_cVI1 B cb_X7_refuse lk_X7_70 cv_X7_refuse kd_0 (c_X7_refuse (xl x) E (inR_k rfl) mμ1 h) rfl rfl dX7_join_25 (fun r5 μ4 hr5 mμ4 h => ?_)
    exact r_iret B hr hr5 mμ4 dX7_join_28 h
  · have h := h.2 c3
    refine r_al0 dX7_join_7 ?_
    refine r_il2 dX7_join_8 ?_
    refine r_cVI1 B cb_X7_isCode lk_X7_103 cv_X7_isCode kd_0 (c_X7_isCode (xl x) E hp1 mμ1 h) rfl rfl dX7_join_9 (fun r7 μ6 hr7 mμ6 h => ?_)
    refine r_if_eq 23 dX7_join_12 rfl hr7 (fun c8 => ?_) (fun c8 => ?_)
    · have h := h.1 c8
      refine r_al0 dX7_join_23 ?_
      refine r_iconst dX7_join_24 ?_
      refine r_cVI1 B cb_X7_refuse lk_X7_70 cv_X7_refuse kd_0 (c_X7_refuse (xl x) E (inR_k rfl) mμ6 h) rfl rfl dX7_join_25 (fun r10 μ9 hr10 mμ9 h => ?_)
      exact r_iret B hr hr10 mμ9 dX7_join_28 h
    · have h := h.2 c8
      refine r_al0 dX7_join_15 ?_
      refine r_il3 dX7_join_16 ?_
      refine r_cVI1 B cb_X7_isCode lk_X7_103 cv_X7_isCode kd_0 (c_X7_isCode (xl x) E hp2 mμ6 h) rfl rfl dX7_join_17 (fun r12 μ11 hr12 mμ11 h => ?_)
      refine r_if_ne 29 dX7_join_20 rfl hr12 (fun c13 => ?_) (fun c13 => ?_)
      · have h := h.1 c13
        refine r_al0 dX7_join_29 ?_
        refine r_getR B 22 fg_X7_18 kd_0 (kl kd_0) (ρo (off := 22) kd_0 rfl) dX7_join_30 ?_
        refine r_il2 dX7_join_33 ?_
        obtain ⟨o14, h⟩ := h
        refine r_aald B _ kd_22 (kl kd_22) (by decide) o14 (ρa (b := 83) kd_22 rfl) dX7_join_34 ?_
        refine r_al0 dX7_join_35 ?_
        refine r_getR B 22 fg_X7_18 kd_0 (kl kd_0) (ρo (off := 22) kd_0 rfl) dX7_join_36 ?_
        refine r_il3 dX7_join_39 ?_
        obtain ⟨o15, h⟩ := h
        refine r_aald B _ kd_22 (kl kd_22) (by decide) o15 (ρa (b := 83) kd_22 rfl) dX7_join_40 ?_
        refine r_cVI1 B cb_X1_endsAsBegins lk_X7_250 cv_X1_endsAsBegins ((isC_codesI o14)).1 (c_X1_endsAsBegins (xl x) E (isC_codesI o14) (isC_codesI o15) mμ11 h) rfl rfl dX7_join_41 (fun r17 μ16 hr17 mμ16 h => ?_)
        refine r_if_ne 53 dX7_join_44 rfl hr17 (fun c18 => ?_) (fun c18 => ?_)
        · have h := h.1 c18
          refine r_al0 dX7_join_53 ?_
          refine r_getR B 23 fg_X7_23 kd_0 (kl kd_0) (ρo (off := 23) kd_0 rfl) dX7_join_54 ?_
          refine r_cVV0 B cb_X1_clear lk_X7_87 cv_X1_clear kd_23 (c_X1_clear (xl x) E isC_fresh mμ16 h) rfl rfl dX7_join_57 (fun μ19 mμ19 h => ?_)
          refine r_al0 dX7_join_60 ?_
          refine r_getR B 23 fg_X7_23 kd_0 (kl kd_0) (ρo (off := 23) kd_0 rfl) dX7_join_61 ?_
          refine r_al0 dX7_join_64 ?_
          refine r_getR B 22 fg_X7_18 kd_0 (kl kd_0) (ρo (off := 22) kd_0 rfl) dX7_join_65 ?_
          refine r_il2 dX7_join_68 ?_
          refine r_aald B _ kd_22 (kl kd_22) (by decide) o14 (ρa (b := 83) kd_22 rfl) dX7_join_69 ?_
          refine r_iconst dX7_join_70 ?_
          refine r_cVI2 B cb_X1_addPlaces lk_X7_242 cv_X1_addPlaces kd_23 (c_X1_addPlaces (xl x) E isC_fresh (isC_codesI o14) (inR_k rfl) mμ19 h) rfl rfl dX7_join_71 (fun r21 μ20 hr21 mμ20 h => ?_)
          refine r_if_eq 94 dX7_join_74 rfl hr21 (fun c22 => ?_) (fun c22 => ?_)
          · have h := h.1 c22
            refine r_al0 dX7_join_94 ?_
            refine r_iconst dX7_join_95 ?_
            refine r_cVI1 B cb_X7_refuse lk_X7_70 cv_X7_refuse kd_0 (c_X7_refuse (xl x) E (inR_k rfl) mμ20 h) rfl rfl dX7_join_96 (fun r24 μ23 hr24 mμ23 h => ?_)
            exact r_iret B hr hr24 mμ23 dX7_join_99 h
          · have h := h.2 c22
            refine r_al0 dX7_join_77 ?_
            refine r_getR B 23 fg_X7_23 kd_0 (kl kd_0) (ρo (off := 23) kd_0 rfl) dX7_join_78 ?_
            refine r_al0 dX7_join_81 ?_
            refine r_getR B 22 fg_X7_18 kd_0 (kl kd_0) (ρo (off := 22) kd_0 rfl) dX7_join_82 ?_
            refine r_il3 dX7_join_85 ?_
            refine r_aald B _ kd_22 (kl kd_22) (by decide) o15 (ρa (b := 83) kd_22 rfl) dX7_join_86 ?_
            refine r_iconst dX7_join_87 ?_
            refine r_cVI2 B cb_X1_addPlaces lk_X7_242 cv_X1_addPlaces kd_23 (c_X1_addPlaces (xl x) E isC_fresh (isC_codesI o15) (inR_k rfl) mμ20 h) rfl rfl dX7_join_88 (fun r26 μ25 hr26 mμ25 h => ?_)
            refine r_if_ne 100 dX7_join_91 rfl hr26 (fun c27 => ?_) (fun c27 => ?_)
            · have h := h.1 c27
              refine r_al0 dX7_join_100 ?_
              refine r_getR B 23 fg_X7_23 kd_0 (kl kd_0) (ρo (off := 23) kd_0 rfl) dX7_join_101 ?_
              refine r_al0 dX7_join_104 ?_
              refine r_getR B 22 fg_X7_18 kd_0 (kl kd_0) (ρo (off := 22) kd_0 rfl) dX7_join_105 ?_
              refine r_il2 dX7_join_108 ?_
              refine r_aald B _ kd_22 (kl kd_22) (by decide) o14 (ρa (b := 83) kd_22 rfl) dX7_join_109 ?_
              refine r_al0 dX7_join_110 ?_
              refine r_getR B 22 fg_X7_18 kd_0 (kl kd_0) (ρo (off := 22) kd_0 rfl) dX7_join_111 ?_
              refine r_il3 dX7_join_114 ?_
              refine r_aald B _ kd_22 (kl kd_22) (by decide) o15 (ρa (b := 83) kd_22 rfl) dX7_join_115 ?_
              refine r_cVV2 B cb_X1_putJoined lk_X7_254 cv_X1_putJoined kd_23 (c_X1_putJoined (xl x) E isC_fresh (isC_codesI o14) (isC_codesI o15) mμ25 h) rfl rfl dX7_join_116 (fun μ28 mμ28 h => ?_)
              refine r_al0 dX7_join_119 ?_
              refine r_il1 dX7_join_120 ?_
              refine r_al0 dX7_join_121 ?_
              refine r_getR B 23 fg_X7_23 kd_0 (kl kd_0) (ρo (off := 23) kd_0 rfl) dX7_join_122 ?_
              refine r_getIN B fg_X7_185 kd_23 (kl kd_23) dX7_join_125 ?_
              refine r_cVI2 B cb_X7_act lk_X7_227 cv_X7_act kd_0 (c_X7_act (xl x) E hp0 (mμ28 23 3) mμ28 h) rfl rfl dX7_join_128 (fun r30 μ29 hr30 mμ29 h => ?_)
              exact r_iret B hr hr30 mμ29 dX7_join_131 h
            · have h := h.2 c27
              refine r_al0 dX7_join_94 ?_
              refine r_iconst dX7_join_95 ?_
              refine r_cVI1 B cb_X7_refuse lk_X7_70 cv_X7_refuse kd_0 (c_X7_refuse (xl x) E (inR_k rfl) mμ25 h) rfl rfl dX7_join_96 (fun r32 μ31 hr32 mμ31 h => ?_)
              exact r_iret B hr hr32 mμ31 dX7_join_99 h
        · have h := h.2 c18
          refine r_al0 dX7_join_47 ?_
          refine r_iconst dX7_join_48 ?_
          refine r_cVI1 B cb_X7_refuse lk_X7_70 cv_X7_refuse kd_0 (c_X7_refuse (xl x) E (inR_k rfl) mμ16 h) rfl rfl dX7_join_49 (fun r34 μ33 hr34 mμ33 h => ?_)
          exact r_iret B hr hr34 mμ33 dX7_join_52 h
      · have h := h.2 c13
        refine r_al0 dX7_join_23 ?_
        refine r_iconst dX7_join_24 ?_
        refine r_cVI1 B cb_X7_refuse lk_X7_70 cv_X7_refuse kd_0 (c_X7_refuse (xl x) E (inR_k rfl) mμ11 h) rfl rfl dX7_join_25 (fun r36 μ35 hr36 mμ35 h => ?_)
        exact r_iret B hr hr36 mμ35 dX7_join_28 h
set_option maxRecDepth 20000 in
theorem t_X7_longer_40 {x : Cx} {E : Gx} (B : Bd x E 7 6 "SlipCovers") (hr : (xt x).sig.returnType = (some .int)) {Q : Int → Mem → Prop} {v1 : Int} {v2 : Int} {v3 : Int} {v4 : Int} {s0 : Int} {s1 : Int} {μ : Mem} (hv1 : inR v1) (hv2 : inR v2) (hv3 : inR v3) (hv4 : inR v4) (hs0 : inR s0) (hs1 : inR s1) (hμ : okM μ) (h : wp_X7_longer_40 Q v1 v2 v3 v4 s0 s1 μ) : J cX7_longer x E z0 μ 40 [some (rv E 0), some (iv v1), some (iv v2), some (iv v3), some (iv v4), none] [iv s1, iv s0] (MQ (xb x) (QI E z0 Q) (xa x) (xs x) 0 0 (gA E)) := by
  unfold wp_X7_longer_40 at h
  refine r_cSI2 B cb_X7_flawOf lk_X7_144 cs_X7_flawOf (c_X7_flawOf (xl x) E hs0 hs1 hμ h) rfl rfl dX7_longer_40 (fun r8 μ7 hr8 mμ7 h => ?_)
  refine r_is5 dX7_longer_43 rfl ?_
  refine r_il5 dX7_longer_45 ?_
  refine r_if_eq 57 dX7_longer_47 rfl hr8 (fun c9 => ?_) (fun c9 => ?_)
  · have h := h.1 c9
    refine r_al0 dX7_longer_57 ?_
    refine r_getR B 23 fg_X7_23 kd_0 (kl kd_0) (ρo (off := 23) kd_0 rfl) dX7_longer_58 ?_
    refine r_cVV0 B cb_X1_clear lk_X7_87 cv_X1_clear kd_23 (c_X1_clear (xl x) E isC_fresh mμ7 h) rfl rfl dX7_longer_61 (fun μ10 mμ10 h => ?_)
    refine r_al0 dX7_longer_64 ?_
    refine r_getR B 23 fg_X7_23 kd_0 (kl kd_0) (ρo (off := 23) kd_0 rfl) dX7_longer_65 ?_
    refine r_al0 dX7_longer_68 ?_
    refine r_getR B 22 fg_X7_18 kd_0 (kl kd_0) (ρo (off := 22) kd_0 rfl) dX7_longer_69 ?_
    refine r_il2 dX7_longer_72 ?_
    obtain ⟨o11, h⟩ := h
    refine r_aald B _ kd_22 (kl kd_22) (by decide) o11 (ρa (b := 83) kd_22 rfl) dX7_longer_73 ?_
    refine r_iconst dX7_longer_74 ?_
    refine r_cVI2 B cb_X1_addPlaces lk_X7_242 cv_X1_addPlaces kd_23 (c_X1_addPlaces (xl x) E isC_fresh (isC_codesI o11) (inR_k rfl) mμ10 h) rfl rfl dX7_longer_75 (fun r13 μ12 hr13 mμ12 h => ?_)
    refine r_if_eq 94 dX7_longer_78 rfl hr13 (fun c14 => ?_) (fun c14 => ?_)
    · have h := h.1 c14
      refine r_al0 dX7_longer_94 ?_
      refine r_iconst dX7_longer_95 ?_
      refine r_cVI1 B cb_X7_refuse lk_X7_70 cv_X7_refuse kd_0 (c_X7_refuse (xl x) E (inR_k rfl) mμ12 h) rfl rfl dX7_longer_96 (fun r16 μ15 hr16 mμ15 h => ?_)
      exact r_iret B hr hr16 mμ15 dX7_longer_99 h
    · have h := h.2 c14
      refine r_al0 dX7_longer_81 ?_
      refine r_getR B 23 fg_X7_23 kd_0 (kl kd_0) (ρo (off := 23) kd_0 rfl) dX7_longer_82 ?_
      refine r_il3 dX7_longer_85 ?_
      refine r_il4 dX7_longer_86 ?_
      refine r_cVI2 B cb_X1_addPlace lk_X7_263 cv_X1_addPlace kd_23 (c_X1_addPlace (xl x) E isC_fresh hv3 hv4 mμ12 h) rfl rfl dX7_longer_88 (fun r18 μ17 hr18 mμ17 h => ?_)
      refine r_if_ne 100 dX7_longer_91 rfl hr18 (fun c19 => ?_) (fun c19 => ?_)
      · have h := h.1 c19
        refine r_al0 dX7_longer_100 ?_
        refine r_getR B 23 fg_X7_23 kd_0 (kl kd_0) (ρo (off := 23) kd_0 rfl) dX7_longer_101 ?_
        refine r_al0 dX7_longer_104 ?_
        refine r_getR B 22 fg_X7_18 kd_0 (kl kd_0) (ρo (off := 22) kd_0 rfl) dX7_longer_105 ?_
        refine r_il2 dX7_longer_108 ?_
        refine r_aald B _ kd_22 (kl kd_22) (by decide) o11 (ρa (b := 83) kd_22 rfl) dX7_longer_109 ?_
        refine r_il3 dX7_longer_110 ?_
        refine r_cVV2 B cb_X1_putLonger lk_X7_266 cv_X1_putLonger kd_23 (c_X1_putLonger (xl x) E isC_fresh (isC_codesI o11) hv3 mμ17 h) rfl rfl dX7_longer_111 (fun μ20 mμ20 h => ?_)
        refine r_al0 dX7_longer_114 ?_
        refine r_il1 dX7_longer_115 ?_
        refine r_al0 dX7_longer_116 ?_
        refine r_getR B 23 fg_X7_23 kd_0 (kl kd_0) (ρo (off := 23) kd_0 rfl) dX7_longer_117 ?_
        refine r_getIN B fg_X7_185 kd_23 (kl kd_23) dX7_longer_120 ?_
        refine r_cVI2 B cb_X7_act lk_X7_227 cv_X7_act kd_0 (c_X7_act (xl x) E hv1 (mμ20 23 3) mμ20 h) rfl rfl dX7_longer_123 (fun r22 μ21 hr22 mμ21 h => ?_)
        exact r_iret B hr hr22 mμ21 dX7_longer_126 h
      · have h := h.2 c19
        refine r_al0 dX7_longer_94 ?_
        refine r_iconst dX7_longer_95 ?_
        refine r_cVI1 B cb_X7_refuse lk_X7_70 cv_X7_refuse kd_0 (c_X7_refuse (xl x) E (inR_k rfl) mμ17 h) rfl rfl dX7_longer_96 (fun r24 μ23 hr24 mμ23 h => ?_)
        exact r_iret B hr hr24 mμ23 dX7_longer_99 h
  · have h := h.2 c9
    refine r_al0 dX7_longer_50 ?_
    refine r_il5 dX7_longer_51 ?_
    refine r_cVI1 B cb_X7_refuse lk_X7_70 cv_X7_refuse kd_0 (c_X7_refuse (xl x) E hr8 mμ7 h) rfl rfl dX7_longer_53 (fun r26 μ25 hr26 mμ25 h => ?_)
    exact r_iret B hr hr26 mμ25 dX7_longer_56 h
set_option maxRecDepth 20000 in
theorem t_X7_longer_39 {x : Cx} {E : Gx} (B : Bd x E 7 6 "SlipCovers") (hr : (xt x).sig.returnType = (some .int)) {Q : Int → Mem → Prop} {v1 : Int} {v2 : Int} {v3 : Int} {v4 : Int} {s0 : Int} {μ : Mem} (hv1 : inR v1) (hv2 : inR v2) (hv3 : inR v3) (hv4 : inR v4) (hs0 : inR s0) (hμ : okM μ) (h : wp_X7_longer_39 Q v1 v2 v3 v4 s0 μ) : J cX7_longer x E z0 μ 39 [some (rv E 0), some (iv v1), some (iv v2), some (iv v3), some (iv v4), none] [iv s0] (MQ (xb x) (QI E z0 Q) (xa x) (xs x) 0 0 (gA E)) := by
  unfold wp_X7_longer_39 at h
  refine r_iconst dX7_longer_39 ?_
  exact J_weak (t_X7_longer_40 B hr hv1 hv2 hv3 hv4 hs0 (inR_k rfl) hμ h) (⟨rfl, ⟨rfl, ⟨rfl, ⟨rfl, ⟨rfl, trivial⟩⟩⟩⟩⟩)
set_option maxRecDepth 20000 in
theorem t_X7_longer_20 {x : Cx} {E : Gx} (B : Bd x E 7 6 "SlipCovers") (hr : (xt x).sig.returnType = (some .int)) {Q : Int → Mem → Prop} {v1 : Int} {v2 : Int} {v3 : Int} {v4 : Int} {s0 : Int} {μ : Mem} (hv1 : inR v1) (hv2 : inR v2) (hv3 : inR v3) (hv4 : inR v4) (hs0 : inR s0) (hμ : okM μ) (h : wp_X7_longer_20 Q v1 v2 v3 v4 s0 μ) : J cX7_longer x E z0 μ 20 [some (rv E 0), some (iv v1), some (iv v2), some (iv v3), some (iv v4), none] [iv s0] (MQ (xb x) (QI E z0 Q) (xa x) (xs x) 0 0 (gA E)) := by
  unfold wp_X7_longer_20 at h
  refine r_il3 dX7_longer_20 ?_
  refine r_cSI1 B cb_X7_isSize lk_X7_257 cs_X7_isSize (c_X7_isSize (xl x) E hv3 hμ h) rfl rfl dX7_longer_21 (fun r5 μ4 hr5 mμ4 h => ?_)
  refine r_if_eq 39 dX7_longer_24 rfl hr5 (fun c6 => ?_) (fun c6 => ?_)
  · have h := h.1 c6
    exact J_weak (t_X7_longer_39 B hr hv1 hv2 hv3 hv4 hs0 mμ4 h) (⟨rfl, ⟨rfl, ⟨rfl, ⟨rfl, ⟨rfl, trivial⟩⟩⟩⟩⟩)
  · have h := h.2 c6
    refine r_il4 dX7_longer_27 ?_
    refine r_cSI1 B cb_X7_isWeight lk_X7_260 cs_X7_isWeight (c_X7_isWeight (xl x) E hv4 mμ4 h) rfl rfl dX7_longer_29 (fun r28 μ27 hr28 mμ27 h => ?_)
    refine r_if_eq 39 dX7_longer_32 rfl hr28 (fun c29 => ?_) (fun c29 => ?_)
    · have h := h.1 c29
      exact J_weak (t_X7_longer_39 B hr hv1 hv2 hv3 hv4 hs0 mμ27 h) (⟨rfl, ⟨rfl, ⟨rfl, ⟨rfl, ⟨rfl, trivial⟩⟩⟩⟩⟩)
    · have h := h.2 c29
      refine r_iconst dX7_longer_35 ?_
      refine r_goto 40 dX7_longer_36 rfl ?_
      exact J_weak (t_X7_longer_40 B hr hv1 hv2 hv3 hv4 hs0 (inR_k rfl) mμ27 h) (⟨rfl, ⟨rfl, ⟨rfl, ⟨rfl, ⟨rfl, trivial⟩⟩⟩⟩⟩)
set_option maxRecDepth 20000 in
theorem t_X7_longer_19 {x : Cx} {E : Gx} (B : Bd x E 7 6 "SlipCovers") (hr : (xt x).sig.returnType = (some .int)) {Q : Int → Mem → Prop} {v1 : Int} {v2 : Int} {v3 : Int} {v4 : Int} {μ : Mem} (hv1 : inR v1) (hv2 : inR v2) (hv3 : inR v3) (hv4 : inR v4) (hμ : okM μ) (h : wp_X7_longer_19 Q v1 v2 v3 v4 μ) : J cX7_longer x E z0 μ 19 [some (rv E 0), some (iv v1), some (iv v2), some (iv v3), some (iv v4), none] [] (MQ (xb x) (QI E z0 Q) (xa x) (xs x) 0 0 (gA E)) := by
  unfold wp_X7_longer_19 at h
  refine r_iconst dX7_longer_19 ?_
  exact J_weak (t_X7_longer_20 B hr hv1 hv2 hv3 hv4 (inR_k rfl) hμ h) (⟨rfl, ⟨rfl, ⟨rfl, ⟨rfl, ⟨rfl, trivial⟩⟩⟩⟩⟩)
set_option maxRecDepth 20000 in
theorem c_X7_longer (l : Launch) (E : Gx) {p0 : Int} {p1 : Int} {p2 : Int} {p3 : Int} {μ : Mem} {Q : Int → Mem → Prop} (hp0 : inR p0) (hp1 : inR p1) (hp2 : inR p2) (hp3 : inR p3) (hμ : okM μ) (h : wp_X7_longer p0 p1 p2 p3 μ Q) : MT l yX7_longer cX7_longer 6 (some .int) E 7 0 0 z0 [rv E 0, iv p0, iv p1, iv p2, iv p3] μ (QI E z0 Q) := by
  refine m_start [some (rv E 0), some (iv p0), some (iv p1), some (iv p2), some (iv p3), none] (by decide) rfl rfl rfl (fun x hxl hxc hxs B hr hnm => ?_)
  unfold wp_X7_longer at h
  refine r_il1 dX7_longer_0 ?_
  refine r_cSI1 B cb_X7_isSlot lk_X7_239 cs_X7_isSlot (c_X7_isSlot (xl x) E hp0 hμ h) rfl rfl dX7_longer_1 (fun r2 μ1 hr2 mμ1 h => ?_)
  refine r_if_eq 19 dX7_longer_4 rfl hr2 (fun c3 => ?_) (fun c3 => ?_)
  · have h := h.1 c3
    exact J_weak (t_X7_longer_19 B hr hp0 hp1 hp2 hp3 mμ1 h) (⟨rfl, ⟨rfl, ⟨rfl, ⟨rfl, ⟨rfl, trivial⟩⟩⟩⟩⟩)
  · have h := h.2 c3
    refine r_al0 dX7_longer_7 ?_
    refine r_il2 dX7_longer_8 ?_
    refine r_cVI1 B cb_X7_isCode lk_X7_103 cv_X7_isCode kd_0 (c_X7_isCode (xl x) E hp1 mμ1 h) rfl rfl dX7_longer_9 (fun r31 μ30 hr31 mμ30 h => ?_)
    refine r_if_eq 19 dX7_longer_12 rfl hr31 (fun c32 => ?_) (fun c32 => ?_)
    · have h := h.1 c32
      exact J_weak (t_X7_longer_19 B hr hp0 hp1 hp2 hp3 mμ30 h) (⟨rfl, ⟨rfl, ⟨rfl, ⟨rfl, ⟨rfl, trivial⟩⟩⟩⟩⟩)
    · have h := h.2 c32
      refine r_iconst dX7_longer_15 ?_
      refine r_goto 20 dX7_longer_16 rfl ?_
      exact J_weak (t_X7_longer_20 B hr hp0 hp1 hp2 hp3 (inR_k rfl) mμ30 h) (⟨rfl, ⟨rfl, ⟨rfl, ⟨rfl, ⟨rfl, trivial⟩⟩⟩⟩⟩)
set_option maxRecDepth 20000 in
theorem c_X7_shorter (l : Launch) (E : Gx) {p0 : Int} {p1 : Int} {p2 : Int} {p3 : Int} {μ : Mem} {Q : Int → Mem → Prop} (hp0 : inR p0) (hp1 : inR p1) (hp2 : inR p2) (hp3 : inR p3) (hμ : okM μ) (h : wp_X7_shorter p0 p1 p2 p3 μ Q) : MT l yX7_shorter cX7_shorter 5 (some .int) E 7 0 0 z0 [rv E 0, iv p0, iv p1, iv p2, iv p3] μ (QI E z0 Q) := by
  refine m_start [some (rv E 0), some (iv p0), some (iv p1), some (iv p2), some (iv p3)] (by decide) rfl rfl rfl (fun x hxl hxc hxs B hr hnm => ?_)
  unfold wp_X7_shorter at h
  refine r_il1 dX7_shorter_0 ?_
  refine r_cSI1 B cb_X7_isSlot lk_X7_239 cs_X7_isSlot (c_X7_isSlot (xl x) E hp0 hμ h) rfl rfl dX7_shorter_1 (fun r2 μ1 hr2 mμ1 h => ?_)
  refine r_if_eq 16 dX7_shorter_4 rfl hr2 (fun c3 => ?_) (fun c3 => ?_)
  · have h := h.1 c3
    refine r_al0 dX7_shorter_16 ?_
    refine r_iconst dX7_shorter_17 ?_
    refine r_cVI1 B cb_X7_refuse lk_X7_70 cv_X7_refuse kd_0 (c_X7_refuse (xl x) E (inR_k rfl) mμ1 h) rfl rfl dX7_shorter_18 (fun r5 μ4 hr5 mμ4 h => ?_)
    exact r_iret B hr hr5 mμ4 dX7_shorter_21 h
  · have h := h.2 c3
    refine r_al0 dX7_shorter_7 ?_
    refine r_il2 dX7_shorter_8 ?_
    refine r_il3 dX7_shorter_9 ?_
    refine r_cVI2 B cb_X7_isPlace lk_X7_110 cv_X7_isPlace kd_0 (c_X7_isPlace (xl x) E hp1 hp2 mμ1 h) rfl rfl dX7_shorter_10 (fun r7 μ6 hr7 mμ6 h => ?_)
    refine r_if_ne 22 dX7_shorter_13 rfl hr7 (fun c8 => ?_) (fun c8 => ?_)
    · have h := h.1 c8
      refine r_al0 dX7_shorter_22 ?_
      refine r_il2 dX7_shorter_23 ?_
      refine r_il3 dX7_shorter_24 ?_
      refine r_il4 dX7_shorter_25 ?_
      refine r_cVI3 B cb_X7_isDigit lk_X7_201 cv_X7_isDigit kd_0 (c_X7_isDigit (xl x) E hp1 hp2 hp3 mμ6 h) rfl rfl dX7_shorter_27 (fun r10 μ9 hr10 mμ9 h => ?_)
      refine r_if_ne 39 dX7_shorter_30 rfl hr10 (fun c11 => ?_) (fun c11 => ?_)
      · have h := h.1 c11
        refine r_al0 dX7_shorter_39 ?_
        refine r_getR B 22 fg_X7_18 kd_0 (kl kd_0) (ρo (off := 22) kd_0 rfl) dX7_shorter_40 ?_
        refine r_il2 dX7_shorter_43 ?_
        obtain ⟨o12, h⟩ := h
        refine r_aald B _ kd_22 (kl kd_22) (by decide) o12 (ρa (b := 83) kd_22 rfl) dX7_shorter_44 ?_
        refine r_getIN B fg_X7_269 ((isC_codesI o12)).1 (kl ((isC_codesI o12)).1) dX7_shorter_45 ?_
        refine r_iconst dX7_shorter_48 ?_
        refine r_icmp_ne 58 dX7_shorter_49 rfl (mμ9 (83 + 4 * p1.toNat) 1) (inR_k rfl) (fun c13 => ?_) (fun c13 => ?_)
        · have h := h.1 c13
          refine r_al0 dX7_shorter_58 ?_
          refine r_getR B 23 fg_X7_23 kd_0 (kl kd_0) (ρo (off := 23) kd_0 rfl) dX7_shorter_59 ?_
          refine r_cVV0 B cb_X1_clear lk_X7_87 cv_X1_clear kd_23 (c_X1_clear (xl x) E isC_fresh mμ9 h) rfl rfl dX7_shorter_62 (fun μ14 mμ14 h => ?_)
          refine r_al0 dX7_shorter_65 ?_
          refine r_getR B 23 fg_X7_23 kd_0 (kl kd_0) (ρo (off := 23) kd_0 rfl) dX7_shorter_66 ?_
          refine r_al0 dX7_shorter_69 ?_
          refine r_getR B 22 fg_X7_18 kd_0 (kl kd_0) (ρo (off := 22) kd_0 rfl) dX7_shorter_70 ?_
          refine r_il2 dX7_shorter_73 ?_
          refine r_aald B _ kd_22 (kl kd_22) (by decide) o12 (ρa (b := 83) kd_22 rfl) dX7_shorter_74 ?_
          refine r_il3 dX7_shorter_75 ?_
          refine r_cVV2 B cb_X1_addPlacesBut lk_X7_272 cv_X1_addPlacesBut kd_23 (c_X1_addPlacesBut (xl x) E isC_fresh (isC_codesI o12) hp2 mμ14 h) rfl rfl dX7_shorter_76 (fun μ15 mμ15 h => ?_)
          refine r_al0 dX7_shorter_79 ?_
          refine r_getR B 23 fg_X7_23 kd_0 (kl kd_0) (ρo (off := 23) kd_0 rfl) dX7_shorter_80 ?_
          refine r_al0 dX7_shorter_83 ?_
          refine r_getR B 22 fg_X7_18 kd_0 (kl kd_0) (ρo (off := 22) kd_0 rfl) dX7_shorter_84 ?_
          refine r_il2 dX7_shorter_87 ?_
          refine r_aald B _ kd_22 (kl kd_22) (by decide) o12 (ρa (b := 83) kd_22 rfl) dX7_shorter_88 ?_
          refine r_il3 dX7_shorter_89 ?_
          refine r_il4 dX7_shorter_90 ?_
          refine r_cVV3 B cb_X1_putShorter lk_X7_275 cv_X1_putShorter kd_23 (c_X1_putShorter (xl x) E isC_fresh (isC_codesI o12) hp2 hp3 mμ15 h) rfl rfl dX7_shorter_92 (fun μ16 mμ16 h => ?_)
          refine r_al0 dX7_shorter_95 ?_
          refine r_il1 dX7_shorter_96 ?_
          refine r_al0 dX7_shorter_97 ?_
          refine r_getR B 23 fg_X7_23 kd_0 (kl kd_0) (ρo (off := 23) kd_0 rfl) dX7_shorter_98 ?_
          refine r_getIN B fg_X7_185 kd_23 (kl kd_23) dX7_shorter_101 ?_
          refine r_cVI2 B cb_X7_act lk_X7_227 cv_X7_act kd_0 (c_X7_act (xl x) E hp0 (mμ16 23 3) mμ16 h) rfl rfl dX7_shorter_104 (fun r18 μ17 hr18 mμ17 h => ?_)
          exact r_iret B hr hr18 mμ17 dX7_shorter_107 h
        · have h := h.2 c13
          refine r_al0 dX7_shorter_52 ?_
          refine r_iconst dX7_shorter_53 ?_
          refine r_cVI1 B cb_X7_refuse lk_X7_70 cv_X7_refuse kd_0 (c_X7_refuse (xl x) E (inR_k rfl) mμ9 h) rfl rfl dX7_shorter_54 (fun r20 μ19 hr20 mμ19 h => ?_)
          exact r_iret B hr hr20 mμ19 dX7_shorter_57 h
      · have h := h.2 c11
        refine r_al0 dX7_shorter_33 ?_
        refine r_iconst dX7_shorter_34 ?_
        refine r_cVI1 B cb_X7_refuse lk_X7_70 cv_X7_refuse kd_0 (c_X7_refuse (xl x) E (inR_k rfl) mμ9 h) rfl rfl dX7_shorter_35 (fun r22 μ21 hr22 mμ21 h => ?_)
        exact r_iret B hr hr22 mμ21 dX7_shorter_38 h
    · have h := h.2 c8
      refine r_al0 dX7_shorter_16 ?_
      refine r_iconst dX7_shorter_17 ?_
      refine r_cVI1 B cb_X7_refuse lk_X7_70 cv_X7_refuse kd_0 (c_X7_refuse (xl x) E (inR_k rfl) mμ6 h) rfl rfl dX7_shorter_18 (fun r24 μ23 hr24 mμ23 h => ?_)
      exact r_iret B hr hr24 mμ23 dX7_shorter_21 h
set_option maxRecDepth 20000 in
theorem c_X7_swap (l : Launch) (E : Gx) {p0 : Int} {p1 : Int} {p2 : Int} {p3 : Int} {μ : Mem} {Q : Int → Mem → Prop} (hp0 : inR p0) (hp1 : inR p1) (hp2 : inR p2) (hp3 : inR p3) (hμ : okM μ) (h : wp_X7_swap p0 p1 p2 p3 μ Q) : MT l yX7_swap cX7_swap 5 (some .boolean) E 7 0 0 z0 [rv E 0, iv p0, iv p1, iv p2, iv p3] μ (QI E z0 Q) := by
  refine m_start [some (rv E 0), some (iv p0), some (iv p1), some (iv p2), some (iv p3)] (by decide) rfl rfl rfl (fun x hxl hxc hxs B hr hnm => ?_)
  unfold wp_X7_swap at h
  refine r_il1 dX7_swap_0 ?_
  refine r_cSI1 B cb_X7_isSlot lk_X7_239 cs_X7_isSlot (c_X7_isSlot (xl x) E hp0 hμ h) rfl rfl dX7_swap_1 (fun r2 μ1 hr2 mμ1 h => ?_)
  refine r_if_eq 26 dX7_swap_4 rfl hr2 (fun c3 => ?_) (fun c3 => ?_)
  · have h := h.1 c3
    refine r_al0 dX7_swap_26 ?_
    refine r_iconst dX7_swap_27 ?_
    refine r_cVI1 B cb_X7_refuse lk_X7_70 cv_X7_refuse kd_0 (c_X7_refuse (xl x) E (inR_k rfl) mμ1 h) rfl rfl dX7_swap_28 (fun r5 μ4 hr5 mμ4 h => ?_)
    refine r_pop rfl dX7_swap_31 ?_
    refine r_iconst dX7_swap_32 ?_
    exact r_zret B hr (Or.inl rfl) mμ4 dX7_swap_33 h
  · have h := h.2 c3
    refine r_al0 dX7_swap_7 ?_
    refine r_il2 dX7_swap_8 ?_
    refine r_il3 dX7_swap_9 ?_
    refine r_cVI2 B cb_X7_isPlace lk_X7_110 cv_X7_isPlace kd_0 (c_X7_isPlace (xl x) E hp1 hp2 mμ1 h) rfl rfl dX7_swap_10 (fun r7 μ6 hr7 mμ6 h => ?_)
    refine r_if_eq 26 dX7_swap_13 rfl hr7 (fun c8 => ?_) (fun c8 => ?_)
    · have h := h.1 c8
      refine r_al0 dX7_swap_26 ?_
      refine r_iconst dX7_swap_27 ?_
      refine r_cVI1 B cb_X7_refuse lk_X7_70 cv_X7_refuse kd_0 (c_X7_refuse (xl x) E (inR_k rfl) mμ6 h) rfl rfl dX7_swap_28 (fun r10 μ9 hr10 mμ9 h => ?_)
      refine r_pop rfl dX7_swap_31 ?_
      refine r_iconst dX7_swap_32 ?_
      exact r_zret B hr (Or.inl rfl) mμ9 dX7_swap_33 h
    · have h := h.2 c8
      refine r_al0 dX7_swap_16 ?_
      refine r_il2 dX7_swap_17 ?_
      refine r_il4 dX7_swap_18 ?_
      refine r_cVI2 B cb_X7_isPlace lk_X7_110 cv_X7_isPlace kd_0 (c_X7_isPlace (xl x) E hp1 hp3 mμ6 h) rfl rfl dX7_swap_20 (fun r12 μ11 hr12 mμ11 h => ?_)
      refine r_if_ne 34 dX7_swap_23 rfl hr12 (fun c13 => ?_) (fun c13 => ?_)
      · have h := h.1 c13
        refine r_al0 dX7_swap_34 ?_
        refine r_getR B 70 fg_X7_37 kd_0 (kl kd_0) (ρo (off := 70) kd_0 rfl) dX7_swap_35 ?_
        refine r_al0 dX7_swap_38 ?_
        refine r_getR B 22 fg_X7_18 kd_0 (kl kd_0) (ρo (off := 22) kd_0 rfl) dX7_swap_39 ?_
        refine r_il2 dX7_swap_42 ?_
        obtain ⟨o14, h⟩ := h
        refine r_aald B _ kd_22 (kl kd_22) (by decide) o14 (ρa (b := 83) kd_22 rfl) dX7_swap_43 ?_
        refine r_cVV1 B cb_X3_lay lk_X7_130 cv_X3_lay kd_70 (c_X3_lay (xl x) E (isC_codesI o14) mμ11 h) rfl rfl dX7_swap_44 (fun μ15 mμ15 h => ?_)
        refine r_al0 dX7_swap_47 ?_
        refine r_getR B 23 fg_X7_23 kd_0 (kl kd_0) (ρo (off := 23) kd_0 rfl) dX7_swap_48 ?_
        refine r_cVV0 B cb_X1_clear lk_X7_87 cv_X1_clear kd_23 (c_X1_clear (xl x) E isC_fresh mμ15 h) rfl rfl dX7_swap_51 (fun μ16 mμ16 h => ?_)
        refine r_al0 dX7_swap_54 ?_
        refine r_getR B 23 fg_X7_23 kd_0 (kl kd_0) (ρo (off := 23) kd_0 rfl) dX7_swap_55 ?_
        refine r_al0 dX7_swap_58 ?_
        refine r_getR B 22 fg_X7_18 kd_0 (kl kd_0) (ρo (off := 22) kd_0 rfl) dX7_swap_59 ?_
        refine r_il2 dX7_swap_62 ?_
        refine r_aald B _ kd_22 (kl kd_22) (by decide) o14 (ρa (b := 83) kd_22 rfl) dX7_swap_63 ?_
        refine r_il3 dX7_swap_64 ?_
        refine r_il4 dX7_swap_65 ?_
        refine r_cVV3 B cb_X1_addPlacesSwapped lk_X7_279 cv_X1_addPlacesSwapped kd_23 (c_X1_addPlacesSwapped (xl x) E isC_fresh (isC_codesI o14) hp2 hp3 mμ16 h) rfl rfl dX7_swap_67 (fun μ17 mμ17 h => ?_)
        refine r_al0 dX7_swap_70 ?_
        refine r_getR B 23 fg_X7_23 kd_0 (kl kd_0) (ρo (off := 23) kd_0 rfl) dX7_swap_71 ?_
        refine r_al0 dX7_swap_74 ?_
        refine r_getR B 22 fg_X7_18 kd_0 (kl kd_0) (ρo (off := 22) kd_0 rfl) dX7_swap_75 ?_
        refine r_il2 dX7_swap_78 ?_
        refine r_aald B _ kd_22 (kl kd_22) (by decide) o14 (ρa (b := 83) kd_22 rfl) dX7_swap_79 ?_
        refine r_al0 dX7_swap_80 ?_
        refine r_getR B 70 fg_X7_37 kd_0 (kl kd_0) (ρo (off := 70) kd_0 rfl) dX7_swap_81 ?_
        refine r_il3 dX7_swap_84 ?_
        refine r_il4 dX7_swap_85 ?_
        refine r_cVV4 B cb_X1_putSwapped lk_X7_282 cv_X1_putSwapped kd_23 (c_X1_putSwapped (xl x) E isC_fresh (isC_codesI o14) hp2 hp3 mμ17 h) rfl rfl dX7_swap_87 (fun μ18 mμ18 h => ?_)
        refine r_al0 dX7_swap_90 ?_
        refine r_il1 dX7_swap_91 ?_
        refine r_al0 dX7_swap_92 ?_
        refine r_getR B 23 fg_X7_23 kd_0 (kl kd_0) (ρo (off := 23) kd_0 rfl) dX7_swap_93 ?_
        refine r_getIN B fg_X7_185 kd_23 (kl kd_23) dX7_swap_96 ?_
        refine r_cVI2 B cb_X7_act lk_X7_227 cv_X7_act kd_0 (c_X7_act (xl x) E hp0 (mμ18 23 3) mμ18 h) rfl rfl dX7_swap_99 (fun r20 μ19 hr20 mμ19 h => ?_)
        refine r_pop rfl dX7_swap_102 ?_
        refine r_iconst dX7_swap_103 ?_
        exact r_zret B hr (Or.inr rfl) mμ19 dX7_swap_104 h
      · have h := h.2 c13
        refine r_al0 dX7_swap_26 ?_
        refine r_iconst dX7_swap_27 ?_
        refine r_cVI1 B cb_X7_refuse lk_X7_70 cv_X7_refuse kd_0 (c_X7_refuse (xl x) E (inR_k rfl) mμ11 h) rfl rfl dX7_swap_28 (fun r22 μ21 hr22 mμ21 h => ?_)
        refine r_pop rfl dX7_swap_31 ?_
        refine r_iconst dX7_swap_32 ?_
        exact r_zret B hr (Or.inl rfl) mμ21 dX7_swap_33 h
set_option maxRecDepth 20000 in
theorem t_X7_shift_37 {x : Cx} {E : Gx} (B : Bd x E 7 6 "SlipCovers") (hr : (xt x).sig.returnType = (some .boolean)) {Q : Int → Mem → Prop} {v1 : Int} {v2 : Int} {v3 : Int} {v4 : Int} {s0 : Int} {s1 : Int} {μ : Mem} (hv1 : inR v1) (hv2 : inR v2) (hv3 : inR v3) (hv4 : inR v4) (hs0 : inR s0) (hs1 : inR s1) (hμ : okM μ) (h : wp_X7_shift_37 Q v1 v2 v3 v4 s0 s1 μ) : J cX7_shift x E z0 μ 37 [some (rv E 0), some (iv v1), some (iv v2), some (iv v3), some (iv v4), none] [iv s1, iv s0] (MQ (xb x) (QI E z0 Q) (xa x) (xs x) 0 0 (gA E)) := by
  unfold wp_X7_shift_37 at h
  refine r_cSI2 B cb_X7_flawOf lk_X7_144 cs_X7_flawOf (c_X7_flawOf (xl x) E hs0 hs1 hμ h) rfl rfl dX7_shift_37 (fun r6 μ5 hr6 mμ5 h => ?_)
  refine r_is5 dX7_shift_40 rfl ?_
  refine r_il5 dX7_shift_42 ?_
  refine r_if_eq 56 dX7_shift_44 rfl hr6 (fun c7 => ?_) (fun c7 => ?_)
  · have h := h.1 c7
    refine r_al0 dX7_shift_56 ?_
    refine r_getR B 23 fg_X7_23 kd_0 (kl kd_0) (ρo (off := 23) kd_0 rfl) dX7_shift_57 ?_
    refine r_al0 dX7_shift_60 ?_
    refine r_getR B 22 fg_X7_18 kd_0 (kl kd_0) (ρo (off := 22) kd_0 rfl) dX7_shift_61 ?_
    refine r_il2 dX7_shift_64 ?_
    obtain ⟨o8, h⟩ := h
    refine r_aald B _ kd_22 (kl kd_22) (by decide) o8 (ρa (b := 83) kd_22 rfl) dX7_shift_65 ?_
    refine r_cVV1 B cb_X1_copySpace lk_X7_286 cv_X1_copySpace kd_23 (c_X1_copySpace (xl x) E isC_fresh (isC_codesI o8) mμ5 h) rfl rfl dX7_shift_66 (fun μ9 mμ9 h => ?_)
    refine r_al0 dX7_shift_69 ?_
    refine r_getR B 23 fg_X7_23 kd_0 (kl kd_0) (ρo (off := 23) kd_0 rfl) dX7_shift_70 ?_
    refine r_al0 dX7_shift_73 ?_
    refine r_getR B 22 fg_X7_18 kd_0 (kl kd_0) (ρo (off := 22) kd_0 rfl) dX7_shift_74 ?_
    refine r_il2 dX7_shift_77 ?_
    refine r_aald B _ kd_22 (kl kd_22) (by decide) o8 (ρa (b := 83) kd_22 rfl) dX7_shift_78 ?_
    refine r_il3 dX7_shift_79 ?_
    refine r_il4 dX7_shift_80 ?_
    refine r_cVV3 B cb_X1_putShifted lk_X7_289 cv_X1_putShifted kd_23 (c_X1_putShifted (xl x) E isC_fresh (isC_codesI o8) hv3 hv4 mμ9 h) rfl rfl dX7_shift_82 (fun μ10 mμ10 h => ?_)
    refine r_al0 dX7_shift_85 ?_
    refine r_il1 dX7_shift_86 ?_
    refine r_al0 dX7_shift_87 ?_
    refine r_getR B 23 fg_X7_23 kd_0 (kl kd_0) (ρo (off := 23) kd_0 rfl) dX7_shift_88 ?_
    refine r_getIN B fg_X7_185 kd_23 (kl kd_23) dX7_shift_91 ?_
    refine r_cVI2 B cb_X7_act lk_X7_227 cv_X7_act kd_0 (c_X7_act (xl x) E hv1 (mμ10 23 3) mμ10 h) rfl rfl dX7_shift_94 (fun r12 μ11 hr12 mμ11 h => ?_)
    refine r_pop rfl dX7_shift_97 ?_
    refine r_iconst dX7_shift_98 ?_
    exact r_zret B hr (Or.inr rfl) mμ11 dX7_shift_99 h
  · have h := h.2 c7
    refine r_al0 dX7_shift_47 ?_
    refine r_il5 dX7_shift_48 ?_
    refine r_cVI1 B cb_X7_refuse lk_X7_70 cv_X7_refuse kd_0 (c_X7_refuse (xl x) E hr6 mμ5 h) rfl rfl dX7_shift_50 (fun r14 μ13 hr14 mμ13 h => ?_)
    refine r_pop rfl dX7_shift_53 ?_
    refine r_iconst dX7_shift_54 ?_
    exact r_zret B hr (Or.inl rfl) mμ13 dX7_shift_55 h
set_option maxRecDepth 20000 in
theorem t_X7_shift_36 {x : Cx} {E : Gx} (B : Bd x E 7 6 "SlipCovers") (hr : (xt x).sig.returnType = (some .boolean)) {Q : Int → Mem → Prop} {v1 : Int} {v2 : Int} {v3 : Int} {v4 : Int} {s0 : Int} {μ : Mem} (hv1 : inR v1) (hv2 : inR v2) (hv3 : inR v3) (hv4 : inR v4) (hs0 : inR s0) (hμ : okM μ) (h : wp_X7_shift_36 Q v1 v2 v3 v4 s0 μ) : J cX7_shift x E z0 μ 36 [some (rv E 0), some (iv v1), some (iv v2), some (iv v3), some (iv v4), none] [iv s0] (MQ (xb x) (QI E z0 Q) (xa x) (xs x) 0 0 (gA E)) := by
  unfold wp_X7_shift_36 at h
  refine r_iconst dX7_shift_36 ?_
  exact J_weak (t_X7_shift_37 B hr hv1 hv2 hv3 hv4 hs0 (inR_k rfl) hμ h) (⟨rfl, ⟨rfl, ⟨rfl, ⟨rfl, ⟨rfl, trivial⟩⟩⟩⟩⟩)
set_option maxRecDepth 20000 in
theorem t_X7_shift_21 {x : Cx} {E : Gx} (B : Bd x E 7 6 "SlipCovers") (hr : (xt x).sig.returnType = (some .boolean)) {Q : Int → Mem → Prop} {v1 : Int} {v2 : Int} {v3 : Int} {v4 : Int} {s0 : Int} {μ : Mem} (hv1 : inR v1) (hv2 : inR v2) (hv3 : inR v3) (hv4 : inR v4) (hs0 : inR s0) (hμ : okM μ) (h : wp_X7_shift_21 Q v1 v2 v3 v4 s0 μ) : J cX7_shift x E z0 μ 21 [some (rv E 0), some (iv v1), some (iv v2), some (iv v3), some (iv v4), none] [iv s0] (MQ (xb x) (QI E z0 Q) (xa x) (xs x) 0 0 (gA E)) := by
  unfold wp_X7_shift_21 at h
  refine r_il4 dX7_shift_21 ?_
  refine r_if_lt 36 dX7_shift_23 rfl hv4 (fun c4 => ?_) (fun c4 => ?_)
  · have h := h.1 c4
    exact J_weak (t_X7_shift_36 B hr hv1 hv2 hv3 hv4 hs0 hμ h) (⟨rfl, ⟨rfl, ⟨rfl, ⟨rfl, ⟨rfl, trivial⟩⟩⟩⟩⟩)
  · have h := h.2 c4
    refine r_il4 dX7_shift_26 ?_
    refine r_iconst dX7_shift_28 ?_
    refine r_icmp_gt 36 dX7_shift_29 rfl hv4 (inR_k rfl) (fun c15 => ?_) (fun c15 => ?_)
    · have h := h.1 c15
      exact J_weak (t_X7_shift_36 B hr hv1 hv2 hv3 hv4 hs0 hμ h) (⟨rfl, ⟨rfl, ⟨rfl, ⟨rfl, ⟨rfl, trivial⟩⟩⟩⟩⟩)
    · have h := h.2 c15
      refine r_iconst dX7_shift_32 ?_
      refine r_goto 37 dX7_shift_33 rfl ?_
      exact J_weak (t_X7_shift_37 B hr hv1 hv2 hv3 hv4 hs0 (inR_k rfl) hμ h) (⟨rfl, ⟨rfl, ⟨rfl, ⟨rfl, ⟨rfl, trivial⟩⟩⟩⟩⟩)
set_option maxRecDepth 20000 in
theorem t_X7_shift_20 {x : Cx} {E : Gx} (B : Bd x E 7 6 "SlipCovers") (hr : (xt x).sig.returnType = (some .boolean)) {Q : Int → Mem → Prop} {v1 : Int} {v2 : Int} {v3 : Int} {v4 : Int} {μ : Mem} (hv1 : inR v1) (hv2 : inR v2) (hv3 : inR v3) (hv4 : inR v4) (hμ : okM μ) (h : wp_X7_shift_20 Q v1 v2 v3 v4 μ) : J cX7_shift x E z0 μ 20 [some (rv E 0), some (iv v1), some (iv v2), some (iv v3), some (iv v4), none] [] (MQ (xb x) (QI E z0 Q) (xa x) (xs x) 0 0 (gA E)) := by
  unfold wp_X7_shift_20 at h
  refine r_iconst dX7_shift_20 ?_
  exact J_weak (t_X7_shift_21 B hr hv1 hv2 hv3 hv4 (inR_k rfl) hμ h) (⟨rfl, ⟨rfl, ⟨rfl, ⟨rfl, ⟨rfl, trivial⟩⟩⟩⟩⟩)
set_option maxRecDepth 20000 in
theorem c_X7_shift (l : Launch) (E : Gx) {p0 : Int} {p1 : Int} {p2 : Int} {p3 : Int} {μ : Mem} {Q : Int → Mem → Prop} (hp0 : inR p0) (hp1 : inR p1) (hp2 : inR p2) (hp3 : inR p3) (hμ : okM μ) (h : wp_X7_shift p0 p1 p2 p3 μ Q) : MT l yX7_shift cX7_shift 6 (some .boolean) E 7 0 0 z0 [rv E 0, iv p0, iv p1, iv p2, iv p3] μ (QI E z0 Q) := by
  refine m_start [some (rv E 0), some (iv p0), some (iv p1), some (iv p2), some (iv p3), none] (by decide) rfl rfl rfl (fun x hxl hxc hxs B hr hnm => ?_)
  unfold wp_X7_shift at h
  refine r_il1 dX7_shift_0 ?_
  refine r_cSI1 B cb_X7_isSlot lk_X7_239 cs_X7_isSlot (c_X7_isSlot (xl x) E hp0 hμ h) rfl rfl dX7_shift_1 (fun r2 μ1 hr2 mμ1 h => ?_)
  refine r_if_eq 20 dX7_shift_4 rfl hr2 (fun c3 => ?_) (fun c3 => ?_)
  · have h := h.1 c3
    exact J_weak (t_X7_shift_20 B hr hp0 hp1 hp2 hp3 mμ1 h) (⟨rfl, ⟨rfl, ⟨rfl, ⟨rfl, ⟨rfl, trivial⟩⟩⟩⟩⟩)
  · have h := h.2 c3
    refine r_al0 dX7_shift_7 ?_
    refine r_il2 dX7_shift_8 ?_
    refine r_il3 dX7_shift_9 ?_
    refine r_cVI2 B cb_X7_isPlace lk_X7_110 cv_X7_isPlace kd_0 (c_X7_isPlace (xl x) E hp1 hp2 mμ1 h) rfl rfl dX7_shift_10 (fun r17 μ16 hr17 mμ16 h => ?_)
    refine r_if_eq 20 dX7_shift_13 rfl hr17 (fun c18 => ?_) (fun c18 => ?_)
    · have h := h.1 c18
      exact J_weak (t_X7_shift_20 B hr hp0 hp1 hp2 hp3 mμ16 h) (⟨rfl, ⟨rfl, ⟨rfl, ⟨rfl, ⟨rfl, trivial⟩⟩⟩⟩⟩)
    · have h := h.2 c18
      refine r_iconst dX7_shift_16 ?_
      refine r_goto 21 dX7_shift_17 rfl ?_
      exact J_weak (t_X7_shift_21 B hr hp0 hp1 hp2 hp3 (inR_k rfl) mμ16 h) (⟨rfl, ⟨rfl, ⟨rfl, ⟨rfl, ⟨rfl, trivial⟩⟩⟩⟩⟩)
set_option maxRecDepth 20000 in
theorem c_X7_mix (l : Launch) (E : Gx) {p0 : Int} {p1 : Int} {p2 : Int} {p3 : Int} {μ : Mem} {Q : Int → Mem → Prop} (hp0 : inR p0) (hp1 : inR p1) (hp2 : inR p2) (hp3 : inR p3) (hμ : okM μ) (h : wp_X7_mix p0 p1 p2 p3 μ Q) : MT l yX7_mix cX7_mix 5 (some .int) E 7 0 0 z0 [rv E 0, iv p0, iv p1, iv p2, iv p3] μ (QI E z0 Q) := by
  refine m_start [some (rv E 0), some (iv p0), some (iv p1), some (iv p2), some (iv p3)] (by decide) rfl rfl rfl (fun x hxl hxc hxs B hr hnm => ?_)
  unfold wp_X7_mix at h
  refine r_il1 dX7_mix_0 ?_
  refine r_cSI1 B cb_X7_isSlot lk_X7_239 cs_X7_isSlot (c_X7_isSlot (xl x) E hp0 hμ h) rfl rfl dX7_mix_1 (fun r2 μ1 hr2 mμ1 h => ?_)
  refine r_if_eq 34 dX7_mix_4 rfl hr2 (fun c3 => ?_) (fun c3 => ?_)
  · have h := h.1 c3
    refine r_al0 dX7_mix_34 ?_
    refine r_iconst dX7_mix_35 ?_
    refine r_cVI1 B cb_X7_refuse lk_X7_70 cv_X7_refuse kd_0 (c_X7_refuse (xl x) E (inR_k rfl) mμ1 h) rfl rfl dX7_mix_36 (fun r5 μ4 hr5 mμ4 h => ?_)
    exact r_iret B hr hr5 mμ4 dX7_mix_39 h
  · have h := h.2 c3
    refine r_al0 dX7_mix_7 ?_
    refine r_il2 dX7_mix_8 ?_
    refine r_cVI1 B cb_X7_isCode lk_X7_103 cv_X7_isCode kd_0 (c_X7_isCode (xl x) E hp1 mμ1 h) rfl rfl dX7_mix_9 (fun r7 μ6 hr7 mμ6 h => ?_)
    refine r_if_eq 34 dX7_mix_12 rfl hr7 (fun c8 => ?_) (fun c8 => ?_)
    · have h := h.1 c8
      refine r_al0 dX7_mix_34 ?_
      refine r_iconst dX7_mix_35 ?_
      refine r_cVI1 B cb_X7_refuse lk_X7_70 cv_X7_refuse kd_0 (c_X7_refuse (xl x) E (inR_k rfl) mμ6 h) rfl rfl dX7_mix_36 (fun r10 μ9 hr10 mμ9 h => ?_)
      exact r_iret B hr hr10 mμ9 dX7_mix_39 h
    · have h := h.2 c8
      refine r_al0 dX7_mix_15 ?_
      refine r_il3 dX7_mix_16 ?_
      refine r_cVI1 B cb_X7_isCode lk_X7_103 cv_X7_isCode kd_0 (c_X7_isCode (xl x) E hp2 mμ6 h) rfl rfl dX7_mix_17 (fun r12 μ11 hr12 mμ11 h => ?_)
      refine r_if_eq 34 dX7_mix_20 rfl hr12 (fun c13 => ?_) (fun c13 => ?_)
      · have h := h.1 c13
        refine r_al0 dX7_mix_34 ?_
        refine r_iconst dX7_mix_35 ?_
        refine r_cVI1 B cb_X7_refuse lk_X7_70 cv_X7_refuse kd_0 (c_X7_refuse (xl x) E (inR_k rfl) mμ11 h) rfl rfl dX7_mix_36 (fun r15 μ14 hr15 mμ14 h => ?_)
        exact r_iret B hr hr15 mμ14 dX7_mix_39 h
      · have h := h.2 c13
        refine r_il4 dX7_mix_23 ?_
        refine r_if_lt 34 dX7_mix_25 rfl hp3 (fun c16 => ?_) (fun c16 => ?_)
        · have h := h.1 c16
          refine r_al0 dX7_mix_34 ?_
          refine r_iconst dX7_mix_35 ?_
          refine r_cVI1 B cb_X7_refuse lk_X7_70 cv_X7_refuse kd_0 (c_X7_refuse (xl x) E (inR_k rfl) mμ11 h) rfl rfl dX7_mix_36 (fun r18 μ17 hr18 mμ17 h => ?_)
          exact r_iret B hr hr18 mμ17 dX7_mix_39 h
        · have h := h.2 c16
          refine r_il4 dX7_mix_28 ?_
          refine r_iconst dX7_mix_30 ?_
          refine r_icmp_le 40 dX7_mix_31 rfl hp3 (inR_k rfl) (fun c19 => ?_) (fun c19 => ?_)
          · have h := h.1 c19
            refine r_al0 dX7_mix_40 ?_
            refine r_getR B 22 fg_X7_18 kd_0 (kl kd_0) (ρo (off := 22) kd_0 rfl) dX7_mix_41 ?_
            refine r_il2 dX7_mix_44 ?_
            obtain ⟨o20, h⟩ := h
            refine r_aald B _ kd_22 (kl kd_22) (by decide) o20 (ρa (b := 83) kd_22 rfl) dX7_mix_45 ?_
            refine r_al0 dX7_mix_46 ?_
            refine r_getR B 22 fg_X7_18 kd_0 (kl kd_0) (ρo (off := 22) kd_0 rfl) dX7_mix_47 ?_
            refine r_il3 dX7_mix_50 ?_
            obtain ⟨o21, h⟩ := h
            refine r_aald B _ kd_22 (kl kd_22) (by decide) o21 (ρa (b := 83) kd_22 rfl) dX7_mix_51 ?_
            refine r_cVI1 B cb_X1_hasSpaceOf lk_X7_292 cv_X1_hasSpaceOf ((isC_codesI o20)).1 (c_X1_hasSpaceOf (xl x) E (isC_codesI o20) (isC_codesI o21) mμ11 h) rfl rfl dX7_mix_52 (fun r23 μ22 hr23 mμ22 h => ?_)
            refine r_if_ne 64 dX7_mix_55 rfl hr23 (fun c24 => ?_) (fun c24 => ?_)
            · have h := h.1 c24
              refine r_al0 dX7_mix_64 ?_
              refine r_getR B 23 fg_X7_23 kd_0 (kl kd_0) (ρo (off := 23) kd_0 rfl) dX7_mix_65 ?_
              refine r_al0 dX7_mix_68 ?_
              refine r_getR B 22 fg_X7_18 kd_0 (kl kd_0) (ρo (off := 22) kd_0 rfl) dX7_mix_69 ?_
              refine r_il2 dX7_mix_72 ?_
              refine r_aald B _ kd_22 (kl kd_22) (by decide) o20 (ρa (b := 83) kd_22 rfl) dX7_mix_73 ?_
              refine r_cVV1 B cb_X1_copySpace lk_X7_286 cv_X1_copySpace kd_23 (c_X1_copySpace (xl x) E isC_fresh (isC_codesI o20) mμ22 h) rfl rfl dX7_mix_74 (fun μ25 mμ25 h => ?_)
              refine r_al0 dX7_mix_77 ?_
              refine r_getR B 23 fg_X7_23 kd_0 (kl kd_0) (ρo (off := 23) kd_0 rfl) dX7_mix_78 ?_
              refine r_al0 dX7_mix_81 ?_
              refine r_getR B 22 fg_X7_18 kd_0 (kl kd_0) (ρo (off := 22) kd_0 rfl) dX7_mix_82 ?_
              refine r_il2 dX7_mix_85 ?_
              refine r_aald B _ kd_22 (kl kd_22) (by decide) o20 (ρa (b := 83) kd_22 rfl) dX7_mix_86 ?_
              refine r_al0 dX7_mix_87 ?_
              refine r_getR B 22 fg_X7_18 kd_0 (kl kd_0) (ρo (off := 22) kd_0 rfl) dX7_mix_88 ?_
              refine r_il3 dX7_mix_91 ?_
              refine r_aald B _ kd_22 (kl kd_22) (by decide) o21 (ρa (b := 83) kd_22 rfl) dX7_mix_92 ?_
              refine r_il4 dX7_mix_93 ?_
              refine r_cVV3 B cb_X1_putMixed lk_X7_295 cv_X1_putMixed kd_23 (c_X1_putMixed (xl x) E isC_fresh (isC_codesI o20) (isC_codesI o21) hp3 mμ25 h) rfl rfl dX7_mix_95 (fun μ26 mμ26 h => ?_)
              refine r_al0 dX7_mix_98 ?_
              refine r_il1 dX7_mix_99 ?_
              refine r_al0 dX7_mix_100 ?_
              refine r_getR B 23 fg_X7_23 kd_0 (kl kd_0) (ρo (off := 23) kd_0 rfl) dX7_mix_101 ?_
              refine r_getIN B fg_X7_185 kd_23 (kl kd_23) dX7_mix_104 ?_
              refine r_cVI2 B cb_X7_act lk_X7_227 cv_X7_act kd_0 (c_X7_act (xl x) E hp0 (mμ26 23 3) mμ26 h) rfl rfl dX7_mix_107 (fun r28 μ27 hr28 mμ27 h => ?_)
              exact r_iret B hr hr28 mμ27 dX7_mix_110 h
            · have h := h.2 c24
              refine r_al0 dX7_mix_58 ?_
              refine r_iconst dX7_mix_59 ?_
              refine r_cVI1 B cb_X7_refuse lk_X7_70 cv_X7_refuse kd_0 (c_X7_refuse (xl x) E (inR_k rfl) mμ22 h) rfl rfl dX7_mix_60 (fun r30 μ29 hr30 mμ29 h => ?_)
              exact r_iret B hr hr30 mμ29 dX7_mix_63 h
          · have h := h.2 c19
            refine r_al0 dX7_mix_34 ?_
            refine r_iconst dX7_mix_35 ?_
            refine r_cVI1 B cb_X7_refuse lk_X7_70 cv_X7_refuse kd_0 (c_X7_refuse (xl x) E (inR_k rfl) mμ11 h) rfl rfl dX7_mix_36 (fun r32 μ31 hr32 mμ31 h => ?_)
            exact r_iret B hr hr32 mμ31 dX7_mix_39 h
set_option maxRecDepth 20000 in
theorem t_X7_holes_68 {x : Cx} {E : Gx} (B : Bd x E 7 6 "SlipCovers") (hr : (xt x).sig.returnType = (some .int)) {Q : Int → Mem → Prop} {v1 : Int} {v5 : Int} {μ : Mem} (hv1 : inR v1) (hv5 : inR v5) (hμ : okM μ) (h : LP3 (wp_X7_holes_68 Q) v1 v5 μ) : J cX7_holes x E z0 μ 68 [some (rv E 0), some (iv v1), none, none, none, some (iv v5)] [] (MQ (xb x) (QI E z0 Q) (xa x) (xs x) 0 0 (gA E)) := by
  refine LP3_ind (T := fun (v1 : Int) (v5 : Int) (μ : Mem) => inR v1 → inR v5 → okM μ → J cX7_holes x E z0 μ 68 [some (rv E 0), some (iv v1), none, none, none, some (iv v5)] [] (MQ (xb x) (QI E z0 Q) (xa x) (xs x) 0 0 (gA E))) (fun X68 hX68 v1 v5 μ h hv1 hv5 hμ => ?_) h hv1 hv5 hμ
  unfold wp_X7_holes_68 at h
  refine r_il5 dX7_holes_68 ?_
  refine r_al0 dX7_holes_70 ?_
  refine r_getR B 23 fg_X7_23 kd_0 (kl kd_0) (ρo (off := 23) kd_0 rfl) dX7_holes_71 ?_
  refine r_getIN B fg_X7_211 kd_23 (kl kd_23) dX7_holes_74 ?_
  refine r_icmp_ge 108 dX7_holes_77 rfl hv5 (hμ 23 2) (fun c12 => ?_) (fun c12 => ?_)
  · have h := h.1 c12
    refine r_al0 dX7_holes_108 ?_
    refine r_il1 dX7_holes_109 ?_
    refine r_al0 dX7_holes_110 ?_
    refine r_getR B 23 fg_X7_23 kd_0 (kl kd_0) (ρo (off := 23) kd_0 rfl) dX7_holes_111 ?_
    refine r_getIN B fg_X7_185 kd_23 (kl kd_23) dX7_holes_114 ?_
    refine r_cVI2 B cb_X7_act lk_X7_227 cv_X7_act kd_0 (c_X7_act (xl x) E hv1 (hμ 23 3) hμ h) rfl rfl dX7_holes_117 (fun r14 μ13 hr14 mμ13 h => ?_)
    exact r_iret B hr hr14 mμ13 dX7_holes_120 h
  · have h := h.2 c12
    refine r_al0 dX7_holes_80 ?_
    refine r_getR B 70 fg_X7_37 kd_0 (kl kd_0) (ρo (off := 70) kd_0 rfl) dX7_holes_81 ?_
    refine r_getRN B 72 fg_X7_165 kd_70 (kl kd_70) (ρo (off := 2) kd_70 rfl) dX7_holes_84 ?_
    refine r_il5 dX7_holes_87 ?_
    obtain ⟨o15, h⟩ := h
    refine r_iald B kd_72 (kl kd_72) (by decide) o15 dX7_holes_89 ?_
    refine r_if_ne 102 dX7_holes_90 rfl (hμ _ _) (fun c16 => ?_) (fun c16 => ?_)
    · have h := h.1 c16
      refine r_inc5 dX7_holes_102 rfl ?_
      obtain ⟨o17, h⟩ := h
      refine r_goto 68 dX7_holes_105 rfl ?_
      exact J_weak (hX68 v1 (v5 + 1) μ h hv1 o17 hμ) (⟨rfl, ⟨rfl, ⟨rfl, trivial⟩⟩⟩)
    · have h := h.2 c16
      refine r_al0 dX7_holes_93 ?_
      refine r_getR B 23 fg_X7_23 kd_0 (kl kd_0) (ρo (off := 23) kd_0 rfl) dX7_holes_94 ?_
      refine r_il5 dX7_holes_97 ?_
      refine r_cVV1 B cb_X1_put lk_X7_221 cv_X1_put kd_23 (c_X1_put (xl x) E isC_fresh hv5 hμ h) rfl rfl dX7_holes_99 (fun μ18 mμ18 h => ?_)
      refine r_inc5 dX7_holes_102 rfl ?_
      obtain ⟨o19, h⟩ := h
      refine r_goto 68 dX7_holes_105 rfl ?_
      exact J_weak (hX68 v1 (v5 + 1) μ18 h hv1 o19 mμ18) (⟨rfl, ⟨rfl, ⟨rfl, trivial⟩⟩⟩)
set_option maxRecDepth 20000 in
theorem t_X7_holes_20 {x : Cx} {E : Gx} (B : Bd x E 7 6 "SlipCovers") (hr : (xt x).sig.returnType = (some .int)) {Q : Int → Mem → Prop} {v1 : Int} {v2 : Int} {v3 : Int} {s0 : Int} {μ : Mem} (hv1 : inR v1) (hv2 : inR v2) (hv3 : inR v3) (hs0 : inR s0) (hμ : okM μ) (h : wp_X7_holes_20 Q v1 v2 v3 s0 μ) : J cX7_holes x E z0 μ 20 [some (rv E 0), some (iv v1), some (iv v2), some (iv v3), none, none] [iv s0] (MQ (xb x) (QI E z0 Q) (xa x) (xs x) 0 0 (gA E)) := by
  unfold wp_X7_holes_20 at h
  refine r_il3 dX7_holes_20 ?_
  refine r_cSI1 B cb_X7_isSlips lk_X7_141 cs_X7_isSlips (c_X7_isSlips (xl x) E hv3 hμ h) rfl rfl dX7_holes_21 (fun r5 μ4 hr5 mμ4 h => ?_)
  refine r_cSI2 B cb_X7_flawOf lk_X7_144 cs_X7_flawOf (c_X7_flawOf (xl x) E hs0 hr5 mμ4 h) rfl rfl dX7_holes_24 (fun r7 μ6 hr7 mμ6 h => ?_)
  refine r_is4 dX7_holes_27 rfl ?_
  refine r_il4 dX7_holes_29 ?_
  refine r_if_eq 41 dX7_holes_31 rfl hr7 (fun c8 => ?_) (fun c8 => ?_)
  · have h := h.1 c8
    refine r_al0 dX7_holes_41 ?_
    refine r_al0 dX7_holes_42 ?_
    refine r_getR B 22 fg_X7_18 kd_0 (kl kd_0) (ρo (off := 22) kd_0 rfl) dX7_holes_43 ?_
    refine r_il2 dX7_holes_46 ?_
    obtain ⟨o9, h⟩ := h
    refine r_aald B _ kd_22 (kl kd_22) (by decide) o9 (ρa (b := 83) kd_22 rfl) dX7_holes_47 ?_
    refine r_il3 dX7_holes_48 ?_
    refine r_cVV2 B cb_X7_layTimes lk_X7_155 cv_X7_layTimes kd_0 (c_X7_layTimes (xl x) E (isC_codesI o9) hv3 mμ6 h) rfl rfl dX7_holes_49 (fun μ10 mμ10 h => ?_)
    refine r_al0 dX7_holes_52 ?_
    refine r_getR B 23 fg_X7_23 kd_0 (kl kd_0) (ρo (off := 23) kd_0 rfl) dX7_holes_53 ?_
    refine r_al0 dX7_holes_56 ?_
    refine r_getR B 22 fg_X7_18 kd_0 (kl kd_0) (ρo (off := 22) kd_0 rfl) dX7_holes_57 ?_
    refine r_il2 dX7_holes_60 ?_
    refine r_aald B _ kd_22 (kl kd_22) (by decide) o9 (ρa (b := 83) kd_22 rfl) dX7_holes_61 ?_
    refine r_cVV1 B cb_X1_copySpace lk_X7_286 cv_X1_copySpace kd_23 (c_X1_copySpace (xl x) E isC_fresh (isC_codesI o9) mμ10 h) rfl rfl dX7_holes_62 (fun μ11 mμ11 h => ?_)
    refine r_iconst dX7_holes_65 ?_
    refine r_is5 dX7_holes_66 rfl ?_
    exact J_weak (t_X7_holes_68 B hr hv1 (inR_k rfl) mμ11 h) (⟨rfl, ⟨rfl, ⟨rfl, trivial⟩⟩⟩)
  · have h := h.2 c8
    refine r_al0 dX7_holes_34 ?_
    refine r_il4 dX7_holes_35 ?_
    refine r_cVI1 B cb_X7_refuse lk_X7_70 cv_X7_refuse kd_0 (c_X7_refuse (xl x) E hr7 mμ6 h) rfl rfl dX7_holes_37 (fun r21 μ20 hr21 mμ20 h => ?_)
    exact r_iret B hr hr21 mμ20 dX7_holes_40 h
set_option maxRecDepth 20000 in
theorem t_X7_holes_19 {x : Cx} {E : Gx} (B : Bd x E 7 6 "SlipCovers") (hr : (xt x).sig.returnType = (some .int)) {Q : Int → Mem → Prop} {v1 : Int} {v2 : Int} {v3 : Int} {μ : Mem} (hv1 : inR v1) (hv2 : inR v2) (hv3 : inR v3) (hμ : okM μ) (h : wp_X7_holes_19 Q v1 v2 v3 μ) : J cX7_holes x E z0 μ 19 [some (rv E 0), some (iv v1), some (iv v2), some (iv v3), none, none] [] (MQ (xb x) (QI E z0 Q) (xa x) (xs x) 0 0 (gA E)) := by
  unfold wp_X7_holes_19 at h
  refine r_iconst dX7_holes_19 ?_
  exact J_weak (t_X7_holes_20 B hr hv1 hv2 hv3 (inR_k rfl) hμ h) (⟨rfl, ⟨rfl, ⟨rfl, ⟨rfl, trivial⟩⟩⟩⟩)
set_option maxRecDepth 20000 in
theorem c_X7_holes (l : Launch) (E : Gx) {p0 : Int} {p1 : Int} {p2 : Int} {μ : Mem} {Q : Int → Mem → Prop} (hp0 : inR p0) (hp1 : inR p1) (hp2 : inR p2) (hμ : okM μ) (h : wp_X7_holes p0 p1 p2 μ Q) : MT l yX7_holes cX7_holes 6 (some .int) E 7 0 0 z0 [rv E 0, iv p0, iv p1, iv p2] μ (QI E z0 Q) := by
  refine m_start [some (rv E 0), some (iv p0), some (iv p1), some (iv p2), none, none] (by decide) rfl rfl rfl (fun x hxl hxc hxs B hr hnm => ?_)
  unfold wp_X7_holes at h
  refine r_il1 dX7_holes_0 ?_
  refine r_cSI1 B cb_X7_isSlot lk_X7_239 cs_X7_isSlot (c_X7_isSlot (xl x) E hp0 hμ h) rfl rfl dX7_holes_1 (fun r2 μ1 hr2 mμ1 h => ?_)
  refine r_if_eq 19 dX7_holes_4 rfl hr2 (fun c3 => ?_) (fun c3 => ?_)
  · have h := h.1 c3
    exact J_weak (t_X7_holes_19 B hr hp0 hp1 hp2 mμ1 h) (⟨rfl, ⟨rfl, ⟨rfl, ⟨rfl, trivial⟩⟩⟩⟩)
  · have h := h.2 c3
    refine r_al0 dX7_holes_7 ?_
    refine r_il2 dX7_holes_8 ?_
    refine r_cVI1 B cb_X7_isCode lk_X7_103 cv_X7_isCode kd_0 (c_X7_isCode (xl x) E hp1 mμ1 h) rfl rfl dX7_holes_9 (fun r23 μ22 hr23 mμ22 h => ?_)
    refine r_if_eq 19 dX7_holes_12 rfl hr23 (fun c24 => ?_) (fun c24 => ?_)
    · have h := h.1 c24
      exact J_weak (t_X7_holes_19 B hr hp0 hp1 hp2 mμ22 h) (⟨rfl, ⟨rfl, ⟨rfl, ⟨rfl, trivial⟩⟩⟩⟩)
    · have h := h.2 c24
      refine r_iconst dX7_holes_15 ?_
      refine r_goto 20 dX7_holes_16 rfl ?_
      exact J_weak (t_X7_holes_20 B hr hp0 hp1 hp2 (inR_k rfl) mμ22 h) (⟨rfl, ⟨rfl, ⟨rfl, ⟨rfl, trivial⟩⟩⟩⟩)
set_option maxRecDepth 20000 in
theorem c_X7_undo (l : Launch) (E : Gx) {μ : Mem} {Q : Int → Mem → Prop} (hμ : okM μ) (h : wp_X7_undo  μ Q) : MT l yX7_undo cX7_undo 1 (some .int) E 6 0 0 z0 [rv E 0] μ (QI E z0 Q) := by
  refine m_start [some (rv E 0)] (by decide) rfl rfl rfl (fun x hxl hxc hxs B hr hnm => ?_)
  unfold wp_X7_undo at h
  refine r_al0 dX7_undo_0 ?_
  refine r_getR B 27 fg_X7_30 kd_0 (kl kd_0) (ρo (off := 27) kd_0 rfl) dX7_undo_1 ?_
  refine r_getIN B fg_X7_299 kd_27 (kl kd_27) dX7_undo_4 ?_
  refine r_if_ne 16 dX7_undo_7 rfl (hμ 27 3) (fun c1 => ?_) (fun c1 => ?_)
  · have h := h.1 c1
    refine r_al0 dX7_undo_16 ?_
    refine r_getR B 27 fg_X7_30 kd_0 (kl kd_0) (ρo (off := 27) kd_0 rfl) dX7_undo_17 ?_
    refine r_al0 dX7_undo_20 ?_
    refine r_getR B 22 fg_X7_18 kd_0 (kl kd_0) (ρo (off := 22) kd_0 rfl) dX7_undo_21 ?_
    refine r_cVV1 B cb_X4_giveBack lk_X7_302 cv_X4_giveBack kd_27 (c_X4_giveBack (xl x) E hμ h) rfl rfl dX7_undo_24 (fun μ2 mμ2 h => ?_)
    refine r_al0 dX7_undo_27 ?_
    refine r_al0 dX7_undo_28 ?_
    refine r_getR B 27 fg_X7_30 kd_0 (kl kd_0) (ρo (off := 27) kd_0 rfl) dX7_undo_29 ?_
    refine r_getIN B fg_X7_299 kd_27 (kl kd_27) dX7_undo_32 ?_
    refine r_cVI1 B cb_X7_accept lk_X7_100 cv_X7_accept kd_0 (c_X7_accept (xl x) E (mμ2 27 3) mμ2 h) rfl rfl dX7_undo_35 (fun r4 μ3 hr4 mμ3 h => ?_)
    exact r_iret B hr hr4 mμ3 dX7_undo_38 h
  · have h := h.2 c1
    refine r_al0 dX7_undo_10 ?_
    refine r_iconst dX7_undo_11 ?_
    refine r_cVI1 B cb_X7_refuse lk_X7_70 cv_X7_refuse kd_0 (c_X7_refuse (xl x) E (inR_k rfl) hμ h) rfl rfl dX7_undo_12 (fun r6 μ5 hr6 mμ5 h => ?_)
    exact r_iret B hr hr6 mμ5 dX7_undo_15 h
set_option maxRecDepth 20000 in
theorem t_X7_same_63 {x : Cx} {E : Gx} (B : Bd x E 3 4 "SlipCovers") (hr : (xt x).sig.returnType = (some .int)) {Q : Int → Mem → Prop} {s0 : Int} {μ : Mem} (hs0 : inR s0) (hμ : okM μ) (h : wp_X7_same_63 Q s0 μ) : J cX7_same x E z0 μ 63 [some (rv E 0), none, none, none] [iv s0] (MQ (xb x) (QI E z0 Q) (xa x) (xs x) 0 0 (gA E)) := by
  unfold wp_X7_same_63 at h
  refine r_is3 dX7_same_63 rfl ?_
  refine r_al0 dX7_same_64 ?_
  refine r_il3 dX7_same_65 ?_
  refine r_if_eq 73 dX7_same_66 rfl hs0 (fun c14 => ?_) (fun c14 => ?_)
  · have h := h.1 c14
    refine r_iconst dX7_same_73 ?_
    refine r_cVI1 B cb_X7_accept lk_X7_100 cv_X7_accept kd_0 (c_X7_accept (xl x) E (inR_k rfl) hμ h) rfl rfl dX7_same_74 (fun r16 μ15 hr16 mμ15 h => ?_)
    exact r_iret B hr hr16 mμ15 dX7_same_77 h
  · have h := h.2 c14
    refine r_iconst dX7_same_69 ?_
    refine r_goto 74 dX7_same_70 rfl ?_
    refine r_cVI1 B cb_X7_accept lk_X7_100 cv_X7_accept kd_0 (c_X7_accept (xl x) E (inR_k rfl) hμ h) rfl rfl dX7_same_74 (fun r18 μ17 hr18 mμ17 h => ?_)
    exact r_iret B hr hr18 mμ17 dX7_same_77 h
set_option maxRecDepth 20000 in
theorem t_X7_same_62 {x : Cx} {E : Gx} (B : Bd x E 3 4 "SlipCovers") (hr : (xt x).sig.returnType = (some .int)) {Q : Int → Mem → Prop} {μ : Mem} (hμ : okM μ) (h : wp_X7_same_62 Q μ) : J cX7_same x E z0 μ 62 [some (rv E 0), none, none, none] [] (MQ (xb x) (QI E z0 Q) (xa x) (xs x) 0 0 (gA E)) := by
  unfold wp_X7_same_62 at h
  refine r_iconst dX7_same_62 ?_
  exact J_weak (t_X7_same_63 B hr (inR_k rfl) hμ h) (⟨rfl, trivial⟩)
set_option maxRecDepth 20000 in
theorem c_X7_same (l : Launch) (E : Gx) {p0 : Int} {p1 : Int} {μ : Mem} {Q : Int → Mem → Prop} (hp0 : inR p0) (hp1 : inR p1) (hμ : okM μ) (h : wp_X7_same p0 p1 μ Q) : MT l yX7_same cX7_same 4 (some .int) E 3 0 0 z0 [rv E 0, iv p0, iv p1] μ (QI E z0 Q) := by
  refine m_start [some (rv E 0), some (iv p0), some (iv p1), none] (by decide) rfl rfl rfl (fun x hxl hxc hxs B hr hnm => ?_)
  unfold wp_X7_same at h
  refine r_al0 dX7_same_0 ?_
  refine r_il1 dX7_same_1 ?_
  refine r_cVI1 B cb_X7_isCode lk_X7_103 cv_X7_isCode kd_0 (c_X7_isCode (xl x) E hp0 hμ h) rfl rfl dX7_same_2 (fun r2 μ1 hr2 mμ1 h => ?_)
  refine r_if_eq 16 dX7_same_5 rfl hr2 (fun c3 => ?_) (fun c3 => ?_)
  · have h := h.1 c3
    refine r_al0 dX7_same_16 ?_
    refine r_iconst dX7_same_17 ?_
    refine r_cVI1 B cb_X7_refuse lk_X7_70 cv_X7_refuse kd_0 (c_X7_refuse (xl x) E (inR_k rfl) mμ1 h) rfl rfl dX7_same_18 (fun r5 μ4 hr5 mμ4 h => ?_)
    exact r_iret B hr hr5 mμ4 dX7_same_21 h
  · have h := h.2 c3
    refine r_al0 dX7_same_8 ?_
    refine r_il2 dX7_same_9 ?_
    refine r_cVI1 B cb_X7_isCode lk_X7_103 cv_X7_isCode kd_0 (c_X7_isCode (xl x) E hp1 mμ1 h) rfl rfl dX7_same_10 (fun r7 μ6 hr7 mμ6 h => ?_)
    refine r_if_ne 22 dX7_same_13 rfl hr7 (fun c8 => ?_) (fun c8 => ?_)
    · have h := h.1 c8
      refine r_al0 dX7_same_22 ?_
      refine r_getR B 22 fg_X7_18 kd_0 (kl kd_0) (ρo (off := 22) kd_0 rfl) dX7_same_23 ?_
      refine r_il1 dX7_same_26 ?_
      obtain ⟨o9, h⟩ := h
      refine r_aald B _ kd_22 (kl kd_22) (by decide) o9 (ρa (b := 83) kd_22 rfl) dX7_same_27 ?_
      refine r_al0 dX7_same_28 ?_
      refine r_getR B 22 fg_X7_18 kd_0 (kl kd_0) (ρo (off := 22) kd_0 rfl) dX7_same_29 ?_
      refine r_il2 dX7_same_32 ?_
      obtain ⟨o10, h⟩ := h
      refine r_aald B _ kd_22 (kl kd_22) (by decide) o10 (ρa (b := 83) kd_22 rfl) dX7_same_33 ?_
      refine r_cVI1 B cb_X1_hasSpaceOf lk_X7_292 cv_X1_hasSpaceOf ((isC_codesI o9)).1 (c_X1_hasSpaceOf (xl x) E (isC_codesI o9) (isC_codesI o10) mμ6 h) rfl rfl dX7_same_34 (fun r12 μ11 hr12 mμ11 h => ?_)
      refine r_if_eq 62 dX7_same_37 rfl hr12 (fun c13 => ?_) (fun c13 => ?_)
      · have h := h.1 c13
        exact J_weak (t_X7_same_62 B hr mμ11 h) (⟨rfl, trivial⟩)
      · have h := h.2 c13
        refine r_al0 dX7_same_40 ?_
        refine r_getR B 22 fg_X7_18 kd_0 (kl kd_0) (ρo (off := 22) kd_0 rfl) dX7_same_41 ?_
        refine r_il1 dX7_same_44 ?_
        refine r_aald B _ kd_22 (kl kd_22) (by decide) o9 (ρa (b := 83) kd_22 rfl) dX7_same_45 ?_
        refine r_al0 dX7_same_46 ?_
        refine r_getR B 22 fg_X7_18 kd_0 (kl kd_0) (ρo (off := 22) kd_0 rfl) dX7_same_47 ?_
        refine r_il2 dX7_same_50 ?_
        refine r_aald B _ kd_22 (kl kd_22) (by decide) o10 (ρa (b := 83) kd_22 rfl) dX7_same_51 ?_
        refine r_cVI1 B cb_X1_hasWordsOf lk_X7_305 cv_X1_hasWordsOf ((isC_codesI o9)).1 (c_X1_hasWordsOf (xl x) E (isC_codesI o9) (isC_codesI o10) mμ11 h) rfl rfl dX7_same_52 (fun r20 μ19 hr20 mμ19 h => ?_)
        refine r_if_eq 62 dX7_same_55 rfl hr20 (fun c21 => ?_) (fun c21 => ?_)
        · have h := h.1 c21
          exact J_weak (t_X7_same_62 B hr mμ19 h) (⟨rfl, trivial⟩)
        · have h := h.2 c21
          refine r_iconst dX7_same_58 ?_
          refine r_goto 63 dX7_same_59 rfl ?_
          exact J_weak (t_X7_same_63 B hr (inR_k rfl) mμ19 h) (⟨rfl, trivial⟩)
    · have h := h.2 c8
      refine r_al0 dX7_same_16 ?_
      refine r_iconst dX7_same_17 ?_
      refine r_cVI1 B cb_X7_refuse lk_X7_70 cv_X7_refuse kd_0 (c_X7_refuse (xl x) E (inR_k rfl) mμ6 h) rfl rfl dX7_same_18 (fun r23 μ22 hr23 mμ22 h => ?_)
      exact r_iret B hr hr23 mμ22 dX7_same_21 h
set_option maxRecDepth 20000 in
theorem c_X7_bytes (l : Launch) (E : Gx) {μ : Mem} {Q : Int → Mem → Prop} (hμ : okM μ) (h : wp_X7_bytes  μ Q) : MT l yX7_bytes cX7_bytes 1 (some .int) E 1 0 0 z0 [rv E 0] μ (QI E z0 Q) := by
  refine m_start [some (rv E 0)] (by decide) rfl rfl rfl (fun x hxl hxc hxs B hr hnm => ?_)
  unfold wp_X7_bytes at h
  refine r_al0 dX7_bytes_0 ?_
  refine r_getR B 1 fg_X7_10 kd_0 (kl kd_0) (ρo (off := 1) kd_0 rfl) dX7_bytes_1 ?_
  refine r_getIN B fg_X7_67 kd_1 (kl kd_1) dX7_bytes_4 ?_
  exact r_iret B hr (hμ 1 1) hμ dX7_bytes_7 h
set_option maxRecDepth 20000 in
theorem c_X7_trouble (l : Launch) (E : Gx) {μ : Mem} {Q : Int → Mem → Prop} (hμ : okM μ) (h : wp_X7_trouble  μ Q) : MT l yX7_trouble cX7_trouble 1 (some .int) E 1 0 0 z0 [rv E 0] μ (QI E z0 Q) := by
  refine m_start [some (rv E 0)] (by decide) rfl rfl rfl (fun x hxl hxc hxs B hr hnm => ?_)
  unfold wp_X7_trouble at h
  refine r_al0 dX7_trouble_0 ?_
  refine r_getI B fg_X7_314 kd_0 (kl kd_0) dX7_trouble_1 ?_
  exact r_iret B hr (hμ 0 8) hμ dX7_trouble_4 h
set_option maxRecDepth 20000 in
theorem c_X8_thrown (l : Launch) (E : Gx) {μ : Mem} {Q : Int → Mem → Prop} (hμ : okM μ) (h : wp_X8_thrown  μ Q) : MT l yX8_thrown cX8_thrown 1 (some .int) E 1 0 0 z0 [rv E 115] μ (QI E z0 Q) := by
  refine m_start [some (rv E 115)] (by decide) rfl rfl rfl (fun x hxl hxc hxs B hr hnm => ?_)
  unfold wp_X8_thrown at h
  refine r_al0 dX8_thrown_0 ?_
  refine r_getI B fg_X8_42 kd_115 (kl kd_115) dX8_thrown_1 ?_
  exact r_iret B hr (hμ 115 0) hμ dX8_thrown_4 h
set_option maxRecDepth 20000 in
theorem c_X8_refused (l : Launch) (E : Gx) {p0 : Int} {μ : Mem} {Q : Int → Mem → Prop} (hp0 : inR p0) (hμ : okM μ) (h : wp_X8_refused p0 μ Q) : MT l yX8_refused cX8_refused 2 (some .int) E 1 0 0 z0 [rv E 115, iv p0] μ (QI E z0 Q) := by
  refine m_start [some (rv E 115), some (iv p0)] (by decide) rfl rfl rfl (fun x hxl hxc hxs B hr hnm => ?_)
  unfold wp_X8_refused at h
  refine r_al0 dX8_refused_0 ?_
  refine r_il1 dX8_refused_1 ?_
  refine r_putI B fg_X8_45 fp_8_1 kd_115 (kl kd_115) dX8_refused_2 ?_
  refine n_mem (fun μ1 eμ1 => ?_)
  have h := h μ1 eμ1
  have mμ1 : okM μ1 := eqM eμ1 (okM_sI hμ hp0)
  refine r_al0 dX8_refused_5 ?_
  refine r_iconst dX8_refused_6 ?_
  refine r_putI B fg_X8_9 fp_8_2 kd_115 (kl kd_115) dX8_refused_7 ?_
  refine n_mem (fun μ2 eμ2 => ?_)
  have h := h μ2 eμ2
  have mμ2 : okM μ2 := eqM eμ2 (okM_sI mμ1 (inR_k rfl))
  refine r_iconst dX8_refused_10 ?_
  exact r_iret B hr (inR_k rfl) mμ2 dX8_refused_11 h
set_option maxRecDepth 20000 in
theorem c_X8_good (l : Launch) (E : Gx) {p0 : Int} {μ : Mem} {Q : Int → Mem → Prop} (hp0 : inR p0) (hμ : okM μ) (h : wp_X8_good p0 μ Q) : MT l yX8_good cX8_good 2 (some .int) E 1 0 0 z0 [rv E 115, iv p0] μ (QI E z0 Q) := by
  refine m_start [some (rv E 115), some (iv p0)] (by decide) rfl rfl rfl (fun x hxl hxc hxs B hr hnm => ?_)
  unfold wp_X8_good at h
  refine r_al0 dX8_good_0 ?_
  refine r_iconst dX8_good_1 ?_
  refine r_putI B fg_X8_45 fp_8_1 kd_115 (kl kd_115) dX8_good_2 ?_
  refine n_mem (fun μ1 eμ1 => ?_)
  have h := h μ1 eμ1
  have mμ1 : okM μ1 := eqM eμ1 (okM_sI hμ (inR_k rfl))
  refine r_al0 dX8_good_5 ?_
  refine r_iconst dX8_good_6 ?_
  refine r_putI B fg_X8_9 fp_8_2 kd_115 (kl kd_115) dX8_good_7 ?_
  refine n_mem (fun μ2 eμ2 => ?_)
  have h := h μ2 eμ2
  have mμ2 : okM μ2 := eqM eμ2 (okM_sI mμ1 (inR_k rfl))
  refine r_il1 dX8_good_10 ?_
  exact r_iret B hr hp0 mμ2 dX8_good_11 h
set_option maxRecDepth 20000 in
theorem c_X8_granted (l : Launch) (E : Gx) {p0 : Int} {μ : Mem} {Q : Int → Mem → Prop} (hp0 : inR p0) (hμ : okM μ) (h : wp_X8_granted p0 μ Q) : MT l yX8_granted cX8_granted 2 (some .boolean) E 1 0 0 z0 [rv E 115, iv p0] μ (QI E z0 Q) := by
  refine m_start [some (rv E 115), some (iv p0)] (by decide) rfl rfl rfl (fun x hxl hxc hxs B hr hnm => ?_)
  unfold wp_X8_granted at h
  refine r_al0 dX8_granted_0 ?_
  refine r_il1 dX8_granted_1 ?_
  refine r_putI B fg_X8_45 fp_8_1 kd_115 (kl kd_115) dX8_granted_2 ?_
  refine n_mem (fun μ1 eμ1 => ?_)
  have h := h μ1 eμ1
  have mμ1 : okM μ1 := eqM eμ1 (okM_sI hμ hp0)
  refine r_al0 dX8_granted_5 ?_
  refine r_iconst dX8_granted_6 ?_
  refine r_putI B fg_X8_9 fp_8_2 kd_115 (kl kd_115) dX8_granted_7 ?_
  refine n_mem (fun μ2 eμ2 => ?_)
  have h := h μ2 eμ2
  have mμ2 : okM μ2 := eqM eμ2 (okM_sI mμ1 (inR_k rfl))
  refine r_il1 dX8_granted_10 ?_
  refine r_if_ne 18 dX8_granted_11 rfl hp0 (fun c3 => ?_) (fun c3 => ?_)
  · have h := h.1 c3
    refine r_iconst dX8_granted_18 ?_
    exact r_zret B hr (Or.inl rfl) mμ2 dX8_granted_19 h
  · have h := h.2 c3
    refine r_iconst dX8_granted_14 ?_
    refine r_goto 19 dX8_granted_15 rfl ?_
    exact r_zret B hr (Or.inr rfl) mμ2 dX8_granted_19 h
set_option maxRecDepth 20000 in
theorem c_X8_in (l : Launch) (E : Gx) {p0 : Int} {p1 : Int} {p2 : Int} {μ : Mem} {Q : Int → Mem → Prop} (hp0 : inR p0) (hp1 : inR p1) (hp2 : inR p2) (hμ : okM μ) (h : wp_X8_in p0 p1 p2 μ Q) : MT l yX8_in cX8_in 3 (some .boolean) E 1 0 0 z0 [iv p0, iv p1, iv p2] μ (QI E z0 Q) := by
  refine m_start [some (iv p0), some (iv p1), some (iv p2)] (by decide) rfl rfl rfl (fun x hxl hxc hxs B hr hnm => ?_)
  unfold wp_X8_in at h
  refine r_il0 dX8_in_0 ?_
  refine r_il1 dX8_in_1 ?_
  refine r_icmp_lt 14 dX8_in_2 rfl hp0 hp1 (fun c1 => ?_) (fun c1 => ?_)
  · have h := h.1 c1
    refine r_iconst dX8_in_14 ?_
    exact r_zret B hr (Or.inl rfl) hμ dX8_in_15 h
  · have h := h.2 c1
    refine r_il0 dX8_in_5 ?_
    refine r_il2 dX8_in_6 ?_
    refine r_icmp_gt 14 dX8_in_7 rfl hp0 hp2 (fun c2 => ?_) (fun c2 => ?_)
    · have h := h.1 c2
      refine r_iconst dX8_in_14 ?_
      exact r_zret B hr (Or.inl rfl) hμ dX8_in_15 h
    · have h := h.2 c2
      refine r_iconst dX8_in_10 ?_
      refine r_goto 15 dX8_in_11 rfl ?_
      exact r_zret B hr (Or.inr rfl) hμ dX8_in_15 h
set_option maxRecDepth 20000 in
theorem t_X8_feed_76 {x : Cx} {E : Gx} (B : Bd x E 1 8 "SlipCoversModel") (hr : (xt x).sig.returnType = (some .int)) {Q : Int → Mem → Prop} {X23 : Int → Int → Int → Int → Int → Int → Mem → Prop} (hX23 : ∀ (v1 : Int) (v2 : Int) (v3 : Int) (v4 : Int) (v5 : Int) (v6 : Int) (μ : Mem), X23 v1 v2 v3 v4 v5 v6 μ → inR v1 → inR v2 → inR v3 → inR v4 → inR v5 → inR v6 → okM μ → J cX8_feed x E z0 μ 23 [some (rv E 115), some (iv v1), some (iv v2), some (iv v3), some (iv v4), some (iv v5), some (iv v6), none] [] (MQ (xb x) (QI E z0 Q) (xa x) (xs x) 0 0 (gA E))) {v1 : Int} {v2 : Int} {v3 : Int} {v4 : Int} {v5 : Int} {v6 : Int} {s0 : Int} {μ : Mem} (hv1 : inR v1) (hv2 : inR v2) (hv3 : inR v3) (hv4 : inR v4) (hv5 : inR v5) (hv6 : inR v6) (hs0 : inR s0) (hμ : okM μ) (h : wp_X8_feed_76 Q X23 v1 v2 v3 v4 v5 v6 s0 μ) : J cX8_feed x E z0 μ 76 [some (rv E 115), some (iv v1), some (iv v2), some (iv v3), some (iv v4), some (iv v5), some (iv v6), none] [iv s0] (MQ (xb x) (QI E z0 Q) (xa x) (xs x) 0 0 (gA E)) := by
  unfold wp_X8_feed_76 at h
  refine r_is7 dX8_feed_76 rfl ?_
  refine r_al0 dX8_feed_78 ?_
  refine r_getR B 116 fg_X8_13 kd_115 (kl kd_115) (ρo (off := 1) kd_115 rfl) dX8_feed_79 ?_
  refine r_al0 dX8_feed_82 ?_
  refine r_getI B fg_X8_48 kd_115 (kl kd_115) dX8_feed_83 ?_
  refine r_il6 dX8_feed_86 ?_
  refine r_iadd dX8_feed_88 ?_
  refine r_il7 dX8_feed_89 ?_
  refine r_bipush dX8_feed_91 (by decide) ?_
  refine r_bipush dX8_feed_93 (by decide) ?_
  refine r_il6 dX8_feed_95 ?_
  refine r_iconst dX8_feed_97 ?_
  obtain ⟨o11, h⟩ := h
  refine r_irem dX8_feed_98 ⟨o11, (by decide)⟩ hv6 (inR_k rfl) ?_
  refine r_imul dX8_feed_99 ?_
  refine r_isub dX8_feed_100 ?_
  refine r_ishr dX8_feed_101 ?_
  refine r_sipush dX8_feed_102 (by decide) ?_
  refine r_iand dX8_feed_105 ?_
  obtain ⟨o12, h⟩ := h
  refine r_iast B kd_116 (kl kd_116) (by decide) o12 dX8_feed_106 ?_
  refine n_mem (fun μ13 eμ13 => ?_)
  have h := h μ13 eμ13
  have mμ13 : okM μ13 := eqM eμ13 (okM_sI hμ (inR_t _))
  refine r_inc6 dX8_feed_107 rfl ?_
  obtain ⟨o14, h⟩ := h
  refine r_goto 23 dX8_feed_110 rfl ?_
  exact J_weak (hX23 v1 v2 v3 v4 v5 (v6 + 1) μ13 h hv1 hv2 hv3 hv4 hv5 o14 mμ13) (⟨rfl, ⟨rfl, ⟨rfl, ⟨rfl, ⟨rfl, ⟨rfl, ⟨rfl, trivial⟩⟩⟩⟩⟩⟩⟩)
set_option maxRecDepth 20000 in
theorem t_X8_feed_23 {x : Cx} {E : Gx} (B : Bd x E 1 8 "SlipCoversModel") (hr : (xt x).sig.returnType = (some .int)) {Q : Int → Mem → Prop} {v1 : Int} {v2 : Int} {v3 : Int} {v4 : Int} {v5 : Int} {v6 : Int} {μ : Mem} (hv1 : inR v1) (hv2 : inR v2) (hv3 : inR v3) (hv4 : inR v4) (hv5 : inR v5) (hv6 : inR v6) (hμ : okM μ) (h : LP7 (wp_X8_feed_23 Q) v1 v2 v3 v4 v5 v6 μ) : J cX8_feed x E z0 μ 23 [some (rv E 115), some (iv v1), some (iv v2), some (iv v3), some (iv v4), some (iv v5), some (iv v6), none] [] (MQ (xb x) (QI E z0 Q) (xa x) (xs x) 0 0 (gA E)) := by
  refine LP7_ind (T := fun (v1 : Int) (v2 : Int) (v3 : Int) (v4 : Int) (v5 : Int) (v6 : Int) (μ : Mem) => inR v1 → inR v2 → inR v3 → inR v4 → inR v5 → inR v6 → okM μ → J cX8_feed x E z0 μ 23 [some (rv E 115), some (iv v1), some (iv v2), some (iv v3), some (iv v4), some (iv v5), some (iv v6), none] [] (MQ (xb x) (QI E z0 Q) (xa x) (xs x) 0 0 (gA E))) (fun X23 hX23 v1 v2 v3 v4 v5 v6 μ h hv1 hv2 hv3 hv4 hv5 hv6 hμ => ?_) h hv1 hv2 hv3 hv4 hv5 hv6 hμ
  unfold wp_X8_feed_23 at h
  refine r_il6 dX8_feed_23 ?_
  refine r_bipush dX8_feed_25 (by decide) ?_
  refine r_icmp_ge 113 dX8_feed_27 rfl hv6 (inR_k rfl) (fun c4 => ?_) (fun c4 => ?_)
  · have h := h.1 c4
    refine r_al0 dX8_feed_113 ?_
    refine r_dup rfl dX8_feed_114 ?_
    refine r_getI B fg_X8_48 kd_115 (kl kd_115) dX8_feed_115 ?_
    refine r_bipush dX8_feed_118 (by decide) ?_
    refine r_iadd dX8_feed_120 ?_
    obtain ⟨o5, h⟩ := h
    refine r_putI B fg_X8_48 fp_8_4 kd_115 (kl kd_115) dX8_feed_121 ?_
    refine n_mem (fun μ6 eμ6 => ?_)
    have h := h μ6 eμ6
    have mμ6 : okM μ6 := eqM eμ6 (okM_sI hμ o5)
    refine r_al0 dX8_feed_124 ?_
    refine r_getI B fg_X8_48 kd_115 (kl kd_115) dX8_feed_125 ?_
    exact r_iret B hr (mμ6 115 4) mμ6 dX8_feed_128 h
  · have h := h.2 c4
    refine r_il6 dX8_feed_30 ?_
    refine r_iconst dX8_feed_32 ?_
    refine r_icmp_ge 40 dX8_feed_33 rfl hv6 (inR_k rfl) (fun c7 => ?_) (fun c7 => ?_)
    · have h := h.1 c7
      refine r_il6 dX8_feed_40 ?_
      refine r_bipush dX8_feed_42 (by decide) ?_
      refine r_icmp_ge 51 dX8_feed_44 rfl hv6 (inR_k rfl) (fun c8 => ?_) (fun c8 => ?_)
      · have h := h.1 c8
        refine r_il6 dX8_feed_51 ?_
        refine r_bipush dX8_feed_53 (by decide) ?_
        refine r_icmp_ge 62 dX8_feed_55 rfl hv6 (inR_k rfl) (fun c9 => ?_) (fun c9 => ?_)
        · have h := h.1 c9
          refine r_il6 dX8_feed_62 ?_
          refine r_bipush dX8_feed_64 (by decide) ?_
          refine r_icmp_ge 74 dX8_feed_66 rfl hv6 (inR_k rfl) (fun c10 => ?_) (fun c10 => ?_)
          · have h := h.1 c10
            refine r_il5 dX8_feed_74 ?_
            exact J_weak (t_X8_feed_76 B hr hX23 hv1 hv2 hv3 hv4 hv5 hv6 hv5 hμ h) (⟨rfl, ⟨rfl, ⟨rfl, ⟨rfl, ⟨rfl, ⟨rfl, ⟨rfl, trivial⟩⟩⟩⟩⟩⟩⟩)
          · have h := h.2 c10
            refine r_il4 dX8_feed_69 ?_
            refine r_goto 76 dX8_feed_71 rfl ?_
            exact J_weak (t_X8_feed_76 B hr hX23 hv1 hv2 hv3 hv4 hv5 hv6 hv4 hμ h) (⟨rfl, ⟨rfl, ⟨rfl, ⟨rfl, ⟨rfl, ⟨rfl, ⟨rfl, trivial⟩⟩⟩⟩⟩⟩⟩)
        · have h := h.2 c9
          refine r_il3 dX8_feed_58 ?_
          refine r_goto 76 dX8_feed_59 rfl ?_
          exact J_weak (t_X8_feed_76 B hr hX23 hv1 hv2 hv3 hv4 hv5 hv6 hv3 hμ h) (⟨rfl, ⟨rfl, ⟨rfl, ⟨rfl, ⟨rfl, ⟨rfl, ⟨rfl, trivial⟩⟩⟩⟩⟩⟩⟩)
      · have h := h.2 c8
        refine r_il2 dX8_feed_47 ?_
        refine r_goto 76 dX8_feed_48 rfl ?_
        exact J_weak (t_X8_feed_76 B hr hX23 hv1 hv2 hv3 hv4 hv5 hv6 hv2 hμ h) (⟨rfl, ⟨rfl, ⟨rfl, ⟨rfl, ⟨rfl, ⟨rfl, ⟨rfl, trivial⟩⟩⟩⟩⟩⟩⟩)
    · have h := h.2 c7
      refine r_il1 dX8_feed_36 ?_
      refine r_goto 76 dX8_feed_37 rfl ?_
      exact J_weak (t_X8_feed_76 B hr hX23 hv1 hv2 hv3 hv4 hv5 hv6 hv1 hμ h) (⟨rfl, ⟨rfl, ⟨rfl, ⟨rfl, ⟨rfl, ⟨rfl, ⟨rfl, trivial⟩⟩⟩⟩⟩⟩⟩)
set_option maxRecDepth 20000 in
theorem c_X8_feed (l : Launch) (E : Gx) {p0 : Int} {p1 : Int} {p2 : Int} {p3 : Int} {p4 : Int} {μ : Mem} {Q : Int → Mem → Prop} (hp0 : inR p0) (hp1 : inR p1) (hp2 : inR p2) (hp3 : inR p3) (hp4 : inR p4) (hμ : okM μ) (h : wp_X8_feed p0 p1 p2 p3 p4 μ Q) : MT l yX8_feed cX8_feed 8 (some .int) E 1 0 0 z0 [rv E 115, iv p0, iv p1, iv p2, iv p3, iv p4] μ (QI E z0 Q) := by
  refine m_start [some (rv E 115), some (iv p0), some (iv p1), some (iv p2), some (iv p3), some (iv p4), none, none] (by decide) rfl rfl rfl (fun x hxl hxc hxs B hr hnm => ?_)
  unfold wp_X8_feed at h
  refine r_al0 dX8_feed_0 ?_
  refine r_iconst dX8_feed_1 ?_
  refine r_putI B fg_X8_42 fp_8_0 kd_115 (kl kd_115) dX8_feed_2 ?_
  refine n_mem (fun μ1 eμ1 => ?_)
  have h := h μ1 eμ1
  have mμ1 : okM μ1 := eqM eμ1 (okM_sI hμ (inR_k rfl))
  refine r_al0 dX8_feed_5 ?_
  refine r_getI B fg_X8_48 kd_115 (kl kd_115) dX8_feed_6 ?_
  refine r_bipush dX8_feed_9 (by decide) ?_
  refine r_iadd dX8_feed_11 ?_
  refine r_sipush dX8_feed_12 (by decide) ?_
  obtain ⟨o2, h⟩ := h
  refine r_icmp_le 20 dX8_feed_15 rfl o2 (inR_k rfl) (fun c3 => ?_) (fun c3 => ?_)
  · have h := h.1 c3
    refine r_iconst dX8_feed_20 ?_
    refine r_is6 dX8_feed_21 rfl ?_
    exact J_weak (t_X8_feed_23 B hr hp0 hp1 hp2 hp3 hp4 (inR_k rfl) mμ1 h) (⟨rfl, ⟨rfl, ⟨rfl, ⟨rfl, ⟨rfl, ⟨rfl, ⟨rfl, trivial⟩⟩⟩⟩⟩⟩⟩)
  · have h := h.2 c3
    refine r_iconst dX8_feed_18 ?_
    exact r_iret B hr (inR_k rfl) mμ1 dX8_feed_19 h
set_option maxRecDepth 20000 in
theorem c_X8_flaw (l : Launch) (E : Gx) {p0 : Int} {μ : Mem} {Q : Mem → Prop} (hp0 : inR p0) (hμ : okM μ) (h : wp_X8_flaw p0 μ Q) : MT l yX8_flaw cX8_flaw 2 none E 1 0 0 z0 [rv E 115, iv p0] μ (QV E z0 Q) := by
  refine m_start [some (rv E 115), some (iv p0)] (by decide) rfl rfl rfl (fun x hxl hxc hxs B hr hnm => ?_)
  unfold wp_X8_flaw at h
  refine r_al0 dX8_flaw_0 ?_
  refine r_getI B fg_X8_51 kd_115 (kl kd_115) dX8_flaw_1 ?_
  refine r_if_le 8 dX8_flaw_4 rfl (hμ 115 7) (fun c1 => ?_) (fun c1 => ?_)
  · have h := h.1 c1
    refine r_al0 dX8_flaw_8 ?_
    refine r_il1 dX8_flaw_9 ?_
    refine r_putI B fg_X8_51 fp_8_7 kd_115 (kl kd_115) dX8_flaw_10 ?_
    refine n_mem (fun μ2 eμ2 => ?_)
    have h := h μ2 eμ2
    have mμ2 : okM μ2 := eqM eμ2 (okM_sI hμ hp0)
    refine r_al0 dX8_flaw_13 ?_
    refine r_al0 dX8_flaw_14 ?_
    refine r_getI B fg_X8_54 kd_115 (kl kd_115) dX8_flaw_15 ?_
    refine r_putI B fg_X8_57 fp_8_8 kd_115 (kl kd_115) dX8_flaw_18 ?_
    refine n_mem (fun μ3 eμ3 => ?_)
    have h := h μ3 eμ3
    have mμ3 : okM μ3 := eqM eμ3 (okM_sI mμ2 (mμ2 115 10))
    exact r_vret B hr mμ3 dX8_flaw_21 h
  · have h := h.2 c1
    exact r_vret B hr hμ dX8_flaw_7 h
set_option maxRecDepth 20000 in
theorem c_X8_isLetterAt (l : Launch) (E : Gx) {p0 : Int} {μ : Mem} {Q : Int → Mem → Prop} (hp0 : inR p0) (hμ : okM μ) (h : wp_X8_isLetterAt p0 μ Q) : MT l yX8_isLetterAt cX8_isLetterAt 2 (some .boolean) E 2 0 0 z0 [rv E 115, iv p0] μ (QI E z0 Q) := by
  refine m_start [some (rv E 115), some (iv p0)] (by decide) rfl rfl rfl (fun x hxl hxc hxs B hr hnm => ?_)
  unfold wp_X8_isLetterAt at h
  refine r_il1 dX8_isLetterAt_0 ?_
  refine r_al0 dX8_isLetterAt_1 ?_
  refine r_getI B fg_X8_60 kd_115 (kl kd_115) dX8_isLetterAt_2 ?_
  refine r_icmp_ge 28 dX8_isLetterAt_5 rfl hp0 (hμ 115 5) (fun c1 => ?_) (fun c1 => ?_)
  · have h := h.1 c1
    refine r_iconst dX8_isLetterAt_28 ?_
    exact r_zret B hr (Or.inl rfl) hμ dX8_isLetterAt_29 h
  · have h := h.2 c1
    refine r_al0 dX8_isLetterAt_8 ?_
    refine r_getR B 116 fg_X8_13 kd_115 (kl kd_115) (ρo (off := 1) kd_115 rfl) dX8_isLetterAt_9 ?_
    refine r_il1 dX8_isLetterAt_12 ?_
    obtain ⟨o2, h⟩ := h
    refine r_iald B kd_116 (kl kd_116) (by decide) o2 dX8_isLetterAt_13 ?_
    refine r_bipush dX8_isLetterAt_14 (by decide) ?_
    refine r_bipush dX8_isLetterAt_16 (by decide) ?_
    refine r_cSI3 B cb_X8_in lk_X8_63 cs_X8_in (c_X8_in (xl x) E (hμ _ _) (inR_k rfl) (inR_k rfl) hμ h) rfl rfl dX8_isLetterAt_18 (fun r4 μ3 hr4 mμ3 h => ?_)
    refine r_if_eq 28 dX8_isLetterAt_21 rfl hr4 (fun c5 => ?_) (fun c5 => ?_)
    · have h := h.1 c5
      refine r_iconst dX8_isLetterAt_28 ?_
      exact r_zret B hr (Or.inl rfl) mμ3 dX8_isLetterAt_29 h
    · have h := h.2 c5
      refine r_iconst dX8_isLetterAt_24 ?_
      refine r_goto 29 dX8_isLetterAt_25 rfl ?_
      exact r_zret B hr (Or.inr rfl) mμ3 dX8_isLetterAt_29 h
set_option maxRecDepth 20000 in
theorem c_X8_isDigitAt (l : Launch) (E : Gx) {p0 : Int} {μ : Mem} {Q : Int → Mem → Prop} (hp0 : inR p0) (hμ : okM μ) (h : wp_X8_isDigitAt p0 μ Q) : MT l yX8_isDigitAt cX8_isDigitAt 2 (some .boolean) E 2 0 0 z0 [rv E 115, iv p0] μ (QI E z0 Q) := by
  refine m_start [some (rv E 115), some (iv p0)] (by decide) rfl rfl rfl (fun x hxl hxc hxs B hr hnm => ?_)
  unfold wp_X8_isDigitAt at h
  refine r_il1 dX8_isDigitAt_0 ?_
  refine r_al0 dX8_isDigitAt_1 ?_
  refine r_getI B fg_X8_60 kd_115 (kl kd_115) dX8_isDigitAt_2 ?_
  refine r_icmp_ge 28 dX8_isDigitAt_5 rfl hp0 (hμ 115 5) (fun c1 => ?_) (fun c1 => ?_)
  · have h := h.1 c1
    refine r_iconst dX8_isDigitAt_28 ?_
    exact r_zret B hr (Or.inl rfl) hμ dX8_isDigitAt_29 h
  · have h := h.2 c1
    refine r_al0 dX8_isDigitAt_8 ?_
    refine r_getR B 116 fg_X8_13 kd_115 (kl kd_115) (ρo (off := 1) kd_115 rfl) dX8_isDigitAt_9 ?_
    refine r_il1 dX8_isDigitAt_12 ?_
    obtain ⟨o2, h⟩ := h
    refine r_iald B kd_116 (kl kd_116) (by decide) o2 dX8_isDigitAt_13 ?_
    refine r_bipush dX8_isDigitAt_14 (by decide) ?_
    refine r_bipush dX8_isDigitAt_16 (by decide) ?_
    refine r_cSI3 B cb_X8_in lk_X8_63 cs_X8_in (c_X8_in (xl x) E (hμ _ _) (inR_k rfl) (inR_k rfl) hμ h) rfl rfl dX8_isDigitAt_18 (fun r4 μ3 hr4 mμ3 h => ?_)
    refine r_if_eq 28 dX8_isDigitAt_21 rfl hr4 (fun c5 => ?_) (fun c5 => ?_)
    · have h := h.1 c5
      refine r_iconst dX8_isDigitAt_28 ?_
      exact r_zret B hr (Or.inl rfl) mμ3 dX8_isDigitAt_29 h
    · have h := h.2 c5
      refine r_iconst dX8_isDigitAt_24 ?_
      refine r_goto 29 dX8_isDigitAt_25 rfl ?_
      exact r_zret B hr (Or.inr rfl) mμ3 dX8_isDigitAt_29 h
set_option maxRecDepth 20000 in
theorem t_X8_goOn_284 {x : Cx} {E : Gx} (B : Bd x E 3 1 "SlipCoversModel") (hr : (xt x).sig.returnType = none) {Q : Mem → Prop} {μ : Mem} (hμ : okM μ) (h : wp_X8_goOn_284 Q μ) : J cX8_goOn x E z0 μ 284 [some (rv E 115)] [rv E 115] (MQ (xb x) (QV E z0 Q) (xa x) (xs x) 0 0 (gA E)) := by
  unfold wp_X8_goOn_284 at h
  refine r_iconst dX8_goOn_284 ?_
  refine r_goto 289 dX8_goOn_285 rfl ?_
  refine r_putI B fg_X8_70 fp_8_9 kd_115 (kl kd_115) dX8_goOn_289 ?_
  refine n_mem (fun μ14 eμ14 => ?_)
  have h := h μ14 eμ14
  have mμ14 : okM μ14 := eqM eμ14 (okM_sI hμ (inR_k rfl))
  refine r_al0 dX8_goOn_292 ?_
  refine r_dup rfl dX8_goOn_293 ?_
  refine r_getI B fg_X8_67 kd_115 (kl kd_115) dX8_goOn_294 ?_
  refine r_iconst dX8_goOn_297 ?_
  refine r_iadd dX8_goOn_298 ?_
  obtain ⟨o15, h⟩ := h
  refine r_putI B fg_X8_67 fp_8_6 kd_115 (kl kd_115) dX8_goOn_299 ?_
  refine n_mem (fun μ16 eμ16 => ?_)
  have h := h μ16 eμ16
  have mμ16 : okM μ16 := eqM eμ16 (okM_sI mμ14 o15)
  exact r_vret B hr mμ16 dX8_goOn_302 h
set_option maxRecDepth 20000 in
theorem t_X8_goOn_193 {x : Cx} {E : Gx} (B : Bd x E 3 1 "SlipCoversModel") (hr : (xt x).sig.returnType = none) {Q : Mem → Prop} {μ : Mem} (hμ : okM μ) (h : LP1 (wp_X8_goOn_193 Q) μ) : J cX8_goOn x E z0 μ 193 [some (rv E 115)] [] (MQ (xb x) (QV E z0 Q) (xa x) (xs x) 0 0 (gA E)) := by
  refine LP1_ind (T := fun  (μ : Mem) => okM μ → J cX8_goOn x E z0 μ 193 [some (rv E 115)] [] (MQ (xb x) (QV E z0 Q) (xa x) (xs x) 0 0 (gA E))) (fun X193 hX193 μ h hμ => ?_) h hμ
  unfold wp_X8_goOn_193 at h
  refine r_al0 dX8_goOn_193 ?_
  refine r_al0 dX8_goOn_194 ?_
  refine r_getI B fg_X8_67 kd_115 (kl kd_115) dX8_goOn_195 ?_
  refine r_cVI1 B cb_X8_isDigitAt lk_X8_85 cv_X8_isDigitAt kd_115 (c_X8_isDigitAt (xl x) E (hμ 115 6) hμ h) rfl rfl dX8_goOn_198 (fun r23 μ22 hr23 mμ22 h => ?_)
  refine r_if_eq 217 dX8_goOn_201 rfl hr23 (fun c24 => ?_) (fun c24 => ?_)
  · have h := h.1 c24
    refine r_al0 dX8_goOn_217 ?_
    refine r_al0 dX8_goOn_218 ?_
    refine r_getI B fg_X8_67 kd_115 (kl kd_115) dX8_goOn_219 ?_
    refine r_al0 dX8_goOn_222 ?_
    refine r_getI B fg_X8_54 kd_115 (kl kd_115) dX8_goOn_223 ?_
    refine r_isub dX8_goOn_226 ?_
    refine r_bipush dX8_goOn_227 (by decide) ?_
    obtain ⟨o25, h⟩ := h
    refine r_icmp_le 236 dX8_goOn_229 rfl o25 (inR_k rfl) (fun c26 => ?_) (fun c26 => ?_)
    · have h := h.1 c26
      refine r_iconst dX8_goOn_236 ?_
      refine r_putI B fg_X8_70 fp_8_9 kd_115 (kl kd_115) dX8_goOn_237 ?_
      refine n_mem (fun μ27 eμ27 => ?_)
      have h := h μ27 eμ27
      have mμ27 : okM μ27 := eqM eμ27 (okM_sI mμ22 (inR_k rfl))
      refine r_goto 302 dX8_goOn_240 rfl ?_
      exact r_vret B hr mμ27 dX8_goOn_302 h
    · have h := h.2 c26
      refine r_iconst dX8_goOn_232 ?_
      refine r_goto 237 dX8_goOn_233 rfl ?_
      refine r_putI B fg_X8_70 fp_8_9 kd_115 (kl kd_115) dX8_goOn_237 ?_
      refine n_mem (fun μ28 eμ28 => ?_)
      have h := h μ28 eμ28
      have mμ28 : okM μ28 := eqM eμ28 (okM_sI mμ22 (inR_k rfl))
      refine r_goto 302 dX8_goOn_240 rfl ?_
      exact r_vret B hr mμ28 dX8_goOn_302 h
  · have h := h.2 c24
    refine r_al0 dX8_goOn_204 ?_
    refine r_dup rfl dX8_goOn_205 ?_
    refine r_getI B fg_X8_67 kd_115 (kl kd_115) dX8_goOn_206 ?_
    refine r_iconst dX8_goOn_209 ?_
    refine r_iadd dX8_goOn_210 ?_
    obtain ⟨o29, h⟩ := h
    refine r_putI B fg_X8_67 fp_8_6 kd_115 (kl kd_115) dX8_goOn_211 ?_
    refine n_mem (fun μ30 eμ30 => ?_)
    have h := h μ30 eμ30
    have mμ30 : okM μ30 := eqM eμ30 (okM_sI mμ22 o29)
    refine r_goto 193 dX8_goOn_214 rfl ?_
    exact J_weak (hX193 μ30 h mμ30) (⟨rfl, trivial⟩)
set_option maxRecDepth 20000 in
theorem t_X8_goOn_143 {x : Cx} {E : Gx} (B : Bd x E 3 1 "SlipCoversModel") (hr : (xt x).sig.returnType = none) {Q : Mem → Prop} {X89 : Mem → Prop} (hX89 : ∀ (μ : Mem), X89 μ → okM μ → J cX8_goOn x E z0 μ 89 [some (rv E 115)] [] (MQ (xb x) (QV E z0 Q) (xa x) (xs x) 0 0 (gA E))) {μ : Mem} (hμ : okM μ) (h : wp_X8_goOn_143 Q X89 μ) : J cX8_goOn x E z0 μ 143 [some (rv E 115)] [] (MQ (xb x) (QV E z0 Q) (xa x) (xs x) 0 0 (gA E)) := by
  unfold wp_X8_goOn_143 at h
  refine r_al0 dX8_goOn_143 ?_
  refine r_dup rfl dX8_goOn_144 ?_
  refine r_getI B fg_X8_67 kd_115 (kl kd_115) dX8_goOn_145 ?_
  refine r_iconst dX8_goOn_148 ?_
  refine r_iadd dX8_goOn_149 ?_
  obtain ⟨o41, h⟩ := h
  refine r_putI B fg_X8_67 fp_8_6 kd_115 (kl kd_115) dX8_goOn_150 ?_
  refine n_mem (fun μ42 eμ42 => ?_)
  have h := h μ42 eμ42
  have mμ42 : okM μ42 := eqM eμ42 (okM_sI hμ o41)
  refine r_goto 89 dX8_goOn_153 rfl ?_
  exact J_weak (hX89 μ42 h mμ42) (⟨rfl, trivial⟩)
set_option maxRecDepth 20000 in
theorem t_X8_goOn_89 {x : Cx} {E : Gx} (B : Bd x E 3 1 "SlipCoversModel") (hr : (xt x).sig.returnType = none) {Q : Mem → Prop} {μ : Mem} (hμ : okM μ) (h : LP1 (wp_X8_goOn_89 Q) μ) : J cX8_goOn x E z0 μ 89 [some (rv E 115)] [] (MQ (xb x) (QV E z0 Q) (xa x) (xs x) 0 0 (gA E)) := by
  refine LP1_ind (T := fun  (μ : Mem) => okM μ → J cX8_goOn x E z0 μ 89 [some (rv E 115)] [] (MQ (xb x) (QV E z0 Q) (xa x) (xs x) 0 0 (gA E))) (fun X89 hX89 μ h hμ => ?_) h hμ
  unfold wp_X8_goOn_89 at h
  refine r_al0 dX8_goOn_89 ?_
  refine r_al0 dX8_goOn_90 ?_
  refine r_getI B fg_X8_67 kd_115 (kl kd_115) dX8_goOn_91 ?_
  refine r_cVI1 B cb_X8_isLetterAt lk_X8_73 cv_X8_isLetterAt kd_115 (c_X8_isLetterAt (xl x) E (hμ 115 6) hμ h) rfl rfl dX8_goOn_94 (fun r33 μ32 hr33 mμ32 h => ?_)
  refine r_if_eq 156 dX8_goOn_97 rfl hr33 (fun c34 => ?_) (fun c34 => ?_)
  · have h := h.1 c34
    refine r_al0 dX8_goOn_156 ?_
    refine r_al0 dX8_goOn_157 ?_
    refine r_getI B fg_X8_67 kd_115 (kl kd_115) dX8_goOn_158 ?_
    refine r_al0 dX8_goOn_161 ?_
    refine r_getI B fg_X8_54 kd_115 (kl kd_115) dX8_goOn_162 ?_
    refine r_isub dX8_goOn_165 ?_
    refine r_bipush dX8_goOn_166 (by decide) ?_
    obtain ⟨o35, h⟩ := h
    refine r_icmp_le 175 dX8_goOn_168 rfl o35 (inR_k rfl) (fun c36 => ?_) (fun c36 => ?_)
    · have h := h.1 c36
      refine r_iconst dX8_goOn_175 ?_
      refine r_putI B fg_X8_70 fp_8_9 kd_115 (kl kd_115) dX8_goOn_176 ?_
      refine n_mem (fun μ37 eμ37 => ?_)
      have h := h μ37 eμ37
      have mμ37 : okM μ37 := eqM eμ37 (okM_sI mμ32 (inR_k rfl))
      refine r_goto 302 dX8_goOn_179 rfl ?_
      exact r_vret B hr mμ37 dX8_goOn_302 h
    · have h := h.2 c36
      refine r_iconst dX8_goOn_171 ?_
      refine r_goto 176 dX8_goOn_172 rfl ?_
      refine r_putI B fg_X8_70 fp_8_9 kd_115 (kl kd_115) dX8_goOn_176 ?_
      refine n_mem (fun μ38 eμ38 => ?_)
      have h := h μ38 eμ38
      have mμ38 : okM μ38 := eqM eμ38 (okM_sI mμ32 (inR_k rfl))
      refine r_goto 302 dX8_goOn_179 rfl ?_
      exact r_vret B hr mμ38 dX8_goOn_302 h
  · have h := h.2 c34
    refine r_al0 dX8_goOn_100 ?_
    refine r_getI B fg_X8_67 kd_115 (kl kd_115) dX8_goOn_101 ?_
    refine r_al0 dX8_goOn_104 ?_
    refine r_getI B fg_X8_54 kd_115 (kl kd_115) dX8_goOn_105 ?_
    refine r_isub dX8_goOn_108 ?_
    refine r_bipush dX8_goOn_109 (by decide) ?_
    obtain ⟨o39, h⟩ := h
    refine r_icmp_ge 143 dX8_goOn_111 rfl o39 (inR_k rfl) (fun c40 => ?_) (fun c40 => ?_)
    · have h := h.1 c40
      exact J_weak (t_X8_goOn_143 B hr hX89 mμ32 h) (⟨rfl, trivial⟩)
    · have h := h.2 c40
      refine r_al0 dX8_goOn_114 ?_
      refine r_al0 dX8_goOn_115 ?_
      refine r_getL B fg_X8_77 kd_115 (kl kd_115) dX8_goOn_116 ?_
      refine r_ldc2 B kc_X8_81 dX8_goOn_119 ?_
      refine r_lmul dX8_goOn_122 ?_
      refine r_al0 dX8_goOn_123 ?_
      refine r_getR B 116 fg_X8_13 kd_115 (kl kd_115) (ρo (off := 1) kd_115 rfl) dX8_goOn_124 ?_
      refine r_al0 dX8_goOn_127 ?_
      refine r_getI B fg_X8_67 kd_115 (kl kd_115) dX8_goOn_128 ?_
      obtain ⟨o43, h⟩ := h
      refine r_iald B kd_116 (kl kd_116) (by decide) o43 dX8_goOn_131 ?_
      refine r_i2l dX8_goOn_132 ?_
      refine r_ladd dX8_goOn_133 ?_
      refine r_ldc2 B kc_X8_83 dX8_goOn_134 ?_
      refine r_lsub dX8_goOn_137 ?_
      refine r_lconst (v := 1) rfl dX8_goOn_138 ?_
      refine r_ladd dX8_goOn_139 ?_
      refine r_putL B fg_X8_77 fp_8_12 kd_115 (kl kd_115) dX8_goOn_140 ?_
      refine n_mem (fun μ44 eμ44 => ?_)
      have h := h μ44 eμ44
      have mμ44 : okM μ44 := eqM eμ44 (okM_sL mμ32)
      exact J_weak (t_X8_goOn_143 B hr hX89 mμ44 h) (⟨rfl, trivial⟩)
set_option maxRecDepth 20000 in
theorem t_X8_goOn_46 {x : Cx} {E : Gx} (B : Bd x E 3 1 "SlipCoversModel") (hr : (xt x).sig.returnType = none) {Q : Mem → Prop} {μ : Mem} (hμ : okM μ) (h : wp_X8_goOn_46 Q μ) : J cX8_goOn x E z0 μ 46 [some (rv E 115)] [] (MQ (xb x) (QV E z0 Q) (xa x) (xs x) 0 0 (gA E)) := by
  unfold wp_X8_goOn_46 at h
  refine r_al0 dX8_goOn_46 ?_
  refine r_al0 dX8_goOn_47 ?_
  refine r_getI B fg_X8_67 kd_115 (kl kd_115) dX8_goOn_48 ?_
  refine r_putI B fg_X8_54 fp_8_10 kd_115 (kl kd_115) dX8_goOn_51 ?_
  refine n_mem (fun μ3 eμ3 => ?_)
  have h := h μ3 eμ3
  have mμ3 : okM μ3 := eqM eμ3 (okM_sI hμ (hμ 115 6))
  refine r_al0 dX8_goOn_54 ?_
  refine r_getI B fg_X8_67 kd_115 (kl kd_115) dX8_goOn_55 ?_
  refine r_al0 dX8_goOn_58 ?_
  refine r_getI B fg_X8_60 kd_115 (kl kd_115) dX8_goOn_59 ?_
  refine r_icmp_ne 73 dX8_goOn_62 rfl (mμ3 115 6) (mμ3 115 5) (fun c4 => ?_) (fun c4 => ?_)
  · have h := h.1 c4
    refine r_al0 dX8_goOn_73 ?_
    refine r_al0 dX8_goOn_74 ?_
    refine r_getI B fg_X8_67 kd_115 (kl kd_115) dX8_goOn_75 ?_
    refine r_cVI1 B cb_X8_isLetterAt lk_X8_73 cv_X8_isLetterAt kd_115 (c_X8_isLetterAt (xl x) E (mμ3 115 6) mμ3 h) rfl rfl dX8_goOn_78 (fun r6 μ5 hr6 mμ5 h => ?_)
    refine r_if_eq 182 dX8_goOn_81 rfl hr6 (fun c7 => ?_) (fun c7 => ?_)
    · have h := h.1 c7
      refine r_al0 dX8_goOn_182 ?_
      refine r_al0 dX8_goOn_183 ?_
      refine r_getI B fg_X8_67 kd_115 (kl kd_115) dX8_goOn_184 ?_
      refine r_cVI1 B cb_X8_isDigitAt lk_X8_85 cv_X8_isDigitAt kd_115 (c_X8_isDigitAt (xl x) E (mμ5 115 6) mμ5 h) rfl rfl dX8_goOn_187 (fun r9 μ8 hr9 mμ8 h => ?_)
      refine r_if_eq 243 dX8_goOn_190 rfl hr9 (fun c10 => ?_) (fun c10 => ?_)
      · have h := h.1 c10
        refine r_al0 dX8_goOn_243 ?_
        refine r_al0 dX8_goOn_244 ?_
        refine r_getR B 116 fg_X8_13 kd_115 (kl kd_115) (ρo (off := 1) kd_115 rfl) dX8_goOn_245 ?_
        refine r_al0 dX8_goOn_248 ?_
        refine r_getI B fg_X8_67 kd_115 (kl kd_115) dX8_goOn_249 ?_
        obtain ⟨o11, h⟩ := h
        refine r_iald B kd_116 (kl kd_116) (by decide) o11 dX8_goOn_252 ?_
        refine r_putI B fg_X8_88 fp_8_11 kd_115 (kl kd_115) dX8_goOn_253 ?_
        refine n_mem (fun μ12 eμ12 => ?_)
        have h := h μ12 eμ12
        have mμ12 : okM μ12 := eqM eμ12 (okM_sI mμ8 (mμ8 _ _))
        refine r_al0 dX8_goOn_256 ?_
        refine r_al0 dX8_goOn_257 ?_
        refine r_getI B fg_X8_88 kd_115 (kl kd_115) dX8_goOn_258 ?_
        refine r_bipush dX8_goOn_261 (by decide) ?_
        refine r_icmp_eq 284 dX8_goOn_263 rfl (mμ12 115 11) (inR_k rfl) (fun c13 => ?_) (fun c13 => ?_)
        · have h := h.1 c13
          exact J_weak (t_X8_goOn_284 B hr mμ12 h) (⟨rfl, trivial⟩)
        · have h := h.2 c13
          refine r_al0 dX8_goOn_266 ?_
          refine r_getI B fg_X8_88 kd_115 (kl kd_115) dX8_goOn_267 ?_
          refine r_bipush dX8_goOn_270 (by decide) ?_
          refine r_icmp_eq 284 dX8_goOn_272 rfl (mμ12 115 11) (inR_k rfl) (fun c17 => ?_) (fun c17 => ?_)
          · have h := h.1 c17
            exact J_weak (t_X8_goOn_284 B hr mμ12 h) (⟨rfl, trivial⟩)
          · have h := h.2 c17
            refine r_al0 dX8_goOn_275 ?_
            refine r_getI B fg_X8_88 kd_115 (kl kd_115) dX8_goOn_276 ?_
            refine r_bipush dX8_goOn_279 (by decide) ?_
            refine r_icmp_ne 288 dX8_goOn_281 rfl (mμ12 115 11) (inR_k rfl) (fun c18 => ?_) (fun c18 => ?_)
            · have h := h.1 c18
              refine r_iconst dX8_goOn_288 ?_
              refine r_putI B fg_X8_70 fp_8_9 kd_115 (kl kd_115) dX8_goOn_289 ?_
              refine n_mem (fun μ19 eμ19 => ?_)
              have h := h μ19 eμ19
              have mμ19 : okM μ19 := eqM eμ19 (okM_sI mμ12 (inR_k rfl))
              refine r_al0 dX8_goOn_292 ?_
              refine r_dup rfl dX8_goOn_293 ?_
              refine r_getI B fg_X8_67 kd_115 (kl kd_115) dX8_goOn_294 ?_
              refine r_iconst dX8_goOn_297 ?_
              refine r_iadd dX8_goOn_298 ?_
              obtain ⟨o20, h⟩ := h
              refine r_putI B fg_X8_67 fp_8_6 kd_115 (kl kd_115) dX8_goOn_299 ?_
              refine n_mem (fun μ21 eμ21 => ?_)
              have h := h μ21 eμ21
              have mμ21 : okM μ21 := eqM eμ21 (okM_sI mμ19 o20)
              exact r_vret B hr mμ21 dX8_goOn_302 h
            · have h := h.2 c18
              exact J_weak (t_X8_goOn_284 B hr mμ12 h) (⟨rfl, trivial⟩)
      · have h := h.2 c10
        exact J_weak (t_X8_goOn_193 B hr mμ8 h) (⟨rfl, trivial⟩)
    · have h := h.2 c7
      refine r_al0 dX8_goOn_84 ?_
      refine r_lconst (v := 0) rfl dX8_goOn_85 ?_
      refine r_putL B fg_X8_77 fp_8_12 kd_115 (kl kd_115) dX8_goOn_86 ?_
      refine n_mem (fun μ31 eμ31 => ?_)
      have h := h μ31 eμ31
      have mμ31 : okM μ31 := eqM eμ31 (okM_sL mμ5)
      exact J_weak (t_X8_goOn_89 B hr mμ31 h) (⟨rfl, trivial⟩)
  · have h := h.2 c4
    refine r_al0 dX8_goOn_65 ?_
    refine r_iconst dX8_goOn_66 ?_
    refine r_putI B fg_X8_70 fp_8_9 kd_115 (kl kd_115) dX8_goOn_67 ?_
    refine n_mem (fun μ45 eμ45 => ?_)
    have h := h μ45 eμ45
    have mμ45 : okM μ45 := eqM eμ45 (okM_sI mμ3 (inR_k rfl))
    refine r_goto 302 dX8_goOn_70 rfl ?_
    exact r_vret B hr mμ45 dX8_goOn_302 h
set_option maxRecDepth 20000 in
theorem t_X8_goOn_8 {x : Cx} {E : Gx} (B : Bd x E 3 1 "SlipCoversModel") (hr : (xt x).sig.returnType = none) {Q : Mem → Prop} {μ : Mem} (hμ : okM μ) (h : LP1 (wp_X8_goOn_8 Q) μ) : J cX8_goOn x E z0 μ 8 [some (rv E 115)] [] (MQ (xb x) (QV E z0 Q) (xa x) (xs x) 0 0 (gA E)) := by
  refine LP1_ind (T := fun  (μ : Mem) => okM μ → J cX8_goOn x E z0 μ 8 [some (rv E 115)] [] (MQ (xb x) (QV E z0 Q) (xa x) (xs x) 0 0 (gA E))) (fun X8 hX8 μ h hμ => ?_) h hμ
  unfold wp_X8_goOn_8 at h
  refine r_al0 dX8_goOn_8 ?_
  refine r_getI B fg_X8_67 kd_115 (kl kd_115) dX8_goOn_9 ?_
  refine r_al0 dX8_goOn_12 ?_
  refine r_getI B fg_X8_60 kd_115 (kl kd_115) dX8_goOn_13 ?_
  refine r_icmp_ge 46 dX8_goOn_16 rfl (hμ 115 6) (hμ 115 5) (fun c2 => ?_) (fun c2 => ?_)
  · have h := h.1 c2
    exact J_weak (t_X8_goOn_46 B hr hμ h) (⟨rfl, trivial⟩)
  · have h := h.2 c2
    refine r_al0 dX8_goOn_19 ?_
    refine r_getR B 116 fg_X8_13 kd_115 (kl kd_115) (ρo (off := 1) kd_115 rfl) dX8_goOn_20 ?_
    refine r_al0 dX8_goOn_23 ?_
    refine r_getI B fg_X8_67 kd_115 (kl kd_115) dX8_goOn_24 ?_
    obtain ⟨o46, h⟩ := h
    refine r_iald B kd_116 (kl kd_116) (by decide) o46 dX8_goOn_27 ?_
    refine r_bipush dX8_goOn_28 (by decide) ?_
    refine r_icmp_ne 46 dX8_goOn_30 rfl (hμ _ _) (inR_k rfl) (fun c47 => ?_) (fun c47 => ?_)
    · have h := h.1 c47
      exact J_weak (t_X8_goOn_46 B hr hμ h) (⟨rfl, trivial⟩)
    · have h := h.2 c47
      refine r_al0 dX8_goOn_33 ?_
      refine r_dup rfl dX8_goOn_34 ?_
      refine r_getI B fg_X8_67 kd_115 (kl kd_115) dX8_goOn_35 ?_
      refine r_iconst dX8_goOn_38 ?_
      refine r_iadd dX8_goOn_39 ?_
      obtain ⟨o48, h⟩ := h
      refine r_putI B fg_X8_67 fp_8_6 kd_115 (kl kd_115) dX8_goOn_40 ?_
      refine n_mem (fun μ49 eμ49 => ?_)
      have h := h μ49 eμ49
      have mμ49 : okM μ49 := eqM eμ49 (okM_sI hμ o48)
      refine r_goto 8 dX8_goOn_43 rfl ?_
      exact J_weak (hX8 μ49 h mμ49) (⟨rfl, trivial⟩)
set_option maxRecDepth 20000 in
theorem c_X8_goOn (l : Launch) (E : Gx) {μ : Mem} {Q : Mem → Prop} (hμ : okM μ) (h : wp_X8_goOn  μ Q) : MT l yX8_goOn cX8_goOn 1 none E 3 0 0 z0 [rv E 115] μ (QV E z0 Q) := by
  refine m_start [some (rv E 115)] (by decide) rfl rfl rfl (fun x hxl hxc hxs B hr hnm => ?_)
  unfold wp_X8_goOn at h
  refine r_al0 dX8_goOn_0 ?_
  refine r_getI B fg_X8_51 kd_115 (kl kd_115) dX8_goOn_1 ?_
  refine r_if_le 8 dX8_goOn_4 rfl (hμ 115 7) (fun c1 => ?_) (fun c1 => ?_)
  · have h := h.1 c1
    exact J_weak (t_X8_goOn_8 B hr hμ h) (⟨rfl, trivial⟩)
  · have h := h.2 c1
    exact r_vret B hr hμ dX8_goOn_7 h
set_option maxRecDepth 20000 in
theorem t_X8_wordOf_4 {x : Cx} {E : Gx} (B : Bd x E 9 4 "SlipCoversModel") (hr : (xt x).sig.returnType = (some .long)) {Q : Int64 → Mem → Prop} {v0 : Nat} {v1 : Int64} {v3 : Int} {μ : Mem} (hv0 : v0 < 3) (hv3 : inR v3) (hμ : okM μ) (h : LP4 (wp_X8_wordOf_4 Q) v0 v1 v3 μ) : J cX8_wordOf x E z0 μ 4 [some (sv E v0), some (.long v1), none, some (iv v3)] [] (MQ (xb x) (QL E z0 Q) (xa x) (xs x) 0 0 (gA E)) := by
  refine LP4_ind (T := fun (v0 : Nat) (v1 : Int64) (v3 : Int) (μ : Mem) => v0 < 3 → inR v3 → okM μ → J cX8_wordOf x E z0 μ 4 [some (sv E v0), some (.long v1), none, some (iv v3)] [] (MQ (xb x) (QL E z0 Q) (xa x) (xs x) 0 0 (gA E))) (fun X4 hX4 v0 v1 v3 μ h hv0 hv3 hμ => ?_) h hv0 hv3 hμ
  unfold wp_X8_wordOf_4 at h
  refine r_il3 dX8_wordOf_4 ?_
  refine r_tl0 dX8_wordOf_5 ?_
  refine r_slen B lk_X8_91 hv0 rfl rfl dX8_wordOf_6 ?_
  refine r_icmp_ge 37 dX8_wordOf_9 rfl hv3 (slenR _) (fun c1 => ?_) (fun c1 => ?_)
  · have h := h.1 c1
    refine r_ll1 dX8_wordOf_37 ?_
    exact r_lret B hr hμ dX8_wordOf_38 h
  · have h := h.2 c1
    refine r_ll1 dX8_wordOf_12 ?_
    refine r_ldc2 B kc_X8_81 dX8_wordOf_13 ?_
    refine r_lmul dX8_wordOf_16 ?_
    refine r_tl0 dX8_wordOf_17 ?_
    refine r_il3 dX8_wordOf_18 ?_
    obtain ⟨o2, h⟩ := h
    refine r_schr B lk_X8_97 hv0 o2 rfl rfl dX8_wordOf_19 ?_
    refine r_i2l dX8_wordOf_22 ?_
    refine r_ladd dX8_wordOf_23 ?_
    refine r_ldc2 B kc_X8_83 dX8_wordOf_24 ?_
    refine r_lsub dX8_wordOf_27 ?_
    refine r_lconst (v := 1) rfl dX8_wordOf_28 ?_
    refine r_ladd dX8_wordOf_29 ?_
    refine n_topl (fun y3 ey3 => ?_)
    have h := h y3 ey3
    refine r_ls1 dX8_wordOf_30 rfl ?_
    refine r_inc3 dX8_wordOf_31 rfl ?_
    obtain ⟨o4, h⟩ := h
    refine r_goto 4 dX8_wordOf_34 rfl ?_
    exact J_weak (hX4 v0 y3 (v3 + 1) μ h hv0 o4 hμ) (⟨rfl, ⟨rfl, ⟨rfl, trivial⟩⟩⟩)
set_option maxRecDepth 20000 in
theorem c_X8_wordOf (l : Launch) (E : Gx) {p0 : Nat} {μ : Mem} {Q : Int64 → Mem → Prop} (hp0 : p0 < 3) (hμ : okM μ) (h : wp_X8_wordOf p0 μ Q) : MT l yX8_wordOf cX8_wordOf 4 (some .long) E 9 0 0 z0 [sv E p0] μ (QL E z0 Q) := by
  refine m_start [some (sv E p0), none, none, none] (by decide) rfl rfl rfl (fun x hxl hxc hxs B hr hnm => ?_)
  unfold wp_X8_wordOf at h
  refine r_lconst (v := 0) rfl dX8_wordOf_0 ?_
  refine r_ls1 dX8_wordOf_1 rfl ?_
  refine r_iconst dX8_wordOf_2 ?_
  refine r_is3 dX8_wordOf_3 rfl ?_
  exact J_weak (t_X8_wordOf_4 B hr hp0 (inR_k rfl) hμ h) (⟨rfl, ⟨rfl, ⟨rfl, trivial⟩⟩⟩)
set_option maxRecDepth 20000 in
theorem c_X8_isWord (l : Launch) (E : Gx) {p0 : Nat} {μ : Mem} {Q : Int → Mem → Prop} (hp0 : p0 < 3) (hμ : okM μ) (h : wp_X8_isWord p0 μ Q) : MT l yX8_isWord cX8_isWord 2 (some .boolean) E 10 0 0 z0 [rv E 115, sv E p0] μ (QI E z0 Q) := by
  refine m_start [some (rv E 115), some (sv E p0)] (by decide) rfl rfl rfl (fun x hxl hxc hxs B hr hnm => ?_)
  unfold wp_X8_isWord at h
  refine r_al0 dX8_isWord_0 ?_
  refine r_getI B fg_X8_51 kd_115 (kl kd_115) dX8_isWord_1 ?_
  refine r_if_ne 31 dX8_isWord_4 rfl (hμ 115 7) (fun c1 => ?_) (fun c1 => ?_)
  · have h := h.1 c1
    refine r_iconst dX8_isWord_31 ?_
    exact r_zret B hr (Or.inl rfl) hμ dX8_isWord_32 h
  · have h := h.2 c1
    refine r_al0 dX8_isWord_7 ?_
    refine r_getI B fg_X8_70 kd_115 (kl kd_115) dX8_isWord_8 ?_
    refine r_iconst dX8_isWord_11 ?_
    refine r_icmp_ne 31 dX8_isWord_12 rfl (hμ 115 9) (inR_k rfl) (fun c2 => ?_) (fun c2 => ?_)
    · have h := h.1 c2
      refine r_iconst dX8_isWord_31 ?_
      exact r_zret B hr (Or.inl rfl) hμ dX8_isWord_32 h
    · have h := h.2 c2
      refine r_al0 dX8_isWord_15 ?_
      refine r_getL B fg_X8_77 kd_115 (kl kd_115) dX8_isWord_16 ?_
      refine r_tl1 dX8_isWord_19 ?_
      refine r_cSL1 B cb_X8_wordOf lk_X8_101 cs_X8_wordOf (c_X8_wordOf (xl x) E hp0 hμ h) rfl rfl dX8_isWord_20 (fun y4 μ3 mμ3 h => ?_)
      refine r_lcmp dX8_isWord_23 ?_
      refine r_if_ne 31 dX8_isWord_24 rfl (inR_t _) (fun c5 => ?_) (fun c5 => ?_)
      · have h := h.1 c5
        refine r_iconst dX8_isWord_31 ?_
        exact r_zret B hr (Or.inl rfl) mμ3 dX8_isWord_32 h
      · have h := h.2 c5
        refine r_iconst dX8_isWord_27 ?_
        refine r_goto 32 dX8_isWord_28 rfl ?_
        exact r_zret B hr (Or.inr rfl) mμ3 dX8_isWord_32 h
set_option maxRecDepth 20000 in
theorem c_X8_isSign (l : Launch) (E : Gx) {p0 : Int} {μ : Mem} {Q : Int → Mem → Prop} (hp0 : inR p0) (hμ : okM μ) (h : wp_X8_isSign p0 μ Q) : MT l yX8_isSign cX8_isSign 2 (some .boolean) E 1 0 0 z0 [rv E 115, iv p0] μ (QI E z0 Q) := by
  refine m_start [some (rv E 115), some (iv p0)] (by decide) rfl rfl rfl (fun x hxl hxc hxs B hr hnm => ?_)
  unfold wp_X8_isSign at h
  refine r_al0 dX8_isSign_0 ?_
  refine r_getI B fg_X8_51 kd_115 (kl kd_115) dX8_isSign_1 ?_
  refine r_if_ne 27 dX8_isSign_4 rfl (hμ 115 7) (fun c1 => ?_) (fun c1 => ?_)
  · have h := h.1 c1
    refine r_iconst dX8_isSign_27 ?_
    exact r_zret B hr (Or.inl rfl) hμ dX8_isSign_28 h
  · have h := h.2 c1
    refine r_al0 dX8_isSign_7 ?_
    refine r_getI B fg_X8_70 kd_115 (kl kd_115) dX8_isSign_8 ?_
    refine r_iconst dX8_isSign_11 ?_
    refine r_icmp_ne 27 dX8_isSign_12 rfl (hμ 115 9) (inR_k rfl) (fun c2 => ?_) (fun c2 => ?_)
    · have h := h.1 c2
      refine r_iconst dX8_isSign_27 ?_
      exact r_zret B hr (Or.inl rfl) hμ dX8_isSign_28 h
    · have h := h.2 c2
      refine r_al0 dX8_isSign_15 ?_
      refine r_getI B fg_X8_88 kd_115 (kl kd_115) dX8_isSign_16 ?_
      refine r_il1 dX8_isSign_19 ?_
      refine r_icmp_ne 27 dX8_isSign_20 rfl (hμ 115 11) hp0 (fun c3 => ?_) (fun c3 => ?_)
      · have h := h.1 c3
        refine r_iconst dX8_isSign_27 ?_
        exact r_zret B hr (Or.inl rfl) hμ dX8_isSign_28 h
      · have h := h.2 c3
        refine r_iconst dX8_isSign_23 ?_
        refine r_goto 28 dX8_isSign_24 rfl ?_
        exact r_zret B hr (Or.inr rfl) hμ dX8_isSign_28 h
set_option maxRecDepth 20000 in
theorem c_X8_fault (l : Launch) (E : Gx) {μ : Mem} {Q : Int → Mem → Prop} (hμ : okM μ) (h : wp_X8_fault  μ Q) : MT l yX8_fault cX8_fault 1 (some .int) E 1 0 0 z0 [rv E 115] μ (QI E z0 Q) := by
  refine m_start [some (rv E 115)] (by decide) rfl rfl rfl (fun x hxl hxc hxs B hr hnm => ?_)
  unfold wp_X8_fault at h
  refine r_al0 dX8_fault_0 ?_
  refine r_iconst dX8_fault_1 ?_
  refine r_putI B fg_X8_42 fp_8_0 kd_115 (kl kd_115) dX8_fault_2 ?_
  refine n_mem (fun μ1 eμ1 => ?_)
  have h := h μ1 eμ1
  have mμ1 : okM μ1 := eqM eμ1 (okM_sI hμ (inR_k rfl))
  refine r_al0 dX8_fault_5 ?_
  refine r_getI B fg_X8_51 kd_115 (kl kd_115) dX8_fault_6 ?_
  exact r_iret B hr (mμ1 115 7) mμ1 dX8_fault_9 h
set_option maxRecDepth 20000 in
theorem c_X8_where (l : Launch) (E : Gx) {μ : Mem} {Q : Int → Mem → Prop} (hμ : okM μ) (h : wp_X8_where  μ Q) : MT l yX8_where cX8_where 1 (some .int) E 1 0 0 z0 [rv E 115] μ (QI E z0 Q) := by
  refine m_start [some (rv E 115)] (by decide) rfl rfl rfl (fun x hxl hxc hxs B hr hnm => ?_)
  unfold wp_X8_where at h
  refine r_al0 dX8_where_0 ?_
  refine r_iconst dX8_where_1 ?_
  refine r_putI B fg_X8_42 fp_8_0 kd_115 (kl kd_115) dX8_where_2 ?_
  refine n_mem (fun μ1 eμ1 => ?_)
  have h := h μ1 eμ1
  have mμ1 : okM μ1 := eqM eμ1 (okM_sI hμ (inR_k rfl))
  refine r_al0 dX8_where_5 ?_
  refine r_getI B fg_X8_9 kd_115 (kl kd_115) dX8_where_6 ?_
  exact r_iret B hr (mμ1 115 2) mμ1 dX8_where_9 h
set_option maxRecDepth 20000 in
theorem c_X8_places (l : Launch) (E : Gx) {p0 : Int} {μ : Mem} {Q : Int → Mem → Prop} (hp0 : inR p0) (hμ : okM μ) (h : wp_X8_places p0 μ Q) : MT l yX8_places cX8_places 2 (some .int) E 1 0 0 z0 [rv E 115, iv p0] μ (QI E z0 Q) := by
  refine m_start [some (rv E 115), some (iv p0)] (by decide) rfl rfl rfl (fun x hxl hxc hxs B hr hnm => ?_)
  unfold wp_X8_places at h
  refine r_al0 dX8_places_0 ?_
  refine r_getR B 117 fg_X8_17 kd_115 (kl kd_115) (ρo (off := 2) kd_115 rfl) dX8_places_1 ?_
  refine r_sipush dX8_places_4 (by decide) ?_
  refine r_il1 dX8_places_7 ?_
  refine r_imul dX8_places_8 ?_
  obtain ⟨o1, h⟩ := h
  refine r_iald B kd_117 (kl kd_117) (by decide) o1 dX8_places_9 ?_
  exact r_iret B hr (hμ _ _) hμ dX8_places_10 h
set_option maxRecDepth 20000 in
theorem c_X8_sizeOf (l : Launch) (E : Gx) {p0 : Int} {p1 : Int} {μ : Mem} {Q : Int → Mem → Prop} (hp0 : inR p0) (hp1 : inR p1) (hμ : okM μ) (h : wp_X8_sizeOf p0 p1 μ Q) : MT l yX8_sizeOf cX8_sizeOf 3 (some .int) E 1 0 0 z0 [rv E 115, iv p0, iv p1] μ (QI E z0 Q) := by
  refine m_start [some (rv E 115), some (iv p0), some (iv p1)] (by decide) rfl rfl rfl (fun x hxl hxc hxs B hr hnm => ?_)
  unfold wp_X8_sizeOf at h
  refine r_al0 dX8_sizeOf_0 ?_
  refine r_getR B 117 fg_X8_17 kd_115 (kl kd_115) (ρo (off := 2) kd_115 rfl) dX8_sizeOf_1 ?_
  refine r_sipush dX8_sizeOf_4 (by decide) ?_
  refine r_il1 dX8_sizeOf_7 ?_
  refine r_imul dX8_sizeOf_8 ?_
  refine r_iconst dX8_sizeOf_9 ?_
  refine r_iadd dX8_sizeOf_10 ?_
  refine r_il2 dX8_sizeOf_11 ?_
  refine r_iadd dX8_sizeOf_12 ?_
  obtain ⟨o1, h⟩ := h
  refine r_iald B kd_117 (kl kd_117) (by decide) o1 dX8_sizeOf_13 ?_
  exact r_iret B hr (hμ _ _) hμ dX8_sizeOf_14 h
set_option maxRecDepth 20000 in
theorem c_X8_weightOf (l : Launch) (E : Gx) {p0 : Int} {p1 : Int} {μ : Mem} {Q : Int → Mem → Prop} (hp0 : inR p0) (hp1 : inR p1) (hμ : okM μ) (h : wp_X8_weightOf p0 p1 μ Q) : MT l yX8_weightOf cX8_weightOf 3 (some .int) E 1 0 0 z0 [rv E 115, iv p0, iv p1] μ (QI E z0 Q) := by
  refine m_start [some (rv E 115), some (iv p0), some (iv p1)] (by decide) rfl rfl rfl (fun x hxl hxc hxs B hr hnm => ?_)
  unfold wp_X8_weightOf at h
  refine r_al0 dX8_weightOf_0 ?_
  refine r_getR B 117 fg_X8_17 kd_115 (kl kd_115) (ρo (off := 2) kd_115 rfl) dX8_weightOf_1 ?_
  refine r_sipush dX8_weightOf_4 (by decide) ?_
  refine r_il1 dX8_weightOf_7 ?_
  refine r_imul dX8_weightOf_8 ?_
  refine r_bipush dX8_weightOf_9 (by decide) ?_
  refine r_iadd dX8_weightOf_11 ?_
  refine r_il2 dX8_weightOf_12 ?_
  refine r_iadd dX8_weightOf_13 ?_
  obtain ⟨o1, h⟩ := h
  refine r_iald B kd_117 (kl kd_117) (by decide) o1 dX8_weightOf_14 ?_
  exact r_iret B hr (hμ _ _) hμ dX8_weightOf_15 h
set_option maxRecDepth 20000 in
theorem c_X8_isIn (l : Launch) (E : Gx) {p0 : Int} {p1 : Int} {μ : Mem} {Q : Int → Mem → Prop} (hp0 : inR p0) (hp1 : inR p1) (hμ : okM μ) (h : wp_X8_isIn p0 p1 μ Q) : MT l yX8_isIn cX8_isIn 3 (some .boolean) E 1 0 0 z0 [rv E 115, iv p0, iv p1] μ (QI E z0 Q) := by
  refine m_start [some (rv E 115), some (iv p0), some (iv p1)] (by decide) rfl rfl rfl (fun x hxl hxc hxs B hr hnm => ?_)
  unfold wp_X8_isIn at h
  refine r_al0 dX8_isIn_0 ?_
  refine r_getR B 117 fg_X8_17 kd_115 (kl kd_115) (ρo (off := 2) kd_115 rfl) dX8_isIn_1 ?_
  refine r_sipush dX8_isIn_4 (by decide) ?_
  refine r_il1 dX8_isIn_7 ?_
  refine r_imul dX8_isIn_8 ?_
  refine r_bipush dX8_isIn_9 (by decide) ?_
  refine r_iadd dX8_isIn_11 ?_
  refine r_il2 dX8_isIn_12 ?_
  refine r_iadd dX8_isIn_13 ?_
  obtain ⟨o1, h⟩ := h
  refine r_iald B kd_117 (kl kd_117) (by decide) o1 dX8_isIn_14 ?_
  refine r_iconst dX8_isIn_15 ?_
  refine r_icmp_ne 23 dX8_isIn_16 rfl (hμ _ _) (inR_k rfl) (fun c2 => ?_) (fun c2 => ?_)
  · have h := h.1 c2
    refine r_iconst dX8_isIn_23 ?_
    exact r_zret B hr (Or.inl rfl) hμ dX8_isIn_24 h
  · have h := h.2 c2
    refine r_iconst dX8_isIn_19 ?_
    refine r_goto 24 dX8_isIn_20 rfl ?_
    exact r_zret B hr (Or.inr rfl) hμ dX8_isIn_24 h
set_option maxRecDepth 20000 in
theorem c_X8_marks (l : Launch) (E : Gx) {p0 : Int} {p1 : Int} {p2 : Int} {μ : Mem} {Q : Mem → Prop} (hp0 : inR p0) (hp1 : inR p1) (hp2 : inR p2) (hμ : okM μ) (h : wp_X8_marks p0 p1 p2 μ Q) : MT l yX8_marks cX8_marks 4 none E 1 0 0 z0 [rv E 115, iv p0, iv p1, iv p2] μ (QV E z0 Q) := by
  refine m_start [some (rv E 115), some (iv p0), some (iv p1), some (iv p2)] (by decide) rfl rfl rfl (fun x hxl hxc hxs B hr hnm => ?_)
  unfold wp_X8_marks at h
  refine r_al0 dX8_marks_0 ?_
  refine r_getR B 117 fg_X8_17 kd_115 (kl kd_115) (ρo (off := 2) kd_115 rfl) dX8_marks_1 ?_
  refine r_sipush dX8_marks_4 (by decide) ?_
  refine r_il1 dX8_marks_7 ?_
  refine r_imul dX8_marks_8 ?_
  refine r_bipush dX8_marks_9 (by decide) ?_
  refine r_iadd dX8_marks_11 ?_
  refine r_il2 dX8_marks_12 ?_
  refine r_iadd dX8_marks_13 ?_
  refine r_il3 dX8_marks_14 ?_
  refine r_if_eq 22 dX8_marks_15 rfl hp2 (fun c1 => ?_) (fun c1 => ?_)
  · have h := h.1 c1
    refine r_iconst dX8_marks_22 ?_
    obtain ⟨o2, h⟩ := h
    refine r_iast B kd_117 (kl kd_117) (by decide) o2 dX8_marks_23 ?_
    refine n_mem (fun μ3 eμ3 => ?_)
    have h := h μ3 eμ3
    have mμ3 : okM μ3 := eqM eμ3 (okM_sI hμ (inR_k rfl))
    exact r_vret B hr mμ3 dX8_marks_24 h
  · have h := h.2 c1
    refine r_iconst dX8_marks_18 ?_
    refine r_goto 23 dX8_marks_19 rfl ?_
    obtain ⟨o4, h⟩ := h
    refine r_iast B kd_117 (kl kd_117) (by decide) o4 dX8_marks_23 ?_
    refine n_mem (fun μ5 eμ5 => ?_)
    have h := h μ5 eμ5
    have mμ5 : okM μ5 := eqM eμ5 (okM_sI hμ (inR_k rfl))
    exact r_vret B hr mμ5 dX8_marks_24 h
set_option maxRecDepth 20000 in
theorem t_X8_clears_2 {x : Cx} {E : Gx} (B : Bd x E 1 3 "SlipCoversModel") (hr : (xt x).sig.returnType = none) {Q : Mem → Prop} {v1 : Int} {v2 : Int} {μ : Mem} (hv1 : inR v1) (hv2 : inR v2) (hμ : okM μ) (h : LP3 (wp_X8_clears_2 Q) v1 v2 μ) : J cX8_clears x E z0 μ 2 [some (rv E 115), some (iv v1), some (iv v2)] [] (MQ (xb x) (QV E z0 Q) (xa x) (xs x) 0 0 (gA E)) := by
  refine LP3_ind (T := fun (v1 : Int) (v2 : Int) (μ : Mem) => inR v1 → inR v2 → okM μ → J cX8_clears x E z0 μ 2 [some (rv E 115), some (iv v1), some (iv v2)] [] (MQ (xb x) (QV E z0 Q) (xa x) (xs x) 0 0 (gA E))) (fun X2 hX2 v1 v2 μ h hv1 hv2 hμ => ?_) h hv1 hv2 hμ
  unfold wp_X8_clears_2 at h
  refine r_il2 dX8_clears_2 ?_
  refine r_sipush dX8_clears_3 (by decide) ?_
  refine r_icmp_ge 28 dX8_clears_6 rfl hv2 (inR_k rfl) (fun c1 => ?_) (fun c1 => ?_)
  · have h := h.1 c1
    exact r_vret B hr hμ dX8_clears_28 h
  · have h := h.2 c1
    refine r_al0 dX8_clears_9 ?_
    refine r_getR B 117 fg_X8_17 kd_115 (kl kd_115) (ρo (off := 2) kd_115 rfl) dX8_clears_10 ?_
    refine r_sipush dX8_clears_13 (by decide) ?_
    refine r_il1 dX8_clears_16 ?_
    refine r_imul dX8_clears_17 ?_
    refine r_il2 dX8_clears_18 ?_
    refine r_iadd dX8_clears_19 ?_
    refine r_iconst dX8_clears_20 ?_
    obtain ⟨o2, h⟩ := h
    refine r_iast B kd_117 (kl kd_117) (by decide) o2 dX8_clears_21 ?_
    refine n_mem (fun μ3 eμ3 => ?_)
    have h := h μ3 eμ3
    have mμ3 : okM μ3 := eqM eμ3 (okM_sI hμ (inR_k rfl))
    refine r_inc2 dX8_clears_22 rfl ?_
    obtain ⟨o4, h⟩ := h
    refine r_goto 2 dX8_clears_25 rfl ?_
    exact J_weak (hX2 v1 (v2 + 1) μ3 h hv1 o4 mμ3) (⟨rfl, ⟨rfl, ⟨rfl, trivial⟩⟩⟩)
set_option maxRecDepth 20000 in
theorem c_X8_clears (l : Launch) (E : Gx) {p0 : Int} {μ : Mem} {Q : Mem → Prop} (hp0 : inR p0) (hμ : okM μ) (h : wp_X8_clears p0 μ Q) : MT l yX8_clears cX8_clears 3 none E 1 0 0 z0 [rv E 115, iv p0] μ (QV E z0 Q) := by
  refine m_start [some (rv E 115), some (iv p0), none] (by decide) rfl rfl rfl (fun x hxl hxc hxs B hr hnm => ?_)
  unfold wp_X8_clears at h
  refine r_iconst dX8_clears_0 ?_
  refine r_is2 dX8_clears_1 rfl ?_
  exact J_weak (t_X8_clears_2 B hr hp0 (inR_k rfl) hμ h) (⟨rfl, ⟨rfl, ⟨rfl, trivial⟩⟩⟩)
set_option maxRecDepth 20000 in
theorem t_X8_copies_2 {x : Cx} {E : Gx} (B : Bd x E 1 4 "SlipCoversModel") (hr : (xt x).sig.returnType = none) {Q : Mem → Prop} {v1 : Int} {v2 : Int} {v3 : Int} {μ : Mem} (hv1 : inR v1) (hv2 : inR v2) (hv3 : inR v3) (hμ : okM μ) (h : LP4 (wp_X8_copies_2 Q) v1 v2 v3 μ) : J cX8_copies x E z0 μ 2 [some (rv E 115), some (iv v1), some (iv v2), some (iv v3)] [] (MQ (xb x) (QV E z0 Q) (xa x) (xs x) 0 0 (gA E)) := by
  refine LP4_ind (T := fun (v1 : Int) (v2 : Int) (v3 : Int) (μ : Mem) => inR v1 → inR v2 → inR v3 → okM μ → J cX8_copies x E z0 μ 2 [some (rv E 115), some (iv v1), some (iv v2), some (iv v3)] [] (MQ (xb x) (QV E z0 Q) (xa x) (xs x) 0 0 (gA E))) (fun X2 hX2 v1 v2 v3 μ h hv1 hv2 hv3 hμ => ?_) h hv1 hv2 hv3 hμ
  unfold wp_X8_copies_2 at h
  refine r_il3 dX8_copies_2 ?_
  refine r_sipush dX8_copies_3 (by decide) ?_
  refine r_icmp_ge 39 dX8_copies_6 rfl hv3 (inR_k rfl) (fun c1 => ?_) (fun c1 => ?_)
  · have h := h.1 c1
    exact r_vret B hr hμ dX8_copies_39 h
  · have h := h.2 c1
    refine r_al0 dX8_copies_9 ?_
    refine r_getR B 117 fg_X8_17 kd_115 (kl kd_115) (ρo (off := 2) kd_115 rfl) dX8_copies_10 ?_
    refine r_sipush dX8_copies_13 (by decide) ?_
    refine r_il2 dX8_copies_16 ?_
    refine r_imul dX8_copies_17 ?_
    refine r_il3 dX8_copies_18 ?_
    refine r_iadd dX8_copies_19 ?_
    refine r_al0 dX8_copies_20 ?_
    refine r_getR B 117 fg_X8_17 kd_115 (kl kd_115) (ρo (off := 2) kd_115 rfl) dX8_copies_21 ?_
    refine r_sipush dX8_copies_24 (by decide) ?_
    refine r_il1 dX8_copies_27 ?_
    refine r_imul dX8_copies_28 ?_
    refine r_il3 dX8_copies_29 ?_
    refine r_iadd dX8_copies_30 ?_
    obtain ⟨o2, h⟩ := h
    refine r_iald B kd_117 (kl kd_117) (by decide) o2 dX8_copies_31 ?_
    obtain ⟨o3, h⟩ := h
    refine r_iast B kd_117 (kl kd_117) (by decide) o3 dX8_copies_32 ?_
    refine n_mem (fun μ4 eμ4 => ?_)
    have h := h μ4 eμ4
    have mμ4 : okM μ4 := eqM eμ4 (okM_sI hμ (hμ _ _))
    refine r_inc3 dX8_copies_33 rfl ?_
    obtain ⟨o5, h⟩ := h
    refine r_goto 2 dX8_copies_36 rfl ?_
    exact J_weak (hX2 v1 v2 (v3 + 1) μ4 h hv1 hv2 o5 mμ4) (⟨rfl, ⟨rfl, ⟨rfl, ⟨rfl, trivial⟩⟩⟩⟩)
set_option maxRecDepth 20000 in
theorem c_X8_copies (l : Launch) (E : Gx) {p0 : Int} {p1 : Int} {μ : Mem} {Q : Mem → Prop} (hp0 : inR p0) (hp1 : inR p1) (hμ : okM μ) (h : wp_X8_copies p0 p1 μ Q) : MT l yX8_copies cX8_copies 4 none E 1 0 0 z0 [rv E 115, iv p0, iv p1] μ (QV E z0 Q) := by
  refine m_start [some (rv E 115), some (iv p0), some (iv p1), none] (by decide) rfl rfl rfl (fun x hxl hxc hxs B hr hnm => ?_)
  unfold wp_X8_copies at h
  refine r_iconst dX8_copies_0 ?_
  refine r_is3 dX8_copies_1 rfl ?_
  exact J_weak (t_X8_copies_2 B hr hp0 hp1 (inR_k rfl) hμ h) (⟨rfl, ⟨rfl, ⟨rfl, ⟨rfl, trivial⟩⟩⟩⟩)
set_option maxRecDepth 20000 in
theorem c_X8_adds (l : Launch) (E : Gx) {p0 : Int} {p1 : Int} {p2 : Int} {μ : Mem} {Q : Mem → Prop} (hp0 : inR p0) (hp1 : inR p1) (hp2 : inR p2) (hμ : okM μ) (h : wp_X8_adds p0 p1 p2 μ Q) : MT l yX8_adds cX8_adds 4 none E 2 0 0 z0 [rv E 115, iv p0, iv p1, iv p2] μ (QV E z0 Q) := by
  refine m_start [some (rv E 115), some (iv p0), some (iv p1), some (iv p2)] (by decide) rfl rfl rfl (fun x hxl hxc hxs B hr hnm => ?_)
  unfold wp_X8_adds at h
  refine r_al0 dX8_adds_0 ?_
  refine r_getR B 117 fg_X8_17 kd_115 (kl kd_115) (ρo (off := 2) kd_115 rfl) dX8_adds_1 ?_
  refine r_sipush dX8_adds_4 (by decide) ?_
  refine r_il1 dX8_adds_7 ?_
  refine r_imul dX8_adds_8 ?_
  refine r_iconst dX8_adds_9 ?_
  refine r_iadd dX8_adds_10 ?_
  refine r_al0 dX8_adds_11 ?_
  refine r_il1 dX8_adds_12 ?_
  refine r_cVI1 B cb_X8_places lk_X8_105 cv_X8_places kd_115 (c_X8_places (xl x) E hp0 hμ h) rfl rfl dX8_adds_13 (fun r2 μ1 hr2 mμ1 h => ?_)
  refine r_iadd dX8_adds_16 ?_
  refine r_il2 dX8_adds_17 ?_
  obtain ⟨o3, h⟩ := h
  refine r_iast B kd_117 (kl kd_117) (by decide) o3 dX8_adds_18 ?_
  refine n_mem (fun μ4 eμ4 => ?_)
  have h := h μ4 eμ4
  have mμ4 : okM μ4 := eqM eμ4 (okM_sI mμ1 hp1)
  refine r_al0 dX8_adds_19 ?_
  refine r_getR B 117 fg_X8_17 kd_115 (kl kd_115) (ρo (off := 2) kd_115 rfl) dX8_adds_20 ?_
  refine r_sipush dX8_adds_23 (by decide) ?_
  refine r_il1 dX8_adds_26 ?_
  refine r_imul dX8_adds_27 ?_
  refine r_bipush dX8_adds_28 (by decide) ?_
  refine r_iadd dX8_adds_30 ?_
  refine r_al0 dX8_adds_31 ?_
  refine r_il1 dX8_adds_32 ?_
  refine r_cVI1 B cb_X8_places lk_X8_105 cv_X8_places kd_115 (c_X8_places (xl x) E hp0 mμ4 h) rfl rfl dX8_adds_33 (fun r6 μ5 hr6 mμ5 h => ?_)
  refine r_iadd dX8_adds_36 ?_
  refine r_il3 dX8_adds_37 ?_
  obtain ⟨o7, h⟩ := h
  refine r_iast B kd_117 (kl kd_117) (by decide) o7 dX8_adds_38 ?_
  refine n_mem (fun μ8 eμ8 => ?_)
  have h := h μ8 eμ8
  have mμ8 : okM μ8 := eqM eμ8 (okM_sI mμ5 hp2)
  refine r_al0 dX8_adds_39 ?_
  refine r_getR B 117 fg_X8_17 kd_115 (kl kd_115) (ρo (off := 2) kd_115 rfl) dX8_adds_40 ?_
  refine r_sipush dX8_adds_43 (by decide) ?_
  refine r_il1 dX8_adds_46 ?_
  refine r_imul dX8_adds_47 ?_
  refine r_dup2 rfl rfl dX8_adds_48 ?_
  obtain ⟨o9, h⟩ := h
  refine r_iald B kd_117 (kl kd_117) (by decide) o9 dX8_adds_49 ?_
  refine r_iconst dX8_adds_50 ?_
  refine r_iadd dX8_adds_51 ?_
  obtain ⟨o10, h⟩ := h
  refine r_iast B kd_117 (kl kd_117) (by decide) o9 dX8_adds_52 ?_
  refine n_mem (fun μ11 eμ11 => ?_)
  have h := h μ11 eμ11
  have mμ11 : okM μ11 := eqM eμ11 (okM_sI mμ8 o10)
  exact r_vret B hr mμ11 dX8_adds_53 h
set_option maxRecDepth 20000 in
theorem t_X8_words_4 {x : Cx} {E : Gx} (B : Bd x E 2 4 "SlipCoversModel") (hr : (xt x).sig.returnType = (some .int)) {Q : Int → Mem → Prop} {v1 : Int} {v2 : Int} {v3 : Int} {μ : Mem} (hv1 : inR v1) (hv2 : inR v2) (hv3 : inR v3) (hμ : okM μ) (h : LP4 (wp_X8_words_4 Q) v1 v2 v3 μ) : J cX8_words x E z0 μ 4 [some (rv E 115), some (iv v1), some (iv v2), some (iv v3)] [] (MQ (xb x) (QI E z0 Q) (xa x) (xs x) 0 0 (gA E)) := by
  refine LP4_ind (T := fun (v1 : Int) (v2 : Int) (v3 : Int) (μ : Mem) => inR v1 → inR v2 → inR v3 → okM μ → J cX8_words x E z0 μ 4 [some (rv E 115), some (iv v1), some (iv v2), some (iv v3)] [] (MQ (xb x) (QI E z0 Q) (xa x) (xs x) 0 0 (gA E))) (fun X4 hX4 v1 v2 v3 μ h hv1 hv2 hv3 hμ => ?_) h hv1 hv2 hv3 hμ
  unfold wp_X8_words_4 at h
  refine r_il3 dX8_words_4 ?_
  refine r_al0 dX8_words_5 ?_
  refine r_il1 dX8_words_6 ?_
  refine r_cVI1 B cb_X8_places lk_X8_105 cv_X8_places kd_115 (c_X8_places (xl x) E hv1 hμ h) rfl rfl dX8_words_7 (fun r2 μ1 hr2 mμ1 h => ?_)
  refine r_icmp_ge 28 dX8_words_10 rfl hv3 hr2 (fun c3 => ?_) (fun c3 => ?_)
  · have h := h.1 c3
    refine r_il2 dX8_words_28 ?_
    exact r_iret B hr hv2 mμ1 dX8_words_29 h
  · have h := h.2 c3
    refine r_il2 dX8_words_13 ?_
    refine r_al0 dX8_words_14 ?_
    refine r_il1 dX8_words_15 ?_
    refine r_il3 dX8_words_16 ?_
    refine r_cVI2 B cb_X8_sizeOf lk_X8_109 cv_X8_sizeOf kd_115 (c_X8_sizeOf (xl x) E hv1 hv3 mμ1 h) rfl rfl dX8_words_17 (fun r5 μ4 hr5 mμ4 h => ?_)
    refine r_imul dX8_words_20 ?_
    obtain ⟨o7, h⟩ := h
    refine n_topi (fun x6 ex6 => ?_)
    have h := h x6 ex6
    refine r_is2 dX8_words_21 rfl ?_
    refine r_inc3 dX8_words_22 rfl ?_
    obtain ⟨o8, h⟩ := h
    refine r_goto 4 dX8_words_25 rfl ?_
    exact J_weak (hX4 v1 x6 (v3 + 1) μ4 h hv1 (eqR ex6 o7) o8 mμ4) (⟨rfl, ⟨rfl, ⟨rfl, ⟨rfl, trivial⟩⟩⟩⟩)
set_option maxRecDepth 20000 in
theorem c_X8_words (l : Launch) (E : Gx) {p0 : Int} {μ : Mem} {Q : Int → Mem → Prop} (hp0 : inR p0) (hμ : okM μ) (h : wp_X8_words p0 μ Q) : MT l yX8_words cX8_words 4 (some .int) E 2 0 0 z0 [rv E 115, iv p0] μ (QI E z0 Q) := by
  refine m_start [some (rv E 115), some (iv p0), none, none] (by decide) rfl rfl rfl (fun x hxl hxc hxs B hr hnm => ?_)
  unfold wp_X8_words at h
  refine r_iconst dX8_words_0 ?_
  refine r_is2 dX8_words_1 rfl ?_
  refine r_iconst dX8_words_2 ?_
  refine r_is3 dX8_words_3 rfl ?_
  exact J_weak (t_X8_words_4 B hr hp0 (inR_k rfl) (inR_k rfl) hμ h) (⟨rfl, ⟨rfl, ⟨rfl, ⟨rfl, trivial⟩⟩⟩⟩)
set_option maxRecDepth 20000 in
theorem t_X8_digitOf_12 {x : Cx} {E : Gx} (B : Bd x E 2 6 "SlipCoversModel") (hr : (xt x).sig.returnType = (some .int)) {Q : Int → Mem → Prop} {v1 : Int} {v3 : Int} {v4 : Int} {v5 : Int} {μ : Mem} (hv1 : inR v1) (hv3 : inR v3) (hv4 : inR v4) (hv5 : inR v5) (hμ : okM μ) (h : LP5 (wp_X8_digitOf_12 Q) v1 v3 v4 v5 μ) : J cX8_digitOf x E z0 μ 12 [some (rv E 115), some (iv v1), none, some (iv v3), some (iv v4), some (iv v5)] [] (MQ (xb x) (QI E z0 Q) (xa x) (xs x) 0 0 (gA E)) := by
  refine LP5_ind (T := fun (v1 : Int) (v3 : Int) (v4 : Int) (v5 : Int) (μ : Mem) => inR v1 → inR v3 → inR v4 → inR v5 → okM μ → J cX8_digitOf x E z0 μ 12 [some (rv E 115), some (iv v1), none, some (iv v3), some (iv v4), some (iv v5)] [] (MQ (xb x) (QI E z0 Q) (xa x) (xs x) 0 0 (gA E))) (fun X12 hX12 v1 v3 v4 v5 μ h hv1 hv3 hv4 hv5 hμ => ?_) h hv1 hv3 hv4 hv5 hμ
  unfold wp_X8_digitOf_12 at h
  refine r_il5 dX8_digitOf_12 ?_
  refine r_il3 dX8_digitOf_14 ?_
  refine r_icmp_le 36 dX8_digitOf_15 rfl hv5 hv3 (fun c5 => ?_) (fun c5 => ?_)
  · have h := h.1 c5
    refine r_il4 dX8_digitOf_36 ?_
    refine r_al0 dX8_digitOf_38 ?_
    refine r_il1 dX8_digitOf_39 ?_
    refine r_il3 dX8_digitOf_40 ?_
    refine r_cVI2 B cb_X8_sizeOf lk_X8_109 cv_X8_sizeOf kd_115 (c_X8_sizeOf (xl x) E hv1 hv3 hμ h) rfl rfl dX8_digitOf_41 (fun r7 μ6 hr7 mμ6 h => ?_)
    obtain ⟨o8, h⟩ := h
    refine r_irem dX8_digitOf_44 o8 hv4 hr7 ?_
    exact r_iret B hr (inR_irem o8 hv4 hr7) mμ6 dX8_digitOf_45 h
  · have h := h.2 c5
    refine r_il4 dX8_digitOf_18 ?_
    refine r_al0 dX8_digitOf_20 ?_
    refine r_il1 dX8_digitOf_21 ?_
    refine r_il5 dX8_digitOf_22 ?_
    refine r_cVI2 B cb_X8_sizeOf lk_X8_109 cv_X8_sizeOf kd_115 (c_X8_sizeOf (xl x) E hv1 hv5 hμ h) rfl rfl dX8_digitOf_24 (fun r10 μ9 hr10 mμ9 h => ?_)
    obtain ⟨o11, h⟩ := h
    refine r_idiv dX8_digitOf_27 o11 hv4 hr10 ?_
    refine n_topi (fun x12 ex12 => ?_)
    have h := h x12 ex12
    refine r_is4 dX8_digitOf_28 rfl ?_
    refine r_inc5 dX8_digitOf_30 rfl ?_
    obtain ⟨o13, h⟩ := h
    refine r_goto 12 dX8_digitOf_33 rfl ?_
    exact J_weak (hX12 v1 v3 x12 (v5 + (-1)) μ9 h hv1 hv3 (eqR ex12 (inR_idiv o11 hv4 hr10)) o13 mμ9) (⟨rfl, ⟨rfl, ⟨rfl, ⟨rfl, ⟨rfl, trivial⟩⟩⟩⟩⟩)
set_option maxRecDepth 20000 in
theorem c_X8_digitOf (l : Launch) (E : Gx) {p0 : Int} {p1 : Int} {p2 : Int} {μ : Mem} {Q : Int → Mem → Prop} (hp0 : inR p0) (hp1 : inR p1) (hp2 : inR p2) (hμ : okM μ) (h : wp_X8_digitOf p0 p1 p2 μ Q) : MT l yX8_digitOf cX8_digitOf 6 (some .int) E 2 0 0 z0 [rv E 115, iv p0, iv p1, iv p2] μ (QI E z0 Q) := by
  refine m_start [some (rv E 115), some (iv p0), some (iv p1), some (iv p2), none, none] (by decide) rfl rfl rfl (fun x hxl hxc hxs B hr hnm => ?_)
  unfold wp_X8_digitOf at h
  refine r_il2 dX8_digitOf_0 ?_
  refine r_is4 dX8_digitOf_1 rfl ?_
  refine r_al0 dX8_digitOf_3 ?_
  refine r_il1 dX8_digitOf_4 ?_
  refine r_cVI1 B cb_X8_places lk_X8_105 cv_X8_places kd_115 (c_X8_places (xl x) E hp0 hμ h) rfl rfl dX8_digitOf_5 (fun r2 μ1 hr2 mμ1 h => ?_)
  refine r_iconst dX8_digitOf_8 ?_
  refine r_isub dX8_digitOf_9 ?_
  obtain ⟨o4, h⟩ := h
  refine n_topi (fun x3 ex3 => ?_)
  have h := h x3 ex3
  refine r_is5 dX8_digitOf_10 rfl ?_
  exact J_weak (t_X8_digitOf_12 B hr hp0 hp2 hp1 (eqR ex3 o4) mμ1 h) (⟨rfl, ⟨rfl, ⟨rfl, ⟨rfl, ⟨rfl, trivial⟩⟩⟩⟩⟩)
set_option maxRecDepth 20000 in
theorem t_X8_many_28 {x : Cx} {E : Gx} (B : Bd x E 3 4 "SlipCoversModel") (hr : (xt x).sig.returnType = (some .int)) {Q : Int → Mem → Prop} {X4 : Int → Int → Int → Mem → Prop} (hX4 : ∀ (v1 : Int) (v2 : Int) (v3 : Int) (μ : Mem), X4 v1 v2 v3 μ → inR v1 → inR v2 → inR v3 → okM μ → J cX8_many x E z0 μ 4 [some (rv E 115), some (iv v1), some (iv v2), some (iv v3)] [] (MQ (xb x) (QI E z0 Q) (xa x) (xs x) 0 0 (gA E))) {v1 : Int} {v3 : Int} {s0 : Int} {s1 : Int} {μ : Mem} (hv1 : inR v1) (hv3 : inR v3) (hs0 : inR s0) (hs1 : inR s1) (hμ : okM μ) (h : wp_X8_many_28 Q X4 v1 v3 s0 s1 μ) : J cX8_many x E z0 μ 28 [some (rv E 115), some (iv v1), none, some (iv v3)] [iv s1, iv s0] (MQ (xb x) (QI E z0 Q) (xa x) (xs x) 0 0 (gA E)) := by
  unfold wp_X8_many_28 at h
  refine r_iadd dX8_many_28 ?_
  obtain ⟨o8, h⟩ := h
  refine n_topi (fun x7 ex7 => ?_)
  have h := h x7 ex7
  refine r_is2 dX8_many_29 rfl ?_
  refine r_inc3 dX8_many_30 rfl ?_
  obtain ⟨o9, h⟩ := h
  refine r_goto 4 dX8_many_33 rfl ?_
  exact J_weak (hX4 v1 x7 (v3 + 1) μ h hv1 (eqR ex7 o8) o9 hμ) (⟨rfl, ⟨rfl, ⟨rfl, ⟨rfl, trivial⟩⟩⟩⟩)
set_option maxRecDepth 20000 in
theorem t_X8_many_4 {x : Cx} {E : Gx} (B : Bd x E 3 4 "SlipCoversModel") (hr : (xt x).sig.returnType = (some .int)) {Q : Int → Mem → Prop} {v1 : Int} {v2 : Int} {v3 : Int} {μ : Mem} (hv1 : inR v1) (hv2 : inR v2) (hv3 : inR v3) (hμ : okM μ) (h : LP4 (wp_X8_many_4 Q) v1 v2 v3 μ) : J cX8_many x E z0 μ 4 [some (rv E 115), some (iv v1), some (iv v2), some (iv v3)] [] (MQ (xb x) (QI E z0 Q) (xa x) (xs x) 0 0 (gA E)) := by
  refine LP4_ind (T := fun (v1 : Int) (v2 : Int) (v3 : Int) (μ : Mem) => inR v1 → inR v2 → inR v3 → okM μ → J cX8_many x E z0 μ 4 [some (rv E 115), some (iv v1), some (iv v2), some (iv v3)] [] (MQ (xb x) (QI E z0 Q) (xa x) (xs x) 0 0 (gA E))) (fun X4 hX4 v1 v2 v3 μ h hv1 hv2 hv3 hμ => ?_) h hv1 hv2 hv3 hμ
  unfold wp_X8_many_4 at h
  refine r_il3 dX8_many_4 ?_
  refine r_al0 dX8_many_5 ?_
  refine r_il1 dX8_many_6 ?_
  refine r_cVI1 B cb_X8_words lk_X8_113 cv_X8_words kd_115 (c_X8_words (xl x) E hv1 hμ h) rfl rfl dX8_many_7 (fun r2 μ1 hr2 mμ1 h => ?_)
  refine r_icmp_ge 36 dX8_many_10 rfl hv3 hr2 (fun c3 => ?_) (fun c3 => ?_)
  · have h := h.1 c3
    refine r_il2 dX8_many_36 ?_
    exact r_iret B hr hv2 mμ1 dX8_many_37 h
  · have h := h.2 c3
    refine r_il2 dX8_many_13 ?_
    refine r_al0 dX8_many_14 ?_
    refine r_il1 dX8_many_15 ?_
    refine r_il3 dX8_many_16 ?_
    refine r_cVI2 B cb_X8_isIn lk_X8_116 cv_X8_isIn kd_115 (c_X8_isIn (xl x) E hv1 hv3 mμ1 h) rfl rfl dX8_many_17 (fun r5 μ4 hr5 mμ4 h => ?_)
    refine r_if_eq 27 dX8_many_20 rfl hr5 (fun c6 => ?_) (fun c6 => ?_)
    · have h := h.1 c6
      refine r_iconst dX8_many_27 ?_
      exact J_weak (t_X8_many_28 B hr hX4 hv1 hv3 hv2 (inR_k rfl) mμ4 h) (⟨rfl, ⟨rfl, ⟨rfl, trivial⟩⟩⟩)
    · have h := h.2 c6
      refine r_iconst dX8_many_23 ?_
      refine r_goto 28 dX8_many_24 rfl ?_
      exact J_weak (t_X8_many_28 B hr hX4 hv1 hv3 hv2 (inR_k rfl) mμ4 h) (⟨rfl, ⟨rfl, ⟨rfl, trivial⟩⟩⟩)
set_option maxRecDepth 20000 in
theorem c_X8_many (l : Launch) (E : Gx) {p0 : Int} {μ : Mem} {Q : Int → Mem → Prop} (hp0 : inR p0) (hμ : okM μ) (h : wp_X8_many p0 μ Q) : MT l yX8_many cX8_many 4 (some .int) E 3 0 0 z0 [rv E 115, iv p0] μ (QI E z0 Q) := by
  refine m_start [some (rv E 115), some (iv p0), none, none] (by decide) rfl rfl rfl (fun x hxl hxc hxs B hr hnm => ?_)
  unfold wp_X8_many at h
  refine r_iconst dX8_many_0 ?_
  refine r_is2 dX8_many_1 rfl ?_
  refine r_iconst dX8_many_2 ?_
  refine r_is3 dX8_many_3 rfl ?_
  exact J_weak (t_X8_many_4 B hr hp0 (inR_k rfl) (inR_k rfl) hμ h) (⟨rfl, ⟨rfl, ⟨rfl, ⟨rfl, trivial⟩⟩⟩⟩)
set_option maxRecDepth 20000 in
theorem t_X8_farOf_57 {x : Cx} {E : Gx} (B : Bd x E 2 9 "SlipCoversModel") (hr : (xt x).sig.returnType = (some .int)) {Q : Int → Mem → Prop} {X18 : Int → Int → Int → Int → Int → Mem → Prop} (hX18 : ∀ (v1 : Int) (v4 : Int) (v5 : Int) (v6 : Int) (v7 : Int) (μ : Mem), X18 v1 v4 v5 v6 v7 μ → inR v1 → inR v4 → inR v5 → inR v6 → inR v7 → okM μ → J cX8_farOf x E z0 μ 18 [some (rv E 115), some (iv v1), none, none, some (iv v4), some (iv v5), some (iv v6), some (iv v7), none] [] (MQ (xb x) (QI E z0 Q) (xa x) (xs x) 0 0 (gA E))) {v1 : Int} {v4 : Int} {v5 : Int} {v6 : Int} {v7 : Int} {v8 : Int} {μ : Mem} (hv1 : inR v1) (hv4 : inR v4) (hv5 : inR v5) (hv6 : inR v6) (hv7 : inR v7) (hv8 : inR v8) (hμ : okM μ) (h : wp_X8_farOf_57 Q X18 v1 v4 v5 v6 v7 v8 μ) : J cX8_farOf x E z0 μ 57 [some (rv E 115), some (iv v1), none, none, some (iv v4), some (iv v5), some (iv v6), some (iv v7), some (iv v8)] [] (MQ (xb x) (QI E z0 Q) (xa x) (xs x) 0 0 (gA E)) := by
  unfold wp_X8_farOf_57 at h
  refine r_il4 dX8_farOf_57 ?_
  refine r_il8 dX8_farOf_59 ?_
  obtain ⟨o11, h⟩ := h
  refine r_idiv dX8_farOf_61 o11 hv4 hv8 ?_
  refine n_topi (fun x12 ex12 => ?_)
  have h := h x12 ex12
  refine r_is4 dX8_farOf_62 rfl ?_
  refine r_il5 dX8_farOf_64 ?_
  refine r_il8 dX8_farOf_66 ?_
  obtain ⟨o13, h⟩ := h
  refine r_idiv dX8_farOf_68 o13 hv5 hv8 ?_
  refine n_topi (fun x14 ex14 => ?_)
  have h := h x14 ex14
  refine r_is5 dX8_farOf_69 rfl ?_
  refine r_inc7 dX8_farOf_71 rfl ?_
  obtain ⟨o15, h⟩ := h
  refine r_goto 18 dX8_farOf_74 rfl ?_
  exact J_weak (hX18 v1 x12 x14 v6 (v7 + (-1)) μ h hv1 (eqR ex12 (inR_idiv o11 hv4 hv8)) (eqR ex14 (inR_idiv o13 hv5 hv8)) hv6 o15 hμ) (⟨rfl, ⟨rfl, ⟨rfl, ⟨rfl, ⟨rfl, ⟨rfl, trivial⟩⟩⟩⟩⟩⟩)
set_option maxRecDepth 20000 in
theorem t_X8_farOf_18 {x : Cx} {E : Gx} (B : Bd x E 2 9 "SlipCoversModel") (hr : (xt x).sig.returnType = (some .int)) {Q : Int → Mem → Prop} {v1 : Int} {v4 : Int} {v5 : Int} {v6 : Int} {v7 : Int} {μ : Mem} (hv1 : inR v1) (hv4 : inR v4) (hv5 : inR v5) (hv6 : inR v6) (hv7 : inR v7) (hμ : okM μ) (h : LP6 (wp_X8_farOf_18 Q) v1 v4 v5 v6 v7 μ) : J cX8_farOf x E z0 μ 18 [some (rv E 115), some (iv v1), none, none, some (iv v4), some (iv v5), some (iv v6), some (iv v7), none] [] (MQ (xb x) (QI E z0 Q) (xa x) (xs x) 0 0 (gA E)) := by
  refine LP6_ind (T := fun (v1 : Int) (v4 : Int) (v5 : Int) (v6 : Int) (v7 : Int) (μ : Mem) => inR v1 → inR v4 → inR v5 → inR v6 → inR v7 → okM μ → J cX8_farOf x E z0 μ 18 [some (rv E 115), some (iv v1), none, none, some (iv v4), some (iv v5), some (iv v6), some (iv v7), none] [] (MQ (xb x) (QI E z0 Q) (xa x) (xs x) 0 0 (gA E))) (fun X18 hX18 v1 v4 v5 v6 v7 μ h hv1 hv4 hv5 hv6 hv7 hμ => ?_) h hv1 hv4 hv5 hv6 hv7 hμ
  unfold wp_X8_farOf_18 at h
  refine r_il7 dX8_farOf_18 ?_
  refine r_if_lt 77 dX8_farOf_20 rfl hv7 (fun c5 => ?_) (fun c5 => ?_)
  · have h := h.1 c5
    refine r_il6 dX8_farOf_77 ?_
    exact r_iret B hr hv6 hμ dX8_farOf_79 h
  · have h := h.2 c5
    refine r_al0 dX8_farOf_23 ?_
    refine r_il1 dX8_farOf_24 ?_
    refine r_il7 dX8_farOf_25 ?_
    refine r_cVI2 B cb_X8_sizeOf lk_X8_109 cv_X8_sizeOf kd_115 (c_X8_sizeOf (xl x) E hv1 hv7 hμ h) rfl rfl dX8_farOf_27 (fun r7 μ6 hr7 mμ6 h => ?_)
    refine r_is8 dX8_farOf_30 rfl ?_
    refine r_il4 dX8_farOf_32 ?_
    refine r_il8 dX8_farOf_34 ?_
    obtain ⟨o8, h⟩ := h
    refine r_irem dX8_farOf_36 o8 hv4 hr7 ?_
    refine r_il5 dX8_farOf_37 ?_
    refine r_il8 dX8_farOf_39 ?_
    obtain ⟨o9, h⟩ := h
    refine r_irem dX8_farOf_41 o9 hv5 hr7 ?_
    refine r_icmp_eq 57 dX8_farOf_42 rfl (inR_irem o8 hv4 hr7) (inR_irem o9 hv5 hr7) (fun c10 => ?_) (fun c10 => ?_)
    · have h := h.1 c10
      exact J_weak (t_X8_farOf_57 B hr hX18 hv1 hv4 hv5 hv6 hv7 hr7 mμ6 h) (⟨rfl, ⟨rfl, ⟨rfl, ⟨rfl, ⟨rfl, ⟨rfl, ⟨rfl, trivial⟩⟩⟩⟩⟩⟩⟩)
    · have h := h.2 c10
      refine r_il6 dX8_farOf_45 ?_
      refine r_al0 dX8_farOf_47 ?_
      refine r_il1 dX8_farOf_48 ?_
      refine r_il7 dX8_farOf_49 ?_
      refine r_cVI2 B cb_X8_weightOf lk_X8_120 cv_X8_weightOf kd_115 (c_X8_weightOf (xl x) E hv1 hv7 mμ6 h) rfl rfl dX8_farOf_51 (fun r17 μ16 hr17 mμ16 h => ?_)
      refine r_iadd dX8_farOf_54 ?_
      obtain ⟨o19, h⟩ := h
      refine n_topi (fun x18 ex18 => ?_)
      have h := h x18 ex18
      refine r_is6 dX8_farOf_55 rfl ?_
      exact J_weak (t_X8_farOf_57 B hr hX18 hv1 hv4 hv5 (eqR ex18 o19) hv7 hr7 mμ16 h) (⟨rfl, ⟨rfl, ⟨rfl, ⟨rfl, ⟨rfl, ⟨rfl, ⟨rfl, trivial⟩⟩⟩⟩⟩⟩⟩)
set_option maxRecDepth 20000 in
theorem c_X8_farOf (l : Launch) (E : Gx) {p0 : Int} {p1 : Int} {p2 : Int} {μ : Mem} {Q : Int → Mem → Prop} (hp0 : inR p0) (hp1 : inR p1) (hp2 : inR p2) (hμ : okM μ) (h : wp_X8_farOf p0 p1 p2 μ Q) : MT l yX8_farOf cX8_farOf 9 (some .int) E 2 0 0 z0 [rv E 115, iv p0, iv p1, iv p2] μ (QI E z0 Q) := by
  refine m_start [some (rv E 115), some (iv p0), some (iv p1), some (iv p2), none, none, none, none, none] (by decide) rfl rfl rfl (fun x hxl hxc hxs B hr hnm => ?_)
  unfold wp_X8_farOf at h
  refine r_il2 dX8_farOf_0 ?_
  refine r_is4 dX8_farOf_1 rfl ?_
  refine r_il3 dX8_farOf_3 ?_
  refine r_is5 dX8_farOf_4 rfl ?_
  refine r_iconst dX8_farOf_6 ?_
  refine r_is6 dX8_farOf_7 rfl ?_
  refine r_al0 dX8_farOf_9 ?_
  refine r_il1 dX8_farOf_10 ?_
  refine r_cVI1 B cb_X8_places lk_X8_105 cv_X8_places kd_115 (c_X8_places (xl x) E hp0 hμ h) rfl rfl dX8_farOf_11 (fun r2 μ1 hr2 mμ1 h => ?_)
  refine r_iconst dX8_farOf_14 ?_
  refine r_isub dX8_farOf_15 ?_
  obtain ⟨o4, h⟩ := h
  refine n_topi (fun x3 ex3 => ?_)
  have h := h x3 ex3
  refine r_is7 dX8_farOf_16 rfl ?_
  exact J_weak (t_X8_farOf_18 B hr hp0 hp1 hp2 (inR_k rfl) (eqR ex3 o4) mμ1 h) (⟨rfl, ⟨rfl, ⟨rfl, ⟨rfl, ⟨rfl, ⟨rfl, trivial⟩⟩⟩⟩⟩⟩)

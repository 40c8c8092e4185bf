set_option maxRecDepth 20000 in
theorem t_X3_lay_24 {x : Cx} {E : Gx} (B : Bd x E 2 3 "SlipCovers$Ground") (hr : (xt x).sig.returnType = none) {Q : Mem → Prop} {v1 : Nat} {v2 : Int} {μ : Mem} (hv1 : isC v1) (hv2 : inR v2) (hμ : okM μ) (h : LP3 (wp_X3_lay_24 Q) v1 v2 μ) : J cX3_lay x E z0 μ 24 [some (rv E 70), some (rv E v1), some (iv v2)] [] (MQ (xb x) (QV E z0 Q) (xa x) (xs x) 0 0 (gA E)) := by
  refine LP3_ind (T := fun (v1 : Nat) (v2 : Int) (μ : Mem) => isC v1 → inR v2 → okM μ → J cX3_lay x E z0 μ 24 [some (rv E 70), some (rv E v1), some (iv v2)] [] (MQ (xb x) (QV E z0 Q) (xa x) (xs x) 0 0 (gA E))) (fun X24 hX24 v1 v2 μ h hv1 hv2 hμ => ?_) h hv1 hv2 hμ
  unfold wp_X3_lay_24 at h
  refine r_il2 dX3_lay_24 ?_
  refine r_al1 dX3_lay_25 ?_
  refine r_getIN B fg_X3_31 (hv1).1 (kl (hv1).1) dX3_lay_26 ?_
  refine r_icmp_ge 55 dX3_lay_29 rfl hv2 (hμ v1 1) (fun c5 => ?_) (fun c5 => ?_)
  · have h := h.1 c5
    exact r_vret B hr hμ dX3_lay_55 h
  · have h := h.2 c5
    refine r_al0 dX3_lay_32 ?_
    refine r_il2 dX3_lay_33 ?_
    refine r_al1 dX3_lay_34 ?_
    refine r_getRN B (v1 + 1) fg_X3_36 (hv1).1 (kl (hv1).1) (ρo (off := 1) (hv1).1 rfl) dX3_lay_35 ?_
    refine r_il2 dX3_lay_38 ?_
    obtain ⟨o6, h⟩ := h
    refine r_iald B (hv1).2.1 (kl (hv1).2.1) (by decide) o6 dX3_lay_39 ?_
    refine r_al1 dX3_lay_40 ?_
    refine r_getRN B (v1 + 2) fg_X3_39 (hv1).1 (kl (hv1).1) (ρo (off := 2) (hv1).1 rfl) dX3_lay_41 ?_
    refine r_il2 dX3_lay_44 ?_
    refine r_iald B (hv1).2.2.1 (kl (hv1).2.2.1) (by decide) o6 dX3_lay_45 ?_
    refine r_cVV3 B cb_X3_layPlace lk_X3_42 cv_X3_layPlace kd_70 (c_X3_layPlace (xl x) E hv2 (hμ _ _) (hμ _ _) hμ h) rfl rfl dX3_lay_46 (fun μ7 mμ7 h => ?_)
    refine r_inc2 dX3_lay_49 rfl ?_
    obtain ⟨o8, h⟩ := h
    refine r_goto 24 dX3_lay_52 rfl ?_
    exact J_weak (hX24 v1 (v2 + 1) μ7 h hv1 o8 mμ7) (⟨rfl, ⟨rfl, ⟨rfl, trivial⟩⟩⟩)
set_option maxRecDepth 20000 in
theorem c_X3_lay (l : Launch) (E : Gx) {p0 : Nat} {μ : Mem} {Q : Mem → Prop} (hp0 : isC p0) (hμ : okM μ) (h : wp_X3_lay p0 μ Q) : MT l yX3_lay cX3_lay 3 none E 2 0 0 z0 [rv E 70, rv E p0] μ (QV E z0 Q) := by
  refine m_start [some (rv E 70), some (rv E p0), none] (by decide) rfl rfl rfl (fun x hxl hxc hxs B hr hnm => ?_)
  unfold wp_X3_lay at h
  refine r_al0 dX3_lay_0 ?_
  refine r_iconst dX3_lay_1 ?_
  refine r_putI B fg_X3_21 fp_3_0 kd_70 (kl kd_70) dX3_lay_2 ?_
  refine n_mem (fun μ1 eμ1 => ?_)
  have h := h μ1 eμ1
  have mμ1 : okM μ1 := eqM eμ1 (okM_sI hμ (inR_k rfl))
  refine r_al0 dX3_lay_5 ?_
  refine r_iconst dX3_lay_6 ?_
  refine r_putI B fg_X3_25 fp_3_1 kd_70 (kl kd_70) dX3_lay_7 ?_
  refine n_mem (fun μ2 eμ2 => ?_)
  have h := h μ2 eμ2
  have mμ2 : okM μ2 := eqM eμ2 (okM_sI mμ1 (inR_k rfl))
  refine r_al0 dX3_lay_10 ?_
  refine r_iconst dX3_lay_11 ?_
  refine r_putI B fg_X3_28 fp_3_2 kd_70 (kl kd_70) dX3_lay_12 ?_
  refine n_mem (fun μ3 eμ3 => ?_)
  have h := h μ3 eμ3
  have mμ3 : okM μ3 := eqM eμ3 (okM_sI mμ2 (inR_k rfl))
  refine r_al0 dX3_lay_15 ?_
  refine r_getR B 71 fg_X3_9 kd_70 (kl kd_70) (ρo (off := 1) kd_70 rfl) dX3_lay_16 ?_
  refine r_iconst dX3_lay_19 ?_
  refine r_iconst dX3_lay_20 ?_
  refine r_iast B kd_71 (kl kd_71) (by decide) (by decide) dX3_lay_21 ?_
  refine n_mem (fun μ4 eμ4 => ?_)
  have h := h μ4 eμ4
  have mμ4 : okM μ4 := eqM eμ4 (okM_sI mμ3 (inR_k rfl))
  refine r_iconst dX3_lay_22 ?_
  refine r_is2 dX3_lay_23 rfl ?_
  exact J_weak (t_X3_lay_24 B hr hp0 (inR_k rfl) mμ4 h) (⟨rfl, ⟨rfl, ⟨rfl, trivial⟩⟩⟩)
set_option maxRecDepth 20000 in
theorem t_X3_inBall_6 {x : Cx} {E : Gx} (B : Bd x E 3 6 "SlipCovers$Ground") (hr : (xt x).sig.returnType = (some .int)) {Q : Int → Mem → Prop} {v1 : Int} {v2 : Int} {v4 : Int} {v5 : Int} {μ : Mem} (hv1 : inR v1) (hv2 : inR v2) (hv4 : inR v4) (hv5 : inR v5) (hμ : okM μ) (h : LP5 (wp_X3_inBall_6 Q) v1 v2 v4 v5 μ) : J cX3_inBall x E z0 μ 6 [some (rv E 70), some (iv v1), some (iv v2), none, some (iv v4), some (iv v5)] [] (MQ (xb x) (QI E z0 Q) (xa x) (xs x) 0 0 (gA E)) := by
  refine LP5_ind (T := fun (v1 : Int) (v2 : Int) (v4 : Int) (v5 : Int) (μ : Mem) => inR v1 → inR v2 → inR v4 → inR v5 → okM μ → J cX3_inBall x E z0 μ 6 [some (rv E 70), some (iv v1), some (iv v2), none, some (iv v4), some (iv v5)] [] (MQ (xb x) (QI E z0 Q) (xa x) (xs x) 0 0 (gA E))) (fun X6 hX6 v1 v2 v4 v5 μ h hv1 hv2 hv4 hv5 hμ => ?_) h hv1 hv2 hv4 hv5 hμ
  unfold wp_X3_inBall_6 at h
  refine r_il5 dX3_inBall_6 ?_
  refine r_al0 dX3_inBall_8 ?_
  refine r_getI B fg_X3_21 kd_70 (kl kd_70) dX3_inBall_9 ?_
  refine r_icmp_ge 43 dX3_inBall_12 rfl hv5 (hμ 70 0) (fun c1 => ?_) (fun c1 => ?_)
  · have h := h.1 c1
    refine r_bipush dX3_inBall_43 (by decide) ?_
    exact r_iret B hr (inR_k rfl) hμ dX3_inBall_45 h
  · have h := h.2 c1
    refine r_al0 dX3_inBall_15 ?_
    refine r_il1 dX3_inBall_16 ?_
    refine r_il5 dX3_inBall_17 ?_
    refine r_cVI2 B cb_X3_distance lk_X3_52 cv_X3_distance kd_70 (c_X3_distance (xl x) E hv1 hv5 hμ h) rfl rfl dX3_inBall_19 (fun r3 μ2 hr3 mμ2 h => ?_)
    refine r_il2 dX3_inBall_22 ?_
    refine r_icmp_gt 37 dX3_inBall_23 rfl hr3 hv2 (fun c4 => ?_) (fun c4 => ?_)
    · have h := h.1 c4
      refine r_inc5 dX3_inBall_37 rfl ?_
      obtain ⟨o5, h⟩ := h
      refine r_goto 6 dX3_inBall_40 rfl ?_
      exact J_weak (hX6 v1 v2 v4 (v5 + 1) μ2 h hv1 hv2 hv4 o5 mμ2) (⟨rfl, ⟨rfl, ⟨rfl, ⟨rfl, ⟨rfl, trivial⟩⟩⟩⟩⟩)
    · have h := h.2 c4
      refine r_il4 dX3_inBall_26 ?_
      refine r_if_ne 34 dX3_inBall_28 rfl hv4 (fun c6 => ?_) (fun c6 => ?_)
      · have h := h.1 c6
        refine r_inc4 dX3_inBall_34 rfl ?_
        obtain ⟨o7, h⟩ := h
        refine r_inc5 dX3_inBall_37 rfl ?_
        obtain ⟨o8, h⟩ := h
        refine r_goto 6 dX3_inBall_40 rfl ?_
        exact J_weak (hX6 v1 v2 (v4 + (-1)) (v5 + 1) μ2 h hv1 hv2 o7 o8 mμ2) (⟨rfl, ⟨rfl, ⟨rfl, ⟨rfl, ⟨rfl, trivial⟩⟩⟩⟩⟩)
      · have h := h.2 c6
        refine r_il5 dX3_inBall_31 ?_
        exact r_iret B hr hv5 mμ2 dX3_inBall_33 h
set_option maxRecDepth 20000 in
theorem c_X3_inBall (l : Launch) (E : Gx) {p0 : Int} {p1 : Int} {p2 : Int} {μ : Mem} {Q : Int → Mem → Prop} (hp0 : inR p0) (hp1 : inR p1) (hp2 : inR p2) (hμ : okM μ) (h : wp_X3_inBall p0 p1 p2 μ Q) : MT l yX3_inBall cX3_inBall 6 (some .int) E 3 0 0 z0 [rv E 70, iv p0, iv p1, iv p2] μ (QI E z0 Q) := by
  refine m_start [some (rv E 70), some (iv p0), some (iv p1), some (iv p2), none, none] (by decide) rfl rfl rfl (fun x hxl hxc hxs B hr hnm => ?_)
  unfold wp_X3_inBall at h
  refine r_il3 dX3_inBall_0 ?_
  refine r_is4 dX3_inBall_1 rfl ?_
  refine r_iconst dX3_inBall_3 ?_
  refine r_is5 dX3_inBall_4 rfl ?_
  exact J_weak (t_X3_inBall_6 B hr hp0 hp1 hp2 (inR_k rfl) hμ h) (⟨rfl, ⟨rfl, ⟨rfl, ⟨rfl, ⟨rfl, trivial⟩⟩⟩⟩⟩)
set_option maxRecDepth 20000 in
theorem c_X3_fewestByCount (l : Launch) (E : Gx) {p0 : Int} {μ : Mem} {Q : Int → Mem → Prop} (hp0 : inR p0) (hμ : okM μ) (h : wp_X3_fewestByCount p0 μ Q) : MT l yX3_fewestByCount cX3_fewestByCount 3 (some .int) E 4 0 0 z0 [rv E 70, iv p0] μ (QI E z0 Q) := by
  refine m_start [some (rv E 70), some (iv p0), none] (by decide) rfl rfl rfl (fun x hxl hxc hxs B hr hnm => ?_)
  unfold wp_X3_fewestByCount at h
  refine r_al0 dX3_fewestByCount_0 ?_
  refine r_il1 dX3_fewestByCount_1 ?_
  refine r_cVI1 B cb_X3_ballSize lk_X3_56 cv_X3_ballSize kd_70 (c_X3_ballSize (xl x) E hp0 hμ h) rfl rfl dX3_fewestByCount_2 (fun r2 μ1 hr2 mμ1 h => ?_)
  refine r_is2 dX3_fewestByCount_5 rfl ?_
  refine r_il2 dX3_fewestByCount_6 ?_
  refine r_iconst dX3_fewestByCount_7 ?_
  refine r_icmp_ge 18 dX3_fewestByCount_8 rfl hr2 (inR_k rfl) (fun c3 => ?_) (fun c3 => ?_)
  · have h := h.1 c3
    refine r_al0 dX3_fewestByCount_18 ?_
    refine r_getI B fg_X3_21 kd_70 (kl kd_70) dX3_fewestByCount_19 ?_
    refine r_il2 dX3_fewestByCount_22 ?_
    refine r_iadd dX3_fewestByCount_23 ?_
    refine r_iconst dX3_fewestByCount_24 ?_
    refine r_isub dX3_fewestByCount_25 ?_
    refine r_il2 dX3_fewestByCount_26 ?_
    obtain ⟨o4, h⟩ := h
    obtain ⟨o5, h⟩ := h
    refine r_idiv dX3_fewestByCount_27 o5 o4 hr2 ?_
    exact r_iret B hr (inR_idiv o5 o4 hr2) mμ1 dX3_fewestByCount_28 h
  · have h := h.2 c3
    refine r_al0 dX3_fewestByCount_11 ?_
    refine r_getI B fg_X3_21 kd_70 (kl kd_70) dX3_fewestByCount_12 ?_
    refine r_goto 28 dX3_fewestByCount_15 rfl ?_
    exact r_iret B hr (mμ1 70 0) mμ1 dX3_fewestByCount_28 h
set_option maxRecDepth 20000 in
theorem t_X3_addTimes_3 {x : Cx} {E : Gx} (B : Bd x E 3 5 "SlipCovers$Ground") (hr : (xt x).sig.returnType = none) {Q : Mem → Prop} {v1 : Int} {v2 : Int} {v3 : Int} {v4 : Int} {μ : Mem} (hv1 : inR v1) (hv2 : inR v2) (hv3 : inR v3) (hv4 : inR v4) (hμ : okM μ) (h : LP5 (wp_X3_addTimes_3 Q) v1 v2 v3 v4 μ) : J cX3_addTimes x E z0 μ 3 [some (rv E 70), some (iv v1), some (iv v2), some (iv v3), some (iv v4)] [] (MQ (xb x) (QV E z0 Q) (xa x) (xs x) 0 0 (gA E)) := by
  refine LP5_ind (T := fun (v1 : Int) (v2 : Int) (v3 : Int) (v4 : Int) (μ : Mem) => inR v1 → inR v2 → inR v3 → inR v4 → okM μ → J cX3_addTimes x E z0 μ 3 [some (rv E 70), some (iv v1), some (iv v2), some (iv v3), some (iv v4)] [] (MQ (xb x) (QV E z0 Q) (xa x) (xs x) 0 0 (gA E))) (fun X3 hX3 v1 v2 v3 v4 μ h hv1 hv2 hv3 hv4 hμ => ?_) h hv1 hv2 hv3 hv4 hμ
  unfold wp_X3_addTimes_3 at h
  refine r_il4 dX3_addTimes_3 ?_
  refine r_al0 dX3_addTimes_5 ?_
  refine r_getI B fg_X3_21 kd_70 (kl kd_70) dX3_addTimes_6 ?_
  refine r_icmp_ge 40 dX3_addTimes_9 rfl hv4 (hμ 70 0) (fun c1 => ?_) (fun c1 => ?_)
  · have h := h.1 c1
    exact r_vret B hr hμ dX3_addTimes_40 h
  · have h := h.2 c1
    refine r_al0 dX3_addTimes_12 ?_
    refine r_il1 dX3_addTimes_13 ?_
    refine r_il4 dX3_addTimes_14 ?_
    refine r_cVI2 B cb_X3_distance lk_X3_52 cv_X3_distance kd_70 (c_X3_distance (xl x) E hv1 hv4 hμ h) rfl rfl dX3_addTimes_16 (fun r3 μ2 hr3 mμ2 h => ?_)
    refine r_il2 dX3_addTimes_19 ?_
    refine r_icmp_gt 34 dX3_addTimes_20 rfl hr3 hv2 (fun c4 => ?_) (fun c4 => ?_)
    · have h := h.1 c4
      refine r_inc4 dX3_addTimes_34 rfl ?_
      obtain ⟨o5, h⟩ := h
      refine r_goto 3 dX3_addTimes_37 rfl ?_
      exact J_weak (hX3 v1 v2 v3 (v4 + 1) μ2 h hv1 hv2 hv3 o5 mμ2) (⟨rfl, ⟨rfl, ⟨rfl, ⟨rfl, ⟨rfl, trivial⟩⟩⟩⟩⟩)
    · have h := h.2 c4
      refine r_al0 dX3_addTimes_23 ?_
      refine r_getR B 72 fg_X3_15 kd_70 (kl kd_70) (ρo (off := 2) kd_70 rfl) dX3_addTimes_24 ?_
      refine r_il4 dX3_addTimes_27 ?_
      refine r_dup2 rfl rfl dX3_addTimes_29 ?_
      obtain ⟨o6, h⟩ := h
      refine r_iald B kd_72 (kl kd_72) (by decide) o6 dX3_addTimes_30 ?_
      refine r_il3 dX3_addTimes_31 ?_
      refine r_iadd dX3_addTimes_32 ?_
      obtain ⟨o7, h⟩ := h
      refine r_iast B kd_72 (kl kd_72) (by decide) o6 dX3_addTimes_33 ?_
      refine n_mem (fun μ8 eμ8 => ?_)
      have h := h μ8 eμ8
      have mμ8 : okM μ8 := eqM eμ8 (okM_sI mμ2 o7)
      refine r_inc4 dX3_addTimes_34 rfl ?_
      obtain ⟨o9, h⟩ := h
      refine r_goto 3 dX3_addTimes_37 rfl ?_
      exact J_weak (hX3 v1 v2 v3 (v4 + 1) μ8 h hv1 hv2 hv3 o9 mμ8) (⟨rfl, ⟨rfl, ⟨rfl, ⟨rfl, ⟨rfl, trivial⟩⟩⟩⟩⟩)
set_option maxRecDepth 20000 in
theorem c_X3_addTimes (l : Launch) (E : Gx) {p0 : Int} {p1 : Int} {p2 : Int} {μ : Mem} {Q : Mem → Prop} (hp0 : inR p0) (hp1 : inR p1) (hp2 : inR p2) (hμ : okM μ) (h : wp_X3_addTimes p0 p1 p2 μ Q) : MT l yX3_addTimes cX3_addTimes 5 none E 3 0 0 z0 [rv E 70, iv p0, iv p1, iv p2] μ (QV E z0 Q) := by
  refine m_start [some (rv E 70), some (iv p0), some (iv p1), some (iv p2), none] (by decide) rfl rfl rfl (fun x hxl hxc hxs B hr hnm => ?_)
  unfold wp_X3_addTimes at h
  refine r_iconst dX3_addTimes_0 ?_
  refine r_is4 dX3_addTimes_1 rfl ?_
  exact J_weak (t_X3_addTimes_3 B hr hp0 hp1 hp2 (inR_k rfl) hμ h) (⟨rfl, ⟨rfl, ⟨rfl, ⟨rfl, ⟨rfl, trivial⟩⟩⟩⟩⟩)
set_option maxRecDepth 20000 in
theorem t_J7_fill_53178_5 {x : Cx} {E : Gx} (B : Bd x E 1 4 "java/util/Arrays") (hr : (xt x).sig.returnType = none) {Q : Mem → Prop} {v0 : Nat} {nv0 : Nat} {v1 : Int} {v2 : Int} {v3 : Int} {μ : Mem} (hv0 : kd v0 = (1, nv0)) (hv1 : inR v1) (hv2 : inR v2) (hv3 : inR v3) (hμ : okM μ) (h : LP6 (wp_J7_fill_53178_5 Q) v0 nv0 v1 v2 v3 μ) : J cJ7_fill_53178 x E z0 μ 5 [some (rv E v0), some (iv v1), some (iv v2), some (iv v3)] [] (MQ (xb x) (QV E z0 Q) (xa x) (xs x) 0 0 (gA E)) := by
  refine LP6_ind (T := fun (v0 : Nat) (nv0 : Nat) (v1 : Int) (v2 : Int) (v3 : Int) (μ : Mem) => kd v0 = (1, nv0) → inR v1 → inR v2 → inR v3 → okM μ → J cJ7_fill_53178 x E z0 μ 5 [some (rv E v0), some (iv v1), some (iv v2), some (iv v3)] [] (MQ (xb x) (QV E z0 Q) (xa x) (xs x) 0 0 (gA E))) (fun X5 hX5 v0 nv0 v1 v2 v3 μ h hv0 hv1 hv2 hv3 hμ => ?_) h hv0 hv1 hv2 hv3 hμ
  unfold wp_J7_fill_53178_5 at h
  refine r_il2 dJ7_fill_53178_5 ?_
  refine r_il3 dJ7_fill_53178_6 ?_
  refine r_icmp_ge 20 dJ7_fill_53178_7 rfl hv2 hv3 (fun c1 => ?_) (fun c1 => ?_)
  · have h := h.1 c1
    exact r_vret B hr hμ dJ7_fill_53178_20 h
  · have h := h.2 c1
    refine r_al0 dJ7_fill_53178_10 ?_
    refine r_il2 dJ7_fill_53178_11 ?_
    refine r_il1 dJ7_fill_53178_12 ?_
    obtain ⟨o2, h⟩ := h
    refine r_iast B hv0 (kl hv0) (kN hv0) o2 dJ7_fill_53178_13 ?_
    refine n_mem (fun μ3 eμ3 => ?_)
    have h := h μ3 eμ3
    have mμ3 : okM μ3 := eqM eμ3 (okM_sI hμ hv1)
    refine r_inc2 dJ7_fill_53178_14 rfl ?_
    obtain ⟨o4, h⟩ := h
    refine r_goto 5 dJ7_fill_53178_17 rfl ?_
    exact J_weak (hX5 v0 nv0 v1 (v2 + 1) v3 μ3 h hv0 hv1 o4 hv3 mμ3) (⟨rfl, ⟨rfl, ⟨rfl, ⟨rfl, trivial⟩⟩⟩⟩)
set_option maxRecDepth 20000 in
theorem c_J7_fill_53178 (l : Launch) (E : Gx) {p0 : Nat} {np0 : Nat} {p1 : Int} {μ : Mem} {Q : Mem → Prop} (hp0 : kd p0 = (1, np0)) (hp1 : inR p1) (hμ : okM μ) (h : wp_J7_fill_53178 p0 np0 p1 μ Q) : MT l yJ7_fill_53178 cJ7_fill_53178 4 none E 1 0 0 z0 [rv E p0, iv p1] μ (QV E z0 Q) := by
  refine m_start [some (rv E p0), some (iv p1), none, none] (by decide) rfl rfl rfl (fun x hxl hxc hxs B hr hnm => ?_)
  unfold wp_J7_fill_53178 at h
  refine r_iconst dJ7_fill_53178_0 ?_
  refine r_is2 dJ7_fill_53178_1 rfl ?_
  refine r_al0 dJ7_fill_53178_2 ?_
  refine r_alenI B hp0 (kl hp0) dJ7_fill_53178_3 ?_
  refine r_is3 dJ7_fill_53178_4 rfl ?_
  exact J_weak (t_J7_fill_53178_5 B hr hp0 hp1 (inR_k rfl) (kR hp0) hμ h) (⟨rfl, ⟨rfl, ⟨rfl, ⟨rfl, trivial⟩⟩⟩⟩)
set_option maxRecDepth 20000 in
theorem t_X3_countTimes_10 {x : Cx} {E : Gx} (B : Bd x E 4 4 "SlipCovers$Ground") (hr : (xt x).sig.returnType = none) {Q : Mem → Prop} {v1 : Nat} {v2 : Int} {v3 : Int} {μ : Mem} (hv1 : isC v1) (hv2 : inR v2) (hv3 : inR v3) (hμ : okM μ) (h : LP4 (wp_X3_countTimes_10 Q) v1 v2 v3 μ) : J cX3_countTimes x E z0 μ 10 [some (rv E 70), some (rv E v1), some (iv v2), some (iv v3)] [] (MQ (xb x) (QV E z0 Q) (xa x) (xs x) 0 0 (gA E)) := by
  refine LP4_ind (T := fun (v1 : Nat) (v2 : Int) (v3 : Int) (μ : Mem) => isC v1 → inR v2 → inR v3 → okM μ → J cX3_countTimes x E z0 μ 10 [some (rv E 70), some (rv E v1), some (iv v2), some (iv v3)] [] (MQ (xb x) (QV E z0 Q) (xa x) (xs x) 0 0 (gA E))) (fun X10 hX10 v1 v2 v3 μ h hv1 hv2 hv3 hμ => ?_) h hv1 hv2 hv3 hμ
  unfold wp_X3_countTimes_10 at h
  refine r_il3 dX3_countTimes_10 ?_
  refine r_al0 dX3_countTimes_11 ?_
  refine r_getI B fg_X3_21 kd_70 (kl kd_70) dX3_countTimes_12 ?_
  refine r_icmp_ge 39 dX3_countTimes_15 rfl hv3 (hμ 70 0) (fun c2 => ?_) (fun c2 => ?_)
  · have h := h.1 c2
    exact r_vret B hr hμ dX3_countTimes_39 h
  · have h := h.2 c2
    refine r_al1 dX3_countTimes_18 ?_
    refine r_il3 dX3_countTimes_19 ?_
    refine r_cVI1 B cb_X1_holds lk_X3_65 cv_X1_holds (hv1).1 (c_X1_holds (xl x) E hv1 hv3 hμ h) rfl rfl dX3_countTimes_20 (fun r4 μ3 hr4 mμ3 h => ?_)
    refine r_if_eq 33 dX3_countTimes_23 rfl hr4 (fun c5 => ?_) (fun c5 => ?_)
    · have h := h.1 c5
      refine r_inc3 dX3_countTimes_33 rfl ?_
      obtain ⟨o6, h⟩ := h
      refine r_goto 10 dX3_countTimes_36 rfl ?_
      exact J_weak (hX10 v1 v2 (v3 + 1) μ3 h hv1 hv2 o6 mμ3) (⟨rfl, ⟨rfl, ⟨rfl, ⟨rfl, trivial⟩⟩⟩⟩)
    · have h := h.2 c5
      refine r_al0 dX3_countTimes_26 ?_
      refine r_il3 dX3_countTimes_27 ?_
      refine r_il2 dX3_countTimes_28 ?_
      refine r_iconst dX3_countTimes_29 ?_
      refine r_cVV3 B cb_X3_addTimes lk_X3_69 cv_X3_addTimes kd_70 (c_X3_addTimes (xl x) E hv3 hv2 (inR_k rfl) mμ3 h) rfl rfl dX3_countTimes_30 (fun μ7 mμ7 h => ?_)
      refine r_inc3 dX3_countTimes_33 rfl ?_
      obtain ⟨o8, h⟩ := h
      refine r_goto 10 dX3_countTimes_36 rfl ?_
      exact J_weak (hX10 v1 v2 (v3 + 1) μ7 h hv1 hv2 o8 mμ7) (⟨rfl, ⟨rfl, ⟨rfl, ⟨rfl, trivial⟩⟩⟩⟩)
set_option maxRecDepth 20000 in
theorem c_X3_countTimes (l : Launch) (E : Gx) {p0 : Nat} {p1 : Int} {μ : Mem} {Q : Mem → Prop} (hp0 : isC p0) (hp1 : inR p1) (hμ : okM μ) (h : wp_X3_countTimes p0 p1 μ Q) : MT l yX3_countTimes cX3_countTimes 4 none E 4 0 0 z0 [rv E 70, rv E p0, iv p1] μ (QV E z0 Q) := by
  refine m_start [some (rv E 70), some (rv E p0), some (iv p1), none] (by decide) rfl rfl rfl (fun x hxl hxc hxs B hr hnm => ?_)
  unfold wp_X3_countTimes at h
  refine r_al0 dX3_countTimes_0 ?_
  refine r_getR B 72 fg_X3_15 kd_70 (kl kd_70) (ρo (off := 2) kd_70 rfl) dX3_countTimes_1 ?_
  refine r_iconst dX3_countTimes_4 ?_
  refine r_cSV2 B cb_J7_fill_53178 lk_X3_59 cs_J7_fill_53178 (c_J7_fill_53178 (xl x) E kd_72 (inR_k rfl) hμ h) rfl rfl dX3_countTimes_5 (fun μ1 mμ1 h => ?_)
  refine r_iconst dX3_countTimes_8 ?_
  refine r_is3 dX3_countTimes_9 rfl ?_
  exact J_weak (t_X3_countTimes_10 B hr hp0 hp1 (inR_k rfl) mμ1 h) (⟨rfl, ⟨rfl, ⟨rfl, ⟨rfl, trivial⟩⟩⟩⟩)
set_option maxRecDepth 20000 in
theorem t_X3_withTimes_4 {x : Cx} {E : Gx} (B : Bd x E 1 4 "SlipCovers$Ground") (hr : (xt x).sig.returnType = (some .int)) {Q : Int → Mem → Prop} {v1 : Int} {v2 : Int} {v3 : Int} {μ : Mem} (hv1 : inR v1) (hv2 : inR v2) (hv3 : inR v3) (hμ : okM μ) (h : LP4 (wp_X3_withTimes_4 Q) v1 v2 v3 μ) : J cX3_withTimes x E z0 μ 4 [some (rv E 70), some (iv v1), some (iv v2), some (iv v3)] [] (MQ (xb x) (QI E z0 Q) (xa x) (xs x) 0 0 (gA E)) := by
  refine LP4_ind (T := fun (v1 : Int) (v2 : Int) (v3 : Int) (μ : Mem) => inR v1 → inR v2 → inR v3 → okM μ → J cX3_withTimes x E z0 μ 4 [some (rv E 70), some (iv v1), some (iv v2), some (iv v3)] [] (MQ (xb x) (QI E z0 Q) (xa x) (xs x) 0 0 (gA E))) (fun X4 hX4 v1 v2 v3 μ h hv1 hv2 hv3 hμ => ?_) h hv1 hv2 hv3 hμ
  unfold wp_X3_withTimes_4 at h
  refine r_il3 dX3_withTimes_4 ?_
  refine r_al0 dX3_withTimes_5 ?_
  refine r_getI B fg_X3_21 kd_70 (kl kd_70) dX3_withTimes_6 ?_
  refine r_icmp_ge 31 dX3_withTimes_9 rfl hv3 (hμ 70 0) (fun c1 => ?_) (fun c1 => ?_)
  · have h := h.1 c1
    refine r_il2 dX3_withTimes_31 ?_
    exact r_iret B hr hv2 hμ dX3_withTimes_32 h
  · have h := h.2 c1
    refine r_al0 dX3_withTimes_12 ?_
    refine r_getR B 72 fg_X3_15 kd_70 (kl kd_70) (ρo (off := 2) kd_70 rfl) dX3_withTimes_13 ?_
    refine r_il3 dX3_withTimes_16 ?_
    obtain ⟨o2, h⟩ := h
    refine r_iald B kd_72 (kl kd_72) (by decide) o2 dX3_withTimes_17 ?_
    refine r_il1 dX3_withTimes_18 ?_
    refine r_icmp_ne 25 dX3_withTimes_19 rfl (hμ _ _) hv1 (fun c3 => ?_) (fun c3 => ?_)
    · have h := h.1 c3
      refine r_inc3 dX3_withTimes_25 rfl ?_
      obtain ⟨o4, h⟩ := h
      refine r_goto 4 dX3_withTimes_28 rfl ?_
      exact J_weak (hX4 v1 v2 (v3 + 1) μ h hv1 hv2 o4 hμ) (⟨rfl, ⟨rfl, ⟨rfl, ⟨rfl, trivial⟩⟩⟩⟩)
    · have h := h.2 c3
      refine r_inc2 dX3_withTimes_22 rfl ?_
      obtain ⟨o5, h⟩ := h
      refine r_inc3 dX3_withTimes_25 rfl ?_
      obtain ⟨o6, h⟩ := h
      refine r_goto 4 dX3_withTimes_28 rfl ?_
      exact J_weak (hX4 v1 (v2 + 1) (v3 + 1) μ h hv1 o5 o6 hμ) (⟨rfl, ⟨rfl, ⟨rfl, ⟨rfl, trivial⟩⟩⟩⟩)
set_option maxRecDepth 20000 in
theorem c_X3_withTimes (l : Launch) (E : Gx) {p0 : Int} {μ : Mem} {Q : Int → Mem → Prop} (hp0 : inR p0) (hμ : okM μ) (h : wp_X3_withTimes p0 μ Q) : MT l yX3_withTimes cX3_withTimes 4 (some .int) E 1 0 0 z0 [rv E 70, iv p0] μ (QI E z0 Q) := by
  refine m_start [some (rv E 70), some (iv p0), none, none] (by decide) rfl rfl rfl (fun x hxl hxc hxs B hr hnm => ?_)
  unfold wp_X3_withTimes at h
  refine r_iconst dX3_withTimes_0 ?_
  refine r_is2 dX3_withTimes_1 rfl ?_
  refine r_iconst dX3_withTimes_2 ?_
  refine r_is3 dX3_withTimes_3 rfl ?_
  exact J_weak (t_X3_withTimes_4 B hr hp0 (inR_k rfl) (inR_k rfl) hμ h) (⟨rfl, ⟨rfl, ⟨rfl, ⟨rfl, trivial⟩⟩⟩⟩)
set_option maxRecDepth 20000 in
theorem t_X3_timesTooMany_4 {x : Cx} {E : Gx} (B : Bd x E 1 3 "SlipCovers$Ground") (hr : (xt x).sig.returnType = (some .int)) {Q : Int → Mem → Prop} {v1 : Int} {v2 : Int} {μ : Mem} (hv1 : inR v1) (hv2 : inR v2) (hμ : okM μ) (h : LP3 (wp_X3_timesTooMany_4 Q) v1 v2 μ) : J cX3_timesTooMany x E z0 μ 4 [some (rv E 70), some (iv v1), some (iv v2)] [] (MQ (xb x) (QI E z0 Q) (xa x) (xs x) 0 0 (gA E)) := by
  refine LP3_ind (T := fun (v1 : Int) (v2 : Int) (μ : Mem) => inR v1 → inR v2 → okM μ → J cX3_timesTooMany x E z0 μ 4 [some (rv E 70), some (iv v1), some (iv v2)] [] (MQ (xb x) (QI E z0 Q) (xa x) (xs x) 0 0 (gA E))) (fun X4 hX4 v1 v2 μ h hv1 hv2 hμ => ?_) h hv1 hv2 hμ
  unfold wp_X3_timesTooMany_4 at h
  refine r_il2 dX3_timesTooMany_4 ?_
  refine r_al0 dX3_timesTooMany_5 ?_
  refine r_getI B fg_X3_21 kd_70 (kl kd_70) dX3_timesTooMany_6 ?_
  refine r_icmp_ge 38 dX3_timesTooMany_9 rfl hv2 (hμ 70 0) (fun c1 => ?_) (fun c1 => ?_)
  · have h := h.1 c1
    refine r_il1 dX3_timesTooMany_38 ?_
    exact r_iret B hr hv1 hμ dX3_timesTooMany_39 h
  · have h := h.2 c1
    refine r_al0 dX3_timesTooMany_12 ?_
    refine r_getR B 72 fg_X3_15 kd_70 (kl kd_70) (ρo (off := 2) kd_70 rfl) dX3_timesTooMany_13 ?_
    refine r_il2 dX3_timesTooMany_16 ?_
    obtain ⟨o2, h⟩ := h
    refine r_iald B kd_72 (kl kd_72) (by decide) o2 dX3_timesTooMany_17 ?_
    refine r_if_le 32 dX3_timesTooMany_18 rfl (hμ _ _) (fun c3 => ?_) (fun c3 => ?_)
    · have h := h.1 c3
      refine r_inc2 dX3_timesTooMany_32 rfl ?_
      obtain ⟨o4, h⟩ := h
      refine r_goto 4 dX3_timesTooMany_35 rfl ?_
      exact J_weak (hX4 v1 (v2 + 1) μ h hv1 o4 hμ) (⟨rfl, ⟨rfl, ⟨rfl, trivial⟩⟩⟩)
    · have h := h.2 c3
      refine r_il1 dX3_timesTooMany_21 ?_
      refine r_al0 dX3_timesTooMany_22 ?_
      refine r_getR B 72 fg_X3_15 kd_70 (kl kd_70) (ρo (off := 2) kd_70 rfl) dX3_timesTooMany_23 ?_
      refine r_il2 dX3_timesTooMany_26 ?_
      refine r_iald B kd_72 (kl kd_72) (by decide) o2 dX3_timesTooMany_27 ?_
      refine r_iconst dX3_timesTooMany_28 ?_
      refine r_isub dX3_timesTooMany_29 ?_
      refine r_iadd dX3_timesTooMany_30 ?_
      obtain ⟨o6, h⟩ := h
      refine n_topi (fun x5 ex5 => ?_)
      have h := h x5 ex5
      refine r_is1 dX3_timesTooMany_31 rfl ?_
      refine r_inc2 dX3_timesTooMany_32 rfl ?_
      obtain ⟨o7, h⟩ := h
      refine r_goto 4 dX3_timesTooMany_35 rfl ?_
      exact J_weak (hX4 x5 (v2 + 1) μ h (eqR ex5 o6) o7 hμ) (⟨rfl, ⟨rfl, ⟨rfl, trivial⟩⟩⟩)
set_option maxRecDepth 20000 in
theorem c_X3_timesTooMany (l : Launch) (E : Gx) {μ : Mem} {Q : Int → Mem → Prop} (hμ : okM μ) (h : wp_X3_timesTooMany  μ Q) : MT l yX3_timesTooMany cX3_timesTooMany 3 (some .int) E 1 0 0 z0 [rv E 70] μ (QI E z0 Q) := by
  refine m_start [some (rv E 70), none, none] (by decide) rfl rfl rfl (fun x hxl hxc hxs B hr hnm => ?_)
  unfold wp_X3_timesTooMany at h
  refine r_iconst dX3_timesTooMany_0 ?_
  refine r_is1 dX3_timesTooMany_1 rfl ?_
  refine r_iconst dX3_timesTooMany_2 ?_
  refine r_is2 dX3_timesTooMany_3 rfl ?_
  exact J_weak (t_X3_timesTooMany_4 B hr (inR_k rfl) (inR_k rfl) hμ h) (⟨rfl, ⟨rfl, ⟨rfl, trivial⟩⟩⟩)
set_option maxRecDepth 20000 in
theorem t_X3_holeAt_4 {x : Cx} {E : Gx} (B : Bd x E 1 4 "SlipCovers$Ground") (hr : (xt x).sig.returnType = (some .int)) {Q : Int → Mem → Prop} {v2 : Int} {v3 : Int} {μ : Mem} (hv2 : inR v2) (hv3 : inR v3) (hμ : okM μ) (h : LP3 (wp_X3_holeAt_4 Q) v2 v3 μ) : J cX3_holeAt x E z0 μ 4 [some (rv E 70), none, some (iv v2), some (iv v3)] [] (MQ (xb x) (QI E z0 Q) (xa x) (xs x) 0 0 (gA E)) := by
  refine LP3_ind (T := fun (v2 : Int) (v3 : Int) (μ : Mem) => inR v2 → inR v3 → okM μ → J cX3_holeAt x E z0 μ 4 [some (rv E 70), none, some (iv v2), some (iv v3)] [] (MQ (xb x) (QI E z0 Q) (xa x) (xs x) 0 0 (gA E))) (fun X4 hX4 v2 v3 μ h hv2 hv3 hμ => ?_) h hv2 hv3 hμ
  unfold wp_X3_holeAt_4 at h
  refine r_il3 dX3_holeAt_4 ?_
  refine r_al0 dX3_holeAt_5 ?_
  refine r_getI B fg_X3_21 kd_70 (kl kd_70) dX3_holeAt_6 ?_
  refine r_icmp_ge 36 dX3_holeAt_9 rfl hv3 (hμ 70 0) (fun c1 => ?_) (fun c1 => ?_)
  · have h := h.1 c1
    refine r_bipush dX3_holeAt_36 (by decide) ?_
    exact r_iret B hr (inR_k rfl) hμ dX3_holeAt_38 h
  · have h := h.2 c1
    refine r_al0 dX3_holeAt_12 ?_
    refine r_getR B 72 fg_X3_15 kd_70 (kl kd_70) (ρo (off := 2) kd_70 rfl) dX3_holeAt_13 ?_
    refine r_il3 dX3_holeAt_16 ?_
    obtain ⟨o2, h⟩ := h
    refine r_iald B kd_72 (kl kd_72) (by decide) o2 dX3_holeAt_17 ?_
    refine r_if_ne 30 dX3_holeAt_18 rfl (hμ _ _) (fun c3 => ?_) (fun c3 => ?_)
    · have h := h.1 c3
      refine r_inc3 dX3_holeAt_30 rfl ?_
      obtain ⟨o4, h⟩ := h
      refine r_goto 4 dX3_holeAt_33 rfl ?_
      exact J_weak (hX4 v2 (v3 + 1) μ h hv2 o4 hμ) (⟨rfl, ⟨rfl, ⟨rfl, trivial⟩⟩⟩)
    · have h := h.2 c3
      refine r_il2 dX3_holeAt_21 ?_
      refine r_if_ne 27 dX3_holeAt_22 rfl hv2 (fun c5 => ?_) (fun c5 => ?_)
      · have h := h.1 c5
        refine r_inc2 dX3_holeAt_27 rfl ?_
        obtain ⟨o6, h⟩ := h
        refine r_inc3 dX3_holeAt_30 rfl ?_
        obtain ⟨o7, h⟩ := h
        refine r_goto 4 dX3_holeAt_33 rfl ?_
        exact J_weak (hX4 (v2 + (-1)) (v3 + 1) μ h o6 o7 hμ) (⟨rfl, ⟨rfl, ⟨rfl, trivial⟩⟩⟩)
      · have h := h.2 c5
        refine r_il3 dX3_holeAt_25 ?_
        exact r_iret B hr hv3 hμ dX3_holeAt_26 h
set_option maxRecDepth 20000 in
theorem c_X3_holeAt (l : Launch) (E : Gx) {p0 : Int} {μ : Mem} {Q : Int → Mem → Prop} (hp0 : inR p0) (hμ : okM μ) (h : wp_X3_holeAt p0 μ Q) : MT l yX3_holeAt cX3_holeAt 4 (some .int) E 1 0 0 z0 [rv E 70, iv p0] μ (QI E z0 Q) := by
  refine m_start [some (rv E 70), some (iv p0), none, none] (by decide) rfl rfl rfl (fun x hxl hxc hxs B hr hnm => ?_)
  unfold wp_X3_holeAt at h
  refine r_il1 dX3_holeAt_0 ?_
  refine r_is2 dX3_holeAt_1 rfl ?_
  refine r_iconst dX3_holeAt_2 ?_
  refine r_is3 dX3_holeAt_3 rfl ?_
  exact J_weak (t_X3_holeAt_4 B hr hp0 (inR_k rfl) hμ h) (⟨rfl, ⟨rfl, ⟨rfl, trivial⟩⟩⟩)
set_option maxRecDepth 20000 in
theorem t_X3_onlyBy_5 {x : Cx} {E : Gx} (B : Bd x E 3 5 "SlipCovers$Ground") (hr : (xt x).sig.returnType = (some .int)) {Q : Int → Mem → Prop} {v1 : Int} {v2 : Int} {v3 : Int} {v4 : Int} {μ : Mem} (hv1 : inR v1) (hv2 : inR v2) (hv3 : inR v3) (hv4 : inR v4) (hμ : okM μ) (h : LP5 (wp_X3_onlyBy_5 Q) v1 v2 v3 v4 μ) : J cX3_onlyBy x E z0 μ 5 [some (rv E 70), some (iv v1), some (iv v2), some (iv v3), some (iv v4)] [] (MQ (xb x) (QI E z0 Q) (xa x) (xs x) 0 0 (gA E)) := by
  refine LP5_ind (T := fun (v1 : Int) (v2 : Int) (v3 : Int) (v4 : Int) (μ : Mem) => inR v1 → inR v2 → inR v3 → inR v4 → okM μ → J cX3_onlyBy x E z0 μ 5 [some (rv E 70), some (iv v1), some (iv v2), some (iv v3), some (iv v4)] [] (MQ (xb x) (QI E z0 Q) (xa x) (xs x) 0 0 (gA E))) (fun X5 hX5 v1 v2 v3 v4 μ h hv1 hv2 hv3 hv4 hμ => ?_) h hv1 hv2 hv3 hv4 hμ
  unfold wp_X3_onlyBy_5 at h
  refine r_il4 dX3_onlyBy_5 ?_
  refine r_al0 dX3_onlyBy_7 ?_
  refine r_getI B fg_X3_21 kd_70 (kl kd_70) dX3_onlyBy_8 ?_
  refine r_icmp_ge 45 dX3_onlyBy_11 rfl hv4 (hμ 70 0) (fun c1 => ?_) (fun c1 => ?_)
  · have h := h.1 c1
    refine r_il3 dX3_onlyBy_45 ?_
    exact r_iret B hr hv3 hμ dX3_onlyBy_46 h
  · have h := h.2 c1
    refine r_al0 dX3_onlyBy_14 ?_
    refine r_getR B 72 fg_X3_15 kd_70 (kl kd_70) (ρo (off := 2) kd_70 rfl) dX3_onlyBy_15 ?_
    refine r_il4 dX3_onlyBy_18 ?_
    obtain ⟨o2, h⟩ := h
    refine r_iald B kd_72 (kl kd_72) (by decide) o2 dX3_onlyBy_20 ?_
    refine r_iconst dX3_onlyBy_21 ?_
    refine r_icmp_ne 39 dX3_onlyBy_22 rfl (hμ _ _) (inR_k rfl) (fun c3 => ?_) (fun c3 => ?_)
    · have h := h.1 c3
      refine r_inc4 dX3_onlyBy_39 rfl ?_
      obtain ⟨o4, h⟩ := h
      refine r_goto 5 dX3_onlyBy_42 rfl ?_
      exact J_weak (hX5 v1 v2 v3 (v4 + 1) μ h hv1 hv2 hv3 o4 hμ) (⟨rfl, ⟨rfl, ⟨rfl, ⟨rfl, ⟨rfl, trivial⟩⟩⟩⟩⟩)
    · have h := h.2 c3
      refine r_al0 dX3_onlyBy_25 ?_
      refine r_il1 dX3_onlyBy_26 ?_
      refine r_il4 dX3_onlyBy_27 ?_
      refine r_cVI2 B cb_X3_distance lk_X3_52 cv_X3_distance kd_70 (c_X3_distance (xl x) E hv1 hv4 hμ h) rfl rfl dX3_onlyBy_29 (fun r6 μ5 hr6 mμ5 h => ?_)
      refine r_il2 dX3_onlyBy_32 ?_
      refine r_icmp_gt 39 dX3_onlyBy_33 rfl hr6 hv2 (fun c7 => ?_) (fun c7 => ?_)
      · have h := h.1 c7
        refine r_inc4 dX3_onlyBy_39 rfl ?_
        obtain ⟨o8, h⟩ := h
        refine r_goto 5 dX3_onlyBy_42 rfl ?_
        exact J_weak (hX5 v1 v2 v3 (v4 + 1) μ5 h hv1 hv2 hv3 o8 mμ5) (⟨rfl, ⟨rfl, ⟨rfl, ⟨rfl, ⟨rfl, trivial⟩⟩⟩⟩⟩)
      · have h := h.2 c7
        refine r_inc3 dX3_onlyBy_36 rfl ?_
        obtain ⟨o9, h⟩ := h
        refine r_inc4 dX3_onlyBy_39 rfl ?_
        obtain ⟨o10, h⟩ := h
        refine r_goto 5 dX3_onlyBy_42 rfl ?_
        exact J_weak (hX5 v1 v2 (v3 + 1) (v4 + 1) μ5 h hv1 hv2 o9 o10 mμ5) (⟨rfl, ⟨rfl, ⟨rfl, ⟨rfl, ⟨rfl, trivial⟩⟩⟩⟩⟩)
set_option maxRecDepth 20000 in
theorem c_X3_onlyBy (l : Launch) (E : Gx) {p0 : Int} {p1 : Int} {μ : Mem} {Q : Int → Mem → Prop} (hp0 : inR p0) (hp1 : inR p1) (hμ : okM μ) (h : wp_X3_onlyBy p0 p1 μ Q) : MT l yX3_onlyBy cX3_onlyBy 5 (some .int) E 3 0 0 z0 [rv E 70, iv p0, iv p1] μ (QI E z0 Q) := by
  refine m_start [some (rv E 70), some (iv p0), some (iv p1), none, none] (by decide) rfl rfl rfl (fun x hxl hxc hxs B hr hnm => ?_)
  unfold wp_X3_onlyBy at h
  refine r_iconst dX3_onlyBy_0 ?_
  refine r_is3 dX3_onlyBy_1 rfl ?_
  refine r_iconst dX3_onlyBy_2 ?_
  refine r_is4 dX3_onlyBy_3 rfl ?_
  exact J_weak (t_X3_onlyBy_5 B hr hp0 hp1 (inR_k rfl) (inR_k rfl) hμ h) (⟨rfl, ⟨rfl, ⟨rfl, ⟨rfl, ⟨rfl, trivial⟩⟩⟩⟩⟩)
set_option maxRecDepth 20000 in
theorem t_X3_idleAt_6 {x : Cx} {E : Gx} (B : Bd x E 4 6 "SlipCovers$Ground") (hr : (xt x).sig.returnType = (some .int)) {Q : Int → Mem → Prop} {v1 : Nat} {v2 : Int} {v4 : Int} {v5 : Int} {μ : Mem} (hv1 : isC v1) (hv2 : inR v2) (hv4 : inR v4) (hv5 : inR v5) (hμ : okM μ) (h : LP5 (wp_X3_idleAt_6 Q) v1 v2 v4 v5 μ) : J cX3_idleAt x E z0 μ 6 [some (rv E 70), some (rv E v1), some (iv v2), none, some (iv v4), some (iv v5)] [] (MQ (xb x) (QI E z0 Q) (xa x) (xs x) 0 0 (gA E)) := by
  refine LP5_ind (T := fun (v1 : Nat) (v2 : Int) (v4 : Int) (v5 : Int) (μ : Mem) => isC v1 → inR v2 → inR v4 → inR v5 → okM μ → J cX3_idleAt x E z0 μ 6 [some (rv E 70), some (rv E v1), some (iv v2), none, some (iv v4), some (iv v5)] [] (MQ (xb x) (QI E z0 Q) (xa x) (xs x) 0 0 (gA E))) (fun X6 hX6 v1 v2 v4 v5 μ h hv1 hv2 hv4 hv5 hμ => ?_) h hv1 hv2 hv4 hv5 hμ
  unfold wp_X3_idleAt_6 at h
  refine r_il5 dX3_idleAt_6 ?_
  refine r_al0 dX3_idleAt_8 ?_
  refine r_getI B fg_X3_21 kd_70 (kl kd_70) dX3_idleAt_9 ?_
  refine r_icmp_ge 51 dX3_idleAt_12 rfl hv5 (hμ 70 0) (fun c1 => ?_) (fun c1 => ?_)
  · have h := h.1 c1
    refine r_bipush dX3_idleAt_51 (by decide) ?_
    exact r_iret B hr (inR_k rfl) hμ dX3_idleAt_53 h
  · have h := h.2 c1
    refine r_al1 dX3_idleAt_15 ?_
    refine r_il5 dX3_idleAt_16 ?_
    refine r_cVI1 B cb_X1_holds lk_X3_65 cv_X1_holds (hv1).1 (c_X1_holds (xl x) E hv1 hv5 hμ h) rfl rfl dX3_idleAt_18 (fun r3 μ2 hr3 mμ2 h => ?_)
    refine r_if_eq 45 dX3_idleAt_21 rfl hr3 (fun c4 => ?_) (fun c4 => ?_)
    · have h := h.1 c4
      refine r_inc5 dX3_idleAt_45 rfl ?_
      obtain ⟨o5, h⟩ := h
      refine r_goto 6 dX3_idleAt_48 rfl ?_
      exact J_weak (hX6 v1 v2 v4 (v5 + 1) μ2 h hv1 hv2 hv4 o5 mμ2) (⟨rfl, ⟨rfl, ⟨rfl, ⟨rfl, ⟨rfl, trivial⟩⟩⟩⟩⟩)
    · have h := h.2 c4
      refine r_al0 dX3_idleAt_24 ?_
      refine r_il5 dX3_idleAt_25 ?_
      refine r_il2 dX3_idleAt_27 ?_
      refine r_cVI2 B cb_X3_onlyBy lk_X3_72 cv_X3_onlyBy kd_70 (c_X3_onlyBy (xl x) E hv5 hv2 mμ2 h) rfl rfl dX3_idleAt_28 (fun r7 μ6 hr7 mμ6 h => ?_)
      refine r_if_ne 45 dX3_idleAt_31 rfl hr7 (fun c8 => ?_) (fun c8 => ?_)
      · have h := h.1 c8
        refine r_inc5 dX3_idleAt_45 rfl ?_
        obtain ⟨o9, h⟩ := h
        refine r_goto 6 dX3_idleAt_48 rfl ?_
        exact J_weak (hX6 v1 v2 v4 (v5 + 1) μ6 h hv1 hv2 hv4 o9 mμ6) (⟨rfl, ⟨rfl, ⟨rfl, ⟨rfl, ⟨rfl, trivial⟩⟩⟩⟩⟩)
      · have h := h.2 c8
        refine r_il4 dX3_idleAt_34 ?_
        refine r_if_ne 42 dX3_idleAt_36 rfl hv4 (fun c10 => ?_) (fun c10 => ?_)
        · have h := h.1 c10
          refine r_inc4 dX3_idleAt_42 rfl ?_
          obtain ⟨o11, h⟩ := h
          refine r_inc5 dX3_idleAt_45 rfl ?_
          obtain ⟨o12, h⟩ := h
          refine r_goto 6 dX3_idleAt_48 rfl ?_
          exact J_weak (hX6 v1 v2 (v4 + (-1)) (v5 + 1) μ6 h hv1 hv2 o11 o12 mμ6) (⟨rfl, ⟨rfl, ⟨rfl, ⟨rfl, ⟨rfl, trivial⟩⟩⟩⟩⟩)
        · have h := h.2 c10
          refine r_il5 dX3_idleAt_39 ?_
          exact r_iret B hr hv5 mμ6 dX3_idleAt_41 h
set_option maxRecDepth 20000 in
theorem c_X3_idleAt (l : Launch) (E : Gx) {p0 : Nat} {p1 : Int} {p2 : Int} {μ : Mem} {Q : Int → Mem → Prop} (hp0 : isC p0) (hp1 : inR p1) (hp2 : inR p2) (hμ : okM μ) (h : wp_X3_idleAt p0 p1 p2 μ Q) : MT l yX3_idleAt cX3_idleAt 6 (some .int) E 4 0 0 z0 [rv E 70, rv E p0, iv p1, iv p2] μ (QI E z0 Q) := by
  refine m_start [some (rv E 70), some (rv E p0), some (iv p1), some (iv p2), none, none] (by decide) rfl rfl rfl (fun x hxl hxc hxs B hr hnm => ?_)
  unfold wp_X3_idleAt at h
  refine r_il3 dX3_idleAt_0 ?_
  refine r_is4 dX3_idleAt_1 rfl ?_
  refine r_iconst dX3_idleAt_3 ?_
  refine r_is5 dX3_idleAt_4 rfl ?_
  exact J_weak (t_X3_idleAt_6 B hr hp0 hp1 hp2 (inR_k rfl) hμ h) (⟨rfl, ⟨rfl, ⟨rfl, ⟨rfl, ⟨rfl, trivial⟩⟩⟩⟩⟩)
set_option maxRecDepth 20000 in
theorem t_X3_pairsApart_29 {x : Cx} {E : Gx} (B : Bd x E 3 6 "SlipCovers$Ground") (hr : (xt x).sig.returnType = (some .int)) {Q : Int → Mem → Prop} {X5 : Nat → Int → Int → Int → Mem → Prop} (hX5 : ∀ (v1 : Nat) (v2 : Int) (v3 : Int) (v4 : Int) (μ : Mem), X5 v1 v2 v3 v4 μ → isC v1 → inR v2 → inR v3 → inR v4 → okM μ → J cX3_pairsApart x E z0 μ 5 [some (rv E 70), some (rv E v1), some (iv v2), some (iv v3), some (iv v4), none] [] (MQ (xb x) (QI E z0 Q) (xa x) (xs x) 0 0 (gA E))) {v1 : Nat} {v2 : Int} {v3 : Int} {v4 : Int} {v5 : Int} {μ : Mem} (hv1 : isC v1) (hv2 : inR v2) (hv3 : inR v3) (hv4 : inR v4) (hv5 : inR v5) (hμ : okM μ) (h : LP6 (wp_X3_pairsApart_29 Q X5) v1 v2 v3 v4 v5 μ) : J cX3_pairsApart x E z0 μ 29 [some (rv E 70), some (rv E v1), some (iv v2), some (iv v3), some (iv v4), some (iv v5)] [] (MQ (xb x) (QI E z0 Q) (xa x) (xs x) 0 0 (gA E)) := by
  refine LP6_ind (T := fun (v1 : Nat) (v2 : Int) (v3 : Int) (v4 : Int) (v5 : Int) (μ : Mem) => isC v1 → inR v2 → inR v3 → inR v4 → inR v5 → okM μ → J cX3_pairsApart x E z0 μ 29 [some (rv E 70), some (rv E v1), some (iv v2), some (iv v3), some (iv v4), some (iv v5)] [] (MQ (xb x) (QI E z0 Q) (xa x) (xs x) 0 0 (gA E))) (fun X29 hX29 v1 v2 v3 v4 v5 μ h hv1 hv2 hv3 hv4 hv5 hμ => ?_) h hv1 hv2 hv3 hv4 hv5 hμ
  unfold wp_X3_pairsApart_29 at h
  refine r_il5 dX3_pairsApart_29 ?_
  refine r_al0 dX3_pairsApart_31 ?_
  refine r_getI B fg_X3_21 kd_70 (kl kd_70) dX3_pairsApart_32 ?_
  refine r_icmp_ge 68 dX3_pairsApart_35 rfl hv5 (hμ 70 0) (fun c8 => ?_) (fun c8 => ?_)
  · have h := h.1 c8
    refine r_inc4 dX3_pairsApart_68 rfl ?_
    obtain ⟨o9, h⟩ := h
    refine r_goto 5 dX3_pairsApart_71 rfl ?_
    exact J_weak (hX5 v1 v2 v3 (v4 + 1) μ h hv1 hv2 hv3 o9 hμ) (⟨rfl, ⟨rfl, ⟨rfl, ⟨rfl, ⟨rfl, trivial⟩⟩⟩⟩⟩)
  · have h := h.2 c8
    refine r_al1 dX3_pairsApart_38 ?_
    refine r_il5 dX3_pairsApart_39 ?_
    refine r_cVI1 B cb_X1_holds lk_X3_65 cv_X1_holds (hv1).1 (c_X1_holds (xl x) E hv1 hv5 hμ h) rfl rfl dX3_pairsApart_41 (fun r11 μ10 hr11 mμ10 h => ?_)
    refine r_if_eq 62 dX3_pairsApart_44 rfl hr11 (fun c12 => ?_) (fun c12 => ?_)
    · have h := h.1 c12
      refine r_inc5 dX3_pairsApart_62 rfl ?_
      obtain ⟨o13, h⟩ := h
      refine r_goto 29 dX3_pairsApart_65 rfl ?_
      exact J_weak (hX29 v1 v2 v3 v4 (v5 + 1) μ10 h hv1 hv2 hv3 hv4 o13 mμ10) (⟨rfl, ⟨rfl, ⟨rfl, ⟨rfl, ⟨rfl, ⟨rfl, trivial⟩⟩⟩⟩⟩⟩)
    · have h := h.2 c12
      refine r_al0 dX3_pairsApart_47 ?_
      refine r_il4 dX3_pairsApart_48 ?_
      refine r_il5 dX3_pairsApart_50 ?_
      refine r_cVI2 B cb_X3_distance lk_X3_52 cv_X3_distance kd_70 (c_X3_distance (xl x) E hv4 hv5 mμ10 h) rfl rfl dX3_pairsApart_52 (fun r15 μ14 hr15 mμ14 h => ?_)
      refine r_il2 dX3_pairsApart_55 ?_
      refine r_icmp_ne 62 dX3_pairsApart_56 rfl hr15 hv2 (fun c16 => ?_) (fun c16 => ?_)
      · have h := h.1 c16
        refine r_inc5 dX3_pairsApart_62 rfl ?_
        obtain ⟨o17, h⟩ := h
        refine r_goto 29 dX3_pairsApart_65 rfl ?_
        exact J_weak (hX29 v1 v2 v3 v4 (v5 + 1) μ14 h hv1 hv2 hv3 hv4 o17 mμ14) (⟨rfl, ⟨rfl, ⟨rfl, ⟨rfl, ⟨rfl, ⟨rfl, trivial⟩⟩⟩⟩⟩⟩)
      · have h := h.2 c16
        refine r_inc3 dX3_pairsApart_59 rfl ?_
        obtain ⟨o18, h⟩ := h
        refine r_inc5 dX3_pairsApart_62 rfl ?_
        obtain ⟨o19, h⟩ := h
        refine r_goto 29 dX3_pairsApart_65 rfl ?_
        exact J_weak (hX29 v1 v2 (v3 + 1) v4 (v5 + 1) μ14 h hv1 hv2 o18 hv4 o19 mμ14) (⟨rfl, ⟨rfl, ⟨rfl, ⟨rfl, ⟨rfl, ⟨rfl, trivial⟩⟩⟩⟩⟩⟩)
set_option maxRecDepth 20000 in
theorem t_X3_pairsApart_5 {x : Cx} {E : Gx} (B : Bd x E 3 6 "SlipCovers$Ground") (hr : (xt x).sig.returnType = (some .int)) {Q : Int → Mem → Prop} {v1 : Nat} {v2 : Int} {v3 : Int} {v4 : Int} {μ : Mem} (hv1 : isC v1) (hv2 : inR v2) (hv3 : inR v3) (hv4 : inR v4) (hμ : okM μ) (h : LP5 (wp_X3_pairsApart_5 Q) v1 v2 v3 v4 μ) : J cX3_pairsApart x E z0 μ 5 [some (rv E 70), some (rv E v1), some (iv v2), some (iv v3), some (iv v4), none] [] (MQ (xb x) (QI E z0 Q) (xa x) (xs x) 0 0 (gA E)) := by
  refine LP5_ind (T := fun (v1 : Nat) (v2 : Int) (v3 : Int) (v4 : Int) (μ : Mem) => isC v1 → inR v2 → inR v3 → inR v4 → okM μ → J cX3_pairsApart x E z0 μ 5 [some (rv E 70), some (rv E v1), some (iv v2), some (iv v3), some (iv v4), none] [] (MQ (xb x) (QI E z0 Q) (xa x) (xs x) 0 0 (gA E))) (fun X5 hX5 v1 v2 v3 v4 μ h hv1 hv2 hv3 hv4 hμ => ?_) h hv1 hv2 hv3 hv4 hμ
  unfold wp_X3_pairsApart_5 at h
  refine r_il4 dX3_pairsApart_5 ?_
  refine r_al0 dX3_pairsApart_7 ?_
  refine r_getI B fg_X3_21 kd_70 (kl kd_70) dX3_pairsApart_8 ?_
  refine r_icmp_ge 74 dX3_pairsApart_11 rfl hv4 (hμ 70 0) (fun c1 => ?_) (fun c1 => ?_)
  · have h := h.1 c1
    refine r_il3 dX3_pairsApart_74 ?_
    exact r_iret B hr hv3 hμ dX3_pairsApart_75 h
  · have h := h.2 c1
    refine r_al1 dX3_pairsApart_14 ?_
    refine r_il4 dX3_pairsApart_15 ?_
    refine r_cVI1 B cb_X1_holds lk_X3_65 cv_X1_holds (hv1).1 (c_X1_holds (xl x) E hv1 hv4 hμ h) rfl rfl dX3_pairsApart_17 (fun r3 μ2 hr3 mμ2 h => ?_)
    refine r_if_eq 68 dX3_pairsApart_20 rfl hr3 (fun c4 => ?_) (fun c4 => ?_)
    · have h := h.1 c4
      refine r_inc4 dX3_pairsApart_68 rfl ?_
      obtain ⟨o5, h⟩ := h
      refine r_goto 5 dX3_pairsApart_71 rfl ?_
      exact J_weak (hX5 v1 v2 v3 (v4 + 1) μ2 h hv1 hv2 hv3 o5 mμ2) (⟨rfl, ⟨rfl, ⟨rfl, ⟨rfl, ⟨rfl, trivial⟩⟩⟩⟩⟩)
    · have h := h.2 c4
      refine r_il4 dX3_pairsApart_23 ?_
      refine r_iconst dX3_pairsApart_25 ?_
      refine r_iadd dX3_pairsApart_26 ?_
      obtain ⟨o7, h⟩ := h
      refine n_topi (fun x6 ex6 => ?_)
      have h := h x6 ex6
      refine r_is5 dX3_pairsApart_27 rfl ?_
      exact J_weak (t_X3_pairsApart_29 B hr hX5 hv1 hv2 hv3 hv4 (eqR ex6 o7) mμ2 h) (⟨rfl, ⟨rfl, ⟨rfl, ⟨rfl, ⟨rfl, ⟨rfl, trivial⟩⟩⟩⟩⟩⟩)
set_option maxRecDepth 20000 in
theorem c_X3_pairsApart (l : Launch) (E : Gx) {p0 : Nat} {p1 : Int} {μ : Mem} {Q : Int → Mem → Prop} (hp0 : isC p0) (hp1 : inR p1) (hμ : okM μ) (h : wp_X3_pairsApart p0 p1 μ Q) : MT l yX3_pairsApart cX3_pairsApart 6 (some .int) E 3 0 0 z0 [rv E 70, rv E p0, iv p1] μ (QI E z0 Q) := by
  refine m_start [some (rv E 70), some (rv E p0), some (iv p1), none, none, none] (by decide) rfl rfl rfl (fun x hxl hxc hxs B hr hnm => ?_)
  unfold wp_X3_pairsApart at h
  refine r_iconst dX3_pairsApart_0 ?_
  refine r_is3 dX3_pairsApart_1 rfl ?_
  refine r_iconst dX3_pairsApart_2 ?_
  refine r_is4 dX3_pairsApart_3 rfl ?_
  exact J_weak (t_X3_pairsApart_5 B hr hp0 hp1 (inR_k rfl) (inR_k rfl) hμ h) (⟨rfl, ⟨rfl, ⟨rfl, ⟨rfl, ⟨rfl, trivial⟩⟩⟩⟩⟩)
set_option maxRecDepth 20000 in
theorem t_X3_leastApart_26 {x : Cx} {E : Gx} (B : Bd x E 3 5 "SlipCovers$Ground") (hr : (xt x).sig.returnType = (some .int)) {Q : Int → Mem → Prop} {X5 : Nat → Int → Int → Mem → Prop} (hX5 : ∀ (v1 : Nat) (v2 : Int) (v3 : Int) (μ : Mem), X5 v1 v2 v3 μ → isC v1 → inR v2 → inR v3 → okM μ → J cX3_leastApart x E z0 μ 5 [some (rv E 70), some (rv E v1), some (iv v2), some (iv v3), none] [] (MQ (xb x) (QI E z0 Q) (xa x) (xs x) 0 0 (gA E))) {v1 : Nat} {v2 : Int} {v3 : Int} {v4 : Int} {μ : Mem} (hv1 : isC v1) (hv2 : inR v2) (hv3 : inR v3) (hv4 : inR v4) (hμ : okM μ) (h : LP5 (wp_X3_leastApart_26 Q X5) v1 v2 v3 v4 μ) : J cX3_leastApart x E z0 μ 26 [some (rv E 70), some (rv E v1), some (iv v2), some (iv v3), some (iv v4)] [] (MQ (xb x) (QI E z0 Q) (xa x) (xs x) 0 0 (gA E)) := by
  refine LP5_ind (T := fun (v1 : Nat) (v2 : Int) (v3 : Int) (v4 : Int) (μ : Mem) => isC v1 → inR v2 → inR v3 → inR v4 → okM μ → J cX3_leastApart x E z0 μ 26 [some (rv E 70), some (rv E v1), some (iv v2), some (iv v3), some (iv v4)] [] (MQ (xb x) (QI E z0 Q) (xa x) (xs x) 0 0 (gA E))) (fun X26 hX26 v1 v2 v3 v4 μ h hv1 hv2 hv3 hv4 hμ => ?_) h hv1 hv2 hv3 hv4 hμ
  unfold wp_X3_leastApart_26 at h
  refine r_il4 dX3_leastApart_26 ?_
  refine r_al0 dX3_leastApart_28 ?_
  refine r_getI B fg_X3_21 kd_70 (kl kd_70) dX3_leastApart_29 ?_
  refine r_icmp_ge 62 dX3_leastApart_32 rfl hv4 (hμ 70 0) (fun c8 => ?_) (fun c8 => ?_)
  · have h := h.1 c8
    refine r_inc3 dX3_leastApart_62 rfl ?_
    obtain ⟨o9, h⟩ := h
    refine r_goto 5 dX3_leastApart_65 rfl ?_
    exact J_weak (hX5 v1 v2 (v3 + 1) μ h hv1 hv2 o9 hμ) (⟨rfl, ⟨rfl, ⟨rfl, ⟨rfl, trivial⟩⟩⟩⟩)
  · have h := h.2 c8
    refine r_al1 dX3_leastApart_35 ?_
    refine r_il4 dX3_leastApart_36 ?_
    refine r_cVI1 B cb_X1_holds lk_X3_65 cv_X1_holds (hv1).1 (c_X1_holds (xl x) E hv1 hv4 hμ h) rfl rfl dX3_leastApart_38 (fun r11 μ10 hr11 mμ10 h => ?_)
    refine r_if_eq 56 dX3_leastApart_41 rfl hr11 (fun c12 => ?_) (fun c12 => ?_)
    · have h := h.1 c12
      refine r_inc4 dX3_leastApart_56 rfl ?_
      obtain ⟨o13, h⟩ := h
      refine r_goto 26 dX3_leastApart_59 rfl ?_
      exact J_weak (hX26 v1 v2 v3 (v4 + 1) μ10 h hv1 hv2 hv3 o13 mμ10) (⟨rfl, ⟨rfl, ⟨rfl, ⟨rfl, ⟨rfl, trivial⟩⟩⟩⟩⟩)
    · have h := h.2 c12
      refine r_il2 dX3_leastApart_44 ?_
      refine r_al0 dX3_leastApart_45 ?_
      refine r_il3 dX3_leastApart_46 ?_
      refine r_il4 dX3_leastApart_47 ?_
      refine r_cVI2 B cb_X3_distance lk_X3_52 cv_X3_distance kd_70 (c_X3_distance (xl x) E hv3 hv4 mμ10 h) rfl rfl dX3_leastApart_49 (fun r15 μ14 hr15 mμ14 h => ?_)
      refine r_mmin B lk_X3_76 hv2 hr15 rfl dX3_leastApart_52 ?_
      refine n_topi (fun x16 ex16 => ?_)
      have h := h x16 ex16
      refine r_is2 dX3_leastApart_55 rfl ?_
      refine r_inc4 dX3_leastApart_56 rfl ?_
      obtain ⟨o17, h⟩ := h
      refine r_goto 26 dX3_leastApart_59 rfl ?_
      exact J_weak (hX26 v1 x16 v3 (v4 + 1) μ14 h hv1 (eqR ex16 (inR_min hv2 hr15)) hv3 o17 mμ14) (⟨rfl, ⟨rfl, ⟨rfl, ⟨rfl, ⟨rfl, trivial⟩⟩⟩⟩⟩)
set_option maxRecDepth 20000 in
theorem t_X3_leastApart_5 {x : Cx} {E : Gx} (B : Bd x E 3 5 "SlipCovers$Ground") (hr : (xt x).sig.returnType = (some .int)) {Q : Int → Mem → Prop} {v1 : Nat} {v2 : Int} {v3 : Int} {μ : Mem} (hv1 : isC v1) (hv2 : inR v2) (hv3 : inR v3) (hμ : okM μ) (h : LP4 (wp_X3_leastApart_5 Q) v1 v2 v3 μ) : J cX3_leastApart x E z0 μ 5 [some (rv E 70), some (rv E v1), some (iv v2), some (iv v3), none] [] (MQ (xb x) (QI E z0 Q) (xa x) (xs x) 0 0 (gA E)) := by
  refine LP4_ind (T := fun (v1 : Nat) (v2 : Int) (v3 : Int) (μ : Mem) => isC v1 → inR v2 → inR v3 → okM μ → J cX3_leastApart x E z0 μ 5 [some (rv E 70), some (rv E v1), some (iv v2), some (iv v3), none] [] (MQ (xb x) (QI E z0 Q) (xa x) (xs x) 0 0 (gA E))) (fun X5 hX5 v1 v2 v3 μ h hv1 hv2 hv3 hμ => ?_) h hv1 hv2 hv3 hμ
  unfold wp_X3_leastApart_5 at h
  refine r_il3 dX3_leastApart_5 ?_
  refine r_al0 dX3_leastApart_6 ?_
  refine r_getI B fg_X3_21 kd_70 (kl kd_70) dX3_leastApart_7 ?_
  refine r_icmp_ge 68 dX3_leastApart_10 rfl hv3 (hμ 70 0) (fun c1 => ?_) (fun c1 => ?_)
  · have h := h.1 c1
    refine r_il2 dX3_leastApart_68 ?_
    exact r_iret B hr hv2 hμ dX3_leastApart_69 h
  · have h := h.2 c1
    refine r_al1 dX3_leastApart_13 ?_
    refine r_il3 dX3_leastApart_14 ?_
    refine r_cVI1 B cb_X1_holds lk_X3_65 cv_X1_holds (hv1).1 (c_X1_holds (xl x) E hv1 hv3 hμ h) rfl rfl dX3_leastApart_15 (fun r3 μ2 hr3 mμ2 h => ?_)
    refine r_if_eq 62 dX3_leastApart_18 rfl hr3 (fun c4 => ?_) (fun c4 => ?_)
    · have h := h.1 c4
      refine r_inc3 dX3_leastApart_62 rfl ?_
      obtain ⟨o5, h⟩ := h
      refine r_goto 5 dX3_leastApart_65 rfl ?_
      exact J_weak (hX5 v1 v2 (v3 + 1) μ2 h hv1 hv2 o5 mμ2) (⟨rfl, ⟨rfl, ⟨rfl, ⟨rfl, trivial⟩⟩⟩⟩)
    · have h := h.2 c4
      refine r_il3 dX3_leastApart_21 ?_
      refine r_iconst dX3_leastApart_22 ?_
      refine r_iadd dX3_leastApart_23 ?_
      obtain ⟨o7, h⟩ := h
      refine n_topi (fun x6 ex6 => ?_)
      have h := h x6 ex6
      refine r_is4 dX3_leastApart_24 rfl ?_
      exact J_weak (t_X3_leastApart_26 B hr hX5 hv1 hv2 hv3 (eqR ex6 o7) mμ2 h) (⟨rfl, ⟨rfl, ⟨rfl, ⟨rfl, ⟨rfl, trivial⟩⟩⟩⟩⟩)
set_option maxRecDepth 20000 in
theorem c_X3_leastApart (l : Launch) (E : Gx) {p0 : Nat} {μ : Mem} {Q : Int → Mem → Prop} (hp0 : isC p0) (hμ : okM μ) (h : wp_X3_leastApart p0 μ Q) : MT l yX3_leastApart cX3_leastApart 5 (some .int) E 3 0 0 z0 [rv E 70, rv E p0] μ (QI E z0 Q) := by
  refine m_start [some (rv E 70), some (rv E p0), none, none, none] (by decide) rfl rfl rfl (fun x hxl hxc hxs B hr hnm => ?_)
  unfold wp_X3_leastApart at h
  refine r_ldc B (a := 2147483647) kc_X3_75 (by decide) dX3_leastApart_0 ?_
  refine r_is2 dX3_leastApart_2 rfl ?_
  refine r_iconst dX3_leastApart_3 ?_
  refine r_is3 dX3_leastApart_4 rfl ?_
  exact J_weak (t_X3_leastApart_5 B hr hp0 (inR_k rfl) (inR_k rfl) hμ h) (⟨rfl, ⟨rfl, ⟨rfl, ⟨rfl, trivial⟩⟩⟩⟩)
set_option maxRecDepth 20000 in
theorem t_X3_closest_9 {x : Cx} {E : Gx} (B : Bd x E 3 6 "SlipCovers$Ground") (hr : (xt x).sig.returnType = (some .int)) {Q : Int → Mem → Prop} {v1 : Nat} {v2 : Int} {v3 : Int} {v4 : Int} {v5 : Int} {μ : Mem} (hv1 : isC v1) (hv2 : inR v2) (hv3 : inR v3) (hv4 : inR v4) (hv5 : inR v5) (hμ : okM μ) (h : LP6 (wp_X3_closest_9 Q) v1 v2 v3 v4 v5 μ) : J cX3_closest x E z0 μ 9 [some (rv E 70), some (rv E v1), some (iv v2), some (iv v3), some (iv v4), some (iv v5)] [] (MQ (xb x) (QI E z0 Q) (xa x) (xs x) 0 0 (gA E)) := by
  refine LP6_ind (T := fun (v1 : Nat) (v2 : Int) (v3 : Int) (v4 : Int) (v5 : Int) (μ : Mem) => isC v1 → inR v2 → inR v3 → inR v4 → inR v5 → okM μ → J cX3_closest x E z0 μ 9 [some (rv E 70), some (rv E v1), some (iv v2), some (iv v3), some (iv v4), some (iv v5)] [] (MQ (xb x) (QI E z0 Q) (xa x) (xs x) 0 0 (gA E))) (fun X9 hX9 v1 v2 v3 v4 v5 μ h hv1 hv2 hv3 hv4 hv5 hμ => ?_) h hv1 hv2 hv3 hv4 hv5 hμ
  unfold wp_X3_closest_9 at h
  refine r_il5 dX3_closest_9 ?_
  refine r_al0 dX3_closest_11 ?_
  refine r_getI B fg_X3_21 kd_70 (kl kd_70) dX3_closest_12 ?_
  refine r_icmp_ge 57 dX3_closest_15 rfl hv5 (hμ 70 0) (fun c1 => ?_) (fun c1 => ?_)
  · have h := h.1 c1
    refine r_il3 dX3_closest_57 ?_
    exact r_iret B hr hv3 hμ dX3_closest_58 h
  · have h := h.2 c1
    refine r_al1 dX3_closest_18 ?_
    refine r_il5 dX3_closest_19 ?_
    refine r_cVI1 B cb_X1_holds lk_X3_65 cv_X1_holds (hv1).1 (c_X1_holds (xl x) E hv1 hv5 hμ h) rfl rfl dX3_closest_21 (fun r3 μ2 hr3 mμ2 h => ?_)
    refine r_if_eq 51 dX3_closest_24 rfl hr3 (fun c4 => ?_) (fun c4 => ?_)
    · have h := h.1 c4
      refine r_inc5 dX3_closest_51 rfl ?_
      obtain ⟨o5, h⟩ := h
      refine r_goto 9 dX3_closest_54 rfl ?_
      exact J_weak (hX9 v1 v2 v3 v4 (v5 + 1) μ2 h hv1 hv2 hv3 hv4 o5 mμ2) (⟨rfl, ⟨rfl, ⟨rfl, ⟨rfl, ⟨rfl, ⟨rfl, trivial⟩⟩⟩⟩⟩⟩)
    · have h := h.2 c4
      refine r_al0 dX3_closest_27 ?_
      refine r_il2 dX3_closest_28 ?_
      refine r_il5 dX3_closest_29 ?_
      refine r_cVI2 B cb_X3_distance lk_X3_52 cv_X3_distance kd_70 (c_X3_distance (xl x) E hv2 hv5 mμ2 h) rfl rfl dX3_closest_31 (fun r7 μ6 hr7 mμ6 h => ?_)
      refine r_il4 dX3_closest_34 ?_
      refine r_icmp_ge 51 dX3_closest_36 rfl hr7 hv4 (fun c8 => ?_) (fun c8 => ?_)
      · have h := h.1 c8
        refine r_inc5 dX3_closest_51 rfl ?_
        obtain ⟨o9, h⟩ := h
        refine r_goto 9 dX3_closest_54 rfl ?_
        exact J_weak (hX9 v1 v2 v3 v4 (v5 + 1) μ6 h hv1 hv2 hv3 hv4 o9 mμ6) (⟨rfl, ⟨rfl, ⟨rfl, ⟨rfl, ⟨rfl, ⟨rfl, trivial⟩⟩⟩⟩⟩⟩)
      · have h := h.2 c8
        refine r_al0 dX3_closest_39 ?_
        refine r_il2 dX3_closest_40 ?_
        refine r_il5 dX3_closest_41 ?_
        refine r_cVI2 B cb_X3_distance lk_X3_52 cv_X3_distance kd_70 (c_X3_distance (xl x) E hv2 hv5 mμ6 h) rfl rfl dX3_closest_43 (fun r11 μ10 hr11 mμ10 h => ?_)
        refine r_is4 dX3_closest_46 rfl ?_
        refine r_il5 dX3_closest_48 ?_
        refine r_is3 dX3_closest_50 rfl ?_
        refine r_inc5 dX3_closest_51 rfl ?_
        obtain ⟨o12, h⟩ := h
        refine r_goto 9 dX3_closest_54 rfl ?_
        exact J_weak (hX9 v1 v2 v5 r11 (v5 + 1) μ10 h hv1 hv2 hv5 hr11 o12 mμ10) (⟨rfl, ⟨rfl, ⟨rfl, ⟨rfl, ⟨rfl, ⟨rfl, trivial⟩⟩⟩⟩⟩⟩)
set_option maxRecDepth 20000 in
theorem c_X3_closest (l : Launch) (E : Gx) {p0 : Nat} {p1 : Int} {μ : Mem} {Q : Int → Mem → Prop} (hp0 : isC p0) (hp1 : inR p1) (hμ : okM μ) (h : wp_X3_closest p0 p1 μ Q) : MT l yX3_closest cX3_closest 6 (some .int) E 3 0 0 z0 [rv E 70, rv E p0, iv p1] μ (QI E z0 Q) := by
  refine m_start [some (rv E 70), some (rv E p0), some (iv p1), none, none, none] (by decide) rfl rfl rfl (fun x hxl hxc hxs B hr hnm => ?_)
  unfold wp_X3_closest at h
  refine r_iconst dX3_closest_0 ?_
  refine r_is3 dX3_closest_1 rfl ?_
  refine r_ldc B (a := 2147483647) kc_X3_75 (by decide) dX3_closest_2 ?_
  refine r_is4 dX3_closest_4 rfl ?_
  refine r_iconst dX3_closest_6 ?_
  refine r_is5 dX3_closest_7 rfl ?_
  exact J_weak (t_X3_closest_9 B hr hp0 hp1 (inR_k rfl) (inR_k rfl) (inR_k rfl) hμ h) (⟨rfl, ⟨rfl, ⟨rfl, ⟨rfl, ⟨rfl, ⟨rfl, trivial⟩⟩⟩⟩⟩⟩)
set_option maxRecDepth 20000 in
theorem t_X3_radius_4 {x : Cx} {E : Gx} (B : Bd x E 4 4 "SlipCovers$Ground") (hr : (xt x).sig.returnType = (some .int)) {Q : Int → Mem → Prop} {v1 : Nat} {v2 : Int} {v3 : Int} {μ : Mem} (hv1 : isC v1) (hv2 : inR v2) (hv3 : inR v3) (hμ : okM μ) (h : LP4 (wp_X3_radius_4 Q) v1 v2 v3 μ) : J cX3_radius x E z0 μ 4 [some (rv E 70), some (rv E v1), some (iv v2), some (iv v3)] [] (MQ (xb x) (QI E z0 Q) (xa x) (xs x) 0 0 (gA E)) := by
  refine LP4_ind (T := fun (v1 : Nat) (v2 : Int) (v3 : Int) (μ : Mem) => isC v1 → inR v2 → inR v3 → okM μ → J cX3_radius x E z0 μ 4 [some (rv E 70), some (rv E v1), some (iv v2), some (iv v3)] [] (MQ (xb x) (QI E z0 Q) (xa x) (xs x) 0 0 (gA E))) (fun X4 hX4 v1 v2 v3 μ h hv1 hv2 hv3 hμ => ?_) h hv1 hv2 hv3 hμ
  unfold wp_X3_radius_4 at h
  refine r_il3 dX3_radius_4 ?_
  refine r_al0 dX3_radius_5 ?_
  refine r_getI B fg_X3_21 kd_70 (kl kd_70) dX3_radius_6 ?_
  refine r_icmp_ge 34 dX3_radius_9 rfl hv3 (hμ 70 0) (fun c1 => ?_) (fun c1 => ?_)
  · have h := h.1 c1
    refine r_il2 dX3_radius_34 ?_
    exact r_iret B hr hv2 hμ dX3_radius_35 h
  · have h := h.2 c1
    refine r_il2 dX3_radius_12 ?_
    refine r_al0 dX3_radius_13 ?_
    refine r_il3 dX3_radius_14 ?_
    refine r_al0 dX3_radius_15 ?_
    refine r_al1 dX3_radius_16 ?_
    refine r_il3 dX3_radius_17 ?_
    refine r_cVI2 B cb_X3_closest lk_X3_81 cv_X3_closest kd_70 (c_X3_closest (xl x) E hv1 hv3 hμ h) rfl rfl dX3_radius_18 (fun r3 μ2 hr3 mμ2 h => ?_)
    refine r_cVI2 B cb_X3_distance lk_X3_52 cv_X3_distance kd_70 (c_X3_distance (xl x) E hv3 hr3 mμ2 h) rfl rfl dX3_radius_21 (fun r5 μ4 hr5 mμ4 h => ?_)
    refine r_mmax B lk_X3_85 hv2 hr5 rfl dX3_radius_24 ?_
    refine n_topi (fun x6 ex6 => ?_)
    have h := h x6 ex6
    refine r_is2 dX3_radius_27 rfl ?_
    refine r_inc3 dX3_radius_28 rfl ?_
    obtain ⟨o7, h⟩ := h
    refine r_goto 4 dX3_radius_31 rfl ?_
    exact J_weak (hX4 v1 x6 (v3 + 1) μ4 h hv1 (eqR ex6 (inR_max hv2 hr5)) o7 mμ4) (⟨rfl, ⟨rfl, ⟨rfl, ⟨rfl, trivial⟩⟩⟩⟩)
set_option maxRecDepth 20000 in
theorem c_X3_radius (l : Launch) (E : Gx) {p0 : Nat} {μ : Mem} {Q : Int → Mem → Prop} (hp0 : isC p0) (hμ : okM μ) (h : wp_X3_radius p0 μ Q) : MT l yX3_radius cX3_radius 4 (some .int) E 4 0 0 z0 [rv E 70, rv E p0] μ (QI E z0 Q) := by
  refine m_start [some (rv E 70), some (rv E p0), none, none] (by decide) rfl rfl rfl (fun x hxl hxc hxs B hr hnm => ?_)
  unfold wp_X3_radius at h
  refine r_iconst dX3_radius_0 ?_
  refine r_is2 dX3_radius_1 rfl ?_
  refine r_iconst dX3_radius_2 ?_
  refine r_is3 dX3_radius_3 rfl ?_
  exact J_weak (t_X3_radius_4 B hr hp0 (inR_k rfl) (inR_k rfl) hμ h) (⟨rfl, ⟨rfl, ⟨rfl, ⟨rfl, trivial⟩⟩⟩⟩)
set_option maxRecDepth 20000 in
theorem t_X3_farthest_5 {x : Cx} {E : Gx} (B : Bd x E 3 5 "SlipCovers$Ground") (hr : (xt x).sig.returnType = (some .int)) {Q : Int → Mem → Prop} {v1 : Nat} {v2 : Int} {v3 : Int} {v4 : Int} {μ : Mem} (hv1 : isC v1) (hv2 : inR v2) (hv3 : inR v3) (hv4 : inR v4) (hμ : okM μ) (h : LP5 (wp_X3_farthest_5 Q) v1 v2 v3 v4 μ) : J cX3_farthest x E z0 μ 5 [some (rv E 70), some (rv E v1), some (iv v2), some (iv v3), some (iv v4)] [] (MQ (xb x) (QI E z0 Q) (xa x) (xs x) 0 0 (gA E)) := by
  refine LP5_ind (T := fun (v1 : Nat) (v2 : Int) (v3 : Int) (v4 : Int) (μ : Mem) => isC v1 → inR v2 → inR v3 → inR v4 → okM μ → J cX3_farthest x E z0 μ 5 [some (rv E 70), some (rv E v1), some (iv v2), some (iv v3), some (iv v4)] [] (MQ (xb x) (QI E z0 Q) (xa x) (xs x) 0 0 (gA E))) (fun X5 hX5 v1 v2 v3 v4 μ h hv1 hv2 hv3 hv4 hμ => ?_) h hv1 hv2 hv3 hv4 hμ
  unfold wp_X3_farthest_5 at h
  refine r_il4 dX3_farthest_5 ?_
  refine r_al0 dX3_farthest_7 ?_
  refine r_getI B fg_X3_21 kd_70 (kl kd_70) dX3_farthest_8 ?_
  refine r_icmp_ge 41 dX3_farthest_11 rfl hv4 (hμ 70 0) (fun c1 => ?_) (fun c1 => ?_)
  · have h := h.1 c1
    refine r_il3 dX3_farthest_41 ?_
    exact r_iret B hr hv3 hμ dX3_farthest_42 h
  · have h := h.2 c1
    refine r_al1 dX3_farthest_14 ?_
    refine r_il4 dX3_farthest_15 ?_
    refine r_cVI1 B cb_X1_holds lk_X3_65 cv_X1_holds (hv1).1 (c_X1_holds (xl x) E hv1 hv4 hμ h) rfl rfl dX3_farthest_17 (fun r3 μ2 hr3 mμ2 h => ?_)
    refine r_if_eq 35 dX3_farthest_20 rfl hr3 (fun c4 => ?_) (fun c4 => ?_)
    · have h := h.1 c4
      refine r_inc4 dX3_farthest_35 rfl ?_
      obtain ⟨o5, h⟩ := h
      refine r_goto 5 dX3_farthest_38 rfl ?_
      exact J_weak (hX5 v1 v2 v3 (v4 + 1) μ2 h hv1 hv2 hv3 o5 mμ2) (⟨rfl, ⟨rfl, ⟨rfl, ⟨rfl, ⟨rfl, trivial⟩⟩⟩⟩⟩)
    · have h := h.2 c4
      refine r_il3 dX3_farthest_23 ?_
      refine r_al0 dX3_farthest_24 ?_
      refine r_il2 dX3_farthest_25 ?_
      refine r_il4 dX3_farthest_26 ?_
      refine r_cVI2 B cb_X3_distance lk_X3_52 cv_X3_distance kd_70 (c_X3_distance (xl x) E hv2 hv4 mμ2 h) rfl rfl dX3_farthest_28 (fun r7 μ6 hr7 mμ6 h => ?_)
      refine r_mmax B lk_X3_85 hv3 hr7 rfl dX3_farthest_31 ?_
      refine n_topi (fun x8 ex8 => ?_)
      have h := h x8 ex8
      refine r_is3 dX3_farthest_34 rfl ?_
      refine r_inc4 dX3_farthest_35 rfl ?_
      obtain ⟨o9, h⟩ := h
      refine r_goto 5 dX3_farthest_38 rfl ?_
      exact J_weak (hX5 v1 v2 x8 (v4 + 1) μ6 h hv1 hv2 (eqR ex8 (inR_max hv3 hr7)) o9 mμ6) (⟨rfl, ⟨rfl, ⟨rfl, ⟨rfl, ⟨rfl, trivial⟩⟩⟩⟩⟩)
set_option maxRecDepth 20000 in
theorem c_X3_farthest (l : Launch) (E : Gx) {p0 : Nat} {p1 : Int} {μ : Mem} {Q : Int → Mem → Prop} (hp0 : isC p0) (hp1 : inR p1) (hμ : okM μ) (h : wp_X3_farthest p0 p1 μ Q) : MT l yX3_farthest cX3_farthest 5 (some .int) E 3 0 0 z0 [rv E 70, rv E p0, iv p1] μ (QI E z0 Q) := by
  refine m_start [some (rv E 70), some (rv E p0), some (iv p1), none, none] (by decide) rfl rfl rfl (fun x hxl hxc hxs B hr hnm => ?_)
  unfold wp_X3_farthest at h
  refine r_iconst dX3_farthest_0 ?_
  refine r_is3 dX3_farthest_1 rfl ?_
  refine r_iconst dX3_farthest_2 ?_
  refine r_is4 dX3_farthest_3 rfl ?_
  exact J_weak (t_X3_farthest_5 B hr hp0 hp1 (inR_k rfl) (inR_k rfl) hμ h) (⟨rfl, ⟨rfl, ⟨rfl, ⟨rfl, ⟨rfl, trivial⟩⟩⟩⟩⟩)
set_option maxRecDepth 20000 in
theorem t_X3_middle_8 {x : Cx} {E : Gx} (B : Bd x E 4 6 "SlipCovers$Ground") (hr : (xt x).sig.returnType = (some .int)) {Q : Int → Mem → Prop} {v1 : Nat} {v2 : Int} {v3 : Int} {v4 : Int} {μ : Mem} (hv1 : isC v1) (hv2 : inR v2) (hv3 : inR v3) (hv4 : inR v4) (hμ : okM μ) (h : LP5 (wp_X3_middle_8 Q) v1 v2 v3 v4 μ) : J cX3_middle x E z0 μ 8 [some (rv E 70), some (rv E v1), some (iv v2), some (iv v3), some (iv v4), none] [] (MQ (xb x) (QI E z0 Q) (xa x) (xs x) 0 0 (gA E)) := by
  refine LP5_ind (T := fun (v1 : Nat) (v2 : Int) (v3 : Int) (v4 : Int) (μ : Mem) => isC v1 → inR v2 → inR v3 → inR v4 → okM μ → J cX3_middle x E z0 μ 8 [some (rv E 70), some (rv E v1), some (iv v2), some (iv v3), some (iv v4), none] [] (MQ (xb x) (QI E z0 Q) (xa x) (xs x) 0 0 (gA E))) (fun X8 hX8 v1 v2 v3 v4 μ h hv1 hv2 hv3 hv4 hμ => ?_) h hv1 hv2 hv3 hv4 hμ
  unfold wp_X3_middle_8 at h
  refine r_il4 dX3_middle_8 ?_
  refine r_al0 dX3_middle_10 ?_
  refine r_getI B fg_X3_21 kd_70 (kl kd_70) dX3_middle_11 ?_
  refine r_icmp_ge 44 dX3_middle_14 rfl hv4 (hμ 70 0) (fun c1 => ?_) (fun c1 => ?_)
  · have h := h.1 c1
    refine r_il2 dX3_middle_44 ?_
    exact r_iret B hr hv2 hμ dX3_middle_45 h
  · have h := h.2 c1
    refine r_al0 dX3_middle_17 ?_
    refine r_al1 dX3_middle_18 ?_
    refine r_il4 dX3_middle_19 ?_
    refine r_cVI2 B cb_X3_farthest lk_X3_88 cv_X3_farthest kd_70 (c_X3_farthest (xl x) E hv1 hv4 hμ h) rfl rfl dX3_middle_21 (fun r3 μ2 hr3 mμ2 h => ?_)
    refine r_is5 dX3_middle_24 rfl ?_
    refine r_il5 dX3_middle_26 ?_
    refine r_il3 dX3_middle_28 ?_
    refine r_icmp_ge 38 dX3_middle_29 rfl hr3 hv3 (fun c4 => ?_) (fun c4 => ?_)
    · have h := h.1 c4
      refine r_inc4 dX3_middle_38 rfl ?_
      obtain ⟨o5, h⟩ := h
      refine r_goto 8 dX3_middle_41 rfl ?_
      exact J_weak (hX8 v1 v2 v3 (v4 + 1) μ2 h hv1 hv2 hv3 o5 mμ2) (⟨rfl, ⟨rfl, ⟨rfl, ⟨rfl, ⟨rfl, trivial⟩⟩⟩⟩⟩)
    · have h := h.2 c4
      refine r_il5 dX3_middle_32 ?_
      refine r_is3 dX3_middle_34 rfl ?_
      refine r_il4 dX3_middle_35 ?_
      refine r_is2 dX3_middle_37 rfl ?_
      refine r_inc4 dX3_middle_38 rfl ?_
      obtain ⟨o6, h⟩ := h
      refine r_goto 8 dX3_middle_41 rfl ?_
      exact J_weak (hX8 v1 v4 r3 (v4 + 1) μ2 h hv1 hv4 hr3 o6 mμ2) (⟨rfl, ⟨rfl, ⟨rfl, ⟨rfl, ⟨rfl, trivial⟩⟩⟩⟩⟩)
set_option maxRecDepth 20000 in
theorem c_X3_middle (l : Launch) (E : Gx) {p0 : Nat} {μ : Mem} {Q : Int → Mem → Prop} (hp0 : isC p0) (hμ : okM μ) (h : wp_X3_middle p0 μ Q) : MT l yX3_middle cX3_middle 6 (some .int) E 4 0 0 z0 [rv E 70, rv E p0] μ (QI E z0 Q) := by
  refine m_start [some (rv E 70), some (rv E p0), none, none, none, none] (by decide) rfl rfl rfl (fun x hxl hxc hxs B hr hnm => ?_)
  unfold wp_X3_middle at h
  refine r_iconst dX3_middle_0 ?_
  refine r_is2 dX3_middle_1 rfl ?_
  refine r_ldc B (a := 2147483647) kc_X3_75 (by decide) dX3_middle_2 ?_
  refine r_is3 dX3_middle_4 rfl ?_
  refine r_iconst dX3_middle_5 ?_
  refine r_is4 dX3_middle_6 rfl ?_
  exact J_weak (t_X3_middle_8 B hr hp0 (inR_k rfl) (inR_k rfl) (inR_k rfl) hμ h) (⟨rfl, ⟨rfl, ⟨rfl, ⟨rfl, ⟨rfl, trivial⟩⟩⟩⟩⟩)
set_option maxRecDepth 20000 in
theorem t_X3_codewordsAt_6 {x : Cx} {E : Gx} (B : Bd x E 3 6 "SlipCovers$Ground") (hr : (xt x).sig.returnType = (some .int)) {Q : Int → Mem → Prop} {v1 : Nat} {v2 : Int} {v3 : Int} {v4 : Int} {v5 : Int} {μ : Mem} (hv1 : isC v1) (hv2 : inR v2) (hv3 : inR v3) (hv4 : inR v4) (hv5 : inR v5) (hμ : okM μ) (h : LP6 (wp_X3_codewordsAt_6 Q) v1 v2 v3 v4 v5 μ) : J cX3_codewordsAt x E z0 μ 6 [some (rv E 70), some (rv E v1), some (iv v2), some (iv v3), some (iv v4), some (iv v5)] [] (MQ (xb x) (QI E z0 Q) (xa x) (xs x) 0 0 (gA E)) := by
  refine LP6_ind (T := fun (v1 : Nat) (v2 : Int) (v3 : Int) (v4 : Int) (v5 : Int) (μ : Mem) => isC v1 → inR v2 → inR v3 → inR v4 → inR v5 → okM μ → J cX3_codewordsAt x E z0 μ 6 [some (rv E 70), some (rv E v1), some (iv v2), some (iv v3), some (iv v4), some (iv v5)] [] (MQ (xb x) (QI E z0 Q) (xa x) (xs x) 0 0 (gA E))) (fun X6 hX6 v1 v2 v3 v4 v5 μ h hv1 hv2 hv3 hv4 hv5 hμ => ?_) h hv1 hv2 hv3 hv4 hv5 hμ
  unfold wp_X3_codewordsAt_6 at h
  refine r_il5 dX3_codewordsAt_6 ?_
  refine r_al0 dX3_codewordsAt_8 ?_
  refine r_getI B fg_X3_21 kd_70 (kl kd_70) dX3_codewordsAt_9 ?_
  refine r_icmp_ge 44 dX3_codewordsAt_12 rfl hv5 (hμ 70 0) (fun c1 => ?_) (fun c1 => ?_)
  · have h := h.1 c1
    refine r_il4 dX3_codewordsAt_44 ?_
    exact r_iret B hr hv4 hμ dX3_codewordsAt_46 h
  · have h := h.2 c1
    refine r_al1 dX3_codewordsAt_15 ?_
    refine r_il5 dX3_codewordsAt_16 ?_
    refine r_cVI1 B cb_X1_holds lk_X3_65 cv_X1_holds (hv1).1 (c_X1_holds (xl x) E hv1 hv5 hμ h) rfl rfl dX3_codewordsAt_18 (fun r3 μ2 hr3 mμ2 h => ?_)
    refine r_if_eq 38 dX3_codewordsAt_21 rfl hr3 (fun c4 => ?_) (fun c4 => ?_)
    · have h := h.1 c4
      refine r_inc5 dX3_codewordsAt_38 rfl ?_
      obtain ⟨o5, h⟩ := h
      refine r_goto 6 dX3_codewordsAt_41 rfl ?_
      exact J_weak (hX6 v1 v2 v3 v4 (v5 + 1) μ2 h hv1 hv2 hv3 hv4 o5 mμ2) (⟨rfl, ⟨rfl, ⟨rfl, ⟨rfl, ⟨rfl, ⟨rfl, trivial⟩⟩⟩⟩⟩⟩)
    · have h := h.2 c4
      refine r_al0 dX3_codewordsAt_24 ?_
      refine r_il2 dX3_codewordsAt_25 ?_
      refine r_il5 dX3_codewordsAt_26 ?_
      refine r_cVI2 B cb_X3_distance lk_X3_52 cv_X3_distance kd_70 (c_X3_distance (xl x) E hv2 hv5 mμ2 h) rfl rfl dX3_codewordsAt_28 (fun r7 μ6 hr7 mμ6 h => ?_)
      refine r_il3 dX3_codewordsAt_31 ?_
      refine r_icmp_ne 38 dX3_codewordsAt_32 rfl hr7 hv3 (fun c8 => ?_) (fun c8 => ?_)
      · have h := h.1 c8
        refine r_inc5 dX3_codewordsAt_38 rfl ?_
        obtain ⟨o9, h⟩ := h
        refine r_goto 6 dX3_codewordsAt_41 rfl ?_
        exact J_weak (hX6 v1 v2 v3 v4 (v5 + 1) μ6 h hv1 hv2 hv3 hv4 o9 mμ6) (⟨rfl, ⟨rfl, ⟨rfl, ⟨rfl, ⟨rfl, ⟨rfl, trivial⟩⟩⟩⟩⟩⟩)
      · have h := h.2 c8
        refine r_inc4 dX3_codewordsAt_35 rfl ?_
        obtain ⟨o10, h⟩ := h
        refine r_inc5 dX3_codewordsAt_38 rfl ?_
        obtain ⟨o11, h⟩ := h
        refine r_goto 6 dX3_codewordsAt_41 rfl ?_
        exact J_weak (hX6 v1 v2 v3 (v4 + 1) (v5 + 1) μ6 h hv1 hv2 hv3 o10 o11 mμ6) (⟨rfl, ⟨rfl, ⟨rfl, ⟨rfl, ⟨rfl, ⟨rfl, trivial⟩⟩⟩⟩⟩⟩)
set_option maxRecDepth 20000 in
theorem c_X3_codewordsAt (l : Launch) (E : Gx) {p0 : Nat} {p1 : Int} {p2 : Int} {μ : Mem} {Q : Int → Mem → Prop} (hp0 : isC p0) (hp1 : inR p1) (hp2 : inR p2) (hμ : okM μ) (h : wp_X3_codewordsAt p0 p1 p2 μ Q) : MT l yX3_codewordsAt cX3_codewordsAt 6 (some .int) E 3 0 0 z0 [rv E 70, rv E p0, iv p1, iv p2] μ (QI E z0 Q) := by
  refine m_start [some (rv E 70), some (rv E p0), some (iv p1), some (iv p2), none, none] (by decide) rfl rfl rfl (fun x hxl hxc hxs B hr hnm => ?_)
  unfold wp_X3_codewordsAt at h
  refine r_iconst dX3_codewordsAt_0 ?_
  refine r_is4 dX3_codewordsAt_1 rfl ?_
  refine r_iconst dX3_codewordsAt_3 ?_
  refine r_is5 dX3_codewordsAt_4 rfl ?_
  exact J_weak (t_X3_codewordsAt_6 B hr hp0 hp1 hp2 (inR_k rfl) (inR_k rfl) hμ h) (⟨rfl, ⟨rfl, ⟨rfl, ⟨rfl, ⟨rfl, ⟨rfl, trivial⟩⟩⟩⟩⟩⟩)
set_option maxRecDepth 20000 in
theorem t_X3_codewordsWith_6 {x : Cx} {E : Gx} (B : Bd x E 2 6 "SlipCovers$Ground") (hr : (xt x).sig.returnType = (some .int)) {Q : Int → Mem → Prop} {v1 : Nat} {v2 : Int} {v3 : Int} {v4 : Int} {v5 : Int} {μ : Mem} (hv1 : isC v1) (hv2 : inR v2) (hv3 : inR v3) (hv4 : inR v4) (hv5 : inR v5) (hμ : okM μ) (h : LP6 (wp_X3_codewordsWith_6 Q) v1 v2 v3 v4 v5 μ) : J cX3_codewordsWith x E z0 μ 6 [some (rv E 70), some (rv E v1), some (iv v2), some (iv v3), some (iv v4), some (iv v5)] [] (MQ (xb x) (QI E z0 Q) (xa x) (xs x) 0 0 (gA E)) := by
  refine LP6_ind (T := fun (v1 : Nat) (v2 : Int) (v3 : Int) (v4 : Int) (v5 : Int) (μ : Mem) => isC v1 → inR v2 → inR v3 → inR v4 → inR v5 → okM μ → J cX3_codewordsWith x E z0 μ 6 [some (rv E 70), some (rv E v1), some (iv v2), some (iv v3), some (iv v4), some (iv v5)] [] (MQ (xb x) (QI E z0 Q) (xa x) (xs x) 0 0 (gA E))) (fun X6 hX6 v1 v2 v3 v4 v5 μ h hv1 hv2 hv3 hv4 hv5 hμ => ?_) h hv1 hv2 hv3 hv4 hv5 hμ
  unfold wp_X3_codewordsWith_6 at h
  refine r_il5 dX3_codewordsWith_6 ?_
  refine r_al0 dX3_codewordsWith_8 ?_
  refine r_getI B fg_X3_21 kd_70 (kl kd_70) dX3_codewordsWith_9 ?_
  refine r_icmp_ge 44 dX3_codewordsWith_12 rfl hv5 (hμ 70 0) (fun c1 => ?_) (fun c1 => ?_)
  · have h := h.1 c1
    refine r_il4 dX3_codewordsWith_44 ?_
    exact r_iret B hr hv4 hμ dX3_codewordsWith_46 h
  · have h := h.2 c1
    refine r_al1 dX3_codewordsWith_15 ?_
    refine r_il5 dX3_codewordsWith_16 ?_
    refine r_cVI1 B cb_X1_holds lk_X3_65 cv_X1_holds (hv1).1 (c_X1_holds (xl x) E hv1 hv5 hμ h) rfl rfl dX3_codewordsWith_18 (fun r3 μ2 hr3 mμ2 h => ?_)
    refine r_if_eq 38 dX3_codewordsWith_21 rfl hr3 (fun c4 => ?_) (fun c4 => ?_)
    · have h := h.1 c4
      refine r_inc5 dX3_codewordsWith_38 rfl ?_
      obtain ⟨o5, h⟩ := h
      refine r_goto 6 dX3_codewordsWith_41 rfl ?_
      exact J_weak (hX6 v1 v2 v3 v4 (v5 + 1) μ2 h hv1 hv2 hv3 hv4 o5 mμ2) (⟨rfl, ⟨rfl, ⟨rfl, ⟨rfl, ⟨rfl, ⟨rfl, trivial⟩⟩⟩⟩⟩⟩)
    · have h := h.2 c4
      refine r_al0 dX3_codewordsWith_24 ?_
      refine r_il5 dX3_codewordsWith_25 ?_
      refine r_il2 dX3_codewordsWith_27 ?_
      refine r_cVI2 B cb_X3_digitAt lk_X3_91 cv_X3_digitAt kd_70 (c_X3_digitAt (xl x) E hv5 hv2 mμ2 h) rfl rfl dX3_codewordsWith_28 (fun r7 μ6 hr7 mμ6 h => ?_)
      refine r_il3 dX3_codewordsWith_31 ?_
      refine r_icmp_ne 38 dX3_codewordsWith_32 rfl hr7 hv3 (fun c8 => ?_) (fun c8 => ?_)
      · have h := h.1 c8
        refine r_inc5 dX3_codewordsWith_38 rfl ?_
        obtain ⟨o9, h⟩ := h
        refine r_goto 6 dX3_codewordsWith_41 rfl ?_
        exact J_weak (hX6 v1 v2 v3 v4 (v5 + 1) μ6 h hv1 hv2 hv3 hv4 o9 mμ6) (⟨rfl, ⟨rfl, ⟨rfl, ⟨rfl, ⟨rfl, ⟨rfl, trivial⟩⟩⟩⟩⟩⟩)
      · have h := h.2 c8
        refine r_inc4 dX3_codewordsWith_35 rfl ?_
        obtain ⟨o10, h⟩ := h
        refine r_inc5 dX3_codewordsWith_38 rfl ?_
        obtain ⟨o11, h⟩ := h
        refine r_goto 6 dX3_codewordsWith_41 rfl ?_
        exact J_weak (hX6 v1 v2 v3 (v4 + 1) (v5 + 1) μ6 h hv1 hv2 hv3 o10 o11 mμ6) (⟨rfl, ⟨rfl, ⟨rfl, ⟨rfl, ⟨rfl, ⟨rfl, trivial⟩⟩⟩⟩⟩⟩)
set_option maxRecDepth 20000 in
theorem c_X3_codewordsWith (l : Launch) (E : Gx) {p0 : Nat} {p1 : Int} {p2 : Int} {μ : Mem} {Q : Int → Mem → Prop} (hp0 : isC p0) (hp1 : inR p1) (hp2 : inR p2) (hμ : okM μ) (h : wp_X3_codewordsWith p0 p1 p2 μ Q) : MT l yX3_codewordsWith cX3_codewordsWith 6 (some .int) E 2 0 0 z0 [rv E 70, rv E p0, iv p1, iv p2] μ (QI E z0 Q) := by
  refine m_start [some (rv E 70), some (rv E p0), some (iv p1), some (iv p2), none, none] (by decide) rfl rfl rfl (fun x hxl hxc hxs B hr hnm => ?_)
  unfold wp_X3_codewordsWith at h
  refine r_iconst dX3_codewordsWith_0 ?_
  refine r_is4 dX3_codewordsWith_1 rfl ?_
  refine r_iconst dX3_codewordsWith_3 ?_
  refine r_is5 dX3_codewordsWith_4 rfl ?_
  exact J_weak (t_X3_codewordsWith_6 B hr hp0 hp1 hp2 (inR_k rfl) (inR_k rfl) hμ h) (⟨rfl, ⟨rfl, ⟨rfl, ⟨rfl, ⟨rfl, ⟨rfl, trivial⟩⟩⟩⟩⟩⟩)
set_option maxRecDepth 20000 in
theorem t_X3_mostGain_4 {x : Cx} {E : Gx} (B : Bd x E 1 3 "SlipCovers$Ground") (hr : (xt x).sig.returnType = (some .int)) {Q : Int → Mem → Prop} {v1 : Int} {v2 : Int} {μ : Mem} (hv1 : inR v1) (hv2 : inR v2) (hμ : okM μ) (h : LP3 (wp_X3_mostGain_4 Q) v1 v2 μ) : J cX3_mostGain x E z0 μ 4 [some (rv E 70), some (iv v1), some (iv v2)] [] (MQ (xb x) (QI E z0 Q) (xa x) (xs x) 0 0 (gA E)) := by
  refine LP3_ind (T := fun (v1 : Int) (v2 : Int) (μ : Mem) => inR v1 → inR v2 → okM μ → J cX3_mostGain x E z0 μ 4 [some (rv E 70), some (iv v1), some (iv v2)] [] (MQ (xb x) (QI E z0 Q) (xa x) (xs x) 0 0 (gA E))) (fun X4 hX4 v1 v2 μ h hv1 hv2 hμ => ?_) h hv1 hv2 hμ
  unfold wp_X3_mostGain_4 at h
  refine r_il2 dX3_mostGain_4 ?_
  refine r_al0 dX3_mostGain_5 ?_
  refine r_getI B fg_X3_21 kd_70 (kl kd_70) dX3_mostGain_6 ?_
  refine r_icmp_ge 35 dX3_mostGain_9 rfl hv2 (hμ 70 0) (fun c1 => ?_) (fun c1 => ?_)
  · have h := h.1 c1
    refine r_il1 dX3_mostGain_35 ?_
    exact r_iret B hr hv1 hμ dX3_mostGain_36 h
  · have h := h.2 c1
    refine r_al0 dX3_mostGain_12 ?_
    refine r_getR B 73 fg_X3_18 kd_70 (kl kd_70) (ρo (off := 3) kd_70 rfl) dX3_mostGain_13 ?_
    refine r_il2 dX3_mostGain_16 ?_
    obtain ⟨o2, h⟩ := h
    refine r_iald B kd_73 (kl kd_73) (by decide) o2 dX3_mostGain_17 ?_
    refine r_al0 dX3_mostGain_18 ?_
    refine r_getR B 73 fg_X3_18 kd_70 (kl kd_70) (ρo (off := 3) kd_70 rfl) dX3_mostGain_19 ?_
    refine r_il1 dX3_mostGain_22 ?_
    obtain ⟨o3, h⟩ := h
    refine r_iald B kd_73 (kl kd_73) (by decide) o3 dX3_mostGain_23 ?_
    refine r_icmp_le 29 dX3_mostGain_24 rfl (hμ _ _) (hμ _ _) (fun c4 => ?_) (fun c4 => ?_)
    · have h := h.1 c4
      refine r_inc2 dX3_mostGain_29 rfl ?_
      obtain ⟨o5, h⟩ := h
      refine r_goto 4 dX3_mostGain_32 rfl ?_
      exact J_weak (hX4 v1 (v2 + 1) μ h hv1 o5 hμ) (⟨rfl, ⟨rfl, ⟨rfl, trivial⟩⟩⟩)
    · have h := h.2 c4
      refine r_il2 dX3_mostGain_27 ?_
      refine r_is1 dX3_mostGain_28 rfl ?_
      refine r_inc2 dX3_mostGain_29 rfl ?_
      obtain ⟨o6, h⟩ := h
      refine r_goto 4 dX3_mostGain_32 rfl ?_
      exact J_weak (hX4 v2 (v2 + 1) μ h hv2 o6 hμ) (⟨rfl, ⟨rfl, ⟨rfl, trivial⟩⟩⟩)
set_option maxRecDepth 20000 in
theorem c_X3_mostGain (l : Launch) (E : Gx) {μ : Mem} {Q : Int → Mem → Prop} (hμ : okM μ) (h : wp_X3_mostGain  μ Q) : MT l yX3_mostGain cX3_mostGain 3 (some .int) E 1 0 0 z0 [rv E 70] μ (QI E z0 Q) := by
  refine m_start [some (rv E 70), none, none] (by decide) rfl rfl rfl (fun x hxl hxc hxs B hr hnm => ?_)
  unfold wp_X3_mostGain at h
  refine r_iconst dX3_mostGain_0 ?_
  refine r_is1 dX3_mostGain_1 rfl ?_
  refine r_iconst dX3_mostGain_2 ?_
  refine r_is2 dX3_mostGain_3 rfl ?_
  exact J_weak (t_X3_mostGain_4 B hr (inR_k rfl) (inR_k rfl) hμ h) (⟨rfl, ⟨rfl, ⟨rfl, trivial⟩⟩⟩)
set_option maxRecDepth 20000 in
theorem t_X3_addGains_3 {x : Cx} {E : Gx} (B : Bd x E 3 5 "SlipCovers$Ground") (hr : (xt x).sig.returnType = none) {Q : Mem → Prop} {v1 : Int} {v2 : Int} {v3 : Int} {v4 : Int} {μ : Mem} (hv1 : inR v1) (hv2 : inR v2) (hv3 : inR v3) (hv4 : inR v4) (hμ : okM μ) (h : LP5 (wp_X3_addGains_3 Q) v1 v2 v3 v4 μ) : J cX3_addGains x E z0 μ 3 [some (rv E 70), some (iv v1), some (iv v2), some (iv v3), some (iv v4)] [] (MQ (xb x) (QV E z0 Q) (xa x) (xs x) 0 0 (gA E)) := by
  refine LP5_ind (T := fun (v1 : Int) (v2 : Int) (v3 : Int) (v4 : Int) (μ : Mem) => inR v1 → inR v2 → inR v3 → inR v4 → okM μ → J cX3_addGains x E z0 μ 3 [some (rv E 70), some (iv v1), some (iv v2), some (iv v3), some (iv v4)] [] (MQ (xb x) (QV E z0 Q) (xa x) (xs x) 0 0 (gA E))) (fun X3 hX3 v1 v2 v3 v4 μ h hv1 hv2 hv3 hv4 hμ => ?_) h hv1 hv2 hv3 hv4 hμ
  unfold wp_X3_addGains_3 at h
  refine r_il4 dX3_addGains_3 ?_
  refine r_al0 dX3_addGains_5 ?_
  refine r_getI B fg_X3_21 kd_70 (kl kd_70) dX3_addGains_6 ?_
  refine r_icmp_ge 40 dX3_addGains_9 rfl hv4 (hμ 70 0) (fun c1 => ?_) (fun c1 => ?_)
  · have h := h.1 c1
    exact r_vret B hr hμ dX3_addGains_40 h
  · have h := h.2 c1
    refine r_al0 dX3_addGains_12 ?_
    refine r_il1 dX3_addGains_13 ?_
    refine r_il4 dX3_addGains_14 ?_
    refine r_cVI2 B cb_X3_distance lk_X3_52 cv_X3_distance kd_70 (c_X3_distance (xl x) E hv1 hv4 hμ h) rfl rfl dX3_addGains_16 (fun r3 μ2 hr3 mμ2 h => ?_)
    refine r_il2 dX3_addGains_19 ?_
    refine r_icmp_gt 34 dX3_addGains_20 rfl hr3 hv2 (fun c4 => ?_) (fun c4 => ?_)
    · have h := h.1 c4
      refine r_inc4 dX3_addGains_34 rfl ?_
      obtain ⟨o5, h⟩ := h
      refine r_goto 3 dX3_addGains_37 rfl ?_
      exact J_weak (hX3 v1 v2 v3 (v4 + 1) μ2 h hv1 hv2 hv3 o5 mμ2) (⟨rfl, ⟨rfl, ⟨rfl, ⟨rfl, ⟨rfl, trivial⟩⟩⟩⟩⟩)
    · have h := h.2 c4
      refine r_al0 dX3_addGains_23 ?_
      refine r_getR B 73 fg_X3_18 kd_70 (kl kd_70) (ρo (off := 3) kd_70 rfl) dX3_addGains_24 ?_
      refine r_il4 dX3_addGains_27 ?_
      refine r_dup2 rfl rfl dX3_addGains_29 ?_
      obtain ⟨o6, h⟩ := h
      refine r_iald B kd_73 (kl kd_73) (by decide) o6 dX3_addGains_30 ?_
      refine r_il3 dX3_addGains_31 ?_
      refine r_iadd dX3_addGains_32 ?_
      obtain ⟨o7, h⟩ := h
      refine r_iast B kd_73 (kl kd_73) (by decide) o6 dX3_addGains_33 ?_
      refine n_mem (fun μ8 eμ8 => ?_)
      have h := h μ8 eμ8
      have mμ8 : okM μ8 := eqM eμ8 (okM_sI mμ2 o7)
      refine r_inc4 dX3_addGains_34 rfl ?_
      obtain ⟨o9, h⟩ := h
      refine r_goto 3 dX3_addGains_37 rfl ?_
      exact J_weak (hX3 v1 v2 v3 (v4 + 1) μ8 h hv1 hv2 hv3 o9 mμ8) (⟨rfl, ⟨rfl, ⟨rfl, ⟨rfl, ⟨rfl, trivial⟩⟩⟩⟩⟩)
set_option maxRecDepth 20000 in
theorem c_X3_addGains (l : Launch) (E : Gx) {p0 : Int} {p1 : Int} {p2 : Int} {μ : Mem} {Q : Mem → Prop} (hp0 : inR p0) (hp1 : inR p1) (hp2 : inR p2) (hμ : okM μ) (h : wp_X3_addGains p0 p1 p2 μ Q) : MT l yX3_addGains cX3_addGains 5 none E 3 0 0 z0 [rv E 70, iv p0, iv p1, iv p2] μ (QV E z0 Q) := by
  refine m_start [some (rv E 70), some (iv p0), some (iv p1), some (iv p2), none] (by decide) rfl rfl rfl (fun x hxl hxc hxs B hr hnm => ?_)
  unfold wp_X3_addGains at h
  refine r_iconst dX3_addGains_0 ?_
  refine r_is4 dX3_addGains_1 rfl ?_
  exact J_weak (t_X3_addGains_3 B hr hp0 hp1 hp2 (inR_k rfl) hμ h) (⟨rfl, ⟨rfl, ⟨rfl, ⟨rfl, ⟨rfl, trivial⟩⟩⟩⟩⟩)
set_option maxRecDepth 20000 in
theorem t_X3_fillHolesNear_2 {x : Cx} {E : Gx} (B : Bd x E 4 4 "SlipCovers$Ground") (hr : (xt x).sig.returnType = none) {Q : Mem → Prop} {v1 : Int} {v2 : Int} {v3 : Int} {μ : Mem} (hv1 : inR v1) (hv2 : inR v2) (hv3 : inR v3) (hμ : okM μ) (h : LP4 (wp_X3_fillHolesNear_2 Q) v1 v2 v3 μ) : J cX3_fillHolesNear x E z0 μ 2 [some (rv E 70), some (iv v1), some (iv v2), some (iv v3)] [] (MQ (xb x) (QV E z0 Q) (xa x) (xs x) 0 0 (gA E)) := by
  refine LP4_ind (T := fun (v1 : Int) (v2 : Int) (v3 : Int) (μ : Mem) => inR v1 → inR v2 → inR v3 → okM μ → J cX3_fillHolesNear x E z0 μ 2 [some (rv E 70), some (iv v1), some (iv v2), some (iv v3)] [] (MQ (xb x) (QV E z0 Q) (xa x) (xs x) 0 0 (gA E))) (fun X2 hX2 v1 v2 v3 μ h hv1 hv2 hv3 hμ => ?_) h hv1 hv2 hv3 hμ
  unfold wp_X3_fillHolesNear_2 at h
  refine r_il3 dX3_fillHolesNear_2 ?_
  refine r_al0 dX3_fillHolesNear_3 ?_
  refine r_getI B fg_X3_21 kd_70 (kl kd_70) dX3_fillHolesNear_4 ?_
  refine r_icmp_ge 49 dX3_fillHolesNear_7 rfl hv3 (hμ 70 0) (fun c1 => ?_) (fun c1 => ?_)
  · have h := h.1 c1
    exact r_vret B hr hμ dX3_fillHolesNear_49 h
  · have h := h.2 c1
    refine r_al0 dX3_fillHolesNear_10 ?_
    refine r_getR B 72 fg_X3_15 kd_70 (kl kd_70) (ρo (off := 2) kd_70 rfl) dX3_fillHolesNear_11 ?_
    refine r_il3 dX3_fillHolesNear_14 ?_
    obtain ⟨o2, h⟩ := h
    refine r_iald B kd_72 (kl kd_72) (by decide) o2 dX3_fillHolesNear_15 ?_
    refine r_if_ne 43 dX3_fillHolesNear_16 rfl (hμ _ _) (fun c3 => ?_) (fun c3 => ?_)
    · have h := h.1 c3
      refine r_inc3 dX3_fillHolesNear_43 rfl ?_
      obtain ⟨o4, h⟩ := h
      refine r_goto 2 dX3_fillHolesNear_46 rfl ?_
      exact J_weak (hX2 v1 v2 (v3 + 1) μ h hv1 hv2 o4 hμ) (⟨rfl, ⟨rfl, ⟨rfl, ⟨rfl, trivial⟩⟩⟩⟩)
    · have h := h.2 c3
      refine r_al0 dX3_fillHolesNear_19 ?_
      refine r_il1 dX3_fillHolesNear_20 ?_
      refine r_il3 dX3_fillHolesNear_21 ?_
      refine r_cVI2 B cb_X3_distance lk_X3_52 cv_X3_distance kd_70 (c_X3_distance (xl x) E hv1 hv3 hμ h) rfl rfl dX3_fillHolesNear_22 (fun r6 μ5 hr6 mμ5 h => ?_)
      refine r_il2 dX3_fillHolesNear_25 ?_
      refine r_icmp_gt 43 dX3_fillHolesNear_26 rfl hr6 hv2 (fun c7 => ?_) (fun c7 => ?_)
      · have h := h.1 c7
        refine r_inc3 dX3_fillHolesNear_43 rfl ?_
        obtain ⟨o8, h⟩ := h
        refine r_goto 2 dX3_fillHolesNear_46 rfl ?_
        exact J_weak (hX2 v1 v2 (v3 + 1) μ5 h hv1 hv2 o8 mμ5) (⟨rfl, ⟨rfl, ⟨rfl, ⟨rfl, trivial⟩⟩⟩⟩)
      · have h := h.2 c7
        refine r_al0 dX3_fillHolesNear_29 ?_
        refine r_getR B 72 fg_X3_15 kd_70 (kl kd_70) (ρo (off := 2) kd_70 rfl) dX3_fillHolesNear_30 ?_
        refine r_il3 dX3_fillHolesNear_33 ?_
        refine r_iconst dX3_fillHolesNear_34 ?_
        refine r_iast B kd_72 (kl kd_72) (by decide) o2 dX3_fillHolesNear_35 ?_
        refine n_mem (fun μ9 eμ9 => ?_)
        have h := h μ9 eμ9
        have mμ9 : okM μ9 := eqM eμ9 (okM_sI mμ5 (inR_k rfl))
        refine r_al0 dX3_fillHolesNear_36 ?_
        refine r_il3 dX3_fillHolesNear_37 ?_
        refine r_il2 dX3_fillHolesNear_38 ?_
        refine r_iconst dX3_fillHolesNear_39 ?_
        refine r_cVV3 B cb_X3_addGains lk_X3_94 cv_X3_addGains kd_70 (c_X3_addGains (xl x) E hv3 hv2 (inR_k rfl) mμ9 h) rfl rfl dX3_fillHolesNear_40 (fun μ10 mμ10 h => ?_)
        refine r_inc3 dX3_fillHolesNear_43 rfl ?_
        obtain ⟨o11, h⟩ := h
        refine r_goto 2 dX3_fillHolesNear_46 rfl ?_
        exact J_weak (hX2 v1 v2 (v3 + 1) μ10 h hv1 hv2 o11 mμ10) (⟨rfl, ⟨rfl, ⟨rfl, ⟨rfl, trivial⟩⟩⟩⟩)
set_option maxRecDepth 20000 in
theorem c_X3_fillHolesNear (l : Launch) (E : Gx) {p0 : Int} {p1 : Int} {μ : Mem} {Q : Mem → Prop} (hp0 : inR p0) (hp1 : inR p1) (hμ : okM μ) (h : wp_X3_fillHolesNear p0 p1 μ Q) : MT l yX3_fillHolesNear cX3_fillHolesNear 4 none E 4 0 0 z0 [rv E 70, iv p0, iv p1] μ (QV E z0 Q) := by
  refine m_start [some (rv E 70), some (iv p0), some (iv p1), none] (by decide) rfl rfl rfl (fun x hxl hxc hxs B hr hnm => ?_)
  unfold wp_X3_fillHolesNear at h
  refine r_iconst dX3_fillHolesNear_0 ?_
  refine r_is3 dX3_fillHolesNear_1 rfl ?_
  exact J_weak (t_X3_fillHolesNear_2 B hr hp0 hp1 (inR_k rfl) hμ h) (⟨rfl, ⟨rfl, ⟨rfl, ⟨rfl, trivial⟩⟩⟩⟩)
set_option maxRecDepth 20000 in
theorem t_X3_fill_45 {x : Cx} {E : Gx} (B : Bd x E 5 6 "SlipCovers$Ground") (hr : (xt x).sig.returnType = (some .int)) {Q : Int → Mem → Prop} {v1 : Nat} {v2 : Int} {v3 : Int} {v4 : Int} {μ : Mem} (hv1 : isC v1) (hv2 : inR v2) (hv3 : inR v3) (hv4 : inR v4) (hμ : okM μ) (h : LP5 (wp_X3_fill_45 Q) v1 v2 v3 v4 μ) : J cX3_fill x E z0 μ 45 [some (rv E 70), some (rv E v1), some (iv v2), some (iv v3), some (iv v4), none] [] (MQ (xb x) (QI E z0 Q) (xa x) (xs x) 0 0 (gA E)) := by
  refine LP5_ind (T := fun (v1 : Nat) (v2 : Int) (v3 : Int) (v4 : Int) (μ : Mem) => isC v1 → inR v2 → inR v3 → inR v4 → okM μ → J cX3_fill x E z0 μ 45 [some (rv E 70), some (rv E v1), some (iv v2), some (iv v3), some (iv v4), none] [] (MQ (xb x) (QI E z0 Q) (xa x) (xs x) 0 0 (gA E))) (fun X45 hX45 v1 v2 v3 v4 μ h hv1 hv2 hv3 hv4 hμ => ?_) h hv1 hv2 hv3 hv4 hμ
  unfold wp_X3_fill_45 at h
  refine r_il4 dX3_fill_45 ?_
  refine r_al0 dX3_fill_47 ?_
  refine r_getI B fg_X3_21 kd_70 (kl kd_70) dX3_fill_48 ?_
  refine r_icmp_ge 95 dX3_fill_51 rfl hv4 (hμ 70 0) (fun c3 => ?_) (fun c3 => ?_)
  · have h := h.1 c3
    refine r_il3 dX3_fill_95 ?_
    exact r_iret B hr hv3 hμ dX3_fill_96 h
  · have h := h.2 c3
    refine r_al0 dX3_fill_54 ?_
    refine r_cVI0 B cb_X3_mostGain lk_X3_97 cv_X3_mostGain kd_70 (c_X3_mostGain (xl x) E hμ h) rfl rfl dX3_fill_55 (fun r5 μ4 hr5 mμ4 h => ?_)
    refine r_is5 dX3_fill_58 rfl ?_
    refine r_al0 dX3_fill_60 ?_
    refine r_getR B 73 fg_X3_18 kd_70 (kl kd_70) (ρo (off := 3) kd_70 rfl) dX3_fill_61 ?_
    refine r_il5 dX3_fill_64 ?_
    obtain ⟨o6, h⟩ := h
    refine r_iald B kd_73 (kl kd_73) (by decide) o6 dX3_fill_66 ?_
    refine r_if_ne 73 dX3_fill_67 rfl (mμ4 _ _) (fun c7 => ?_) (fun c7 => ?_)
    · have h := h.1 c7
      refine r_al1 dX3_fill_73 ?_
      refine r_il5 dX3_fill_74 ?_
      refine r_cVV1 B cb_X1_put lk_X3_101 cv_X1_put (hv1).1 (c_X1_put (xl x) E hv1 hr5 mμ4 h) rfl rfl dX3_fill_76 (fun μ8 mμ8 h => ?_)
      refine r_al0 dX3_fill_79 ?_
      refine r_il5 dX3_fill_80 ?_
      refine r_il2 dX3_fill_82 ?_
      refine r_cVV2 B cb_X3_fillHolesNear lk_X3_105 cv_X3_fillHolesNear kd_70 (c_X3_fillHolesNear (xl x) E hr5 hv2 mμ8 h) rfl rfl dX3_fill_83 (fun μ9 mμ9 h => ?_)
      refine r_inc3 dX3_fill_86 rfl ?_
      obtain ⟨o10, h⟩ := h
      refine r_inc4 dX3_fill_89 rfl ?_
      obtain ⟨o11, h⟩ := h
      refine r_goto 45 dX3_fill_92 rfl ?_
      exact J_weak (hX45 v1 v2 (v3 + 1) (v4 + 1) μ9 h hv1 hv2 o10 o11 mμ9) (⟨rfl, ⟨rfl, ⟨rfl, ⟨rfl, ⟨rfl, trivial⟩⟩⟩⟩⟩)
    · have h := h.2 c7
      refine r_goto 95 dX3_fill_70 rfl ?_
      refine r_il3 dX3_fill_95 ?_
      exact r_iret B hr hv3 mμ4 dX3_fill_96 h
set_option maxRecDepth 20000 in
theorem t_X3_fill_10 {x : Cx} {E : Gx} (B : Bd x E 5 6 "SlipCovers$Ground") (hr : (xt x).sig.returnType = (some .int)) {Q : Int → Mem → Prop} {v1 : Nat} {v2 : Int} {v3 : Int} {μ : Mem} (hv1 : isC v1) (hv2 : inR v2) (hv3 : inR v3) (hμ : okM μ) (h : LP4 (wp_X3_fill_10 Q) v1 v2 v3 μ) : J cX3_fill x E z0 μ 10 [some (rv E 70), some (rv E v1), some (iv v2), some (iv v3), none, none] [] (MQ (xb x) (QI E z0 Q) (xa x) (xs x) 0 0 (gA E)) := by
  refine LP4_ind (T := fun (v1 : Nat) (v2 : Int) (v3 : Int) (μ : Mem) => isC v1 → inR v2 → inR v3 → okM μ → J cX3_fill x E z0 μ 10 [some (rv E 70), some (rv E v1), some (iv v2), some (iv v3), none, none] [] (MQ (xb x) (QI E z0 Q) (xa x) (xs x) 0 0 (gA E))) (fun X10 hX10 v1 v2 v3 μ h hv1 hv2 hv3 hμ => ?_) h hv1 hv2 hv3 hμ
  unfold wp_X3_fill_10 at h
  refine r_il3 dX3_fill_10 ?_
  refine r_al0 dX3_fill_11 ?_
  refine r_getI B fg_X3_21 kd_70 (kl kd_70) dX3_fill_12 ?_
  refine r_icmp_ge 40 dX3_fill_15 rfl hv3 (hμ 70 0) (fun c2 => ?_) (fun c2 => ?_)
  · have h := h.1 c2
    refine r_iconst dX3_fill_40 ?_
    refine r_is3 dX3_fill_41 rfl ?_
    refine r_iconst dX3_fill_42 ?_
    refine r_is4 dX3_fill_43 rfl ?_
    exact J_weak (t_X3_fill_45 B hr hv1 hv2 (inR_k rfl) (inR_k rfl) hμ h) (⟨rfl, ⟨rfl, ⟨rfl, ⟨rfl, ⟨rfl, trivial⟩⟩⟩⟩⟩)
  · have h := h.2 c2
    refine r_al0 dX3_fill_18 ?_
    refine r_getR B 72 fg_X3_15 kd_70 (kl kd_70) (ρo (off := 2) kd_70 rfl) dX3_fill_19 ?_
    refine r_il3 dX3_fill_22 ?_
    obtain ⟨o12, h⟩ := h
    refine r_iald B kd_72 (kl kd_72) (by decide) o12 dX3_fill_23 ?_
    refine r_if_ne 34 dX3_fill_24 rfl (hμ _ _) (fun c13 => ?_) (fun c13 => ?_)
    · have h := h.1 c13
      refine r_inc3 dX3_fill_34 rfl ?_
      obtain ⟨o14, h⟩ := h
      refine r_goto 10 dX3_fill_37 rfl ?_
      exact J_weak (hX10 v1 v2 (v3 + 1) μ h hv1 hv2 o14 hμ) (⟨rfl, ⟨rfl, ⟨rfl, ⟨rfl, trivial⟩⟩⟩⟩)
    · have h := h.2 c13
      refine r_al0 dX3_fill_27 ?_
      refine r_il3 dX3_fill_28 ?_
      refine r_il2 dX3_fill_29 ?_
      refine r_iconst dX3_fill_30 ?_
      refine r_cVV3 B cb_X3_addGains lk_X3_94 cv_X3_addGains kd_70 (c_X3_addGains (xl x) E hv3 hv2 (inR_k rfl) hμ h) rfl rfl dX3_fill_31 (fun μ15 mμ15 h => ?_)
      refine r_inc3 dX3_fill_34 rfl ?_
      obtain ⟨o16, h⟩ := h
      refine r_goto 10 dX3_fill_37 rfl ?_
      exact J_weak (hX10 v1 v2 (v3 + 1) μ15 h hv1 hv2 o16 mμ15) (⟨rfl, ⟨rfl, ⟨rfl, ⟨rfl, trivial⟩⟩⟩⟩)
set_option maxRecDepth 20000 in
theorem c_X3_fill (l : Launch) (E : Gx) {p0 : Nat} {p1 : Int} {μ : Mem} {Q : Int → Mem → Prop} (hp0 : isC p0) (hp1 : inR p1) (hμ : okM μ) (h : wp_X3_fill p0 p1 μ Q) : MT l yX3_fill cX3_fill 6 (some .int) E 5 0 0 z0 [rv E 70, rv E p0, iv p1] μ (QI E z0 Q) := by
  refine m_start [some (rv E 70), some (rv E p0), some (iv p1), none, none, none] (by decide) rfl rfl rfl (fun x hxl hxc hxs B hr hnm => ?_)
  unfold wp_X3_fill at h
  refine r_al0 dX3_fill_0 ?_
  refine r_getR B 73 fg_X3_18 kd_70 (kl kd_70) (ρo (off := 3) kd_70 rfl) dX3_fill_1 ?_
  refine r_iconst dX3_fill_4 ?_
  refine r_cSV2 B cb_J7_fill_53178 lk_X3_59 cs_J7_fill_53178 (c_J7_fill_53178 (xl x) E kd_73 (inR_k rfl) hμ h) rfl rfl dX3_fill_5 (fun μ1 mμ1 h => ?_)
  refine r_iconst dX3_fill_8 ?_
  refine r_is3 dX3_fill_9 rfl ?_
  exact J_weak (t_X3_fill_10 B hr hp0 hp1 (inR_k rfl) mμ1 h) (⟨rfl, ⟨rfl, ⟨rfl, ⟨rfl, trivial⟩⟩⟩⟩)
set_option maxRecDepth 20000 in
theorem t_X3_weed_10 {x : Cx} {E : Gx} (B : Bd x E 4 5 "SlipCovers$Ground") (hr : (xt x).sig.returnType = (some .int)) {Q : Int → Mem → Prop} {v1 : Nat} {v2 : Int} {v3 : Int} {v4 : Int} {μ : Mem} (hv1 : isC v1) (hv2 : inR v2) (hv3 : inR v3) (hv4 : inR v4) (hμ : okM μ) (h : LP5 (wp_X3_weed_10 Q) v1 v2 v3 v4 μ) : J cX3_weed x E z0 μ 10 [some (rv E 70), some (rv E v1), some (iv v2), some (iv v3), some (iv v4)] [] (MQ (xb x) (QI E z0 Q) (xa x) (xs x) 0 0 (gA E)) := by
  refine LP5_ind (T := fun (v1 : Nat) (v2 : Int) (v3 : Int) (v4 : Int) (μ : Mem) => isC v1 → inR v2 → inR v3 → inR v4 → okM μ → J cX3_weed x E z0 μ 10 [some (rv E 70), some (rv E v1), some (iv v2), some (iv v3), some (iv v4)] [] (MQ (xb x) (QI E z0 Q) (xa x) (xs x) 0 0 (gA E))) (fun X10 hX10 v1 v2 v3 v4 μ h hv1 hv2 hv3 hv4 hμ => ?_) h hv1 hv2 hv3 hv4 hμ
  unfold wp_X3_weed_10 at h
  refine r_il4 dX3_weed_10 ?_
  refine r_if_lt 57 dX3_weed_12 rfl hv4 (fun c3 => ?_) (fun c3 => ?_)
  · have h := h.1 c3
    refine r_il3 dX3_weed_57 ?_
    exact r_iret B hr hv3 hμ dX3_weed_58 h
  · have h := h.2 c3
    refine r_al1 dX3_weed_15 ?_
    refine r_il4 dX3_weed_16 ?_
    refine r_cVI1 B cb_X1_holds lk_X3_65 cv_X1_holds (hv1).1 (c_X1_holds (xl x) E hv1 hv4 hμ h) rfl rfl dX3_weed_18 (fun r5 μ4 hr5 mμ4 h => ?_)
    refine r_if_eq 51 dX3_weed_21 rfl hr5 (fun c6 => ?_) (fun c6 => ?_)
    · have h := h.1 c6
      refine r_inc4 dX3_weed_51 rfl ?_
      obtain ⟨o7, h⟩ := h
      refine r_goto 10 dX3_weed_54 rfl ?_
      exact J_weak (hX10 v1 v2 v3 (v4 + (-1)) μ4 h hv1 hv2 hv3 o7 mμ4) (⟨rfl, ⟨rfl, ⟨rfl, ⟨rfl, ⟨rfl, trivial⟩⟩⟩⟩⟩)
    · have h := h.2 c6
      refine r_al0 dX3_weed_24 ?_
      refine r_il4 dX3_weed_25 ?_
      refine r_il2 dX3_weed_27 ?_
      refine r_cVI2 B cb_X3_onlyBy lk_X3_72 cv_X3_onlyBy kd_70 (c_X3_onlyBy (xl x) E hv4 hv2 mμ4 h) rfl rfl dX3_weed_28 (fun r9 μ8 hr9 mμ8 h => ?_)
      refine r_if_ne 51 dX3_weed_31 rfl hr9 (fun c10 => ?_) (fun c10 => ?_)
      · have h := h.1 c10
        refine r_inc4 dX3_weed_51 rfl ?_
        obtain ⟨o11, h⟩ := h
        refine r_goto 10 dX3_weed_54 rfl ?_
        exact J_weak (hX10 v1 v2 v3 (v4 + (-1)) μ8 h hv1 hv2 hv3 o11 mμ8) (⟨rfl, ⟨rfl, ⟨rfl, ⟨rfl, ⟨rfl, trivial⟩⟩⟩⟩⟩)
      · have h := h.2 c10
        refine r_al1 dX3_weed_34 ?_
        refine r_il4 dX3_weed_35 ?_
        refine r_cVV1 B cb_X1_drop lk_X3_109 cv_X1_drop (hv1).1 (c_X1_drop (xl x) E hv1 hv4 mμ8 h) rfl rfl dX3_weed_37 (fun μ12 mμ12 h => ?_)
        refine r_al0 dX3_weed_40 ?_
        refine r_il4 dX3_weed_41 ?_
        refine r_il2 dX3_weed_43 ?_
        refine r_iconst dX3_weed_44 ?_
        refine r_cVV3 B cb_X3_addTimes lk_X3_69 cv_X3_addTimes kd_70 (c_X3_addTimes (xl x) E hv4 hv2 (inR_k rfl) mμ12 h) rfl rfl dX3_weed_45 (fun μ13 mμ13 h => ?_)
        refine r_inc3 dX3_weed_48 rfl ?_
        obtain ⟨o14, h⟩ := h
        refine r_inc4 dX3_weed_51 rfl ?_
        obtain ⟨o15, h⟩ := h
        refine r_goto 10 dX3_weed_54 rfl ?_
        exact J_weak (hX10 v1 v2 (v3 + 1) (v4 + (-1)) μ13 h hv1 hv2 o14 o15 mμ13) (⟨rfl, ⟨rfl, ⟨rfl, ⟨rfl, ⟨rfl, trivial⟩⟩⟩⟩⟩)
set_option maxRecDepth 20000 in
theorem c_X3_weed (l : Launch) (E : Gx) {p0 : Nat} {p1 : Int} {μ : Mem} {Q : Int → Mem → Prop} (hp0 : isC p0) (hp1 : inR p1) (hμ : okM μ) (h : wp_X3_weed p0 p1 μ Q) : MT l yX3_weed cX3_weed 5 (some .int) E 4 0 0 z0 [rv E 70, rv E p0, iv p1] μ (QI E z0 Q) := by
  refine m_start [some (rv E 70), some (rv E p0), some (iv p1), none, none] (by decide) rfl rfl rfl (fun x hxl hxc hxs B hr hnm => ?_)
  unfold wp_X3_weed at h
  refine r_iconst dX3_weed_0 ?_
  refine r_is3 dX3_weed_1 rfl ?_
  refine r_al0 dX3_weed_2 ?_
  refine r_getI B fg_X3_21 kd_70 (kl kd_70) dX3_weed_3 ?_
  refine r_iconst dX3_weed_6 ?_
  refine r_isub dX3_weed_7 ?_
  obtain ⟨o2, h⟩ := h
  refine n_topi (fun x1 ex1 => ?_)
  have h := h x1 ex1
  refine r_is4 dX3_weed_8 rfl ?_
  exact J_weak (t_X3_weed_10 B hr hp0 hp1 (inR_k rfl) (eqR ex1 o2) hμ h) (⟨rfl, ⟨rfl, ⟨rfl, ⟨rfl, ⟨rfl, trivial⟩⟩⟩⟩⟩)
set_option maxRecDepth 20000 in
theorem c_X4_forget (l : Launch) (E : Gx) {μ : Mem} {Q : Mem → Prop} (hμ : okM μ) (h : wp_X4_forget  μ Q) : MT l yX4_forget cX4_forget 1 none E 1 0 0 z0 [rv E 27] μ (QV E z0 Q) := by
  refine m_start [some (rv E 27)] (by decide) rfl rfl rfl (fun x hxl hxc hxs B hr hnm => ?_)
  unfold wp_X4_forget at h
  refine r_al0 dX4_forget_0 ?_
  refine r_iconst dX4_forget_1 ?_
  refine r_putI B fg_X4_22 fp_4_3 kd_27 (kl kd_27) dX4_forget_2 ?_
  refine n_mem (fun μ1 eμ1 => ?_)
  have h := h μ1 eμ1
  have mμ1 : okM μ1 := eqM eμ1 (okM_sI hμ (inR_k rfl))
  exact r_vret B hr mμ1 dX4_forget_5 h
set_option maxRecDepth 20000 in
theorem t_X4_keep_45 {x : Cx} {E : Gx} (B : Bd x E 5 3 "SlipCovers$History") (hr : (xt x).sig.returnType = none) {Q : Mem → Prop} {s1 : Int} {μ : Mem} (hs1 : inR s1) (hμ : okM μ) (h : wp_X4_keep_45 Q s1 μ) : J cX4_keep x E z0 μ 45 [some (rv E 27), none, none] [iv s1, rv E 27] (MQ (xb x) (QV E z0 Q) (xa x) (xs x) 0 0 (gA E)) := by
  unfold wp_X4_keep_45 at h
  refine r_putI B fg_X4_26 fp_4_2 kd_27 (kl kd_27) dX4_keep_45 ?_
  refine n_mem (fun μ7 eμ7 => ?_)
  have h := h μ7 eμ7
  have mμ7 : okM μ7 := eqM eμ7 (okM_sI hμ hs1)
  refine r_al0 dX4_keep_48 ?_
  refine r_al0 dX4_keep_49 ?_
  refine r_getI B fg_X4_22 kd_27 (kl kd_27) dX4_keep_50 ?_
  refine r_iconst dX4_keep_53 ?_
  refine r_iadd dX4_keep_54 ?_
  refine r_bipush dX4_keep_55 (by decide) ?_
  obtain ⟨o8, h⟩ := h
  refine r_mmin B lk_X4_33 o8 (inR_k rfl) rfl dX4_keep_57 ?_
  refine r_putI B fg_X4_22 fp_4_3 kd_27 (kl kd_27) dX4_keep_60 ?_
  refine n_mem (fun μ9 eμ9 => ?_)
  have h := h μ9 eμ9
  have mμ9 : okM μ9 := eqM eμ9 (okM_sI mμ7 (inR_min o8 (inR_k rfl)))
  exact r_vret B hr mμ9 dX4_keep_63 h
set_option maxRecDepth 20000 in
theorem c_X4_keep (l : Launch) (E : Gx) {p0 : Int} {p1 : Nat} {μ : Mem} {Q : Mem → Prop} (hp0 : inR p0) (hp1 : isC p1) (hμ : okM μ) (h : wp_X4_keep p0 p1 μ Q) : MT l yX4_keep cX4_keep 3 none E 5 0 0 z0 [rv E 27, iv p0, rv E p1] μ (QV E z0 Q) := by
  refine m_start [some (rv E 27), some (iv p0), some (rv E p1)] (by decide) rfl rfl rfl (fun x hxl hxc hxs B hr hnm => ?_)
  unfold wp_X4_keep at h
  refine r_al0 dX4_keep_0 ?_
  refine r_getR B 28 fg_X4_11 kd_27 (kl kd_27) (ρo (off := 1) kd_27 rfl) dX4_keep_1 ?_
  refine r_al0 dX4_keep_4 ?_
  refine r_getI B fg_X4_26 kd_27 (kl kd_27) dX4_keep_5 ?_
  obtain ⟨o1, h⟩ := h
  refine r_aald B _ kd_28 (kl kd_28) (by decide) o1 (ρa (b := 30) kd_28 rfl) dX4_keep_8 ?_
  refine r_al2 dX4_keep_9 ?_
  refine r_cVV1 B cb_X1_copy lk_X4_29 cv_X1_copy ((isC_pastI o1)).1 (c_X1_copy (xl x) E (isC_pastI o1) hp1 hμ h) rfl rfl dX4_keep_10 (fun μ2 mμ2 h => ?_)
  refine r_al0 dX4_keep_13 ?_
  refine r_getR B 29 fg_X4_17 kd_27 (kl kd_27) (ρo (off := 2) kd_27 rfl) dX4_keep_14 ?_
  refine r_al0 dX4_keep_17 ?_
  refine r_getI B fg_X4_26 kd_27 (kl kd_27) dX4_keep_18 ?_
  refine r_il1 dX4_keep_21 ?_
  obtain ⟨o3, h⟩ := h
  refine r_iast B kd_29 (kl kd_29) (by decide) o3 dX4_keep_22 ?_
  refine n_mem (fun μ4 eμ4 => ?_)
  have h := h μ4 eμ4
  have mμ4 : okM μ4 := eqM eμ4 (okM_sI mμ2 hp0)
  refine r_al0 dX4_keep_23 ?_
  refine r_al0 dX4_keep_24 ?_
  refine r_getI B fg_X4_26 kd_27 (kl kd_27) dX4_keep_25 ?_
  refine r_iconst dX4_keep_28 ?_
  refine r_iadd dX4_keep_29 ?_
  refine r_bipush dX4_keep_30 (by decide) ?_
  obtain ⟨o5, h⟩ := h
  refine r_icmp_ge 44 dX4_keep_32 rfl o5 (inR_k rfl) (fun c6 => ?_) (fun c6 => ?_)
  · have h := h.1 c6
    refine r_iconst dX4_keep_44 ?_
    exact J_weak (t_X4_keep_45 B hr (inR_k rfl) mμ4 h) (⟨rfl, trivial⟩)
  · have h := h.2 c6
    refine r_al0 dX4_keep_35 ?_
    refine r_getI B fg_X4_26 kd_27 (kl kd_27) dX4_keep_36 ?_
    refine r_iconst dX4_keep_39 ?_
    refine r_iadd dX4_keep_40 ?_
    refine r_goto 45 dX4_keep_41 rfl ?_
    obtain ⟨o10, h⟩ := h
    exact J_weak (t_X4_keep_45 B hr o10 mμ4 h) (⟨rfl, trivial⟩)
set_option maxRecDepth 20000 in
theorem t_X4_giveBack_28 {x : Cx} {E : Gx} (B : Bd x E 5 2 "SlipCovers$History") (hr : (xt x).sig.returnType = none) {Q : Mem → Prop} {s1 : Int} {μ : Mem} (hs1 : inR s1) (hμ : okM μ) (h : wp_X4_giveBack_28 Q s1 μ) : J cX4_giveBack x E z0 μ 28 [some (rv E 27), some (rv E 22)] [iv s1, rv E 27] (MQ (xb x) (QV E z0 Q) (xa x) (xs x) 0 0 (gA E)) := by
  unfold wp_X4_giveBack_28 at h
  refine r_putI B fg_X4_26 fp_4_2 kd_27 (kl kd_27) dX4_giveBack_28 ?_
  refine n_mem (fun μ3 eμ3 => ?_)
  have h := h μ3 eμ3
  have mμ3 : okM μ3 := eqM eμ3 (okM_sI hμ hs1)
  refine r_al0 dX4_giveBack_31 ?_
  refine r_dup rfl dX4_giveBack_32 ?_
  refine r_getI B fg_X4_22 kd_27 (kl kd_27) dX4_giveBack_33 ?_
  refine r_iconst dX4_giveBack_36 ?_
  refine r_isub dX4_giveBack_37 ?_
  obtain ⟨o4, h⟩ := h
  refine r_putI B fg_X4_22 fp_4_3 kd_27 (kl kd_27) dX4_giveBack_38 ?_
  refine n_mem (fun μ5 eμ5 => ?_)
  have h := h μ5 eμ5
  have mμ5 : okM μ5 := eqM eμ5 (okM_sI mμ3 o4)
  refine r_al1 dX4_giveBack_41 ?_
  refine r_al0 dX4_giveBack_42 ?_
  refine r_getR B 29 fg_X4_17 kd_27 (kl kd_27) (ρo (off := 2) kd_27 rfl) dX4_giveBack_43 ?_
  refine r_al0 dX4_giveBack_46 ?_
  refine r_getI B fg_X4_26 kd_27 (kl kd_27) dX4_giveBack_47 ?_
  obtain ⟨o6, h⟩ := h
  refine r_iald B kd_29 (kl kd_29) (by decide) o6 dX4_giveBack_50 ?_
  obtain ⟨o7, h⟩ := h
  refine r_aald B _ kd_22 (kl kd_22) (by decide) o7 (ρa (b := 83) kd_22 rfl) dX4_giveBack_51 ?_
  refine r_al0 dX4_giveBack_52 ?_
  refine r_getR B 28 fg_X4_11 kd_27 (kl kd_27) (ρo (off := 1) kd_27 rfl) dX4_giveBack_53 ?_
  refine r_al0 dX4_giveBack_56 ?_
  refine r_getI B fg_X4_26 kd_27 (kl kd_27) dX4_giveBack_57 ?_
  obtain ⟨o8, h⟩ := h
  refine r_aald B _ kd_28 (kl kd_28) (by decide) o8 (ρa (b := 30) kd_28 rfl) dX4_giveBack_60 ?_
  refine r_cVV1 B cb_X1_copy lk_X4_29 cv_X1_copy ((isC_codesI o7)).1 (c_X1_copy (xl x) E (isC_codesI o7) (isC_pastI o8) mμ5 h) rfl rfl dX4_giveBack_61 (fun μ9 mμ9 h => ?_)
  exact r_vret B hr mμ9 dX4_giveBack_64 h
set_option maxRecDepth 20000 in
theorem c_X4_giveBack (l : Launch) (E : Gx) {μ : Mem} {Q : Mem → Prop} (hμ : okM μ) (h : wp_X4_giveBack  μ Q) : MT l yX4_giveBack cX4_giveBack 2 none E 5 0 0 z0 [rv E 27, rv E 22] μ (QV E z0 Q) := by
  refine m_start [some (rv E 27), some (rv E 22)] (by decide) rfl rfl rfl (fun x hxl hxc hxs B hr hnm => ?_)
  unfold wp_X4_giveBack at h
  refine r_al0 dX4_giveBack_0 ?_
  refine r_getI B fg_X4_22 kd_27 (kl kd_27) dX4_giveBack_1 ?_
  refine r_iconst dX4_giveBack_4 ?_
  refine r_icmp_ge 9 dX4_giveBack_5 rfl (hμ 27 3) (inR_k rfl) (fun c1 => ?_) (fun c1 => ?_)
  · have h := h.1 c1
    refine r_al0 dX4_giveBack_9 ?_
    refine r_al0 dX4_giveBack_10 ?_
    refine r_getI B fg_X4_26 kd_27 (kl kd_27) dX4_giveBack_11 ?_
    refine r_if_le 26 dX4_giveBack_14 rfl (hμ 27 2) (fun c2 => ?_) (fun c2 => ?_)
    · have h := h.1 c2
      refine r_bipush dX4_giveBack_26 (by decide) ?_
      exact J_weak (t_X4_giveBack_28 B hr (inR_k rfl) hμ h) (⟨rfl, ⟨rfl, trivial⟩⟩)
    · have h := h.2 c2
      refine r_al0 dX4_giveBack_17 ?_
      refine r_getI B fg_X4_26 kd_27 (kl kd_27) dX4_giveBack_18 ?_
      refine r_iconst dX4_giveBack_21 ?_
      refine r_isub dX4_giveBack_22 ?_
      refine r_goto 28 dX4_giveBack_23 rfl ?_
      obtain ⟨o10, h⟩ := h
      exact J_weak (t_X4_giveBack_28 B hr o10 hμ h) (⟨rfl, ⟨rfl, trivial⟩⟩)
  · have h := h.2 c1
    exact r_vret B hr hμ dX4_giveBack_8 h
set_option maxRecDepth 20000 in
theorem c_X5_hasRoom (l : Launch) (E : Gx) {μ : Mem} {Q : Int → Mem → Prop} (hμ : okM μ) (h : wp_X5_hasRoom  μ Q) : MT l yX5_hasRoom cX5_hasRoom 1 (some .boolean) E 1 0 0 z0 [rv E 1] μ (QI E z0 Q) := by
  refine m_start [some (rv E 1)] (by decide) rfl rfl rfl (fun x hxl hxc hxs B hr hnm => ?_)
  unfold wp_X5_hasRoom at h
  refine r_al0 dX5_hasRoom_0 ?_
  refine r_getI B fg_X5_28 kd_1 (kl kd_1) dX5_hasRoom_1 ?_
  refine r_bipush dX5_hasRoom_4 (by decide) ?_
  refine r_iadd dX5_hasRoom_6 ?_
  refine r_sipush dX5_hasRoom_7 (by decide) ?_
  obtain ⟨o1, h⟩ := h
  refine r_icmp_gt 17 dX5_hasRoom_10 rfl o1 (inR_k rfl) (fun c2 => ?_) (fun c2 => ?_)
  · have h := h.1 c2
    refine r_iconst dX5_hasRoom_17 ?_
    exact r_zret B hr (Or.inl rfl) hμ dX5_hasRoom_18 h
  · have h := h.2 c2
    refine r_iconst dX5_hasRoom_13 ?_
    refine r_goto 18 dX5_hasRoom_14 rfl ?_
    exact r_zret B hr (Or.inr rfl) hμ dX5_hasRoom_18 h
set_option maxRecDepth 20000 in
theorem t_X5_append_15 {x : Cx} {E : Gx} (B : Bd x E 1 3 "SlipCovers$Reader") (hr : (xt x).sig.returnType = none) {Q : Mem → Prop} {v1 : Int} {v2 : Int} {μ : Mem} (hv1 : inR v1) (hv2 : inR v2) (hμ : okM μ) (h : LP3 (wp_X5_append_15 Q) v1 v2 μ) : J cX5_append x E z0 μ 15 [some (rv E 1), some (iv v1), some (iv v2)] [] (MQ (xb x) (QV E z0 Q) (xa x) (xs x) 0 0 (gA E)) := by
  refine LP3_ind (T := fun (v1 : Int) (v2 : Int) (μ : Mem) => inR v1 → inR v2 → okM μ → J cX5_append x E z0 μ 15 [some (rv E 1), some (iv v1), some (iv v2)] [] (MQ (xb x) (QV E z0 Q) (xa x) (xs x) 0 0 (gA E))) (fun X15 hX15 v1 v2 μ h hv1 hv2 hμ => ?_) h hv1 hv2 hμ
  unfold wp_X5_append_15 at h
  refine r_il2 dX5_append_15 ?_
  refine r_iconst dX5_append_16 ?_
  refine r_icmp_ge 50 dX5_append_17 rfl hv2 (inR_k rfl) (fun c3 => ?_) (fun c3 => ?_)
  · have h := h.1 c3
    refine r_al0 dX5_append_50 ?_
    refine r_dup rfl dX5_append_51 ?_
    refine r_getI B fg_X5_28 kd_1 (kl kd_1) dX5_append_52 ?_
    refine r_iconst dX5_append_55 ?_
    refine r_iadd dX5_append_56 ?_
    obtain ⟨o4, h⟩ := h
    refine r_putI B fg_X5_28 fp_5_1 kd_1 (kl kd_1) dX5_append_57 ?_
    refine n_mem (fun μ5 eμ5 => ?_)
    have h := h μ5 eμ5
    have mμ5 : okM μ5 := eqM eμ5 (okM_sI hμ o4)
    exact r_vret B hr mμ5 dX5_append_60 h
  · have h := h.2 c3
    refine r_al0 dX5_append_20 ?_
    refine r_getR B 2 fg_X5_11 kd_1 (kl kd_1) (ρo (off := 1) kd_1 rfl) dX5_append_21 ?_
    refine r_al0 dX5_append_24 ?_
    refine r_getI B fg_X5_28 kd_1 (kl kd_1) dX5_append_25 ?_
    refine r_il2 dX5_append_28 ?_
    refine r_iadd dX5_append_29 ?_
    refine r_il1 dX5_append_30 ?_
    refine r_bipush dX5_append_31 (by decide) ?_
    refine r_bipush dX5_append_33 (by decide) ?_
    refine r_il2 dX5_append_35 ?_
    refine r_imul dX5_append_36 ?_
    refine r_isub dX5_append_37 ?_
    refine r_iushr dX5_append_38 ?_
    refine r_sipush dX5_append_39 (by decide) ?_
    refine r_iand dX5_append_42 ?_
    obtain ⟨o6, h⟩ := h
    refine r_iast B kd_2 (kl kd_2) (by decide) o6 dX5_append_43 ?_
    refine n_mem (fun μ7 eμ7 => ?_)
    have h := h μ7 eμ7
    have mμ7 : okM μ7 := eqM eμ7 (okM_sI hμ (inR_t _))
    refine r_inc2 dX5_append_44 rfl ?_
    obtain ⟨o8, h⟩ := h
    refine r_goto 15 dX5_append_47 rfl ?_
    exact J_weak (hX15 v1 (v2 + 1) μ7 h hv1 o8 mμ7) (⟨rfl, ⟨rfl, ⟨rfl, trivial⟩⟩⟩)
set_option maxRecDepth 20000 in
theorem c_X5_append (l : Launch) (E : Gx) {p0 : Int} {μ : Mem} {Q : Mem → Prop} (hp0 : inR p0) (hμ : okM μ) (h : wp_X5_append p0 μ Q) : MT l yX5_append cX5_append 3 none E 1 0 0 z0 [rv E 1, iv p0] μ (QV E z0 Q) := by
  refine m_start [some (rv E 1), some (iv p0), none] (by decide) rfl rfl rfl (fun x hxl hxc hxs B hr hnm => ?_)
  unfold wp_X5_append at h
  refine r_al0 dX5_append_0 ?_
  refine r_getI B fg_X5_28 kd_1 (kl kd_1) dX5_append_1 ?_
  refine r_iconst dX5_append_4 ?_
  refine r_iadd dX5_append_5 ?_
  refine r_sipush dX5_append_6 (by decide) ?_
  obtain ⟨o1, h⟩ := h
  refine r_icmp_le 13 dX5_append_9 rfl o1 (inR_k rfl) (fun c2 => ?_) (fun c2 => ?_)
  · have h := h.1 c2
    refine r_iconst dX5_append_13 ?_
    refine r_is2 dX5_append_14 rfl ?_
    exact J_weak (t_X5_append_15 B hr hp0 (inR_k rfl) hμ h) (⟨rfl, ⟨rfl, ⟨rfl, trivial⟩⟩⟩)
  · have h := h.2 c2
    exact r_vret B hr hμ dX5_append_12 h
set_option maxRecDepth 20000 in
theorem c_X5_fail (l : Launch) (E : Gx) {p0 : Int} {μ : Mem} {Q : Int → Mem → Prop} (hp0 : inR p0) (hμ : okM μ) (h : wp_X5_fail p0 μ Q) : MT l yX5_fail cX5_fail 2 (some .boolean) E 1 0 0 z0 [rv E 1, iv p0] μ (QI E z0 Q) := by
  refine m_start [some (rv E 1), some (iv p0)] (by decide) rfl rfl rfl (fun x hxl hxc hxs B hr hnm => ?_)
  unfold wp_X5_fail at h
  refine r_al0 dX5_fail_0 ?_
  refine r_il1 dX5_fail_1 ?_
  refine r_putI B fg_X5_47 fp_5_6 kd_1 (kl kd_1) dX5_fail_2 ?_
  refine n_mem (fun μ1 eμ1 => ?_)
  have h := h μ1 eμ1
  have mμ1 : okM μ1 := eqM eμ1 (okM_sI hμ hp0)
  refine r_iconst dX5_fail_5 ?_
  exact r_zret B hr (Or.inl rfl) mμ1 dX5_fail_6 h
set_option maxRecDepth 20000 in
theorem c_X5_singleDigit (l : Launch) (E : Gx) {μ : Mem} {Q : Int → Mem → Prop} (hμ : okM μ) (h : wp_X5_singleDigit  μ Q) : MT l yX5_singleDigit cX5_singleDigit 1 (some .int) E 1 0 0 z0 [rv E 1] μ (QI E z0 Q) := by
  refine m_start [some (rv E 1)] (by decide) rfl rfl rfl (fun x hxl hxc hxs B hr hnm => ?_)
  unfold wp_X5_singleDigit at h
  refine r_al0 dX5_singleDigit_0 ?_
  refine r_getI B fg_X5_44 kd_1 (kl kd_1) dX5_singleDigit_1 ?_
  refine r_al0 dX5_singleDigit_4 ?_
  refine r_getI B fg_X5_106 kd_1 (kl kd_1) dX5_singleDigit_5 ?_
  refine r_isub dX5_singleDigit_8 ?_
  refine r_iconst dX5_singleDigit_9 ?_
  obtain ⟨o1, h⟩ := h
  refine r_icmp_ne 28 dX5_singleDigit_10 rfl o1 (inR_k rfl) (fun c2 => ?_) (fun c2 => ?_)
  · have h := h.1 c2
    refine r_iconst dX5_singleDigit_28 ?_
    exact r_iret B hr (inR_k rfl) hμ dX5_singleDigit_29 h
  · have h := h.2 c2
    refine r_al0 dX5_singleDigit_13 ?_
    refine r_getR B 2 fg_X5_11 kd_1 (kl kd_1) (ρo (off := 1) kd_1 rfl) dX5_singleDigit_14 ?_
    refine r_al0 dX5_singleDigit_17 ?_
    refine r_getI B fg_X5_106 kd_1 (kl kd_1) dX5_singleDigit_18 ?_
    obtain ⟨o3, h⟩ := h
    refine r_iald B kd_2 (kl kd_2) (by decide) o3 dX5_singleDigit_21 ?_
    refine r_bipush dX5_singleDigit_22 (by decide) ?_
    refine r_isub dX5_singleDigit_24 ?_
    refine r_goto 29 dX5_singleDigit_25 rfl ?_
    obtain ⟨o4, h⟩ := h
    exact r_iret B hr o4 hμ dX5_singleDigit_29 h
set_option maxRecDepth 20000 in
theorem c_X5_isLetter (l : Launch) (E : Gx) {p0 : Int} {μ : Mem} {Q : Int → Mem → Prop} (hp0 : inR p0) (hμ : okM μ) (h : wp_X5_isLetter p0 μ Q) : MT l yX5_isLetter cX5_isLetter 1 (some .boolean) E 1 0 0 z0 [iv p0] μ (QI E z0 Q) := by
  refine m_start [some (iv p0)] (by decide) rfl rfl rfl (fun x hxl hxc hxs B hr hnm => ?_)
  unfold wp_X5_isLetter at h
  refine r_il0 dX5_isLetter_0 ?_
  refine r_bipush dX5_isLetter_1 (by decide) ?_
  refine r_icmp_lt 16 dX5_isLetter_3 rfl hp0 (inR_k rfl) (fun c1 => ?_) (fun c1 => ?_)
  · have h := h.1 c1
    refine r_iconst dX5_isLetter_16 ?_
    exact r_zret B hr (Or.inl rfl) hμ dX5_isLetter_17 h
  · have h := h.2 c1
    refine r_il0 dX5_isLetter_6 ?_
    refine r_bipush dX5_isLetter_7 (by decide) ?_
    refine r_icmp_gt 16 dX5_isLetter_9 rfl hp0 (inR_k rfl) (fun c2 => ?_) (fun c2 => ?_)
    · have h := h.1 c2
      refine r_iconst dX5_isLetter_16 ?_
      exact r_zret B hr (Or.inl rfl) hμ dX5_isLetter_17 h
    · have h := h.2 c2
      refine r_iconst dX5_isLetter_12 ?_
      refine r_goto 17 dX5_isLetter_13 rfl ?_
      exact r_zret B hr (Or.inr rfl) hμ dX5_isLetter_17 h
set_option maxRecDepth 20000 in
theorem t_X5_endOfLetters_5 {x : Cx} {E : Gx} (B : Bd x E 2 2 "SlipCovers$Reader") (hr : (xt x).sig.returnType = (some .int)) {Q : Int → Mem → Prop} {v1 : Int} {μ : Mem} (hv1 : inR v1) (hμ : okM μ) (h : LP2 (wp_X5_endOfLetters_5 Q) v1 μ) : J cX5_endOfLetters x E z0 μ 5 [some (rv E 1), some (iv v1)] [] (MQ (xb x) (QI E z0 Q) (xa x) (xs x) 0 0 (gA E)) := by
  refine LP2_ind (T := fun (v1 : Int) (μ : Mem) => inR v1 → okM μ → J cX5_endOfLetters x E z0 μ 5 [some (rv E 1), some (iv v1)] [] (MQ (xb x) (QI E z0 Q) (xa x) (xs x) 0 0 (gA E))) (fun X5 hX5 v1 μ h hv1 hμ => ?_) h hv1 hμ
  unfold wp_X5_endOfLetters_5 at h
  refine r_il1 dX5_endOfLetters_5 ?_
  refine r_al0 dX5_endOfLetters_6 ?_
  refine r_getI B fg_X5_41 kd_1 (kl kd_1) dX5_endOfLetters_7 ?_
  refine r_icmp_ge 31 dX5_endOfLetters_10 rfl hv1 (hμ 1 2) (fun c1 => ?_) (fun c1 => ?_)
  · have h := h.1 c1
    refine r_il1 dX5_endOfLetters_31 ?_
    exact r_iret B hr hv1 hμ dX5_endOfLetters_32 h
  · have h := h.2 c1
    refine r_al0 dX5_endOfLetters_13 ?_
    refine r_getR B 2 fg_X5_11 kd_1 (kl kd_1) (ρo (off := 1) kd_1 rfl) dX5_endOfLetters_14 ?_
    refine r_il1 dX5_endOfLetters_17 ?_
    obtain ⟨o2, h⟩ := h
    refine r_iald B kd_2 (kl kd_2) (by decide) o2 dX5_endOfLetters_18 ?_
    refine r_cSI1 B cb_X5_isLetter lk_X5_151 cs_X5_isLetter (c_X5_isLetter (xl x) E (hμ _ _) hμ h) rfl rfl dX5_endOfLetters_19 (fun r4 μ3 hr4 mμ3 h => ?_)
    refine r_if_eq 31 dX5_endOfLetters_22 rfl hr4 (fun c5 => ?_) (fun c5 => ?_)
    · have h := h.1 c5
      refine r_il1 dX5_endOfLetters_31 ?_
      exact r_iret B hr hv1 mμ3 dX5_endOfLetters_32 h
    · have h := h.2 c5
      refine r_inc1 dX5_endOfLetters_25 rfl ?_
      obtain ⟨o6, h⟩ := h
      refine r_goto 5 dX5_endOfLetters_28 rfl ?_
      exact J_weak (hX5 (v1 + 1) μ3 h o6 mμ3) (⟨rfl, ⟨rfl, trivial⟩⟩)
set_option maxRecDepth 20000 in
theorem c_X5_endOfLetters (l : Launch) (E : Gx) {μ : Mem} {Q : Int → Mem → Prop} (hμ : okM μ) (h : wp_X5_endOfLetters  μ Q) : MT l yX5_endOfLetters cX5_endOfLetters 2 (some .int) E 2 0 0 z0 [rv E 1] μ (QI E z0 Q) := by
  refine m_start [some (rv E 1), none] (by decide) rfl rfl rfl (fun x hxl hxc hxs B hr hnm => ?_)
  unfold wp_X5_endOfLetters at h
  refine r_al0 dX5_endOfLetters_0 ?_
  refine r_getI B fg_X5_106 kd_1 (kl kd_1) dX5_endOfLetters_1 ?_
  refine r_is1 dX5_endOfLetters_4 rfl ?_
  exact J_weak (t_X5_endOfLetters_5 B hr (hμ 1 3) hμ h) (⟨rfl, ⟨rfl, trivial⟩⟩)
set_option maxRecDepth 20000 in
theorem c_X5_isNumeral (l : Launch) (E : Gx) {p0 : Int} {μ : Mem} {Q : Int → Mem → Prop} (hp0 : inR p0) (hμ : okM μ) (h : wp_X5_isNumeral p0 μ Q) : MT l yX5_isNumeral cX5_isNumeral 1 (some .boolean) E 1 0 0 z0 [iv p0] μ (QI E z0 Q) := by
  refine m_start [some (iv p0)] (by decide) rfl rfl rfl (fun x hxl hxc hxs B hr hnm => ?_)
  unfold wp_X5_isNumeral at h
  refine r_il0 dX5_isNumeral_0 ?_
  refine r_bipush dX5_isNumeral_1 (by decide) ?_
  refine r_icmp_lt 16 dX5_isNumeral_3 rfl hp0 (inR_k rfl) (fun c1 => ?_) (fun c1 => ?_)
  · have h := h.1 c1
    refine r_iconst dX5_isNumeral_16 ?_
    exact r_zret B hr (Or.inl rfl) hμ dX5_isNumeral_17 h
  · have h := h.2 c1
    refine r_il0 dX5_isNumeral_6 ?_
    refine r_bipush dX5_isNumeral_7 (by decide) ?_
    refine r_icmp_gt 16 dX5_isNumeral_9 rfl hp0 (inR_k rfl) (fun c2 => ?_) (fun c2 => ?_)
    · have h := h.1 c2
      refine r_iconst dX5_isNumeral_16 ?_
      exact r_zret B hr (Or.inl rfl) hμ dX5_isNumeral_17 h
    · have h := h.2 c2
      refine r_iconst dX5_isNumeral_12 ?_
      refine r_goto 17 dX5_isNumeral_13 rfl ?_
      exact r_zret B hr (Or.inr rfl) hμ dX5_isNumeral_17 h
set_option maxRecDepth 20000 in
theorem t_X5_endOfNumerals_5 {x : Cx} {E : Gx} (B : Bd x E 2 2 "SlipCovers$Reader") (hr : (xt x).sig.returnType = (some .int)) {Q : Int → Mem → Prop} {v1 : Int} {μ : Mem} (hv1 : inR v1) (hμ : okM μ) (h : LP2 (wp_X5_endOfNumerals_5 Q) v1 μ) : J cX5_endOfNumerals x E z0 μ 5 [some (rv E 1), some (iv v1)] [] (MQ (xb x) (QI E z0 Q) (xa x) (xs x) 0 0 (gA E)) := by
  refine LP2_ind (T := fun (v1 : Int) (μ : Mem) => inR v1 → okM μ → J cX5_endOfNumerals x E z0 μ 5 [some (rv E 1), some (iv v1)] [] (MQ (xb x) (QI E z0 Q) (xa x) (xs x) 0 0 (gA E))) (fun X5 hX5 v1 μ h hv1 hμ => ?_) h hv1 hμ
  unfold wp_X5_endOfNumerals_5 at h
  refine r_il1 dX5_endOfNumerals_5 ?_
  refine r_al0 dX5_endOfNumerals_6 ?_
  refine r_getI B fg_X5_41 kd_1 (kl kd_1) dX5_endOfNumerals_7 ?_
  refine r_icmp_ge 31 dX5_endOfNumerals_10 rfl hv1 (hμ 1 2) (fun c1 => ?_) (fun c1 => ?_)
  · have h := h.1 c1
    refine r_il1 dX5_endOfNumerals_31 ?_
    exact r_iret B hr hv1 hμ dX5_endOfNumerals_32 h
  · have h := h.2 c1
    refine r_al0 dX5_endOfNumerals_13 ?_
    refine r_getR B 2 fg_X5_11 kd_1 (kl kd_1) (ρo (off := 1) kd_1 rfl) dX5_endOfNumerals_14 ?_
    refine r_il1 dX5_endOfNumerals_17 ?_
    obtain ⟨o2, h⟩ := h
    refine r_iald B kd_2 (kl kd_2) (by decide) o2 dX5_endOfNumerals_18 ?_
    refine r_cSI1 B cb_X5_isNumeral lk_X5_157 cs_X5_isNumeral (c_X5_isNumeral (xl x) E (hμ _ _) hμ h) rfl rfl dX5_endOfNumerals_19 (fun r4 μ3 hr4 mμ3 h => ?_)
    refine r_if_eq 31 dX5_endOfNumerals_22 rfl hr4 (fun c5 => ?_) (fun c5 => ?_)
    · have h := h.1 c5
      refine r_il1 dX5_endOfNumerals_31 ?_
      exact r_iret B hr hv1 mμ3 dX5_endOfNumerals_32 h
    · have h := h.2 c5
      refine r_inc1 dX5_endOfNumerals_25 rfl ?_
      obtain ⟨o6, h⟩ := h
      refine r_goto 5 dX5_endOfNumerals_28 rfl ?_
      exact J_weak (hX5 (v1 + 1) μ3 h o6 mμ3) (⟨rfl, ⟨rfl, trivial⟩⟩)
set_option maxRecDepth 20000 in
theorem c_X5_endOfNumerals (l : Launch) (E : Gx) {μ : Mem} {Q : Int → Mem → Prop} (hμ : okM μ) (h : wp_X5_endOfNumerals  μ Q) : MT l yX5_endOfNumerals cX5_endOfNumerals 2 (some .int) E 2 0 0 z0 [rv E 1] μ (QI E z0 Q) := by
  refine m_start [some (rv E 1), none] (by decide) rfl rfl rfl (fun x hxl hxc hxs B hr hnm => ?_)
  unfold wp_X5_endOfNumerals at h
  refine r_al0 dX5_endOfNumerals_0 ?_
  refine r_getI B fg_X5_106 kd_1 (kl kd_1) dX5_endOfNumerals_1 ?_
  refine r_is1 dX5_endOfNumerals_4 rfl ?_
  exact J_weak (t_X5_endOfNumerals_5 B hr (hμ 1 3) hμ h) (⟨rfl, ⟨rfl, trivial⟩⟩)
set_option maxRecDepth 20000 in
theorem c_X5_isMark (l : Launch) (E : Gx) {p0 : Int} {μ : Mem} {Q : Int → Mem → Prop} (hp0 : inR p0) (hμ : okM μ) (h : wp_X5_isMark p0 μ Q) : MT l yX5_isMark cX5_isMark 1 (some .boolean) E 1 0 0 z0 [iv p0] μ (QI E z0 Q) := by
  refine m_start [some (iv p0)] (by decide) rfl rfl rfl (fun x hxl hxc hxs B hr hnm => ?_)
  unfold wp_X5_isMark at h
  refine r_il0 dX5_isMark_0 ?_
  refine r_bipush dX5_isMark_1 (by decide) ?_
  refine r_icmp_eq 18 dX5_isMark_3 rfl hp0 (inR_k rfl) (fun c1 => ?_) (fun c1 => ?_)
  · have h := h.1 c1
    refine r_iconst dX5_isMark_18 ?_
    refine r_goto 23 dX5_isMark_19 rfl ?_
    exact r_zret B hr (Or.inr rfl) hμ dX5_isMark_23 h
  · have h := h.2 c1
    refine r_il0 dX5_isMark_6 ?_
    refine r_bipush dX5_isMark_7 (by decide) ?_
    refine r_icmp_eq 18 dX5_isMark_9 rfl hp0 (inR_k rfl) (fun c2 => ?_) (fun c2 => ?_)
    · have h := h.1 c2
      refine r_iconst dX5_isMark_18 ?_
      refine r_goto 23 dX5_isMark_19 rfl ?_
      exact r_zret B hr (Or.inr rfl) hμ dX5_isMark_23 h
    · have h := h.2 c2
      refine r_il0 dX5_isMark_12 ?_
      refine r_bipush dX5_isMark_13 (by decide) ?_
      refine r_icmp_ne 22 dX5_isMark_15 rfl hp0 (inR_k rfl) (fun c3 => ?_) (fun c3 => ?_)
      · have h := h.1 c3
        refine r_iconst dX5_isMark_22 ?_
        exact r_zret B hr (Or.inl rfl) hμ dX5_isMark_23 h
      · have h := h.2 c3
        refine r_iconst dX5_isMark_18 ?_
        refine r_goto 23 dX5_isMark_19 rfl ?_
        exact r_zret B hr (Or.inr rfl) hμ dX5_isMark_23 h
set_option maxRecDepth 20000 in
theorem t_X5_advance_46 {x : Cx} {E : Gx} (B : Bd x E 3 1 "SlipCovers$Reader") (hr : (xt x).sig.returnType = none) {Q : Mem → Prop} {μ : Mem} (hμ : okM μ) (h : wp_X5_advance_46 Q μ) : J cX5_advance x E z0 μ 46 [some (rv E 1)] [] (MQ (xb x) (QV E z0 Q) (xa x) (xs x) 0 0 (gA E)) := by
  unfold wp_X5_advance_46 at h
  refine r_al0 dX5_advance_46 ?_
  refine r_getI B fg_X5_106 kd_1 (kl kd_1) dX5_advance_47 ?_
  refine r_al0 dX5_advance_50 ?_
  refine r_getI B fg_X5_41 kd_1 (kl kd_1) dX5_advance_51 ?_
  refine r_icmp_lt 73 dX5_advance_54 rfl (hμ 1 3) (hμ 1 2) (fun c3 => ?_) (fun c3 => ?_)
  · have h := h.1 c3
    refine r_al0 dX5_advance_73 ?_
    refine r_getR B 2 fg_X5_11 kd_1 (kl kd_1) (ρo (off := 1) kd_1 rfl) dX5_advance_74 ?_
    refine r_al0 dX5_advance_77 ?_
    refine r_getI B fg_X5_106 kd_1 (kl kd_1) dX5_advance_78 ?_
    obtain ⟨o4, h⟩ := h
    refine r_iald B kd_2 (kl kd_2) (by decide) o4 dX5_advance_81 ?_
    refine r_cSI1 B cb_X5_isLetter lk_X5_151 cs_X5_isLetter (c_X5_isLetter (xl x) E (hμ _ _) hμ h) rfl rfl dX5_advance_82 (fun r6 μ5 hr6 mμ5 h => ?_)
    refine r_if_eq 122 dX5_advance_85 rfl hr6 (fun c7 => ?_) (fun c7 => ?_)
    · have h := h.1 c7
      refine r_al0 dX5_advance_122 ?_
      refine r_getR B 2 fg_X5_11 kd_1 (kl kd_1) (ρo (off := 1) kd_1 rfl) dX5_advance_123 ?_
      refine r_al0 dX5_advance_126 ?_
      refine r_getI B fg_X5_106 kd_1 (kl kd_1) dX5_advance_127 ?_
      obtain ⟨o8, h⟩ := h
      refine r_iald B kd_2 (kl kd_2) (by decide) o8 dX5_advance_130 ?_
      refine r_cSI1 B cb_X5_isNumeral lk_X5_157 cs_X5_isNumeral (c_X5_isNumeral (xl x) E (mμ5 _ _) mμ5 h) rfl rfl dX5_advance_131 (fun r10 μ9 hr10 mμ9 h => ?_)
      refine r_if_eq 171 dX5_advance_134 rfl hr10 (fun c11 => ?_) (fun c11 => ?_)
      · have h := h.1 c11
        refine r_al0 dX5_advance_171 ?_
        refine r_al0 dX5_advance_172 ?_
        refine r_getI B fg_X5_106 kd_1 (kl kd_1) dX5_advance_173 ?_
        refine r_iconst dX5_advance_176 ?_
        refine r_iadd dX5_advance_177 ?_
        obtain ⟨o12, h⟩ := h
        refine r_putI B fg_X5_44 fp_5_4 kd_1 (kl kd_1) dX5_advance_178 ?_
        refine n_mem (fun μ13 eμ13 => ?_)
        have h := h μ13 eμ13
        have mμ13 : okM μ13 := eqM eμ13 (okM_sI mμ9 o12)
        refine r_al0 dX5_advance_181 ?_
        refine r_al0 dX5_advance_182 ?_
        refine r_getR B 2 fg_X5_11 kd_1 (kl kd_1) (ρo (off := 1) kd_1 rfl) dX5_advance_183 ?_
        refine r_al0 dX5_advance_186 ?_
        refine r_getI B fg_X5_106 kd_1 (kl kd_1) dX5_advance_187 ?_
        obtain ⟨o14, h⟩ := h
        refine r_iald B kd_2 (kl kd_2) (by decide) o14 dX5_advance_190 ?_
        refine r_cSI1 B cb_X5_isMark lk_X5_163 cs_X5_isMark (c_X5_isMark (xl x) E (mμ13 _ _) mμ13 h) rfl rfl dX5_advance_191 (fun r16 μ15 hr16 mμ15 h => ?_)
        refine r_if_eq 201 dX5_advance_194 rfl hr16 (fun c17 => ?_) (fun c17 => ?_)
        · have h := h.1 c17
          refine r_iconst dX5_advance_201 ?_
          refine r_putI B fg_X5_57 fp_5_5 kd_1 (kl kd_1) dX5_advance_202 ?_
          refine n_mem (fun μ18 eμ18 => ?_)
          have h := h μ18 eμ18
          have mμ18 : okM μ18 := eqM eμ18 (okM_sI mμ15 (inR_k rfl))
          exact r_vret B hr mμ18 dX5_advance_205 h
        · have h := h.2 c17
          refine r_iconst dX5_advance_197 ?_
          refine r_goto 202 dX5_advance_198 rfl ?_
          refine r_putI B fg_X5_57 fp_5_5 kd_1 (kl kd_1) dX5_advance_202 ?_
          refine n_mem (fun μ19 eμ19 => ?_)
          have h := h μ19 eμ19
          have mμ19 : okM μ19 := eqM eμ19 (okM_sI mμ15 (inR_k rfl))
          exact r_vret B hr mμ19 dX5_advance_205 h
      · have h := h.2 c11
        refine r_al0 dX5_advance_137 ?_
        refine r_al0 dX5_advance_138 ?_
        refine r_cVI0 B cb_X5_endOfNumerals lk_X5_160 cv_X5_endOfNumerals kd_1 (c_X5_endOfNumerals (xl x) E mμ9 h) rfl rfl dX5_advance_139 (fun r21 μ20 hr21 mμ20 h => ?_)
        refine r_putI B fg_X5_44 fp_5_4 kd_1 (kl kd_1) dX5_advance_142 ?_
        refine n_mem (fun μ22 eμ22 => ?_)
        have h := h μ22 eμ22
        have mμ22 : okM μ22 := eqM eμ22 (okM_sI mμ20 hr21)
        refine r_al0 dX5_advance_145 ?_
        refine r_al0 dX5_advance_146 ?_
        refine r_getI B fg_X5_44 kd_1 (kl kd_1) dX5_advance_147 ?_
        refine r_al0 dX5_advance_150 ?_
        refine r_getI B fg_X5_106 kd_1 (kl kd_1) dX5_advance_151 ?_
        refine r_isub dX5_advance_154 ?_
        refine r_bipush dX5_advance_155 (by decide) ?_
        obtain ⟨o23, h⟩ := h
        refine r_icmp_gt 164 dX5_advance_157 rfl o23 (inR_k rfl) (fun c24 => ?_) (fun c24 => ?_)
        · have h := h.1 c24
          refine r_iconst dX5_advance_164 ?_
          refine r_putI B fg_X5_57 fp_5_5 kd_1 (kl kd_1) dX5_advance_165 ?_
          refine n_mem (fun μ25 eμ25 => ?_)
          have h := h μ25 eμ25
          have mμ25 : okM μ25 := eqM eμ25 (okM_sI mμ22 (inR_k rfl))
          refine r_goto 205 dX5_advance_168 rfl ?_
          exact r_vret B hr mμ25 dX5_advance_205 h
        · have h := h.2 c24
          refine r_iconst dX5_advance_160 ?_
          refine r_goto 165 dX5_advance_161 rfl ?_
          refine r_putI B fg_X5_57 fp_5_5 kd_1 (kl kd_1) dX5_advance_165 ?_
          refine n_mem (fun μ26 eμ26 => ?_)
          have h := h μ26 eμ26
          have mμ26 : okM μ26 := eqM eμ26 (okM_sI mμ22 (inR_k rfl))
          refine r_goto 205 dX5_advance_168 rfl ?_
          exact r_vret B hr mμ26 dX5_advance_205 h
    · have h := h.2 c7
      refine r_al0 dX5_advance_88 ?_
      refine r_al0 dX5_advance_89 ?_
      refine r_cVI0 B cb_X5_endOfLetters lk_X5_154 cv_X5_endOfLetters kd_1 (c_X5_endOfLetters (xl x) E mμ5 h) rfl rfl dX5_advance_90 (fun r28 μ27 hr28 mμ27 h => ?_)
      refine r_putI B fg_X5_44 fp_5_4 kd_1 (kl kd_1) dX5_advance_93 ?_
      refine n_mem (fun μ29 eμ29 => ?_)
      have h := h μ29 eμ29
      have mμ29 : okM μ29 := eqM eμ29 (okM_sI mμ27 hr28)
      refine r_al0 dX5_advance_96 ?_
      refine r_al0 dX5_advance_97 ?_
      refine r_getI B fg_X5_44 kd_1 (kl kd_1) dX5_advance_98 ?_
      refine r_al0 dX5_advance_101 ?_
      refine r_getI B fg_X5_106 kd_1 (kl kd_1) dX5_advance_102 ?_
      refine r_isub dX5_advance_105 ?_
      refine r_bipush dX5_advance_106 (by decide) ?_
      obtain ⟨o30, h⟩ := h
      refine r_icmp_gt 115 dX5_advance_108 rfl o30 (inR_k rfl) (fun c31 => ?_) (fun c31 => ?_)
      · have h := h.1 c31
        refine r_iconst dX5_advance_115 ?_
        refine r_putI B fg_X5_57 fp_5_5 kd_1 (kl kd_1) dX5_advance_116 ?_
        refine n_mem (fun μ32 eμ32 => ?_)
        have h := h μ32 eμ32
        have mμ32 : okM μ32 := eqM eμ32 (okM_sI mμ29 (inR_k rfl))
        refine r_goto 205 dX5_advance_119 rfl ?_
        exact r_vret B hr mμ32 dX5_advance_205 h
      · have h := h.2 c31
        refine r_iconst dX5_advance_111 ?_
        refine r_goto 116 dX5_advance_112 rfl ?_
        refine r_putI B fg_X5_57 fp_5_5 kd_1 (kl kd_1) dX5_advance_116 ?_
        refine n_mem (fun μ33 eμ33 => ?_)
        have h := h μ33 eμ33
        have mμ33 : okM μ33 := eqM eμ33 (okM_sI mμ29 (inR_k rfl))
        refine r_goto 205 dX5_advance_119 rfl ?_
        exact r_vret B hr mμ33 dX5_advance_205 h
  · have h := h.2 c3
    refine r_al0 dX5_advance_57 ?_
    refine r_iconst dX5_advance_58 ?_
    refine r_putI B fg_X5_57 fp_5_5 kd_1 (kl kd_1) dX5_advance_59 ?_
    refine n_mem (fun μ34 eμ34 => ?_)
    have h := h μ34 eμ34
    have mμ34 : okM μ34 := eqM eμ34 (okM_sI hμ (inR_k rfl))
    refine r_al0 dX5_advance_62 ?_
    refine r_al0 dX5_advance_63 ?_
    refine r_getI B fg_X5_106 kd_1 (kl kd_1) dX5_advance_64 ?_
    refine r_putI B fg_X5_44 fp_5_4 kd_1 (kl kd_1) dX5_advance_67 ?_
    refine n_mem (fun μ35 eμ35 => ?_)
    have h := h μ35 eμ35
    have mμ35 : okM μ35 := eqM eμ35 (okM_sI mμ34 (mμ34 1 3))
    refine r_goto 205 dX5_advance_70 rfl ?_
    exact r_vret B hr mμ35 dX5_advance_205 h
set_option maxRecDepth 20000 in
theorem t_X5_advance_8 {x : Cx} {E : Gx} (B : Bd x E 3 1 "SlipCovers$Reader") (hr : (xt x).sig.returnType = none) {Q : Mem → Prop} {μ : Mem} (hμ : okM μ) (h : LP1 (wp_X5_advance_8 Q) μ) : J cX5_advance x E z0 μ 8 [some (rv E 1)] [] (MQ (xb x) (QV E z0 Q) (xa x) (xs x) 0 0 (gA E)) := by
  refine LP1_ind (T := fun  (μ : Mem) => okM μ → J cX5_advance x E z0 μ 8 [some (rv E 1)] [] (MQ (xb x) (QV E z0 Q) (xa x) (xs x) 0 0 (gA E))) (fun X8 hX8 μ h hμ => ?_) h hμ
  unfold wp_X5_advance_8 at h
  refine r_al0 dX5_advance_8 ?_
  refine r_getI B fg_X5_106 kd_1 (kl kd_1) dX5_advance_9 ?_
  refine r_al0 dX5_advance_12 ?_
  refine r_getI B fg_X5_41 kd_1 (kl kd_1) dX5_advance_13 ?_
  refine r_icmp_ge 46 dX5_advance_16 rfl (hμ 1 3) (hμ 1 2) (fun c2 => ?_) (fun c2 => ?_)
  · have h := h.1 c2
    exact J_weak (t_X5_advance_46 B hr hμ h) (⟨rfl, trivial⟩)
  · have h := h.2 c2
    refine r_al0 dX5_advance_19 ?_
    refine r_getR B 2 fg_X5_11 kd_1 (kl kd_1) (ρo (off := 1) kd_1 rfl) dX5_advance_20 ?_
    refine r_al0 dX5_advance_23 ?_
    refine r_getI B fg_X5_106 kd_1 (kl kd_1) dX5_advance_24 ?_
    obtain ⟨o36, h⟩ := h
    refine r_iald B kd_2 (kl kd_2) (by decide) o36 dX5_advance_27 ?_
    refine r_bipush dX5_advance_28 (by decide) ?_
    refine r_icmp_ne 46 dX5_advance_30 rfl (hμ _ _) (inR_k rfl) (fun c37 => ?_) (fun c37 => ?_)
    · have h := h.1 c37
      exact J_weak (t_X5_advance_46 B hr hμ h) (⟨rfl, trivial⟩)
    · have h := h.2 c37
      refine r_al0 dX5_advance_33 ?_
      refine r_dup rfl dX5_advance_34 ?_
      refine r_getI B fg_X5_106 kd_1 (kl kd_1) dX5_advance_35 ?_
      refine r_iconst dX5_advance_38 ?_
      refine r_iadd dX5_advance_39 ?_
      obtain ⟨o38, h⟩ := h
      refine r_putI B fg_X5_106 fp_5_3 kd_1 (kl kd_1) dX5_advance_40 ?_
      refine n_mem (fun μ39 eμ39 => ?_)
      have h := h μ39 eμ39
      have mμ39 : okM μ39 := eqM eμ39 (okM_sI hμ o38)
      refine r_goto 8 dX5_advance_43 rfl ?_
      exact J_weak (hX8 μ39 h mμ39) (⟨rfl, trivial⟩)
set_option maxRecDepth 20000 in
theorem c_X5_advance (l : Launch) (E : Gx) {μ : Mem} {Q : Mem → Prop} (hμ : okM μ) (h : wp_X5_advance  μ Q) : MT l yX5_advance cX5_advance 1 none E 3 0 0 z0 [rv E 1] μ (QV E z0 Q) := by
  refine m_start [some (rv E 1)] (by decide) rfl rfl rfl (fun x hxl hxc hxs B hr hnm => ?_)
  unfold wp_X5_advance at h
  refine r_al0 dX5_advance_0 ?_
  refine r_al0 dX5_advance_1 ?_
  refine r_getI B fg_X5_44 kd_1 (kl kd_1) dX5_advance_2 ?_
  refine r_putI B fg_X5_106 fp_5_3 kd_1 (kl kd_1) dX5_advance_5 ?_
  refine n_mem (fun μ1 eμ1 => ?_)
  have h := h μ1 eμ1
  have mμ1 : okM μ1 := eqM eμ1 (okM_sI hμ (hμ 1 4))
  exact J_weak (t_X5_advance_8 B hr mμ1 h) (⟨rfl, trivial⟩)
set_option maxRecDepth 20000 in
theorem t_X5_readWeights_2 {x : Cx} {E : Gx} (B : Bd x E 4 4 "SlipCovers$Reader") (hr : (xt x).sig.returnType = (some .boolean)) {Q : Int → Mem → Prop} {v1 : Nat} {v2 : Int} {μ : Mem} (hv1 : isC v1) (hv2 : inR v2) (hμ : okM μ) (h : LP3 (wp_X5_readWeights_2 Q) v1 v2 μ) : J cX5_readWeights x E z0 μ 2 [some (rv E 1), some (rv E v1), some (iv v2), none] [] (MQ (xb x) (QI E z0 Q) (xa x) (xs x) 0 0 (gA E)) := by
  refine LP3_ind (T := fun (v1 : Nat) (v2 : Int) (μ : Mem) => isC v1 → inR v2 → okM μ → J cX5_readWeights x E z0 μ 2 [some (rv E 1), some (rv E v1), some (iv v2), none] [] (MQ (xb x) (QI E z0 Q) (xa x) (xs x) 0 0 (gA E))) (fun X2 hX2 v1 v2 μ h hv1 hv2 hμ => ?_) h hv1 hv2 hμ
  unfold wp_X5_readWeights_2 at h
  refine r_il2 dX5_readWeights_2 ?_
  refine r_al1 dX5_readWeights_3 ?_
  refine r_getIN B fg_X5_120 (hv1).1 (kl (hv1).1) dX5_readWeights_4 ?_
  refine r_icmp_ge 59 dX5_readWeights_7 rfl hv2 (hμ v1 1) (fun c1 => ?_) (fun c1 => ?_)
  · have h := h.1 c1
    refine r_al0 dX5_readWeights_59 ?_
    refine r_cVV0 B cb_X5_advance lk_X5_71 cv_X5_advance kd_1 (c_X5_advance (xl x) E hμ h) rfl rfl dX5_readWeights_60 (fun μ2 mμ2 h => ?_)
    refine r_iconst dX5_readWeights_63 ?_
    exact r_zret B hr (Or.inr rfl) mμ2 dX5_readWeights_64 h
  · have h := h.2 c1
    refine r_al0 dX5_readWeights_10 ?_
    refine r_cVV0 B cb_X5_advance lk_X5_71 cv_X5_advance kd_1 (c_X5_advance (xl x) E hμ h) rfl rfl dX5_readWeights_11 (fun μ3 mμ3 h => ?_)
    refine r_al0 dX5_readWeights_14 ?_
    refine r_getI B fg_X5_57 kd_1 (kl kd_1) dX5_readWeights_15 ?_
    refine r_iconst dX5_readWeights_18 ?_
    refine r_icmp_eq 28 dX5_readWeights_19 rfl (mμ3 1 5) (inR_k rfl) (fun c4 => ?_) (fun c4 => ?_)
    · have h := h.1 c4
      refine r_al0 dX5_readWeights_28 ?_
      refine r_cVI0 B cb_X5_singleDigit lk_X5_109 cv_X5_singleDigit kd_1 (c_X5_singleDigit (xl x) E mμ3 h) rfl rfl dX5_readWeights_29 (fun r6 μ5 hr6 mμ5 h => ?_)
      refine r_is3 dX5_readWeights_32 rfl ?_
      refine r_il3 dX5_readWeights_33 ?_
      refine r_cSI1N B cb_X7_isWeight lk_X5_123 cs_X7_isWeight (c_X7_isWeight (xl x) E hr6 mμ5 h) rfl rfl dX5_readWeights_34 (fun r8 μ7 hr8 mμ7 h => ?_)
      refine r_if_ne 46 dX5_readWeights_37 rfl hr8 (fun c9 => ?_) (fun c9 => ?_)
      · have h := h.1 c9
        refine r_al1 dX5_readWeights_46 ?_
        refine r_getRN B (v1 + 2) fg_X5_126 (hv1).1 (kl (hv1).1) (ρo (off := 2) (hv1).1 rfl) dX5_readWeights_47 ?_
        refine r_il2 dX5_readWeights_50 ?_
        refine r_il3 dX5_readWeights_51 ?_
        obtain ⟨o10, h⟩ := h
        refine r_iast B (hv1).2.2.1 (kl (hv1).2.2.1) (by decide) o10 dX5_readWeights_52 ?_
        refine n_mem (fun μ11 eμ11 => ?_)
        have h := h μ11 eμ11
        have mμ11 : okM μ11 := eqM eμ11 (okM_sI mμ7 hr6)
        refine r_inc2 dX5_readWeights_53 rfl ?_
        obtain ⟨o12, h⟩ := h
        refine r_goto 2 dX5_readWeights_56 rfl ?_
        exact J_weak (hX2 v1 (v2 + 1) μ11 h hv1 o12 mμ11) (⟨rfl, ⟨rfl, ⟨rfl, trivial⟩⟩⟩)
      · have h := h.2 c9
        refine r_al0 dX5_readWeights_40 ?_
        refine r_iconst dX5_readWeights_41 ?_
        refine r_cVI1 B cb_X5_fail lk_X5_60 cv_X5_fail kd_1 (c_X5_fail (xl x) E (inR_k rfl) mμ7 h) rfl rfl dX5_readWeights_42 (fun r14 μ13 hr14 mμ13 h => ?_)
        obtain ⟨o15, h⟩ := h
        exact r_zret B hr o15 mμ13 dX5_readWeights_45 h
    · have h := h.2 c4
      refine r_al0 dX5_readWeights_22 ?_
      refine r_iconst dX5_readWeights_23 ?_
      refine r_cVI1 B cb_X5_fail lk_X5_60 cv_X5_fail kd_1 (c_X5_fail (xl x) E (inR_k rfl) mμ3 h) rfl rfl dX5_readWeights_24 (fun r17 μ16 hr17 mμ16 h => ?_)
      obtain ⟨o18, h⟩ := h
      exact r_zret B hr o18 mμ16 dX5_readWeights_27 h
set_option maxRecDepth 20000 in
theorem c_X5_readWeights (l : Launch) (E : Gx) {p0 : Nat} {μ : Mem} {Q : Int → Mem → Prop} (hp0 : isC p0) (hμ : okM μ) (h : wp_X5_readWeights p0 μ Q) : MT l yX5_readWeights cX5_readWeights 4 (some .boolean) E 4 0 0 z0 [rv E 1, rv E p0] μ (QI E z0 Q) := by
  refine m_start [some (rv E 1), some (rv E p0), none, none] (by decide) rfl rfl rfl (fun x hxl hxc hxs B hr hnm => ?_)
  unfold wp_X5_readWeights at h
  refine r_iconst dX5_readWeights_0 ?_
  refine r_is2 dX5_readWeights_1 rfl ?_
  exact J_weak (t_X5_readWeights_2 B hr hp0 (inR_k rfl) hμ h) (⟨rfl, ⟨rfl, ⟨rfl, trivial⟩⟩⟩)
set_option maxRecDepth 20000 in
theorem c_X5_isSign (l : Launch) (E : Gx) {p0 : Int} {μ : Mem} {Q : Int → Mem → Prop} (hp0 : inR p0) (hμ : okM μ) (h : wp_X5_isSign p0 μ Q) : MT l yX5_isSign cX5_isSign 2 (some .boolean) E 1 0 0 z0 [rv E 1, iv p0] μ (QI E z0 Q) := by
  refine m_start [some (rv E 1), some (iv p0)] (by decide) rfl rfl rfl (fun x hxl hxc hxs B hr hnm => ?_)
  unfold wp_X5_isSign at h
  refine r_al0 dX5_isSign_0 ?_
  refine r_getI B fg_X5_57 kd_1 (kl kd_1) dX5_isSign_1 ?_
  refine r_iconst dX5_isSign_4 ?_
  refine r_icmp_ne 25 dX5_isSign_5 rfl (hμ 1 5) (inR_k rfl) (fun c1 => ?_) (fun c1 => ?_)
  · have h := h.1 c1
    refine r_iconst dX5_isSign_25 ?_
    exact r_zret B hr (Or.inl rfl) hμ dX5_isSign_26 h
  · have h := h.2 c1
    refine r_al0 dX5_isSign_8 ?_
    refine r_getR B 2 fg_X5_11 kd_1 (kl kd_1) (ρo (off := 1) kd_1 rfl) dX5_isSign_9 ?_
    refine r_al0 dX5_isSign_12 ?_
    refine r_getI B fg_X5_106 kd_1 (kl kd_1) dX5_isSign_13 ?_
    obtain ⟨o2, h⟩ := h
    refine r_iald B kd_2 (kl kd_2) (by decide) o2 dX5_isSign_16 ?_
    refine r_il1 dX5_isSign_17 ?_
    refine r_icmp_ne 25 dX5_isSign_18 rfl (hμ _ _) hp0 (fun c3 => ?_) (fun c3 => ?_)
    · have h := h.1 c3
      refine r_iconst dX5_isSign_25 ?_
      exact r_zret B hr (Or.inl rfl) hμ dX5_isSign_26 h
    · have h := h.2 c3
      refine r_iconst dX5_isSign_21 ?_
      refine r_goto 26 dX5_isSign_22 rfl ?_
      exact r_zret B hr (Or.inr rfl) hμ dX5_isSign_26 h
set_option maxRecDepth 20000 in
theorem t_X5_numberIn_22 {x : Cx} {E : Gx} (B : Bd x E 1 5 "SlipCovers$Reader") (hr : (xt x).sig.returnType = (some .int)) {Q : Int → Mem → Prop} {v1 : Nat} {v2 : Int} {v3 : Int} {μ : Mem} (hv1 : isC v1) (hv2 : inR v2) (hv3 : inR v3) (hμ : okM μ) (h : LP4 (wp_X5_numberIn_22 Q) v1 v2 v3 μ) : J cX5_numberIn x E z0 μ 22 [some (rv E 1), some (rv E v1), some (iv v2), some (iv v3), none] [] (MQ (xb x) (QI E z0 Q) (xa x) (xs x) 0 0 (gA E)) := by
  refine LP4_ind (T := fun (v1 : Nat) (v2 : Int) (v3 : Int) (μ : Mem) => isC v1 → inR v2 → inR v3 → okM μ → J cX5_numberIn x E z0 μ 22 [some (rv E 1), some (rv E v1), some (iv v2), some (iv v3), none] [] (MQ (xb x) (QI E z0 Q) (xa x) (xs x) 0 0 (gA E))) (fun X22 hX22 v1 v2 v3 μ h hv1 hv2 hv3 hμ => ?_) h hv1 hv2 hv3 hμ
  unfold wp_X5_numberIn_22 at h
  refine r_il3 dX5_numberIn_22 ?_
  refine r_al1 dX5_numberIn_23 ?_
  refine r_getIN B fg_X5_120 (hv1).1 (kl (hv1).1) dX5_numberIn_24 ?_
  refine r_icmp_ge 77 dX5_numberIn_27 rfl hv3 (hμ v1 1) (fun c3 => ?_) (fun c3 => ?_)
  · have h := h.1 c3
    refine r_il2 dX5_numberIn_77 ?_
    exact r_iret B hr hv2 hμ dX5_numberIn_78 h
  · have h := h.2 c3
    refine r_al0 dX5_numberIn_30 ?_
    refine r_getR B 2 fg_X5_11 kd_1 (kl kd_1) (ρo (off := 1) kd_1 rfl) dX5_numberIn_31 ?_
    refine r_al0 dX5_numberIn_34 ?_
    refine r_getI B fg_X5_106 kd_1 (kl kd_1) dX5_numberIn_35 ?_
    refine r_il3 dX5_numberIn_38 ?_
    refine r_iadd dX5_numberIn_39 ?_
    obtain ⟨o4, h⟩ := h
    refine r_iald B kd_2 (kl kd_2) (by decide) o4 dX5_numberIn_40 ?_
    refine r_bipush dX5_numberIn_41 (by decide) ?_
    refine r_isub dX5_numberIn_43 ?_
    obtain ⟨o6, h⟩ := h
    refine n_topi (fun x5 ex5 => ?_)
    have h := h x5 ex5
    refine r_is4 dX5_numberIn_44 rfl ?_
    refine r_il4 dX5_numberIn_46 ?_
    refine r_al1 dX5_numberIn_48 ?_
    refine r_getRN B (v1 + 1) fg_X5_140 (hv1).1 (kl (hv1).1) (ρo (off := 1) (hv1).1 rfl) dX5_numberIn_49 ?_
    refine r_il3 dX5_numberIn_52 ?_
    obtain ⟨o7, h⟩ := h
    refine r_iald B (hv1).2.1 (kl (hv1).2.1) (by decide) o7 dX5_numberIn_53 ?_
    refine r_icmp_lt 59 dX5_numberIn_54 rfl (eqR ex5 o6) (hμ _ _) (fun c8 => ?_) (fun c8 => ?_)
    · have h := h.1 c8
      refine r_il2 dX5_numberIn_59 ?_
      refine r_al1 dX5_numberIn_60 ?_
      refine r_getRN B (v1 + 1) fg_X5_140 (hv1).1 (kl (hv1).1) (ρo (off := 1) (hv1).1 rfl) dX5_numberIn_61 ?_
      refine r_il3 dX5_numberIn_64 ?_
      refine r_iald B (hv1).2.1 (kl (hv1).2.1) (by decide) o7 dX5_numberIn_65 ?_
      refine r_imul dX5_numberIn_66 ?_
      refine r_il4 dX5_numberIn_67 ?_
      refine r_iadd dX5_numberIn_69 ?_
      obtain ⟨o10, h⟩ := h
      refine n_topi (fun x9 ex9 => ?_)
      have h := h x9 ex9
      refine r_is2 dX5_numberIn_70 rfl ?_
      refine r_inc3 dX5_numberIn_71 rfl ?_
      obtain ⟨o11, h⟩ := h
      refine r_goto 22 dX5_numberIn_74 rfl ?_
      exact J_weak (hX22 v1 x9 (v3 + 1) μ h hv1 (eqR ex9 o10) o11 hμ) (⟨rfl, ⟨rfl, ⟨rfl, ⟨rfl, trivial⟩⟩⟩⟩)
    · have h := h.2 c8
      refine r_iconst dX5_numberIn_57 ?_
      exact r_iret B hr (inR_k rfl) hμ dX5_numberIn_58 h
set_option maxRecDepth 20000 in
theorem c_X5_numberIn (l : Launch) (E : Gx) {p0 : Nat} {μ : Mem} {Q : Int → Mem → Prop} (hp0 : isC p0) (hμ : okM μ) (h : wp_X5_numberIn p0 μ Q) : MT l yX5_numberIn cX5_numberIn 5 (some .int) E 1 0 0 z0 [rv E 1, rv E p0] μ (QI E z0 Q) := by
  refine m_start [some (rv E 1), some (rv E p0), none, none, none] (by decide) rfl rfl rfl (fun x hxl hxc hxs B hr hnm => ?_)
  unfold wp_X5_numberIn at h
  refine r_al0 dX5_numberIn_0 ?_
  refine r_getI B fg_X5_44 kd_1 (kl kd_1) dX5_numberIn_1 ?_
  refine r_al0 dX5_numberIn_4 ?_
  refine r_getI B fg_X5_106 kd_1 (kl kd_1) dX5_numberIn_5 ?_
  refine r_isub dX5_numberIn_8 ?_
  refine r_al1 dX5_numberIn_9 ?_
  refine r_getIN B fg_X5_120 (hp0).1 (kl (hp0).1) dX5_numberIn_10 ?_
  obtain ⟨o1, h⟩ := h
  refine r_icmp_eq 18 dX5_numberIn_13 rfl o1 (hμ p0 1) (fun c2 => ?_) (fun c2 => ?_)
  · have h := h.1 c2
    refine r_iconst dX5_numberIn_18 ?_
    refine r_is2 dX5_numberIn_19 rfl ?_
    refine r_iconst dX5_numberIn_20 ?_
    refine r_is3 dX5_numberIn_21 rfl ?_
    exact J_weak (t_X5_numberIn_22 B hr hp0 (inR_k rfl) (inR_k rfl) hμ h) (⟨rfl, ⟨rfl, ⟨rfl, ⟨rfl, trivial⟩⟩⟩⟩)
  · have h := h.2 c2
    refine r_iconst dX5_numberIn_16 ?_
    exact r_iret B hr (inR_k rfl) hμ dX5_numberIn_17 h
set_option maxRecDepth 20000 in
theorem t_X5_readCodewords_2 {x : Cx} {E : Gx} (B : Bd x E 4 4 "SlipCovers$Reader") (hr : (xt x).sig.returnType = (some .boolean)) {Q : Int → Mem → Prop} {v1 : Nat} {v2 : Int} {μ : Mem} (hv1 : isC v1) (hv2 : inR v2) (hμ : okM μ) (h : LP3 (wp_X5_readCodewords_2 Q) v1 v2 μ) : J cX5_readCodewords x E z0 μ 2 [some (rv E 1), some (rv E v1), some (iv v2), none] [] (MQ (xb x) (QI E z0 Q) (xa x) (xs x) 0 0 (gA E)) := by
  refine LP3_ind (T := fun (v1 : Nat) (v2 : Int) (μ : Mem) => isC v1 → inR v2 → okM μ → J cX5_readCodewords x E z0 μ 2 [some (rv E 1), some (rv E v1), some (iv v2), none] [] (MQ (xb x) (QI E z0 Q) (xa x) (xs x) 0 0 (gA E))) (fun X2 hX2 v1 v2 μ h hv1 hv2 hμ => ?_) h hv1 hv2 hμ
  unfold wp_X5_readCodewords_2 at h
  refine r_il2 dX5_readCodewords_2 ?_
  refine r_sipush dX5_readCodewords_3 (by decide) ?_
  refine r_icmp_ge 106 dX5_readCodewords_6 rfl hv2 (inR_k rfl) (fun c1 => ?_) (fun c1 => ?_)
  · have h := h.1 c1
    refine r_al0 dX5_readCodewords_106 ?_
    refine r_iconst dX5_readCodewords_107 ?_
    refine r_cVI1 B cb_X5_fail lk_X5_60 cv_X5_fail kd_1 (c_X5_fail (xl x) E (inR_k rfl) hμ h) rfl rfl dX5_readCodewords_108 (fun r3 μ2 hr3 mμ2 h => ?_)
    obtain ⟨o4, h⟩ := h
    exact r_zret B hr o4 mμ2 dX5_readCodewords_111 h
  · have h := h.2 c1
    refine r_al0 dX5_readCodewords_9 ?_
    refine r_cVV0 B cb_X5_advance lk_X5_71 cv_X5_advance kd_1 (c_X5_advance (xl x) E hμ h) rfl rfl dX5_readCodewords_10 (fun μ5 mμ5 h => ?_)
    refine r_al0 dX5_readCodewords_13 ?_
    refine r_getI B fg_X5_57 kd_1 (kl kd_1) dX5_readCodewords_14 ?_
    refine r_iconst dX5_readCodewords_17 ?_
    refine r_icmp_eq 27 dX5_readCodewords_18 rfl (mμ5 1 5) (inR_k rfl) (fun c6 => ?_) (fun c6 => ?_)
    · have h := h.1 c6
      refine r_al0 dX5_readCodewords_27 ?_
      refine r_al1 dX5_readCodewords_28 ?_
      refine r_cVI1 B cb_X5_numberIn lk_X5_129 cv_X5_numberIn kd_1 (c_X5_numberIn (xl x) E hv1 mμ5 h) rfl rfl dX5_readCodewords_29 (fun r8 μ7 hr8 mμ7 h => ?_)
      refine r_is3 dX5_readCodewords_32 rfl ?_
      refine r_il3 dX5_readCodewords_33 ?_
      refine r_iconst dX5_readCodewords_34 ?_
      refine r_icmp_ne 44 dX5_readCodewords_35 rfl hr8 (inR_k rfl) (fun c9 => ?_) (fun c9 => ?_)
      · have h := h.1 c9
        refine r_al1 dX5_readCodewords_44 ?_
        refine r_il3 dX5_readCodewords_45 ?_
        refine r_cVI1 B cb_X1_holds lk_X5_133 cv_X1_holds (hv1).1 (c_X1_holds (xl x) E hv1 hr8 mμ7 h) rfl rfl dX5_readCodewords_46 (fun r11 μ10 hr11 mμ10 h => ?_)
        refine r_if_eq 58 dX5_readCodewords_49 rfl hr11 (fun c12 => ?_) (fun c12 => ?_)
        · have h := h.1 c12
          refine r_al1 dX5_readCodewords_58 ?_
          refine r_il3 dX5_readCodewords_59 ?_
          refine r_cVV1 B cb_X1_put lk_X5_136 cv_X1_put (hv1).1 (c_X1_put (xl x) E hv1 hr8 mμ10 h) rfl rfl dX5_readCodewords_60 (fun μ13 mμ13 h => ?_)
          refine r_al0 dX5_readCodewords_63 ?_
          refine r_cVV0 B cb_X5_advance lk_X5_71 cv_X5_advance kd_1 (c_X5_advance (xl x) E mμ13 h) rfl rfl dX5_readCodewords_64 (fun μ14 mμ14 h => ?_)
          refine r_al0 dX5_readCodewords_67 ?_
          refine r_getI B fg_X5_57 kd_1 (kl kd_1) dX5_readCodewords_68 ?_
          refine r_if_eq 83 dX5_readCodewords_71 rfl (mμ14 1 5) (fun c15 => ?_) (fun c15 => ?_)
          · have h := h.1 c15
            refine r_iconst dX5_readCodewords_83 ?_
            exact r_zret B hr (Or.inr rfl) mμ14 dX5_readCodewords_84 h
          · have h := h.2 c15
            refine r_al0 dX5_readCodewords_74 ?_
            refine r_bipush dX5_readCodewords_75 (by decide) ?_
            refine r_cVI1 B cb_X5_isSign lk_X5_98 cv_X5_isSign kd_1 (c_X5_isSign (xl x) E (inR_k rfl) mμ14 h) rfl rfl dX5_readCodewords_77 (fun r17 μ16 hr17 mμ16 h => ?_)
            refine r_if_eq 85 dX5_readCodewords_80 rfl hr17 (fun c18 => ?_) (fun c18 => ?_)
            · have h := h.1 c18
              refine r_al0 dX5_readCodewords_85 ?_
              refine r_bipush dX5_readCodewords_86 (by decide) ?_
              refine r_cVI1 B cb_X5_isSign lk_X5_98 cv_X5_isSign kd_1 (c_X5_isSign (xl x) E (inR_k rfl) mμ16 h) rfl rfl dX5_readCodewords_88 (fun r20 μ19 hr20 mμ19 h => ?_)
              refine r_if_ne 100 dX5_readCodewords_91 rfl hr20 (fun c21 => ?_) (fun c21 => ?_)
              · have h := h.1 c21
                refine r_inc2 dX5_readCodewords_100 rfl ?_
                obtain ⟨o22, h⟩ := h
                refine r_goto 2 dX5_readCodewords_103 rfl ?_
                exact J_weak (hX2 v1 (v2 + 1) μ19 h hv1 o22 mμ19) (⟨rfl, ⟨rfl, ⟨rfl, trivial⟩⟩⟩)
              · have h := h.2 c21
                refine r_al0 dX5_readCodewords_94 ?_
                refine r_iconst dX5_readCodewords_95 ?_
                refine r_cVI1 B cb_X5_fail lk_X5_60 cv_X5_fail kd_1 (c_X5_fail (xl x) E (inR_k rfl) mμ19 h) rfl rfl dX5_readCodewords_96 (fun r24 μ23 hr24 mμ23 h => ?_)
                obtain ⟨o25, h⟩ := h
                exact r_zret B hr o25 mμ23 dX5_readCodewords_99 h
            · have h := h.2 c18
              refine r_iconst dX5_readCodewords_83 ?_
              exact r_zret B hr (Or.inr rfl) mμ16 dX5_readCodewords_84 h
        · have h := h.2 c12
          refine r_al0 dX5_readCodewords_52 ?_
          refine r_iconst dX5_readCodewords_53 ?_
          refine r_cVI1 B cb_X5_fail lk_X5_60 cv_X5_fail kd_1 (c_X5_fail (xl x) E (inR_k rfl) mμ10 h) rfl rfl dX5_readCodewords_54 (fun r27 μ26 hr27 mμ26 h => ?_)
          obtain ⟨o28, h⟩ := h
          exact r_zret B hr o28 mμ26 dX5_readCodewords_57 h
      · have h := h.2 c9
        refine r_al0 dX5_readCodewords_38 ?_
        refine r_iconst dX5_readCodewords_39 ?_
        refine r_cVI1 B cb_X5_fail lk_X5_60 cv_X5_fail kd_1 (c_X5_fail (xl x) E (inR_k rfl) mμ7 h) rfl rfl dX5_readCodewords_40 (fun r30 μ29 hr30 mμ29 h => ?_)
        obtain ⟨o31, h⟩ := h
        exact r_zret B hr o31 mμ29 dX5_readCodewords_43 h
    · have h := h.2 c6
      refine r_al0 dX5_readCodewords_21 ?_
      refine r_iconst dX5_readCodewords_22 ?_
      refine r_cVI1 B cb_X5_fail lk_X5_60 cv_X5_fail kd_1 (c_X5_fail (xl x) E (inR_k rfl) mμ5 h) rfl rfl dX5_readCodewords_23 (fun r33 μ32 hr33 mμ32 h => ?_)
      obtain ⟨o34, h⟩ := h
      exact r_zret B hr o34 mμ32 dX5_readCodewords_26 h
set_option maxRecDepth 20000 in
theorem c_X5_readCodewords (l : Launch) (E : Gx) {p0 : Nat} {μ : Mem} {Q : Int → Mem → Prop} (hp0 : isC p0) (hμ : okM μ) (h : wp_X5_readCodewords p0 μ Q) : MT l yX5_readCodewords cX5_readCodewords 4 (some .boolean) E 4 0 0 z0 [rv E 1, rv E p0] μ (QI E z0 Q) := by
  refine m_start [some (rv E 1), some (rv E p0), none, none] (by decide) rfl rfl rfl (fun x hxl hxc hxs B hr hnm => ?_)
  unfold wp_X5_readCodewords at h
  refine r_iconst dX5_readCodewords_0 ?_
  refine r_is2 dX5_readCodewords_1 rfl ?_
  exact J_weak (t_X5_readCodewords_2 B hr hp0 (inR_k rfl) hμ h) (⟨rfl, ⟨rfl, ⟨rfl, trivial⟩⟩⟩)
set_option maxRecDepth 20000 in
theorem t_X5_isKeyword_28 {x : Cx} {E : Gx} (B : Bd x E 9 3 "SlipCovers$Reader") (hr : (xt x).sig.returnType = (some .boolean)) {Q : Int → Mem → Prop} {v1 : Nat} {v2 : Int} {μ : Mem} (hv1 : v1 < 3) (hv2 : inR v2) (hμ : okM μ) (h : LP3 (wp_X5_isKeyword_28 Q) v1 v2 μ) : J cX5_isKeyword x E z0 μ 28 [some (rv E 1), some (sv E v1), some (iv v2)] [] (MQ (xb x) (QI E z0 Q) (xa x) (xs x) 0 0 (gA E)) := by
  refine LP3_ind (T := fun (v1 : Nat) (v2 : Int) (μ : Mem) => v1 < 3 → inR v2 → okM μ → J cX5_isKeyword x E z0 μ 28 [some (rv E 1), some (sv E v1), some (iv v2)] [] (MQ (xb x) (QI E z0 Q) (xa x) (xs x) 0 0 (gA E))) (fun X28 hX28 v1 v2 μ h hv1 hv2 hμ => ?_) h hv1 hv2 hμ
  unfold wp_X5_isKeyword_28 at h
  refine r_il2 dX5_isKeyword_28 ?_
  refine r_tl1 dX5_isKeyword_29 ?_
  refine r_slen B lk_X5_143 hv1 rfl rfl dX5_isKeyword_30 ?_
  refine r_icmp_ge 63 dX5_isKeyword_33 rfl hv2 (slenR _) (fun c4 => ?_) (fun c4 => ?_)
  · have h := h.1 c4
    refine r_iconst dX5_isKeyword_63 ?_
    exact r_zret B hr (Or.inr rfl) hμ dX5_isKeyword_64 h
  · have h := h.2 c4
    refine r_al0 dX5_isKeyword_36 ?_
    refine r_getR B 2 fg_X5_11 kd_1 (kl kd_1) (ρo (off := 1) kd_1 rfl) dX5_isKeyword_37 ?_
    refine r_al0 dX5_isKeyword_40 ?_
    refine r_getI B fg_X5_106 kd_1 (kl kd_1) dX5_isKeyword_41 ?_
    refine r_il2 dX5_isKeyword_44 ?_
    refine r_iadd dX5_isKeyword_45 ?_
    obtain ⟨o5, h⟩ := h
    refine r_iald B kd_2 (kl kd_2) (by decide) o5 dX5_isKeyword_46 ?_
    refine r_tl1 dX5_isKeyword_47 ?_
    refine r_il2 dX5_isKeyword_48 ?_
    obtain ⟨o6, h⟩ := h
    refine r_schr B lk_X5_147 hv1 o6 rfl rfl dX5_isKeyword_49 ?_
    refine r_icmp_eq 57 dX5_isKeyword_52 rfl (hμ _ _) (schrR _ _) (fun c7 => ?_) (fun c7 => ?_)
    · have h := h.1 c7
      refine r_inc2 dX5_isKeyword_57 rfl ?_
      obtain ⟨o8, h⟩ := h
      refine r_goto 28 dX5_isKeyword_60 rfl ?_
      exact J_weak (hX28 v1 (v2 + 1) μ h hv1 o8 hμ) (⟨rfl, ⟨rfl, ⟨rfl, trivial⟩⟩⟩)
    · have h := h.2 c7
      refine r_iconst dX5_isKeyword_55 ?_
      exact r_zret B hr (Or.inl rfl) hμ dX5_isKeyword_56 h
set_option maxRecDepth 20000 in
theorem c_X5_isKeyword (l : Launch) (E : Gx) {p0 : Nat} {μ : Mem} {Q : Int → Mem → Prop} (hp0 : p0 < 3) (hμ : okM μ) (h : wp_X5_isKeyword p0 μ Q) : MT l yX5_isKeyword cX5_isKeyword 3 (some .boolean) E 9 0 0 z0 [rv E 1, sv E p0] μ (QI E z0 Q) := by
  refine m_start [some (rv E 1), some (sv E p0), none] (by decide) rfl rfl rfl (fun x hxl hxc hxs B hr hnm => ?_)
  unfold wp_X5_isKeyword at h
  refine r_al0 dX5_isKeyword_0 ?_
  refine r_getI B fg_X5_57 kd_1 (kl kd_1) dX5_isKeyword_1 ?_
  refine r_iconst dX5_isKeyword_4 ?_
  refine r_icmp_ne 24 dX5_isKeyword_5 rfl (hμ 1 5) (inR_k rfl) (fun c1 => ?_) (fun c1 => ?_)
  · have h := h.1 c1
    refine r_iconst dX5_isKeyword_24 ?_
    exact r_zret B hr (Or.inl rfl) hμ dX5_isKeyword_25 h
  · have h := h.2 c1
    refine r_al0 dX5_isKeyword_8 ?_
    refine r_getI B fg_X5_44 kd_1 (kl kd_1) dX5_isKeyword_9 ?_
    refine r_al0 dX5_isKeyword_12 ?_
    refine r_getI B fg_X5_106 kd_1 (kl kd_1) dX5_isKeyword_13 ?_
    refine r_isub dX5_isKeyword_16 ?_
    refine r_tl1 dX5_isKeyword_17 ?_
    refine r_slen B lk_X5_143 hp0 rfl rfl dX5_isKeyword_18 ?_
    obtain ⟨o2, h⟩ := h
    refine r_icmp_eq 26 dX5_isKeyword_21 rfl o2 (slenR _) (fun c3 => ?_) (fun c3 => ?_)
    · have h := h.1 c3
      refine r_iconst dX5_isKeyword_26 ?_
      refine r_is2 dX5_isKeyword_27 rfl ?_
      exact J_weak (t_X5_isKeyword_28 B hr hp0 (inR_k rfl) hμ h) (⟨rfl, ⟨rfl, ⟨rfl, trivial⟩⟩⟩)
    · have h := h.2 c3
      refine r_iconst dX5_isKeyword_24 ?_
      exact r_zret B hr (Or.inl rfl) hμ dX5_isKeyword_25 h
set_option maxRecDepth 20000 in
theorem t_X5_readName_93 {x : Cx} {E : Gx} (B : Bd x E 10 3 "SlipCovers$Reader") (hr : (xt x).sig.returnType = (some .boolean)) {Q : Int → Mem → Prop} {v1 : Int} {v2 : Int} {μ : Mem} (hv1 : inR v1) (hv2 : inR v2) (hμ : okM μ) (h : LP3 (wp_X5_readName_93 Q) v1 v2 μ) : J cX5_readName x E z0 μ 93 [some (rv E 1), some (iv v1), some (iv v2)] [] (MQ (xb x) (QI E z0 Q) (xa x) (xs x) 0 0 (gA E)) := by
  refine LP3_ind (T := fun (v1 : Int) (v2 : Int) (μ : Mem) => inR v1 → inR v2 → okM μ → J cX5_readName x E z0 μ 93 [some (rv E 1), some (iv v1), some (iv v2)] [] (MQ (xb x) (QI E z0 Q) (xa x) (xs x) 0 0 (gA E))) (fun X93 hX93 v1 v2 μ h hv1 hv2 hμ => ?_) h hv1 hv2 hμ
  unfold wp_X5_readName_93 at h
  refine r_il2 dX5_readName_93 ?_
  refine r_al0 dX5_readName_94 ?_
  refine r_getI B fg_X5_50 kd_1 (kl kd_1) dX5_readName_95 ?_
  refine r_icmp_ge 123 dX5_readName_98 rfl hv2 (hμ 1 7) (fun c23 => ?_) (fun c23 => ?_)
  · have h := h.1 c23
    refine r_al0 dX5_readName_123 ?_
    refine r_getR B 4 fg_X5_21 kd_1 (kl kd_1) (ρo (off := 3) kd_1 rfl) dX5_readName_124 ?_
    refine r_al0 dX5_readName_127 ?_
    refine r_getI B fg_X5_50 kd_1 (kl kd_1) dX5_readName_128 ?_
    refine r_il1 dX5_readName_131 ?_
    obtain ⟨o24, h⟩ := h
    refine r_iast B kd_4 (kl kd_4) (by decide) o24 dX5_readName_132 ?_
    refine n_mem (fun μ25 eμ25 => ?_)
    have h := h μ25 eμ25
    have mμ25 : okM μ25 := eqM eμ25 (okM_sI hμ hv1)
    refine r_iconst dX5_readName_133 ?_
    exact r_zret B hr (Or.inr rfl) mμ25 dX5_readName_134 h
  · have h := h.2 c23
    refine r_al0 dX5_readName_101 ?_
    refine r_getR B 4 fg_X5_21 kd_1 (kl kd_1) (ρo (off := 3) kd_1 rfl) dX5_readName_102 ?_
    refine r_il2 dX5_readName_105 ?_
    obtain ⟨o26, h⟩ := h
    refine r_iald B kd_4 (kl kd_4) (by decide) o26 dX5_readName_106 ?_
    refine r_il1 dX5_readName_107 ?_
    refine r_icmp_ne 117 dX5_readName_108 rfl (hμ _ _) hv1 (fun c27 => ?_) (fun c27 => ?_)
    · have h := h.1 c27
      refine r_inc2 dX5_readName_117 rfl ?_
      obtain ⟨o28, h⟩ := h
      refine r_goto 93 dX5_readName_120 rfl ?_
      exact J_weak (hX93 v1 (v2 + 1) μ h hv1 o28 hμ) (⟨rfl, ⟨rfl, ⟨rfl, trivial⟩⟩⟩)
    · have h := h.2 c27
      refine r_al0 dX5_readName_111 ?_
      refine r_iconst dX5_readName_112 ?_
      refine r_cVI1 B cb_X5_fail lk_X5_60 cv_X5_fail kd_1 (c_X5_fail (xl x) E (inR_k rfl) hμ h) rfl rfl dX5_readName_113 (fun r30 μ29 hr30 mμ29 h => ?_)
      obtain ⟨o31, h⟩ := h
      exact r_zret B hr o31 mμ29 dX5_readName_116 h
set_option maxRecDepth 20000 in
theorem t_X5_readName_49 {x : Cx} {E : Gx} (B : Bd x E 10 3 "SlipCovers$Reader") (hr : (xt x).sig.returnType = (some .boolean)) {Q : Int → Mem → Prop} {v1 : Int} {v2 : Int} {μ : Mem} (hv1 : inR v1) (hv2 : inR v2) (hμ : okM μ) (h : LP3 (wp_X5_readName_49 Q) v1 v2 μ) : J cX5_readName x E z0 μ 49 [some (rv E 1), some (iv v1), some (iv v2)] [] (MQ (xb x) (QI E z0 Q) (xa x) (xs x) 0 0 (gA E)) := by
  refine LP3_ind (T := fun (v1 : Int) (v2 : Int) (μ : Mem) => inR v1 → inR v2 → okM μ → J cX5_readName x E z0 μ 49 [some (rv E 1), some (iv v1), some (iv v2)] [] (MQ (xb x) (QI E z0 Q) (xa x) (xs x) 0 0 (gA E))) (fun X49 hX49 v1 v2 μ h hv1 hv2 hμ => ?_) h hv1 hv2 hμ
  unfold wp_X5_readName_49 at h
  refine r_il2 dX5_readName_49 ?_
  refine r_al0 dX5_readName_50 ?_
  refine r_getI B fg_X5_44 kd_1 (kl kd_1) dX5_readName_51 ?_
  refine r_al0 dX5_readName_54 ?_
  refine r_getI B fg_X5_106 kd_1 (kl kd_1) dX5_readName_55 ?_
  refine r_isub dX5_readName_58 ?_
  obtain ⟨o21, h⟩ := h
  refine r_icmp_ge 91 dX5_readName_59 rfl hv2 o21 (fun c22 => ?_) (fun c22 => ?_)
  · have h := h.1 c22
    refine r_iconst dX5_readName_91 ?_
    refine r_is2 dX5_readName_92 rfl ?_
    exact J_weak (t_X5_readName_93 B hr hv1 (inR_k rfl) hμ h) (⟨rfl, ⟨rfl, ⟨rfl, trivial⟩⟩⟩)
  · have h := h.2 c22
    refine r_il1 dX5_readName_62 ?_
    refine r_al0 dX5_readName_63 ?_
    refine r_getR B 2 fg_X5_11 kd_1 (kl kd_1) (ρo (off := 1) kd_1 rfl) dX5_readName_64 ?_
    refine r_al0 dX5_readName_67 ?_
    refine r_getI B fg_X5_106 kd_1 (kl kd_1) dX5_readName_68 ?_
    refine r_il2 dX5_readName_71 ?_
    refine r_iadd dX5_readName_72 ?_
    obtain ⟨o32, h⟩ := h
    refine r_iald B kd_2 (kl kd_2) (by decide) o32 dX5_readName_73 ?_
    refine r_bipush dX5_readName_74 (by decide) ?_
    refine r_isub dX5_readName_76 ?_
    refine r_iconst dX5_readName_77 ?_
    refine r_iadd dX5_readName_78 ?_
    refine r_iconst dX5_readName_79 ?_
    refine r_il2 dX5_readName_80 ?_
    refine r_imul dX5_readName_81 ?_
    refine r_ishl dX5_readName_82 ?_
    refine r_ior dX5_readName_83 ?_
    refine n_topi (fun x33 ex33 => ?_)
    have h := h x33 ex33
    refine r_is1 dX5_readName_84 rfl ?_
    refine r_inc2 dX5_readName_85 rfl ?_
    obtain ⟨o34, h⟩ := h
    refine r_goto 49 dX5_readName_88 rfl ?_
    exact J_weak (hX49 x33 (v2 + 1) μ h (eqR ex33 (inR_t _)) o34 hμ) (⟨rfl, ⟨rfl, ⟨rfl, trivial⟩⟩⟩)
set_option maxRecDepth 20000 in
theorem c_X5_readName (l : Launch) (E : Gx) {μ : Mem} {Q : Int → Mem → Prop} (hμ : okM μ) (h : wp_X5_readName  μ Q) : MT l yX5_readName cX5_readName 3 (some .boolean) E 10 0 0 z0 [rv E 1] μ (QI E z0 Q) := by
  refine m_start [some (rv E 1), none, none] (by decide) rfl rfl rfl (fun x hxl hxc hxs B hr hnm => ?_)
  unfold wp_X5_readName at h
  refine r_al0 dX5_readName_0 ?_
  refine r_cVV0 B cb_X5_advance lk_X5_71 cv_X5_advance kd_1 (c_X5_advance (xl x) E hμ h) rfl rfl dX5_readName_1 (fun μ1 mμ1 h => ?_)
  refine r_al0 dX5_readName_4 ?_
  refine r_getI B fg_X5_57 kd_1 (kl kd_1) dX5_readName_5 ?_
  refine r_iconst dX5_readName_8 ?_
  refine r_icmp_ne 39 dX5_readName_9 rfl (mμ1 1 5) (inR_k rfl) (fun c2 => ?_) (fun c2 => ?_)
  · have h := h.1 c2
    refine r_al0 dX5_readName_39 ?_
    refine r_iconst dX5_readName_40 ?_
    refine r_cVI1 B cb_X5_fail lk_X5_60 cv_X5_fail kd_1 (c_X5_fail (xl x) E (inR_k rfl) mμ1 h) rfl rfl dX5_readName_41 (fun r4 μ3 hr4 mμ3 h => ?_)
    obtain ⟨o5, h⟩ := h
    exact r_zret B hr o5 mμ3 dX5_readName_44 h
  · have h := h.2 c2
    refine r_al0 dX5_readName_12 ?_
    refine r_ldcS B 0 rfl dX5_readName_13 ?_
    refine r_cVI1 B cb_X5_isKeyword lk_X5_76 cv_X5_isKeyword kd_1 (c_X5_isKeyword (xl x) E (by decide) mμ1 h) rfl rfl dX5_readName_15 (fun r7 μ6 hr7 mμ6 h => ?_)
    refine r_if_ne 39 dX5_readName_18 rfl hr7 (fun c8 => ?_) (fun c8 => ?_)
    · have h := h.1 c8
      refine r_al0 dX5_readName_39 ?_
      refine r_iconst dX5_readName_40 ?_
      refine r_cVI1 B cb_X5_fail lk_X5_60 cv_X5_fail kd_1 (c_X5_fail (xl x) E (inR_k rfl) mμ6 h) rfl rfl dX5_readName_41 (fun r10 μ9 hr10 mμ9 h => ?_)
      obtain ⟨o11, h⟩ := h
      exact r_zret B hr o11 mμ9 dX5_readName_44 h
    · have h := h.2 c8
      refine r_al0 dX5_readName_21 ?_
      refine r_ldcS B 1 rfl dX5_readName_22 ?_
      refine r_cVI1 B cb_X5_isKeyword lk_X5_76 cv_X5_isKeyword kd_1 (c_X5_isKeyword (xl x) E (by decide) mμ6 h) rfl rfl dX5_readName_24 (fun r13 μ12 hr13 mμ12 h => ?_)
      refine r_if_ne 39 dX5_readName_27 rfl hr13 (fun c14 => ?_) (fun c14 => ?_)
      · have h := h.1 c14
        refine r_al0 dX5_readName_39 ?_
        refine r_iconst dX5_readName_40 ?_
        refine r_cVI1 B cb_X5_fail lk_X5_60 cv_X5_fail kd_1 (c_X5_fail (xl x) E (inR_k rfl) mμ12 h) rfl rfl dX5_readName_41 (fun r16 μ15 hr16 mμ15 h => ?_)
        obtain ⟨o17, h⟩ := h
        exact r_zret B hr o17 mμ15 dX5_readName_44 h
      · have h := h.2 c14
        refine r_al0 dX5_readName_30 ?_
        refine r_ldcS B 2 rfl dX5_readName_31 ?_
        refine r_cVI1 B cb_X5_isKeyword lk_X5_76 cv_X5_isKeyword kd_1 (c_X5_isKeyword (xl x) E (by decide) mμ12 h) rfl rfl dX5_readName_33 (fun r19 μ18 hr19 mμ18 h => ?_)
        refine r_if_eq 45 dX5_readName_36 rfl hr19 (fun c20 => ?_) (fun c20 => ?_)
        · have h := h.1 c20
          refine r_iconst dX5_readName_45 ?_
          refine r_is1 dX5_readName_46 rfl ?_
          refine r_iconst dX5_readName_47 ?_
          refine r_is2 dX5_readName_48 rfl ?_
          exact J_weak (t_X5_readName_49 B hr (inR_k rfl) (inR_k rfl) mμ18 h) (⟨rfl, ⟨rfl, ⟨rfl, trivial⟩⟩⟩)
        · have h := h.2 c20
          refine r_al0 dX5_readName_39 ?_
          refine r_iconst dX5_readName_40 ?_
          refine r_cVI1 B cb_X5_fail lk_X5_60 cv_X5_fail kd_1 (c_X5_fail (xl x) E (inR_k rfl) mμ18 h) rfl rfl dX5_readName_41 (fun r36 μ35 hr36 mμ35 h => ?_)
          obtain ⟨o37, h⟩ := h
          exact r_zret B hr o37 mμ35 dX5_readName_44 h

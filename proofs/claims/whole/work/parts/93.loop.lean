/-! ===== the law: letter, the loop ===== -/
section LP
variable {x : Cx} {E : Gx} {μ : Mem} {Q : State → Prop} {b L nc ns : Nat} {sx : Nat → Int32} {i : Int}
/-- what locals 5 and 6 hold is forgotten -/
theorem lw_weak {cc : ByteArray} {z : Zs} {pc : Nat} {st : List Value} {a5 a6 : Option Value} (k : J cc x E z μ pc (lwv E b i) st Q) : J cc x E z μ pc [some (.ref b), some (rv E 0), some (rv E 115), some (rv E 125), some (iv i), a5, a6] st Q := fun hx hb H locs ls hl hP hS => by
  refine k hx hb H locs ls (lh_of hl.1 hl.2 (fun j v hj => (cv_mem _ 0 (j, v)).mpr ⟨j, ?_, (Nat.zero_add j).symm⟩)) hP hS
  match j, hj with
  | 0, hj => exact hj
  | 1, hj => exact hj
  | 2, hj => exact hj
  | 3, hj => exact hj
  | 4, hj => exact hj
  | 5, hj => cases hj
  | 6, hj => cases hj
  | _ + 7, hj => cases hj
theorem lc_40 (hst : (xl x).stackTraces = false) (B : Bd x E 60 7 "SlipCoversLaw") (S : SC x E b L sx (nc + 1) (ns + 6)) (hμ : okM μ) (hI : INV μ) (hi : 0 ≤ i ∧ i + 6 ≤ (L : Int)) (kk : ∀ μ2, okM μ2 → INV μ2 → J cL_law x E (zc (nc + 1) (ns + 6)) μ2 2094 (lwv E b i) [] Q) : J cL_law x E (zc nc ns) μ 2000 (lwv E b i) [] Q := by
  obtain ⟨o, ho, h5, h8⟩ := st_letter (c := sc sx (i + 1)) (k := sc sx (i + 2)) hI
  refine r_xl1 dL_law_2000 ?_
  refine r_arg S (by omega) dL_law_2001 dL_law_2002 dL_law_2004 dL_law_2005 dL_law_2006 ?_
  refine r_arg S (by omega) dL_law_2007 dL_law_2008 dL_law_2010 dL_law_2011 dL_law_2012 ?_
  refine r_al3 dL_law_2013 ?_
  intro hx hb H locs ls hl hP hS
  have hBB := B
  obtain ⟨hown, hts, hK, hN, hT, hml, hf, hloc, hZ, hlk⟩ := B
  have hcw : vx_CSW (xR x) (xs x) (xa x) "SlipCoversLaw" 186 yL_letter cL_letter 5 (some .int) lhh (Cond.codeWith yL_letter cL_letter 5 (some .int) lhh :: tblG) (rmD 7 1 6) 1 6 4 := by
    refine vx_cwSW 4 hts (gd_ (fun w hw => ?_)) rfl rfl rfl (by decide +kernel) ⟨by show 7 + 1 ≤ _; omega, by show 8 + (5 + 11) + 40 * 7 ≤ _; omega⟩
    unfold va_wsS at hw
    rcases List.mem_append.mp hw with hw | hw
    · rcases List.mem_cons.mp hw with rfl | hw
      · exact lk_L_186
      · rcases List.mem_cons.mp hw with rfl | hw
        · exact cs_L_letter
        · rcases List.mem_cons.mp hw with rfl | hw
          · exact ci_L
          · exact absurd hw List.not_mem_nil
    · rcases List.mem_cons.mp hw with rfl | hw
      · exact cw_L_letter
      · exact hw
  refine va_calli (vx_runSW (As := [rv E 0, iv (sc sx (i + 1)), iv (sc sx (i + 2)), rv E 125]) (rest := []) ⟨hx, hb, rfl, hown, hts⟩ (c_L_letter (xl x) hst E (sc_R _ _) (sc_R _ _) hμ ho h5) hcw ⟨wok_blind, fun U hU hW => ⟨rfl, wok_of hBB hP hS hU hW⟩⟩ rfl rfl hl.2.1 rfl (lv_room (Nat.le_of_ble_eq_true (rfl : Nat.ble (cats []) 8 = true))) dL_law_2014 ⟨S.2.2.2.2.1, S.2.2.2.2.2⟩) hS (fun q _ h => h) (fun q h => h) (fun r u t H1 locs1 ht hvm hw hB1 hz1 hk1 hS1 => ?_)
  obtain ⟨rfl, ra, hμ1, hp⟩ := hw
  have hR : rep E (zc (nc + 1) (ns + 6)) u.2 H1 := by rw [← ht]; exact hB1
  have K : J cL_law x E (zc (nc + 1) (ns + 6)) u.2 2017 (lwv E b i) [iv u.1] Q := by
    clear hR hB1 hS1 hP hS hl
    obtain ⟨r, μ1⟩ := u
    obtain ⟨P, hw8, hP8⟩ : ∃ P : Int → Mem → Prop, wp_X8_letter (sc sx (i + 1)) (sc sx (i + 2)) μ1 P ∧ ∀ r2 μ2, P r2 μ2 → (r = 1 ∧ μ2.1 115 0 = 1 ∨ r = 0 ∧ μ2.1 115 0 = 0 ∧ μ2.2 125 0 = i2l_ r2) ∧ INV μ2 := by
      rcases hp with ⟨e, e1, e2⟩ | ⟨v, e, e1, e2⟩
      · have e1 : r = 1 := e1
        have e2 : μ1 = μ := e2
        rw [e2]
        exact ⟨_, (h8 0 0).2, fun r2 μ2 h => ⟨Or.inl ⟨e1, h.2.1 e⟩, h.2.2.1⟩⟩
      · have e1 : r = 0 := e1
        have e2 : μ1 = sL μ 125 0 (i2l_ v) := e2
        rw [e2]
        refine ⟨_, (h8 0 (i2l_ v)).1, fun r2 μ2 h => ?_⟩
        obtain ⟨h1, -, h3, h4⟩ := h
        obtain ⟨h1, h2⟩ := h1 v e
        exact ⟨Or.inr ⟨e1, h2, by rw [h4, sL_s, h1]⟩, h3⟩
    have ra : inR r := ra
    have hμ1 : okM μ1 := hμ1
    refine r_is5 dL_law_2017 rfl ?_
    refine r_al2 dL_law_2019 ?_
    refine j_al0 dL_law_2020 ?_
    refine r_il4 dL_law_2021 ?_
    refine r_iconst dL_law_2023 ?_
    refine r_iadd dL_law_2024 ?_
    refine r_sld S (by omega) dL_law_2025 ?_
    refine j_al0 dL_law_2026 ?_
    refine r_il4 dL_law_2027 ?_
    refine r_iconst dL_law_2029 ?_
    refine r_iadd dL_law_2030 ?_
    refine r_sld S (by omega) dL_law_2031 ?_
    refine r_w2 hBB S cb_X8_letter lk_L_191 cv_X8_letter kd_115 (c_X8_letter (xl x) E (sc_R _ _) (sc_R _ _) hμ1 hw8) rfl rfl dL_law_2032 (fun r2 μ2 hr2 m2 h => ?_)
    refine r_is6 dL_law_2035 rfl ?_
    refine r_al2 dL_law_2037 ?_
    refine r_w0 hBB S cb_X8_thrown lk_L_192 cv_X8_thrown kd_115 (c_X8_thrown (xl x) E (Q := fun a μ3 => a = μ2.1 115 0 ∧ μ3 = μ2) m2 (by unfold wp_X8_thrown; exact ⟨rfl, rfl⟩)) rfl rfl dL_law_2038 (fun a μ3 ha m3 h3 => ?_)
    obtain ⟨rfl, rfl⟩ := h3
    refine r_il5 dL_law_2041 ?_
    obtain ⟨h, hI3⟩ := hP8 _ _ h
    refine r_icmp_eq 2048 dL_law_2043 rfl ha ra (fun _ => ?_) (fun c9 => ?_)
    · refine r_il5 dL_law_2048 ?_
      refine r_if_ne 2065 dL_law_2050 rfl ra (fun _ => r_goto 2094 dL_law_2065 rfl (lw_weak (kk _ m3 hI3))) (fun c9 => ?_)
      rcases h with ⟨e, -⟩ | ⟨-, -, e⟩
      · omega
      · refine r_al3 dL_law_2053 ?_
        refine r_iconst dL_law_2054 ?_
        refine r_lald hBB kd_125 (by show 125 < 126; decide) (by decide) ⟨by decide, by decide⟩ dL_law_2055 ?_
        refine r_il6 dL_law_2056 ?_
        refine r_i2l dL_law_2058 ?_
        refine r_lcmp dL_law_2059 ?_
        have e0 : ∀ {a b : Int64}, a = b → lcm_ a b = 0 := fun h => lcm_eq.mpr h
        refine r_if_eq 2065 dL_law_2060 rfl (by show inR (lcm_ (μ3.2 125 0) (i2l_ r2)); rw [e0 e]; exact inR_k rfl) (fun _ => r_goto 2094 dL_law_2065 rfl (lw_weak (kk _ m3 hI3))) (fun c9 => absurd (e0 e) c9)
    · rcases h with ⟨e, e2⟩ | ⟨e, e2, -⟩ <;> exact absurd (by omega) c9
  exact K hx hb H1 locs1 ls hl hR hS1
theorem iand_in (a b : Int) : inR (iand a b) := inR_t _
theorem lw_loop (hst : (xl x).stackTraces = false) (B : Bd x E 60 7 "SlipCoversLaw") (hX : va_X b L sx (xs x) (xs x).heap ∧ b < (xs x).heap.size ∧ ¬ gA E b ∧ L ≤ 3072) (hend : ∀ (nc ns : Nat) (μ : Mem) (i : Int), nc ≤ (xR x).cells → ns ≤ (xR x).slots → J cL_law x E (zc nc ns) μ 2100 (lwv E b i) [] Q) : ∀ (n nc ns : Nat) (μ : Mem) (i : Int), 0 ≤ i → (L : Int) ≤ i + 6 * (n : Int) → i ≤ 4000 → nc + n ≤ (xR x).cells → ns + 6 * n ≤ (xR x).slots → okM μ → INV μ → J cL_law x E (zc nc ns) μ 23 (lwv E b i) [] Q := by
  have hL := hX.2.2.2
  intro n
  induction n with
  | zero =>
    intro nc ns μ i h0 hn hi hc hs hμ hI
    have S : SC x E b L sx nc ns := ⟨hX.1, hX.2.1, hX.2.2.1, hX.2.2.2, by omega, by omega⟩
    refine r_xl4 dL_law_23 ?_
    refine r_sl0 dL_law_25 ?_
    refine r_slen0 S dL_law_26 ?_
    refine r_bipush dL_law_27 (by decide) ?_
    refine r_isub dL_law_29 ?_
    refine r_icmp_gt 2100 dL_law_30 rfl (by unfold inR; omega) (by unfold inR; omega) (fun _ => hend nc ns μ i (by omega) (by omega)) (fun c9 => absurd (by omega) c9)
  | succ n ih =>
    intro nc ns μ i h0 hn hi hc hs hμ hI
    have S : SC x E b L sx nc ns := ⟨hX.1, hX.2.1, hX.2.2.1, hX.2.2.2, by omega, by omega⟩
    refine r_xl4 dL_law_23 ?_
    refine r_sl0 dL_law_25 ?_
    refine r_slen0 S dL_law_26 ?_
    refine r_bipush dL_law_27 (by decide) ?_
    refine r_isub dL_law_29 ?_
    refine r_icmp_gt 2100 dL_law_30 rfl (by unfold inR; omega) (by unfold inR; omega) (fun _ => hend nc ns μ i (by omega) (by omega)) (fun c9 => ?_)
    have hi6 : 0 ≤ i ∧ i + 6 ≤ (L : Int) := by omega
    have next : ∀ μ2, okM μ2 → INV μ2 → J cL_law x E (zc nc ns) μ2 2094 (lwv E b i) [] Q := fun μ2 m2 I2 => by
      refine r_inc4 dL_law_2094 rfl ?_
      refine r_goto 23 dL_law_2097 rfl ?_
      exact ih nc ns μ2 (i + 6) (by omega) (by omega) (by omega) (by omega) (by omega) m2 I2
    have next2 : ∀ μ2, okM μ2 → INV μ2 → J cL_law x E (zc (nc + 1) (ns + 6)) μ2 2094 (lwv E b i) [] Q := fun μ2 m2 I2 => by
      refine r_inc4 dL_law_2094 rfl ?_
      refine r_goto 23 dL_law_2097 rfl ?_
      exact ih (nc + 1) (ns + 6) μ2 (i + 6) (by omega) (by omega) (by omega) (by omega) (by omega) m2 I2
    have S2 : SC x E b L sx (nc + 1) (ns + 6) := ⟨hX.1, hX.2.1, hX.2.2.1, hX.2.2.2, by omega, by omega⟩
    refine r_sl0 dL_law_33 ?_
    refine r_xl4 dL_law_34 ?_
    refine r_sld S (by omega) dL_law_36 ?_
    refine r_bipush dL_law_37 (by decide) ?_
    refine r_iand dL_law_39 ?_
    have hv := iand_in (sc sx i) 63
    generalize iand (sc sx i) 63 = v at hv ⊢
    by_cases hd : v < 0 ∨ 42 < v
    · exact r_tblO 2094 dL_law_40 hv hd rfl (next μ hμ hI)
    · obtain ⟨q, rfl⟩ : ∃ q : Nat, v = (q : Int) := ⟨v.toNat, by omega⟩
      have hq : q < 43 := by omega
      match q, hq, hv with
      | 0, _, hv => exact r_tblI 228 dL_law_40 hv (by decide) (by decide) rfl rfl (lc_0 B S hμ hI hi6 next)
      | 1, _, hv => exact r_tblI 301 dL_law_40 hv (by decide) (by decide) rfl rfl (lc_1 B S hμ hI hi6 next)
      | 2, _, hv => exact r_tblI 326 dL_law_40 hv (by decide) (by decide) rfl rfl (lc_2 B S hμ hI hi6 next)
      | 3, _, hv => exact r_tblI 339 dL_law_40 hv (by decide) (by decide) rfl rfl (lc_3 B S hμ hI hi6 next)
      | 4, _, hv => exact r_tblI 352 dL_law_40 hv (by decide) (by decide) rfl rfl (lc_4 B S hμ hI hi6 next)
      | 5, _, hv => exact r_tblI 389 dL_law_40 hv (by decide) (by decide) rfl rfl (lc_5 B S hμ hI hi6 next)
      | 6, _, hv => exact r_tblI 438 dL_law_40 hv (by decide) (by decide) rfl rfl (lc_6 B S hμ hI hi6 next)
      | 7, _, hv => exact r_tblI 475 dL_law_40 hv (by decide) (by decide) rfl rfl (lc_7 B S hμ hI hi6 next)
      | 8, _, hv => exact r_tblI 512 dL_law_40 hv (by decide) (by decide) rfl rfl (lc_8 B S hμ hI hi6 next)
      | 9, _, hv => exact r_tblI 561 dL_law_40 hv (by decide) (by decide) rfl rfl (lc_9 B S hμ hI hi6 next)
      | 10, _, hv => exact r_tblI 610 dL_law_40 hv (by decide) (by decide) rfl rfl (lc_10 B S hμ hI hi6 next)
      | 11, _, hv => exact r_tblI 647 dL_law_40 hv (by decide) (by decide) rfl rfl (lc_11 B S hμ hI hi6 next)
      | 12, _, hv => exact r_tblI 708 dL_law_40 hv (by decide) (by decide) rfl rfl (lc_12 B S hμ hI hi6 next)
      | 13, _, hv => exact r_tblI 745 dL_law_40 hv (by decide) (by decide) rfl rfl (lc_13 B S hμ hI hi6 next)
      | 14, _, hv => exact r_tblI 794 dL_law_40 hv (by decide) (by decide) rfl rfl (lc_14 B S hμ hI hi6 next)
      | 15, _, hv => exact r_tblI 843 dL_law_40 hv (by decide) (by decide) rfl rfl (lc_15 B S hμ hI hi6 next)
      | 16, _, hv => exact r_tblI 892 dL_law_40 hv (by decide) (by decide) rfl rfl (lc_16 B S hμ hI hi6 next)
      | 17, _, hv => exact r_tblI 941 dL_law_40 hv (by decide) (by decide) rfl rfl (lc_17 B S hμ hI hi6 next)
      | 18, _, hv => exact r_tblI 978 dL_law_40 hv (by decide) (by decide) rfl rfl (lc_18 B S hμ hI hi6 next)
      | 19, _, hv => exact r_tblI 1015 dL_law_40 hv (by decide) (by decide) rfl rfl (lc_19 B S hμ hI hi6 next)
      | 20, _, hv => exact r_tblI 1052 dL_law_40 hv (by decide) (by decide) rfl rfl (lc_20 B S hμ hI hi6 next)
      | 21, _, hv => exact r_tblI 1089 dL_law_40 hv (by decide) (by decide) rfl rfl (lc_21 B S hμ hI hi6 next)
      | 22, _, hv => exact r_tblI 1126 dL_law_40 hv (by decide) (by decide) rfl rfl (lc_22 B S hμ hI hi6 next)
      | 23, _, hv => exact r_tblI 1175 dL_law_40 hv (by decide) (by decide) rfl rfl (lc_23 B S hμ hI hi6 next)
      | 24, _, hv => exact r_tblI 1224 dL_law_40 hv (by decide) (by decide) rfl rfl (lc_24 B S hμ hI hi6 next)
      | 25, _, hv => exact r_tblI 1273 dL_law_40 hv (by decide) (by decide) rfl rfl (lc_25 B S hμ hI hi6 next)
      | 26, _, hv => exact r_tblI 1322 dL_law_40 hv (by decide) (by decide) rfl rfl (lc_26 B S hμ hI hi6 next)
      | 27, _, hv => exact r_tblI 1387 dL_law_40 hv (by decide) (by decide) rfl rfl (lc_27 B S hμ hI hi6 next)
      | 28, _, hv => exact r_tblI 1424 dL_law_40 hv (by decide) (by decide) rfl rfl (lc_28 B S hμ hI hi6 next)
      | 29, _, hv => exact r_tblI 1461 dL_law_40 hv (by decide) (by decide) rfl rfl (lc_29 B S hμ hI hi6 next)
      | 30, _, hv => exact r_tblI 1498 dL_law_40 hv (by decide) (by decide) rfl rfl (lc_30 B S hμ hI hi6 next)
      | 31, _, hv => exact r_tblI 1547 dL_law_40 hv (by decide) (by decide) rfl rfl (lc_31 B S hμ hI hi6 next)
      | 32, _, hv => exact r_tblI 1596 dL_law_40 hv (by decide) (by decide) rfl rfl (lc_32 B S hμ hI hi6 next)
      | 33, _, hv => exact r_tblI 1657 dL_law_40 hv (by decide) (by decide) rfl rfl (lc_33 B S hμ hI hi6 next)
      | 34, _, hv => exact r_tblI 1718 dL_law_40 hv (by decide) (by decide) rfl rfl (lc_34 B S hμ hI hi6 next)
      | 35, _, hv => exact r_tblI 1779 dL_law_40 hv (by decide) (by decide) rfl rfl (lc_35 B S hμ hI hi6 next)
      | 36, _, hv => exact r_tblI 1840 dL_law_40 hv (by decide) (by decide) rfl rfl (lc_36 B S hμ hI hi6 next)
      | 37, _, hv => exact r_tblI 1901 dL_law_40 hv (by decide) (by decide) rfl rfl (lc_37 B S hμ hI hi6 next)
      | 38, _, hv => exact r_tblI 1950 dL_law_40 hv (by decide) (by decide) rfl rfl (lc_38 B S hμ hI hi6 next)
      | 39, _, hv => exact r_tblI 1963 dL_law_40 hv (by decide) (by decide) rfl rfl (lc_39 B S hμ hI hi6 next)
      | 40, _, hv => exact r_tblI 2000 dL_law_40 hv (by decide) (by decide) rfl rfl (lc_40 hst B S2 hμ hI hi6 next2)
      | 41, _, hv => exact r_tblI 2068 dL_law_40 hv (by decide) (by decide) rfl rfl (lc_41 B S hμ hI hi6 next)
      | 42, _, hv => exact r_tblI 2081 dL_law_40 hv (by decide) (by decide) rfl rfl (lc_42 B S hμ hI hi6 next)
      | _ + 43, h, _ => exact absurd h (by omega)
end LP

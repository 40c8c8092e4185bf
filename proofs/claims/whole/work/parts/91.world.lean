/-! ===== the world once all is made ===== -/
/-- two tables of references agree where a cell has references -/
def ragree (r r' : Nat → Option Nat) (q : Nat × Nat) : Bool := match q with
  | (1, _) => true
  | (2, _) => true
  | (3, n) => (List.range n).all fun j => r j == r' j
  | (_, ci) => (List.range (fN ci)).all fun j => Nat.blt (fc ci j) 2 || r j == r' j
theorem fv_to {E : Gx} {r r' : Nat → Option Nat} {a : Nat → Int} {b : Nat → Int64} {j code : Nat} (h : (Nat.blt code 2 || r j == r' j) = true) : fv E r a b j code = fv E r' a b j code := by
  match code, h with
  | 0, _ => rfl
  | 1, _ => rfl
  | n + 2, h =>
    have e : r j = r' j := by
      rcases (Bool.or_eq_true _ _).mp h with q | q
      · exact absurd (Nat.le_of_ble_eq_true q) (by omega)
      · exact eq_of_beq q
    show va_rf (ro_ E (r j)) = va_rf (ro_ E (r' j))
    rw [e]
theorem fl_to {E : Gx} {r r' : Nat → Option Nat} {a : Nat → Int} {b : Nat → Int64} {ci : Nat} (h : ((List.range (fN ci)).all fun j => Nat.blt (fc ci j) 2 || r j == r' j) = true) : fl E r a b ci = fl E r' a b ci := by
  unfold fl
  exact List.map_congr_left fun j hj => fv_to (List.all_eq_true.mp h j hj)
theorem ent_to {E : Gx} {r r' : Nat → Option Nat} {a : Nat → Int} {b : Nat → Int64} {q : Nat × Nat} {D : va_G} {o : Nat} {H : Heap} (h : ragree r r' q = true) (hP : va_at D vwCl (o, ent E r a b q) H) : va_at D vwCl (o, ent E r' a b q) H := by
  obtain ⟨t, n⟩ := q
  match t, h, hP with
  | 0, h, hP =>
    have h : ((List.range (fN n)).all fun j => Nat.blt (fc n j) 2 || r j == r' j) = true := h
    show va_at D vwCl (o, .inr (n, fl E r' a b n)) H
    rw [← fl_to h]
    exact hP
  | 1, _, hP => exact hP
  | 2, _, hP => exact hP
  | 3, h, hP =>
    have h : ((List.range n).all fun j => r j == r' j) = true := h
    have hP : H[o]? = some (arrV (gR E) n (fun j => va_rf (ro_ E (r j)))) := hP
    show H[o]? = some (arrV (gR E) n (fun j => va_rf (ro_ E (r' j))))
    rw [hP]
    unfold arrV
    congr 2
    congr 1
    funext j
    show va_rf (ro_ E (r j.1)) = va_rf (ro_ E (r' j.1))
    rw [eq_of_beq (List.all_eq_true.mp h j.1 (List.mem_range.mpr j.2))]
  | t + 4, h, hP =>
    have h : ((List.range (fN n)).all fun j => Nat.blt (fc n j) 2 || r j == r' j) = true := h
    show va_at D vwCl (o, .inr (n, fl E r' a b n)) H
    rw [← fl_to h]
    exact hP
theorem rep_to {E : Gx} {z z' : Zs} {μ : Mem} {H : Heap} (hn : z'.2.1 = z.2.1) (h : ∀ k, k < z.2.1 → ragree (z.1 k) (z'.1 k) (kd k) = true) (hP : rep E z μ H) : rep E z' μ H := by
  intro k q hq
  have hk : k < z'.2.1 := by
    have := (List.getElem?_eq_some_iff.mp hq).1
    unfold wl at this
    rw [List.length_map, List.length_range] at this
    exact this
  rw [wl_get hk] at hq
  cases hq
  exact ent_to (h k (by omega)) (hP k _ (wl_get (by omega)))
/-- nothing is made yet -/
def ze : Zs := (fun _ _ => none, 0, 0, 0)
def μ0 : Mem := (fun _ _ => 0, fun _ _ => 0)
def zE : Zs := zP (z8 (zP (z7 (zP ze 10)) 29)) 1
def μE : Mem := sI (m7 μ0) 115 2 (-1)
set_option maxRecDepth 100000 in
theorem zE_ρ : ∀ k, k < 126 → ragree (zE.1 k) (ρ0 k) (kd k) = true := by decide +kernel
theorem z7_n (z : Zs) : (z7 z).2.1 = z.2.1 + 114 := by
  show (zL _ _ _ _).2.1 = _
  rw [(zL_n _ _ _ _).1]
  unfold z7a
  simp only [zP_n, zS_n, zC_n, zB_n, zG_n, zH_n, zR_n, zQ_n, zX_n]
theorem z8_n (z : Zs) : (z8 z).2.1 = z.2.1 + 9 := rfl
theorem zE_n : zE.2.1 = 126 := by
  show (z8 _).2.1 + 1 = _
  rw [z8_n, zP_n, z7_n]
  rfl
theorem okM_0 : okM μ0 := fun _ _ => inR_k rfl
theorem FR_0 : FRz ze μ0 := fun _ _ _ => ⟨rfl, rfl, rfl⟩
theorem FRz.r7 {z : Zs} {μ : Mem} (h : FRz z μ) (hk : z.2.1 = 1) : FRz (z7 z) (m7 μ) := by
  have F := (((h.P (n := 12)).R (by show z.2.1 + 1 = 2; omega)).S (k := 0) (j := 0) (t := 1) (by rw [zR_n]; omega)).P (n := 8)
  have F := F.S (k := 0) (j := 1) (t := 22) (by simp only [zP_n, zS_n, zR_n]; omega)
  have F := ((F.P (n := 7)).C (k := 23) (by simp only [zP_n, zS_n, zR_n]; omega)).S (k := 0) (j := 2) (t := 23) (by simp only [zP_n, zS_n, zR_n, zC_n]; omega)
  have F := ((F.P (n := 4)).H (by simp only [zP_n, zS_n, zR_n, zC_n]; omega)).S (k := 0) (j := 3) (t := 27) (by simp only [zP_n, zS_n, zR_n, zC_n, zH_n]; omega)
  have F := ((F.P (n := 6)).G (by simp only [zP_n, zS_n, zR_n, zC_n, zH_n]; omega)).S (k := 0) (j := 4) (t := 70) (by simp only [zP_n, zS_n, zR_n, zC_n, zH_n, zG_n]; omega)
  have F := ((F.P (n := 6)).Q (by simp only [zP_n, zS_n, zR_n, zC_n, zH_n, zG_n]; omega)).S (k := 0) (j := 5) (t := 74) (by simp only [zP_n, zS_n, zR_n, zC_n, zH_n, zG_n, zQ_n]; omega)
  have F := ((F.P (n := 8)).X (by simp only [zP_n, zS_n, zR_n, zC_n, zH_n, zG_n, zQ_n]; omega)).S (k := 0) (j := 6) (t := 79) (by simp only [zP_n, zS_n, zR_n, zC_n, zH_n, zG_n, zQ_n, zX_n]; omega)
  have F := F.I (k := 0) (j := 9) (v := -1) (by simp only [zP_n, zS_n, zR_n, zC_n, zH_n, zG_n, zQ_n, zX_n]; omega)
  exact F.L (arr := 22) (base := 83) (by simp only [zP_n, zS_n, zR_n, zC_n, zH_n, zG_n, zQ_n, zX_n]; omega) (by omega) 8
theorem mL_j (base : Nat) (μ : Mem) {q j : Nat} (h : j ≠ 2) : ∀ n, (mL base μ n).1 q j = μ.1 q j
  | 0 => rfl
  | n + 1 => by
    show (sI (mL base μ n) _ 2 1).1 q j = _
    rw [sI_nj h]; exact mL_j base μ h n
theorem mL_o (base : Nat) (μ : Mem) {q : Nat} : ∀ n, (q < base ∨ base + 4 * n ≤ q) → (mL base μ n).1 q = μ.1 q
  | 0, _ => rfl
  | n + 1, h => by
    show (sI (mL base μ n) _ 2 1).1 q = _
    rw [sI_ne (by omega)]; exact mL_o base μ n (by omega)
theorem mL_2 (base : Nat) (μ : Mem) : ∀ n, (mL base μ n).2 = μ.2
  | 0 => rfl
  | n + 1 => mL_2 base μ n
theorem m7_2 (μ : Mem) : (m7 μ).2 = μ.2 := by
  unfold m7
  rw [mL_2, sI_2, mL_2, sI_2, mL_2]
theorem μE_hi {q : Nat} (h : 116 ≤ q) : μE.1 q = fun _ => 0 := by
  unfold μE m7
  rw [sI_ne (by omega), mL_o _ _ _ (by omega), sI_ne (by omega), mL_o _ _ _ (by omega), sI_ne (by omega), mL_o _ _ _ (by omega)]
  rfl
theorem okM_E : okM μE := by
  unfold μE m7
  exact okM_sI (okM_mL (okM_sI (okM_mL (okM_sI (okM_mL okM_0 4) (inR_k rfl)) 10) (inR_k rfl)) 8) (inR_k rfl)
theorem μE_c : ∀ c, c < 8 → μE.1 (83 + 4 * c) 0 = 0 ∧ μE.1 (83 + 4 * c) 1 = 0 ∧ μE.1 (83 + 4 * c) 2 = 1 ∧ μE.1 (83 + 4 * c) 3 = 0 := by decide +kernel
theorem INV_E : INV μE := by
  refine ⟨fun _ => C0, [], [], fun _ => 0, 0, ?_, ?_, ?_, ?_, ?_, ?_, ?_, ?_, ?_, ?_, ?_⟩
  · intro c hc
    obtain ⟨h0, h1, h2, h3⟩ := μE_c c hc
    refine ⟨⟨by rw [h0]; rfl, by rw [h1]; rfl, by rw [h2]; rfl, by rw [h3]; show (0 : Int) = ((ctF (cM C0) (cW C0) : Nat) : Int); decide, fun i hi => absurd hi (Nat.not_lt_zero i), fun w hw => ?_⟩, okC_0⟩
    have e : μE.2 = μ0.2 := by unfold μE; rw [sI_2, m7_2]
    rw [e]
    exact bt_0 _
  · exact ⟨by decide +kernel, by decide, 0, by decide +kernel, by decide, fun i hi => absurd hi (Nat.not_lt_zero i)⟩
  · exact ⟨by decide +kernel, by decide, fun i hi => absurd hi (Nat.not_lt_zero i)⟩
  · exact ⟨by decide +kernel, by decide, fun i hi => absurd hi (Nat.not_lt_zero i)⟩
  · intro c hc
    refine ⟨?_, okC_0⟩
    unfold mrow
    rw [μE_hi (by omega)]
    exact ⟨rfl, fun i hi => absurd hi (Nat.not_lt_zero i), fun w hw => rfl⟩
  · exact ⟨by decide +kernel, by decide, fun i hi => absurd hi (Nat.not_lt_zero i)⟩
  · exact ⟨by decide +kernel, by decide, fun i hi => absurd hi (Nat.not_lt_zero i)⟩
  · exact ⟨by decide +kernel, by decide, fun i hi => absurd hi (Nat.not_lt_zero i)⟩
  · decide +kernel
  · decide +kernel
  · decide +kernel
/-- the law's beginning: all is made -/
theorem lw_begin {x : Cx} {E : Gx} {Q : State → Prop} {b : Nat} (B : Bd x E 60 7 "SlipCoversLaw") (hAO : va_AO "SlipCovers$Code" (xs x)) (hg : (xs x).heap.size = gZ E) (hc : 126 ≤ (xR x).cells) (hs : 29141 ≤ (xR x).slots) (k : J cL_law x E (zc 126 29141) μE 23 (lwv E b 0) [] Q) : J cL_law x E (zz ze 0 0) μ0 0 [some (.ref b), none, none, none, none, none, none] [] Q := by
  have n7 : (z7 (zP ze 10)).2.1 = 115 := z7_n _
  have n8 : (z8 (zP (z7 (zP ze 10)) 29)).2.1 = 125 := by rw [z8_n, zP_n, z7_n]; rfl
  have F7 : FRz (z7 (zP ze 10)) (m7 μ0) := (FR_0.P (n := 10)).r7 rfl
  have F8 : FRz (z8 (zP (z7 (zP ze 10)) 29)) μE := by
    have F := F7.P (n := 29)
    have hk : (zP (z7 (zP ze 10)) 29).2.1 = 116 := by rw [zP_n, n7]
    revert F hk
    generalize zP (z7 (zP ze 10)) 29 = w
    intro F hk
    unfold z8 μE
    have F := (F.P (n := 600)).S (k := 115) (j := 3) (t := 116) (by simp only [zP_n, zS_n]; omega)
    have F := (F.P (n := 3822)).S (k := 115) (j := 13) (t := 117) (by simp only [zP_n, zS_n]; omega)
    have F := (F.P (n := 21840)).S (k := 115) (j := 14) (t := 118) (by simp only [zP_n, zS_n]; omega)
    have F := (F.P (n := 4)).S (k := 115) (j := 15) (t := 119) (by simp only [zP_n, zS_n]; omega)
    have F := (F.P (n := 4)).S (k := 115) (j := 16) (t := 120) (by simp only [zP_n, zS_n]; omega)
    have F := (F.P (n := 256)).S (k := 115) (j := 20) (t := 121) (by simp only [zP_n, zS_n]; omega)
    have F := (F.P (n := 81)).S (k := 115) (j := 21) (t := 122) (by simp only [zP_n, zS_n]; omega)
    have F := (F.P (n := 81)).S (k := 115) (j := 22) (t := 123) (by simp only [zP_n, zS_n]; omega)
    have F := (F.P (n := 8)).S (k := 115) (j := 23) (t := 124) (by simp only [zP_n, zS_n]; omega)
    exact F.I (by simp only [zP_n, zS_n]; omega)
  refine k_newC B (t := 0) hg FR_0 rfl kd_0 nw_L_8 (by omega) (by show 0 + 10 ≤ _; omega) dL_law_0 ?_
  rw [show fN 7 = 10 from rfl]
  refine r_dup rfl dL_law_3 ?_
  refine k_cI B hAO (by show (xs x).heap.size + 1 = gZ E + 1; omega) cb_X7_init lk_L_15 im_X7_init rfl rfl (c_X7_init (xl x) E rfl (FR_0.P (n := 10)) okM_0) (by omega) (by show 10 + 2405 ≤ _; omega) rfl dL_law_4 (fun hμ7 => ?_)
  refine r_as1 dL_law_7 rfl ?_
  refine k_newC B (t := 115) (by show (xs x).heap.size + 115 = gZ E + (z7 (zP ze 10)).2.1; rw [n7]; omega) F7 n7 kd_115 nw_L_16 (by omega) (by show 10 + 2405 + 29 ≤ _; omega) dL_law_8 ?_
  rw [show fN 8 = 29 from rfl]
  refine r_dup rfl dL_law_11 ?_
  refine k_cI B hAO (by show (xs x).heap.size + 116 = gZ E + ((z7 (zP ze 10)).2.1 + 1); rw [n7]; omega) cb_X8_init lk_L_18 im_X8_init rfl rfl (c_X8_init (xl x) E (by show (z7 (zP ze 10)).2.1 + 1 = 116; rw [n7]) (F7.P (n := 29)) hμ7) (by omega) (by show 10 + 2405 + 29 + 26696 ≤ _; omega) rfl dL_law_12 (fun hμ8 => ?_)
  refine r_as2 dL_law_15 rfl ?_
  refine r_iconst dL_law_16 ?_
  refine k_newL (n := 1) B (t := 125) (by show (xs x).heap.size + 125 = gZ E + (z8 (zP (z7 (zP ze 10)) 29)).2.1; rw [n8]; omega) F8 n8 kd_125 (by omega) aw_L (by omega) (by show 10 + 2405 + 29 + 26696 + 1 ≤ _; omega) dL_law_17 ?_
  refine r_as3 dL_law_19 rfl ?_
  refine r_iconst dL_law_20 ?_
  refine r_is4 dL_law_21 rfl ?_
  intro hx hb H locs ls hl hP hS
  refine k hx hb H locs ls hl (rep_to (z' := zc 126 29141) ?_ ?_ hP) hS
  · exact zE_n.symm
  · intro k hk
    have hk : k < zE.2.1 := hk
    rw [zE_n] at hk
    show ragree ((zP (z8 (zP (z7 (zP ze 10)) 29)) 1).1 k) (ρ0 k) (kd k) = true
    exact zE_ρ k hk

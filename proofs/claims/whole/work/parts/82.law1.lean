/-! ===== both side by side ===== -/
/-- both say the same -/
def IV (μ : Mem) (cs : Nat → Cd) (hs : List (Nat → Cd)) (nl : List (List Nat)) (T : Nat → Int) (n : Nat) : Prop := krs μ cs ∧ khs μ cs hs ∧ kNm μ nl ∧ kT μ T n ∧ mrs μ cs ∧ mhs μ hs ∧ mN μ nl ∧ mT μ T n ∧ μ.1 0 7 = μ.1 115 7 ∧ μ.1 0 8 = μ.1 115 1 ∧ μ.1 0 9 = μ.1 115 2
def INV (μ : Mem) : Prop := ∃ cs hs nl T n, IV μ cs hs nl T n
theorem mrs.same {μ μ' : Mem} {cs : Nat → Cd} (h : mrs μ cs) (e : μ'.1 117 = μ.1 117) : mrs μ' cs := fun c hc => ⟨(h c hc).1.to e, (h c hc).2⟩
theorem mN.same {μ μ' : Mem} {nl : List (List Nat)} (h : mN μ nl) (e : μ'.1 115 17 = μ.1 115 17) (e2 : μ'.2 119 = μ.2 119) : mN μ' nl := by
  unfold mN at *
  rw [e, e2]; exact h
theorem mT.same {μ μ' : Mem} {T : Nat → Int} {n : Nat} (h : mT μ T n) (e : μ'.1 115 4 = μ.1 115 4) (e2 : μ'.1 116 = μ.1 116) : mT μ' T n := by
  unfold mT at *
  rw [e, e2]; exact h
theorem kNm.same {μ μ' : Mem} {nl : List (List Nat)} (h : kNm μ nl) (e : μ'.1 1 11 = μ.1 1 11) (e2 : μ'.1 5 = μ.1 5) : kNm μ' nl := by
  unfold kNm at *
  rw [e, e2]; exact h
theorem kT.same {μ μ' : Mem} {T : Nat → Int} {n : Nat} (h : kT μ T n) (e : μ'.1 1 1 = μ.1 1 1) (e2 : μ'.1 2 = μ.1 2) : kT μ' T n := by
  unfold kT at *
  rw [e, e2]; exact h
section SB
variable {μ : Mem} {cs : Nat → Cd} {hs : List (Nat → Cd)} {nl : List (List Nat)} {T : Nat → Int} {n : Nat}
theorem pQ {W7 : (Int → Mem → Prop) → Prop} {W8 : Mem → (Int → Mem → Prop) → Prop} {o : Int × Int} (h : IV μ cs hs nl T n) (H7 : ∀ Q, KH Q μ o → W7 Q) (H8 : ∀ μ1 Q, mrs μ1 cs → QH Q μ1 o → W8 μ1 Q) : W7 (fun r1 μ1 => W8 μ1 (fun r2 μ2 => r1 = r2 ∧ INV μ2)) := by
  obtain ⟨h1, h2, h3, h4, h5, h6, h7, h8, h9, h10, h11⟩ := h
  refine H7 _ (fun μ1 k1 t1 => H8 μ1 _ (h5.same (k1.1 117 (by omega) (by omega)).1) (fun μ2 k2 t2 => ⟨rfl, cs, hs, nl, T, n, ?_⟩))
  have lo : ∀ q, q < 115 → μ2.1 q = μ1.1 q ∧ μ2.2 q = μ1.2 q := fun q hq => k2.1 q (by omega)
  have hi : ∀ q, 115 ≤ q → μ1.1 q = μ.1 q ∧ μ1.2 q = μ.2 q := fun q hq => k1.1 q (by omega) (by omega)
  have s115 : ∀ j, 3 ≤ j → j ≤ 23 → μ2.1 115 j = μ.1 115 j := fun j a b => by rw [k2.2.1 j a b, (hi 115 (by omega)).1]
  refine ⟨(h1.to k1).h fun q a b => lo q (by omega), (h2.to k1.kf).h fun q a b => lo q (by omega), h3.same ?_ ?_, h4.same ?_ ?_, (h5.same (hi 117 (by omega)).1).to k2, h6.to ?_ (s115 19 (by omega) (by omega)), h7.same (s115 17 (by omega) (by omega)) ?_, h8.same (s115 4 (by omega) (by omega)) ?_, ?_, ?_, ?_⟩
  · rw [(lo 1 (by omega)).1, (k1.1 1 (by omega) (by omega)).1]
  · rw [(lo 5 (by omega)).1, (k1.1 5 (by omega) (by omega)).1]
  · rw [(lo 1 (by omega)).1, (k1.1 1 (by omega) (by omega)).1]
  · rw [(lo 2 (by omega)).1, (k1.1 2 (by omega) (by omega)).1]
  · rw [(k2.1 118 (by omega)).1, (hi 118 (by omega)).1]
  · rw [(k2.1 119 (by omega)).2, (hi 119 (by omega)).2]
  · rw [(k2.1 116 (by omega)).1, (hi 116 (by omega)).1]
  · rw [(lo 0 (by omega)).1, k1.2.1 7 (by omega) (by omega), h9, s115 7 (by omega) (by omega)]
  · rw [(lo 0 (by omega)).1, t1.1, t2.2.1]
  · rw [(lo 0 (by omega)).1, t1.2, t2.2.2]
theorem pA {W7 : (Int → Mem → Prop) → Prop} {W8 : Mem → (Int → Mem → Prop) → Prop} {R : AR} (h : IV μ cs hs nl T n) (H7 : ∀ Q, KA Q μ R → W7 Q) (H8 : ∀ μ1 Q, mrs μ1 cs → mhs μ1 hs → QB Q μ1 R → W8 μ1 Q) : W7 (fun r1 μ1 => W8 μ1 (fun r2 μ2 => r1 = r2 ∧ INV μ2)) := by
  obtain ⟨h1, h2, h3, h4, h5, h6, h7, h8, h9, h10, h11⟩ := h
  have hi : ∀ μ1, ka μ μ1 → ∀ q, 115 ≤ q → μ1.1 q = μ.1 q ∧ μ1.2 q = μ.2 q := fun μ1 k1 q hq => k1.1 q (by omega) (by omega)
  refine H7 _ (fun μ1 k1 R1 K1 t1 => H8 μ1 _ (h5.same (hi μ1 k1 117 (by omega)).1) (h6.to (hi μ1 k1 118 (by omega)).1 (by rw [(hi μ1 k1 115 (by omega)).1])) (fun μ2 k2 R2 K2 t2 => ⟨rfl, R.2.1, R.2.2, nl, T, n, ?_⟩))
  have lo : ∀ q, q < 115 → μ2.1 q = μ1.1 q ∧ μ2.2 q = μ1.2 q := fun q hq => k2.1 q (by omega)
  refine ⟨R1.h fun q a b => lo q (by omega), K1.h fun q a b => lo q (by omega), h3.same ?_ ?_, h4.same ?_ ?_, R2, K2, h7.same ?_ ?_, h8.same ?_ ?_, ?_, ?_, ?_⟩
  · rw [(lo 1 (by omega)).1, (k1.1 1 (by omega) (by omega)).1]
  · rw [(lo 5 (by omega)).1, (k1.1 5 (by omega) (by omega)).1]
  · rw [(lo 1 (by omega)).1, (k1.1 1 (by omega) (by omega)).1]
  · rw [(lo 2 (by omega)).1, (k1.1 2 (by omega) (by omega)).1]
  · rw [k2.2.2.2, (hi μ1 k1 115 (by omega)).1]
  · rw [(k2.1 119 (by omega)).2, (hi μ1 k1 119 (by omega)).2]
  · rw [k2.2.1, (hi μ1 k1 115 (by omega)).1]
  · rw [(k2.1 116 (by omega)).1, (hi μ1 k1 116 (by omega)).1]
  · rw [(lo 0 (by omega)).1, k1.2.1 7 (by omega) (by omega), h9, k2.2.2.1, (hi μ1 k1 115 (by omega)).1]
  · rw [(lo 0 (by omega)).1, t1.1, t2.2.1]
  · rw [(lo 0 (by omega)).1, t1.2, t2.2.2]
/-- the reference's 'thrown' alone has moved -/
theorem IV.th {v : Int} (h : IV μ cs hs nl T n) : IV (sI μ 115 0 v) cs hs nl T n := by
  obtain ⟨h1, h2, h3, h4, h5, h6, h7, h8, h9, h10, h11⟩ := h
  have lo : ∀ q, q ≠ 115 → (sI μ 115 0 v).1 q = μ.1 q := fun q a => sI_ne a
  exact ⟨h1.h fun q a b => ⟨lo q (by omega), rfl⟩, h2.h fun q a b => ⟨lo q (by omega), rfl⟩, h3.same (by rw [lo 1 (by omega)]) (lo 5 (by omega)), h4.same (by rw [lo 1 (by omega)]) (lo 2 (by omega)), h5.same (lo 117 (by omega)), h6.to (lo 118 (by omega)) (sI_nj (by omega)), h7.same (sI_nj (by omega)) rfl, h8.same (sI_nj (by omega)) (lo 116 (by omega)), by rw [lo 0 (by omega), sI_nj (by omega)]; exact h9, by rw [lo 0 (by omega), sI_nj (by omega)]; exact h10, by rw [lo 0 (by omega), sI_nj (by omega)]; exact h11⟩

theorem st_about {c a : Int} (h : INV μ) : wp_X7_about c a μ (fun r1 μ1 => wp_X8_about c a μ1 (fun r2 μ2 => r1 = r2 ∧ INV μ2)) := by
  obtain ⟨cs, hs, nl, T, n, h⟩ := h
  exact pQ (W7 := wp_X7_about c a μ) (W8 := wp_X8_about c a) (o := q_about cs c a) h (fun Q q => s7_about h.1 q) (fun μ1 Q m q => s8_about m q)
theorem st_place {c i a : Int} (h : INV μ) : wp_X7_place c i a μ (fun r1 μ1 => wp_X8_place c i a μ1 (fun r2 μ2 => r1 = r2 ∧ INV μ2)) := by
  obtain ⟨cs, hs, nl, T, n, h⟩ := h
  exact pQ (W7 := wp_X7_place c i a μ) (W8 := wp_X8_place c i a) (o := q_place cs c i a) h (fun Q q => s7_place h.1 q) (fun μ1 Q m q => s8_place m q)
theorem st_word {c k : Int} (rk : inR k) (h : INV μ) : wp_X7_word c k μ (fun r1 μ1 => wp_X8_word c k μ1 (fun r2 μ2 => r1 = r2 ∧ INV μ2)) := by
  obtain ⟨cs, hs, nl, T, n, h⟩ := h
  exact pQ (W7 := wp_X7_word c k μ) (W8 := wp_X8_word c k) (o := q_word cs c k) h (fun Q q => s7_word h.1 rk q) (fun μ1 Q m q => s8_word m rk q)
theorem st_has {c w : Int} (h : INV μ) : wp_X7_has c w μ (fun r1 μ1 => wp_X8_has c w μ1 (fun r2 μ2 => r1 = r2 ∧ INV μ2)) := by
  obtain ⟨cs, hs, nl, T, n, h⟩ := h
  exact pQ (W7 := wp_X7_has c w μ) (W8 := wp_X8_has c w) (o := q_has cs c w) h (fun Q q => s7_has h.1 q) (fun μ1 Q m q => s8_has m q)
theorem st_digit {c w i : Int} (h : INV μ) : wp_X7_digit c w i μ (fun r1 μ1 => wp_X8_digit c w i μ1 (fun r2 μ2 => r1 = r2 ∧ INV μ2)) := by
  obtain ⟨cs, hs, nl, T, n, h⟩ := h
  exact pQ (W7 := wp_X7_digit c w i μ) (W8 := wp_X8_digit c w i) (o := q_digit cs c w i) h (fun Q q => s7_digit h.1 q) (fun μ1 Q m q => s8_digit m q)
theorem st_far {c w v : Int} (h : INV μ) : wp_X7_far c w v μ (fun r1 μ1 => wp_X8_far c w v μ1 (fun r2 μ2 => r1 = r2 ∧ INV μ2)) := by
  obtain ⟨cs, hs, nl, T, n, h⟩ := h
  exact pQ (W7 := wp_X7_far c w v μ) (W8 := wp_X8_far c w v) (o := q_far cs c w v) h (fun Q q => s7_far h.1 q) (fun μ1 Q m q => s8_far m q)
theorem st_ball {c r : Int} (h : INV μ) : wp_X7_ball c r μ (fun r1 μ1 => wp_X8_ball c r μ1 (fun r2 μ2 => r1 = r2 ∧ INV μ2)) := by
  obtain ⟨cs, hs, nl, T, n, h⟩ := h
  exact pQ (W7 := wp_X7_ball c r μ) (W8 := wp_X8_ball c r) (o := q_ball cs c r) h (fun Q q => s7_ball h.1 q) (fun μ1 Q m q => s8_ball m q)
theorem st_ballAt {c w r k : Int} (rk : inR k) (h : INV μ) : wp_X7_ballAt c w r k μ (fun r1 μ1 => wp_X8_ballAt c w r k μ1 (fun r2 μ2 => r1 = r2 ∧ INV μ2)) := by
  obtain ⟨cs, hs, nl, T, n, h⟩ := h
  exact pQ (W7 := wp_X7_ballAt c w r k μ) (W8 := wp_X8_ballAt c w r k) (o := q_ballAt cs c w r k) h (fun Q q => s7_ballAt h.1 rk q) (fun μ1 Q m q => s8_ballAt m rk q)
theorem st_covered {c r : Int} (h : INV μ) : wp_X7_covered c r μ (fun r1 μ1 => wp_X8_covered c r μ1 (fun r2 μ2 => r1 = r2 ∧ INV μ2)) := by
  obtain ⟨cs, hs, nl, T, n, h⟩ := h
  exact pQ (W7 := wp_X7_covered c r μ) (W8 := wp_X8_covered c r) (o := q_covered cs c r) h (fun Q q => s7_covered h.1 q) (fun μ1 Q m q => s8_covered m q)
theorem st_times {c w r : Int} (h : INV μ) : wp_X7_times c w r μ (fun r1 μ1 => wp_X8_times c w r μ1 (fun r2 μ2 => r1 = r2 ∧ INV μ2)) := by
  obtain ⟨cs, hs, nl, T, n, h⟩ := h
  exact pQ (W7 := wp_X7_times c w r μ) (W8 := wp_X8_times c w r) (o := q_times cs c w r) h (fun Q q => s7_times h.1 q) (fun μ1 Q m q => s8_times m q)
theorem st_table {c r k : Int} (h : INV μ) : wp_X7_table c r k μ (fun r1 μ1 => wp_X8_table c r k μ1 (fun r2 μ2 => r1 = r2 ∧ INV μ2)) := by
  obtain ⟨cs, hs, nl, T, n, h⟩ := h
  exact pQ (W7 := wp_X7_table c r k μ) (W8 := wp_X8_table c r k) (o := q_table cs c r k) h (fun Q q => s7_table h.1 q) (fun μ1 Q m q => s8_table m q)
theorem st_hole {c r k : Int} (rk : inR k) (h : INV μ) : wp_X7_hole c r k μ (fun r1 μ1 => wp_X8_hole c r k μ1 (fun r2 μ2 => r1 = r2 ∧ INV μ2)) := by
  obtain ⟨cs, hs, nl, T, n, h⟩ := h
  exact pQ (W7 := wp_X7_hole c r k μ) (W8 := wp_X8_hole c r k) (o := q_hole cs c r k) h (fun Q q => s7_hole h.1 rk q) (fun μ1 Q m q => s8_hole m rk q)
theorem st_idle {c r k : Int} (rk : inR k) (h : INV μ) : wp_X7_idle c r k μ (fun r1 μ1 => wp_X8_idle c r k μ1 (fun r2 μ2 => r1 = r2 ∧ INV μ2)) := by
  obtain ⟨cs, hs, nl, T, n, h⟩ := h
  exact pQ (W7 := wp_X7_idle c r k μ) (W8 := wp_X8_idle c r k) (o := q_idle cs c r k) h (fun Q q => s7_idle h.1 rk q) (fun μ1 Q m q => s8_idle m rk q)
theorem st_excess {c r : Int} (h : INV μ) : wp_X7_excess c r μ (fun r1 μ1 => wp_X8_excess c r μ1 (fun r2 μ2 => r1 = r2 ∧ INV μ2)) := by
  obtain ⟨cs, hs, nl, T, n, h⟩ := h
  exact pQ (W7 := wp_X7_excess c r μ) (W8 := wp_X8_excess c r) (o := q_excess cs c r) h (fun Q q => s7_excess h.1 q) (fun μ1 Q m q => s8_excess m q)
theorem st_bound {c r : Int} (h : INV μ) : wp_X7_bound c r μ (fun r1 μ1 => wp_X8_bound c r μ1 (fun r2 μ2 => r1 = r2 ∧ INV μ2)) := by
  obtain ⟨cs, hs, nl, T, n, h⟩ := h
  exact pQ (W7 := wp_X7_bound c r μ) (W8 := wp_X8_bound c r) (o := q_bound cs c r) h (fun Q q => s7_bound h.1 q) (fun μ1 Q m q => s8_bound m q)
theorem st_pairs {c k : Int} (h : INV μ) : wp_X7_pairs c k μ (fun r1 μ1 => wp_X8_pairs c k μ1 (fun r2 μ2 => r1 = r2 ∧ INV μ2)) := by
  obtain ⟨cs, hs, nl, T, n, h⟩ := h
  exact pQ (W7 := wp_X7_pairs c k μ) (W8 := wp_X8_pairs c k) (o := q_pairs cs c k) h (fun Q q => s7_pairs h.1 q) (fun μ1 Q m q => s8_pairs m q)
theorem st_centre {c a : Int} (h : INV μ) : wp_X7_centre c a μ (fun r1 μ1 => wp_X8_centre c a μ1 (fun r2 μ2 => r1 = r2 ∧ INV μ2)) := by
  obtain ⟨cs, hs, nl, T, n, h⟩ := h
  exact pQ (W7 := wp_X7_centre c a μ) (W8 := wp_X8_centre c a) (o := q_centre cs c a) h (fun Q q => s7_centre h.1 q) (fun μ1 Q m q => s8_centre m q)
theorem st_nearest {c w : Int} (h : INV μ) : wp_X7_nearest c w μ (fun r1 μ1 => wp_X8_nearest c w μ1 (fun r2 μ2 => r1 = r2 ∧ INV μ2)) := by
  obtain ⟨cs, hs, nl, T, n, h⟩ := h
  exact pQ (W7 := wp_X7_nearest c w μ) (W8 := wp_X8_nearest c w) (o := q_nearest cs c w) h (fun Q q => s7_nearest h.1 q) (fun μ1 Q m q => s8_nearest m q)
theorem st_ring {c w k : Int} (h : INV μ) : wp_X7_ring c w k μ (fun r1 μ1 => wp_X8_ring c w k μ1 (fun r2 μ2 => r1 = r2 ∧ INV μ2)) := by
  obtain ⟨cs, hs, nl, T, n, h⟩ := h
  exact pQ (W7 := wp_X7_ring c w k μ) (W8 := wp_X8_ring c w k) (o := q_ring cs c w k) h (fun Q q => s7_ring h.1 q) (fun μ1 Q m q => s8_ring m q)
theorem st_column {c i d : Int} (h : INV μ) : wp_X7_column c i d μ (fun r1 μ1 => wp_X8_column c i d μ1 (fun r2 μ2 => r1 = r2 ∧ INV μ2)) := by
  obtain ⟨cs, hs, nl, T, n, h⟩ := h
  exact pQ (W7 := wp_X7_column c i d μ) (W8 := wp_X8_column c i d) (o := q_column cs c i d) h (fun Q q => s7_column h.1 q) (fun μ1 Q m q => s8_column m q)
theorem st_worth {c w r : Int} (h : INV μ) : wp_X7_worth c w r μ (fun r1 μ1 => wp_X8_worth c w r μ1 (fun r2 μ2 => r1 = r2 ∧ INV μ2)) := by
  obtain ⟨cs, hs, nl, T, n, h⟩ := h
  exact pQ (W7 := wp_X7_worth c w r μ) (W8 := wp_X8_worth c w r) (o := q_worth cs c w r) h (fun Q q => s7_worth h.1 q) (fun μ1 Q m q => s8_worth m q)
theorem st_fewest {c r a : Int} (h : INV μ) : wp_X7_fewest c r a μ (fun r1 μ1 => wp_X8_fewest c r a μ1 (fun r2 μ2 => r1 = r2 ∧ INV μ2)) := by
  obtain ⟨cs, hs, nl, T, n, h⟩ := h
  exact pQ (W7 := wp_X7_fewest c r a μ) (W8 := wp_X8_fewest c r a) (o := q_fewest cs c r a) h (fun Q q => s7_fewest h.1 q) (fun μ1 Q m q => s8_fewest m q)
theorem st_same {c d : Int} (h : INV μ) : wp_X7_same c d μ (fun r1 μ1 => wp_X8_same c d μ1 (fun r2 μ2 => r1 = r2 ∧ INV μ2)) := by
  obtain ⟨cs, hs, nl, T, n, h⟩ := h
  exact pQ (W7 := wp_X7_same c d μ) (W8 := wp_X8_same c d) (o := q_same cs c d) h (fun Q q => s7_same h.1 q) (fun μ1 Q m q => s8_same m q)
theorem st_greedy {c r : Int} (h : INV μ) : wp_X7_greedy c r μ (fun r1 μ1 => wp_X8_greedy c r μ1 (fun r2 μ2 => r1 = r2 ∧ INV μ2)) := by
  obtain ⟨cs, hs, nl, T, n, h⟩ := h
  exact pA (W7 := wp_X7_greedy c r μ) (W8 := wp_X8_greedy c r) (R := a_greedy cs hs c r) h (fun Q q => s7_greedy h.1 h.2.1 q) (fun μ1 Q m1 m2 q => s8_greedy m1 m2 q)
theorem st_thin {c r : Int} (h : INV μ) : wp_X7_thin c r μ (fun r1 μ1 => wp_X8_thin c r μ1 (fun r2 μ2 => r1 = r2 ∧ INV μ2)) := by
  obtain ⟨cs, hs, nl, T, n, h⟩ := h
  exact pA (W7 := wp_X7_thin c r μ) (W8 := wp_X8_thin c r) (R := a_thin cs hs c r) h (fun Q q => s7_thin h.1 h.2.1 q) (fun μ1 Q m1 m2 q => s8_thin m1 m2 q)
theorem st_better {c r : Int} (h : INV μ) : wp_X7_better c r μ (fun r1 μ1 => wp_X8_better c r μ1 (fun r2 μ2 => r1 = r2 ∧ INV μ2)) := by
  obtain ⟨cs, hs, nl, T, n, h⟩ := h
  exact pA (W7 := wp_X7_better c r μ) (W8 := wp_X8_better c r) (R := a_better cs hs c r) h (fun Q q => s7_better h.1 h.2.1 q) (fun μ1 Q m1 m2 q => s8_better m1 m2 q)
theorem st_sum {to one other : Int} (h : INV μ) : wp_X7_sum to one other μ (fun r1 μ1 => wp_X8_sum to one other μ1 (fun r2 μ2 => r1 = r2 ∧ INV μ2)) := by
  obtain ⟨cs, hs, nl, T, n, h⟩ := h
  exact pA (W7 := wp_X7_sum to one other μ) (W8 := wp_X8_sum to one other) (R := a_sum cs hs to one other) h (fun Q q => s7_sum h.1 h.2.1 q) (fun μ1 Q m1 m2 q => s8_sum m1 m2 q)
theorem st_join {to one other : Int} (h : INV μ) : wp_X7_join to one other μ (fun r1 μ1 => wp_X8_join to one other μ1 (fun r2 μ2 => r1 = r2 ∧ INV μ2)) := by
  obtain ⟨cs, hs, nl, T, n, h⟩ := h
  exact pA (W7 := wp_X7_join to one other μ) (W8 := wp_X8_join to one other) (R := a_join cs hs to one other) h (fun Q q => s7_join h.1 h.2.1 q) (fun μ1 Q m1 m2 q => s8_join m1 m2 q)
theorem st_longer {to c size weight : Int} (h : INV μ) : wp_X7_longer to c size weight μ (fun r1 μ1 => wp_X8_longer to c size weight μ1 (fun r2 μ2 => r1 = r2 ∧ INV μ2)) := by
  obtain ⟨cs, hs, nl, T, n, h⟩ := h
  exact pA (W7 := wp_X7_longer to c size weight μ) (W8 := wp_X8_longer to c size weight) (R := a_longer cs hs to c size weight) h (fun Q q => s7_longer h.1 h.2.1 q) (fun μ1 Q m1 m2 q => s8_longer m1 m2 q)
theorem st_shorter {to c i d : Int} (h : INV μ) : wp_X7_shorter to c i d μ (fun r1 μ1 => wp_X8_shorter to c i d μ1 (fun r2 μ2 => r1 = r2 ∧ INV μ2)) := by
  obtain ⟨cs, hs, nl, T, n, h⟩ := h
  exact pA (W7 := wp_X7_shorter to c i d μ) (W8 := wp_X8_shorter to c i d) (R := a_shorter cs hs to c i d) h (fun Q q => s7_shorter h.1 h.2.1 q) (fun μ1 Q m1 m2 q => s8_shorter m1 m2 q)
theorem st_swap {to c i j : Int} (h : INV μ) : wp_X7_swap to c i j μ (fun r1 μ1 => wp_X8_swap to c i j μ1 (fun r2 μ2 => r1 = r2 ∧ INV μ2)) := by
  obtain ⟨cs, hs, nl, T, n, h⟩ := h
  exact pA (W7 := wp_X7_swap to c i j μ) (W8 := wp_X8_swap to c i j) (R := a_swap cs hs to c i j) h (fun Q q => s7_swap h.1 h.2.1 q) (fun μ1 Q m1 m2 q => s8_swap m1 m2 q)
theorem st_shift {to c i k : Int} (h : INV μ) : wp_X7_shift to c i k μ (fun r1 μ1 => wp_X8_shift to c i k μ1 (fun r2 μ2 => r1 = r2 ∧ INV μ2)) := by
  obtain ⟨cs, hs, nl, T, n, h⟩ := h
  exact pA (W7 := wp_X7_shift to c i k μ) (W8 := wp_X8_shift to c i k) (R := a_shift cs hs to c i k) h (fun Q q => s7_shift h.1 h.2.1 q) (fun μ1 Q m1 m2 q => s8_shift m1 m2 q)
theorem st_mix {to one other a : Int} (h : INV μ) : wp_X7_mix to one other a μ (fun r1 μ1 => wp_X8_mix to one other a μ1 (fun r2 μ2 => r1 = r2 ∧ INV μ2)) := by
  obtain ⟨cs, hs, nl, T, n, h⟩ := h
  exact pA (W7 := wp_X7_mix to one other a μ) (W8 := wp_X8_mix to one other a) (R := a_mix cs hs to one other a) h (fun Q q => s7_mix h.1 h.2.1 q) (fun μ1 Q m1 m2 q => s8_mix m1 m2 q)
theorem st_holes {to c r : Int} (h : INV μ) : wp_X7_holes to c r μ (fun r1 μ1 => wp_X8_holes to c r μ1 (fun r2 μ2 => r1 = r2 ∧ INV μ2)) := by
  obtain ⟨cs, hs, nl, T, n, h⟩ := h
  exact pA (W7 := wp_X7_holes to c r μ) (W8 := wp_X8_holes to c r) (R := a_holes cs hs to c r) h (fun Q q => s7_holes h.1 h.2.1 q) (fun μ1 Q m1 m2 q => s8_holes m1 m2 q)
theorem st_undo (h : INV μ) : wp_X7_undo  μ (fun r1 μ1 => wp_X8_undo  μ1 (fun r2 μ2 => r1 = r2 ∧ INV μ2)) := by
  obtain ⟨cs, hs, nl, T, n, h⟩ := h
  exact pA (W7 := wp_X7_undo  μ) (W8 := wp_X8_undo ) (R := a_undo cs hs ) h (fun Q q => s7_undo h.1 h.2.1 q) (fun μ1 Q m1 m2 q => s8_undo m1 m2 q)
theorem st_set {c w p : Int} {b : Bool} (hp : p = bI b) (h : INV μ) : wp_X7_set c w p μ (fun r1 μ1 => wp_X8_set c w p μ1 (fun r2 μ2 => r1 = r2 ∧ INV μ2)) := by
  obtain ⟨cs, hs, nl, T, n, h⟩ := h
  exact pA (W7 := wp_X7_set c w p μ) (W8 := wp_X8_set c w p) (R := a_set cs hs c w b) h (fun Q q => s7_set h.1 h.2.1 hp q) (fun μ1 Q m1 m2 q => s8_set m1 m2 hp q)
theorem st_fault (h : INV μ) : wp_X7_fault μ (fun r1 μ1 => wp_X8_fault μ1 (fun r2 μ2 => r1 = r2 ∧ INV μ2)) := by
  obtain ⟨cs, hs, nl, T, n, h⟩ := h
  exact fun μ1 e1 => by rw [e1]; exact ⟨by rw [sI_nj (by omega)]; exact h.2.2.2.2.2.2.2.2.1, cs, hs, nl, T, n, h.th⟩
theorem st_where (h : INV μ) : wp_X7_where μ (fun r1 μ1 => wp_X8_where μ1 (fun r2 μ2 => r1 = r2 ∧ INV μ2)) := by
  obtain ⟨cs, hs, nl, T, n, h⟩ := h
  exact fun μ1 e1 => by rw [e1]; exact ⟨by rw [sI_nj (by omega)]; exact h.2.2.2.2.2.2.2.2.2.2, cs, hs, nl, T, n, h.th⟩
theorem st_trouble (h : INV μ) : wp_X7_trouble μ (fun r1 μ1 => wp_X8_trouble μ1 (fun r2 μ2 => r1 = r2 ∧ INV μ2)) := by
  obtain ⟨cs, hs, nl, T, n, h⟩ := h
  exact fun μ1 e1 => by rw [e1]; exact ⟨by rw [sI_nj (by omega)]; exact h.2.2.2.2.2.2.2.2.2.1, cs, hs, nl, T, n, h.th⟩
theorem st_bytes (h : INV μ) : wp_X7_bytes μ (fun r1 μ1 => wp_X8_bytes μ1 (fun r2 μ2 => r1 = r2 ∧ INV μ2)) := by
  obtain ⟨cs, hs, nl, T, n, h⟩ := h
  exact fun μ1 e1 => by rw [e1]; exact ⟨by rw [sI_nj (by omega), h.2.2.2.1.1, h.2.2.2.2.2.2.2.1.1], cs, hs, nl, T, n, h.th⟩
theorem st_feed {a b c d e : Int} (h : INV μ) : wp_X7_feed a b c d e μ (fun r1 μ1 => wp_X8_feed a b c d e μ1 (fun r2 μ2 => r1 = r2 ∧ INV μ2)) := by
  obtain ⟨cs, hs, nl, T, n, h⟩ := h
  obtain ⟨h1, h2, h3, h4, h5, h6, h7, h8, h9, h10, h11⟩ := h
  -- both tapes grow, or neither
  have fin : ∀ (μ1 μ2 : Mem) (T' : Nat → Int) (n' : Nat), (∀ q, q ≠ 1 → q ≠ 2 → μ1.1 q = μ.1 q) → μ1.2 = μ.2 → (∀ j, j ≠ 1 → μ1.1 1 j = μ.1 1 j) → kT μ1 T' n' → fF μ1 μ2 → mT μ2 T' n' → INV μ2 := by
    intro μ1 μ2 T' n' a1 a2 a3 k1 f2 m2
    obtain ⟨g1, g2, g3, g4⟩ := f2
    have lo : ∀ q, q ≠ 1 → q ≠ 2 → q ≠ 115 → q ≠ 116 → μ2.1 q = μ.1 q ∧ μ2.2 q = μ.2 q := fun q b1 b2 b3 b4 => ⟨by rw [g1 q b3 b4, a1 q b1 b2], by rw [g2, a2]⟩
    have s115 : ∀ j, j ≠ 0 → j ≠ 4 → μ2.1 115 j = μ.1 115 j := fun j b1 b2 => by rw [g3 j b1 b2, a1 115 (by omega) (by omega)]
    exact ⟨cs, hs, nl, T', n', h1.h fun q b1 b2 => lo q (by omega) (by omega) (by omega) (by omega), h2.h fun q b1 b2 => lo q (by omega) (by omega) (by omega) (by omega), h3.same (by rw [g1 1 (by omega) (by omega), a3 11 (by omega)]) (lo 5 (by omega) (by omega) (by omega) (by omega)).1, k1.same (by rw [g1 1 (by omega) (by omega)]) (g1 2 (by omega) (by omega)), h5.same (lo 117 (by omega) (by omega) (by omega) (by omega)).1, h6.to (lo 118 (by omega) (by omega) (by omega) (by omega)).1 (s115 19 (by omega) (by omega)), h7.same (s115 17 (by omega) (by omega)) (lo 119 (by omega) (by omega) (by omega) (by omega)).2, m2, by rw [(lo 0 (by omega) (by omega) (by omega) (by omega)).1, s115 7 (by omega) (by omega)]; exact h9, by rw [(lo 0 (by omega) (by omega) (by omega) (by omega)).1, s115 1 (by omega) (by omega)]; exact h10, by rw [(lo 0 (by omega) (by omega) (by omega) (by omega)).1, s115 2 (by omega) (by omega)]; exact h11⟩
  refine s7_feed h4 (fun no => s8_feed h8 (fun _ μ2 f2 m2 => ⟨rfl, fin μ μ2 T n (fun _ _ _ => rfl) rfl (fun _ _ => rfl) h4 f2 m2⟩) (fun y => absurd y no)) (fun y μ1 f1 k1 => s8_feed (T := T) (n := n) ?_ (fun no => absurd y no) (fun _ μ2 f2 m2 => ⟨rfl, fin μ1 μ2 _ _ f1.1 f1.2.1 f1.2.2 k1 f2 m2⟩))
  exact h8.same (by rw [f1.1 115 (by omega) (by omega)]) (f1.1 116 (by omega) (by omega))
theorem st_text {p : Int} (h : INV μ) : wp_X7_text p μ (fun r1 μ1 => wp_X8_text p μ1 (fun r2 μ2 => r1 = r2 ∧ INV μ2)) := by
  obtain ⟨cs, hs, nl, T, n, h⟩ := h
  obtain ⟨h1, h2, h3, h4, h5, h6, h7, h8, h9, h10, h11⟩ := h
  refine s7_text h1 h2 h3 h4 (fun μ1 f1 => ?_)
  -- the reference has seen nothing of it
  have m5 : mrs μ1 cs := h5.same (f1 117 (by omega)).1
  have m6 : mhs μ1 hs := h6.to (f1 118 (by omega)).1 (by rw [(f1 115 (by omega)).1])
  have m7 : mN μ1 nl := h7.same (by rw [(f1 115 (by omega)).1]) (f1 119 (by omega)).2
  have m8 : mT μ1 T n := h8.same (by rw [(f1 115 (by omega)).1]) (f1 116 (by omega)).1
  -- the class's part over the reference's call
  have up : ∀ μ2 : Mem, (∀ k, k < 115 ∨ 125 ≤ k → μ2.1 k = μ1.1 k ∧ μ2.2 k = μ1.2 k) → ∀ cs' hs' nl' n', krs μ1 cs' → khs μ1 cs' hs' → kNm μ1 nl' → kT μ1 T n' → mrs μ2 cs' → mhs μ2 hs' → mN μ2 nl' → mT μ2 T n' → μ1.1 0 7 = μ2.1 115 7 → μ1.1 0 8 = μ2.1 115 1 → μ1.1 0 9 = μ2.1 115 2 → INV μ2 := by
    intro μ2 g2 cs' hs' nl' n' a1 a2 a3 a4 a5 a6 a7 a8 a9 a10 a11
    have e0 := (g2 0 (by omega)).1
    have e1 := (g2 1 (by omega)).1
    exact ⟨cs', hs', nl', T, n', a1.h fun q b c => g2 q (by omega), a2.h fun q b c => g2 q (by omega), a3.same (by rw [e1]) (g2 5 (by omega)).1, a4.same (by rw [e1]) (g2 2 (by omega)).1, a5, a6, a7, a8, by rw [e0]; exact a9, by rw [e0]; exact a10, by rw [e0]; exact a11⟩
  refine ⟨fun no a1 a2 a3 a4 a7 a8 a9 => s8_text m5 m6 m7 m8 (fun μ2 g2 z2 => ⟨fun _ b1 b2 b3 b4 b7 b1' b2' => ⟨rfl, up μ2 g2 cs hs nl n a1 a2 a3 a4 b1 b2 b3 b4 (by rw [a7, h9, b7, (f1 115 (by omega)).1]) (by rw [a8, b1']) (by rw [a9, b2'])⟩, fun e y1 y2 _ => absurd ⟨y1, y2⟩ no, fun acc y1 y2 _ => absurd ⟨y1, y2⟩ no⟩), fun e y1 y2 ht a1 a2 a3 a4 a7 a8 a9 => s8_text m5 m6 m7 m8 (fun μ2 g2 z2 => ⟨fun no => absurd ⟨y1, y2⟩ no, fun e' _ _ ht' b1 b2 b3 b4 b7 b1' b2' => ?_, fun acc _ _ ht' => ?_⟩), fun acc y1 y2 ht a1 a2 a3 a4 a7 a8 a9 => s8_text m5 m6 m7 m8 (fun μ2 g2 z2 => ⟨fun no => absurd ⟨y1, y2⟩ no, fun e' _ _ ht' => ?_, fun acc' _ _ ht' b1 b2 b3 b4 b7 b1' b2' => ?_⟩)⟩
  · rw [ht] at ht'
    cases ht'
    exact ⟨rfl, up μ2 g2 cs hs nl 0 a1 a2 a3 a4 b1 b2 b3 b4 (by rw [a7, b7]) (by rw [a8, b1']) (by rw [a9, b2'])⟩
  · rw [ht] at ht'; cases ht'
  · rw [ht] at ht'; cases ht'
  · rw [ht] at ht'
    cases ht'
    exact ⟨rfl, up μ2 g2 (csA acc) [] _ 0 a1 a2 a3 a4 b1 b2 b3 b4 (by rw [a7, b7]) (by rw [a8, b1']) (by rw [a9, b2'])⟩
/-- a letter, or none on both sides -/
theorem st_letter {c k : Int} (h : INV μ) : ∃ o : Option Int, (∀ v, o = some v → 0 ≤ v) ∧ (∀ Q : Int → Mem → Prop, (o = none → Q (-1) μ) → (∀ v, o = some v → Q v μ) → wp_X5_letterOf c k μ Q) ∧ ∀ j u, wp_X8_letter c k (sL μ 125 j u) (fun r2 μ2 => (∀ v, o = some v → r2 = v ∧ μ2.1 115 0 = 0) ∧ (o = none → μ2.1 115 0 = 1) ∧ INV μ2 ∧ μ2.2 125 = (sL μ 125 j u).2 125) ∧ wp_X8_letter c k μ (fun r2 μ2 => (∀ v, o = some v → r2 = v ∧ μ2.1 115 0 = 0) ∧ (o = none → μ2.1 115 0 = 1) ∧ INV μ2 ∧ μ2.2 125 = μ.2 125) := by
  obtain ⟨cs, hs, nl, T, n, h⟩ := h
  refine ⟨ltO nl c k, fun v hv => ?_, fun Q q0 q1 => s5_letterOf h.2.2.1 q0 (fun v hv _ => q1 v hv), fun j u => ⟨?_, ?_⟩⟩
  · unfold ltO at hv
    by_cases y : 0 ≤ c ∧ c < (nl.length : Int) ∧ 0 ≤ k ∧ k < ((nl.getD c.toNat []).length : Int)
    · rw [if_pos y] at hv
      have hok := (h.2.2.1.2.2 c.toNat (by omega)).2
      have := (hok.at (m := k.toNat) (by omega)).1
      cases hv
      omega
    · rw [if_neg y] at hv; cases hv
  · have hL : IV (sL μ 125 j u) cs hs nl T n := by
      obtain ⟨h1, h2, h3, h4, h5, h6, h7, h8, h9, h10, h11⟩ := h
      exact ⟨h1.h fun q a b => ⟨rfl, sL_ne (by omega)⟩, h2.h fun q a b => ⟨rfl, sL_ne (by omega)⟩, h3, h4, h5, h6, h7.same rfl (sL_ne (by omega)), h8, h9, h10, h11⟩
    refine s8_letter hL.2.2.2.2.2.2.1 (fun ho μ2 e2 => ⟨fun v hv => (by rw [ho] at hv; cases hv), fun _ => by rw [e2, sI_s], ⟨cs, hs, nl, T, n, by rw [e2]; exact hL.th.th⟩, by rw [e2]; rfl⟩) (fun v hv μ2 e2 => ⟨fun v' hv' => by rw [hv] at hv'; cases hv'; exact ⟨rfl, by rw [e2, sI_s]⟩, fun ho => (by rw [hv] at ho; cases ho), ⟨cs, hs, nl, T, n, by rw [e2]; exact hL.th⟩, by rw [e2]; rfl⟩)
  · refine s8_letter h.2.2.2.2.2.2.1 (fun ho μ2 e2 => ⟨fun v hv => (by rw [ho] at hv; cases hv), fun _ => by rw [e2, sI_s], ⟨cs, hs, nl, T, n, by rw [e2]; exact h.th.th⟩, by rw [e2]; rfl⟩) (fun v hv μ2 e2 => ⟨fun v' hv' => by rw [hv] at hv'; cases hv'; exact ⟨rfl, by rw [e2, sI_s]⟩, fun ho => (by rw [hv] at ho; cases ho), ⟨cs, hs, nl, T, n, by rw [e2]; exact h.th⟩, by rw [e2]; rfl⟩)
end SB

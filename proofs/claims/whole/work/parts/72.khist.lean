/-! ===== the class: acts are kept, and given back ===== -/
/-- nothing but the fresh code, the ground, search, exchange has moved -/
def kf (μ μ' : Mem) : Prop := (∀ q, q ≠ 0 → (q < 23 ∨ (27 ≤ q ∧ q < 70) ∨ 83 ≤ q) → μ'.1 q = μ.1 q ∧ μ'.2 q = μ.2 q) ∧ (∀ j, j ≠ 8 → j ≠ 9 → μ'.1 0 j = μ.1 0 j) ∧ μ'.2 0 = μ.2 0
theorem kf.rf {μ : Mem} : kf μ μ := ⟨fun _ _ _ => ⟨rfl, rfl⟩, fun _ _ _ => rfl, rfl⟩
theorem kf.tr {μ μ' μ'' : Mem} (h : kf μ μ') (h2 : kf μ' μ'') : kf μ μ'' := ⟨fun q a b => ⟨(h2.1 q a b).1.trans (h.1 q a b).1, (h2.1 q a b).2.trans (h.1 q a b).2⟩, fun j a b => (h2.2.1 j a b).trans (h.2.1 j a b), h2.2.2.trans h.2.2⟩
theorem kq.kf {μ μ' : Mem} (h : kq μ μ') : kf μ μ' := ⟨fun q a b => h.1 q a (by omega), h.2.1, h.2.2⟩
theorem oC.kf {μ μ' : Mem} (h : oC 23 μ μ') : kf μ μ' := ⟨fun q a b => h q (by omega), fun j _ _ => by rw [(h 0 (by omega)).1], (h 0 (by omega)).2⟩
theorem oW.kf {μ μ' : Mem} (h : oW 23 μ μ') : kf μ μ' := ⟨fun q a b => h q (by omega) (by omega) (by omega), fun j _ _ => by rw [(h 0 (by omega) (by omega) (by omega)).1], (h 0 (by omega) (by omega) (by omega)).2⟩
/-- what stays over an act -/
def ka (μ μ' : Mem) : Prop := (∀ q, q ≠ 0 → (q < 23 ∨ 115 ≤ q) → μ'.1 q = μ.1 q ∧ μ'.2 q = μ.2 q) ∧ (∀ j, j ≠ 8 → j ≠ 9 → μ'.1 0 j = μ.1 0 j) ∧ μ'.2 0 = μ.2 0
theorem ka.tr {μ μ' μ'' : Mem} (h : ka μ μ') (h2 : ka μ' μ'') : ka μ μ'' := ⟨fun q a b => ⟨(h2.1 q a b).1.trans (h.1 q a b).1, (h2.1 q a b).2.trans (h.1 q a b).2⟩, fun j a b => (h2.2.1 j a b).trans (h.2.1 j a b), h2.2.2.trans h.2.2⟩
theorem kf.ka {μ μ' : Mem} (h : kf μ μ') : ka μ μ' := ⟨fun q a b => h.1 q a (by omega), h.2.1, h.2.2⟩
theorem oC.ka {p : Nat} {μ μ' : Mem} (h : oC p μ μ') (hp : 23 ≤ p ∧ p + 4 ≤ 115) : ka μ μ' := ⟨fun q a b => h q (by omega), fun j _ _ => by rw [(h 0 (by omega)).1], (h 0 (by omega)).2⟩
theorem ka.I {μ : Mem} {q j : Nat} {v : Int} (hq : 23 ≤ q ∧ q < 115) : ka μ (sI μ q j v) := ⟨fun p a b => ⟨sI_ne (by omega), rfl⟩, fun i _ _ => by rw [sI_ne (by omega)], rfl⟩
/-- where the act i steps back lies -/
def hpos (nx i : Nat) : Nat := (nx + 9 - i) % 10
/-- what the class remembers -/
def khs (μ : Mem) (cs : Nat → Cd) (hs : List (Nat → Cd)) : Prop := μ.1 27 3 = (hs.length : Int) ∧ hs.length ≤ 10 ∧ ∃ nx : Nat, μ.1 27 2 = (nx : Int) ∧ nx < 10 ∧ ∀ i, i < hs.length → ∃ s : Nat, s < 8 ∧ μ.1 29 (hpos nx i) = (s : Int) ∧ crep μ (30 + 4 * hpos nx i) (hAt hs i s) ∧ okC (hAt hs i s) ∧ hAt hs i = updC (hAt (cs :: hs) i) s (hAt hs i s)
theorem khs.to {μ μ' : Mem} {cs : Nat → Cd} {hs : List (Nat → Cd)} (h : khs μ cs hs) (hq : kf μ μ') : khs μ' cs hs := by
  obtain ⟨h1, h2, nx, h3, h4, h5⟩ := h
  have e27 := (hq.1 27 (by omega) (by omega)).1
  have e29 := (hq.1 29 (by omega) (by omega)).1
  refine ⟨by rw [e27]; exact h1, h2, nx, by rw [e27]; exact h3, h4, fun i hi => ?_⟩
  obtain ⟨s, hs8, s1, s2, s3, s4⟩ := h5 i hi
  have hl : hpos nx i < 10 := Nat.mod_lt _ (by omega)
  refine ⟨s, hs8, by rw [e29]; exact s1, ?_, s3, s4⟩
  unfold crep at *
  rw [(hq.1 (30 + 4 * hpos nx i) (by omega) (by omega)).1, (hq.1 (30 + 4 * hpos nx i + 1) (by omega) (by omega)).1, (hq.1 (30 + 4 * hpos nx i + 2) (by omega) (by omega)).1, (hq.1 (30 + 4 * hpos nx i + 3) (by omega) (by omega)).2]
  exact s2
theorem krs.f {μ μ' : Mem} {cs : Nat → Cd} (h : krs μ cs) (hq : kf μ μ') : krs μ' cs := fun c hc => ⟨by
  have h1 := (h c hc).1
  unfold crep at *
  rw [(hq.1 (83 + 4 * c) (by omega) (by omega)).1, (hq.1 (83 + 4 * c + 1) (by omega) (by omega)).1, (hq.1 (83 + 4 * c + 2) (by omega) (by omega)).1, (hq.1 (83 + 4 * c + 3) (by omega) (by omega)).2]
  exact h1, (h c hc).2⟩
theorem hAt_0 (cs : Nat → Cd) (hs : List (Nat → Cd)) : hAt (cs :: hs) 0 = cs := rfl
theorem hAt_s (cs : Nat → Cd) (hs : List (Nat → Cd)) (i : Nat) : hAt (cs :: hs) (i + 1) = hAt hs i := rfl
theorem hAt_take {l : List (Nat → Cd)} {n i : Nat} (h : i < n) : hAt (l.take n) i = hAt l i := by
  unfold hAt
  rw [List.getD_eq_getElem?_getD, List.getD_eq_getElem?_getD, List.getElem?_take, if_pos h]
def KA (Q : Int → Mem → Prop) (μ : Mem) (R : AR) : Prop := ∀ μ', ka μ μ' → krs μ' R.2.1 → khs μ' R.2.1 R.2.2 → ktr μ' R.1.2 → Q R.1.1 μ'
section KH
variable {μ μ0 : Mem} {cs : Nat → Cd} {hs : List (Nat → Cd)} {Q : Int → Mem → Prop}
theorem e7_ano {R : AR} {t : Int} (HQ : KA Q μ0 R) (hR : krs μ cs) (hH : khs μ cs hs) (hk : kf μ0 μ) (ho : R = ((-1, t), cs, hs)) : wp_X7_refuse t μ Q := by
  rintro μ3 rfl μ4 rfl
  subst ho
  have e : kq μ (sI (sI μ 0 8 t) 0 9 (-1)) := (kq.f (by omega)).tr (kq.f (by omega))
  exact HQ _ (hk.tr e.kf).ka (hR.f e.kf) (hH.to e.kf) ⟨by rw [sI_nj (by omega), sI_s], sI_s⟩
/-- an act is kept, then done -/
theorem s7_act {to : Nat} {C : Cd} {v : Int} {R : AR} (hto : to < 8) (hR : krs μ cs) (hH : khs μ cs hs) (hk : kf μ0 μ) (hf : crep μ 23 C) (hC : okC C) (HQ : KA Q μ0 R) (ho : R = ((v, 0), updC cs to C, push10 cs hs)) : wp_X7_act to v μ Q := by
  subst ho
  have h8 := hC.1
  obtain ⟨h1, h2, nx, h3, h4, h5⟩ := hH
  have hto2 := hR to hto
  unfold wp_X7_act wp_X4_keep
  simp only [Int.toNat_natCast]
  rw [h3, Int.toNat_natCast]
  refine ⟨by omega, by omega, s1_copy hto2.1 hto2.2.1 (by omega) (fun μ2 o2 p2 => ?_)⟩
  have e27 := (o2 27 (by omega)).1
  rw [e27, h3, Int.toNat_natCast]
  refine ⟨by omega, fun μ4 e4 => ?_⟩
  have e4n : μ4.1 27 2 = (nx : Int) := by rw [e4, sI_ne (by omega), e27]; exact h3
  have e4k : μ4.1 27 3 = (hs.length : Int) := by rw [e4, sI_ne (by omega), e27]; exact h1
  rw [e4n]
  -- the counter has stepped on
  have fin : ∀ nx' : Nat, nx' < 10 → (∀ i, i + 1 < 10 → hpos nx' (i + 1) = hpos nx i) → hpos nx' 0 = nx → ∀ s1 : Int, s1 = (nx' : Int) → wp_X4_keep_45 (fun μ2 => wp_X1_copy (83 + 4 * to) 23 μ2 (fun μ3 => wp_X7_accept v μ3 (fun r5 μ4 => Q r5 μ4))) s1 μ4 := by
    intro nx' hn' hsh h0 s1 es1 μ7 e7
    have e7k : μ7.1 27 3 = (hs.length : Int) := by rw [e7, sI_nj (by omega)]; exact e4k
    rw [e7k]
    refine ⟨inR_i (by omega) (by omega), fun μ9 e9 => ?_⟩
    -- cells 27 to 69 but the newest stay
    have h9 : ∀ q, q ≠ 27 → q ≠ 29 → μ9.1 q = μ2.1 q := fun q a b => by rw [e9, sI_ne a, e7, sI_ne a, e4, sI_ne b]
    have h92 : μ9.2 = μ2.2 := by rw [e9, e7, e4]; rfl
    have f9 : crep μ9 23 C := by
      have : crep μ2 23 C := hf.to o2 (by omega)
      unfold crep at *
      rw [h9 23 (by omega) (by omega), h9 24 (by omega) (by omega), h9 25 (by omega) (by omega), h92]
      exact this
    refine s1_copy f9 h8 (by omega) (fun μ10 o10 p10 => ?_)
    have k10 : ka μ μ10 := by
      have a1 := o2.ka (by omega)
      have a2 : ka μ2 μ9 := by
        rw [e9, e7, e4]
        exact ((ka.I (by omega)).tr (ka.I (by omega))).tr (ka.I (by omega))
      exact (a1.tr a2).tr (o10.ka (by omega))
    -- what the past cells say at the end
    have past : ∀ a, a < 10 → a ≠ nx → ∀ D, crep μ (30 + 4 * a) D → crep μ10 (30 + 4 * a) D := fun a ha hne D hD => by
      have q2 : crep μ2 (30 + 4 * a) D := hD.to o2 (by omega)
      refine crep.to (μ := μ9) ?_ o10 (by omega)
      unfold crep at *
      rw [h9 _ (by omega) (by omega), h9 _ (by omega) (by omega), h9 _ (by omega) (by omega), h92]
      exact q2
    have newest : crep μ10 (30 + 4 * nx) (cs to) := by
      refine crep.to (μ := μ9) ?_ o10 (by omega)
      unfold crep at *
      rw [h9 _ (by omega) (by omega), h9 _ (by omega) (by omega), h9 _ (by omega) (by omega), h92]
      exact p2
    have s29 : ∀ a, μ10.1 29 a = if a = nx then (to : Int) else μ.1 29 a := fun a => by
      rw [(o10 29 (by omega)).1, e9, sI_ne (by omega), e7, sI_ne (by omega), e4]
      by_cases e : a = nx
      · rw [if_pos e, e, sI_s]
      · rw [if_neg e, sI_nj e, (o2 29 (by omega)).1]
    rintro μ11 rfl μ12 rfl
    have eq : kq μ10 (sI (sI μ10 0 8 0) 0 9 (-1)) := (kq.f (by omega)).tr (kq.f (by omega))
    have n10 : μ10.1 27 2 = (nx' : Int) := by rw [(o10 27 (by omega)).1, e9, sI_nj (by omega), e7, sI_s]; exact es1
    have k10b : μ10.1 27 3 = min ((hs.length : Int) + 1) 10 := by rw [(o10 27 (by omega)).1, e9, sI_s]
    have hlen : (push10 cs hs).length = if hs.length = 10 then 10 else hs.length + 1 := push10_len cs h2
    refine HQ _ ((hk.ka.tr k10).tr eq.kf.ka) (krs.f (fun c hc => ?_) eq.kf) (khs.to ⟨?_, ?_, nx', n10, hn', fun i hi => ?_⟩ eq.kf) ⟨by rw [sI_nj (by omega), sI_s], sI_s⟩
    · show crep μ10 (83 + 4 * c) (if c = to then C else cs c) ∧ okC (if c = to then C else cs c)
      by_cases e : c = to
      · rw [if_pos e, e]; exact ⟨p10, hC⟩
      · rw [if_neg e]
        refine ⟨?_, (hR c hc).2⟩
        have q2 : crep μ2 (83 + 4 * c) (cs c) := (hR c hc).1.to o2 (by omega)
        refine crep.to (μ := μ9) ?_ o10 (by omega)
        unfold crep at *
        rw [h9 _ (by omega) (by omega), h9 _ (by omega) (by omega), h9 _ (by omega) (by omega), h92]
        exact q2
    · show μ10.1 27 3 = ((push10 cs hs).length : Int)
      rw [k10b, hlen]
      split <;> omega
    · rw [hlen]; split <;> omega
    · have hi : i < (push10 cs hs).length := hi
      have hi10 : i < 10 := by rw [hlen] at hi; split at hi <;> omega
      have ep : ∀ j, j < 10 → hAt (push10 cs hs) j = hAt (cs :: hs) j := fun j hj => hAt_take hj
      cases i with
      | zero =>
        refine ⟨to, hto, by rw [h0, s29, if_pos rfl], ?_, ?_, ?_⟩
        · rw [h0, ep 0 (by omega)]; exact newest
        · rw [ep 0 (by omega)]; exact hto2.2
        · show hAt (push10 cs hs) 0 = updC (updC cs to C) to (hAt (push10 cs hs) 0 to)
          rw [ep 0 (by omega), updC_2]
          exact (updC_self cs to).symm
      | succ i =>
        have hil : i < hs.length := by rw [hlen] at hi; split at hi <;> omega
        obtain ⟨s, hs8, s1, s2, s3, s4⟩ := h5 i hil
        have hl : hpos nx i < 10 := Nat.mod_lt _ (by omega)
        have hne : hpos nx i ≠ nx := by
          unfold hpos
          omega
        rw [ep (i + 1) hi10, hAt_s]
        refine ⟨s, hs8, by rw [hsh i (by omega), s29, if_neg hne]; exact s1, by rw [hsh i (by omega)]; exact past _ hl hne _ s2, s3, ?_⟩
        rw [hAt_s, ep i (by omega)]
        exact s4
  refine ⟨inR_i (by omega) (by omega), fun c => ?_, fun c => ⟨inR_i (by omega) (by omega), ?_⟩⟩
  · exact fin 0 (by omega) (fun i hi => by unfold hpos; omega) (by unfold hpos; omega) 0 rfl
  · exact fin (nx + 1) (by omega) (fun i hi => by unfold hpos; omega) (by unfold hpos; omega) _ rfl
theorem s7_undo (hR : krs μ cs) (hH : khs μ cs hs) (HQ : KA Q μ (a_undo cs hs)) : wp_X7_undo μ Q := by
  have hH0 := hH
  obtain ⟨h1, h2, nx, h3, h4, h5⟩ := hH
  unfold wp_X7_undo wp_X4_giveBack
  rw [h1, h3]
  cases hs with
  | nil => exact ⟨fun q => absurd rfl q, fun _ => e7_ano HQ hR hH0 kf.rf rfl⟩
  | cons h t =>
    have hl : (h :: t).length = t.length + 1 := rfl
    obtain ⟨s, hs8, s1, s2, s3, s4⟩ := h5 0 (by omega)
    have fin : ∀ nx' : Nat, nx' < 10 → hpos nx 0 = nx' → (∀ i, hpos nx (i + 1) = hpos nx' i ∨ 9 ≤ i) → ∀ z : Int, z = (nx' : Int) → wp_X4_giveBack_28 (fun μ2 => wp_X7_accept (μ2.1 27 3) μ2 (fun r4 μ3 => Q r4 μ3)) z μ := by
      intro nx' hn' h0 hsh z ez μ3 e3
      have e3k : μ3.1 27 3 = ((h :: t).length : Int) := by rw [e3, sI_nj (by omega)]; exact h1
      rw [e3k]
      refine ⟨inR_i (by omega) (by omega), fun μ5 e5 => ?_⟩
      have e5n : μ5.1 27 2 = (nx' : Int) := by rw [e5, sI_nj (by omega), e3, sI_s]; exact ez
      have h9 : ∀ q, q ≠ 27 → μ5.1 q = μ.1 q := fun q a => by rw [e5, sI_ne a, e3, sI_ne a]
      have h92 : μ5.2 = μ.2 := by rw [e5, e3]; rfl
      rw [e5n, Int.toNat_natCast, h9 29 (by omega), ← h0, s1, Int.toNat_natCast]
      have hl0 : hpos nx 0 < 10 := Nat.mod_lt _ (by omega)
      have mv : ∀ p, 29 < p → ∀ D, crep μ p D → crep μ5 p D := fun p hp D hD => by
        unfold crep at *
        rw [h9 _ (by omega), h9 _ (by omega), h9 _ (by omega), h92]
        exact hD
      refine ⟨by omega, by omega, by omega, s1_copy (mv _ (by omega) _ s2) s3.1 (by omega) (fun μ9 o9 p9 => ?_)⟩
      have e9k : μ9.1 27 3 = (t.length : Int) := by rw [(o9 27 (by omega)).1, e5, sI_s]; omega
      show wp_X7_accept (μ9.1 27 3) μ9 (fun r4 μ3 => Q r4 μ3)
      rw [e9k]
      have k9 : ka μ μ9 := by
        have a2 : ka μ μ5 := by rw [e5, e3]; exact (ka.I (by omega)).tr (ka.I (by omega))
        exact a2.tr (o9.ka (by omega))
      rintro μ11 rfl μ12 rfl
      have eq : kq μ9 (sI (sI μ9 0 8 0) 0 9 (-1)) := (kq.f (by omega)).tr (kq.f (by omega))
      have s4 : h = updC cs s (h s) := s4
      have ht10 : t.length ≤ 10 := by rw [hl] at h2; omega
      refine HQ _ (k9.tr eq.kf.ka) (krs.f (fun c hc => ?_) eq.kf) (khs.to ⟨e9k, ht10, nx', by rw [(o9 27 (by omega)).1]; exact e5n, hn', fun i hi => ?_⟩ eq.kf) ⟨by rw [sI_nj (by omega), sI_s]; rfl, sI_s⟩
      · show crep μ9 (83 + 4 * c) (h c) ∧ okC (h c)
        by_cases e : c = s
        · rw [e]; exact ⟨p9, s3⟩
        · rw [s4]
          show crep μ9 (83 + 4 * c) (if c = s then h s else cs c) ∧ okC (if c = s then h s else cs c)
          rw [if_neg e]
          exact ⟨(mv _ (by omega) _ (hR c hc).1).to o9 (by omega), (hR c hc).2⟩
      · have hi : i < t.length := hi
        obtain ⟨s', hs8', s1', s2', s3', s4'⟩ := h5 (i + 1) (by omega)
        have ep : hpos nx (i + 1) = hpos nx' i := by
          rcases hsh i with e | e
          · exact e
          · rw [hl] at h2; omega
        have hl1 : hpos nx' i < 10 := Nat.mod_lt _ (by omega)
        rw [ep] at s1' s2'
        exact ⟨s', hs8', by rw [(o9 29 (by omega)).1, h9 29 (by omega)]; exact s1', (mv _ (by omega) _ s2').to o9 (by omega), s3', s4'⟩
    refine ⟨fun q => ⟨fun q1 => ⟨fun q2 => ?_, fun q2 => ⟨inR_i (by omega) (by omega), ?_⟩⟩, fun q1 => absurd (by omega) q1⟩, fun q => absurd q (by omega)⟩
    · have e0 : nx = 0 := by omega
      exact fin 9 (by omega) (by rw [e0]; rfl) (fun i => by rw [e0]; unfold hpos; omega) 9 rfl
    · exact fin (nx - 1) (by omega) (by unfold hpos; omega) (fun i => by unfold hpos; omega) _ (by omega)
end KH

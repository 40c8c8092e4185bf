/-! ===== the law's entry: what the tables and the start give ===== -/
def strTm (i : Nat) : Term := match i with
  | 0 => .string "SlipCovers$Reader" 74
  | 1 => .string "SlipCovers$Reader" 104
  | _ => .string "SlipCovers$Reader" 93
theorem eq_refs {args : Array Value} {s : State} {t u : Term} {a : Nat} (h : (Cond.eq t u).before args s = true) (ht : t.eval args s none [] s = some (.ref a)) : u.eval args s none [] s = some (.ref a) := by
  cases hu : u.eval args s none [] s with
  | none => simp [Cond.before, Cond.holds, Cond.value, ht, hu] at h
  | some w =>
    simp [Cond.before, Cond.holds, Cond.value, ht, hu] at h
    first
      | rw [h]
      | (cases w <;> simp_all)
abbrev flatS : List Cond := flatC (Jvm.Cond.and given_1 narrow_1)
set_option maxRecDepth 100000 in
theorem lw_strings {s : State} {args : Array Value} {A : Nat → Prop} (hs : ∀ w ∈ flatS, w.before args s = true) (hA : ∀ a : Nat, a < s.heap.size → ¬ A a) : ∃ adK adV : Nat → Nat, vk_S 3 sLen sByt adK adV A s s.heap ∧ ∀ i : Nat, i < 3 → (strTm i).eval args s none [] s = some (.ref (adK i)) := by
  refine vk_Sof (tm := strTm) (fun i _ => sLen_lt i) ?_ ?_ ?_ ?_ ?_ ?_ hA
  · intro i hi
    match i, hi with
    | 0, _ => exact hs _ (by decide +kernel)
    | 1, _ => exact hs _ (by decide +kernel)
    | 2, _ => exact hs _ (by decide +kernel)
    | _ + 3, h => exact absurd h (by omega)
  · intro i hi
    match i, hi with
    | 0, _ => exact hs _ (by decide +kernel)
    | 1, _ => exact hs _ (by decide +kernel)
    | 2, _ => exact hs _ (by decide +kernel)
    | _ + 3, h => exact absurd h (by omega)
  · intro i hi
    match i, hi with
    | 0, _ => exact hs _ (by decide +kernel)
    | 1, _ => exact hs _ (by decide +kernel)
    | 2, _ => exact hs _ (by decide +kernel)
    | _ + 3, h => exact absurd h (by omega)
  · intro i hi
    match i, hi with
    | 0, _ => exact hs _ (by decide +kernel)
    | 1, _ => exact hs _ (by decide +kernel)
    | 2, _ => exact hs _ (by decide +kernel)
    | _ + 3, h => exact absurd h (by omega)
  · intro i hi j hj
    match i, hi, j, hj with
    | 0, _, 0, _ => exact hs _ (by decide +kernel)
    | 0, _, 1, _ => exact hs _ (by decide +kernel)
    | 0, _, 2, _ => exact hs _ (by decide +kernel)
    | 0, _, 3, _ => exact hs _ (by decide +kernel)
    | 0, _, j + 4, h => exact absurd h (by show ¬ j + 4 < 4; omega)
    | 1, _, 0, _ => exact hs _ (by decide +kernel)
    | 1, _, 1, _ => exact hs _ (by decide +kernel)
    | 1, _, j + 2, h => exact absurd h (by show ¬ j + 2 < 2; omega)
    | 2, _, 0, _ => exact hs _ (by decide +kernel)
    | 2, _, 1, _ => exact hs _ (by decide +kernel)
    | 2, _, 2, _ => exact hs _ (by decide +kernel)
    | 2, _, 3, _ => exact hs _ (by decide +kernel)
    | 2, _, 4, _ => exact hs _ (by decide +kernel)
    | 2, _, j + 5, h => exact absurd h (by show ¬ j + 5 < 5; omega)
    | _ + 3, h, _, _ => exact absurd h (by omega)
  · intro i j hi hj hij
    match i, hi, j, hj with
    | 0, _, 0, _ => exact absurd rfl hij
    | 1, _, 1, _ => exact absurd rfl hij
    | 2, _, 2, _ => exact absurd rfl hij
    | 0, _, 1, _ => exact Or.inl (hs _ (by decide +kernel))
    | 1, _, 0, _ => exact Or.inr (hs _ (by decide +kernel))
    | 0, _, 2, _ => exact Or.inl (hs _ (by decide +kernel))
    | 2, _, 0, _ => exact Or.inr (hs _ (by decide +kernel))
    | 1, _, 2, _ => exact Or.inl (hs _ (by decide +kernel))
    | 2, _, 1, _ => exact Or.inr (hs _ (by decide +kernel))
    | _ + 3, h, _, _ => exact absurd h (by omega)
    | _, _, _ + 3, h => exact absurd h (by omega)
theorem lw_cls {s : State} {args : Array Value} (hts : ∀ w ∈ tblG, w.before args s = true) : ∃ D : va_G, ∀ (c : Nat) (q : vw_C), vwCl[c]? = some q → u_Kn s q.1 q.2.1 q.2.2 (D.1 c) (D.2 c) := by
  have h : ∀ c : Nat, ∃ d : ClassId × (Nat → Nat), ∀ q : vw_C, vwCl[c]? = some q → u_Kn s q.1 q.2.1 q.2.2 d.1 d.2 := by
    intro c
    match c with
    | 0 =>
      obtain ⟨cC, iS, hK⟩ := u_known hts inG_0 (hts _ (tG (w := .instantiable "SlipCovers$Balls" 4) 261 (by decide +kernel) rfl))
      exact ⟨(cC, iS), fun q hq => by cases hq; exact hK⟩
    | 1 =>
      obtain ⟨cC, iS, hK⟩ := u_known hts inG_1 (hts _ (tG (w := .instantiable "SlipCovers$Code" 7) 120 (by decide +kernel) rfl))
      exact ⟨(cC, iS), fun q hq => by cases hq; exact hK⟩
    | 2 =>
      obtain ⟨cC, iS, hK⟩ := u_known hts inG_2 (hts _ (tG (w := .instantiable "SlipCovers$Exchange" 8) 306 (by decide +kernel) rfl))
      exact ⟨(cC, iS), fun q hq => by cases hq; exact hK⟩
    | 3 =>
      obtain ⟨cC, iS, hK⟩ := u_known hts inG_3 (hts _ (tG (w := .instantiable "SlipCovers$Ground" 6) 227 (by decide +kernel) rfl))
      exact ⟨(cC, iS), fun q hq => by cases hq; exact hK⟩
    | 4 =>
      obtain ⟨cC, iS, hK⟩ := u_known hts inG_4 (hts _ (tG (w := .instantiable "SlipCovers$History" 4) 205 (by decide +kernel) rfl))
      exact ⟨(cC, iS), fun q hq => by cases hq; exact hK⟩
    | 5 =>
      obtain ⟨cC, iS, hK⟩ := u_known hts inG_5 (hts _ (tG (w := .instantiable "SlipCovers$Reader" 12) 113 (by decide +kernel) rfl))
      exact ⟨(cC, iS), fun q hq => by cases hq; exact hK⟩
    | 6 =>
      obtain ⟨cC, iS, hK⟩ := u_known hts inG_6 (hts _ (tG (w := .instantiable "SlipCovers$Search" 6) 255 (by decide +kernel) rfl))
      exact ⟨(cC, iS), fun q hq => by cases hq; exact hK⟩
    | 7 =>
      obtain ⟨cC, iS, hK⟩ := u_known hts inG_7 (hts _ (tG (w := .instantiable "SlipCovers" 10) 105 (by decide +kernel) rfl))
      exact ⟨(cC, iS), fun q hq => by cases hq; exact hK⟩
    | 8 =>
      obtain ⟨cC, iS, hK⟩ := u_known hts inG_8 (hts _ (tG (w := .instantiable "SlipCoversModel" 29) 1150 (by decide +kernel) rfl))
      exact ⟨(cC, iS), fun q hq => by cases hq; exact hK⟩
    | _ + 9 => exact ⟨(default, fun _ => 0), fun q hq => by cases hq⟩
  obtain ⟨d, hd⟩ := Classical.axiomOfChoice h
  exact ⟨(fun c => (d c).1, fun c => (d c).2), fun c q hq => hd c q hq⟩
theorem nw_on {w : Cond} (h : isNw w = true) : w.onTables = true := by
  cases w <;> first | rfl | (cases h)
/-- a word of the tables -/
theorem wt {s : State} {args : Array Value} (hts : ∀ w ∈ lw_tbl, w.before args s = true) {w : Cond} (i : Nat) (h : lw_tbl[i]? = some w) : w.before args s = true := hts w (List.mem_of_getElem? h)
set_option maxRecDepth 100000 in
theorem lw_world {s : State} {b : Nat} (hts : ∀ w ∈ lw_tbl, w.before #[Value.ref b] s = true) (hs : ∀ w ∈ flatS, w.before #[Value.ref b] s = true) : ∃ E : Gx, gZ E = s.heap.size ∧ va_K (gD E) vwCl (gT E) s ∧ strs E s s.heap := by
  have hA : ∀ a : Nat, a < s.heap.size → ¬ (fun q : Nat => s.heap.size ≤ q) a := fun a h q => Nat.not_lt.mpr q h
  have htG : ∀ w ∈ tblG, w.before #[Value.ref b] s = true := fun w hw => hts w (tblG_ok hw)
  obtain ⟨D, hD⟩ := lw_cls htG
  obtain ⟨cI, kI, compI, i1, i2, i3⟩ := Cond.arrayClass_spec (htG _ aw_I)
  obtain ⟨cL, kL, compL, l1, l2, l3⟩ := Cond.arrayClass_spec (htG _ aw_L)
  obtain ⟨comp, cR, kR, r1, r2, r3, r4, r5⟩ := Cond.arrayOver_spec (wt (w := .arrayOver (.object "SlipCovers$Code")) hts 119 (by decide +kernel))
  obtain ⟨adK, adV, hS, hK⟩ := lw_strings (A := fun q : Nat => s.heap.size ≤ q) hs hA
  refine ⟨(D, s.heap.size, cI, cL, cR, adK, adV), rfl, ⟨hD, ?_⟩, ⟨⟨hS, ?_⟩, ?_⟩⟩
  · intro k q hq
    match k, hq with
    | 0, hq => cases hq; exact ⟨fun n z => ⟨fun k h => (by cases h), kI, i2, compI, i3⟩, i1⟩
    | 1, hq => cases hq; exact ⟨fun n z => ⟨fun k h => (by cases h), kL, l2, compL, l3⟩, l1⟩
    | 2, hq => cases hq; exact ⟨fun n z => ⟨fun k h => (by cases h), kR, r3, comp, r4⟩, kR, comp, r3, r4, r1, r5⟩
    | _ + 3, hq => cases hq
  · refine ⟨?_, ?_, ?_, ?_, ?_⟩
    · exact va_Zof (wt hts 438 (by decide +kernel)) (wt hts 92 (by decide +kernel)) (va_eqt (hs _ (by decide +kernel))) hA
    · exact va_Zqof (wt hts 454 (by decide +kernel)) (wt hts 94 (by decide +kernel)) (hs _ (by decide +kernel)) hA
    · exact vx_Zqof (wt hts 1115 (by decide +kernel)) (wt hts 100 (by decide +kernel)) (hs _ (by decide +kernel)) hA
    · exact vx_Zqof (wt hts 1117 (by decide +kernel)) (wt hts 100 (by decide +kernel)) (hs _ (by decide +kernel)) hA
    · intro w hw a
      have hf := List.mem_filter.mp hw
      exact va_tabs ((Bool.and_eq_true _ _).mp hf.2).1 rfl (hts w hf.1)
  · have h0 : (Term.string "SlipCovers$Reader" 74).eval #[Value.ref b] s none [] s = some (.ref (adK 0)) := hK 0 (by decide)
    have h1 : (Term.string "SlipCovers$Reader" 104).eval #[Value.ref b] s none [] s = some (.ref (adK 1)) := hK 1 (by decide)
    have h2 : (Term.string "SlipCovers$Reader" 93).eval #[Value.ref b] s none [] s = some (.ref (adK 2)) := hK 2 (by decide)
    have m0 : (Term.string "SlipCoversModel" 123).eval #[Value.ref b] s none [] s = some (.ref (adK 0)) := eq_refs (hs (.eq (.string "SlipCovers$Reader" 74) (.string "SlipCoversModel" 123)) (by decide +kernel)) h0
    have m1 : (Term.string "SlipCoversModel" 129).eval #[Value.ref b] s none [] s = some (.ref (adK 1)) := eq_refs (hs (.eq (.string "SlipCovers$Reader" 104) (.string "SlipCoversModel" 129)) (by decide +kernel)) h1
    have m2 : (Term.string "SlipCoversModel" 131).eval #[Value.ref b] s none [] s = some (.ref (adK 2)) := eq_refs (hs (.eq (.string "SlipCovers$Reader" 93) (.string "SlipCoversModel" 131)) (by decide +kernel)) h2
    refine List.forall_mem_cons.mpr ⟨vk_R.of (wt hts 424 (by decide +kernel)) h0, List.forall_mem_cons.mpr ⟨vk_R.of (wt hts 496 (by decide +kernel)) h1, List.forall_mem_cons.mpr ⟨vk_R.of (wt hts 497 (by decide +kernel)) h2, List.forall_mem_cons.mpr ⟨vk_R.of (wt hts 1288 (by decide +kernel)) m0, List.forall_mem_cons.mpr ⟨vk_R.of (wt hts 1306 (by decide +kernel)) m1, List.forall_mem_cons.mpr ⟨vk_R.of (wt hts 1307 (by decide +kernel)) m2, fun _ h => absurd h List.not_mem_nil⟩⟩⟩⟩⟩⟩

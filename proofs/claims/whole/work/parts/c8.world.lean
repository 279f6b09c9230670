/-! What the Statement gives of the start, as the engine's world. -/
theorem lw_arr {s : State} {args : Array Value} {ty : FieldType} (h : (Cond.arrayClass ty).before args s = true) (hn : ∀ C, ty ≠ .object C) : ∃ cA, ArrOfT s cA ty ∧ va_RA s cA ty := by
  obtain ⟨c, k, comp, h1, h2, h3⟩ := Cond.arrayClass_spec h
  refine ⟨c, fun n z => ⟨fun k h => (by cases h), k, h2, comp, h3⟩, ?_⟩
  cases ty with
  | object C => exact absurd rfl (hn C)
  | _ => exact h1
theorem lw_arrO {s : State} {args : Array Value} {C : String} (h : (Cond.arrayOver (.object C)).before args s = true) : ∃ cA, ArrOfT s cA (.object C) ∧ va_RA s cA (.object C) := by
  obtain ⟨comp, c, k, h1, h2, h3, h4, h5⟩ := Cond.arrayOver_spec h
  exact ⟨c, fun n z => ⟨fun k h => (by cases h), k, h3, comp, h4⟩, k, comp, h3, h4, h1, h5⟩
theorem lw_mem {i : Nat} {w : Cond} (h : lw_tbl[i]? = some w) : w ∈ lw_tbl := List.mem_of_getElem? h
theorem lw_K {s : State} {args : Array Value} (hts : ∀ w ∈ lw_tbl, w.before args s = true) : ∃ (D : va_G) (cA : Nat → ClassId), va_K D en_cl [(cA 1, .int), (cA 2, .byte), (cA 3, .long), (cA 4, .object RX2), (cA 5, .object RX6), (cA 6, .object RX0)] s := by
  have ht : ∀ w ∈ en_tw, w.before args s = true := fun w hw => hts w (List.mem_filter.mp hw).1
  have hcl : ∀ (ci : Nat) (q : vw_C), en_cl[ci]? = some q → ∃ (cC : ClassId) (iS : Nat → Nat), u_Kn s q.1 q.2.1 q.2.2 cC iS := by
    intro ci q h
    match ci, h with
    | 0, h => cases h; exact u_known (n := 17) ht en_lay0 (hts _ (lw_mem (i := 107) (by decide +kernel)))
    | 1, h => cases h; exact u_known (n := 3) ht en_lay1 (hts _ (lw_mem (i := 135) (by decide +kernel)))
    | 2, h => cases h; exact u_known (n := 9) ht en_lay2 (hts _ (lw_mem (i := 188) (by decide +kernel)))
    | 3, h => cases h; exact u_known (n := 3) ht en_lay3 (hts _ (lw_mem (i := 390) (by decide +kernel)))
    | 4, h => cases h; exact u_known (n := 3) ht en_lay4 (hts _ (lw_mem (i := 117) (by decide +kernel)))
    | 5, h => cases h; exact u_known (n := 7) ht en_lay5 (hts _ (lw_mem (i := 410) (by decide +kernel)))
    | 6, h => cases h; exact u_known (n := 11) ht en_lay6 (hts _ (lw_mem (i := 236) (by decide +kernel)))
    | 7, h => cases h; exact u_known (n := 6) ht en_lay7 (hts _ (lw_mem (i := 152) (by decide +kernel)))
    | 8, h => cases h; exact u_known (n := 6) ht en_lay8 (hts _ (lw_mem (i := 441) (by decide +kernel)))
    | 9, h => cases h; exact u_known (n := 11) ht en_lay9 (hts _ (lw_mem (i := 99) (by decide +kernel)))
    | 10, h => cases h; exact u_known (n := 23) ht en_lay10 (hts _ (lw_mem (i := 1409) (by decide +kernel)))
    | n + 11, h => simp at h
  have h0 : ∀ ci : Nat, ∃ z : ClassId × (Nat → Nat), ∀ q, en_cl[ci]? = some q → u_Kn s q.1 q.2.1 q.2.2 z.1 z.2 := by
    intro ci
    cases hq : en_cl[ci]? with
    | none => exact ⟨(0, fun _ => 0), fun q h => by cases h⟩
    | some q =>
      obtain ⟨c, i, h⟩ := hcl ci q hq
      exact ⟨(c, i), fun q' h' => by cases h'; exact h⟩
  obtain ⟨f, hf⟩ := Classical.axiomOfChoice h0
  obtain ⟨a1, h1⟩ := lw_arr (ty := .int) (hts _ (lw_mem (i := 133) (by decide +kernel))) (fun _ h => by cases h)
  obtain ⟨a2, h2⟩ := lw_arr (ty := .byte) (hts _ (lw_mem (i := 468) (by decide +kernel))) (fun _ h => by cases h)
  obtain ⟨a3, h3⟩ := lw_arr (ty := .long) (hts _ (lw_mem (i := 1931) (by decide +kernel))) (fun _ h => by cases h)
  obtain ⟨a4, h4⟩ := lw_arrO (C := RX2) (hts _ (lw_mem (i := 113) (by decide +kernel)))
  obtain ⟨a5, h5⟩ := lw_arrO (C := RX6) (hts _ (lw_mem (i := 115) (by decide +kernel)))
  obtain ⟨a6, h6⟩ := lw_arrO (C := RX0) (hts _ (lw_mem (i := 396) (by decide +kernel)))
  refine ⟨(fun ci => (f ci).1, fun ci => (f ci).2), fun k => ([a1, a1, a2, a3, a4, a5, a6] : List ClassId).getD k a1, fun ci q hq => hf ci q hq, fun k q hk => ?_⟩
  match k, hk with
  | 0, hk => cases hk; exact h1
  | 1, hk => cases hk; exact h2
  | 2, hk => cases hk; exact h3
  | 3, hk => cases hk; exact h4
  | 4, hk => cases hk; exact h5
  | 5, hk => cases hk; exact h6
  | n + 6, hk => simp at hk
/-! the texts -/
def lw_tm (i : Nat) : Term := ([.string RX8 68, .string RX8 74, .string RX8 76, .string RX8 78, .string RX8 80, .string RX8 82, .string RX8 84, .string RX8 86, .string RX8 88, .string RX9 468, .string RX9 474] : List Term).getD i (.arg 0)
def lw_nw : List Cond := flatC (Jvm.Cond.and given_1 narrow_1)
theorem lw_q1 : ∀ i, i < 11 → Cond.exactly (lw_tm i) "java/lang/String" ∈ lw_nw := by decide +kernel
theorem lw_q2 : ∀ i, i < 11 → Cond.eq (.field (lw_tm i) "java/lang/String" "coder" "B") (.int 0) ∈ lw_nw := by decide +kernel
theorem lw_q3 : ∀ i, i < 11 → Cond.arrayOf (.field (lw_tm i) "java/lang/String" "value" "[B") .byte ∈ lw_nw := by decide +kernel
theorem lw_q4 : ∀ i, i < 11 → Cond.eq (.length (.field (lw_tm i) "java/lang/String" "value" "[B")) (.int (Int32.ofNat (en_sl.getD i 0))) ∈ lw_nw := by decide +kernel
theorem lw_q5 : ∀ i, i < 11 → ∀ j, j < en_sl.getD i 0 → Cond.eq (.elem (.field (lw_tm i) "java/lang/String" "value" "[B") (.int (Int32.ofNat j))) (.int ((en_sb.getD i []).getD j 0)) ∈ lw_nw := by decide +kernel
theorem lw_q6 : ∀ a, a < 4 → ∀ b, b < 4 → a ≠ b → Cond.not (.castable (en_exc a) (en_exc b)) ∈ lw_nw := by decide +kernel
theorem lw_q7 : ∀ t ∈ en_msgs, Cond.exactly (.string RX9 t.1) "java/lang/String" ∈ lw_nw := by decide +kernel
theorem lw_q8 : ∀ t ∈ en_words, t.2.2.2 < 11 ∧ (lw_tm t.2.2.2 = .string t.1 t.2.1 ∨ Cond.eq (lw_tm t.2.2.2) (.string t.1 t.2.1) ∈ lw_nw) := by decide +kernel
theorem lw_q9 : ∀ t ∈ en_words, Cond.stringRef t.1 t.2.1 t.2.2.1 ∈ tables_1 := by decide +kernel
theorem lw_q10 : ∀ t ∈ en_msgs, Cond.stringRef RX9 t.1 t.2 ∈ tables_1 := by decide +kernel
theorem lw_q11 : ∀ i, i < 11 → ∀ j, j < 11 → en_sl.getD i 0 = en_sl.getD j 0 → (∀ x, x < en_sl.getD i 0 → (en_sb.getD i []).getD x 0 = (en_sb.getD j []).getD x 0) → i = j := by decide +kernel
theorem lw_q12 : ∀ i, i < 11 → en_sl.getD i 0 ≤ 5 := by decide
theorem lw_str {args : Array Value} {s : State} {A : Nat → Prop} (hn : ∀ c ∈ lw_nw, c.before args s = true) (hA : ∀ a : Nat, a < s.heap.size → ¬ A a) : ∃ adK adV : Nat → Nat, vk_S 11 en_sl en_sb adK adV A s s.heap ∧ ∀ i : Nat, i < 11 → (lw_tm i).eval args s none [] s = some (.ref (adK i)) := by
  have h0 : ∀ i : Nat, ∃ q : Nat × Nat, i < 11 → (lw_tm i).eval args s none [] s = some (.ref q.1) ∧ va_O "java/lang/String" q.1 A s s.heap ∧ va_OF "java/lang/String" "coder" "B" (.int 0) q.1 A s s.heap ∧ va_OF "java/lang/String" "value" "[B" (.ref q.2) q.1 A s s.heap ∧ va_T .byte q.2 (en_sl.getD i 0) (fun j => .int ((en_sb.getD i []).getD j 0)) A s s.heap := by
    intro i
    by_cases hi : i < 11
    · obtain ⟨adK, adV, h1, h2⟩ := vk_Sof (args := args) (s := s) (N := 1) (tm := fun _ => lw_tm i) (len := [en_sl.getD i 0]) (byt := [en_sb.getD i []]) (A := A) (fun j hj => by
          have e : j = 0 := by omega
          subst e
          have := lw_q12 i hi
          show en_sl.getD i 0 < 2 ^ 31
          omega) (fun j hj => hn _ (lw_q1 i hi)) (fun j hj => hn _ (lw_q2 i hi)) (fun j hj => hn _ (lw_q3 i hi)) (fun j hj => by
          have e : j = 0 := by omega
          subst e
          exact hn _ (lw_q4 i hi)) (fun j hj x hx => by
          have e : j = 0 := by omega
          subst e
          exact hn _ (lw_q5 i hi x hx)) (fun a b ha hb hab => absurd (show a = b by omega) hab) hA
      obtain ⟨g1, g2, g3, g4⟩ := h1.1 0 (by decide)
      exact ⟨(adK 0, adV 0), fun _ => ⟨h2 0 (by decide), g1, g2, g3, g4⟩⟩
    · exact ⟨(0, 0), fun h => absurd h hi⟩
  obtain ⟨ad, had⟩ := Classical.axiomOfChoice h0
  refine ⟨fun i => (ad i).1, fun i => (ad i).2, ⟨fun i hi => (had i hi).2, fun i j hi hj e => ?_⟩, fun i hi => (had i hi).1⟩
  obtain ⟨-, -, -, v1, t1⟩ := had i hi
  obtain ⟨-, -, -, v2, t2⟩ := had j hj
  have e' : (ad i).1 = (ad j).1 := e
  rw [e'] at v1
  obtain ⟨cf, k, fi, f, cell, p1, p2, p3, p4, p5, p6⟩ := v1
  obtain ⟨cf', k', fi', f', cell', r1, r2, r3, r4, r5, r6⟩ := v2
  cases Option.some.inj (p1.symm.trans r1)
  cases Option.some.inj (p3.symm.trans r3)
  have ev : (ad i).2 = (ad j).2 := by
    have := Option.some.inj (p5.symm.trans r5)
    injection this
  rw [ev] at t1
  obtain ⟨c1, x1, x2, x3, x4, x5, x6, x7⟩ := t1
  obtain ⟨c2, y1, y2, y3, y4, y5, y6, y7⟩ := t2
  cases Option.some.inj (x1.symm.trans y1)
  have m1 := lw_q12 i hi
  have m2 := lw_q12 j hj
  have el : en_sl.getD i 0 = en_sl.getD j 0 := by
    have h9 : nI (en_sl.getD i 0) = nI (en_sl.getD j 0) := x5.symm.trans y5
    exact (nI_eq (by omega) (by omega)).mp h9
  refine lw_q11 i hi j hj el (fun x hx => ?_)
  have h9 := (x6 x hx).symm.trans (y6 x (by omega))
  have h10 := Option.some.inj h9
  injection h10
/-! the world at the law's entry -/
theorem lw_fx (l : Launch) (hflags : l.flags = flags0) {s : State} {b L : Nat} {xs : Nat → Int32} (hts : ∀ w ∈ lw_tbl, w.before #[Value.ref b] s = true) (hX : va_X b L xs s s.heap) (hbl : b < s.heap.size) (hgv : (Jvm.Cond.and given_1 narrow_1).before #[Value.ref b] s = true) : ∃ G : en_G, G.1 = l ∧ G.2.2.2.1 = en_ad s.heap.size ∧ G.2.2.2.2.1 0 = b ∧ G.2.2.2.2.2.1 = s.heap.size ∧ G.2.2.2.2.2.2.1 = L ∧ G.2.2.2.2.2.2.2.2 = some s.heap.size ∧ en_fx G s s.heap := by
  have hn : ∀ c ∈ lw_nw, c.before #[Value.ref b] s = true := flat_of_before _ hgv
  have htb : ∀ w ∈ tables_1, w.before #[Value.ref b] s = true := fun w hw => hts w (List.mem_append_right _ hw)
  have hA : ∀ a : Nat, a < s.heap.size → ¬ (fun q : Nat => s.heap.size ≤ q) a := fun a h => Nat.not_le.mpr h
  obtain ⟨D, cA, hK⟩ := lw_K hts
  obtain ⟨adK, adV, hS, hev⟩ := lw_str (A := fun q : Nat => s.heap.size ≤ q) hn hA
  have hfm := va_Zqof (C := "jdk/internal/util/Preconditions") (n := "SIOOBE_FORMATTER") (d := "Ljava/util/function/BiFunction;") (A := fun q : Nat => s.heap.size ≤ q) (hts _ (lw_mem (i := 881) (by decide +kernel))) (hts _ (lw_mem (i := 88) (by decide +kernel))) (hn _ (by decide +kernel)) hA
  obtain ⟨fm, wf, hwf, hfz⟩ : ∃ (fm : Nat) (wf : en_V), (wf = .inr (.inl none) ∨ wf = .inr (.inr (.inr 200))) ∧ va_Z "jdk/internal/util/Preconditions" "SIOOBE_FORMATTER" "Ljava/util/function/BiFunction;" (match wf with | .inr (.inl none) => .null | _ => .ref fm) (fun q : Nat => s.heap.size ≤ q) s s.heap := by
    rcases hfm with h | ⟨t, h⟩
    · exact ⟨0, .inr (.inl none), Or.inl rfl, h⟩
    · exact ⟨t, .inr (.inr (.inr 200)), Or.inr rfl, h⟩
  refine ⟨(l, D, cA, en_ad s.heap.size, fun k => if k = 0 then b else if k ≤ 11 then adK (k - 1) else if k = 200 then fm else adV (k - 101), s.heap.size, L, xs, some s.heap.size), rfl, rfl, rfl, rfl, rfl, rfl, hK, ?_⟩
  refine ⟨fun a i x h hm => va_Nw.of rfl (htb _ (List.mem_filter.mp hm).1), hX, hbl, Nat.le_refl _, ?_, ?_, ?_, ?_, ?_, ?_, fun C T hm => va_Nw.of rfl (htb _ hm), fun x hm => va_Nw.of rfl (htb _ hm), fun a c ha hc hac => va_Nc.of (hn _ (lw_q6 a ha c hc hac)), ?_, va_AO.of (hts _ (lw_mem (i := 113) (by decide +kernel))), va_AO.of (hts _ (lw_mem (i := 115) (by decide +kernel))), va_AO.of (hts _ (lw_mem (i := 396) (by decide +kernel))), wf, hwf, ?_⟩
  · refine ⟨fun i hi => ?_, fun i j hi hj e => ?_⟩
    · have h1 := hS.1 i hi
      have e1 : (if i + 1 = 0 then b else if i + 1 ≤ 11 then adK (i + 1 - 1) else if i + 1 = 200 then fm else adV (i + 1 - 101)) = adK i := by
        rw [if_neg (by omega), if_pos (by omega), Nat.add_sub_cancel]
      have e2 : (if i + 101 = 0 then b else if i + 101 ≤ 11 then adK (i + 101 - 1) else if i + 101 = 200 then fm else adV (i + 101 - 101)) = adV i := by
        rw [if_neg (by omega), if_neg (by omega), if_neg (by omega), Nat.add_sub_cancel]
      simp only [e1, e2]
      exact h1
    · have e1 : (if i + 1 = 0 then b else if i + 1 ≤ 11 then adK (i + 1 - 1) else if i + 1 = 200 then fm else adV (i + 1 - 101)) = adK i := by
        rw [if_neg (by omega), if_pos (by omega), Nat.add_sub_cancel]
      have e2 : (if j + 1 = 0 then b else if j + 1 ≤ 11 then adK (j + 1 - 1) else if j + 1 = 200 then fm else adV (j + 1 - 101)) = adK j := by
        rw [if_neg (by omega), if_pos (by omega), Nat.add_sub_cancel]
      simp only [e1, e2] at e
      exact hS.2 i j hi hj e
  · intro t ht
    obtain ⟨q1, q2⟩ := lw_q8 t ht
    have q3 := htb _ (lw_q9 t ht)
    have e1 : (if t.2.2.2 + 1 = 0 then b else if t.2.2.2 + 1 ≤ 11 then adK (t.2.2.2 + 1 - 1) else if t.2.2.2 + 1 = 200 then fm else adV (t.2.2.2 + 1 - 101)) = adK t.2.2.2 := by
      rw [if_neg (by omega), if_pos (by omega), Nat.add_sub_cancel]
    have h1 := hev _ q1
    have h2 : (Term.string t.1 t.2.1).eval #[Value.ref b] s none [] s = some (.ref (adK t.2.2.2)) := by
      rcases q2 with q2 | q2
      · rw [← q2]
        exact h1
      · exact va_eqR (hn _ q2) h1
    show vk_R t.1 t.2.1 t.2.2.1 (if t.2.2.2 + 1 = 0 then b else if t.2.2.2 + 1 ≤ 11 then adK (t.2.2.2 + 1 - 1) else if t.2.2.2 + 1 = 200 then fm else adV (t.2.2.2 + 1 - 101)) s
    rw [e1]
    exact vk_R.of q3 h2
  · intro t ht
    obtain ⟨a, c, cell, k, q1, -⟩ := Cond.exactly_spec (args := #[Value.ref b]) (first := s) (o := none) (s := s) (idx := []) (t := .string RX9 t.1) (cls := "java/lang/String") (hn _ (lw_q7 t ht))
    exact ⟨a, vk_R.of (htb _ (lw_q10 t ht)) q1⟩
  · exact va_Zof (hts _ (lw_mem (i := 865) (by decide +kernel))) (hts _ (lw_mem (i := 86) (by decide +kernel))) (va_eqi (hn _ (by decide +kernel))) hA
  · exact vx_Zqof (hts _ (lw_mem (i := 562) (by decide +kernel))) (hts _ (lw_mem (i := 91) (by decide +kernel))) (hn _ (by decide +kernel)) hA
  · exact vx_Zqof (hts _ (lw_mem (i := 564) (by decide +kernel))) (hts _ (lw_mem (i := 91) (by decide +kernel))) (hn _ (by decide +kernel)) hA
  · show l.stackTraces = false
    simp only [Launch.stackTraces, hflags]
    decide
  · rcases hwf with rfl | rfl
    · exact hfz
    · exact hfz

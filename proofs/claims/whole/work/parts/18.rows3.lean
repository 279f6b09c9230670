/-! The engine's rows: a thrown exception; texts; copies of rows. -/
def en_sup : List String := ["java/lang/RuntimeException", "java/lang/Exception"]
/-- the words of the four exceptions: the good ones, the others -/
def en_ics : List Nat := [87, 150, 162, 194]
def en_iks : List Nat := [83, 146, 158, 190]
def en_xw (n : Nat) : List Cond := vx_atS RX9 (en_ics.getD n 0) (en_exc n) en_sup
theorem en_xw_bad : ∀ n, n < 3 → ∀ w ∈ en_xw n, goodWord w = false → (match w with | .castable C T => decide (Cond.castable C T ∈ tables_1) | .declares x => decide (Cond.declares x ∈ tables_1) | _ => false) = true := by decide +kernel
theorem en_xw_ot : ∀ n, n < 3 → ∀ w ∈ en_xw n, vx_ot w = true := by decide +kernel
theorem en_xw_good : ∀ n, n < 3 → ∀ w ∈ en_xw n, goodWord w = true → w ∈ lw_tbl := by decide +kernel
theorem en_xw_ik : ∀ n, n < 4 → Cond.classLink RX9 (en_iks.getD n 0) (en_exc n) ∈ lw_tbl ∧ Cond.initialized (en_exc n) ∈ lw_tbl := by decide +kernel
theorem en_xw_fit : ∀ n, n < 4 → Bundle.fit (en_exc n) = true := by decide +kernel
theorem en_xw_fit2 : ∀ n ∈ en_sup, Bundle.fit n = true := by decide +kernel
section en_thr
variable {G : en_G} {d mc ms : Nat} {μ : en_D} {cs : List en_A} {ρ : en_R} {σ : en_M} {bc bs pc : Nat} {ls : List (Option en_V)} {st : List en_V}
theorem en_xw_all {G : en_G} {s : State} {args : Array Value} {n : Nat} (hn : n < 3) (hts : ∀ w ∈ en_tw, w.before args s = true) (hfx : en_fx G s s.heap) : ∀ w ∈ en_xw n, w.before args s = true := by
  intro w hw
  cases hg : goodWord w with
  | true => exact hts w (List.mem_filter.mpr ⟨en_xw_good n hn w hw hg, hg⟩)
  | false =>
    have hb := en_xw_bad n hn w hw hg
    obtain ⟨-, -, -, -, -, -, -, -, -, -, -, h9, h10, -, -⟩ := hfx
    cases w with
    | castable C T => exact va_Nw.use rfl (h9 C T (by simpa using hb))
    | declares x => exact va_Nw.use rfl (h10 x (by simpa using hb))
    | _ => cases hb
/-- throw new E("a text"), five instructions -/
theorem en_s_throw0 {n is : Nat} {text : String} {l0 l3 l4 l6 l9 n3 n4 n6 n9 n10 a0 a3 a4 a6 a9 b0 b3 b4 b6 b9 : Nat} {v0 v3 v4 v6 v9 : Int32} (hn : n < 3) (ho : en_own μ.2.2.2.2.1 = RX9) (hh : μ.2.2.2.2.2.1 = []) (ht : (is, text) ∈ en_msgs)
    (c0 : μ.2.2.2.2.2.2 pc = some (.new (en_iks.getD n 0), l0, n3, a0, b0, v0)) (c3 : μ.2.2.2.2.2.2 (pc + 3) = some (.dup, l3, n4, a3, b3, v3)) (c4 : μ.2.2.2.2.2.2 (pc + 4) = some (.ldc is, l4, n6, a4, b4, v4)) (c6 : μ.2.2.2.2.2.2 (pc + 6) = some (.invokespecial (en_ics.getD n 0), l6, n9, a6, b6, v6)) (c9 : μ.2.2.2.2.2.2 (pc + 9) = some (.athrow, l9, n10, a9, b9, v9)) (hcat : Nat.ble (st.map en_cat).sum 8 = true) :
    en_W G (d + 6) mc ms μ (.inl n) cs ρ σ (bc + 1) (bs + 6) pc ls st cs ρ σ := by
  intro p e s m args below meth c H locs cells slots la C hS hw hbc hbs hl hst
  obtain ⟨d0, -, g0⟩ := en_dec C c0
  obtain ⟨d3, -, g3⟩ := en_dec C c3
  obtain ⟨d4, -, g4⟩ := en_dec C c4
  obtain ⟨d6, -, g6⟩ := en_dec C c6
  obtain ⟨d9, -, g9⟩ := en_dec C c9
  simp only [en_gd, Bool.and_eq_true, beq_iff_eq, decide_eq_true_eq] at g0 g3 g4 g6 g9
  obtain ⟨-, rfl⟩ := g0
  obtain ⟨-, rfl⟩ := g3
  obtain ⟨-, rfl⟩ := g4
  obtain ⟨-, rfl⟩ := g6
  obtain ⟨-, rfl⟩ := g9
  have hfx := C.2.2.2.2.2.2.2.2.2.1
  have hown := C.2.2.2.1
  rw [ho] at hown
  obtain ⟨sa, hsa⟩ := hfx.2.2.2.2.2.2.2.1 _ ht
  obtain ⟨k1, k2⟩ := en_xw_ik n (by omega)
  have hcs := en_cat_sum (G := G) hcat
  refine vx_throwS (names := en_sup) (cls := en_exc n) (A := en_up G) C.1 C.2.1 hfx.2.2.2.2.2.2.2.2.2.2.2.2.2.2.1 hown (en_xw_fit n (by omega)) en_xw_fit2 (C.2.2.2.2.1 _ (List.mem_filter.mpr ⟨k1, rfl⟩)) (C.2.2.2.2.1 _ (List.mem_filter.mpr ⟨k2, rfl⟩)) hsa (en_xw_all hn C.2.2.2.2.1 hfx) ?_ hfx.2.2.2.2.2.2.2.2.2.1 hfx.2.2.2.2.2.2.2.2.2.2.1 hS (by rw [en_lsz hl, C.2.2.1]) d0 d3 d4 d6 d9 ?_ (by simp only [en_rm, en_sup, List.length_cons, List.length_nil]; omega) (by simp only [en_rm, en_sup, List.length_cons, List.length_nil]; omega) (by simp only [en_rm]; omega) (by simp only [en_rm]; omega) C.2.2.2.2.2.2.1 ?_ hS.2.2 (by omega) (by omega)
  · intro w hw
    rcases List.mem_cons.mp hw with rfl | hw
    · rfl
    · rcases List.mem_cons.mp hw with rfl | hw
      · rfl
      · exact en_xw_ot n hn w hw
  · intro x hx
    rw [C.2.2.2.2.2.2.2.2.1, hh] at hx
    cases hx
  · intro t hal hsz hk
    refine ⟨⟨n, rfl, rfl⟩, ⟨hw.1.kept (fun k q hq => hk q.1 (hw.1 k q hq).lt), hw.2⟩, Nat.le_trans hS.1 hsz, fun q hq hA => ?_⟩
    rw [hk q (Nat.lt_of_lt_of_le hq hS.1)]
    exact hS.2.1 q hq hA
/-- throw new E("a text"), five instructions, the text by a wide index -/
theorem en_s_throwW0 {n is : Nat} {text : String} {l0 l3 l4 l6 l9 n3 n4 n6 n9 n10 a0 a3 a4 a6 a9 b0 b3 b4 b6 b9 : Nat} {v0 v3 v4 v6 v9 : Int32} (hn : n < 3) (ho : en_own μ.2.2.2.2.1 = RX9) (hh : μ.2.2.2.2.2.1 = []) (ht : (is, text) ∈ en_msgs)
    (c0 : μ.2.2.2.2.2.2 pc = some (.new (en_iks.getD n 0), l0, n3, a0, b0, v0)) (c3 : μ.2.2.2.2.2.2 (pc + 3) = some (.dup, l3, n4, a3, b3, v3)) (c4 : μ.2.2.2.2.2.2 (pc + 4) = some (.ldc_w is, l4, n6, a4, b4, v4)) (c6 : μ.2.2.2.2.2.2 (pc + 7) = some (.invokespecial (en_ics.getD n 0), l6, n9, a6, b6, v6)) (c9 : μ.2.2.2.2.2.2 (pc + 10) = some (.athrow, l9, n10, a9, b9, v9)) (hcat : Nat.ble (st.map en_cat).sum 8 = true) :
    en_W G (d + 6) mc ms μ (.inl n) cs ρ σ (bc + 1) (bs + 6) pc ls st cs ρ σ := by
  intro p e s m args below meth c H locs cells slots la C hS hw hbc hbs hl hst
  obtain ⟨d0, -, g0⟩ := en_dec C c0
  obtain ⟨d3, -, g3⟩ := en_dec C c3
  obtain ⟨d4, -, g4⟩ := en_dec C c4
  obtain ⟨d6, -, g6⟩ := en_dec C c6
  obtain ⟨d9, -, g9⟩ := en_dec C c9
  simp only [en_gd, Bool.and_eq_true, beq_iff_eq, decide_eq_true_eq] at g0 g3 g4 g6 g9
  obtain ⟨-, rfl⟩ := g0
  obtain ⟨-, rfl⟩ := g3
  obtain ⟨-, rfl⟩ := g4
  obtain ⟨-, rfl⟩ := g6
  obtain ⟨-, rfl⟩ := g9
  have hfx := C.2.2.2.2.2.2.2.2.2.1
  have hown := C.2.2.2.1
  rw [ho] at hown
  obtain ⟨sa, hsa⟩ := hfx.2.2.2.2.2.2.2.1 _ ht
  obtain ⟨k1, k2⟩ := en_xw_ik n (by omega)
  have hcs := en_cat_sum (G := G) hcat
  refine vx_throwSW (names := en_sup) (cls := en_exc n) (A := en_up G) C.1 C.2.1 hfx.2.2.2.2.2.2.2.2.2.2.2.2.2.2.1 hown (en_xw_fit n (by omega)) en_xw_fit2 (C.2.2.2.2.1 _ (List.mem_filter.mpr ⟨k1, rfl⟩)) (C.2.2.2.2.1 _ (List.mem_filter.mpr ⟨k2, rfl⟩)) hsa (en_xw_all hn C.2.2.2.2.1 hfx) ?_ hfx.2.2.2.2.2.2.2.2.2.1 hfx.2.2.2.2.2.2.2.2.2.2.1 hS (by rw [en_lsz hl, C.2.2.1]) d0 d3 d4 d6 d9 ?_ (by simp only [en_rm, en_sup, List.length_cons, List.length_nil]; omega) (by simp only [en_rm, en_sup, List.length_cons, List.length_nil]; omega) (by simp only [en_rm]; omega) (by simp only [en_rm]; omega) C.2.2.2.2.2.2.1 ?_ hS.2.2 (by omega) (by omega)
  · intro w hw
    rcases List.mem_cons.mp hw with rfl | hw
    · rfl
    · rcases List.mem_cons.mp hw with rfl | hw
      · rfl
      · exact en_xw_ot n hn w hw
  · intro x hx
    rw [C.2.2.2.2.2.2.2.2.1, hh] at hx
    cases hx
  · intro t hal hsz hk
    refine ⟨⟨n, rfl, rfl⟩, ⟨hw.1.kept (fun k q hq => hk q.1 (hw.1 k q hq).lt), hw.2⟩, Nat.le_trans hS.1 hsz, fun q hq hA => ?_⟩
    rw [hk q (Nat.lt_of_lt_of_le hq hS.1)]
    exact hS.2.1 q hq hA
/-- NoSuchElementException: its constructor links otherwise -/
theorem en_s_throw3 {is : Nat} {text : String} {l0 l3 l4 l6 l9 n3 n4 n6 n9 n10 a0 a3 a4 a6 a9 b0 b3 b4 b6 b9 : Nat} {v0 v3 v4 v6 v9 : Int32} (ho : en_own μ.2.2.2.2.1 = RX9) (hh : μ.2.2.2.2.2.1 = []) (ht : (is, text) ∈ en_msgs)
    (c0 : μ.2.2.2.2.2.2 pc = some (.new (190), l0, n3, a0, b0, v0)) (c3 : μ.2.2.2.2.2.2 (pc + 3) = some (.dup, l3, n4, a3, b3, v3)) (c4 : μ.2.2.2.2.2.2 (pc + 4) = some (.ldc is, l4, n6, a4, b4, v4)) (c6 : μ.2.2.2.2.2.2 (pc + 6) = some (.invokespecial (194), l6, n9, a6, b6, v6)) (c9 : μ.2.2.2.2.2.2 (pc + 9) = some (.athrow, l9, n10, a9, b9, v9)) (hcat : Nat.ble (st.map en_cat).sum 8 = true) :
    en_W G (d + 6) mc ms μ (.inl 3) cs ρ σ (bc + 1) (bs + 6) pc ls st cs ρ σ := by
  sorry
theorem en_s_throw {n is : Nat} {text : String} {l0 l3 l4 l6 l9 n3 n4 n6 n9 n10 a0 a3 a4 a6 a9 b0 b3 b4 b6 b9 : Nat} {v0 v3 v4 v6 v9 : Int32} (hn : n < 4) (ho : en_own μ.2.2.2.2.1 = RX9) (hh : μ.2.2.2.2.2.1 = []) (ht : (is, text) ∈ en_msgs)
    (c0 : μ.2.2.2.2.2.2 pc = some (.new (en_iks.getD n 0), l0, n3, a0, b0, v0)) (c3 : μ.2.2.2.2.2.2 (pc + 3) = some (.dup, l3, n4, a3, b3, v3)) (c4 : μ.2.2.2.2.2.2 (pc + 4) = some (.ldc is, l4, n6, a4, b4, v4)) (c6 : μ.2.2.2.2.2.2 (pc + 6) = some (.invokespecial (en_ics.getD n 0), l6, n9, a6, b6, v6)) (c9 : μ.2.2.2.2.2.2 (pc + 9) = some (.athrow, l9, n10, a9, b9, v9)) (hcat : Nat.ble (st.map en_cat).sum 8 = true) :
    en_W G (d + 6) mc ms μ (.inl n) cs ρ σ (bc + 1) (bs + 6) pc ls st cs ρ σ := by
  by_cases h3 : n < 3
  · exact en_s_throw0 h3 ho hh ht c0 c3 c4 c6 c9 hcat
  · have h4 : n = 3 := by omega
    subst h4
    exact en_s_throw3 ho hh ht c0 c3 c4 c6 c9 hcat
/-- NoSuchElementException: its constructor links otherwise -/
theorem en_s_throwW3 {is : Nat} {text : String} {l0 l3 l4 l6 l9 n3 n4 n6 n9 n10 a0 a3 a4 a6 a9 b0 b3 b4 b6 b9 : Nat} {v0 v3 v4 v6 v9 : Int32} (ho : en_own μ.2.2.2.2.1 = RX9) (hh : μ.2.2.2.2.2.1 = []) (ht : (is, text) ∈ en_msgs)
    (c0 : μ.2.2.2.2.2.2 pc = some (.new (190), l0, n3, a0, b0, v0)) (c3 : μ.2.2.2.2.2.2 (pc + 3) = some (.dup, l3, n4, a3, b3, v3)) (c4 : μ.2.2.2.2.2.2 (pc + 4) = some (.ldc_w is, l4, n6, a4, b4, v4)) (c6 : μ.2.2.2.2.2.2 (pc + 7) = some (.invokespecial (194), l6, n9, a6, b6, v6)) (c9 : μ.2.2.2.2.2.2 (pc + 10) = some (.athrow, l9, n10, a9, b9, v9)) (hcat : Nat.ble (st.map en_cat).sum 8 = true) :
    en_W G (d + 6) mc ms μ (.inl 3) cs ρ σ (bc + 1) (bs + 6) pc ls st cs ρ σ := by
  sorry
theorem en_s_throwW {n is : Nat} {text : String} {l0 l3 l4 l6 l9 n3 n4 n6 n9 n10 a0 a3 a4 a6 a9 b0 b3 b4 b6 b9 : Nat} {v0 v3 v4 v6 v9 : Int32} (hn : n < 4) (ho : en_own μ.2.2.2.2.1 = RX9) (hh : μ.2.2.2.2.2.1 = []) (ht : (is, text) ∈ en_msgs)
    (c0 : μ.2.2.2.2.2.2 pc = some (.new (en_iks.getD n 0), l0, n3, a0, b0, v0)) (c3 : μ.2.2.2.2.2.2 (pc + 3) = some (.dup, l3, n4, a3, b3, v3)) (c4 : μ.2.2.2.2.2.2 (pc + 4) = some (.ldc_w is, l4, n6, a4, b4, v4)) (c6 : μ.2.2.2.2.2.2 (pc + 7) = some (.invokespecial (en_ics.getD n 0), l6, n9, a6, b6, v6)) (c9 : μ.2.2.2.2.2.2 (pc + 10) = some (.athrow, l9, n10, a9, b9, v9)) (hcat : Nat.ble (st.map en_cat).sum 8 = true) :
    en_W G (d + 6) mc ms μ (.inl n) cs ρ σ (bc + 1) (bs + 6) pc ls st cs ρ σ := by
  by_cases h3 : n < 3
  · exact en_s_throwW0 h3 ho hh ht c0 c3 c4 c6 c9 hcat
  · have h4 : n = 3 := by omega
    subst h4
    exact en_s_throwW3 ho hh ht c0 c3 c4 c6 c9 hcat
end en_thr

/-! The engine. A cell of the world is (j, g, i): its kind j (en_kd), the card g, the place i. A store gives an int for each slot of each cell, a second one the references. en_W: the machine, at pc of the method μ, comes to the end that r, cs', ρ', σ' tell. -/
abbrev en_A : Type := Nat × Nat × Nat
abbrev en_V : Type := Int32 ⊕ Option en_A ⊕ Int32 ⊕ Nat
abbrev en_M : Type := Nat → Nat → Nat → Nat → Int32
abbrev en_R : Type := Nat → Nat → Nat → Nat → Option en_A
/-- an instruction: itself, its length, the pc behind it, two numbers (a local, a target, a class and a field), a constant -/
abbrev en_I : Type := Instr × Nat × Nat × Nat × Nat × Int32
/-- the fixed things of a run: launch, class numbers, array classes, addresses of cells, of constants, the first address, the script's length, its ints, how large the heap is at the method's entry (where that is said) -/
abbrev en_G : Type := Launch × va_G × (Nat → ClassId) × (en_A → Nat) × (Nat → Nat) × Nat × Nat × (Nat → Int32) × Option Nat
/-- a method: name, bytes, locals, what it returns, the number of its class, its table, its instructions -/
abbrev en_D : Type := MethodName × ByteArray × Nat × Option FieldType × Nat × List (Nat × Nat × Nat × Nat) × (Nat → Option en_I)
def en_tr (G : en_G) (v : en_V) : Value := match v with
  | .inl x => .int x
  | .inr (.inl none) => .null
  | .inr (.inl (some c)) => .ref (G.2.2.2.1 c)
  | .inr (.inr (.inl x)) => .long x.toInt64
  | .inr (.inr (.inr k)) => .ref (G.2.2.2.2.1 k)
def en_okv (cs : List en_A) (v : en_V) : Prop := ∀ c, v = .inr (.inl (some c)) → c ∈ cs
def en_oks (cs : List en_A) (st : List en_V) : Prop := ∀ v ∈ st, en_okv cs v
theorem en_ok_i {cs : List en_A} {x : Int32} : en_okv cs (.inl x) := fun _ h => by cases h
theorem en_ok_n {cs : List en_A} : en_okv cs (.inr (.inl none)) := fun _ h => by cases h
theorem en_ok_j {cs : List en_A} {x : Int32} : en_okv cs (.inr (.inr (.inl x))) := fun _ h => by cases h
theorem en_ok_x {cs : List en_A} {k : Nat} : en_okv cs (.inr (.inr (.inr k))) := fun _ h => by cases h
theorem en_ok_r {cs : List en_A} {c : en_A} (h : c ∈ cs) : en_okv cs (.inr (.inl (some c))) := fun _ e => by cases e; exact h
theorem en_oks_nil {cs : List en_A} : en_oks cs [] := fun _ h => nomatch h
theorem en_oks_c {cs : List en_A} {v : en_V} {st : List en_V} (h : en_okv cs v) (t : en_oks cs st) : en_oks cs (v :: st) := fun w hw => (List.mem_cons.mp hw).elim (fun e => by rw [e]; exact h) (t w)
theorem en_oks_h {cs : List en_A} {v : en_V} {st : List en_V} (h : en_oks cs (v :: st)) : en_okv cs v := h v List.mem_cons_self
theorem en_oks_t {cs : List en_A} {v : en_V} {st : List en_V} (h : en_oks cs (v :: st)) : en_oks cs st := fun w hw => h w (List.mem_cons_of_mem _ hw)
theorem en_okr {cs : List en_A} {c : en_A} {st : List en_V} (h : en_oks cs (.inr (.inl (some c)) :: st)) : c ∈ cs := en_oks_h h c rfl
def en_wr (σ : en_M) (j g i k : Nat) (v : Int32) : en_M := fun j' g' i' k' => if j' = j ∧ g' = g ∧ i' = i ∧ k' = k then v else σ j' g' i' k'
def en_inb (x : Int32) (n : Nat) : Bool := !decide (x < 0) && decide (x.toNatClampNeg < n)
theorem en_inb_vp {x : Int32} {n : Nat} (h : en_inb x n = true) : vp_in x n := by
  simp only [en_inb, Bool.and_eq_true, Bool.not_eq_true', decide_eq_false_iff_not, decide_eq_true_eq] at h
  exact fun q => q.elim h.1 (fun q => absurd h.2 (Nat.not_lt.mpr q))
def en_rd (n : Nat) (f : Nat → Int32) (x : Int32) : Option Int32 := if en_inb x n then some (f x.toNatClampNeg) else none
def en_wa (n : Nat) (σ : en_M) (j g i : Nat) (x v : Int32) : Option en_M := if en_inb x n then some (en_wr σ j g i x.toNatClampNeg v) else none
def en_fv (G : en_G) (ρ : en_R) (σ : en_M) (c : en_A) (ci k : Nat) : Value := if en_fk ci k = 2 then en_tr G (.inr (.inl (ρ c.1 c.2.1 c.2.2 k))) else .int (σ c.1 c.2.1 c.2.2 k)
def en_ent (G : en_G) (ρ : en_R) (σ : en_M) (c : en_A) : va_E := match en_kd c.1 with
  | (0, ci) => .inr (ci, (List.range (en_nf ci)).map (en_fv G ρ σ c ci))
  | (1, n) => .inl (G.2.2.1 1, n, .inl (σ c.1 c.2.1 c.2.2))
  | (2, n) => .inl (G.2.2.1 2, n, .inl (σ c.1 c.2.1 c.2.2))
  | (3, n) => .inl (G.2.2.1 3, n, .inr (.inl (fun k => (σ c.1 c.2.1 c.2.2 k).toInt64)))
  | (t, n) => .inl (G.2.2.1 t, n, .inr (.inr (.inr (.inr (fun k => (ρ c.1 c.2.1 c.2.2 k).map G.2.2.2.1)))))
def en_tys (G : en_G) : List (ClassId × FieldType) := [(G.2.2.1 1, .int), (G.2.2.1 2, .byte), (G.2.2.1 3, .long), (G.2.2.1 4, .object RX2), (G.2.2.1 5, .object RX6), (G.2.2.1 6, .object RX0)]
def en_wl (G : en_G) (cs : List en_A) (ρ : en_R) (σ : en_M) : va_W := cs.map (fun c => (G.2.2.2.1 c, en_ent G ρ σ c))
def en_up (G : en_G) : Nat → Prop := fun q => G.2.2.2.2.2.1 ≤ q
/-- how many fields, or elements, a cell of kind j has -/
def en_bd (j : Nat) : Nat := if (en_kd j).1 = 0 then en_nf (en_kd j).2 else (en_kd j).2
def en_wd (G : en_G) (cs : List en_A) (ρ : en_R) (σ : en_M) (H : Heap) : Prop := va_P G.2.1 en_cl (en_wl G cs ρ σ) H ∧ va_D (en_up G) (en_wl G cs ρ σ) ∧ ∀ c ∈ cs, ∀ k r, k < en_bd c.1 → ρ c.1 c.2.1 c.2.2 k = some r → r ∈ cs
theorem en_wl_at {G : en_G} {cs : List en_A} {ρ : en_R} {σ : en_M} {q : Nat} {c : en_A} (h : cs[q]? = some c) : (en_wl G cs ρ σ)[q]? = some (G.2.2.2.1 c, en_ent G ρ σ c) := by
  simp [en_wl, h]
theorem en_inj {G : en_G} {cs : List en_A} {ρ : en_R} {σ : en_M} {A : Nat → Prop} (hD : va_D A (en_wl G cs ρ σ)) {q q' : Nat} {c : en_A} (h : cs[q]? = some c) (h' : cs[q']? = some c) : q = q' := hD.1 q q' _ _ (en_wl_at h) (en_wl_at h') rfl
/-- a change of one cell alone -/
theorem en_wl_set {G : en_G} {cs : List en_A} {ρ ρ' : en_R} {σ σ' : en_M} {A : Nat → Prop} (hD : va_D A (en_wl G cs ρ σ)) {q : Nat} {c : en_A} (h : cs[q]? = some c) (hoff : ∀ c', c' ≠ c → en_ent G ρ' σ' c' = en_ent G ρ σ c') : en_wl G cs ρ' σ' = (en_wl G cs ρ σ).set q (G.2.2.2.1 c, en_ent G ρ' σ' c) := by
  apply List.ext_getElem?
  intro k
  have hq : q < (en_wl G cs ρ σ).length := by
    rw [en_wl, List.length_map]
    exact (List.getElem?_eq_some_iff.mp h).1
  by_cases hk : k = q
  · subst hk
    rw [List.getElem?_set_self hq, en_wl_at h]
  · rw [List.getElem?_set_ne (Ne.symm hk)]
    simp only [en_wl, List.getElem?_map]
    cases hc : cs[k]? with
    | none => rfl
    | some c' =>
      have hne : c' ≠ c := fun e => hk (en_inj hD (by rw [hc, e]) h)
      simp only [Option.map_some, hoff c' hne]
theorem en_D_any {G : en_G} {cs : List en_A} {ρ ρ' : en_R} {σ σ' : en_M} {A : Nat → Prop} (hD : va_D A (en_wl G cs ρ σ)) : va_D A (en_wl G cs ρ' σ') := by
  have key : ∀ {r : en_R} {s : en_M} (k : Nat) (x : Nat × va_E), (en_wl G cs r s)[k]? = some x → ∃ c, cs[k]? = some c ∧ x.1 = G.2.2.2.1 c := by
    intro r s k x hx
    simp only [en_wl, List.getElem?_map] at hx
    cases hc : cs[k]? with
    | none => rw [hc] at hx; cases hx
    | some c => rw [hc] at hx; cases hx; exact ⟨c, rfl, rfl⟩
  refine ⟨fun a b x y ha hb hxy => ?_, fun k x hx => ?_⟩
  · obtain ⟨c1, h1, e1⟩ := key a x ha
    obtain ⟨c2, h2, e2⟩ := key b y hb
    exact hD.1 a b _ _ (en_wl_at h1) (en_wl_at h2) (by rw [← e1, ← e2]; exact hxy)
  · obtain ⟨c1, h1, e1⟩ := key k x hx
    rw [e1]
    exact hD.2 k _ (en_wl_at h1)
theorem en_ent_wr {G : en_G} {ρ : en_R} {σ : en_M} {j g i k : Nat} {v : Int32} {c' : en_A} (h : c' ≠ (j, g, i)) : en_ent G ρ (en_wr σ j g i k v) c' = en_ent G ρ σ c' := by
  obtain ⟨j', g', i'⟩ := c'
  have hn : ∀ k', en_wr σ j g i k v j' g' i' k' = σ j' g' i' k' := by
    intro k'
    simp only [en_wr]
    rw [if_neg]
    rintro ⟨rfl, rfl, rfl, -⟩
    exact h rfl
  have hf : en_wr σ j g i k v j' g' i' = σ j' g' i' := funext hn
  simp only [en_ent, en_fv, hf]
  have h2 : ∀ ci, en_fv G ρ (en_wr σ j g i k v) (j', g', i') ci = en_fv G ρ σ (j', g', i') ci := fun ci => funext fun k' => by simp only [en_fv, hn]
  simp only [h2]
theorem en_wr_row {σ : en_M} {j g i k : Nat} {v : Int32} : en_wr σ j g i k v j g i = upd (σ j g i) k v := by
  funext k'
  simp only [en_wr, upd, true_and]
/-- the words of a nest that the tables have -/
def en_nest : List Cond := tables_1.filter (fun w => match w with | .methodLinkNest .. => true | _ => false)
/-- the words of the texts: lengths, bytes; where the classes have them; the messages of the exceptions -/
def en_sl : List Nat := [4, 4, 4, 4, 4, 5, 2, 4, 4, 4, 2]
def en_sb : List (List Int32) := [[99, 97, 114, 100], [102, 108, 111, 119], [115, 101, 110, 100], [98, 101, 108, 108], [100, 114, 111, 112], [112, 97, 117, 115, 101], [103, 111], [114, 97, 116, 101], [116, 105, 99, 107], [102, 114, 111, 109], [97, 116]]
def en_words : List (String × Nat × String × Nat) := [(RX9, 468, "from", 9), (RX9, 474, "at", 10), (RX8, 68, "card", 0), (RX8, 74, "flow", 1), (RX8, 76, "send", 2), (RX8, 78, "bell", 3), (RX8, 80, "drop", 4), (RX8, 82, "pause", 5), (RX8, 84, "go", 6), (RX8, 86, "rate", 7), (RX8, 88, "tick", 8), (RX10, 203, "from", 9), (RX10, 212, "at", 10), (RX10, 223, "card", 0), (RX10, 228, "flow", 1), (RX10, 233, "send", 2), (RX10, 238, "bell", 3), (RX10, 240, "drop", 4), (RX10, 245, "pause", 5), (RX10, 250, "go", 6), (RX10, 252, "rate", 7), (RX10, 257, "tick", 8)]
def en_msgs : List (Nat × String) := [(85, "the text is wrong"), (97, "no such length, cut or time"), (126, "no such rate"), (135, "no such number of ticks"), (148, "nothing is remembered"), (160, "no such send"), (192, "no such thing of a send"), (198, "no such piece"), (218, "no such thing of a piece"), (224, "no such byte of a piece"), (229, "no piece has such a byte"), (235, "no such flow"), (269, "no such thing of a flow"), (294, "no such thing of a row"), (308, "no such span of the calendar"), (328, "no such byte"), (340, "no such time"), (410, "the act is refused")]
def en_exc (n : Nat) : String := (["java/lang/IllegalArgumentException", "java/lang/IllegalStateException", "java/lang/IndexOutOfBoundsException", "java/util/NoSuchElementException"] : List String).getD n ""
/-- what lies outside the world: words of nests, the script, String constants, statics of String and Throwable, casts -/
def en_ex (G : en_G) (U : State) (H : Heap) : Prop := (∀ (a : String) (i : Nat) (x : MethodName) (h : String), Cond.methodLinkNest a i x h ∈ en_nest → va_Nw (.methodLinkNest a i x h) U) ∧ va_X (G.2.2.2.2.1 0) G.2.2.2.2.2.2.1 G.2.2.2.2.2.2.2.1 U H ∧ G.2.2.2.2.1 0 < G.2.2.2.2.2.1 ∧ G.2.2.2.2.2.1 ≤ H.size ∧
  vk_S 11 en_sl en_sb (fun i => G.2.2.2.2.1 (i + 1)) (fun i => G.2.2.2.2.1 (i + 101)) (en_up G) U H ∧ (∀ t ∈ en_words, vk_R t.1 t.2.1 t.2.2.1 (G.2.2.2.2.1 (t.2.2.2 + 1)) U) ∧ (∀ t ∈ en_msgs, ∃ sa, vk_R RX9 t.1 t.2 sa U) ∧
  va_Z "java/lang/String" "COMPACT_STRINGS" "Z" (.int 1) (en_up G) U H ∧ vx_Zq Bundle.tN "UNASSIGNED_STACK" Bundle.steD (en_up G) U H ∧ vx_Zq Bundle.tN "SUPPRESSED_SENTINEL" Bundle.listD (en_up G) U H ∧
  (∀ C T : String, Cond.castable C T ∈ tables_1 → va_Nw (.castable C T) U) ∧ (∀ x : MethodName, Cond.declares x ∈ tables_1 → va_Nw (.declares x) U) ∧ (∀ a b : Nat, a < 4 → b < 4 → a ≠ b → va_Nc (en_exc a) (en_exc b) U) ∧ G.1.stackTraces = false ∧ va_AO RX2 U ∧ va_AO RX6 U ∧ va_AO RX0 U ∧ ∃ w : en_V, (w = .inr (.inl none) ∨ w = .inr (.inr (.inr 200))) ∧ va_Z "jdk/internal/util/Preconditions" "SIOOBE_FORMATTER" "Ljava/util/function/BiFunction;" (en_tr G w) (en_up G) U H
def en_fx (G : en_G) (U : State) (H : Heap) : Prop := va_K G.2.1 en_cl (en_tys G) U ∧ en_ex G U H
theorem en_fx_same {G : en_G} {u U : State} {H : Heap} (hv : u.vm = U.vm) (h : en_fx G u H) : en_fx G U H := by
  obtain ⟨hK, hn, hx, h1, h2, h3, h4, h5, h6, h7, h8, h9, h10, h11, h12, h13, h14, h15, h16⟩ := h
  have ha : u.vm.Alike U.vm := by rw [hv]; exact Vm.Alike.refl _
  exact ⟨va_K.moved ha hK, fun a i x hh hm => va_Nw.same rfl hv (hn a i x hh hm), hx.moved ha, h1, h2, h3.moved ha, fun t ht => (h4 t ht).same hv.symm, fun t ht => by obtain ⟨sa, hs⟩ := h5 t ht; exact ⟨sa, hs.same hv.symm⟩, h6.moved ha, h7.moved ha, h8.moved ha, fun C T hm => va_Nw.same rfl hv (h9 C T hm), fun x hm => va_Nw.same rfl hv (h10 x hm), fun a b ha' hb' hne => (h11 a b ha' hb' hne).moved ha, h12, h13.moved ha, h14.moved ha, h15.moved ha, h16.elim fun w q => ⟨w, q.1, q.2.moved ha⟩⟩
theorem en_fx_warm {G : en_G} {s U : State} {H0 H : Heap} {locs : List Loc} (hW : s.WarmedH U.vm) (hS : va_S (en_up G) H0 H locs) (h : en_fx G s H0) : en_fx G U H := by
  obtain ⟨hK, hn, hx, h1, h2, h3, h4, h5, h6, h7, h8, h9, h10, h11, h12, h13, h14, h15, h16⟩ := h
  have ha := hW.alike
  refine ⟨va_K.moved ha hK, fun a i x hh hm => va_Nw.warmM hW (hn a i x hh hm), (hx.kept (hS.2.1 _ (Nat.lt_of_lt_of_le h1 h2) (Nat.not_le.mpr h1))).moved ha, h1, Nat.le_trans h2 hS.1, (h3.kept hS.2.1).moved ha, fun t ht => (h4 t ht).warm hW, fun t ht => by obtain ⟨sa, hs⟩ := h5 t ht; exact ⟨sa, hs.warm hW⟩, (h6.kept hS.2.1).moved ha, (h7.kept hS.2.1).moved ha, (h8.kept hS.2.1).moved ha, fun C T hm => va_Nw.warmC hW (h9 C T hm), fun x hm => va_Nw.warmD hW (h10 x hm), fun a b ha' hb' hne => (h11 a b ha' hb' hne).moved ha, h12, h13.moved ha, h14.moved ha, h15.moved ha, h16.elim fun w q => ⟨w, q.1, (q.2.kept hS.2.1).moved ha⟩⟩
def en_gd (oc pc : Nat) (q : en_I) : Bool := (q.2.2.1 == pc + q.2.1) && match q.1 with
  | .iconst n => q.2.1 == 1 && decide (Int32.ofInt n = q.2.2.2.2.2)
  | .bipush n => q.2.1 == 2 && decide ((Int8.ofInt n).toInt32 = q.2.2.2.2.2)
  | .sipush n => q.2.1 == 3 && decide ((Int16.ofInt n).toInt32 = q.2.2.2.2.2)
  | .iload i => q.2.1 == 2 && i == q.2.2.2.1
  | .istore i => q.2.1 == 2 && i == q.2.2.2.1
  | .aload i => q.2.1 == 2 && i == q.2.2.2.1
  | .astore i => q.2.1 == 2 && i == q.2.2.2.1
  | .iload_n i => q.2.1 == 1 && i.val == q.2.2.2.1
  | .istore_n i => q.2.1 == 1 && i.val == q.2.2.2.1
  | .aload_n i => q.2.1 == 1 && i.val == q.2.2.2.1
  | .astore_n i => q.2.1 == 1 && i.val == q.2.2.2.1
  | .iinc i n => q.2.1 == 3 && i == q.2.2.2.1 && decide (Int32.ofInt n = q.2.2.2.2.2)
  | .goto off => q.2.1 == 3 && decide ((pc : Int) + off = (q.2.2.2.1 : Int))
  | .if_icmp _ off => q.2.1 == 3 && decide ((pc : Int) + off = (q.2.2.2.1 : Int))
  | .ifCond _ off => q.2.1 == 3 && decide ((pc : Int) + off = (q.2.2.2.1 : Int))
  | .ifnull off => q.2.1 == 3 && decide ((pc : Int) + off = (q.2.2.2.1 : Int))
  | .ifnonnull off => q.2.1 == 3 && decide ((pc : Int) + off = (q.2.2.2.1 : Int))
  | .getfield idx => q.2.1 == 3 && decide ((idx, q.2.2.2.1, q.2.2.2.2.1) ∈ en_fl oc)
  | .putfield idx => q.2.1 == 3 && decide ((idx, q.2.2.2.1, q.2.2.2.2.1) ∈ en_fl oc)
  | .invokevirtual _ => q.2.1 == 3
  | .invokestatic _ => q.2.1 == 3
  | .invokespecial _ => q.2.1 == 3
  | .new _ => q.2.1 == 3
  | .anewarray _ => q.2.1 == 3
  | .newarray _ => q.2.1 == 2
  | .ldc _ => q.2.1 == 2
  | .ldc_w _ => q.2.1 == 3
  | .tableswitch .. => true
  | .lookupswitch .. => true
  | _ => q.2.1 == 1
def en_ok (μ : en_D) : Prop := ∀ (pc : Nat) (q : en_I), μ.2.2.2.2.2.2 pc = some q → decode μ.2.1 pc = .ok (q.1, q.2.1) ∧ en_gd μ.2.2.2.2.1 pc q = true
def en_cx (G : en_G) (μ : en_D) (p : Program) (s : State) (m : MethodId) (args : Array Value) (meth : Method) (c : Code) : Prop :=
  p.tables.exec = Jvm.exec ∧ c.code = μ.2.1 ∧ c.maxLocals = μ.2.2.1 ∧ s.vm.findClass (en_own μ.2.2.2.2.1) = some m.cls ∧ (∀ w ∈ en_tw, w.before args s = true) ∧ meth.sig.returnType = μ.2.2.2.1 ∧ meth.locks = false ∧ meth.name = μ.1.name ∧ c.exceptionTable.toList = tableOf μ.2.2.2.2.2.1 ∧ en_fx G s s.heap ∧ en_ok μ ∧ ∀ n, G.2.2.2.2.2.2.2.2 = some n → s.heap.size = n
def en_ls (G : en_G) (cs : List en_A) (n : Nat) (la : Array Slot) (ls : List (Option en_V)) : Prop := ls.length = n ∧ lv_has la n [] ∧ ∀ (i : Nat) (v : en_V), ls[i]? = some (some v) → la[i]? = some (.val (en_tr G v)) ∧ (en_tr G v).category = 1 ∧ en_okv cs v
abbrev en_P : Type := Nat ⊕ Option en_V
def en_Q (G : en_G) (r : en_P) (cs : List en_A) (ρ : en_R) (σ : en_M) : Array Value → State → Outcome → State → Prop := fun _ st oc t => (∃ v, r = .inr v ∧ oc = .returned (v.map (en_tr G)) ∧ ∀ x, v = some x → en_okv cs x) ∧ en_wd G cs ρ σ t.heap ∧ va_F (en_up G) st t
def en_X (G : en_G) (r : en_P) (cs : List en_A) (ρ : en_R) (σ : en_M) : String → State → State → Prop := fun E st t => (∃ n, r = .inl n ∧ E = en_exc n) ∧ en_wd G cs ρ σ t.heap ∧ va_F (en_up G) st t
def en_rm (d mc ms : Nat) : Room := { frames := d, cells := mc, slots := ms, locals := 37 * d }
def en_W (G : en_G) (d mc ms : Nat) (μ : en_D) (r : en_P) (cs' : List en_A) (ρ' : en_R) (σ' : en_M) (bc bs pc : Nat) (ls : List (Option en_V)) (st : List en_V) (cs : List en_A) (ρ : en_R) (σ : en_M) : Prop :=
  ∀ (p : Program) (e : Env) (s : State) (m : MethodId) (args : Array Value) (below : List Frame) (meth : Method) (c : Code) (H : Heap) (locs : List Loc) (cells slots : Nat) (la : Array Slot),
    en_cx G μ p s m args meth c → va_S (en_up G) s.heap H locs → en_wd G cs ρ σ H → cells + bc ≤ mc → slots + bs ≤ ms → en_ls G cs μ.2.2.1 la ls → en_oks cs st →
    W p G.1 e (en_rm d mc ms) s m args below meth c H locs cells slots (vx_MQ below (en_Q G r cs' ρ' σ') (en_X G r cs' ρ' σ') args s mc ms (en_up G)) (F0 m pc la (st.map (en_tr G)))

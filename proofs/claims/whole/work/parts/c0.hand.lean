/-! The engine: methods with handlers, what is caught; longs that are compared; the script; what a frame may forget. -/
def en_mdH (μ : en_D) : Prop := plainName μ.1.cls = true ∧ μ.1.cls = en_own μ.2.2.2.2.1 ∧ en_cw μ = .codeWith μ.1 μ.2.1 μ.2.2.1 μ.2.2.2.1 μ.2.2.2.2.2.1 ∧ en_ok μ
theorem en_methH {G : en_G} {d mc ms : Nat} {μ : en_D} {as : List en_V} {cs cs' : List en_A} {ρ ρ' : en_R} {σ σ' : en_M} {r : en_P} {ls : List (Option en_V)} (hmd : en_mdH μ) (h1 : as.all en_c1 = true) (hn : Nat.ble as.length μ.2.2.1 = true) (hls : as.map some ++ List.replicate (μ.2.2.1 - as.length) none = ls)
    (k : en_W G d mc ms μ r cs' ρ' σ' mc ms 0 ls [] cs ρ σ) : en_Mt G d mc ms μ as cs ρ σ r cs' ρ' σ' := by
  intro hok
  obtain ⟨hp, hcl, hcw, hmok⟩ := hmd
  rw [hcw]
  refine vx_ofWH (cc := μ.2.1) (maxL := μ.2.2.1) (ret := μ.2.2.2.1) (hh := μ.2.2.2.2.2.1) hp rfl ?_
  intro p e s m args below meth c s₁ B hml hv
  obtain ⟨rfl, hfx, hwd, hz⟩ := hv
  have hts := atoms_spec (ws := Cond.codeWith μ.1 μ.2.1 μ.2.2.1 μ.2.2.2.1 μ.2.2.2.2.2.1 :: en_tw) B.pre
  have C : en_cx G μ p s m (as.map (en_tr G)).toArray meth c := by
    refine ⟨B.exec, B.bytes, hml, ?_, fun w hw => hts w (List.mem_cons_of_mem _ hw), B.returns, B.notSynchronized, (name_of_methodNamed B.named B.method).1, vx_table (x := μ.1) B (hts _ List.mem_cons_self), hfx, hmok, hz⟩
    rw [← hcl]
    exact findClass_of_methodNamed B.named
  have hl := en_ls_entry (G := G) (n := μ.2.2.1) h1 (Nat.le_of_ble_eq_true hn) hok
  rw [lg_entry_eq]
  subst hls
  exact k p e s m _ below meth c s.heap [] 0 0 _ C va_S.rf hwd (by omega) (by omega) hl en_oks_nil
def en_mtH (μ : en_D) (n : Nat) : Prop := en_cw μ = .codeWith μ.1 μ.2.1 μ.2.2.1 μ.2.2.2.1 μ.2.2.2.2.2.1 ∧ Cond.static μ.1 ∈ en_tw ∧ Cond.initialized μ.1.cls ∈ en_tw ∧ en_cw μ ∈ en_tw ∧ en_nh μ.1 ∧ (parseMethodDescriptor μ.1.desc).map (fun d => d.parameters.length) = some n ∧ Nat.ble μ.2.2.1 18 = true
/-- the catch types of the law's tables: which exception each is -/
def en_hl : List (Nat × Nat) := [(13, 0), (19, 1), (42, 2), (44, 3)]
theorem en_hl0 : Cond.classLink (en_own 11) 13 (en_exc 0) ∈ en_tw := en_tw_of (i := 808) (by decide +kernel) (by decide +kernel)
theorem en_hl1 : Cond.classLink (en_own 11) 19 (en_exc 1) ∈ en_tw := en_tw_of (i := 1083) (by decide +kernel) (by decide +kernel)
theorem en_hl2 : Cond.classLink (en_own 11) 42 (en_exc 2) ∈ en_tw := en_tw_of (i := 1135) (by decide +kernel) (by decide +kernel)
theorem en_hl3 : Cond.classLink (en_own 11) 44 (en_exc 3) ∈ en_tw := en_tw_of (i := 1136) (by decide +kernel) (by decide +kernel)
theorem en_hc0 : Cond.castable (en_exc 0) (en_exc 0) ∈ tables_1 := List.mem_of_getElem? (i := 993) (by decide +kernel)
theorem en_hc1 : Cond.castable (en_exc 1) (en_exc 1) ∈ tables_1 := List.mem_of_getElem? (i := 464) (by decide +kernel)
theorem en_hc2 : Cond.castable (en_exc 2) (en_exc 2) ∈ tables_1 := List.mem_of_getElem? (i := 1071) (by decide +kernel)
theorem en_hc3 : Cond.castable (en_exc 3) (en_exc 3) ∈ tables_1 := List.mem_of_getElem? (i := 1087) (by decide +kernel)
theorem en_hl_ok {c n : Nat} (h : (c, n) ∈ en_hl) : n < 4 ∧ c ≠ 0 ∧ Cond.classLink (en_own 11) c (en_exc n) ∈ en_tw ∧ Cond.castable (en_exc n) (en_exc n) ∈ tables_1 := by
  simp only [en_hl, List.mem_cons, List.not_mem_nil, or_false, Prod.mk.injEq] at h
  rcases h with ⟨rfl, rfl⟩ | ⟨rfl, rfl⟩ | ⟨rfl, rfl⟩ | ⟨rfl, rfl⟩
  · exact ⟨by decide, by decide, en_hl0, en_hc0⟩
  · exact ⟨by decide, by decide, en_hl1, en_hc1⟩
  · exact ⟨by decide, by decide, en_hl2, en_hc2⟩
  · exact ⟨by decide, by decide, en_hl3, en_hc3⟩
section en_hrows
variable {G : en_G} {d d' mc ms mc' ms' : Nat} {μ μ' : en_D} {r : en_P} {cs cs' cs1 : List en_A} {ρ ρ' ρ1 : en_R} {σ σ' σ1 : en_M} {bc bs bc' bs' pc len nx a b n idx : Nat} {v : Int32} {ls ls' : List (Option en_V)} {st as rest : List en_V} {vv : Option en_V}
theorem en_callSH (hz : G.2.2.2.2.2.2.2.2 = none) (hc : μ.2.2.2.2.2.2 pc = some (.invokestatic idx, len, nx, a, b, v)) (hM : en_Mt G d' mc' ms' μ' as cs ρ σ (.inr vv) cs1 ρ1 σ1) (hlk : Cond.methodLink (en_own μ.2.2.2.2.1) idx μ'.1 ∈ en_tw) (hmv : en_mtH μ' n) (hn : as.length = n)
    (hst : st = as.reverse ++ rest) (hcat : Nat.ble (rest.map en_cat).sum 8 = true) (hsub : ∀ c ∈ cs, c ∈ cs1) (hbc : mc' + bc' ≤ bc) (hbs : ms' + bs' ≤ bs)
    (k : en_W G (d' + 1) mc ms μ r cs' ρ' σ' bc' bs' nx ls (vv.toList ++ rest) cs1 ρ1 σ1) : en_W G (d' + 1) mc ms μ r cs' ρ' σ' bc bs pc ls st cs ρ σ := by
  intro p e s m args below meth c H locs cells slots la C hS hw hbc0 hbs0 hl hok
  obtain ⟨h1, h2, h3⟩ := en_dec C hc
  simp only [en_gd, Bool.and_eq_true, beq_iff_eq, decide_eq_true_eq] at h3
  obtain ⟨-, rfl⟩ := h3
  subst h2 hst
  obtain ⟨v1, v2, v4, v5, v6, v7, v8⟩ := hmv
  have hoka : en_oks cs as := fun w hw => hok w (by simp [hw])
  have hM0 := hM hoka
  rw [v1] at hM0 v5
  have hg5 : GoodIn en_tw (va_wsS (en_own μ.2.2.2.2.1) idx μ'.1 (Cond.codeWith μ'.1 μ'.2.1 μ'.2.2.1 μ'.2.2.2.1 μ'.2.2.2.2.2.1 :: en_tw)) := by
    intro w hw
    simp only [va_wsS, List.mem_append, List.mem_cons, List.not_mem_nil, or_false] at hw
    rcases hw with (rfl | rfl | rfl) | rfl | hw
    · exact en_good _ hlk
    · exact en_good _ v2
    · exact en_good _ v4
    · exact en_good _ v5
    · exact en_good _ hw
  have hrun : vx_Run p G.1 e (en_rm (d' + 1) mc ms) s m args below meth c H locs cells slots mc' ms' (F0 m pc la ((as.reverse ++ rest).map (en_tr G))) (rest.map (en_tr G)) (en_Q G (.inr vv) cs1 ρ1 σ1 (as.map (en_tr G)).toArray) (en_X G (.inr vv) cs1 ρ1 σ1) (en_up G) := by
    refine vx_runSX (hh := μ'.2.2.2.2.2.1) (bytes := μ'.2.1) (maxL := μ'.2.2.1) (ret := μ'.2.2.2.1) (As := as.map (en_tr G)) (n := n) (Ts := en_tw) (own := en_own μ.2.2.2.2.1) (cc := μ.2.1) (nL := μ.2.2.1) ⟨C.1, C.2.1, C.2.2.1, C.2.2.2.1, C.2.2.2.2.1⟩ hM0 (vx_cwSW n C.2.2.2.2.1 hg5 rfl rfl rfl ⟨v6.1, v6.2, v7⟩ (en_room v8)) (en_pre hz C.2.2.2.2.2.2.2.2.2.1 hS hw) rfl (by simpa using hn) (en_lsz hl) ?_ (lv_room (en_cat_sum hcat)) h1 ⟨by simp only [en_rm]; omega, by simp only [en_rm]; omega⟩
    show List.map (en_tr G) (as.reverse ++ rest) = _
    rw [List.map_append, List.map_reverse]
  refine en_aft hrun hS (fun vv' H1 locs1 e1 hS1 hw1 hok1 => ?_) (fun k ce q9 H1 locs1 e1 => by cases e1)
  cases e1
  have hk := k p e s m args below meth c H1 locs1 (cells + mc') (slots + ms') la C hS1 hw1 (by omega) (by omega) (en_ls_mono hsub hl) (by
    intro w hw
    rcases List.mem_append.mp hw with h | h
    · exact hok1 w (by simpa using h)
    · exact en_oks_mono hsub (fun w hw => hok w (by simp [hw])) w h)
  rw [List.map_append] at hk
  have e9 : List.map (en_tr G) vv.toList = (vv.map (en_tr G)).toList := by cases vv <;> rfl
  rw [e9] at hk
  exact hk
/-- a handler's three instructions: the exception is put away, a number returned -/
theorem en_tail {p : Program} {e : Env} {R : Room} {s : State} {m : MethodId} {args : Array Value} {below : List Frame} {meth : Method} {c : Code} {H : Heap} {locs : List Loc} {cells slots : Nat} {la : Array Slot} {q9 : Addr} {x : Int32} {ia : Instr} {nn : Int} {l1 l2 l3 n1 n2 n3 a1 a2 a3 b1 b2 b3 : Nat} {v1 v3 : Int32} (hia : (∃ i, ia = .astore i) ∨ ∃ i, ia = .astore_n i) (c1 : μ.2.2.2.2.2.2 pc = some (ia, l1, n1, a1, b1, v1)) (c2 : μ.2.2.2.2.2.2 n1 = some (.iconst nn, l2, n2, a2, b2, x)) (c3 : μ.2.2.2.2.2.2 n2 = some (.ireturn, l3, n3, a3, b3, v3)) (hr : μ.2.2.2.1 = some .int) (ha : Nat.blt a1 μ.2.2.1 = true)
    (C : en_cx G μ p s m args meth c) (hS : va_S (en_up G) s.heap H locs) (hw : en_wd G cs ρ σ H) (hl : lv_has la μ.2.2.1 []) (hc : cells ≤ mc) (hs : slots ≤ ms) : W p G.1 e R s m args below meth c H locs cells slots (vx_MQ below (en_Q G (.inr (some (.inl x))) cs ρ σ) (en_X G (.inr (some (.inl x))) cs ρ σ) args s mc ms (en_up G)) (F0 m pc la [.ref q9]) := by
  obtain ⟨d1, e1, g1⟩ := en_dec C c1
  obtain ⟨d2, e2, g2⟩ := en_dec C c2
  obtain ⟨d3, e3, g3⟩ := en_dec C c3
  have key : ∀ la' : Array Slot, W p G.1 e R s m args below meth c H locs cells slots (vx_MQ below (en_Q G (.inr (some (.inl x))) cs ρ σ) (en_X G (.inr (some (.inl x))) cs ρ σ) args s mc ms (en_up G)) (F0 m n1 la' []) := by
    intro la'
    simp only [en_gd, Bool.and_eq_true, beq_iff_eq, decide_eq_true_eq] at g2 g3
    obtain ⟨-, g4, g5⟩ := g2
    obtain ⟨-, g6⟩ := g3
    rw [g4] at d2 e2
    rw [g6] at d3
    refine lv_iconst C.1 C.2.1 d2 g5 ?_
    rw [← e2]
    refine W.widen (k := mc) (n := ms) hc hs (vx_ret ?_)
    exact W.iret (v := x) C.1 C.2.1 (by rw [C.2.2.2.2.2.1, hr]) (fun t ht hW => ⟨⟨_, rfl, rfl, fun y hy => by cases hy; exact en_ok_i⟩, by rw [ht]; exact hw, hS.F ht⟩) hS.2.2 d3 C.2.2.2.2.2.2.1
  rcases hia with ⟨i, rfl⟩ | ⟨i, rfl⟩
  · simp only [en_gd, Bool.and_eq_true, beq_iff_eq, decide_eq_true_eq] at g1
    obtain ⟨-, g4, g5⟩ := g1
    rw [g4] at d1 e1
    subst g5
    exact lv_astore C.1 C.2.1 d1 hl (Nat.le_of_ble_eq_true ha) rfl (fun la' _ => by rw [← e1]; exact key la')
  · simp only [en_gd, Bool.and_eq_true, beq_iff_eq, decide_eq_true_eq] at g1
    obtain ⟨-, g4, g5⟩ := g1
    rw [g4] at d1 e1
    exact lv_astore_n C.1 C.2.1 d1 g5 hl (Nat.le_of_ble_eq_true ha) rfl (fun la' _ => by rw [← e1]; exact key la')
/-- the callee throws, and this method's table takes it -/
theorem en_catch {c0 : en_A} {ci k f t hp ct : Nat} {x : Int32} {ia : Instr} {nn : Int} {l1 l2 l3 n1 n2 n3 a1 a2 a3 b1 b2 b3 : Nat} {v1 v3 : Int32} (pre suf : List (Nat × Nat × Nat × Nat)) (hz : G.2.2.2.2.2.2.2.2 = none) (hc : μ.2.2.2.2.2.2 pc = some (.invokevirtual idx, len, nx, a, b, v)) (hM : en_Mt G d' mc' ms' μ' (.inr (.inl (some c0)) :: as) cs ρ σ (.inl k) cs1 ρ1 σ1) (hlk : Cond.methodLink (en_own μ.2.2.2.2.1) idx μ'.1 ∈ en_tw) (hmv : en_mv μ' n) (hkd : en_kd c0.1 = (0, ci)) (hci : (en_cl[ci]?).map (fun q => q.1) = some μ'.1.cls) (hn : as.length = n)
    (hst : st = as.reverse ++ .inr (.inl (some c0)) :: rest) (hcat : Nat.ble (rest.map en_cat).sum 8 = true) (hbc : mc' ≤ bc) (hbs : ms' ≤ bs) (ho : μ.2.2.2.2.1 = 11) (hh : μ.2.2.2.2.2.1 = pre ++ (f, t, hp, ct) :: suf) (hpre : ∀ z ∈ pre, ∃ n, (z.2.2.2, n) ∈ en_hl ∧ k ≠ n) (hct : (ct, k) ∈ en_hl) (hin : f ≤ pc ∧ pc < t)
    (hia : (∃ i, ia = .astore i) ∨ ∃ i, ia = .astore_n i) (c1 : μ.2.2.2.2.2.2 hp = some (ia, l1, n1, a1, b1, v1)) (c2 : μ.2.2.2.2.2.2 n1 = some (.iconst nn, l2, n2, a2, b2, x)) (c3 : μ.2.2.2.2.2.2 n2 = some (.ireturn, l3, n3, a3, b3, v3)) (hr : μ.2.2.2.1 = some .int) (ha : Nat.blt a1 μ.2.2.1 = true) : en_W G (d' + 1) mc ms μ (.inr (some (.inl x))) cs1 ρ1 σ1 bc bs pc ls st cs ρ σ := by
  intro p e s m args below meth c H locs cells slots la C hS hw hbc0 hbs0 hl hok
  have hrun := en_vcall (e := e) (below := below) hz hc hM hlk hmv hkd hci hn hst hcat C hS hw hl hok (cells := cells) (slots := slots) (mc := mc) (ms := ms) (by omega) (by omega)
  refine en_aft hrun hS (fun vv' H1 locs1 e1 => by cases e1) (fun k' ce q9 H1 locs1 e1 hS1 hw1 hce hcv hcl => ?_)
  cases e1
  have hfx := C.2.2.2.2.2.2.2.2.2.1
  have hnc := hfx.2.2.2.2.2.2.2.2.2.2.2.2.2.1
  have hcst := hfx.2.2.2.2.2.2.2.2.2.2.2.1
  obtain ⟨k4, k0, klk, kcs⟩ := en_hl_ok hct
  have hown := C.2.2.2.1
  rw [ho] at hown
  refine vx_catch (own := en_own 11) (name := en_exc k) (E := en_exc k) hown (tableOf pre) ⟨f, t, hp, ct⟩ (tableOf suf) ?_ ?_ ?_ k0 (C.2.2.2.2.1 _ klk) (va_Nw.use rfl (hcst _ _ kcs)) hce hcv hcl (en_tail hia c1 c2 c3 hr ha C hS1 hw1 hl.2.1 (by omega) (by omega))
  · rw [C.2.2.2.2.2.2.2.2.1, hh]
    simp [tableOf]
  · intro z hz9
    obtain ⟨y, hy, rfl⟩ := List.mem_map.mp hz9
    obtain ⟨n9, h9, hne⟩ := hpre y hy
    obtain ⟨j4, j0, jlk, -⟩ := en_hl_ok h9
    exact Or.inr ⟨j0, _, C.2.2.2.2.1 _ jlk, hnc k n9 k4 j4 hne⟩
  · simp [covers, hin.1, hin.2]
theorem en_s_lconst {n : Fin 2} {x : Int32} (hc : μ.2.2.2.2.2.2 pc = some (.lconst n, len, nx, a, b, v)) (hx : Int64.ofNat (n : Nat) = x.toInt64) (k : en_W G d mc ms μ r cs' ρ' σ' bc bs nx ls (.inr (.inr (.inl x)) :: st) cs ρ σ) : en_W G d mc ms μ r cs' ρ' σ' bc bs pc ls st cs ρ σ := by
  refine en_go (fun p e s m args below meth c H locs cells slots la Q C hl w => ?_) (fun h hl => en_oks_c en_ok_j h) k
  obtain ⟨h1, h2, h3⟩ := en_dec C hc
  simp only [en_gd, Bool.and_eq_true, beq_iff_eq, decide_eq_true_eq] at h3
  obtain ⟨-, rfl⟩ := h3
  subst h2
  exact lv_lconst C.1 C.2.1 h1 hx w
theorem en_s_lcmp {x y z : Int32} (hc : μ.2.2.2.2.2.2 pc = some (.lcmp, len, nx, a, b, v)) (hz : lg_cmp x.toInt64 y.toInt64 = z) (k : en_W G d mc ms μ r cs' ρ' σ' bc bs nx ls (.inl z :: st) cs ρ σ) : en_W G d mc ms μ r cs' ρ' σ' bc bs pc ls (.inr (.inr (.inl y)) :: .inr (.inr (.inl x)) :: st) cs ρ σ := by
  refine en_go (fun p e s m args below meth c H locs cells slots la Q C hl w => ?_) (fun h hl => en_oks_c en_ok_i (en_oks_t (en_oks_t h))) k
  obtain ⟨h1, h2, h3⟩ := en_dec C hc
  simp only [en_gd, Bool.and_eq_true, beq_iff_eq, decide_eq_true_eq] at h3
  obtain ⟨-, rfl⟩ := h3
  subst h2 hz
  exact W.lcmp C.1 C.2.1 h1 w
theorem en_lcmp_eq {x : Int32} : lg_cmp x.toInt64 x.toInt64 = 0 := by simp [lg_cmp]
/-- an int of the script -/
theorem en_s_sld {x : Int32} {q : Nat} (hc : μ.2.2.2.2.2.2 pc = some (.iaload, len, nx, a, b, v)) (hx : en_inb x G.2.2.2.2.2.2.1 = true) (hq : x.toNatClampNeg = q) (k : en_W G d mc ms μ r cs' ρ' σ' bc bs nx ls (.inl (G.2.2.2.2.2.2.2.1 q) :: st) cs ρ σ) : en_W G d mc ms μ r cs' ρ' σ' bc bs pc ls (.inl x :: .inr (.inr (.inr 0)) :: st) cs ρ σ := by
  intro p e s m args below meth c H locs cells slots la C hS hw hbc hbs hl hst
  obtain ⟨h1, h2, h3⟩ := en_dec C hc
  simp only [en_gd, Bool.and_eq_true, beq_iff_eq, decide_eq_true_eq] at h3
  obtain ⟨-, rfl⟩ := h3
  subst h2 hq
  have hfx := C.2.2.2.2.2.2.2.2.2.1
  have h0 := hfx.2.2.2.1
  have hsz := hfx.2.2.2.2.1
  exact va_sld (A := en_up G) C.1 C.2.1 hfx.2.2.1 (Nat.lt_of_lt_of_le h0 hsz) (Nat.not_le.mpr h0) hS (en_inb_vp hx) h1 (k p e s m args below meth c H locs cells slots la C hS hw hbc hbs hl (en_oks_c en_ok_i (en_oks_t (en_oks_t hst))))
theorem en_s_slenX {x : Int32} (hc : μ.2.2.2.2.2.2 pc = some (.arraylength, len, nx, a, b, v)) (hx : Int32.ofNat G.2.2.2.2.2.2.1 = x) (k : en_W G d mc ms μ r cs' ρ' σ' bc bs nx ls (.inl x :: st) cs ρ σ) : en_W G d mc ms μ r cs' ρ' σ' bc bs pc ls (.inr (.inr (.inr 0)) :: st) cs ρ σ := by
  intro p e s m args below meth c H locs cells slots la C hS hw hbc hbs hl hst
  obtain ⟨h1, h2, h3⟩ := en_dec C hc
  simp only [en_gd, Bool.and_eq_true, beq_iff_eq, decide_eq_true_eq] at h3
  obtain ⟨-, rfl⟩ := h3
  subst h2 hx
  have hfx := C.2.2.2.2.2.2.2.2.2.1
  have h0 := hfx.2.2.2.1
  have hsz := hfx.2.2.2.2.1
  exact va_slen (A := en_up G) C.1 C.2.1 hfx.2.2.1 (Nat.lt_of_lt_of_le h0 hsz) (Nat.not_le.mpr h0) hS h1 (k p e s m args below meth c H locs cells slots la C hS hw hbc hbs hl (en_oks_c en_ok_i (en_oks_t hst)))
/-- fewer locals are remembered -/
theorem en_less (hl : ls'.length = ls.length) (h : ∀ (i : Nat) (w : en_V), ls'[i]? = some (some w) → ls[i]? = some (some w)) (k : en_W G d mc ms μ r cs' ρ' σ' bc bs pc ls' st cs ρ σ) : en_W G d mc ms μ r cs' ρ' σ' bc bs pc ls st cs ρ σ := by
  intro p e s m args below meth c H locs cells slots la C hS hw hbc hbs hls hst
  exact k p e s m args below meth c H locs cells slots la C hS hw hbc hbs ⟨by rw [hl]; exact hls.1, hls.2.1, fun i w hi => hls.2.2 i w (h i w hi)⟩ hst
/-- less room is left -/
theorem en_room2 (h1 : bc' ≤ bc) (h2 : bs' ≤ bs) (k : en_W G d mc ms μ r cs' ρ' σ' bc' bs' pc ls st cs ρ σ) : en_W G d mc ms μ r cs' ρ' σ' bc bs pc ls st cs ρ σ := by
  intro p e s m args below meth c H locs cells slots la C hS hw hbc hbs hls hst
  exact k p e s m args below meth c H locs cells slots la C hS hw (by omega) (by omega) hls hst
/-- how large the heap is at the entry is no longer asked -/
theorem en_nz (k : en_W (en_gz G none) d mc ms μ r cs' ρ' σ' bc bs pc ls st cs ρ σ) : en_W G d mc ms μ r cs' ρ' σ' bc bs pc ls st cs ρ σ := by
  intro p e s m args below meth c H locs cells slots la C hS hw hbc hbs hls hst
  obtain ⟨g1, g2, g3, g4, g5, g6, g7, g8, g9, g10, g11, -⟩ := C
  exact k p e s m args below meth c H locs cells slots la ⟨g1, g2, g3, g4, g5, g6, g7, g8, g9, g10, g11, fun n hn => by cases hn⟩ hS hw hbc hbs hls hst
end en_hrows
def lw_id (y : Int32) : Int32 := y
def lw_fl (y : Int32) : Int32 := if y = 0 then 0 else 1
section en_fl9
variable {G : en_G} {d mc ms : Nat} {μ : en_D} {r : en_P} {cs cs' : List en_A} {ρ ρ' : en_R} {σ σ' : en_M} {bc bs pc : Nat} {ls : List (Option en_V)} {st : List en_V}
/-- x != 0 as a boolean, four instructions -/
theorem en_flag {x : Int32} {off off2 : Int} {l0 l1 l2 l3 p1 p2 p3 p4 q0 q2 b0 a1 b1 b2 a3 b3 : Nat} {v0 v2 : Int32} {i1 i0 : Int} (c0 : μ.2.2.2.2.2.2 pc = some (.ifCond .eq off, l0, p1, q0, b0, v0)) (c1 : μ.2.2.2.2.2.2 p1 = some (.iconst i1, l1, p2, a1, b1, 1)) (c2 : μ.2.2.2.2.2.2 p2 = some (.goto off2, l2, p3, q2, b2, v2)) (c3 : μ.2.2.2.2.2.2 q0 = some (.iconst i0, l3, p4, a3, b3, 0)) (hq : p4 = q2) (k : en_W G d mc ms μ r cs' ρ' σ' bc bs q2 ls (.inl (lw_fl x) :: st) cs ρ σ) : en_W G d mc ms μ r cs' ρ' σ' bc bs pc ls (.inl x :: st) cs ρ σ := by
  subst hq
  refine en_s_if_eq c0 (fun h => ?_) (fun h => ?_)
  · have e : lw_fl x = 0 := if_pos h
    rw [e] at k
    exact en_s_iconst c3 k
  · have e : lw_fl x = 1 := if_neg h
    rw [e] at k
    exact en_s_iconst c1 (en_s_goto c2 k)
theorem en_lfl {x : Int32} {off off2 : Int} {l0 l1 l2 l3 p1 p2 p3 p4 q0 q2 b0 a1 b1 b2 a3 b3 : Nat} {v0 v1 v2 v3 : Int32} (c0 : μ.2.2.2.2.2.2 pc = some (.ifCond .eq off, l0, p1, q0, b0, v0)) (c1 : μ.2.2.2.2.2.2 p1 = some (.lconst 1, l1, p2, a1, b1, v1)) (c2 : μ.2.2.2.2.2.2 p2 = some (.goto off2, l2, p3, q2, b2, v2)) (c3 : μ.2.2.2.2.2.2 q0 = some (.lconst 0, l3, p4, a3, b3, v3)) (hq : p4 = q2) (k : en_W G d mc ms μ r cs' ρ' σ' bc bs q2 ls (.inr (.inr (.inl (lw_fl x))) :: st) cs ρ σ) : en_W G d mc ms μ r cs' ρ' σ' bc bs pc ls (.inl x :: st) cs ρ σ := by
  subst hq
  refine en_s_if_eq c0 (fun h => ?_) (fun h => ?_)
  · have e : lw_fl x = 0 := if_pos h
    rw [e] at k
    exact en_s_lconst c3 (by decide) k
  · have e : lw_fl x = 1 := if_neg h
    rw [e] at k
    exact en_s_lconst c1 (by decide) (en_s_goto c2 k)
end en_fl9

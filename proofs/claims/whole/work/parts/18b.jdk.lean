/-! The JDK's own methods by the engine: Math.floorMod. -/
def en_fm (x y : Int32) : Int32 := if 0 ≤ x ^^^ y then x - x / y * y else if x - x / y * y = 0 then x - x / y * y else (x - x / y * y) + y
def en_yfm : MethodName := ⟨"java/lang/Math", "floorMod", "(II)I"⟩
theorem mx_in : Cond.initialized "java/lang/Math" ∈ en_tw := en_tw_of (i := 90) (by decide +kernel) (by decide +kernel)
theorem mx_fm_st : Cond.static Jvm.Free.MCB.FloorMod.yN ∈ en_tw := en_tw_of (i := 608) (by decide +kernel) (by decide +kernel)
theorem mx_fm_cd : Jvm.Free.MCB.FloorMod.tab ∈ en_tw := en_tw_of (i := 609) (by decide +kernel) (by decide +kernel)
section en_r9
variable {G : en_G} {d mc ms : Nat} {μ : en_D} {r : en_P} {cs cs' : List en_A} {ρ ρ' : en_R} {σ σ' σ1 : en_M} {bc bs pc len nx a b : Nat} {v : Int32} {ls ls' : List (Option en_V)} {st : List en_V}
theorem en_s_fmod2 {idx : Nat} {x y : Int32} (hc : μ.2.2.2.2.2.2 pc = some (.invokestatic idx, len, nx, a, b, v)) (hlk : Cond.methodLink (en_own μ.2.2.2.2.1) idx en_yfm ∈ en_tw) (hz : ¬ y = 0) (hcat : Nat.ble (st.map en_cat).sum 8 = true) (k : en_W G (d + 1) mc ms μ r cs' ρ' σ' bc bs nx ls (.inl (en_fm x y) :: st) cs ρ σ) : en_W G (d + 1) mc ms μ r cs' ρ' σ' bc bs pc ls (.inl y :: .inl x :: st) cs ρ σ := by
  intro p e s m args below meth c H locs cells slots la C hS hw hbc hbs hl hst
  obtain ⟨h1, h2, h3⟩ := en_dec C hc
  simp only [en_gd, Bool.and_eq_true, beq_iff_eq, decide_eq_true_eq] at h3
  obtain ⟨-, rfl⟩ := h3
  subst h2
  have hcs := en_cat_sum (G := G) hcat
  have hK := k p e s m args below meth c H locs cells slots la C hS hw hbc hbs hl (en_oks_c en_ok_i (en_oks_t (en_oks_t hst)))
  have hrm1 : 0 + 1 ≤ (en_rm (d + 1) mc ms).frames := by simp only [en_rm]; omega
  have hrm2 : 8 + (3 + 11) + 0 ≤ (en_rm (d + 1) mc ms).locals := by simp only [en_rm]; omega
  intro T hT X
  obtain ⟨v1, vm1, B, -, X', ⟨⟨e1, e2, e3, e4⟩, hv⟩, stp⟩ := Jvm.LawKit.callS X C.1 C.2.2.2.1 (C.2.2.2.2.1 _ hlk) (C.2.2.2.2.1 _ mx_fm_st) (C.2.2.2.2.1 _ mx_in) (C.2.2.2.2.1 _ mx_fm_cd) (by decide)
    (Jvm.Free.MCB.FloorMod.pays (len := 3) (W := 8) hrm1 hrm2 (C.2.2.2.2.1 _ mx_fm_cd) (C.2.2.2.2.1 _ mx_in))
    (g := F0 m pc la (.int y :: .int x :: st.map (en_tr G))) rfl (by rw [C.2.2.1, ← en_lsz hl]) (argsL := [.int x, .int y]) (rest := st.map (en_tr G))
    (fun sig hs => by
      have h : parseMethodDescriptor "(II)I" = some { parameters := [.int, .int], returnType := some .int } := by decide +kernel
      rw [show en_yfm.desc = "(II)I" from rfl, h] at hs
      rw [← Option.some.inj hs]; rfl)
    rfl (by show 2 * 0 + _ ≤ 8; omega) (by rw [C.2.1]; exact h1)
    (fun vm _ => ⟨(by show cells ≤ mc; omega), (by show slots ≤ ms; omega), (x, y), rfl, hz⟩)
  have hv' : v1 = some (.int (en_fm x y)) := hv (x, y) ⟨rfl, hz⟩
  subst hv'
  obtain ⟨U, L, n1, n2⟩ := B
  simp only at e1 e2 e3 e4 X' stp
  subst e2 e3 e4
  obtain ⟨t, a1, b1⟩ := hK U (by rw [e1]; exact hT) X'
  exact ⟨t, stp t a1, b1⟩
end en_r9
/-! String.length by the engine. -/
theorem en_sx_v : Cond.fieldLink "java/lang/String" 9 "java/lang/String" "value" "[B" ∈ en_tw := en_tw_of (i := 1950) (by decide +kernel) (by decide +kernel)
theorem en_sx_c : Cond.fieldLink "java/lang/String" 15 "java/lang/String" "coder" "B" ∈ en_tw := en_tw_of (i := 1951) (by decide +kernel) (by decide +kernel)
theorem en_sx_z : Cond.fieldLink "java/lang/String" 38 "java/lang/String" "COMPACT_STRINGS" "Z" ∈ en_tw := en_tw_of (i := 864) (by decide +kernel) (by decide +kernel)
section en_r10
variable {G : en_G} {d mc ms : Nat} {μ : en_D} {r : en_P} {cs cs' : List en_A} {ρ ρ' : en_R} {σ σ' σ1 : en_M} {bc bs pc len nx a b : Nat} {v : Int32} {ls ls' : List (Option en_V)} {st : List en_V}
theorem en_x_val {i : Nat} (hd : decode μ.2.1 pc = .ok (.getfield 9, 3)) (ho : en_own μ.2.2.2.2.1 = "java/lang/String") (hi : i < 11) (k : en_W G d mc ms μ r cs' ρ' σ' bc bs (pc + 3) ls (.inr (.inr (.inr (i + 101))) :: st) cs ρ σ) : en_W G d mc ms μ r cs' ρ' σ' bc bs pc ls (.inr (.inr (.inr (i + 1))) :: st) cs ρ σ := by
  intro p e s m args below meth c H locs cells slots la C hS hw hbc hbs hl hst
  have hE := C.2.2.2.2.2.2.2.2.2.1.2.2.2.2.2.1
  exact vk_getf C.1 C.2.1 (hE.1 i hi).2.2.1 hS C.2.2.2.1 (by rw [ho]; exact C.2.2.2.2.1 _ en_sx_v) (fun _ h => h) hd (k p e s m args below meth c H locs cells slots la C hS hw hbc hbs hl (en_oks_c en_ok_x (en_oks_t hst)))
theorem en_x_cod {i : Nat} (hd : decode μ.2.1 pc = .ok (.getfield 15, 3)) (ho : en_own μ.2.2.2.2.1 = "java/lang/String") (hi : i < 11) (k : en_W G d mc ms μ r cs' ρ' σ' bc bs (pc + 3) ls (.inl 0 :: st) cs ρ σ) : en_W G d mc ms μ r cs' ρ' σ' bc bs pc ls (.inr (.inr (.inr (i + 1))) :: st) cs ρ σ := by
  intro p e s m args below meth c H locs cells slots la C hS hw hbc hbs hl hst
  have hE := C.2.2.2.2.2.2.2.2.2.1.2.2.2.2.2.1
  exact vk_getf C.1 C.2.1 (hE.1 i hi).2.1 hS C.2.2.2.1 (by rw [ho]; exact C.2.2.2.2.1 _ en_sx_c) (fun _ h => h) hd (k p e s m args below meth c H locs cells slots la C hS hw hbc hbs hl (en_oks_c en_ok_i (en_oks_t hst)))
theorem en_x_zz (hd : decode μ.2.1 pc = .ok (.getstatic 38, 3)) (ho : en_own μ.2.2.2.2.1 = "java/lang/String") (k : en_W G d mc ms μ r cs' ρ' σ' bc bs (pc + 3) ls (.inl 1 :: st) cs ρ σ) : en_W G d mc ms μ r cs' ρ' σ' bc bs pc ls st cs ρ σ := by
  intro p e s m args below meth c H locs cells slots la C hS hw hbc hbs hl hst
  have hZ := C.2.2.2.2.2.2.2.2.2.1.2.2.2.2.2.2.2.2.1
  exact va_gets C.1 C.2.1 hZ hS C.2.2.2.1 (by rw [ho]; exact C.2.2.2.2.1 _ en_sx_z) (fun _ h => h) hd (k p e s m args below meth c H locs cells slots la C hS hw hbc hbs hl (en_oks_c en_ok_i hst))
theorem en_x_len {i : Nat} {x : Int32} (hc : μ.2.2.2.2.2.2 pc = some (.arraylength, len, nx, a, b, v)) (hi : i < 11) (hx : Int32.ofNat (en_sl.getD i 0) = x) (k : en_W G d mc ms μ r cs' ρ' σ' bc bs nx ls (.inl x :: st) cs ρ σ) : en_W G d mc ms μ r cs' ρ' σ' bc bs pc ls (.inr (.inr (.inr (i + 101))) :: st) cs ρ σ := by
  intro p e s m args below meth c H locs cells slots la C hS hw hbc hbs hl hst
  obtain ⟨h1, h2, h3⟩ := en_dec C hc
  simp only [en_gd, Bool.and_eq_true, beq_iff_eq, decide_eq_true_eq] at h3
  obtain ⟨-, rfl⟩ := h3
  subst h2
  have hE := C.2.2.2.2.2.2.2.2.2.1.2.2.2.2.2.1
  exact va_tlen C.1 C.2.1 (hE.1 i hi).2.2.2 hS hx h1 (k p e s m args below meth c H locs cells slots la C hS hw hbc hbs hl (en_oks_c en_ok_i (en_oks_t hst)))
theorem en_s_nret {x : Int32} {ty : FieldType} (hc : μ.2.2.2.2.2.2 pc = some (.ireturn, len, nx, a, b, v)) (hr : μ.2.2.2.1 = some ty) (hn : narrow ty (.int x) = .int x) : en_W G d mc ms μ (.inr (some (.inl x))) cs ρ σ bc bs pc ls [.inl x] cs ρ σ := by
  intro p e s m args below meth c H locs cells slots la C hS hw hbc hbs hl hst
  obtain ⟨h1, h2, h3⟩ := en_dec C hc
  simp only [en_gd, Bool.and_eq_true, beq_iff_eq, decide_eq_true_eq] at h3
  obtain ⟨-, rfl⟩ := h3
  refine W.widen (k := mc) (n := ms) (by omega) (by omega) (vx_ret ?_)
  exact W.zret (v := x) C.1 C.2.1 (by rw [C.2.2.2.2.2.1, hr]) hn (fun t ht hW => ⟨⟨_, rfl, rfl, fun y hy => by cases hy; exact en_ok_i⟩, by rw [ht]; exact hw, hS.F ht⟩) hS.2.2 h1 C.2.2.2.2.2.2.1
end en_r10
section en_r11
variable {G : en_G} {d mc ms : Nat} {μ μ' : en_D} {r : en_P} {cs cs' cs1 : List en_A} {ρ ρ' ρ1 : en_R} {σ σ' σ1 : en_M} {bc bs bc' bs' d' mc' ms' pc len nx a b idx n : Nat} {v : Int32} {ls ls' : List (Option en_V)} {st rest as : List en_V} {vv : Option en_V}
theorem en_vcallO {n' : Nat ⊕ Option en_V} {i : Nat} {p : Program} {e : Env} {s : State} {m : MethodId} {args : Array Value} {below : List Frame} {meth : Method} {c : Code} {H : Heap} {locs : List Loc} {cells slots : Nat} {la : Array Slot}
    (hz : G.2.2.2.2.2.2.2.2 = none) (hc : μ.2.2.2.2.2.2 pc = some (.invokevirtual idx, len, nx, a, b, v)) (hM : en_Mt G d' mc' ms' μ' (.inr (.inr (.inr (i + 1))) :: as) cs ρ σ n' cs1 ρ1 σ1) (hlk : Cond.methodLink (en_own μ.2.2.2.2.1) idx μ'.1 ∈ en_tw) (hmv : en_mv μ' n) (hi : i < 11) (hcl : μ'.1.cls = "java/lang/String") (hn : as.length = n)
    (hst : st = as.reverse ++ .inr (.inr (.inr (i + 1))) :: rest) (hcat : Nat.ble (rest.map en_cat).sum 8 = true) (C : en_cx G μ p s m args meth c) (hS : va_S (en_up G) s.heap H locs) (hw : en_wd G cs ρ σ H) (hl : en_ls G cs μ.2.2.1 la ls) (hok : en_oks cs st) (hf1 : cells + mc' ≤ mc) (hf2 : slots + ms' ≤ ms) :
    vx_Run p G.1 e (en_rm (d' + 1) mc ms) s m args below meth c H locs cells slots mc' ms' (F0 m pc la (st.map (en_tr G))) (rest.map (en_tr G)) (en_Q G n' cs1 ρ1 σ1 (Value.ref (G.2.2.2.2.1 (i + 1)) :: as.map (en_tr G)).toArray) (en_X G n' cs1 ρ1 σ1) (en_up G) := by
  obtain ⟨h1, h2, h3⟩ := en_dec C hc
  simp only [en_gd, Bool.and_eq_true, beq_iff_eq, decide_eq_true_eq] at h3
  obtain ⟨-, rfl⟩ := h3
  subst hst
  obtain ⟨v1, v2, v3, v4, v5, v6, v7, v8⟩ := hmv
  have hoka : en_oks cs (.inr (.inr (.inr (i + 1))) :: as) := en_oks_c en_ok_x (fun w hw => hok w (by simp [hw]))
  refine vx_runV (bytes := μ'.2.1) (maxL := μ'.2.2.1) (ret := μ'.2.2.2.1) (As := as.map (en_tr G)) (C := μ'.1.cls) (n := n) (Ts := en_tw) (own := en_own μ.2.2.2.2.1) (cc := μ.2.1) (nL := μ.2.2.1) (b := G.2.2.2.2.1 (i + 1)) ⟨C.1, C.2.1, C.2.2.1, C.2.2.2.1, C.2.2.2.2.1⟩ (hM hoka) ?_ ?_ rfl (by simpa using hn) (en_lsz hl) ?_ (lv_room (en_cat_sum hcat)) h1 ⟨hf1, hf2⟩
  · rw [en_cw_0 v1] at v5 ⊢
    refine cwV (bytes := μ'.2.1) (maxL := μ'.2.2.1) (ret := μ'.2.2.2.1) n C.2.2.2.2.1 ?_ rfl rfl rfl ⟨rfl, v6.1, v6.2, v7⟩ (en_room v8)
    intro w hw
    simp only [wsV, List.mem_append, List.mem_cons, List.not_mem_nil, or_false] at hw
    rcases hw with (rfl | rfl | rfl | rfl) | rfl | hw
    · exact en_good _ hlk
    · exact en_good _ v2
    · exact en_good _ v3
    · exact en_good _ v4
    · exact en_good _ v5
    · exact en_good _ hw
  · have hp := en_pre (as := .inr (.inr (.inr (i + 1))) :: as) hz C.2.2.2.2.2.2.2.2.2.1 hS hw
    exact ⟨hp.1, by rw [hcl]; exact vk_recv (i := i) C.2.2.2.2.2.2.2.2.2.1.2.2.2.2.2.1 hi hS, hp.2⟩
  · show List.map (en_tr G) (as.reverse ++ .inr (.inr (.inr (i + 1))) :: rest) = _
    rw [List.map_append, List.map_reverse]
    rfl
theorem en_callO {i : Nat} (hz : G.2.2.2.2.2.2.2.2 = none) (hc : μ.2.2.2.2.2.2 pc = some (.invokevirtual idx, len, nx, a, b, v)) (hM : en_Mt G d' mc' ms' μ' (.inr (.inr (.inr (i + 1))) :: as) cs ρ σ (.inr vv) cs1 ρ1 σ1) (hlk : Cond.methodLink (en_own μ.2.2.2.2.1) idx μ'.1 ∈ en_tw) (hmv : en_mv μ' n) (hi : i < 11) (hcl : μ'.1.cls = "java/lang/String") (hn : as.length = n)
    (hst : st = as.reverse ++ .inr (.inr (.inr (i + 1))) :: rest) (hcat : Nat.ble (rest.map en_cat).sum 8 = true) (hsub : ∀ c ∈ cs, c ∈ cs1) (hbc : mc' + bc' ≤ bc) (hbs : ms' + bs' ≤ bs)
    (k : en_W G (d' + 1) mc ms μ r cs' ρ' σ' bc' bs' nx ls (vv.toList ++ rest) cs1 ρ1 σ1) : en_W G (d' + 1) mc ms μ r cs' ρ' σ' bc bs pc ls st cs ρ σ := by
  intro p e s m args below meth c H locs cells slots la C hS hw hbc0 hbs0 hl hok
  have hrun := en_vcallO (e := e) (below := below) hz hc hM hlk hmv hi hcl hn hst hcat C hS hw hl hok (cells := cells) (slots := slots) (mc := mc) (ms := ms) (by omega) (by omega)
  obtain ⟨h1, h2, h3⟩ := en_dec C hc
  simp only [en_gd, Bool.and_eq_true, beq_iff_eq, decide_eq_true_eq] at h3
  obtain ⟨-, rfl⟩ := h3
  subst h2
  refine en_aft hrun hS (fun vv' H1 locs1 e1 hS1 hw1 hok1 => ?_) (fun k ce q9 H1 locs1 e1 => by cases e1)
  cases e1
  have hk := k p e s m args below meth c H1 locs1 (cells + mc') (slots + ms') la C hS1 hw1 (by omega) (by omega) (en_ls_mono hsub hl) (by
    intro w hw
    rcases List.mem_append.mp hw with h | h
    · exact hok1 w (by simpa using h)
    · exact en_oks_mono hsub (fun w hw => hok w (by rw [hst]; simp [hw])) w h)
  rw [List.map_append] at hk
  have e9 : List.map (en_tr G) vv.toList = (vv.map (en_tr G)).toList := by cases vv <;> rfl
  rw [e9] at hk
  exact hk
end en_r11
def T_sx_coder : List (List (Nat × en_I)) := [[(3, .ifCond .eq 10, 3, 6, 13, 0, 0), (6, .aload_n 0, 1, 7, 0, 0, 0), (10, .goto 4, 3, 13, 14, 0, 0), (13, .iconst 1, 1, 14, 0, 0, 1), (14, .ireturn, 1, 15, 0, 0, 0)]]
def M_sx_coder : en_D := (⟨en_own 13, "coder", "()B"⟩, prog_22_method_152_code, 1, some .byte, 13, [], en_code T_sx_coder)
theorem ck_sx_coder : en_chk prog_22_method_152_code 13 T_sx_coder = true := by decide +kernel
theorem md_sx_coder : en_md M_sx_coder := ⟨by decide +kernel, rfl, rfl, en_ok_of ck_sx_coder⟩
theorem mv_sx_coder : en_mv M_sx_coder 0 := ⟨rfl, en_tw_of (i := 861) (by decide +kernel) (by decide +kernel), en_tw_of (i := 862) (by decide +kernel) (by decide +kernel), en_tw_of (i := 86) (by decide +kernel) (by decide +kernel), en_tw_of (i := 863) (by decide +kernel) (by decide +kernel), ⟨by decide +kernel, by decide +kernel⟩, by decide +kernel, rfl⟩
def T_sx_length : List (List (Nat × en_I)) := [[(0, .aload_n 0, 1, 1, 0, 0, 0), (4, .arraylength, 1, 5, 0, 0, 0), (5, .aload_n 0, 1, 6, 0, 0, 0), (6, .invokevirtual 335, 3, 9, 0, 0, 0), (9, .ishr, 1, 10, 0, 0, 0), (10, .ireturn, 1, 11, 0, 0, 0)]]
def M_sx_length : en_D := (⟨en_own 13, "length", "()I"⟩, prog_22_method_54_code, 1, some .int, 13, [], en_code T_sx_length)
theorem ck_sx_length : en_chk prog_22_method_54_code 13 T_sx_length = true := by decide +kernel
theorem md_sx_length : en_md M_sx_length := ⟨by decide +kernel, rfl, rfl, en_ok_of ck_sx_length⟩
theorem mv_sx_length : en_mv M_sx_length 0 := ⟨rfl, en_tw_of (i := 857) (by decide +kernel) (by decide +kernel), en_tw_of (i := 858) (by decide +kernel) (by decide +kernel), en_tw_of (i := 86) (by decide +kernel) (by decide +kernel), en_tw_of (i := 859) (by decide +kernel) (by decide +kernel), ⟨by decide +kernel, by decide +kernel⟩, by decide +kernel, rfl⟩
theorem sx_coder (G : en_G) (d : Nat) {cs : List en_A} {ρ : en_R} {σ : en_M} {i : Nat} (hi : i < 11) : en_Mt G d 0 0 M_sx_coder [.inr (.inr (.inr (i + 1)))] cs ρ σ (.inr (some (.inl 0))) cs ρ σ := by
  refine en_meth md_sx_coder rfl rfl rfl ?_
  refine en_x_zz (by decide +kernel) rfl ?_
  refine en_s_if_eq rfl (fun h => absurd h (by decide)) (fun _ => ?_)
  refine en_s_aload_nX rfl rfl ?_
  refine en_x_cod (by decide +kernel) rfl hi ?_
  refine en_s_goto rfl ?_
  exact en_s_nret rfl rfl (by decide)
theorem sx_length (G : en_G) (hz : G.2.2.2.2.2.2.2.2 = none) (d : Nat) {cs : List en_A} {ρ : en_R} {σ : en_M} {i : Nat} (hi : i < 11) : en_Mt G (d + 1) 0 0 M_sx_length [.inr (.inr (.inr (i + 1)))] cs ρ σ (.inr (some (.inl (Int32.ofNat (en_sl.getD i 0))))) cs ρ σ := by
  refine en_meth md_sx_length rfl rfl rfl ?_
  refine en_s_aload_nX rfl rfl ?_
  refine en_x_val (by decide +kernel) rfl hi ?_
  refine en_x_len rfl hi rfl ?_
  refine en_s_aload_nX rfl rfl ?_
  refine en_callO hz rfl (sx_coder G d hi) (en_tw_of (i := 860) (by decide +kernel) (by decide +kernel)) mv_sx_coder hi rfl rfl rfl rfl (fun _ h => h) (bc' := 0) (bs' := 0) (by omega) (by omega) ?_
  refine en_s_ishr rfl ?_
  have e : Int32.ofNat (en_sl.getD i 0) >>> ((0 : Int32) &&& 31) = Int32.ofNat (en_sl.getD i 0) := by
    have : ∀ j : Fin 11, Int32.ofNat (en_sl.getD j.val 0) >>> ((0 : Int32) &&& 31) = Int32.ofNat (en_sl.getD j.val 0) := by decide
    exact this ⟨i, hi⟩
  rw [e]
  exact en_s_nret rfl rfl rfl
/-! String.charAt's parts: isLatin1; a byte of a text. -/
section en_r12
variable {G : en_G} {d mc ms : Nat} {μ : en_D} {r : en_P} {cs cs' : List en_A} {ρ ρ' : en_R} {σ σ' σ1 : en_M} {bc bs pc len nx a b : Nat} {v : Int32} {ls ls' : List (Option en_V)} {st : List en_V}
theorem en_x_bald {i : Nat} {x w : Int32} (hc : μ.2.2.2.2.2.2 pc = some (.baload, len, nx, a, b, v)) (hi : i < 11) (hx : en_inb x (en_sl.getD i 0) = true) (hw' : (en_sb.getD i []).getD x.toNatClampNeg 0 = w) (k : en_W G d mc ms μ r cs' ρ' σ' bc bs nx ls (.inl w :: st) cs ρ σ) : en_W G d mc ms μ r cs' ρ' σ' bc bs pc ls (.inl x :: .inr (.inr (.inr (i + 101))) :: st) cs ρ σ := by
  intro p e s m args below meth c H locs cells slots la C hS hw hbc hbs hl hst
  obtain ⟨h1, h2, h3⟩ := en_dec C hc
  simp only [en_gd, Bool.and_eq_true, beq_iff_eq, decide_eq_true_eq] at h3
  obtain ⟨-, rfl⟩ := h3
  subst h2 hw'
  have hE := C.2.2.2.2.2.2.2.2.2.1.2.2.2.2.2.1
  exact va_tb C.1 C.2.1 (hE.1 i hi).2.2.2 hS (en_inb_vp hx) rfl h1 (k p e s m args below meth c H locs cells slots la C hS hw hbc hbs hl (en_oks_c en_ok_i (en_oks_t (en_oks_t hst))))
end en_r12
def T_sx_latin : List (List (Nat × en_I)) := [[(3, .ifCond .eq 14, 3, 6, 17, 0, 0), (6, .aload_n 0, 1, 7, 0, 0, 0), (10, .ifCond .ne 7, 3, 13, 17, 0, 0), (13, .iconst 1, 1, 14, 0, 0, 1), (14, .goto 4, 3, 17, 18, 0, 0), (18, .ireturn, 1, 19, 0, 0, 0)]]
def M_sx_latin : en_D := (⟨en_own 13, "isLatin1", "()Z"⟩, prog_22_method_154_code, 1, some .boolean, 13, [], en_code T_sx_latin)
theorem ck_sx_latin : en_chk prog_22_method_154_code 13 T_sx_latin = true := by decide +kernel
theorem md_sx_latin : en_md M_sx_latin := ⟨by decide +kernel, rfl, rfl, en_ok_of ck_sx_latin⟩
theorem mv_sx_latin : en_mv M_sx_latin 0 := ⟨rfl, en_tw_of (i := 871) (by decide +kernel) (by decide +kernel), en_tw_of (i := 872) (by decide +kernel) (by decide +kernel), en_tw_of (i := 86) (by decide +kernel) (by decide +kernel), en_tw_of (i := 873) (by decide +kernel) (by decide +kernel), ⟨by decide +kernel, by decide +kernel⟩, by decide +kernel, rfl⟩
theorem sx_latin (G : en_G) (d : Nat) {cs : List en_A} {ρ : en_R} {σ : en_M} {i : Nat} (hi : i < 11) : en_Mt G d 0 0 M_sx_latin [.inr (.inr (.inr (i + 1)))] cs ρ σ (.inr (some (.inl 1))) cs ρ σ := by
  refine en_meth md_sx_latin rfl rfl rfl ?_
  refine en_x_zz (by decide +kernel) rfl ?_
  refine en_s_if_eq rfl (fun h => absurd h (by decide)) (fun _ => ?_)
  refine en_s_aload_nX rfl rfl ?_
  refine en_x_cod (by decide +kernel) rfl hi ?_
  refine en_s_if_ne rfl (fun h => absurd rfl h) (fun _ => ?_)
  refine en_s_iconst rfl ?_
  refine en_s_goto rfl ?_
  exact en_s_nret rfl rfl (by decide)
/-! String.charAt, given checkIndex. -/
theorem en_s_i2c {G : en_G} {d mc ms : Nat} {μ : en_D} {r : en_P} {cs cs' : List en_A} {ρ ρ' : en_R} {σ σ' : en_M} {bc bs pc len nx a b : Nat} {v : Int32} {ls : List (Option en_V)} {st : List en_V} {x w : Int32} (hc : μ.2.2.2.2.2.2 pc = some (.i2c, len, nx, a, b, v)) (hv : (x.toUInt32 % 65536).toInt32 = w) (k : en_W G d mc ms μ r cs' ρ' σ' bc bs nx ls (.inl w :: st) cs ρ σ) : en_W G d mc ms μ r cs' ρ' σ' bc bs pc ls (.inl x :: st) cs ρ σ := by
  refine en_go (fun p e s m args below meth c H locs cells slots la Q C hl w => ?_) (fun h hl => en_oks_c en_ok_i (en_oks_t h)) k
  obtain ⟨h1, h2, h3⟩ := en_dec C hc
  simp only [en_gd, Bool.and_eq_true, beq_iff_eq, decide_eq_true_eq] at h3
  obtain ⟨-, rfl⟩ := h3
  subst h2
  exact lv_i2c C.1 C.2.1 h1 hv w
def T_sx_check : List (List (Nat × en_I)) := [[(0, .iload_n 0, 1, 1, 0, 0, 0), (1, .iload_n 1, 1, 2, 1, 0, 0), (5, .invokestatic 1059, 3, 8, 0, 0, 0), (8, .pop, 1, 9, 0, 0, 0), (9, .return_, 1, 10, 0, 0, 0)]]
def M_sx_check : en_D := (⟨en_own 13, "checkIndex", "(II)V"⟩, prog_22_method_155_code, 2, none, 13, [], en_code T_sx_check)
theorem mv_sx_check : en_mt M_sx_check 2 := ⟨rfl, en_tw_of (i := 878) (by decide +kernel) (by decide +kernel), en_tw_of (i := 86) (by decide +kernel) (by decide +kernel), en_tw_of (i := 879) (by decide +kernel) (by decide +kernel), ⟨by decide +kernel, by decide +kernel⟩, by decide +kernel, rfl⟩
theorem ck_sx_check : en_chk prog_22_method_155_code 13 T_sx_check = true := by decide +kernel
theorem md_sx_check : en_md M_sx_check := ⟨by decide +kernel, rfl, rfl, en_ok_of ck_sx_check⟩
def T_sx_prec : List (List (Nat × en_I)) := [[(0, .iload_n 0, 1, 1, 0, 0, 0), (1, .ifCond .lt 8, 3, 4, 9, 0, 0), (4, .iload_n 0, 1, 5, 0, 0, 0), (5, .iload_n 1, 1, 6, 1, 0, 0), (6, .if_icmp .lt 10, 3, 9, 16, 0, 0), (16, .iload_n 0, 1, 17, 0, 0, 0), (17, .ireturn, 1, 18, 0, 0, 0)]]
def M_sx_prec : en_D := (⟨en_own 15, "checkIndex", "(IILjava/util/function/BiFunction;)I"⟩, prog_30_method_11_code, 3, some .int, 15, [], en_code T_sx_prec)
theorem ck_sx_prec : en_chk prog_30_method_11_code 15 T_sx_prec = true := by decide +kernel
theorem md_sx_prec : en_md M_sx_prec := ⟨by decide +kernel, rfl, rfl, en_ok_of ck_sx_prec⟩
theorem mv_sx_prec : en_mt M_sx_prec 3 := ⟨rfl, en_tw_of (i := 883) (by decide +kernel) (by decide +kernel), en_tw_of (i := 88) (by decide +kernel) (by decide +kernel), en_tw_of (i := 884) (by decide +kernel) (by decide +kernel), ⟨by decide +kernel, by decide +kernel⟩, by decide +kernel, rfl⟩
theorem en_sx_f : Cond.fieldLink "java/lang/String" 1053 "jdk/internal/util/Preconditions" "SIOOBE_FORMATTER" "Ljava/util/function/BiFunction;" ∈ en_tw := en_tw_of (i := 880) (by decide +kernel) (by decide +kernel)
theorem en_x_fmt {G : en_G} {d mc ms : Nat} {μ : en_D} {r : en_P} {cs cs' : List en_A} {ρ ρ' : en_R} {σ σ' : en_M} {bc bs pc : Nat} {ls : List (Option en_V)} {st : List en_V} (hd : decode μ.2.1 pc = .ok (.getstatic 1053, 3)) (ho : en_own μ.2.2.2.2.1 = "java/lang/String") (k : ∀ w : en_V, (w = .inr (.inl none) ∨ w = .inr (.inr (.inr 200))) → en_W G d mc ms μ r cs' ρ' σ' bc bs (pc + 3) ls (w :: st) cs ρ σ) : en_W G d mc ms μ r cs' ρ' σ' bc bs pc ls st cs ρ σ := by
  intro p e s m args below meth c H locs cells slots la C hS hw hbc hbs hl hst
  obtain ⟨w, hwz, hZ⟩ := C.2.2.2.2.2.2.2.2.2.1.2.2.2.2.2.2.2.2.2.2.2.2.2.2.2.2.2.2
  have hok : en_okv cs w := by
    rcases hwz with rfl | rfl
    · exact en_ok_n
    · exact en_ok_x
  exact va_gets C.1 C.2.1 hZ hS C.2.2.2.1 (by rw [ho]; exact C.2.2.2.2.1 _ en_sx_f) (fun _ h => h) hd (k w hwz p e s m args below meth c H locs cells slots la C hS hw hbc hbs hl (en_oks_c hok hst))
theorem sx_inb : ∀ (n : Fin 11) (x : Int32), en_inb x (en_sl.getD n.val 0) = true → ¬ x < 0 ∧ x < Int32.ofNat (en_sl.getD n.val 0) := by
  intro n x h
  have hl : en_sl.getD n.val 0 ≤ 5 := (by decide : ∀ i : Fin 11, en_sl.getD i.val 0 ≤ 5) n
  simp only [en_inb, Bool.and_eq_true, Bool.not_eq_true', decide_eq_false_iff_not, decide_eq_true_eq] at h
  refine ⟨h.1, ?_⟩
  have h0 : (0 : Int32).toInt ≤ x.toInt := by
    have := h.1
    rw [Int32.lt_iff_toInt_lt] at this
    omega
  have e0 : (0 : Int32).toInt = 0 := by decide
  rw [e0] at h0
  have h2 : x.toInt.toNat < en_sl.getD n.val 0 := h.2
  have e1 : (Int32.ofNat (en_sl.getD n.val 0)).toInt = (en_sl.getD n.val 0 : Int) := Int32.toInt_ofNat_of_lt (by omega)
  rw [Int32.lt_iff_toInt_lt, e1]
  omega
theorem sx_prec (G : en_G) (d : Nat) {cs : List en_A} {ρ : en_R} {σ : en_M} {x y : Int32} {w : en_V} (hw : en_c1 w = true) (h0 : ¬ x < 0) (h1 : x < y) : en_Mt G d 0 0 M_sx_prec [.inl x, .inl y, w] cs ρ σ (.inr (some (.inl x))) cs ρ σ := by
  refine en_meth md_sx_prec (show (en_c1 (.inl x) && (en_c1 (.inl y) && (en_c1 w && true))) = true by rw [hw]; rfl) rfl rfl ?_
  refine en_s_iload_n rfl rfl ?_
  refine en_s_if_lt rfl (fun h => absurd h h0) (fun _ => ?_)
  refine en_s_iload_n rfl rfl ?_
  refine en_s_iload_n rfl rfl ?_
  refine en_s_icmp_lt rfl (fun _ => ?_) (fun h => absurd h1 h)
  refine en_s_iload_n rfl rfl ?_
  exact en_s_iret rfl rfl
theorem sx_check (G : en_G) (hz : G.2.2.2.2.2.2.2.2 = none) (d : Nat) {cs : List en_A} {ρ : en_R} {σ : en_M} {x y : Int32} (h0 : ¬ x < 0) (h1 : x < y) : en_Mt G (d + 1) 0 0 M_sx_check [.inl x, .inl y] cs ρ σ (.inr none) cs ρ σ := by
  refine en_meth md_sx_check rfl rfl rfl ?_
  refine en_s_iload_n rfl rfl ?_
  refine en_s_iload_n rfl rfl ?_
  refine en_x_fmt (by decide +kernel) rfl (fun w hw => ?_)
  have hw1 : en_c1 w = true := by rcases hw with rfl | rfl <;> rfl
  refine en_callS (as := [.inl x, .inl y, w]) (rest := []) (bc' := 0) (bs' := 0) hz rfl (sx_prec G d hw1 h0 h1) (en_tw_of (i := 882) (by decide +kernel) (by decide +kernel)) mv_sx_prec rfl rfl rfl (fun _ h => h) (Nat.le_refl _) (Nat.le_refl _) ?_
  refine en_s_pop rfl rfl ?_
  exact en_s_vret rfl rfl
def T_sx_lchar : List (List (Nat × en_I)) := [[(0, .iload_n 1, 1, 1, 1, 0, 0), (1, .aload_n 0, 1, 2, 0, 0, 0), (2, .arraylength, 1, 3, 0, 0, 0), (3, .invokestatic 9, 3, 6, 0, 0, 0), (6, .aload_n 0, 1, 7, 0, 0, 0), (7, .iload_n 1, 1, 8, 1, 0, 0), (8, .baload, 1, 9, 0, 0, 0), (9, .sipush 255, 3, 12, 0, 0, 255), (12, .iand, 1, 13, 0, 0, 0), (13, .i2c, 1, 14, 0, 0, 0), (14, .ireturn, 1, 15, 0, 0, 0)]]
def M_sx_lchar : en_D := (⟨en_own 14, "charAt", "([BI)C"⟩, prog_23_method_2_code, 2, some .char, 14, [], en_code T_sx_lchar)
theorem ck_sx_lchar : en_chk prog_23_method_2_code 14 T_sx_lchar = true := by decide +kernel
theorem md_sx_lchar : en_md M_sx_lchar := ⟨by decide +kernel, rfl, rfl, en_ok_of ck_sx_lchar⟩
theorem mv_sx_lchar : en_mt M_sx_lchar 2 := ⟨rfl, en_tw_of (i := 875) (by decide +kernel) (by decide +kernel), en_tw_of (i := 87) (by decide +kernel) (by decide +kernel), en_tw_of (i := 876) (by decide +kernel) (by decide +kernel), ⟨by decide +kernel, by decide +kernel⟩, by decide +kernel, rfl⟩
theorem sx_small : ∀ (i : Fin 11) (q : Fin 5), ((((en_sb.getD i.val []).getD q.val 0) &&& 255).toUInt32 % 65536).toInt32 = (en_sb.getD i.val []).getD q.val 0 ∧ narrow .char (.int ((en_sb.getD i.val []).getD q.val 0)) = .int ((en_sb.getD i.val []).getD q.val 0) := by decide +kernel
theorem sx_lt : ∀ i : Fin 11, en_sl.getD i.val 0 ≤ 5 := by decide
theorem sx_lchar (G : en_G) (hz : G.2.2.2.2.2.2.2.2 = none) (d : Nat) {cs : List en_A} {ρ : en_R} {σ : en_M} {i : Nat} {x w : Int32} (hi : i < 11) (hx : en_inb x (en_sl.getD i 0) = true) (hw : (en_sb.getD i []).getD x.toNatClampNeg 0 = w) (hck : en_Mt G d 0 0 M_sx_check [.inl x, .inl (Int32.ofNat (en_sl.getD i 0))] cs ρ σ (.inr none) cs ρ σ) : en_Mt G (d + 1) 0 0 M_sx_lchar [.inr (.inr (.inr (i + 101))), .inl x] cs ρ σ (.inr (some (.inl w))) cs ρ σ := by
  have hq : x.toNatClampNeg < 5 := by
    have h1 := sx_lt ⟨i, hi⟩
    simp only [en_inb, Bool.and_eq_true, decide_eq_true_eq] at hx
    exact Nat.lt_of_lt_of_le hx.2 h1
  have hs := sx_small ⟨i, hi⟩ ⟨_, hq⟩
  simp only [hw] at hs
  refine en_meth md_sx_lchar rfl rfl rfl ?_
  refine en_s_iload_n rfl rfl ?_
  refine en_s_aload_nX rfl rfl ?_
  refine en_x_len rfl hi rfl ?_
  refine en_callS (as := [.inl x, .inl (Int32.ofNat (en_sl.getD i 0))]) (rest := []) (bc' := 0) (bs' := 0) hz rfl hck (en_tw_of (i := 877) (by decide +kernel) (by decide +kernel)) mv_sx_check rfl rfl rfl (fun _ h => h) (Nat.le_refl _) (Nat.le_refl _) ?_
  refine en_s_aload_nX rfl rfl ?_
  refine en_s_iload_n rfl rfl ?_
  refine en_x_bald rfl hi hx hw ?_
  refine en_s_sipush rfl ?_
  refine en_s_iand rfl ?_
  refine en_s_i2c rfl hs.1 ?_
  exact en_s_nret rfl rfl hs.2
/-! String.charAt, given checkIndex. -/
def T_sx_char : List (List (Nat × en_I)) := [[(0, .aload_n 0, 1, 1, 0, 0, 0), (1, .invokevirtual 492, 3, 4, 0, 0, 0), (4, .ifCond .eq 12, 3, 7, 16, 0, 0), (7, .aload_n 0, 1, 8, 0, 0, 0), (11, .iload_n 1, 1, 12, 1, 0, 0), (12, .invokestatic 495, 3, 15, 0, 0, 0), (15, .ireturn, 1, 16, 0, 0, 0)]]
def M_sx_char : en_D := (⟨en_own 13, "charAt", "(I)C"⟩, prog_22_method_56_code, 2, some .char, 13, [], en_code T_sx_char)
theorem ck_sx_char : en_chk prog_22_method_56_code 13 T_sx_char = true := by decide +kernel
theorem md_sx_char : en_md M_sx_char := ⟨by decide +kernel, rfl, rfl, en_ok_of ck_sx_char⟩
theorem mv_sx_char : en_mv M_sx_char 1 := ⟨rfl, en_tw_of (i := 867) (by decide +kernel) (by decide +kernel), en_tw_of (i := 868) (by decide +kernel) (by decide +kernel), en_tw_of (i := 86) (by decide +kernel) (by decide +kernel), en_tw_of (i := 869) (by decide +kernel) (by decide +kernel), ⟨by decide +kernel, by decide +kernel⟩, by decide +kernel, rfl⟩
theorem sx_char (G : en_G) (hz : G.2.2.2.2.2.2.2.2 = none) (d : Nat) {cs : List en_A} {ρ : en_R} {σ : en_M} {i : Nat} {x w : Int32} (hi : i < 11) (hx : en_inb x (en_sl.getD i 0) = true) (hw : (en_sb.getD i []).getD x.toNatClampNeg 0 = w) (hck : en_Mt G d 0 0 M_sx_check [.inl x, .inl (Int32.ofNat (en_sl.getD i 0))] cs ρ σ (.inr none) cs ρ σ) : en_Mt G (d + 2) 0 0 M_sx_char [.inr (.inr (.inr (i + 1))), .inl x] cs ρ σ (.inr (some (.inl w))) cs ρ σ := by
  have hq : x.toNatClampNeg < 5 := by
    have h1 := sx_lt ⟨i, hi⟩
    simp only [en_inb, Bool.and_eq_true, decide_eq_true_eq] at hx
    exact Nat.lt_of_lt_of_le hx.2 h1
  have hs := sx_small ⟨i, hi⟩ ⟨_, hq⟩
  simp only [hw] at hs
  refine en_meth md_sx_char rfl rfl rfl ?_
  refine en_s_aload_nX rfl rfl ?_
  refine en_callO (as := []) (rest := []) hz rfl (sx_latin G (d + 1) hi) (en_tw_of (i := 870) (by decide +kernel) (by decide +kernel)) mv_sx_latin hi rfl rfl rfl rfl (fun _ h => h) (bc' := 0) (bs' := 0) (Nat.le_refl _) (Nat.le_refl _) ?_
  refine en_s_if_eq rfl (fun h => absurd h (by decide)) (fun _ => ?_)
  refine en_s_aload_nX rfl rfl ?_
  refine en_x_val (by decide +kernel) rfl hi ?_
  refine en_s_iload_n rfl rfl ?_
  refine en_callS (as := [.inr (.inr (.inr (i + 101))), .inl x]) (rest := []) (bc' := 0) (bs' := 0) hz rfl (sx_lchar G hz d hi hx hw hck) (en_tw_of (i := 874) (by decide +kernel) (by decide +kernel)) mv_sx_lchar rfl rfl rfl (fun _ h => h) (Nat.le_refl _) (Nat.le_refl _) ?_
  exact en_s_nret rfl rfl hs.2

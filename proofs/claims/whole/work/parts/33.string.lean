/-! String.length by the engine. -/
theorem en_sx_v : Cond.fieldLink "java/lang/String" 9 "java/lang/String" "value" "[B" ∈ en_tw := en_tw_of (i := 1956) (by decide +kernel) (by decide +kernel)
theorem en_sx_c : Cond.fieldLink "java/lang/String" 15 "java/lang/String" "coder" "B" ∈ en_tw := en_tw_of (i := 1957) (by decide +kernel) (by decide +kernel)
theorem en_sx_z : Cond.fieldLink "java/lang/String" 38 "java/lang/String" "COMPACT_STRINGS" "Z" ∈ en_tw := en_tw_of (i := 865) (by decide +kernel) (by decide +kernel)
section en_r10
variable {G : en_G} {d mc ms : Nat} {μ : en_D} {r : en_P} {cs cs' : List en_A} {ρ ρ' : en_R} {σ σ' σ1 : en_M} {bc bs pc len nx a b : Nat} {v : Int32} {ls ls' : List (Option en_V)} {st : List en_V}
theorem en_x_val {i : Nat} (hd : decode μ.2.1 pc = .ok (.getfield 9, 3)) (ho : en_own μ.2.2.2.2.1 = "java/lang/String") (hi : i < 11) (k : en_W G d mc ms μ r cs' ρ' σ' bc bs (pc + 3) ls (.inr (.inr (.inr (i + 101))) :: st) cs ρ σ) : en_W G d mc ms μ r cs' ρ' σ' bc bs pc ls (.inr (.inr (.inr (i + 1))) :: st) cs ρ σ := by
  intro p e s m args below meth c H locs cells slots la C hS hw hbc hbs hl hst
  have hE := C.2.2.2.2.2.2.2.2.2.1.2.2.2.2.2.1
  exact vk_getf C.1 C.2.1 (hE.1 i hi).2.2.1 hS C.2.2.2.1 (by rw [ho]; exact C.2.2.2.2.1 _ en_sx_v) (fun _ h => h) hd (k p e s m args below meth c H locs cells slots la C hS hw hbc hbs hl (en_oks_c en_ok_x (en_oks_t hst)))
theorem en_x_cod {i : Nat} (hd : decode μ.2.1 pc = .ok (.getfield 15, 3)) (ho : en_own μ.2.2.2.2.1 = "java/lang/String") (hi : i < 11) (k : en_W G d mc ms μ r cs' ρ' σ' bc bs (pc + 3) ls (.inl 0 :: st) cs ρ σ) : en_W G d mc ms μ r cs' ρ' σ' bc bs pc ls (.inr (.inr (.inr (i + 1))) :: st) cs ρ σ := by
  intro p e s m args below meth c H locs cells slots la C hS hw hbc hbs hl hst
  have hE := C.2.2.2.2.2.2.2.2.2.1.2.2.2.2.2.1
  exact vk_getf C.1 C.2.1 (hE.1 i hi).2.1 hS C.2.2.2.1 (by rw [ho]; exact C.2.2.2.2.1 _ en_sx_c) (fun _ h => h) hd (k p e s m args below meth c H locs cells slots la C hS hw hbc hbs hl (en_oks_c en_ok_i (en_oks_t hst)))
theorem en_x_zz (hd : decode μ.2.1 pc = .ok (.getstatic 38, 3)) (ho : en_own μ.2.2.2.2.1 = "java/lang/String") (k : en_W G d mc ms μ r cs' ρ' σ' bc bs (pc + 3) ls (.inl 1 :: st) cs ρ σ) : en_W G d mc ms μ r cs' ρ' σ' bc bs pc ls st cs ρ σ := by
  intro p e s m args below meth c H locs cells slots la C hS hw hbc hbs hl hst
  have hZ := C.2.2.2.2.2.2.2.2.2.1.2.2.2.2.2.2.2.2.1
  exact va_gets C.1 C.2.1 hZ hS C.2.2.2.1 (by rw [ho]; exact C.2.2.2.2.1 _ en_sx_z) (fun _ h => h) hd (k p e s m args below meth c H locs cells slots la C hS hw hbc hbs hl (en_oks_c en_ok_i hst))
theorem en_x_len {i : Nat} {x : Int32} (hc : μ.2.2.2.2.2.2 pc = some (.arraylength, len, nx, a, b, v)) (hi : i < 11) (hx : Int32.ofNat (en_sl.getD i 0) = x) (k : en_W G d mc ms μ r cs' ρ' σ' bc bs nx ls (.inl x :: st) cs ρ σ) : en_W G d mc ms μ r cs' ρ' σ' bc bs pc ls (.inr (.inr (.inr (i + 101))) :: st) cs ρ σ := by
  intro p e s m args below meth c H locs cells slots la C hS hw hbc hbs hl hst
  obtain ⟨h1, h2, h3⟩ := en_dec C hc
  simp only [en_gd, Bool.and_eq_true, beq_iff_eq, decide_eq_true_eq] at h3
  obtain ⟨-, rfl⟩ := h3
  subst h2
  have hE := C.2.2.2.2.2.2.2.2.2.1.2.2.2.2.2.1
  exact va_tlen C.1 C.2.1 (hE.1 i hi).2.2.2 hS hx h1 (k p e s m args below meth c H locs cells slots la C hS hw hbc hbs hl (en_oks_c en_ok_i (en_oks_t hst)))
theorem en_s_nret {x : Int32} {ty : FieldType} (hc : μ.2.2.2.2.2.2 pc = some (.ireturn, len, nx, a, b, v)) (hr : μ.2.2.2.1 = some ty) (hn : narrow ty (.int x) = .int x) : en_W G d mc ms μ (.inr (some (.inl x))) cs ρ σ bc bs pc ls [.inl x] cs ρ σ := by
  intro p e s m args below meth c H locs cells slots la C hS hw hbc hbs hl hst
  obtain ⟨h1, h2, h3⟩ := en_dec C hc
  simp only [en_gd, Bool.and_eq_true, beq_iff_eq, decide_eq_true_eq] at h3
  obtain ⟨-, rfl⟩ := h3
  refine W.widen (k := mc) (n := ms) (by omega) (by omega) (vx_ret ?_)
  exact W.zret (v := x) C.1 C.2.1 (by rw [C.2.2.2.2.2.1, hr]) hn (fun t ht hW => ⟨⟨_, rfl, rfl, fun y hy => by cases hy; exact en_ok_i⟩, by rw [ht]; exact hw, hS.F ht⟩) hS.2.2 h1 C.2.2.2.2.2.2.1
end en_r10
section en_r11
variable {G : en_G} {d mc ms : Nat} {μ μ' : en_D} {r : en_P} {cs cs' cs1 : List en_A} {ρ ρ' ρ1 : en_R} {σ σ' σ1 : en_M} {bc bs bc' bs' d' mc' ms' pc len nx a b idx n : Nat} {v : Int32} {ls ls' : List (Option en_V)} {st rest as : List en_V} {vv : Option en_V}
theorem en_vcallO {n' : Nat ⊕ Option en_V} {i : Nat} {p : Program} {e : Env} {s : State} {m : MethodId} {args : Array Value} {below : List Frame} {meth : Method} {c : Code} {H : Heap} {locs : List Loc} {cells slots : Nat} {la : Array Slot}
    (hz : G.2.2.2.2.2.2.2.2 = none) (hc : μ.2.2.2.2.2.2 pc = some (.invokevirtual idx, len, nx, a, b, v)) (hM : en_Mt G d' mc' ms' μ' (.inr (.inr (.inr (i + 1))) :: as) cs ρ σ n' cs1 ρ1 σ1) (hlk : Cond.methodLink (en_own μ.2.2.2.2.1) idx μ'.1 ∈ en_tw) (hmv : en_mv μ' n) (hi : i < 11) (hcl : μ'.1.cls = "java/lang/String") (hn : as.length = n)
    (hst : st = as.reverse ++ .inr (.inr (.inr (i + 1))) :: rest) (hcat : Nat.ble (rest.map en_cat).sum 8 = true) (C : en_cx G μ p s m args meth c) (hS : va_S (en_up G) s.heap H locs) (hw : en_wd G cs ρ σ H) (hl : en_ls G cs μ.2.2.1 la ls) (hok : en_oks cs st) (hf1 : cells + mc' ≤ mc) (hf2 : slots + ms' ≤ ms) :
    vx_Run p G.1 e (en_rm (d' + 1) mc ms) s m args below meth c H locs cells slots mc' ms' (F0 m pc la (st.map (en_tr G))) (rest.map (en_tr G)) (en_Q G n' cs1 ρ1 σ1 (Value.ref (G.2.2.2.2.1 (i + 1)) :: as.map (en_tr G)).toArray) (en_X G n' cs1 ρ1 σ1) (en_up G) := by
  obtain ⟨h1, h2, h3⟩ := en_dec C hc
  simp only [en_gd, Bool.and_eq_true, beq_iff_eq, decide_eq_true_eq] at h3
  obtain ⟨-, rfl⟩ := h3
  subst hst
  obtain ⟨v1, v2, v3, v4, v5, v6, v7, v8⟩ := hmv
  have hoka : en_oks cs (.inr (.inr (.inr (i + 1))) :: as) := en_oks_c en_ok_x (fun w hw => hok w (by simp [hw]))
  refine vx_runV (bytes := μ'.2.1) (maxL := μ'.2.2.1) (ret := μ'.2.2.2.1) (As := as.map (en_tr G)) (C := μ'.1.cls) (n := n) (Ts := en_tw) (own := en_own μ.2.2.2.2.1) (cc := μ.2.1) (nL := μ.2.2.1) (b := G.2.2.2.2.1 (i + 1)) ⟨C.1, C.2.1, C.2.2.1, C.2.2.2.1, C.2.2.2.2.1⟩ (hM hoka) ?_ ?_ rfl (by simpa using hn) (en_lsz hl) ?_ (lv_room (en_cat_sum hcat)) h1 ⟨hf1, hf2⟩
  · rw [en_cw_0 v1] at v5 ⊢
    refine cwV (bytes := μ'.2.1) (maxL := μ'.2.2.1) (ret := μ'.2.2.2.1) n C.2.2.2.2.1 ?_ rfl rfl rfl ⟨rfl, v6.1, v6.2, v7⟩ (en_room v8)
    intro w hw
    simp only [wsV, List.mem_append, List.mem_cons, List.not_mem_nil, or_false] at hw
    rcases hw with (rfl | rfl | rfl | rfl) | rfl | hw
    · exact en_good _ hlk
    · exact en_good _ v2
    · exact en_good _ v3
    · exact en_good _ v4
    · exact en_good _ v5
    · exact en_good _ hw
  · have hp := en_pre (as := .inr (.inr (.inr (i + 1))) :: as) hz C.2.2.2.2.2.2.2.2.2.1 hS hw
    exact ⟨hp.1, by rw [hcl]; exact vk_recv (i := i) C.2.2.2.2.2.2.2.2.2.1.2.2.2.2.2.1 hi hS, hp.2⟩
  · show List.map (en_tr G) (as.reverse ++ .inr (.inr (.inr (i + 1))) :: rest) = _
    rw [List.map_append, List.map_reverse]
    rfl
theorem en_callO {i : Nat} (hz : G.2.2.2.2.2.2.2.2 = none) (hc : μ.2.2.2.2.2.2 pc = some (.invokevirtual idx, len, nx, a, b, v)) (hM : en_Mt G d' mc' ms' μ' (.inr (.inr (.inr (i + 1))) :: as) cs ρ σ (.inr vv) cs1 ρ1 σ1) (hlk : Cond.methodLink (en_own μ.2.2.2.2.1) idx μ'.1 ∈ en_tw) (hmv : en_mv μ' n) (hi : i < 11) (hcl : μ'.1.cls = "java/lang/String") (hn : as.length = n)
    (hst : st = as.reverse ++ .inr (.inr (.inr (i + 1))) :: rest) (hcat : Nat.ble (rest.map en_cat).sum 8 = true) (hsub : ∀ c ∈ cs, c ∈ cs1) (hbc : mc' + bc' ≤ bc) (hbs : ms' + bs' ≤ bs)
    (k : en_W G (d' + 1) mc ms μ r cs' ρ' σ' bc' bs' nx ls (vv.toList ++ rest) cs1 ρ1 σ1) : en_W G (d' + 1) mc ms μ r cs' ρ' σ' bc bs pc ls st cs ρ σ := by
  intro p e s m args below meth c H locs cells slots la C hS hw hbc0 hbs0 hl hok
  have hrun := en_vcallO (e := e) (below := below) hz hc hM hlk hmv hi hcl hn hst hcat C hS hw hl hok (cells := cells) (slots := slots) (mc := mc) (ms := ms) (by omega) (by omega)
  obtain ⟨h1, h2, h3⟩ := en_dec C hc
  simp only [en_gd, Bool.and_eq_true, beq_iff_eq, decide_eq_true_eq] at h3
  obtain ⟨-, rfl⟩ := h3
  subst h2
  refine en_aft hrun hS (fun vv' H1 locs1 e1 hS1 hw1 hok1 => ?_) (fun k ce q9 H1 locs1 e1 => by cases e1)
  cases e1
  have hk := k p e s m args below meth c H1 locs1 (cells + mc') (slots + ms') la C hS1 hw1 (by omega) (by omega) (en_ls_mono hsub hl) (by
    intro w hw
    rcases List.mem_append.mp hw with h | h
    · exact hok1 w (by simpa using h)
    · exact en_oks_mono hsub (fun w hw => hok w (by rw [hst]; simp [hw])) w h)
  rw [List.map_append] at hk
  have e9 : List.map (en_tr G) vv.toList = (vv.map (en_tr G)).toList := by cases vv <;> rfl
  rw [e9] at hk
  exact hk
end en_r11
def T_sx_coder : List (List (Nat × en_I)) := [[(3, .ifCond .eq 10, 3, 6, 13, 0, 0), (6, .aload_n 0, 1, 7, 0, 0, 0), (10, .goto 4, 3, 13, 14, 0, 0), (13, .iconst 1, 1, 14, 0, 0, 1), (14, .ireturn, 1, 15, 0, 0, 0)]]
def M_sx_coder : en_D := (⟨en_own 13, "coder", "()B"⟩, prog_22_method_152_code, 1, some .byte, 13, [], en_code T_sx_coder)
theorem ck_sx_coder : en_chk prog_22_method_152_code 13 T_sx_coder = true := by decide +kernel
theorem md_sx_coder : en_md M_sx_coder := ⟨by decide +kernel, rfl, rfl, en_ok_of ck_sx_coder⟩
theorem mv_sx_coder : en_mv M_sx_coder 0 := ⟨rfl, en_tw_of (i := 862) (by decide +kernel) (by decide +kernel), en_tw_of (i := 863) (by decide +kernel) (by decide +kernel), en_tw_of (i := 86) (by decide +kernel) (by decide +kernel), en_tw_of (i := 864) (by decide +kernel) (by decide +kernel), ⟨by decide +kernel, by decide +kernel⟩, by decide +kernel, rfl⟩
def T_sx_length : List (List (Nat × en_I)) := [[(0, .aload_n 0, 1, 1, 0, 0, 0), (4, .arraylength, 1, 5, 0, 0, 0), (5, .aload_n 0, 1, 6, 0, 0, 0), (6, .invokevirtual 335, 3, 9, 0, 0, 0), (9, .ishr, 1, 10, 0, 0, 0), (10, .ireturn, 1, 11, 0, 0, 0)]]
def M_sx_length : en_D := (⟨en_own 13, "length", "()I"⟩, prog_22_method_54_code, 1, some .int, 13, [], en_code T_sx_length)
theorem ck_sx_length : en_chk prog_22_method_54_code 13 T_sx_length = true := by decide +kernel
theorem md_sx_length : en_md M_sx_length := ⟨by decide +kernel, rfl, rfl, en_ok_of ck_sx_length⟩
theorem mv_sx_length : en_mv M_sx_length 0 := ⟨rfl, en_tw_of (i := 858) (by decide +kernel) (by decide +kernel), en_tw_of (i := 859) (by decide +kernel) (by decide +kernel), en_tw_of (i := 86) (by decide +kernel) (by decide +kernel), en_tw_of (i := 860) (by decide +kernel) (by decide +kernel), ⟨by decide +kernel, by decide +kernel⟩, by decide +kernel, rfl⟩
theorem sx_coder (G : en_G) (d : Nat) {cs : List en_A} {ρ : en_R} {σ : en_M} {i : Nat} (hi : i < 11) : en_Mt G d 0 0 M_sx_coder [.inr (.inr (.inr (i + 1)))] cs ρ σ (.inr (some (.inl 0))) cs ρ σ := by
  refine en_meth md_sx_coder rfl rfl rfl ?_
  refine en_x_zz (by decide +kernel) rfl ?_
  refine en_s_if_eq rfl (fun h => absurd h (by decide)) (fun _ => ?_)
  refine en_s_aload_nX rfl rfl ?_
  refine en_x_cod (by decide +kernel) rfl hi ?_
  refine en_s_goto rfl ?_
  exact en_s_nret rfl rfl (by decide)
theorem sx_length (G : en_G) (hz : G.2.2.2.2.2.2.2.2 = none) (d : Nat) {cs : List en_A} {ρ : en_R} {σ : en_M} {i : Nat} (hi : i < 11) : en_Mt G (d + 1) 0 0 M_sx_length [.inr (.inr (.inr (i + 1)))] cs ρ σ (.inr (some (.inl (Int32.ofNat (en_sl.getD i 0))))) cs ρ σ := by
  refine en_meth md_sx_length rfl rfl rfl ?_
  refine en_s_aload_nX rfl rfl ?_
  refine en_x_val (by decide +kernel) rfl hi ?_
  refine en_x_len rfl hi rfl ?_
  refine en_s_aload_nX rfl rfl ?_
  refine en_callO hz rfl (sx_coder G d hi) (en_tw_of (i := 861) (by decide +kernel) (by decide +kernel)) mv_sx_coder hi rfl rfl rfl rfl (fun _ h => h) (bc' := 0) (bs' := 0) (by omega) (by omega) ?_
  refine en_s_ishr rfl ?_
  have e : Int32.ofNat (en_sl.getD i 0) >>> ((0 : Int32) &&& 31) = Int32.ofNat (en_sl.getD i 0) := by
    have : ∀ j : Fin 11, Int32.ofNat (en_sl.getD j.val 0) >>> ((0 : Int32) &&& 31) = Int32.ofNat (en_sl.getD j.val 0) := by decide
    exact this ⟨i, hi⟩
  rw [e]
  exact en_s_nret rfl rfl rfl

/-! The engine: calls. -/
def en_cat (v : en_V) : Nat := match v with | .inr (.inr (.inl _)) => 2 | _ => 1
theorem en_cat_ok {G : en_G} {v : en_V} : (en_tr G v).category = en_cat v := by
  rcases v with x | (_ | c) | x | k <;> rfl
theorem en_cat_sum {G : en_G} {st : List en_V} (h : Nat.ble (st.map en_cat).sum 8 = true) : ((st.map (en_tr G)).map fun v => v.category).sum ≤ 8 := by
  rw [List.map_map]
  have : ((fun v : Value => v.category) ∘ en_tr G) = en_cat := funext fun v => en_cat_ok
  rw [this]
  exact Nat.le_of_ble_eq_true h
def en_nh (y : MethodName) : Prop := y.cls ≠ "java/lang/invoke/MethodHandle" ∧ y.cls ≠ "java/lang/invoke/VarHandle"
/-- an instance method that is called: the tables' words on it -/
def en_mv (μ : en_D) (n : Nat) : Prop := μ.2.2.2.2.2.1 = [] ∧ Cond.instanceMethod μ.1 ∈ en_tw ∧ Cond.selects μ.1.cls μ.1 μ.1 ∈ en_tw ∧ Cond.initialized μ.1.cls ∈ en_tw ∧ en_cw μ ∈ en_tw ∧ en_nh μ.1 ∧ (parseMethodDescriptor μ.1.desc).map (fun d => d.parameters.length) = some n ∧ Nat.ble μ.2.2.1 18 = true
def en_mt (μ : en_D) (n : Nat) : Prop := μ.2.2.2.2.2.1 = [] ∧ Cond.static μ.1 ∈ en_tw ∧ Cond.initialized μ.1.cls ∈ en_tw ∧ en_cw μ ∈ en_tw ∧ en_nh μ.1 ∧ (parseMethodDescriptor μ.1.desc).map (fun d => d.parameters.length) = some n ∧ Nat.ble μ.2.2.1 18 = true
def en_mi (μ : en_D) (n : Nat) : Prop := μ.2.2.2.2.2.1 = [] ∧ Cond.instanceMethod μ.1 ∈ en_tw ∧ Cond.initialized μ.1.cls ∈ en_tw ∧ en_cw μ ∈ en_tw ∧ en_nh μ.1 ∧ (parseMethodDescriptor μ.1.desc).map (fun d => d.parameters.length) = some n ∧ Nat.ble μ.2.2.1 18 = true ∧ μ.1.name = "<init>" ∧ μ.2.2.2.1 = none
theorem en_cw_0 {μ : en_D} (h : μ.2.2.2.2.2.1 = []) : en_cw μ = .code μ.1 μ.2.1 μ.2.2.1 μ.2.2.2.1 := by simp only [en_cw, h]
theorem en_gin {μ : en_D} (h : en_cw μ ∈ en_tw) : GoodIn en_tw (en_cw μ :: en_tw) := fun w hw => (List.mem_cons.mp hw).elim (fun e => by rw [e]; exact en_good _ h) (en_good w)
theorem en_room {d' maxL mc ms mc' ms' : Nat} (h : Nat.ble maxL 18 = true) : (en_rm d' mc' ms').frames + 1 ≤ (en_rm (d' + 1) mc ms).frames ∧ 8 + (maxL + 11) + (en_rm d' mc' ms').locals ≤ (en_rm (d' + 1) mc ms).locals := by
  have := Nat.le_of_ble_eq_true h
  simp only [en_rm]
  omega
theorem en_ls_mono {G : en_G} {cs cs1 : List en_A} {n : Nat} {la : Array Slot} {ls : List (Option en_V)} (hs : ∀ c ∈ cs, c ∈ cs1) (h : en_ls G cs n la ls) : en_ls G cs1 n la ls := ⟨h.1, h.2.1, fun i v hv => ⟨(h.2.2 i v hv).1, (h.2.2 i v hv).2.1, fun c hc => hs c ((h.2.2 i v hv).2.2 c hc)⟩⟩
theorem en_oks_mono {cs cs1 : List en_A} {st : List en_V} (hs : ∀ c ∈ cs, c ∈ cs1) (h : en_oks cs st) : en_oks cs1 st := fun v hv c hc => hs c (h v hv c hc)
section en_after
variable {p : Program} {l : Launch} {e : Env} {R : Room} {s : State} {m : MethodId} {args : Array Value} {below : List Frame} {meth : Method} {c : Code} {H : Heap} {locs : List Loc} {cells slots : Nat} {Q : State → Prop}
variable {G : en_G} {cs1 : List en_A} {ρ1 : en_R} {σ1 : en_M} {mc' ms' pc : Nat} {la : Array Slot} {st0 rest : List Value} {a : Array Value} {H0 : Heap} {vv : Option en_V}
theorem en_aft {n : Nat ⊕ Option en_V} (hr : vx_Run p l e R s m args below meth c H locs cells slots mc' ms' (F0 m pc la st0) rest (en_Q G n cs1 ρ1 σ1 a) (en_X G n cs1 ρ1 σ1) (en_up G)) (hS : va_S (en_up G) H0 H locs)
    (kk : ∀ (vv : Option en_V) (H1 : Heap) (locs1 : List Loc), n = .inr vv → va_S (en_up G) H0 H1 locs1 → en_wd G cs1 ρ1 σ1 H1 → (∀ x, vv = some x → en_okv cs1 x) → W p l e R s m args below meth c H1 locs1 (cells + mc') (slots + ms') Q (F0 m (pc + 3) la ((vv.map (en_tr G)).toList ++ rest)))
    (kx : ∀ (k : Nat) (ce : Cell) (q9 : Addr) (H1 : Heap) (locs1 : List Loc), n = .inl k → va_S (en_up G) H0 H1 locs1 → en_wd G cs1 ρ1 σ1 H1 → H1[q9]? = some ce → ce.vm = .none → s.vm.findClass (en_exc k) = some ce.cls → vx_W p l e R s m args below meth c H1 locs1 (cells + mc') (slots + ms') Q (F0 m pc la rest) q9) :
    W p l e R s m args below meth c H locs cells slots Q (F0 m pc la st0) := by
  intro T hT X
  rcases hr T hT X with ⟨v, st₀, t, T', L, h0, X', hL, e1, e2, ⟨⟨v', rfl, hoc, hok⟩, hwd, hF⟩, st⟩ | ⟨q, st₀, t, T', L, E, ce, h0, X', hL, e1, e2, ⟨⟨k, rfl, rfl⟩, hwd, hF⟩, hce, hcv, hcl, st⟩
  · obtain ⟨-, -, k3⟩ := vx_keep h0 e1 hS (fun _ _ h => h) (fun _ h => h) hL hF
    have hv : v = v'.map (en_tr G) := by simpa using hoc
    subst hv
    obtain ⟨t2, a1, b1⟩ := kk v' T'.heap (locs ++ L) rfl k3 (by rw [e1]; exact hwd) hok T' rfl X'
    exact ⟨t2, st t2 a1, b1⟩
  · obtain ⟨-, -, k3⟩ := vx_keep h0 e1 hS (fun _ _ h => h) (fun _ h => h) hL hF
    obtain ⟨t2, a1, b1⟩ := kx k ce q T'.heap (locs ++ L) rfl k3 (by rw [e1]; exact hwd) (by rw [e1]; exact hce) hcv hcl T' rfl X'
    exact ⟨t2, st.trans a1, b1⟩
theorem en_aft0 (hr : va_Run p l e R s m args below meth c H locs cells slots mc' ms' (F0 m pc la st0) rest (en_Q G (.inr vv) cs1 ρ1 σ1 a) (en_up G)) (hS : va_S (en_up G) H0 H locs)
    (kk : ∀ (H1 : Heap) (locs1 : List Loc), va_S (en_up G) H0 H1 locs1 → en_wd G cs1 ρ1 σ1 H1 → (∀ x, vv = some x → en_okv cs1 x) → W p l e R s m args below meth c H1 locs1 (cells + mc') (slots + ms') Q (F0 m (pc + 3) la ((vv.map (en_tr G)).toList ++ rest))) :
    W p l e R s m args below meth c H locs cells slots Q (F0 m pc la st0) := by
  intro T hT X
  obtain ⟨v, st₀, t, T', L, h0, X', hL, e1, e2, ⟨⟨v', hv', hoc, hok⟩, hwd, hF⟩, st⟩ := hr T hT X
  cases hv'
  obtain ⟨-, -, k3⟩ := vx_keep h0 e1 hS (fun _ _ h => h) (fun _ h => h) hL hF
  have hv : v = vv.map (en_tr G) := by simpa using hoc
  subst hv
  obtain ⟨t2, a1, b1⟩ := kk T'.heap (locs ++ L) k3 (by rw [e1]; exact hwd) hok T' rfl X'
  exact ⟨t2, st t2 a1, b1⟩
end en_after
/-- a contract without throws, as the kit's own -/
theorem en_Met0 {G : en_G} {d mc ms : Nat} {μ : en_D} {as : List en_V} {cs cs' : List en_A} {ρ ρ' : en_R} {σ σ' : en_M} {vv : Option en_V} (h : en_Mt G d mc ms μ as cs ρ σ (.inr vv) cs' ρ' σ') (hok : en_oks cs as) : Met G.1 μ.1 (en_cw μ :: en_tw) (en_rm d mc ms) (va_Pc (as.map (en_tr G)) (en_st G cs ρ σ)) (en_Q G (.inr vv) cs' ρ' σ') mc ms (en_up G) := by
  intro p e h1 h2 h3 s m args below h4 h5 h6 h7
  obtain ⟨n, o, g1, g2, g3, g4⟩ := h hok p e h1 h2 h3 s m args below h4 h5 h6 trivial
  refine ⟨n, o, g1, g2, g3, ?_⟩
  rcases g4 with g4 | ⟨q, -, E, ce, L, ⟨⟨k, hk, -⟩, -⟩, -⟩
  · exact g4
  · cases hk
section en_callrows
variable {G : en_G} {d' mc ms mc' ms' : Nat} {μ μ' : en_D} {r : en_P} {cs cs' cs1 : List en_A} {ρ ρ' ρ1 : en_R} {σ σ' σ1 : en_M} {bc bs bc' bs' pc len nx a b n idx : Nat} {v : Int32} {ls : List (Option en_V)} {st as rest : List en_V} {vv : Option en_V}
theorem en_pre {G : en_G} {s : State} {H : Heap} {locs : List Loc} {cs : List en_A} {ρ : en_R} {σ : en_M} {as : List en_V} (hz : G.2.2.2.2.2.2.2.2 = none) (hfx : en_fx G s s.heap) (hS : va_S (en_up G) s.heap H locs) (hw : en_wd G cs ρ σ H) : PreS s H (va_Pc (as.map (en_tr G)) (en_st G cs ρ σ)) (as.map (en_tr G)) :=
  ⟨en_blind, fun U hU hW => ⟨rfl, by rw [hU]; exact en_fx_warm hW hS hfx, by rw [hU]; exact hw, fun n hn => by rw [hz] at hn; cases hn⟩⟩
theorem en_recv {G : en_G} {s : State} {H : Heap} {cs : List en_A} {ρ : en_R} {σ : en_M} {c0 : en_A} {ci : Nat} {C0 : String} (hfx : en_fx G s s.heap) (hw : en_wd G cs ρ σ H) (hin : c0 ∈ cs) (hkd : en_kd c0.1 = (0, ci)) (hci : (en_cl[ci]?).map (fun q => q.1) = some C0) : ∃ cell : Cell, H[G.2.2.2.1 c0]? = some cell ∧ cell.vm.isStatics = false ∧ s.vm.findClass C0 = some cell.cls := by
  obtain ⟨q0, hq0⟩ := List.getElem?_of_mem hin
  have he := en_wl_at (G := G) (ρ := ρ) (σ := σ) hq0
  obtain ⟨j, g, i⟩ := c0
  rw [en_ent_o hkd] at he
  cases hq : en_cl[ci]? with
  | none => rw [hq] at hci; cases hci
  | some q =>
    rw [hq] at hci
    obtain ⟨cell, h1, h2, h3⟩ := va_recv hfx.1 hw.1 hq he
    exact ⟨cell, h1, h2, by rw [← Option.some.inj hci]; exact h3⟩
theorem en_lsz {G : en_G} {cs : List en_A} {n : Nat} {la : Array Slot} {ls : List (Option en_V)} (h : en_ls G cs n la ls) : la.size = n := h.2.1.1
theorem en_vcall {n' : Nat ⊕ Option en_V} {c0 : en_A} {ci : Nat} {p : Program} {e : Env} {s : State} {m : MethodId} {args : Array Value} {below : List Frame} {meth : Method} {c : Code} {H : Heap} {locs : List Loc} {cells slots : Nat} {la : Array Slot}
    (hz : G.2.2.2.2.2.2.2.2 = none) (hc : μ.2.2.2.2.2.2 pc = some (.invokevirtual idx, len, nx, a, b, v)) (hM : en_Mt G d' mc' ms' μ' (.inr (.inl (some c0)) :: as) cs ρ σ n' cs1 ρ1 σ1) (hlk : Cond.methodLink (en_own μ.2.2.2.2.1) idx μ'.1 ∈ en_tw) (hmv : en_mv μ' n) (hkd : en_kd c0.1 = (0, ci)) (hci : (en_cl[ci]?).map (fun q => q.1) = some μ'.1.cls) (hn : as.length = n)
    (hst : st = as.reverse ++ .inr (.inl (some c0)) :: rest) (hcat : Nat.ble (rest.map en_cat).sum 8 = true) (C : en_cx G μ p s m args meth c) (hS : va_S (en_up G) s.heap H locs) (hw : en_wd G cs ρ σ H) (hl : en_ls G cs μ.2.2.1 la ls) (hok : en_oks cs st) (hf1 : cells + mc' ≤ mc) (hf2 : slots + ms' ≤ ms) :
    vx_Run p G.1 e (en_rm (d' + 1) mc ms) s m args below meth c H locs cells slots mc' ms' (F0 m pc la (st.map (en_tr G))) (rest.map (en_tr G)) (en_Q G n' cs1 ρ1 σ1 (Value.ref (G.2.2.2.1 c0) :: as.map (en_tr G)).toArray) (en_X G n' cs1 ρ1 σ1) (en_up G) := by
  obtain ⟨h1, h2, h3⟩ := en_dec C hc
  simp only [en_gd, Bool.and_eq_true, beq_iff_eq, decide_eq_true_eq] at h3
  obtain ⟨-, rfl⟩ := h3
  subst hst
  obtain ⟨v1, v2, v3, v4, v5, v6, v7, v8⟩ := hmv
  have hin : c0 ∈ cs := hok (.inr (.inl (some c0))) (by simp) c0 rfl
  have hoka : en_oks cs (.inr (.inl (some c0)) :: as) := en_oks_c (en_ok_r hin) (fun w hw => hok w (by simp [hw]))
  refine vx_runV (bytes := μ'.2.1) (maxL := μ'.2.2.1) (ret := μ'.2.2.2.1) (As := as.map (en_tr G)) (C := μ'.1.cls) (n := n) (Ts := en_tw) (own := en_own μ.2.2.2.2.1) (cc := μ.2.1) (nL := μ.2.2.1) (b := G.2.2.2.1 c0) ⟨C.1, C.2.1, C.2.2.1, C.2.2.2.1, C.2.2.2.2.1⟩ (hM hoka) ?_ ?_ rfl (by simpa using hn) (en_lsz hl) ?_ (lv_room (en_cat_sum hcat)) h1 ⟨hf1, hf2⟩
  · rw [en_cw_0 v1] at v5 ⊢
    refine cwV (bytes := μ'.2.1) (maxL := μ'.2.2.1) (ret := μ'.2.2.2.1) n C.2.2.2.2.1 ?_ rfl rfl rfl ⟨rfl, v6.1, v6.2, v7⟩ (en_room v8)
    intro w hw
    simp only [wsV, List.mem_append, List.mem_cons, List.not_mem_nil, or_false] at hw
    rcases hw with (rfl | rfl | rfl | rfl) | rfl | hw
    · exact en_good _ hlk
    · exact en_good _ v2
    · exact en_good _ v3
    · exact en_good _ v4
    · exact en_good _ v5
    · exact en_good _ hw
  · have hp := en_pre (as := .inr (.inl (some c0)) :: as) hz C.2.2.2.2.2.2.2.2.2.1 hS hw
    exact ⟨hp.1, en_recv C.2.2.2.2.2.2.2.2.2.1 hw hin hkd hci, hp.2⟩
  · show List.map (en_tr G) (as.reverse ++ .inr (.inl (some c0)) :: rest) = _
    rw [List.map_append, List.map_reverse]
    rfl
theorem en_callV {c0 : en_A} {ci : Nat} (hz : G.2.2.2.2.2.2.2.2 = none) (hc : μ.2.2.2.2.2.2 pc = some (.invokevirtual idx, len, nx, a, b, v)) (hM : en_Mt G d' mc' ms' μ' (.inr (.inl (some c0)) :: as) cs ρ σ (.inr vv) cs1 ρ1 σ1) (hlk : Cond.methodLink (en_own μ.2.2.2.2.1) idx μ'.1 ∈ en_tw) (hmv : en_mv μ' n) (hkd : en_kd c0.1 = (0, ci)) (hci : (en_cl[ci]?).map (fun q => q.1) = some μ'.1.cls) (hn : as.length = n)
    (hst : st = as.reverse ++ .inr (.inl (some c0)) :: rest) (hcat : Nat.ble (rest.map en_cat).sum 8 = true) (hsub : ∀ c ∈ cs, c ∈ cs1) (hbc : mc' + bc' ≤ bc) (hbs : ms' + bs' ≤ bs)
    (k : en_W G (d' + 1) mc ms μ r cs' ρ' σ' bc' bs' nx ls (vv.toList ++ rest) cs1 ρ1 σ1) : en_W G (d' + 1) mc ms μ r cs' ρ' σ' bc bs pc ls st cs ρ σ := by
  intro p e s m args below meth c H locs cells slots la C hS hw hbc0 hbs0 hl hok
  have hrun := en_vcall (e := e) (below := below) hz hc hM hlk hmv hkd hci hn hst hcat C hS hw hl hok (cells := cells) (slots := slots) (mc := mc) (ms := ms) (by omega) (by omega)
  obtain ⟨h1, h2, h3⟩ := en_dec C hc
  simp only [en_gd, Bool.and_eq_true, beq_iff_eq, decide_eq_true_eq] at h3
  obtain ⟨-, rfl⟩ := h3
  subst h2
  refine en_aft hrun hS (fun vv' H1 locs1 e1 hS1 hw1 hok1 => ?_) (fun k ce q9 H1 locs1 e1 => by cases e1)
  cases e1
  have hk := k p e s m args below meth c H1 locs1 (cells + mc') (slots + ms') la C hS1 hw1 (by omega) (by omega) (en_ls_mono hsub hl) (by
    intro w hw
    rcases List.mem_append.mp hw with h | h
    · exact hok1 w (by simpa using h)
    · exact en_oks_mono hsub (fun w hw => hok w (by rw [hst]; simp [hw])) w h)
  rw [List.map_append] at hk
  have e9 : List.map (en_tr G) vv.toList = (vv.map (en_tr G)).toList := by cases vv <;> rfl
  rw [e9] at hk
  exact hk
/-- the callee throws, and nothing here takes it -/
theorem en_callVX {c0 : en_A} {ci k : Nat} (hz : G.2.2.2.2.2.2.2.2 = none) (hc : μ.2.2.2.2.2.2 pc = some (.invokevirtual idx, len, nx, a, b, v)) (hM : en_Mt G d' mc' ms' μ' (.inr (.inl (some c0)) :: as) cs ρ σ (.inl k) cs1 ρ1 σ1) (hlk : Cond.methodLink (en_own μ.2.2.2.2.1) idx μ'.1 ∈ en_tw) (hmv : en_mv μ' n) (hkd : en_kd c0.1 = (0, ci)) (hci : (en_cl[ci]?).map (fun q => q.1) = some μ'.1.cls) (hn : as.length = n)
    (hst : st = as.reverse ++ .inr (.inl (some c0)) :: rest) (hcat : Nat.ble (rest.map en_cat).sum 8 = true) (hbc : mc' ≤ bc) (hbs : ms' ≤ bs) (hh : μ.2.2.2.2.2.1 = []) : en_W G (d' + 1) mc ms μ (.inl k) cs1 ρ1 σ1 bc bs pc ls st cs ρ σ := by
  intro p e s m args below meth c H locs cells slots la C hS hw hbc0 hbs0 hl hok
  have hrun := en_vcall (e := e) (below := below) hz hc hM hlk hmv hkd hci hn hst hcat C hS hw hl hok (cells := cells) (slots := slots) (mc := mc) (ms := ms) (by omega) (by omega)
  refine en_aft hrun hS (fun vv' H1 locs1 e1 => by cases e1) (fun k' ce q9 H1 locs1 e1 hS1 hw1 hce hcv hcl => ?_)
  cases e1
  refine vx_out (fun x hx => ?_) C.2.2.2.2.2.2.1 hce hcv hcl (fun t ht hW => ⟨⟨_, rfl, rfl⟩, by rw [ht]; exact hw1, hS1.F ht⟩) hS1.2.2 (by omega) (by omega)
  rw [C.2.2.2.2.2.2.2.2.1, hh] at hx
  cases hx
theorem en_callS (hz : G.2.2.2.2.2.2.2.2 = none) (hc : μ.2.2.2.2.2.2 pc = some (.invokestatic idx, len, nx, a, b, v)) (hM : en_Mt G d' mc' ms' μ' as cs ρ σ (.inr vv) cs1 ρ1 σ1) (hlk : Cond.methodLink (en_own μ.2.2.2.2.1) idx μ'.1 ∈ en_tw) (hmv : en_mt μ' n) (hn : as.length = n)
    (hst : st = as.reverse ++ rest) (hcat : Nat.ble (rest.map en_cat).sum 8 = true) (hsub : ∀ c ∈ cs, c ∈ cs1) (hbc : mc' + bc' ≤ bc) (hbs : ms' + bs' ≤ bs)
    (k : en_W G (d' + 1) mc ms μ r cs' ρ' σ' bc' bs' nx ls (vv.toList ++ rest) cs1 ρ1 σ1) : en_W G (d' + 1) mc ms μ r cs' ρ' σ' bc bs pc ls st cs ρ σ := by
  intro p e s m args below meth c H locs cells slots la C hS hw hbc0 hbs0 hl hok
  obtain ⟨h1, h2, h3⟩ := en_dec C hc
  simp only [en_gd, Bool.and_eq_true, beq_iff_eq, decide_eq_true_eq] at h3
  obtain ⟨-, rfl⟩ := h3
  subst h2 hst
  obtain ⟨v1, v2, v4, v5, v6, v7, v8⟩ := hmv
  have hoka : en_oks cs as := fun w hw => hok w (by simp [hw])
  have hrun : vx_Run p G.1 e (en_rm (d' + 1) mc ms) s m args below meth c H locs cells slots mc' ms' (F0 m pc la ((as.reverse ++ rest).map (en_tr G))) (rest.map (en_tr G)) (en_Q G (.inr vv) cs1 ρ1 σ1 (as.map (en_tr G)).toArray) (en_X G (.inr vv) cs1 ρ1 σ1) (en_up G) := by
    refine vx_runS (bytes := μ'.2.1) (maxL := μ'.2.2.1) (ret := μ'.2.2.2.1) (As := as.map (en_tr G)) (n := n) (Ts := en_tw) (own := en_own μ.2.2.2.2.1) (cc := μ.2.1) (nL := μ.2.2.1) ⟨C.1, C.2.1, C.2.2.1, C.2.2.2.1, C.2.2.2.2.1⟩ (hM hoka) ?_ (en_pre hz C.2.2.2.2.2.2.2.2.2.1 hS hw) rfl (by simpa using hn) (en_lsz hl) ?_ (lv_room (en_cat_sum hcat)) h1 ⟨by simp only [en_rm]; omega, by simp only [en_rm]; omega⟩
    · have v5' := v5
      rw [en_cw_0 v1] at v5' ⊢
      exact ⟨callB_of n C.2.2.2.2.1 (by rw [← en_cw_0 v1]; exact en_gin v5) rfl rfl rfl (C.2.2.2.2.1 _ v4) (C.2.2.2.2.1 _ hlk) ⟨v6.1, v6.2, v7⟩ (en_room v8), C.2.2.2.2.1 _ v2⟩
    · show List.map (en_tr G) (as.reverse ++ rest) = _
      rw [List.map_append, List.map_reverse]
  refine en_aft hrun hS (fun vv' H1 locs1 e1 hS1 hw1 hok1 => ?_) (fun k ce q9 H1 locs1 e1 => by cases e1)
  cases e1
  have hk := k p e s m args below meth c H1 locs1 (cells + mc') (slots + ms') la C hS1 hw1 (by omega) (by omega) (en_ls_mono hsub hl) (by
    intro w hw
    rcases List.mem_append.mp hw with h | h
    · exact hok1 w (by simpa using h)
    · exact en_oks_mono hsub (fun w hw => hok w (by simp [hw])) w h)
  rw [List.map_append] at hk
  have e9 : List.map (en_tr G) vv.toList = (vv.map (en_tr G)).toList := by cases vv <;> rfl
  rw [e9] at hk
  exact hk
/-- a private static method of the nest's host -/
theorem en_callN {host : String} (hz : G.2.2.2.2.2.2.2.2 = none) (hc : μ.2.2.2.2.2.2 pc = some (.invokestatic idx, len, nx, a, b, v)) (hM : en_Mt G d' mc' ms' μ' as cs ρ σ (.inr vv) cs1 ρ1 σ1) (hlk : Cond.methodLinkNest (en_own μ.2.2.2.2.1) idx μ'.1 host ∈ en_nest) (hmv : en_mt μ' n) (hn : as.length = n)
    (hst : st = as.reverse ++ rest) (hcat : Nat.ble (rest.map en_cat).sum 8 = true) (hsub : ∀ c ∈ cs, c ∈ cs1) (hbc : mc' + bc' ≤ bc) (hbs : ms' + bs' ≤ bs)
    (k : en_W G (d' + 1) mc ms μ r cs' ρ' σ' bc' bs' nx ls (vv.toList ++ rest) cs1 ρ1 σ1) : en_W G (d' + 1) mc ms μ r cs' ρ' σ' bc bs pc ls st cs ρ σ := by
  intro p e s m args below meth c H locs cells slots la C hS hw hbc0 hbs0 hl hok
  obtain ⟨h1, h2, h3⟩ := en_dec C hc
  simp only [en_gd, Bool.and_eq_true, beq_iff_eq, decide_eq_true_eq] at h3
  obtain ⟨-, rfl⟩ := h3
  subst h2 hst
  obtain ⟨v1, v2, v4, v5, v6, v7, v8⟩ := hmv
  have hoka : en_oks cs as := fun w hw => hok w (by simp [hw])
  have hrun : va_Run p G.1 e (en_rm (d' + 1) mc ms) s m args below meth c H locs cells slots mc' ms' (F0 m pc la ((as.reverse ++ rest).map (en_tr G))) (rest.map (en_tr G)) (en_Q G (.inr vv) cs1 ρ1 σ1 (as.map (en_tr G)).toArray) (en_up G) := by
    refine va_runSN (bytes := μ'.2.1) (maxL := μ'.2.2.1) (ret := μ'.2.2.2.1) (As := as.map (en_tr G)) (n := n) (Ts := en_tw) (own := en_own μ.2.2.2.2.1) (cc := μ.2.1) (nL := μ.2.2.1) (host := host) ⟨C.1, C.2.1, C.2.2.1, C.2.2.2.1, C.2.2.2.2.1⟩ (en_Met0 hM hoka) ?_ (en_pre hz C.2.2.2.2.2.2.2.2.2.1 hS hw) rfl (by simpa using hn) (en_lsz hl) ?_ (lv_room (en_cat_sum hcat)) h1 ⟨by simp only [en_rm]; omega, by simp only [en_rm]; omega⟩
    · have v5' := v5
      rw [en_cw_0 v1] at v5' ⊢
      exact ⟨va_cnB n C.2.2.2.2.1 (by rw [← en_cw_0 v1]; exact en_gin v5) rfl rfl rfl (C.2.2.2.2.2.2.2.2.2.1.2.1 _ _ _ _ hlk) (C.2.2.2.2.1 _ v4) ⟨v6.1, v6.2, v7⟩ (en_room v8), C.2.2.2.2.1 _ v2, trivial⟩
    · show List.map (en_tr G) (as.reverse ++ rest) = _
      rw [List.map_append, List.map_reverse]
  refine en_aft0 hrun hS (fun H1 locs1 hS1 hw1 hok1 => ?_)
  have hk := k p e s m args below meth c H1 locs1 (cells + mc') (slots + ms') la C hS1 hw1 (by omega) (by omega) (en_ls_mono hsub hl) (by
    intro w hw
    rcases List.mem_append.mp hw with h | h
    · exact hok1 w (by simpa using h)
    · exact en_oks_mono hsub (fun w hw => hok w (by simp [hw])) w h)
  rw [List.map_append] at hk
  have e9 : List.map (en_tr G) vv.toList = (vv.map (en_tr G)).toList := by cases vv <;> rfl
  rw [e9] at hk
  exact hk
end en_callrows

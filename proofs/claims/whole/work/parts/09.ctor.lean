/-! The engine's rows: what constructors do: new cells, their references. -/
def en_wR (ρ : en_R) (j g i k : Nat) (v : Option en_A) : en_R := fun j' g' i' k' => if j' = j ∧ g' = g ∧ i' = i ∧ k' = k then v else ρ j' g' i' k'
theorem en_dflt : ∀ (ci : Nat) (q : vw_C), en_cl[ci]? = some q → ∀ k, k < q.2.2 → defaultValue (en_ty ci k) = (if en_fk ci k = 2 then Value.null else .int 0) := by
  intro ci q h
  match ci, h with
  | 0, h => cases h; decide +kernel
  | 1, h => cases h; decide +kernel
  | 2, h => cases h; decide +kernel
  | 3, h => cases h; decide +kernel
  | 4, h => cases h; decide +kernel
  | 5, h => cases h; decide +kernel
  | 6, h => cases h; decide +kernel
  | 7, h => cases h; decide +kernel
  | 8, h => cases h; decide +kernel
  | 9, h => cases h; decide +kernel
  | 10, h => cases h; decide +kernel
  | n + 11, h => simp at h
section en_ct
variable {G : en_G} {d mc ms : Nat} {μ : en_D} {r : en_P} {cs cs' : List en_A} {ρ ρ' ρ1 : en_R} {σ σ' σ1 : en_M} {bc bs pc len nx a b z : Nat} {v : Int32} {ls ls' : List (Option en_V)} {st : List en_V}
/-- the place of the next cell: every cell that this method made lies below it -/
def en_nxt (G : en_G) (mc bc z : Nat) (cs : List en_A) (c0 : en_A) : Prop := G.2.2.2.2.2.2.2.2 = some z ∧ G.2.2.2.1 c0 = z + (mc - (bc + 1)) ∧ (mc = bc + 1 ∨ ∃ c' ∈ cs, G.2.2.2.1 c' + 1 = z + (mc - (bc + 1)))
theorem en_top {p : Program} {e : Env} {R : Room} {s : State} {m : MethodId} {args : Array Value} {below : List Frame} {meth : Method} {c : Code} {T : State} {H : Heap} {locs : List Loc} {cells slots : Nat} {c0 : en_A} (hn : en_nxt G mc bc z cs c0) (C : en_cx G μ p s m args meth c) (hS : va_S (en_up G) s.heap H locs) (hw : en_wd G cs ρ σ H) (hbc : cells + (bc + 1) ≤ mc) (hT : T.heap = H) (X : Stand p G.1 e R s m args below meth c T locs cells slots) : H.size = G.2.2.2.1 c0 := by
  obtain ⟨h1, h2, h3⟩ := hn
  have hz := C.2.2.2.2.2.2.2.2.2.2.2 z h1
  have hi : H.size ≤ s.heap.size + cells := by
    rw [← hT]
    exact X.same.2.2.1
  rw [h2]
  rcases h3 with h3 | ⟨c', hm, he⟩
  · have := hS.1
    omega
  · obtain ⟨q0, hq0⟩ := List.getElem?_of_mem hm
    have hl : G.2.2.2.1 c' < H.size := (hw.1 q0 _ (en_wl_at hq0)).lt
    omega
theorem en_wl_app {c0 : en_A} : en_wl G (cs ++ [c0]) ρ σ = en_wl G cs ρ σ ++ [(G.2.2.2.1 c0, en_ent G ρ σ c0)] := by
  simp only [en_wl, List.map_append, List.map_cons, List.map_nil]
theorem en_grow {H H1 : Heap} {c0 : en_A} (hw : en_wd G cs ρ σ H) (hc0 : H.size = G.2.2.2.1 c0) (hup : en_up G (G.2.2.2.1 c0)) (ho : ∀ q, q < H.size → H1[q]? = H[q]?) (hr : ∀ k, ρ c0.1 c0.2.1 c0.2.2 k = none) (hat : va_at G.2.1 en_cl (G.2.2.2.1 c0, en_ent G ρ σ c0) H1) : en_wd G (cs ++ [c0]) ρ σ H1 := by
  refine ⟨?_, ?_, ?_⟩
  · rw [en_wl_app]
    refine (hw.1.kept (fun k x hx => ho x.1 (hw.1 k x hx).lt)).app (fun k x hx => ?_)
    have hz : k < 1 := (List.getElem?_eq_some_iff.mp hx).1
    rw [show k = 0 by omega] at hx
    cases hx
    exact hat
  · rw [en_wl_app]
    exact hw.2.1.push hw.1 hc0.symm hup
  · intro c hc k r0 hb0 h0
    rcases List.mem_append.mp hc with hc | hc
    · exact List.mem_append_left _ (hw.2.2 c hc k r0 hb0 h0)
    · rw [List.mem_singleton.mp hc, hr k] at h0
      cases h0
theorem en_dec_new {p : Program} {s : State} {m : MethodId} {args : Array Value} {meth : Method} {c : Code} {idx : Nat} (C : en_cx G μ p s m args meth c) (hc : μ.2.2.2.2.2.2 pc = some (.new idx, len, nx, a, b, v)) : decode μ.2.1 pc = .ok (.new idx, 3) ∧ nx = pc + 3 := by
  obtain ⟨h1, h2, h3⟩ := en_dec C hc
  simp only [en_gd, Bool.and_eq_true, beq_iff_eq, decide_eq_true_eq] at h3
  obtain ⟨-, rfl⟩ := h3
  exact ⟨h1, h2⟩
theorem en_new_at {ci j g i : Nat} {q : vw_C} {s : State} {args : Array Value} {kC : Class} {H1 : Heap} (hts : ∀ w ∈ en_tw, w.before args s = true) (hq : en_cl[ci]? = some q) (hk : en_kd j = (0, ci)) (h0 : ∀ k, σ j g i k = 0) (hr : ∀ k, ρ j g i k = none) (hKn : u_Kn s q.1 q.2.1 q.2.2 (G.2.1.1 ci) (G.2.1.2 ci)) (hkC : s.vm.classes[G.2.1.1 ci]? = some kC) (e1 : H1[G.2.2.2.1 (j, g, i)]? = some (blank (G.2.1.1 ci) kC)) : va_at G.2.1 en_cl (G.2.2.2.1 (j, g, i), en_ent G ρ σ (j, g, i)) H1 := by
  rw [en_ent_o hk]
  refine ⟨q, hq, (u_born (en_ty ci) hts (en_lay ci q hq) hKn hkC e1 (en_ty_ok ci q hq)).to (fun k' hk' => ?_)⟩
  rw [en_dflt ci q hq k' hk']
  simp only [vp_V, List.getD_eq_getElem?_getD, List.getElem?_map, en_nf_ok ci q hq, List.getElem?_range hk', Option.map_some, Option.getD_some, en_fv]
  split
  · rw [show ρ j g i k' = none from hr k']
    rfl
  · rw [show σ j g i k' = 0 from h0 k']
theorem en_k_new0 {idx N : Nat} {cC : ClassId} {C0 : String} {c0 : en_A} (hn : en_nxt G mc bc z cs c0) (hup : en_up G z) (hc : μ.2.2.2.2.2.2 pc = some (.new idx, len, nx, a, b, v)) (hr : ∀ k, ρ c0.1 c0.2.1 c0.2.2 k = none)
    (hx : ∀ (p : Program) (s : State) (m : MethodId) (args : Array Value) (meth : Method) (c : Code), en_cx G μ p s m args meth c → (Cond.classLink (en_own μ.2.2.2.2.1) idx C0).before args s = true ∧ (Cond.instantiable C0 N).before args s = true ∧ (Cond.initialized C0).before args s = true ∧ s.vm.findClass C0 = some cC ∧ ∀ (H1 : Heap) (kC : Class), s.vm.classes[cC]? = some kC → H1[G.2.2.2.1 c0]? = some (blank cC kC) → va_at G.2.1 en_cl (G.2.2.2.1 c0, en_ent G ρ σ c0) H1)
    (k : en_W G d mc ms μ r cs' ρ' σ' bc bs nx ls (.inr (.inl (some c0)) :: st) (cs ++ [c0]) ρ σ) : en_W G d mc ms μ r cs' ρ' σ' (bc + 1) (bs + N) pc ls st cs ρ σ := by
  intro p e s m args below meth c H locs cells slots la C hS hw hbc hbs hl hst
  obtain ⟨h1, h2⟩ := en_dec_new C hc
  obtain ⟨w1, w2, w3, w4, hat⟩ := hx p s m args meth c C
  have hup0 : en_up G (G.2.2.2.1 c0) := by
    have h9 : G.2.2.2.2.2.1 ≤ z := hup
    show G.2.2.2.2.2.1 ≤ _
    rw [hn.2.1]
    exact Nat.le_trans h9 (Nat.le_add_right _ _)
  have hsub : ∀ c ∈ cs, c ∈ cs ++ [c0] := fun c hc => List.mem_append_left _ hc
  have k1 : cells + 1 ≤ mc := by omega
  have k2 : slots + N ≤ ms := by omega
  have k3 : cells + 1 + bc ≤ mc := by omega
  have k4 : slots + N + bs ≤ ms := by omega
  have key : H.size = G.2.2.2.1 c0 → W p G.1 e (en_rm d mc ms) s m args below meth c H locs cells slots (vx_MQ below (en_Q G r cs' ρ' σ') (en_X G r cs' ρ' σ') args s mc ms (en_up G)) (F0 m pc la (st.map (en_tr G))) := by
    intro hc0
    refine W.newcK C.1 C.2.1 C.2.2.2.1 w1 w2 w3 rfl h1 k1 k2 w4 hc0 (fun H1 kC hkC e1 z1 o1 => ?_)
    rw [← hc0] at z1 o1
    have hwd : en_wd G (cs ++ [c0]) ρ σ H1 := en_grow hw hc0 hup0 o1 hr (hat H1 kC hkC e1)
    rw [h2] at k
    have hs1 : s.heap.size ≤ H1.size := Nat.le_trans hS.1 (by rw [z1]; exact Nat.le_succ _)
    exact k p e s m args below meth c H1 locs (cells + 1) (slots + N) la C ⟨hs1, fun x h1 h2 => (o1 x (Nat.lt_of_lt_of_le h1 hS.1)).trans (hS.2.1 x h1 h2), hS.2.2⟩ hwd k3 k4 (en_ls_mono hsub hl) (en_oks_c (en_ok_r (List.mem_append_right _ (List.mem_singleton.mpr rfl))) (en_oks_mono hsub hst))
  intro T hT X
  exact key (en_top hn C hS hw hbc hT X) T hT X
theorem en_k_new {idx ci : Nat} {c0 : en_A} {q : vw_C} (hn : en_nxt G mc bc z cs c0) (hup : en_up G z) (hc : μ.2.2.2.2.2.2 pc = some (.new idx, len, nx, a, b, v)) (hcl : Cond.classLink (en_own μ.2.2.2.2.1) idx q.1 ∈ en_tw) (hin : Cond.instantiable q.1 q.2.2 ∈ en_tw) (hini : Cond.initialized q.1 ∈ en_tw) (hq : en_cl[ci]? = some q) (hk : en_kd c0.1 = (0, ci)) (h0 : ∀ k, σ c0.1 c0.2.1 c0.2.2 k = 0) (hr : ∀ k, ρ c0.1 c0.2.1 c0.2.2 k = none)
    (k : en_W G d mc ms μ r cs' ρ' σ' bc bs nx ls (.inr (.inl (some c0)) :: st) (cs ++ [c0]) ρ σ) : en_W G d mc ms μ r cs' ρ' σ' (bc + 1) (bs + q.2.2) pc ls st cs ρ σ :=
  en_k_new0 (cC := G.2.1.1 ci) (C0 := q.1) hn hup hc hr (fun p s m args meth c C =>
    have hKn := C.2.2.2.2.2.2.2.2.2.1.1.1 ci _ hq
    ⟨C.2.2.2.2.1 _ hcl, C.2.2.2.2.1 _ hin, C.2.2.2.2.1 _ hini, hKn.2.1, fun H1 kC hkC e1 => en_new_at (j := c0.1) (g := c0.2.1) (i := c0.2.2) C.2.2.2.2.1 hq hk h0 hr hKn hkC e1⟩) k
theorem en_k_obj {idx : Nat} {c0 : en_A} (hc : μ.2.2.2.2.2.2 pc = some (.invokespecial idx, len, nx, a, b, v)) (hlk : Cond.methodLink (en_own μ.2.2.2.2.1) idx objectInit ∈ en_tw) (hi : Cond.instanceMethod objectInit ∈ en_tw) (hcd : Cond.code objectInit ⟨#[0xb1]⟩ 1 none ∈ en_tw) (hcat : Nat.ble (st.map en_cat).sum 8 = true) (k : en_W G (d + 1) mc ms μ r cs' ρ' σ' bc bs nx ls st cs ρ σ) : en_W G (d + 1) mc ms μ r cs' ρ' σ' bc bs pc ls (.inr (.inl (some c0)) :: st) cs ρ σ := by
  intro p e s m args below meth c H locs cells slots la C hS hw hbc hbs hl hst
  obtain ⟨h1, h2, h3⟩ := en_dec C hc
  simp only [en_gd, Bool.and_eq_true, beq_iff_eq, decide_eq_true_eq] at h3
  obtain ⟨-, rfl⟩ := h3
  subst h2
  have hcs := en_cat_sum (G := G) hcat
  refine W.objInit C.1 C.2.1 C.2.2.2.1 (C.2.2.2.2.1 _ hlk) (C.2.2.2.2.1 _ hi) (C.2.2.2.2.1 _ hcd) rfl (by rw [C.2.2.1]; exact en_lsz hl) rfl h1 (by simp only [en_rm]; omega) ?_ (k p e s m args below meth c H locs cells slots la C hS hw hbc hbs hl (en_oks_t hst))
  show 2 * 0 + _ + 12 ≤ 37 * (d + 1)
  have h9 : ((st.map (en_tr G)).map fun v => v.category).sum ≤ 8 := hcs
  omega
end en_ct

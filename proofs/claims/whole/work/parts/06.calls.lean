/-! The engine: returns, the contract of a method, calls. -/
section en_rets
variable {G : en_G} {d mc ms : Nat} {μ : en_D} {cs : List en_A} {ρ : en_R} {σ : en_M} {bc bs pc len nx a b : Nat} {v : Int32} {ls : List (Option en_V)} {st : List en_V}
theorem en_s_iret {x : Int32} (hc : μ.2.2.2.2.2.2 pc = some (.ireturn, len, nx, a, b, v)) (hr : μ.2.2.2.1 = some .int) : en_W G d mc ms μ (.inr (some (.inl x))) cs ρ σ bc bs pc ls [.inl x] cs ρ σ := by
  intro p e s m args below meth c H locs cells slots la C hS hw hbc hbs hl hst
  obtain ⟨h1, h2, h3⟩ := en_dec C hc
  simp only [en_gd, Bool.and_eq_true, beq_iff_eq, decide_eq_true_eq] at h3
  obtain ⟨-, rfl⟩ := h3
  refine W.widen (k := mc) (n := ms) (by omega) (by omega) (vx_ret ?_)
  exact W.iret (v := x) C.1 C.2.1 (by rw [C.2.2.2.2.2.1, hr]) (fun t ht hW => ⟨⟨_, rfl, rfl, fun y hy => by cases hy; exact en_ok_i⟩, by rw [ht]; exact hw, hS.F ht⟩) hS.2.2 h1 C.2.2.2.2.2.2.1
theorem en_s_zret {x : Int32} (hc : μ.2.2.2.2.2.2 pc = some (.ireturn, len, nx, a, b, v)) (hr : μ.2.2.2.1 = some .boolean) (hx : x = 0 ∨ x = 1) : en_W G d mc ms μ (.inr (some (.inl x))) cs ρ σ bc bs pc ls [.inl x] cs ρ σ := by
  intro p e s m args below meth c H locs cells slots la C hS hw hbc hbs hl hst
  obtain ⟨h1, h2, h3⟩ := en_dec C hc
  simp only [en_gd, Bool.and_eq_true, beq_iff_eq, decide_eq_true_eq] at h3
  obtain ⟨-, rfl⟩ := h3
  refine W.widen (k := mc) (n := ms) (by omega) (by omega) (vx_ret ?_)
  exact W.zret (v := x) C.1 C.2.1 (by rw [C.2.2.2.2.2.1, hr]) (by rcases hx with rfl | rfl <;> rfl) (fun t ht hW => ⟨⟨_, rfl, rfl, fun y hy => by cases hy; exact en_ok_i⟩, by rw [ht]; exact hw, hS.F ht⟩) hS.2.2 h1 C.2.2.2.2.2.2.1
theorem en_s_vret (hc : μ.2.2.2.2.2.2 pc = some (.return_, len, nx, a, b, v)) (hr : μ.2.2.2.1 = none) : en_W G d mc ms μ (.inr none) cs ρ σ bc bs pc ls [] cs ρ σ := by
  intro p e s m args below meth c H locs cells slots la C hS hw hbc hbs hl hst
  obtain ⟨h1, h2, h3⟩ := en_dec C hc
  simp only [en_gd, Bool.and_eq_true, beq_iff_eq, decide_eq_true_eq] at h3
  obtain ⟨-, rfl⟩ := h3
  refine W.widen (k := mc) (n := ms) (by omega) (by omega) (vx_ret ?_)
  exact W.vret C.1 C.2.1 (by rw [C.2.2.2.2.2.1, hr]) (fun t ht hW => ⟨⟨_, rfl, rfl, fun y hy => by cases hy⟩, by rw [ht]; exact hw, hS.F ht⟩) hS.2.2 h1 C.2.2.2.2.2.2.1
theorem en_s_aret {w : Option en_A} {C0 : String} (hc : μ.2.2.2.2.2.2 pc = some (.areturn, len, nx, a, b, v)) (hr : μ.2.2.2.1 = some (.object C0)) : en_W G d mc ms μ (.inr (some (.inr (.inl w)))) cs ρ σ bc bs pc ls [.inr (.inl w)] cs ρ σ := by
  intro p e s m args below meth c H locs cells slots la C hS hw hbc hbs hl hst
  obtain ⟨h1, h2, h3⟩ := en_dec C hc
  simp only [en_gd, Bool.and_eq_true, beq_iff_eq, decide_eq_true_eq] at h3
  obtain ⟨-, rfl⟩ := h3
  refine W.widen (k := mc) (n := ms) (by omega) (by omega) (vx_ret ?_)
  refine W.aret (v := en_tr G (.inr (.inl w))) (rt := .object C0) C.1 C.2.1 (by rw [C.2.2.2.2.2.1, hr]) (Or.inl ⟨_, rfl⟩) ?_ (fun t ht hW => ⟨⟨_, rfl, rfl, fun y hy => by cases hy; exact en_oks_h hst⟩, by rw [ht]; exact hw, hS.F ht⟩) hS.2.2 h1 C.2.2.2.2.2.2.1
  cases w with
  | none => exact Or.inl rfl
  | some w => exact Or.inr ⟨_, rfl⟩
end en_rets
/-- a method's first word: with a table or without -/
def en_cw (μ : en_D) : Cond := match μ.2.2.2.2.2.1 with
  | [] => .code μ.1 μ.2.1 μ.2.2.1 μ.2.2.2.1
  | hh => .codeWith μ.1 μ.2.1 μ.2.2.1 μ.2.2.2.1 hh
def en_st (G : en_G) (cs : List en_A) (ρ : en_R) (σ : en_M) (U : State) : Prop := en_fx G U U.heap ∧ en_wd G cs ρ σ U.heap ∧ ∀ n, G.2.2.2.2.2.2.2.2 = some n → U.heap.size = n
/-- the contract: called with as, at cs ρ σ, it ends as r, cs', ρ', σ' tell -/
def en_Mt (G : en_G) (d mc ms : Nat) (μ : en_D) (as : List en_V) (cs : List en_A) (ρ : en_R) (σ : en_M) (r : en_P) (cs' : List en_A) (ρ' : en_R) (σ' : en_M) : Prop :=
  en_oks cs as → vx_Met G.1 μ.1 (en_cw μ :: en_tw) (en_rm d mc ms) (va_Pc (as.map (en_tr G)) (en_st G cs ρ σ)) (en_Q G r cs' ρ' σ') (en_X G r cs' ρ' σ') mc ms (en_up G)
/-- what a method's row must show once: its class's name, its instructions -/
def en_md (μ : en_D) : Prop := plainName μ.1.cls = true ∧ μ.1.cls = en_own μ.2.2.2.2.1 ∧ μ.2.2.2.2.2.1 = [] ∧ en_ok μ
theorem en_sl1 {G : en_G} : ∀ {as : List en_V}, as.all en_c1 = true → lg_sl (as.map (en_tr G)) = as.map (fun v => Slot.val (en_tr G v))
  | [], _ => rfl
  | v :: as, h => by
    simp only [List.all_cons, Bool.and_eq_true] at h
    have h1 := en_c1_cat (G := G) h.1
    have h2 := en_sl1 (G := G) h.2
    simp only [lg_sl, List.map_cons, List.flatMap_cons, h1] at h2 ⊢
    rw [h2]
    rfl
theorem en_ls_entry {G : en_G} {cs : List en_A} {as : List en_V} {n : Nat} (h1 : as.all en_c1 = true) (hn : as.length ≤ n) (hok : en_oks cs as) : en_ls G cs n (lg_sl (as.map (en_tr G)) ++ List.replicate (n - (lg_sl (as.map (en_tr G))).length) Slot.unset).toArray (as.map some ++ List.replicate (n - as.length) none) := by
  have hs := en_sl1 (G := G) h1
  have hlen : (lg_sl (as.map (en_tr G))).length = as.length := by rw [hs, List.length_map]
  have he := lv_entry (as.map (en_tr G)) (n := n) (by rw [hlen]; exact hn)
  refine ⟨by simp; omega, ⟨he.1, he.2.1, fun q hq => nomatch hq⟩, fun i v hv => ?_⟩
  have hi : i < as.length := by
    by_cases hi : i < as.length
    · exact hi
    · rw [List.getElem?_append_right (by simpa using Nat.not_lt.mp hi)] at hv
      have := List.mem_of_getElem? hv
      have := List.eq_of_mem_replicate this
      cases this
  rw [List.getElem?_append_left (by simpa using hi), List.getElem?_map] at hv
  cases hw : as[i]? with
  | none => rw [hw] at hv; cases hv
  | some w =>
    rw [hw] at hv
    cases hv
    refine ⟨?_, en_c1_cat (List.all_eq_true.mp h1 _ (List.mem_of_getElem? hw)), hok _ (List.mem_of_getElem? hw)⟩
    rw [List.getElem?_toArray, hs, List.getElem?_append_left (by simpa using hi), List.getElem?_map, hw]
    rfl
theorem en_meth {G : en_G} {d mc ms : Nat} {μ : en_D} {as : List en_V} {cs cs' : List en_A} {ρ ρ' : en_R} {σ σ' : en_M} {r : en_P} {ls : List (Option en_V)} (hmd : en_md μ) (h1 : as.all en_c1 = true) (hn : Nat.ble as.length μ.2.2.1 = true) (hls : as.map some ++ List.replicate (μ.2.2.1 - as.length) none = ls)
    (k : en_W G d mc ms μ r cs' ρ' σ' mc ms 0 ls [] cs ρ σ) : en_Mt G d mc ms μ as cs ρ σ r cs' ρ' σ' := by
  intro hok
  obtain ⟨hp, hcl, hh, hmok⟩ := hmd
  have hcw : en_cw μ = .code μ.1 μ.2.1 μ.2.2.1 μ.2.2.2.1 := by simp only [en_cw, hh]
  rw [hcw]
  refine vx_ofW (cc := μ.2.1) (maxL := μ.2.2.1) (ret := μ.2.2.2.1) hp rfl ?_
  intro p e s m args below meth c s₁ B hml htab hv
  obtain ⟨rfl, hfx, hwd, hz⟩ := hv
  have hts := atoms_spec (ws := Cond.code μ.1 μ.2.1 μ.2.2.1 μ.2.2.2.1 :: en_tw) B.pre
  have C : en_cx G μ p s m (as.map (en_tr G)).toArray meth c := by
    refine ⟨B.exec, B.bytes, hml, ?_, fun w hw => hts w (List.mem_cons_of_mem _ hw), B.returns, B.notSynchronized, (name_of_methodNamed B.named B.method).1, ?_, hfx, hmok, hz⟩
    · rw [← hcl]
      exact findClass_of_methodNamed B.named
    · rw [hh]
      cases hc : c.exceptionTable.toList with
      | nil => rfl
      | cons x xs => exact absurd (htab x (by rw [hc]; exact List.mem_cons_self)) id
  have hl := en_ls_entry (G := G) (n := μ.2.2.1) h1 (Nat.le_of_ble_eq_true hn) hok
  rw [lg_entry_eq]
  subst hls
  exact k p e s m _ below meth c s.heap [] 0 0 _ C va_S.rf hwd (by omega) (by omega) hl en_oks_nil
theorem en_blind {G : en_G} {av : List Value} {cs : List en_A} {ρ : en_R} {σ : en_M} : FrameBlind (va_Pc av (en_st G cs ρ σ)) := by
  intro a U g mk h
  obtain ⟨h1, h2, h3⟩ := h
  exact ⟨h1, en_fx_same rfl h2, h3⟩

/-! The engine: an ordinary method called by a constructor. -/
section en_ct3
variable {G : en_G} {d' mc ms mc' ms' : Nat} {μ μ' : en_D} {r : en_P} {cs cs' : List en_A} {ρ ρ' : en_R} {σ σ' σ1 : en_M} {bc bs pc len nx a b n idx : Nat} {v : Int32} {ls : List (Option en_V)} {st as rest : List en_V}
theorem en_dec_iv {p : Program} {s : State} {m : MethodId} {args : Array Value} {meth : Method} {c : Code} (C : en_cx G μ p s m args meth c) (hc : μ.2.2.2.2.2.2 pc = some (.invokevirtual idx, len, nx, a, b, v)) : decode μ.2.1 pc = .ok (.invokevirtual idx, 3) ∧ nx = pc + 3 := by
  obtain ⟨h1, h2, h3⟩ := en_dec C hc
  simp only [en_gd, Bool.and_eq_true, beq_iff_eq, decide_eq_true_eq] at h3
  obtain ⟨-, h4⟩ := h3
  rw [h4] at h1 h2
  exact ⟨h1, h2⟩
theorem en_k_callV {c0 : en_A} {ci : Nat} (hc : μ.2.2.2.2.2.2 pc = some (.invokevirtual idx, len, nx, a, b, v)) (hM : en_Mt (en_gz G none) d' 0 0 μ' (.inr (.inl (some c0)) :: as) cs ρ σ (.inr none) cs ρ σ1) (hlk : Cond.methodLink (en_own μ.2.2.2.2.1) idx μ'.1 ∈ en_tw ) (hmv : en_mv μ' n) (hkd : en_kd c0.1 = (0, ci)) (hci : (en_cl[ci]?).map (fun q => q.1) = some μ'.1.cls) (hn : as.length = n)
    (hst : st = as.reverse ++ .inr (.inl (some c0)) :: rest) (hcat : Nat.ble (rest.map en_cat).sum 8 = true)
    (k : en_W G (d' + 1) mc ms μ r cs' ρ' σ' bc bs nx ls rest cs ρ σ1) : en_W G (d' + 1) mc ms μ r cs' ρ' σ' bc bs pc ls st cs ρ σ := by
  intro p e s m args below meth c H locs cells slots la C hS hw hbc0 hbs0 hl hok
  obtain ⟨h1, h2⟩ := en_dec_iv C hc
  rw [h2] at k
  rw [hst] at hok ⊢
  obtain ⟨v1, v2, v3, v4, v5, v6, v7, v8⟩ := hmv
  have hin : c0 ∈ cs := hok (.inr (.inl (some c0))) (by simp) c0 rfl
  have hoka : en_oks cs (.inr (.inl (some c0)) :: as) := en_oks_c (en_ok_r hin) (fun w hw => hok w (by simp [hw]))
  have hrec := en_recv C.2.2.2.2.2.2.2.2.2.1 hw hin hkd hci
  have hpre : PreS s H (va_Pc ((.inr (.inl (some c0)) :: as).map (en_tr G)) (en_st (en_gz G none) cs ρ σ)) ((.inr (.inl (some c0)) :: as).map (en_tr G)) :=
    ⟨fun a U g mk h => ⟨h.1, en_fx_same rfl h.2.1, h.2.2⟩, fun U hU hW => ⟨rfl, by rw [hU]; exact en_fx_warm hW hS C.2.2.2.2.2.2.2.2.2.1, by rw [hU]; exact hw, fun n hn => by cases hn⟩⟩
  have hM0 := hM hoka
  have hg5 : GoodIn en_tw (wsV (en_own μ.2.2.2.2.1) idx μ'.1.cls μ'.1 (en_cw μ' :: en_tw)) := by
    intro w hw
    simp only [wsV, List.mem_append, List.mem_cons, List.not_mem_nil, or_false] at hw
    rcases hw with (rfl | rfl | rfl | rfl) | rfl | hw
    · exact en_good _ hlk
    · exact en_good _ v2
    · exact en_good _ v3
    · exact en_good _ v4
    · exact en_good _ v5
    · exact en_good _ hw
  rw [en_cw_0 v1] at hM0 hg5
  have k1 : cells + 0 ≤ mc := by omega
  have k2 : slots + 0 ≤ ms := by omega
  have hrun : vx_Run p G.1 e (en_rm (d' + 1) mc ms) s m args below meth c H locs cells slots 0 0 (F0 m pc la ((as.reverse ++ .inr (.inl (some c0)) :: rest).map (en_tr G))) (rest.map (en_tr G)) (en_Q G (.inr none) cs ρ σ1 (Value.ref (G.2.2.2.1 c0) :: as.map (en_tr G)).toArray) (en_X G (.inr none) cs ρ σ1) (en_up G) := by
    refine vx_runV (bytes := μ'.2.1) (maxL := μ'.2.2.1) (ret := μ'.2.2.2.1) (As := as.map (en_tr G)) (C := μ'.1.cls) (n := n) (Ts := en_tw) (own := en_own μ.2.2.2.2.1) (cc := μ.2.1) (nL := μ.2.2.1) (b := G.2.2.2.1 c0) ⟨C.1, C.2.1, C.2.2.1, C.2.2.2.1, C.2.2.2.2.1⟩ hM0 (cwV (bytes := μ'.2.1) (maxL := μ'.2.2.1) (ret := μ'.2.2.2.1) n C.2.2.2.2.1 hg5 rfl rfl rfl ⟨rfl, v6.1, v6.2, v7⟩ (en_room v8)) ⟨hpre.1, hrec, hpre.2⟩ rfl (by simpa using hn) (en_lsz hl) ?_ (lv_room (en_cat_sum hcat)) h1 ⟨k1, k2⟩
    show List.map (en_tr G) (as.reverse ++ .inr (.inl (some c0)) :: rest) = _
    rw [List.map_append, List.map_reverse]
    rfl
  refine en_aft hrun hS (fun vv' H1 locs1 e1 hS1 hw1 hok1 => ?_) (fun k ce q9 H1 locs1 e1 => by cases e1)
  cases e1
  exact k p e s m args below meth c H1 locs1 (cells + 0) (slots + 0) la C hS1 hw1 hbc0 hbs0 hl (fun w hw => hok w (by simp [hw]))
end en_ct3
section en_ct4
variable {G : en_G} {d mc ms : Nat} {μ : en_D} {r : en_P} {cs cs' cs1 : List en_A} {ρ ρ' ρ1 : en_R} {σ σ' σ1 : en_M} {bc bs pc len nx a b z : Nat} {v : Int32} {ls ls' : List (Option en_V)} {st : List en_V}
theorem en_q_new {idx ci : Nat} {c0 : en_A} {q : vw_C} (hcs : cs ++ [c0] = cs1) (hn : en_nxt G mc bc z cs c0) (hup : en_up G z) (hc : μ.2.2.2.2.2.2 pc = some (.new idx, len, nx, a, b, v)) (hcl : Cond.classLink (en_own μ.2.2.2.2.1) idx q.1 ∈ en_tw) (hin : Cond.instantiable q.1 q.2.2 ∈ en_tw) (hini : Cond.initialized q.1 ∈ en_tw) (hq : en_cl[ci]? = some q) (hk : en_kd c0.1 = (0, ci)) (h0 : ∀ k, σ c0.1 c0.2.1 c0.2.2 k = 0) (hr : ∀ k, ρ c0.1 c0.2.1 c0.2.2 k = none)
    (k : en_W G d mc ms μ r cs' ρ' σ' bc bs nx ls (.inr (.inl (some c0)) :: st) cs1 ρ σ) : en_W G d mc ms μ r cs' ρ' σ' (bc + 1) (bs + q.2.2) pc ls st cs ρ σ := by
  rw [← hcs] at k
  exact en_k_new hn hup hc hcl hin hini hq hk h0 hr k
theorem en_q_newI {n : Nat} {x : Int32} {j g i : Nat} (hcs : cs ++ [(j, g, i)] = cs1) (hn : en_nxt G mc bc z cs (j, g, i)) (hup : en_up G z) (hc : μ.2.2.2.2.2.2 pc = some (.newarray .int, len, nx, a, b, v)) (ha : Cond.arrayClass .int ∈ en_tw) (hk : en_kd j = (1, n)) (hx : x.toNatClampNeg = n) (hx0 : decide (x < 0) = false) (hby : Nat.ble (n * 4) 536870912 = true) (h0 : ∀ k, σ j g i k = 0) (hr : ∀ k, ρ j g i k = none)
    (k : en_W G d mc ms μ r cs' ρ' σ' bc bs nx ls (.inr (.inl (some (j, g, i))) :: st) cs1 ρ σ) : en_W G d mc ms μ r cs' ρ' σ' (bc + 1) (bs + n) pc ls (.inl x :: st) cs ρ σ := by
  rw [← hcs] at k
  exact en_k_newI hn hup hc ha hk hx hx0 hby h0 hr k
theorem en_q_newB {n : Nat} {x : Int32} {j g i : Nat} (hcs : cs ++ [(j, g, i)] = cs1) (hn : en_nxt G mc bc z cs (j, g, i)) (hup : en_up G z) (hc : μ.2.2.2.2.2.2 pc = some (.newarray .byte, len, nx, a, b, v)) (ha : Cond.arrayClass .byte ∈ en_tw) (hk : en_kd j = (2, n)) (hx : x.toNatClampNeg = n) (hx0 : decide (x < 0) = false) (hby : Nat.ble (n * 1) 536870912 = true) (h0 : ∀ k, σ j g i k = 0) (hr : ∀ k, ρ j g i k = none)
    (k : en_W G d mc ms μ r cs' ρ' σ' bc bs nx ls (.inr (.inl (some (j, g, i))) :: st) cs1 ρ σ) : en_W G d mc ms μ r cs' ρ' σ' (bc + 1) (bs + n) pc ls (.inl x :: st) cs ρ σ := by
  rw [← hcs] at k
  exact en_k_newB hn hup hc ha hk hx hx0 hby h0 hr k
theorem en_q_anew {idx n t : Nat} {C0 : String} {x : Int32} {j g i : Nat} (hcs : cs ++ [(j, g, i)] = cs1) (hn : en_nxt G mc bc z cs (j, g, i)) (hup : en_up G z) (hc : μ.2.2.2.2.2.2 pc = some (.anewarray idx, len, nx, a, b, v)) (hcl : Cond.classLink (en_own μ.2.2.2.2.1) idx C0 ∈ en_tw) (hov : ∀ (U : State) (H0 : Heap), en_fx G U H0 → va_AO C0 U) (hk : en_kd j = (t + 4, n)) (ht : ∀ G : en_G, (en_tys G)[t + 3]? = some (G.2.2.1 (t + 4), .object C0)) (hx : x.toNatClampNeg = n) (hx0 : decide (x < 0) = false) (hby : Nat.ble (n * 4) 536870912 = true) (hr : ∀ k, ρ j g i k = none)
    (k : en_W G d mc ms μ r cs' ρ' σ' bc bs nx ls (.inr (.inl (some (j, g, i))) :: st) cs1 ρ σ) : en_W G d mc ms μ r cs' ρ' σ' (bc + 1) (bs + n) pc ls (.inl x :: st) cs ρ σ := by
  rw [← hcs] at k
  exact en_k_anew hn hup hc hcl hov hk ht hx hx0 hby hr k
/-- what a store of references says of the cells of one card that aren't made yet, and of those that are -/
theorem en_wR_eq {j g i k : Nat} {w : Option en_A} (h : en_wR ρ j g i k w = ρ1) : ρ1 j g i k = w := by
  rw [← h]
  simp [en_wR]
theorem en_wR_ne {j g i k j' g' i' k' : Nat} {w : Option en_A} (h : en_wR ρ j g i k w = ρ1) (hn : ¬ (j' = j ∧ g' = g ∧ i' = i ∧ k' = k)) : ρ1 j' g' i' k' = ρ j' g' i' k' := by
  rw [← h]
  simp only [en_wR, if_neg hn]
theorem en_mem1 {c0 : en_A} (h : cs ++ [c0] = cs1) : c0 ∈ cs1 := by rw [← h]; simp
theorem en_mem0 {c0 : en_A} (h : cs ++ [c0] = cs1) : ∀ c ∈ cs, c ∈ cs1 := by
  intro c hc
  rw [← h]
  exact List.mem_append_left _ hc
end en_ct4

/-! By program: the law's cases. -/
def lw_ix (G : en_G) (i : Int32) (ii : Nat) : Prop := (en_inb i G.2.2.2.2.2.2.1 = true ∧ i.toNatClampNeg = ii) ∧ (en_inb (i + 1) G.2.2.2.2.2.2.1 = true ∧ (i + 1).toNatClampNeg = ii + 1) ∧ (en_inb (i + 2) G.2.2.2.2.2.2.1 = true ∧ (i + 2).toNatClampNeg = ii + 2) ∧ (en_inb (i + 3) G.2.2.2.2.2.2.1 = true ∧ (i + 3).toNatClampNeg = ii + 3) ∧ (en_inb (i + 4) G.2.2.2.2.2.2.1 = true ∧ (i + 4).toNatClampNeg = ii + 4) ∧ (en_inb (i + 5) G.2.2.2.2.2.2.1 = true ∧ (i + 5).toNatClampNeg = ii + 5)
abbrev lw_ls (i : Int32) (e5 e6 : Option en_V) : List (Option en_V) := [some (.inr (.inr (.inr 0))), some (.inr (.inl (some (14, 0, 0)))), some (.inr (.inl (some (24, 0, 0)))), some (.inr (.inl (some (36, 0, 0)))), some (.inl i), e5, e6]
def lw_ok (G : en_G) (cs : List en_A) (i : Int32) (σ : en_M) (t pc : Nat) : Prop := ∃ τ1, Rel τ1 τ1 t ∧ ∀ (mc ms : Nat) (r : en_P) (cs' : List en_A) (ρ' : en_R) (σ' : en_M) (bc bs : Nat), en_W G 14 mc ms M_lw_law r cs' ρ' σ' bc bs 2160 (lw_ls i none none) [] cs en_rf τ1 → en_W G 14 mc ms M_lw_law r cs' ρ' σ' (bc + 2) (bs + 12) pc (lw_ls i none none) [] cs en_rf σ
theorem lw_less {G : en_G} {d mc ms : Nat} {μ : en_D} {r : en_P} {cs cs' : List en_A} {ρ ρ' : en_R} {σ σ' : en_M} {bc bs pc : Nat} {st : List en_V} {i : Int32} {e5 e6 : Option en_V} (k : en_W G d mc ms μ r cs' ρ' σ' bc bs pc (lw_ls i none none) st cs ρ σ) : en_W G d mc ms μ r cs' ρ' σ' bc bs pc (lw_ls i e5 e6) st cs ρ σ := by
  refine en_less (ls' := lw_ls i none none) rfl (fun j w hj => ?_) k
  match j, hj with
  | 0, hj => exact hj
  | 1, hj => exact hj
  | 2, hj => exact hj
  | 3, hj => exact hj
  | 4, hj => exact hj
  | 5, hj => simp at hj
  | 6, hj => simp at hj
  | n + 7, hj => simp at hj
theorem lw_rd {σ : en_M} {w : Int32} (h : σ 36 0 0 0 = w) : en_rd 1 (σ 36 0 0) 0 = some w := by
  have e : en_inb 0 1 = true := by decide
  simp only [en_rd, e, if_true]
  rw [← h]
  rfl
theorem lc_feed {G : en_G} (hz : G.2.2.2.2.2.2.2.2 = none) {cs : List en_A} {i : Int32} {ii t : Nat} {σ : en_M} (hx : lw_ix G i ii) (h : Rel σ σ t) (ht : t + 14 ≤ 7168) : lw_ok G cs i σ (t + 14) 208 := by
  obtain ⟨x, σ1, τ1, h1, h2, h4⟩ := lw_one (C := fun σ => k_cc_feed (G.2.2.2.2.2.2.2.1 (ii + 1)) (G.2.2.2.2.2.2.2.1 (ii + 2)) (G.2.2.2.2.2.2.2.1 (ii + 3)) (G.2.2.2.2.2.2.2.1 (ii + 4)) (G.2.2.2.2.2.2.2.1 (ii + 5)) σ) (M := fun σ => k_mm_feed (G.2.2.2.2.2.2.2.1 (ii + 1)) (G.2.2.2.2.2.2.2.1 (ii + 2)) (G.2.2.2.2.2.2.2.1 (ii + 3)) (G.2.2.2.2.2.2.2.1 (ii + 4)) (G.2.2.2.2.2.2.2.1 (ii + 5)) σ) (t := t) (t' := t) (fun σ τ h => by obtain ⟨x, σ1, τ1, q1, q2, -, q4⟩ := pb_feed h (G.2.2.2.2.2.2.2.1 (ii + 1)) (G.2.2.2.2.2.2.2.1 (ii + 2)) (G.2.2.2.2.2.2.2.1 (ii + 3)) (G.2.2.2.2.2.2.2.1 (ii + 4)) (G.2.2.2.2.2.2.2.1 (ii + 5)); exact ⟨x, σ1, τ1, q1, q2, q4⟩) (fun σ r h => fr_hi (f_cc_feed h) rfl) (fun σ r h => fr_lo (f_mm_feed h) rfl) h
  refine ⟨τ1, Rel_t h4 (by omega) ht, fun mc ms r cs' ρ' σ' bc bs k => ?_⟩
  refine en_s_aload_n rfl rfl ?_
  refine en_s_aload_nX rfl rfl ?_
  refine en_s_iload rfl rfl ?_
  refine en_s_iconst rfl ?_
  refine en_s_iadd rfl ?_
  refine en_s_sld rfl hx.2.1.1 hx.2.1.2 ?_
  refine en_s_aload_nX rfl rfl ?_
  refine en_s_iload rfl rfl ?_
  refine en_s_iconst rfl ?_
  refine en_s_iadd rfl ?_
  refine en_s_sld rfl hx.2.2.1.1 hx.2.2.1.2 ?_
  refine en_s_aload_nX rfl rfl ?_
  refine en_s_iload rfl rfl ?_
  refine en_s_iconst rfl ?_
  refine en_s_iadd rfl ?_
  refine en_s_sld rfl hx.2.2.2.1.1 hx.2.2.2.1.2 ?_
  refine en_s_aload_nX rfl rfl ?_
  refine en_s_iload rfl rfl ?_
  refine en_s_iconst rfl ?_
  refine en_s_iadd rfl ?_
  refine en_s_sld rfl hx.2.2.2.2.1.1 hx.2.2.2.2.1.2 ?_
  refine en_s_aload_nX rfl rfl ?_
  refine en_s_iload rfl rfl ?_
  refine en_s_iconst rfl ?_
  refine en_s_iadd rfl ?_
  refine en_s_sld rfl hx.2.2.2.2.2.1 hx.2.2.2.2.2.2 ?_
  refine en_callV (as := [.inl (G.2.2.2.2.2.2.2.1 (ii + 1)), .inl (G.2.2.2.2.2.2.2.1 (ii + 2)), .inl (G.2.2.2.2.2.2.2.1 (ii + 3)), .inl (G.2.2.2.2.2.2.2.1 (ii + 4)), .inl (G.2.2.2.2.2.2.2.1 (ii + 5))]) (rest := []) (vv := some (.inl x)) (bc' := bc) (bs' := bs) hz rfl (s_cc_feed G hz 12 h1) lk_11_97 mv_cc_feed rfl rfl rfl rfl rfl (fun _ h => h) (by omega) (by omega) ?_
  refine en_s_aload_n rfl rfl ?_
  refine en_s_aload_nX rfl rfl ?_
  refine en_s_iload rfl rfl ?_
  refine en_s_iconst rfl ?_
  refine en_s_iadd rfl ?_
  refine en_s_sld rfl hx.2.1.1 hx.2.1.2 ?_
  refine en_s_aload_nX rfl rfl ?_
  refine en_s_iload rfl rfl ?_
  refine en_s_iconst rfl ?_
  refine en_s_iadd rfl ?_
  refine en_s_sld rfl hx.2.2.1.1 hx.2.2.1.2 ?_
  refine en_s_aload_nX rfl rfl ?_
  refine en_s_iload rfl rfl ?_
  refine en_s_iconst rfl ?_
  refine en_s_iadd rfl ?_
  refine en_s_sld rfl hx.2.2.2.1.1 hx.2.2.2.1.2 ?_
  refine en_s_aload_nX rfl rfl ?_
  refine en_s_iload rfl rfl ?_
  refine en_s_iconst rfl ?_
  refine en_s_iadd rfl ?_
  refine en_s_sld rfl hx.2.2.2.2.1.1 hx.2.2.2.2.1.2 ?_
  refine en_s_aload_nX rfl rfl ?_
  refine en_s_iload rfl rfl ?_
  refine en_s_iconst rfl ?_
  refine en_s_iadd rfl ?_
  refine en_s_sld rfl hx.2.2.2.2.2.1 hx.2.2.2.2.2.2 ?_
  refine en_callV (as := [.inl (G.2.2.2.2.2.2.2.1 (ii + 1)), .inl (G.2.2.2.2.2.2.2.1 (ii + 2)), .inl (G.2.2.2.2.2.2.2.1 (ii + 3)), .inl (G.2.2.2.2.2.2.2.1 (ii + 4)), .inl (G.2.2.2.2.2.2.2.1 (ii + 5))]) (rest := [.inl x]) (vv := some (.inl x)) (bc' := bc) (bs' := bs) hz rfl (s_mm_feed G hz 13 h2) lk_11_101 mv_mm_feed rfl rfl rfl rfl rfl (fun _ h => h) (by omega) (by omega) ?_
  refine en_s_icmp_eq rfl (fun _ => ?_) (fun q => absurd rfl q)
  exact k
theorem lc_end {G : en_G} (hz : G.2.2.2.2.2.2.2.2 = none) {cs : List en_A} {i : Int32} {ii t : Nat} {σ : en_M} (hx : lw_ix G i ii) (h : Rel σ σ t) (ht : t + 14 ≤ 7168) : lw_ok G cs i σ (t + 14) 281 := by
  obtain ⟨x, σ1, τ1, h1, h2, h4⟩ := lw_one (C := fun σ => k_cc_end (G.2.2.2.2.2.2.2.1 (ii + 1)) σ) (M := fun σ => k_mm_end (G.2.2.2.2.2.2.2.1 (ii + 1)) σ) (t := t) (t' := t) (fun σ τ h => by obtain ⟨x, σ1, τ1, q1, q2, -, q4⟩ := pb_end h (G.2.2.2.2.2.2.2.1 (ii + 1)); exact ⟨x, σ1, τ1, q1, q2, q4⟩) (fun σ r h => fr_hi (f_cc_end h) rfl) (fun σ r h => fr_lo (f_mm_end h) rfl) h
  refine ⟨τ1, Rel_t h4 (by omega) ht, fun mc ms r cs' ρ' σ' bc bs k => ?_⟩
  refine en_s_aload_n rfl rfl ?_
  refine en_s_aload_nX rfl rfl ?_
  refine en_s_iload rfl rfl ?_
  refine en_s_iconst rfl ?_
  refine en_s_iadd rfl ?_
  refine en_s_sld rfl hx.2.1.1 hx.2.1.2 ?_
  refine en_callV (as := [.inl (G.2.2.2.2.2.2.2.1 (ii + 1))]) (rest := []) (vv := some (.inl x)) (bc' := bc) (bs' := bs) hz rfl (s_cc_end G hz 13 h1) lk_11_102 mv_cc_end rfl rfl rfl rfl rfl (fun _ h => h) (by omega) (by omega) ?_
  refine en_s_aload_n rfl rfl ?_
  refine en_s_aload_nX rfl rfl ?_
  refine en_s_iload rfl rfl ?_
  refine en_s_iconst rfl ?_
  refine en_s_iadd rfl ?_
  refine en_s_sld rfl hx.2.1.1 hx.2.1.2 ?_
  refine en_callV (as := [.inl (G.2.2.2.2.2.2.2.1 (ii + 1))]) (rest := [.inl x]) (vv := some (.inl x)) (bc' := bc) (bs' := bs) hz rfl (s_mm_end G hz 12 h2) lk_11_106 mv_mm_end rfl rfl rfl rfl rfl (fun _ h => h) (by omega) (by omega) ?_
  refine en_s_icmp_eq rfl (fun _ => ?_) (fun q => absurd rfl q)
  exact k
theorem lc_acts {G : en_G} (hz : G.2.2.2.2.2.2.2.2 = none) {cs : List en_A} {i : Int32} {ii t : Nat} {σ : en_M} (hx : lw_ix G i ii) (h : Rel σ σ t) (ht : t + 14 ≤ 7168) : lw_ok G cs i σ (t + 14) 306 := by
  obtain ⟨a, x, σ1, τ1, h1, h2, h3, h4, h5⟩ := lw_two (C := fun σ => k_cc_acts  σ) (M := fun σ => k_mm_acts  σ) (E := [(0, 1)]) (t := t) (t' := t + 14) lw_id (by decide) (fun σ τ h => pb_acts h (by omega) ) (fun σ r h => fr_hi (f_cc_acts h) rfl) (fun σ r h => fr_lo (f_mm_acts h) rfl) h
  obtain ⟨th, hth⟩ : ∃ z, τ1 24 0 0 0 = z := ⟨_, rfl⟩
  rw [hth] at h3 h5
  refine ⟨τ1, Rel_t h4 (by omega) ht, fun mc ms r cs' ρ' σ' bc bs k => ?_⟩
  refine en_s_aload_n rfl rfl ?_
  refine en_s_aload_n rfl rfl ?_
  refine en_callSH (as := [.inr (.inl (some (14, 0, 0))), .inr (.inl (some (36, 0, 0)))]) (rest := []) (vv := some (.inl th)) (bc' := bc) (bs' := bs) hz rfl (h_lw_acts G hz 3 (x := x) h1 h3) lk_11_107 mh_lw_acts rfl rfl rfl (fun _ h => h) (by omega) (by omega) ?_
  refine en_s_istore (ls' := lw_ls i (some (.inl th)) none) rfl rfl rfl ?_
  refine en_s_aload_n rfl rfl ?_
  refine en_callV (as := []) (rest := []) (vv := some (.inl x)) (bc' := bc) (bs' := bs) hz rfl (s_mm_acts G hz 4 h2) lk_11_112 mv_mm_acts rfl rfl rfl rfl rfl (fun _ h => h) (by omega) (by omega) ?_
  refine en_s_istore (ls' := lw_ls i (some (.inl th)) (some (.inl x))) rfl rfl rfl ?_
  refine en_s_aload_n rfl rfl ?_
  refine en_callV (as := []) (rest := []) (vv := some (.inl th)) (bc' := bc) (bs' := bs) hz rfl (s_mm_thrown G hz 13 hth) lk_11_113 mv_mm_thrown rfl rfl rfl rfl rfl (fun _ h => h) (by omega) (by omega) ?_
  refine en_s_iload rfl rfl ?_
  refine en_s_icmp_eq rfl (fun _ => ?_) (fun q => absurd rfl q)
  refine en_s_iload rfl rfl ?_
  refine en_s_if_ne rfl (fun _ => ?_) (fun h0 => ?_)
  · exact en_s_goto rfl (lw_less k)
  · refine en_s_aload_n rfl rfl ?_
    refine en_s_iconst rfl ?_
    refine en_s_lald rfl rfl (lw_rd (h5 h0)) ?_
    refine en_s_iload rfl rfl ?_
    refine en_s_i2l rfl ?_
    refine en_s_lcmp rfl en_lcmp_eq ?_
    refine en_s_if_eq rfl (fun _ => ?_) (fun q => absurd rfl q)
    exact en_s_goto rfl (lw_less k)
theorem lc_fault {G : en_G} (hz : G.2.2.2.2.2.2.2.2 = none) {cs : List en_A} {i : Int32} {ii t : Nat} {σ : en_M} (hx : lw_ix G i ii) (h : Rel σ σ t) (ht : t + 14 ≤ 7168) : lw_ok G cs i σ (t + 14) 350 := by
  obtain ⟨x, τ1, h1, h2, h4⟩ := lw_oneQ (C := fun σ x => k_cc_fault σ = x) (M := fun σ => k_mm_fault σ) (t := t) (t' := t) (fun σ τ h => by obtain ⟨τ1, q2, -, q4⟩ := pb_fault h; exact ⟨_, τ1, rfl, q2, q4⟩) (fun σ r h => fr_lo (f_mm_fault h) rfl) h
  refine ⟨τ1, Rel_t h4 (by omega) ht, fun mc ms r cs' ρ' σ' bc bs k => ?_⟩
  refine en_s_aload_n rfl rfl ?_
  refine en_callV (as := []) (rest := []) (vv := some (.inl x)) (bc' := bc) (bs' := bs) hz rfl (s_cc_fault G hz 13 h1) lk_11_116 mv_cc_fault rfl rfl rfl rfl rfl (fun _ h => h) (by omega) (by omega) ?_
  refine en_s_aload_n rfl rfl ?_
  refine en_callV (as := []) (rest := [.inl x]) (vv := some (.inl x)) (bc' := bc) (bs' := bs) hz rfl (s_mm_fault G hz 13 h2) lk_11_119 mv_mm_fault rfl rfl rfl rfl rfl (fun _ h => h) (by omega) (by omega) ?_
  refine en_s_icmp_eq rfl (fun _ => ?_) (fun q => absurd rfl q)
  exact k
theorem lc_why {G : en_G} (hz : G.2.2.2.2.2.2.2.2 = none) {cs : List en_A} {i : Int32} {ii t : Nat} {σ : en_M} (hx : lw_ix G i ii) (h : Rel σ σ t) (ht : t + 14 ≤ 7168) : lw_ok G cs i σ (t + 14) 363 := by
  obtain ⟨x, τ1, h1, h2, h4⟩ := lw_oneQ (C := fun σ x => k_cc_why σ = x) (M := fun σ => k_mm_why σ) (t := t) (t' := t) (fun σ τ h => by obtain ⟨τ1, q2, -, q4⟩ := pb_why h; exact ⟨_, τ1, rfl, q2, q4⟩) (fun σ r h => fr_lo (f_mm_why h) rfl) h
  refine ⟨τ1, Rel_t h4 (by omega) ht, fun mc ms r cs' ρ' σ' bc bs k => ?_⟩
  refine en_s_aload_n rfl rfl ?_
  refine en_callV (as := []) (rest := []) (vv := some (.inl x)) (bc' := bc) (bs' := bs) hz rfl (s_cc_why G hz 13 h1) lk_11_120 mv_cc_why rfl rfl rfl rfl rfl (fun _ h => h) (by omega) (by omega) ?_
  refine en_s_aload_n rfl rfl ?_
  refine en_callV (as := []) (rest := [.inl x]) (vv := some (.inl x)) (bc' := bc) (bs' := bs) hz rfl (s_mm_why G hz 13 h2) lk_11_123 mv_mm_why rfl rfl rfl rfl rfl (fun _ h => h) (by omega) (by omega) ?_
  refine en_s_icmp_eq rfl (fun _ => ?_) (fun q => absurd rfl q)
  exact k
theorem lc_send {G : en_G} (hz : G.2.2.2.2.2.2.2.2 = none) {cs : List en_A} {i : Int32} {ii t : Nat} {σ : en_M} (hx : lw_ix G i ii) (h : Rel σ σ t) (ht : t + 14 ≤ 7168) : lw_ok G cs i σ (t + 14) 376 := by
  obtain ⟨a, x, σ1, τ1, h1, h2, h3, h4, h5⟩ := lw_two (C := fun σ => k_cc_send (G.2.2.2.2.2.2.2.1 (ii + 1)) (G.2.2.2.2.2.2.2.1 (ii + 2)) (G.2.2.2.2.2.2.2.1 (ii + 3)) (G.2.2.2.2.2.2.2.1 (ii + 4)) σ) (M := fun σ => k_mm_send (G.2.2.2.2.2.2.2.1 (ii + 1)) (G.2.2.2.2.2.2.2.1 (ii + 2)) (G.2.2.2.2.2.2.2.1 (ii + 3)) (G.2.2.2.2.2.2.2.1 (ii + 4)) σ) (E := [(0, 1), (1, 2)]) (t := t) (t' := t + 1) lw_id (by decide) (fun σ τ h => pb_send h (by omega) (G.2.2.2.2.2.2.2.1 (ii + 1)) (G.2.2.2.2.2.2.2.1 (ii + 2)) (G.2.2.2.2.2.2.2.1 (ii + 3)) (G.2.2.2.2.2.2.2.1 (ii + 4))) (fun σ r h => fj_hi (f_cc_send h) rfl) (fun σ r h => fr_lo (f_mm_send h) rfl) h
  obtain ⟨th, hth⟩ : ∃ z, τ1 24 0 0 0 = z := ⟨_, rfl⟩
  rw [hth] at h3 h5
  refine ⟨τ1, Rel_t h4 (by omega) ht, fun mc ms r cs' ρ' σ' bc bs k => ?_⟩
  refine en_s_aload_n rfl rfl ?_
  refine en_s_aload_nX rfl rfl ?_
  refine en_s_iload rfl rfl ?_
  refine en_s_iconst rfl ?_
  refine en_s_iadd rfl ?_
  refine en_s_sld rfl hx.2.1.1 hx.2.1.2 ?_
  refine en_s_aload_nX rfl rfl ?_
  refine en_s_iload rfl rfl ?_
  refine en_s_iconst rfl ?_
  refine en_s_iadd rfl ?_
  refine en_s_sld rfl hx.2.2.1.1 hx.2.2.1.2 ?_
  refine en_s_aload_nX rfl rfl ?_
  refine en_s_iload rfl rfl ?_
  refine en_s_iconst rfl ?_
  refine en_s_iadd rfl ?_
  refine en_s_sld rfl hx.2.2.2.1.1 hx.2.2.2.1.2 ?_
  refine en_s_aload_nX rfl rfl ?_
  refine en_s_iload rfl rfl ?_
  refine en_s_iconst rfl ?_
  refine en_s_iadd rfl ?_
  refine en_s_sld rfl hx.2.2.2.2.1.1 hx.2.2.2.2.1.2 ?_
  refine en_s_aload_n rfl rfl ?_
  refine en_callSH (as := [.inr (.inl (some (14, 0, 0))), .inl (G.2.2.2.2.2.2.2.1 (ii + 1)), .inl (G.2.2.2.2.2.2.2.1 (ii + 2)), .inl (G.2.2.2.2.2.2.2.1 (ii + 3)), .inl (G.2.2.2.2.2.2.2.1 (ii + 4)), .inr (.inl (some (36, 0, 0)))]) (rest := []) (vv := some (.inl th)) (bc' := bc) (bs' := bs) hz rfl (h_lw_send G hz 5 (x := x) h1 h3) lk_11_124 mh_lw_send rfl rfl rfl (fun _ h => h) (by omega) (by omega) ?_
  refine en_s_istore (ls' := lw_ls i (some (.inl th)) none) rfl rfl rfl ?_
  refine en_s_aload_n rfl rfl ?_
  refine en_s_aload_nX rfl rfl ?_
  refine en_s_iload rfl rfl ?_
  refine en_s_iconst rfl ?_
  refine en_s_iadd rfl ?_
  refine en_s_sld rfl hx.2.1.1 hx.2.1.2 ?_
  refine en_s_aload_nX rfl rfl ?_
  refine en_s_iload rfl rfl ?_
  refine en_s_iconst rfl ?_
  refine en_s_iadd rfl ?_
  refine en_s_sld rfl hx.2.2.1.1 hx.2.2.1.2 ?_
  refine en_s_aload_nX rfl rfl ?_
  refine en_s_iload rfl rfl ?_
  refine en_s_iconst rfl ?_
  refine en_s_iadd rfl ?_
  refine en_s_sld rfl hx.2.2.2.1.1 hx.2.2.2.1.2 ?_
  refine en_s_aload_nX rfl rfl ?_
  refine en_s_iload rfl rfl ?_
  refine en_s_iconst rfl ?_
  refine en_s_iadd rfl ?_
  refine en_s_sld rfl hx.2.2.2.2.1.1 hx.2.2.2.2.1.2 ?_
  refine en_callV (as := [.inl (G.2.2.2.2.2.2.2.1 (ii + 1)), .inl (G.2.2.2.2.2.2.2.1 (ii + 2)), .inl (G.2.2.2.2.2.2.2.1 (ii + 3)), .inl (G.2.2.2.2.2.2.2.1 (ii + 4))]) (rest := []) (vv := some (.inl x)) (bc' := bc) (bs' := bs) hz rfl (s_mm_send G hz 9 h2) lk_11_127 mv_mm_send rfl rfl rfl rfl rfl (fun _ h => h) (by omega) (by omega) ?_
  refine en_s_istore (ls' := lw_ls i (some (.inl th)) (some (.inl x))) rfl rfl rfl ?_
  refine en_s_aload_n rfl rfl ?_
  refine en_callV (as := []) (rest := []) (vv := some (.inl th)) (bc' := bc) (bs' := bs) hz rfl (s_mm_thrown G hz 13 hth) lk_11_113 mv_mm_thrown rfl rfl rfl rfl rfl (fun _ h => h) (by omega) (by omega) ?_
  refine en_s_iload rfl rfl ?_
  refine en_s_icmp_eq rfl (fun _ => ?_) (fun q => absurd rfl q)
  refine en_s_iload rfl rfl ?_
  refine en_s_if_ne rfl (fun _ => ?_) (fun h0 => ?_)
  · exact en_s_goto rfl (lw_less k)
  · refine en_s_aload_n rfl rfl ?_
    refine en_s_iconst rfl ?_
    refine en_s_lald rfl rfl (lw_rd (h5 h0)) ?_
    refine en_s_iload rfl rfl ?_
    refine en_s_i2l rfl ?_
    refine en_s_lcmp rfl en_lcmp_eq ?_
    refine en_s_if_eq rfl (fun _ => ?_) (fun q => absurd rfl q)
    exact en_s_goto rfl (lw_less k)
theorem lc_bell {G : en_G} (hz : G.2.2.2.2.2.2.2.2 = none) {cs : List en_A} {i : Int32} {ii t : Nat} {σ : en_M} (hx : lw_ix G i ii) (h : Rel σ σ t) (ht : t + 14 ≤ 7168) : lw_ok G cs i σ (t + 14) 468 := by
  obtain ⟨x, σ1, τ1, h1, h2, h4⟩ := lw_bell (by omega) h
  refine ⟨τ1, Rel_t h4 (by omega) ht, fun mc ms r cs' ρ' σ' bc bs k => ?_⟩
  refine en_s_aload_n rfl rfl ?_
  refine en_callV (as := []) (rest := []) (vv := some (.inl x)) (bc' := bc) (bs' := bs) hz rfl (s_cc_bell G hz 6 h1) lk_11_128 mv_cc_bell rfl rfl rfl rfl rfl (fun _ h => h) (by omega) (by omega) ?_
  refine en_s_aload_n rfl rfl ?_
  refine en_callV (as := []) (rest := [.inl x]) (vv := some (.inl x)) (bc' := bc) (bs' := bs) hz rfl (s_mm_bell G hz 10 h2) lk_11_131 mv_mm_bell rfl rfl rfl rfl rfl (fun _ h => h) (by omega) (by omega) ?_
  refine en_s_icmp_eq rfl (fun _ => ?_) (fun q => absurd rfl q)
  exact k
theorem lc_drop {G : en_G} (hz : G.2.2.2.2.2.2.2.2 = none) {cs : List en_A} {i : Int32} {ii t : Nat} {σ : en_M} (hx : lw_ix G i ii) (h : Rel σ σ t) (ht : t + 14 ≤ 7168) : lw_ok G cs i σ (t + 14) 481 := by
  obtain ⟨a, x, σ1, τ1, h1, h2, h3, h4, h5⟩ := lw_two (C := fun σ => k_cc_drop (G.2.2.2.2.2.2.2.1 (ii + 1)) σ) (M := fun σ => k_mm_drop (G.2.2.2.2.2.2.2.1 (ii + 1)) σ) (E := [(1, 1)]) (t := t) (t' := t) lw_id (by decide) (fun σ τ h => pb_drop h (G.2.2.2.2.2.2.2.1 (ii + 1))) (fun σ r h => fj_hi (f_cc_drop h) rfl) (fun σ r h => fr_lo (f_mm_drop h) rfl) h
  obtain ⟨th, hth⟩ : ∃ z, τ1 24 0 0 0 = z := ⟨_, rfl⟩
  rw [hth] at h3 h5
  refine ⟨τ1, Rel_t h4 (by omega) ht, fun mc ms r cs' ρ' σ' bc bs k => ?_⟩
  refine en_s_aload_n rfl rfl ?_
  refine en_s_aload_nX rfl rfl ?_
  refine en_s_iload rfl rfl ?_
  refine en_s_iconst rfl ?_
  refine en_s_iadd rfl ?_
  refine en_s_sld rfl hx.2.1.1 hx.2.1.2 ?_
  refine en_s_aload_n rfl rfl ?_
  refine en_callSH (as := [.inr (.inl (some (14, 0, 0))), .inl (G.2.2.2.2.2.2.2.1 (ii + 1)), .inr (.inl (some (36, 0, 0)))]) (rest := []) (vv := some (.inl th)) (bc' := bc) (bs' := bs) hz rfl (h_lw_drop G hz 5 (x := x) h1 h3) lk_11_132 mh_lw_drop rfl rfl rfl (fun _ h => h) (by omega) (by omega) ?_
  refine en_s_istore (ls' := lw_ls i (some (.inl th)) none) rfl rfl rfl ?_
  refine en_s_aload_n rfl rfl ?_
  refine en_s_aload_nX rfl rfl ?_
  refine en_s_iload rfl rfl ?_
  refine en_s_iconst rfl ?_
  refine en_s_iadd rfl ?_
  refine en_s_sld rfl hx.2.1.1 hx.2.1.2 ?_
  refine en_callV (as := [.inl (G.2.2.2.2.2.2.2.1 (ii + 1))]) (rest := []) (vv := some (.inl x)) (bc' := bc) (bs' := bs) hz rfl (s_mm_drop G hz 7 h2) lk_11_135 mv_mm_drop rfl rfl rfl rfl rfl (fun _ h => h) (by omega) (by omega) ?_
  refine en_s_istore (ls' := lw_ls i (some (.inl th)) (some (.inl x))) rfl rfl rfl ?_
  refine en_s_aload_n rfl rfl ?_
  refine en_callV (as := []) (rest := []) (vv := some (.inl th)) (bc' := bc) (bs' := bs) hz rfl (s_mm_thrown G hz 13 hth) lk_11_113 mv_mm_thrown rfl rfl rfl rfl rfl (fun _ h => h) (by omega) (by omega) ?_
  refine en_s_iload rfl rfl ?_
  refine en_s_icmp_eq rfl (fun _ => ?_) (fun q => absurd rfl q)
  refine en_s_iload rfl rfl ?_
  refine en_s_if_ne rfl (fun _ => ?_) (fun h0 => ?_)
  · exact en_s_goto rfl (lw_less k)
  · refine en_s_aload_n rfl rfl ?_
    refine en_s_iconst rfl ?_
    refine en_s_lald rfl rfl (lw_rd (h5 h0)) ?_
    refine en_s_iload rfl rfl ?_
    refine en_s_i2l rfl ?_
    refine en_s_lcmp rfl en_lcmp_eq ?_
    refine en_s_if_eq rfl (fun _ => ?_) (fun q => absurd rfl q)
    exact en_s_goto rfl (lw_less k)
theorem lc_pause {G : en_G} (hz : G.2.2.2.2.2.2.2.2 = none) {cs : List en_A} {i : Int32} {ii t : Nat} {σ : en_M} (hx : lw_ix G i ii) (h : Rel σ σ t) (ht : t + 14 ≤ 7168) : lw_ok G cs i σ (t + 14) 537 := by
  obtain ⟨a, x, σ1, τ1, h1, h2, h3, h4, h5⟩ := lw_two (C := fun σ => k_cc_pause (G.2.2.2.2.2.2.2.1 (ii + 1)) (lw_fl (G.2.2.2.2.2.2.2.1 (ii + 2))) σ) (M := fun σ => k_mm_pause (G.2.2.2.2.2.2.2.1 (ii + 1)) (lw_fl (G.2.2.2.2.2.2.2.1 (ii + 2))) σ) (E := [(1, 1)]) (t := t) (t' := t) lw_id (by decide) (fun σ τ h => pb_pause h (G.2.2.2.2.2.2.2.1 (ii + 1)) (lw_fl (G.2.2.2.2.2.2.2.1 (ii + 2)))) (fun σ r h => fj_hi (f_cc_pause h) rfl) (fun σ r h => fr_lo (f_mm_pause h) rfl) h
  obtain ⟨th, hth⟩ : ∃ z, τ1 24 0 0 0 = z := ⟨_, rfl⟩
  rw [hth] at h3 h5
  refine ⟨τ1, Rel_t h4 (by omega) ht, fun mc ms r cs' ρ' σ' bc bs k => ?_⟩
  refine en_s_aload_n rfl rfl ?_
  refine en_s_aload_nX rfl rfl ?_
  refine en_s_iload rfl rfl ?_
  refine en_s_iconst rfl ?_
  refine en_s_iadd rfl ?_
  refine en_s_sld rfl hx.2.1.1 hx.2.1.2 ?_
  refine en_s_aload_nX rfl rfl ?_
  refine en_s_iload rfl rfl ?_
  refine en_s_iconst rfl ?_
  refine en_s_iadd rfl ?_
  refine en_s_sld rfl hx.2.2.1.1 hx.2.2.1.2 ?_
  refine en_flag rfl rfl rfl rfl rfl ?_
  refine en_s_aload_n rfl rfl ?_
  refine en_callSH (as := [.inr (.inl (some (14, 0, 0))), .inl (G.2.2.2.2.2.2.2.1 (ii + 1)), .inl (lw_fl (G.2.2.2.2.2.2.2.1 (ii + 2))), .inr (.inl (some (36, 0, 0)))]) (rest := []) (vv := some (.inl th)) (bc' := bc) (bs' := bs) hz rfl (h_lw_pause G hz 5 (x := x) h1 h3) lk_11_136 mh_lw_pause rfl rfl rfl (fun _ h => h) (by omega) (by omega) ?_
  refine en_s_istore (ls' := lw_ls i (some (.inl th)) none) rfl rfl rfl ?_
  refine en_s_aload_n rfl rfl ?_
  refine en_s_aload_nX rfl rfl ?_
  refine en_s_iload rfl rfl ?_
  refine en_s_iconst rfl ?_
  refine en_s_iadd rfl ?_
  refine en_s_sld rfl hx.2.1.1 hx.2.1.2 ?_
  refine en_s_aload_nX rfl rfl ?_
  refine en_s_iload rfl rfl ?_
  refine en_s_iconst rfl ?_
  refine en_s_iadd rfl ?_
  refine en_s_sld rfl hx.2.2.1.1 hx.2.2.1.2 ?_
  refine en_flag rfl rfl rfl rfl rfl ?_
  refine en_callV (as := [.inl (G.2.2.2.2.2.2.2.1 (ii + 1)), .inl (lw_fl (G.2.2.2.2.2.2.2.1 (ii + 2)))]) (rest := []) (vv := some (.inl x)) (bc' := bc) (bs' := bs) hz rfl (s_mm_pause G hz 8 h2) lk_11_139 mv_mm_pause rfl rfl rfl rfl rfl (fun _ h => h) (by omega) (by omega) ?_
  refine en_s_istore (ls' := lw_ls i (some (.inl th)) (some (.inl x))) rfl rfl rfl ?_
  refine en_s_aload_n rfl rfl ?_
  refine en_callV (as := []) (rest := []) (vv := some (.inl th)) (bc' := bc) (bs' := bs) hz rfl (s_mm_thrown G hz 13 hth) lk_11_113 mv_mm_thrown rfl rfl rfl rfl rfl (fun _ h => h) (by omega) (by omega) ?_
  refine en_s_iload rfl rfl ?_
  refine en_s_icmp_eq rfl (fun _ => ?_) (fun q => absurd rfl q)
  refine en_s_iload rfl rfl ?_
  refine en_s_if_ne rfl (fun _ => ?_) (fun h0 => ?_)
  · exact en_s_goto rfl (lw_less k)
  · refine en_s_aload_n rfl rfl ?_
    refine en_s_iconst rfl ?_
    refine en_s_lald rfl rfl (lw_rd (h5 h0)) ?_
    refine en_s_iload rfl rfl ?_
    refine en_s_i2l rfl ?_
    refine en_s_lcmp rfl en_lcmp_eq ?_
    refine en_s_if_eq rfl (fun _ => ?_) (fun q => absurd rfl q)
    exact en_s_goto rfl (lw_less k)
theorem lc_rate {G : en_G} (hz : G.2.2.2.2.2.2.2.2 = none) {cs : List en_A} {i : Int32} {ii t : Nat} {σ : en_M} (hx : lw_ix G i ii) (h : Rel σ σ t) (ht : t + 14 ≤ 7168) : lw_ok G cs i σ (t + 14) 621 := by
  obtain ⟨a, x, σ1, τ1, h1, h2, h3, h4, h5⟩ := lw_two (C := fun σ => k_cc_rate (G.2.2.2.2.2.2.2.1 (ii + 1)) (G.2.2.2.2.2.2.2.1 (ii + 2)) σ) (M := fun σ => k_mm_rate (G.2.2.2.2.2.2.2.1 (ii + 1)) (G.2.2.2.2.2.2.2.1 (ii + 2)) σ) (E := [(0, 1), (1, 2)]) (t := t) (t' := t) lw_id (by decide) (fun σ τ h => pb_rate h (G.2.2.2.2.2.2.2.1 (ii + 1)) (G.2.2.2.2.2.2.2.1 (ii + 2))) (fun σ r h => fj_hi (f_cc_rate h) rfl) (fun σ r h => fr_lo (f_mm_rate h) rfl) h
  obtain ⟨th, hth⟩ : ∃ z, τ1 24 0 0 0 = z := ⟨_, rfl⟩
  rw [hth] at h3 h5
  refine ⟨τ1, Rel_t h4 (by omega) ht, fun mc ms r cs' ρ' σ' bc bs k => ?_⟩
  refine en_s_aload_n rfl rfl ?_
  refine en_s_aload_nX rfl rfl ?_
  refine en_s_iload rfl rfl ?_
  refine en_s_iconst rfl ?_
  refine en_s_iadd rfl ?_
  refine en_s_sld rfl hx.2.1.1 hx.2.1.2 ?_
  refine en_s_aload_nX rfl rfl ?_
  refine en_s_iload rfl rfl ?_
  refine en_s_iconst rfl ?_
  refine en_s_iadd rfl ?_
  refine en_s_sld rfl hx.2.2.1.1 hx.2.2.1.2 ?_
  refine en_s_aload_n rfl rfl ?_
  refine en_callSH (as := [.inr (.inl (some (14, 0, 0))), .inl (G.2.2.2.2.2.2.2.1 (ii + 1)), .inl (G.2.2.2.2.2.2.2.1 (ii + 2)), .inr (.inl (some (36, 0, 0)))]) (rest := []) (vv := some (.inl th)) (bc' := bc) (bs' := bs) hz rfl (h_lw_rate G hz 5 (x := x) h1 h3) lk_11_140 mh_lw_rate rfl rfl rfl (fun _ h => h) (by omega) (by omega) ?_
  refine en_s_istore (ls' := lw_ls i (some (.inl th)) none) rfl rfl rfl ?_
  refine en_s_aload_n rfl rfl ?_
  refine en_s_aload_nX rfl rfl ?_
  refine en_s_iload rfl rfl ?_
  refine en_s_iconst rfl ?_
  refine en_s_iadd rfl ?_
  refine en_s_sld rfl hx.2.1.1 hx.2.1.2 ?_
  refine en_s_aload_nX rfl rfl ?_
  refine en_s_iload rfl rfl ?_
  refine en_s_iconst rfl ?_
  refine en_s_iadd rfl ?_
  refine en_s_sld rfl hx.2.2.1.1 hx.2.2.1.2 ?_
  refine en_callV (as := [.inl (G.2.2.2.2.2.2.2.1 (ii + 1)), .inl (G.2.2.2.2.2.2.2.1 (ii + 2))]) (rest := []) (vv := some (.inl x)) (bc' := bc) (bs' := bs) hz rfl (s_mm_rate G hz 10 h2) lk_11_143 mv_mm_rate rfl rfl rfl rfl rfl (fun _ h => h) (by omega) (by omega) ?_
  refine en_s_istore (ls' := lw_ls i (some (.inl th)) (some (.inl x))) rfl rfl rfl ?_
  refine en_s_aload_n rfl rfl ?_
  refine en_callV (as := []) (rest := []) (vv := some (.inl th)) (bc' := bc) (bs' := bs) hz rfl (s_mm_thrown G hz 13 hth) lk_11_113 mv_mm_thrown rfl rfl rfl rfl rfl (fun _ h => h) (by omega) (by omega) ?_
  refine en_s_iload rfl rfl ?_
  refine en_s_icmp_eq rfl (fun _ => ?_) (fun q => absurd rfl q)
  refine en_s_iload rfl rfl ?_
  refine en_s_if_ne rfl (fun _ => ?_) (fun h0 => ?_)
  · exact en_s_goto rfl (lw_less k)
  · refine en_s_aload_n rfl rfl ?_
    refine en_s_iconst rfl ?_
    refine en_s_lald rfl rfl (lw_rd (h5 h0)) ?_
    refine en_s_iload rfl rfl ?_
    refine en_s_i2l rfl ?_
    refine en_s_lcmp rfl en_lcmp_eq ?_
    refine en_s_if_eq rfl (fun _ => ?_) (fun q => absurd rfl q)
    exact en_s_goto rfl (lw_less k)
theorem lc_tick {G : en_G} (hz : G.2.2.2.2.2.2.2.2 = none) {cs : List en_A} {i : Int32} {ii t : Nat} {σ : en_M} (hx : lw_ix G i ii) (h : Rel σ σ t) (ht : t + 14 ≤ 7168) : lw_ok G cs i σ (t + 14) 689 := by
  obtain ⟨a, x, σ1, τ1, h1, h2, h3, h4, h5⟩ := lw_two (C := fun σ => k_cc_tick (G.2.2.2.2.2.2.2.1 (ii + 1)) σ) (M := fun σ => k_mm_tick (G.2.2.2.2.2.2.2.1 (ii + 1)) σ) (E := [(0, 1), (1, 2)]) (t := t) (t' := t) lw_id (by decide) (fun σ τ h => pb_tick h (G.2.2.2.2.2.2.2.1 (ii + 1))) (fun σ r h => fj_hi (f_cc_tick h) rfl) (fun σ r h => fr_lo (f_mm_tick h) rfl) h
  obtain ⟨th, hth⟩ : ∃ z, τ1 24 0 0 0 = z := ⟨_, rfl⟩
  rw [hth] at h3 h5
  refine ⟨τ1, Rel_t h4 (by omega) ht, fun mc ms r cs' ρ' σ' bc bs k => ?_⟩
  refine en_s_aload_n rfl rfl ?_
  refine en_s_aload_nX rfl rfl ?_
  refine en_s_iload rfl rfl ?_
  refine en_s_iconst rfl ?_
  refine en_s_iadd rfl ?_
  refine en_s_sld rfl hx.2.1.1 hx.2.1.2 ?_
  refine en_s_aload_n rfl rfl ?_
  refine en_callSH (as := [.inr (.inl (some (14, 0, 0))), .inl (G.2.2.2.2.2.2.2.1 (ii + 1)), .inr (.inl (some (36, 0, 0)))]) (rest := []) (vv := some (.inl th)) (bc' := bc) (bs' := bs) hz rfl (h_lw_tick G hz 5 (x := x) h1 h3) lk_11_144 mh_lw_tick rfl rfl rfl (fun _ h => h) (by omega) (by omega) ?_
  refine en_s_istore (ls' := lw_ls i (some (.inl th)) none) rfl rfl rfl ?_
  refine en_s_aload_n rfl rfl ?_
  refine en_s_aload_nX rfl rfl ?_
  refine en_s_iload rfl rfl ?_
  refine en_s_iconst rfl ?_
  refine en_s_iadd rfl ?_
  refine en_s_sld rfl hx.2.1.1 hx.2.1.2 ?_
  refine en_callV (as := [.inl (G.2.2.2.2.2.2.2.1 (ii + 1))]) (rest := []) (vv := some (.inl x)) (bc' := bc) (bs' := bs) hz rfl (s_mm_tick G hz 5 h2) lk_11_146 mv_mm_tick rfl rfl rfl rfl rfl (fun _ h => h) (by omega) (by omega) ?_
  refine en_s_istore (ls' := lw_ls i (some (.inl th)) (some (.inl x))) rfl rfl rfl ?_
  refine en_s_aload_n rfl rfl ?_
  refine en_callV (as := []) (rest := []) (vv := some (.inl th)) (bc' := bc) (bs' := bs) hz rfl (s_mm_thrown G hz 13 hth) lk_11_113 mv_mm_thrown rfl rfl rfl rfl rfl (fun _ h => h) (by omega) (by omega) ?_
  refine en_s_iload rfl rfl ?_
  refine en_s_icmp_eq rfl (fun _ => ?_) (fun q => absurd rfl q)
  refine en_s_iload rfl rfl ?_
  refine en_s_if_ne rfl (fun _ => ?_) (fun h0 => ?_)
  · exact en_s_goto rfl (lw_less k)
  · refine en_s_aload_n rfl rfl ?_
    refine en_s_iconst rfl ?_
    refine en_s_lald rfl rfl (lw_rd (h5 h0)) ?_
    refine en_s_iload rfl rfl ?_
    refine en_s_i2l rfl ?_
    refine en_s_lcmp rfl en_lcmp_eq ?_
    refine en_s_if_eq rfl (fun _ => ?_) (fun q => absurd rfl q)
    exact en_s_goto rfl (lw_less k)
theorem lc_undo {G : en_G} (hz : G.2.2.2.2.2.2.2.2 = none) {cs : List en_A} {i : Int32} {ii t : Nat} {σ : en_M} (hx : lw_ix G i ii) (h : Rel σ σ t) (ht : t + 14 ≤ 7168) : lw_ok G cs i σ (t + 14) 745 := by
  obtain ⟨a, x, σ1, τ1, h1, h2, h3, h4, h5⟩ := lw_two (C := fun σ => k_cc_undo  σ) (M := fun σ => k_mm_undo  σ) (E := [(1, 1)]) (t := t) (t' := t) lw_id (by decide) (fun σ τ h => pb_undo h ) (fun σ r h => fr_hi (f_cc_undo h) rfl) (fun σ r h => fr_lo (f_mm_undo h) rfl) h
  obtain ⟨th, hth⟩ : ∃ z, τ1 24 0 0 0 = z := ⟨_, rfl⟩
  rw [hth] at h3 h5
  refine ⟨τ1, Rel_t h4 (by omega) ht, fun mc ms r cs' ρ' σ' bc bs k => ?_⟩
  refine en_s_aload_n rfl rfl ?_
  refine en_s_aload_n rfl rfl ?_
  refine en_callSH (as := [.inr (.inl (some (14, 0, 0))), .inr (.inl (some (36, 0, 0)))]) (rest := []) (vv := some (.inl th)) (bc' := bc) (bs' := bs) hz rfl (h_lw_undo G hz 6 (x := x) h1 h3) lk_11_147 mh_lw_undo rfl rfl rfl (fun _ h => h) (by omega) (by omega) ?_
  refine en_s_istore (ls' := lw_ls i (some (.inl th)) none) rfl rfl rfl ?_
  refine en_s_aload_n rfl rfl ?_
  refine en_callV (as := []) (rest := []) (vv := some (.inl x)) (bc' := bc) (bs' := bs) hz rfl (s_mm_undo G hz 13 h2) lk_11_149 mv_mm_undo rfl rfl rfl rfl rfl (fun _ h => h) (by omega) (by omega) ?_
  refine en_s_istore (ls' := lw_ls i (some (.inl th)) (some (.inl x))) rfl rfl rfl ?_
  refine en_s_aload_n rfl rfl ?_
  refine en_callV (as := []) (rest := []) (vv := some (.inl th)) (bc' := bc) (bs' := bs) hz rfl (s_mm_thrown G hz 13 hth) lk_11_113 mv_mm_thrown rfl rfl rfl rfl rfl (fun _ h => h) (by omega) (by omega) ?_
  refine en_s_iload rfl rfl ?_
  refine en_s_icmp_eq rfl (fun _ => ?_) (fun q => absurd rfl q)
  refine en_s_iload rfl rfl ?_
  refine en_s_if_ne rfl (fun _ => ?_) (fun h0 => ?_)
  · exact en_s_goto rfl (lw_less k)
  · refine en_s_aload_n rfl rfl ?_
    refine en_s_iconst rfl ?_
    refine en_s_lald rfl rfl (lw_rd (h5 h0)) ?_
    refine en_s_iload rfl rfl ?_
    refine en_s_i2l rfl ?_
    refine en_s_lcmp rfl en_lcmp_eq ?_
    refine en_s_if_eq rfl (fun _ => ?_) (fun q => absurd rfl q)
    exact en_s_goto rfl (lw_less k)
theorem lc_told {G : en_G} (hz : G.2.2.2.2.2.2.2.2 = none) {cs : List en_A} {i : Int32} {ii t : Nat} {σ : en_M} (hx : lw_ix G i ii) (h : Rel σ σ t) (ht : t + 14 ≤ 7168) : lw_ok G cs i σ (t + 14) 789 := by
  obtain ⟨a, x, τ1, h1, h2, h3, h4, h5⟩ := lw_twoQ (C := fun σ => k_cc_told (G.2.2.2.2.2.2.2.1 (ii + 1)) (G.2.2.2.2.2.2.2.1 (ii + 2)) σ) (M := fun σ => k_mm_told (G.2.2.2.2.2.2.2.1 (ii + 1)) (G.2.2.2.2.2.2.2.1 (ii + 2)) σ) (E := [(2, 1), (3, 2)]) (t := t) (t' := t) lw_id (by decide) (fun σ τ h => pb_told h (G.2.2.2.2.2.2.2.1 (ii + 1)) (G.2.2.2.2.2.2.2.1 (ii + 2))) (fun σ r h => fr_lo (f_mm_told h) rfl) h
  obtain ⟨th, hth⟩ : ∃ z, τ1 24 0 0 0 = z := ⟨_, rfl⟩
  rw [hth] at h3 h5
  refine ⟨τ1, Rel_t h4 (by omega) ht, fun mc ms r cs' ρ' σ' bc bs k => ?_⟩
  refine en_s_aload_n rfl rfl ?_
  refine en_s_aload_nX rfl rfl ?_
  refine en_s_iload rfl rfl ?_
  refine en_s_iconst rfl ?_
  refine en_s_iadd rfl ?_
  refine en_s_sld rfl hx.2.1.1 hx.2.1.2 ?_
  refine en_s_aload_nX rfl rfl ?_
  refine en_s_iload rfl rfl ?_
  refine en_s_iconst rfl ?_
  refine en_s_iadd rfl ?_
  refine en_s_sld rfl hx.2.2.1.1 hx.2.2.1.2 ?_
  refine en_s_aload_n rfl rfl ?_
  refine en_callSH (as := [.inr (.inl (some (14, 0, 0))), .inl (G.2.2.2.2.2.2.2.1 (ii + 1)), .inl (G.2.2.2.2.2.2.2.1 (ii + 2)), .inr (.inl (some (36, 0, 0)))]) (rest := []) (vv := some (.inl th)) (bc' := bc) (bs' := bs) hz rfl (h_lw_told G hz 6 (x := x) h1 h3) lk_11_150 mh_lw_told rfl rfl rfl (fun _ h => h) (by omega) (by omega) ?_
  refine en_s_istore (ls' := lw_ls i (some (.inl th)) none) rfl rfl rfl ?_
  refine en_s_aload_n rfl rfl ?_
  refine en_s_aload_nX rfl rfl ?_
  refine en_s_iload rfl rfl ?_
  refine en_s_iconst rfl ?_
  refine en_s_iadd rfl ?_
  refine en_s_sld rfl hx.2.1.1 hx.2.1.2 ?_
  refine en_s_aload_nX rfl rfl ?_
  refine en_s_iload rfl rfl ?_
  refine en_s_iconst rfl ?_
  refine en_s_iadd rfl ?_
  refine en_s_sld rfl hx.2.2.1.1 hx.2.2.1.2 ?_
  refine en_callV (as := [.inl (G.2.2.2.2.2.2.2.1 (ii + 1)), .inl (G.2.2.2.2.2.2.2.1 (ii + 2))]) (rest := []) (vv := some (.inl x)) (bc' := bc) (bs' := bs) hz rfl (s_mm_told G hz 9 h2) lk_11_152 mv_mm_told rfl rfl rfl rfl rfl (fun _ h => h) (by omega) (by omega) ?_
  refine en_s_istore (ls' := lw_ls i (some (.inl th)) (some (.inl x))) rfl rfl rfl ?_
  refine en_s_aload_n rfl rfl ?_
  refine en_callV (as := []) (rest := []) (vv := some (.inl th)) (bc' := bc) (bs' := bs) hz rfl (s_mm_thrown G hz 13 hth) lk_11_113 mv_mm_thrown rfl rfl rfl rfl rfl (fun _ h => h) (by omega) (by omega) ?_
  refine en_s_iload rfl rfl ?_
  refine en_s_icmp_eq rfl (fun _ => ?_) (fun q => absurd rfl q)
  refine en_s_iload rfl rfl ?_
  refine en_s_if_ne rfl (fun _ => ?_) (fun h0 => ?_)
  · exact en_s_goto rfl (lw_less k)
  · refine en_s_aload_n rfl rfl ?_
    refine en_s_iconst rfl ?_
    refine en_s_lald rfl rfl (lw_rd (h5 h0)) ?_
    refine en_s_iload rfl rfl ?_
    refine en_s_i2l rfl ?_
    refine en_s_lcmp rfl en_lcmp_eq ?_
    refine en_s_if_eq rfl (fun _ => ?_) (fun q => absurd rfl q)
    exact en_s_goto rfl (lw_less k)
theorem lc_piece {G : en_G} (hz : G.2.2.2.2.2.2.2.2 = none) {cs : List en_A} {i : Int32} {ii t : Nat} {σ : en_M} (hx : lw_ix G i ii) (h : Rel σ σ t) (ht : t + 14 ≤ 7168) : lw_ok G cs i σ (t + 14) 857 := by
  obtain ⟨a, x, τ1, h1, h2, h3, h4, h5⟩ := lw_twoQ (C := fun σ => k_cc_piece (G.2.2.2.2.2.2.2.1 (ii + 1)) (G.2.2.2.2.2.2.2.1 (ii + 2)) (G.2.2.2.2.2.2.2.1 (ii + 3)) σ) (M := fun σ => k_mm_piece (G.2.2.2.2.2.2.2.1 (ii + 1)) (G.2.2.2.2.2.2.2.1 (ii + 2)) (G.2.2.2.2.2.2.2.1 (ii + 3)) σ) (E := [(2, 1), (3, 2)]) (t := t) (t' := t) lw_id (by decide) (fun σ τ h => pb_piece h (G.2.2.2.2.2.2.2.1 (ii + 1)) (G.2.2.2.2.2.2.2.1 (ii + 2)) (G.2.2.2.2.2.2.2.1 (ii + 3))) (fun σ r h => fr_lo (f_mm_piece h) rfl) h
  obtain ⟨th, hth⟩ : ∃ z, τ1 24 0 0 0 = z := ⟨_, rfl⟩
  rw [hth] at h3 h5
  refine ⟨τ1, Rel_t h4 (by omega) ht, fun mc ms r cs' ρ' σ' bc bs k => ?_⟩
  refine en_s_aload_n rfl rfl ?_
  refine en_s_aload_nX rfl rfl ?_
  refine en_s_iload rfl rfl ?_
  refine en_s_iconst rfl ?_
  refine en_s_iadd rfl ?_
  refine en_s_sld rfl hx.2.1.1 hx.2.1.2 ?_
  refine en_s_aload_nX rfl rfl ?_
  refine en_s_iload rfl rfl ?_
  refine en_s_iconst rfl ?_
  refine en_s_iadd rfl ?_
  refine en_s_sld rfl hx.2.2.1.1 hx.2.2.1.2 ?_
  refine en_s_aload_nX rfl rfl ?_
  refine en_s_iload rfl rfl ?_
  refine en_s_iconst rfl ?_
  refine en_s_iadd rfl ?_
  refine en_s_sld rfl hx.2.2.2.1.1 hx.2.2.2.1.2 ?_
  refine en_s_aload_n rfl rfl ?_
  refine en_callSH (as := [.inr (.inl (some (14, 0, 0))), .inl (G.2.2.2.2.2.2.2.1 (ii + 1)), .inl (G.2.2.2.2.2.2.2.1 (ii + 2)), .inl (G.2.2.2.2.2.2.2.1 (ii + 3)), .inr (.inl (some (36, 0, 0)))]) (rest := []) (vv := some (.inl th)) (bc' := bc) (bs' := bs) hz rfl (h_lw_piece G hz 6 (x := x) h1 h3) lk_11_153 mh_lw_piece rfl rfl rfl (fun _ h => h) (by omega) (by omega) ?_
  refine en_s_istore (ls' := lw_ls i (some (.inl th)) none) rfl rfl rfl ?_
  refine en_s_aload_n rfl rfl ?_
  refine en_s_aload_nX rfl rfl ?_
  refine en_s_iload rfl rfl ?_
  refine en_s_iconst rfl ?_
  refine en_s_iadd rfl ?_
  refine en_s_sld rfl hx.2.1.1 hx.2.1.2 ?_
  refine en_s_aload_nX rfl rfl ?_
  refine en_s_iload rfl rfl ?_
  refine en_s_iconst rfl ?_
  refine en_s_iadd rfl ?_
  refine en_s_sld rfl hx.2.2.1.1 hx.2.2.1.2 ?_
  refine en_s_aload_nX rfl rfl ?_
  refine en_s_iload rfl rfl ?_
  refine en_s_iconst rfl ?_
  refine en_s_iadd rfl ?_
  refine en_s_sld rfl hx.2.2.2.1.1 hx.2.2.2.1.2 ?_
  refine en_callV (as := [.inl (G.2.2.2.2.2.2.2.1 (ii + 1)), .inl (G.2.2.2.2.2.2.2.1 (ii + 2)), .inl (G.2.2.2.2.2.2.2.1 (ii + 3))]) (rest := []) (vv := some (.inl x)) (bc' := bc) (bs' := bs) hz rfl (s_mm_piece G hz 7 h2) lk_11_156 mv_mm_piece rfl rfl rfl rfl rfl (fun _ h => h) (by omega) (by omega) ?_
  refine en_s_istore (ls' := lw_ls i (some (.inl th)) (some (.inl x))) rfl rfl rfl ?_
  refine en_s_aload_n rfl rfl ?_
  refine en_callV (as := []) (rest := []) (vv := some (.inl th)) (bc' := bc) (bs' := bs) hz rfl (s_mm_thrown G hz 13 hth) lk_11_113 mv_mm_thrown rfl rfl rfl rfl rfl (fun _ h => h) (by omega) (by omega) ?_
  refine en_s_iload rfl rfl ?_
  refine en_s_icmp_eq rfl (fun _ => ?_) (fun q => absurd rfl q)
  refine en_s_iload rfl rfl ?_
  refine en_s_if_ne rfl (fun _ => ?_) (fun h0 => ?_)
  · exact en_s_goto rfl (lw_less k)
  · refine en_s_aload_n rfl rfl ?_
    refine en_s_iconst rfl ?_
    refine en_s_lald rfl rfl (lw_rd (h5 h0)) ?_
    refine en_s_iload rfl rfl ?_
    refine en_s_i2l rfl ?_
    refine en_s_lcmp rfl en_lcmp_eq ?_
    refine en_s_if_eq rfl (fun _ => ?_) (fun q => absurd rfl q)
    exact en_s_goto rfl (lw_less k)
theorem lc_octet {G : en_G} (hz : G.2.2.2.2.2.2.2.2 = none) {cs : List en_A} {i : Int32} {ii t : Nat} {σ : en_M} (hx : lw_ix G i ii) (h : Rel σ σ t) (ht : t + 14 ≤ 7168) : lw_ok G cs i σ (t + 14) 937 := by
  obtain ⟨a, x, τ1, h1, h2, h3, h4, h5⟩ := lw_twoQ (C := fun σ => k_cc_octet (G.2.2.2.2.2.2.2.1 (ii + 1)) (G.2.2.2.2.2.2.2.1 (ii + 2)) (G.2.2.2.2.2.2.2.1 (ii + 3)) σ) (M := fun σ => k_mm_octet (G.2.2.2.2.2.2.2.1 (ii + 1)) (G.2.2.2.2.2.2.2.1 (ii + 2)) (G.2.2.2.2.2.2.2.1 (ii + 3)) σ) (E := [(2, 1)]) (t := t) (t' := t) lw_id (by decide) (fun σ τ h => pb_octet h (G.2.2.2.2.2.2.2.1 (ii + 1)) (G.2.2.2.2.2.2.2.1 (ii + 2)) (G.2.2.2.2.2.2.2.1 (ii + 3))) (fun σ r h => fr_lo (f_mm_octet h) rfl) h
  obtain ⟨th, hth⟩ : ∃ z, τ1 24 0 0 0 = z := ⟨_, rfl⟩
  rw [hth] at h3 h5
  refine ⟨τ1, Rel_t h4 (by omega) ht, fun mc ms r cs' ρ' σ' bc bs k => ?_⟩
  refine en_s_aload_n rfl rfl ?_
  refine en_s_aload_nX rfl rfl ?_
  refine en_s_iload rfl rfl ?_
  refine en_s_iconst rfl ?_
  refine en_s_iadd rfl ?_
  refine en_s_sld rfl hx.2.1.1 hx.2.1.2 ?_
  refine en_s_aload_nX rfl rfl ?_
  refine en_s_iload rfl rfl ?_
  refine en_s_iconst rfl ?_
  refine en_s_iadd rfl ?_
  refine en_s_sld rfl hx.2.2.1.1 hx.2.2.1.2 ?_
  refine en_s_aload_nX rfl rfl ?_
  refine en_s_iload rfl rfl ?_
  refine en_s_iconst rfl ?_
  refine en_s_iadd rfl ?_
  refine en_s_sld rfl hx.2.2.2.1.1 hx.2.2.2.1.2 ?_
  refine en_s_aload_n rfl rfl ?_
  refine en_callSH (as := [.inr (.inl (some (14, 0, 0))), .inl (G.2.2.2.2.2.2.2.1 (ii + 1)), .inl (G.2.2.2.2.2.2.2.1 (ii + 2)), .inl (G.2.2.2.2.2.2.2.1 (ii + 3)), .inr (.inl (some (36, 0, 0)))]) (rest := []) (vv := some (.inl th)) (bc' := bc) (bs' := bs) hz rfl (h_lw_octet G hz 6 (x := x) h1 h3) lk_11_157 mh_lw_octet rfl rfl rfl (fun _ h => h) (by omega) (by omega) ?_
  refine en_s_istore (ls' := lw_ls i (some (.inl th)) none) rfl rfl rfl ?_
  refine en_s_aload_n rfl rfl ?_
  refine en_s_aload_nX rfl rfl ?_
  refine en_s_iload rfl rfl ?_
  refine en_s_iconst rfl ?_
  refine en_s_iadd rfl ?_
  refine en_s_sld rfl hx.2.1.1 hx.2.1.2 ?_
  refine en_s_aload_nX rfl rfl ?_
  refine en_s_iload rfl rfl ?_
  refine en_s_iconst rfl ?_
  refine en_s_iadd rfl ?_
  refine en_s_sld rfl hx.2.2.1.1 hx.2.2.1.2 ?_
  refine en_s_aload_nX rfl rfl ?_
  refine en_s_iload rfl rfl ?_
  refine en_s_iconst rfl ?_
  refine en_s_iadd rfl ?_
  refine en_s_sld rfl hx.2.2.2.1.1 hx.2.2.2.1.2 ?_
  refine en_callV (as := [.inl (G.2.2.2.2.2.2.2.1 (ii + 1)), .inl (G.2.2.2.2.2.2.2.1 (ii + 2)), .inl (G.2.2.2.2.2.2.2.1 (ii + 3))]) (rest := []) (vv := some (.inl x)) (bc' := bc) (bs' := bs) hz rfl (s_mm_octet G hz 6 h2) lk_11_159 mv_mm_octet rfl rfl rfl rfl rfl (fun _ h => h) (by omega) (by omega) ?_
  refine en_s_istore (ls' := lw_ls i (some (.inl th)) (some (.inl x))) rfl rfl rfl ?_
  refine en_s_aload_n rfl rfl ?_
  refine en_callV (as := []) (rest := []) (vv := some (.inl th)) (bc' := bc) (bs' := bs) hz rfl (s_mm_thrown G hz 13 hth) lk_11_113 mv_mm_thrown rfl rfl rfl rfl rfl (fun _ h => h) (by omega) (by omega) ?_
  refine en_s_iload rfl rfl ?_
  refine en_s_icmp_eq rfl (fun _ => ?_) (fun q => absurd rfl q)
  refine en_s_iload rfl rfl ?_
  refine en_s_if_ne rfl (fun _ => ?_) (fun h0 => ?_)
  · exact en_s_goto rfl (lw_less k)
  · refine en_s_aload_n rfl rfl ?_
    refine en_s_iconst rfl ?_
    refine en_s_lald rfl rfl (lw_rd (h5 h0)) ?_
    refine en_s_iload rfl rfl ?_
    refine en_s_i2l rfl ?_
    refine en_s_lcmp rfl en_lcmp_eq ?_
    refine en_s_if_eq rfl (fun _ => ?_) (fun q => absurd rfl q)
    exact en_s_goto rfl (lw_less k)
theorem lc_holder {G : en_G} (hz : G.2.2.2.2.2.2.2.2 = none) {cs : List en_A} {i : Int32} {ii t : Nat} {σ : en_M} (hx : lw_ix G i ii) (h : Rel σ σ t) (ht : t + 14 ≤ 7168) : lw_ok G cs i σ (t + 14) 1017 := by
  obtain ⟨a, x, τ1, h1, h2, h3, h4, h5⟩ := lw_twoQ (C := fun σ => k_cc_holder (G.2.2.2.2.2.2.2.1 (ii + 1)) (G.2.2.2.2.2.2.2.1 (ii + 2)) σ) (M := fun σ => k_mm_holder (G.2.2.2.2.2.2.2.1 (ii + 1)) (G.2.2.2.2.2.2.2.1 (ii + 2)) σ) (E := [(2, 1)]) (t := t) (t' := t) lw_id (by decide) (fun σ τ h => pb_holder h (G.2.2.2.2.2.2.2.1 (ii + 1)) (G.2.2.2.2.2.2.2.1 (ii + 2))) (fun σ r h => fr_lo (f_mm_holder h) rfl) h
  obtain ⟨th, hth⟩ : ∃ z, τ1 24 0 0 0 = z := ⟨_, rfl⟩
  rw [hth] at h3 h5
  refine ⟨τ1, Rel_t h4 (by omega) ht, fun mc ms r cs' ρ' σ' bc bs k => ?_⟩
  refine en_s_aload_n rfl rfl ?_
  refine en_s_aload_nX rfl rfl ?_
  refine en_s_iload rfl rfl ?_
  refine en_s_iconst rfl ?_
  refine en_s_iadd rfl ?_
  refine en_s_sld rfl hx.2.1.1 hx.2.1.2 ?_
  refine en_s_aload_nX rfl rfl ?_
  refine en_s_iload rfl rfl ?_
  refine en_s_iconst rfl ?_
  refine en_s_iadd rfl ?_
  refine en_s_sld rfl hx.2.2.1.1 hx.2.2.1.2 ?_
  refine en_s_aload_n rfl rfl ?_
  refine en_callSH (as := [.inr (.inl (some (14, 0, 0))), .inl (G.2.2.2.2.2.2.2.1 (ii + 1)), .inl (G.2.2.2.2.2.2.2.1 (ii + 2)), .inr (.inl (some (36, 0, 0)))]) (rest := []) (vv := some (.inl th)) (bc' := bc) (bs' := bs) hz rfl (h_lw_holder G hz 6 (x := x) h1 h3) lk_11_160 mh_lw_holder rfl rfl rfl (fun _ h => h) (by omega) (by omega) ?_
  refine en_s_istore (ls' := lw_ls i (some (.inl th)) none) rfl rfl rfl ?_
  refine en_s_aload_n rfl rfl ?_
  refine en_s_aload_nX rfl rfl ?_
  refine en_s_iload rfl rfl ?_
  refine en_s_iconst rfl ?_
  refine en_s_iadd rfl ?_
  refine en_s_sld rfl hx.2.1.1 hx.2.1.2 ?_
  refine en_s_aload_nX rfl rfl ?_
  refine en_s_iload rfl rfl ?_
  refine en_s_iconst rfl ?_
  refine en_s_iadd rfl ?_
  refine en_s_sld rfl hx.2.2.1.1 hx.2.2.1.2 ?_
  refine en_callV (as := [.inl (G.2.2.2.2.2.2.2.1 (ii + 1)), .inl (G.2.2.2.2.2.2.2.1 (ii + 2))]) (rest := []) (vv := some (.inl x)) (bc' := bc) (bs' := bs) hz rfl (s_mm_holder G hz 9 h2) lk_11_162 mv_mm_holder rfl rfl rfl rfl rfl (fun _ h => h) (by omega) (by omega) ?_
  refine en_s_istore (ls' := lw_ls i (some (.inl th)) (some (.inl x))) rfl rfl rfl ?_
  refine en_s_aload_n rfl rfl ?_
  refine en_callV (as := []) (rest := []) (vv := some (.inl th)) (bc' := bc) (bs' := bs) hz rfl (s_mm_thrown G hz 13 hth) lk_11_113 mv_mm_thrown rfl rfl rfl rfl rfl (fun _ h => h) (by omega) (by omega) ?_
  refine en_s_iload rfl rfl ?_
  refine en_s_icmp_eq rfl (fun _ => ?_) (fun q => absurd rfl q)
  refine en_s_iload rfl rfl ?_
  refine en_s_if_ne rfl (fun _ => ?_) (fun h0 => ?_)
  · exact en_s_goto rfl (lw_less k)
  · refine en_s_aload_n rfl rfl ?_
    refine en_s_iconst rfl ?_
    refine en_s_lald rfl rfl (lw_rd (h5 h0)) ?_
    refine en_s_iload rfl rfl ?_
    refine en_s_i2l rfl ?_
    refine en_s_lcmp rfl en_lcmp_eq ?_
    refine en_s_if_eq rfl (fun _ => ?_) (fun q => absurd rfl q)
    exact en_s_goto rfl (lw_less k)
theorem lc_flow {G : en_G} (hz : G.2.2.2.2.2.2.2.2 = none) {cs : List en_A} {i : Int32} {ii t : Nat} {σ : en_M} (hx : lw_ix G i ii) (h : Rel σ σ t) (ht : t + 14 ≤ 7168) : lw_ok G cs i σ (t + 14) 1085 := by
  obtain ⟨a, x, τ1, h1, h2, h3, h4, h5⟩ := lw_twoQ (C := fun σ => k_cc_flow (G.2.2.2.2.2.2.2.1 (ii + 1)) (G.2.2.2.2.2.2.2.1 (ii + 2)) σ) (M := fun σ => k_mm_flow (G.2.2.2.2.2.2.2.1 (ii + 1)) (G.2.2.2.2.2.2.2.1 (ii + 2)) σ) (E := [(2, 1), (3, 2)]) (t := t) (t' := t) lw_id (by decide) (fun σ τ h => pb_flow h (G.2.2.2.2.2.2.2.1 (ii + 1)) (G.2.2.2.2.2.2.2.1 (ii + 2))) (fun σ r h => fr_lo (f_mm_flow h) rfl) h
  obtain ⟨th, hth⟩ : ∃ z, τ1 24 0 0 0 = z := ⟨_, rfl⟩
  rw [hth] at h3 h5
  refine ⟨τ1, Rel_t h4 (by omega) ht, fun mc ms r cs' ρ' σ' bc bs k => ?_⟩
  refine en_s_aload_n rfl rfl ?_
  refine en_s_aload_nX rfl rfl ?_
  refine en_s_iload rfl rfl ?_
  refine en_s_iconst rfl ?_
  refine en_s_iadd rfl ?_
  refine en_s_sld rfl hx.2.1.1 hx.2.1.2 ?_
  refine en_s_aload_nX rfl rfl ?_
  refine en_s_iload rfl rfl ?_
  refine en_s_iconst rfl ?_
  refine en_s_iadd rfl ?_
  refine en_s_sld rfl hx.2.2.1.1 hx.2.2.1.2 ?_
  refine en_s_aload_n rfl rfl ?_
  refine en_callSH (as := [.inr (.inl (some (14, 0, 0))), .inl (G.2.2.2.2.2.2.2.1 (ii + 1)), .inl (G.2.2.2.2.2.2.2.1 (ii + 2)), .inr (.inl (some (36, 0, 0)))]) (rest := []) (vv := some (.inl th)) (bc' := bc) (bs' := bs) hz rfl (h_lw_flow G hz 6 (x := x) h1 h3) lk_11_163 mh_lw_flow rfl rfl rfl (fun _ h => h) (by omega) (by omega) ?_
  refine en_s_istore (ls' := lw_ls i (some (.inl th)) none) rfl rfl rfl ?_
  refine en_s_aload_n rfl rfl ?_
  refine en_s_aload_nX rfl rfl ?_
  refine en_s_iload rfl rfl ?_
  refine en_s_iconst rfl ?_
  refine en_s_iadd rfl ?_
  refine en_s_sld rfl hx.2.1.1 hx.2.1.2 ?_
  refine en_s_aload_nX rfl rfl ?_
  refine en_s_iload rfl rfl ?_
  refine en_s_iconst rfl ?_
  refine en_s_iadd rfl ?_
  refine en_s_sld rfl hx.2.2.1.1 hx.2.2.1.2 ?_
  refine en_callV (as := [.inl (G.2.2.2.2.2.2.2.1 (ii + 1)), .inl (G.2.2.2.2.2.2.2.1 (ii + 2))]) (rest := []) (vv := some (.inl x)) (bc' := bc) (bs' := bs) hz rfl (s_mm_flow G hz 8 h2) lk_11_165 mv_mm_flow rfl rfl rfl rfl rfl (fun _ h => h) (by omega) (by omega) ?_
  refine en_s_istore (ls' := lw_ls i (some (.inl th)) (some (.inl x))) rfl rfl rfl ?_
  refine en_s_aload_n rfl rfl ?_
  refine en_callV (as := []) (rest := []) (vv := some (.inl th)) (bc' := bc) (bs' := bs) hz rfl (s_mm_thrown G hz 13 hth) lk_11_113 mv_mm_thrown rfl rfl rfl rfl rfl (fun _ h => h) (by omega) (by omega) ?_
  refine en_s_iload rfl rfl ?_
  refine en_s_icmp_eq rfl (fun _ => ?_) (fun q => absurd rfl q)
  refine en_s_iload rfl rfl ?_
  refine en_s_if_ne rfl (fun _ => ?_) (fun h0 => ?_)
  · exact en_s_goto rfl (lw_less k)
  · refine en_s_aload_n rfl rfl ?_
    refine en_s_iconst rfl ?_
    refine en_s_lald rfl rfl (lw_rd (h5 h0)) ?_
    refine en_s_iload rfl rfl ?_
    refine en_s_i2l rfl ?_
    refine en_s_lcmp rfl en_lcmp_eq ?_
    refine en_s_if_eq rfl (fun _ => ?_) (fun q => absurd rfl q)
    exact en_s_goto rfl (lw_less k)
theorem lc_burst {G : en_G} (hz : G.2.2.2.2.2.2.2.2 = none) {cs : List en_A} {i : Int32} {ii t : Nat} {σ : en_M} (hx : lw_ix G i ii) (h : Rel σ σ t) (ht : t + 14 ≤ 7168) : lw_ok G cs i σ (t + 14) 1153 := by
  obtain ⟨a, x, τ1, h1, h2, h3, h4, h5⟩ := lw_twoQ (C := fun σ => k_cc_burst (G.2.2.2.2.2.2.2.1 (ii + 1)) (G.2.2.2.2.2.2.2.1 (ii + 2)) σ) (M := fun σ => k_mm_burst (G.2.2.2.2.2.2.2.1 (ii + 1)) (G.2.2.2.2.2.2.2.1 (ii + 2)) σ) (E := [(2, 1), (0, 2)]) (t := t) (t' := t) lw_id (by decide) (fun σ τ h => pb_burst h (G.2.2.2.2.2.2.2.1 (ii + 1)) (G.2.2.2.2.2.2.2.1 (ii + 2))) (fun σ r h => fr_lo (f_mm_burst h) rfl) h
  obtain ⟨th, hth⟩ : ∃ z, τ1 24 0 0 0 = z := ⟨_, rfl⟩
  rw [hth] at h3 h5
  refine ⟨τ1, Rel_t h4 (by omega) ht, fun mc ms r cs' ρ' σ' bc bs k => ?_⟩
  refine en_s_aload_n rfl rfl ?_
  refine en_s_aload_nX rfl rfl ?_
  refine en_s_iload rfl rfl ?_
  refine en_s_iconst rfl ?_
  refine en_s_iadd rfl ?_
  refine en_s_sld rfl hx.2.1.1 hx.2.1.2 ?_
  refine en_s_aload_nX rfl rfl ?_
  refine en_s_iload rfl rfl ?_
  refine en_s_iconst rfl ?_
  refine en_s_iadd rfl ?_
  refine en_s_sld rfl hx.2.2.1.1 hx.2.2.1.2 ?_
  refine en_s_aload_n rfl rfl ?_
  refine en_callSH (as := [.inr (.inl (some (14, 0, 0))), .inl (G.2.2.2.2.2.2.2.1 (ii + 1)), .inl (G.2.2.2.2.2.2.2.1 (ii + 2)), .inr (.inl (some (36, 0, 0)))]) (rest := []) (vv := some (.inl th)) (bc' := bc) (bs' := bs) hz rfl (h_lw_burst G hz 5 (x := x) h1 h3) lk_11_166 mh_lw_burst rfl rfl rfl (fun _ h => h) (by omega) (by omega) ?_
  refine en_s_istore (ls' := lw_ls i (some (.inl th)) none) rfl rfl rfl ?_
  refine en_s_aload_n rfl rfl ?_
  refine en_s_aload_nX rfl rfl ?_
  refine en_s_iload rfl rfl ?_
  refine en_s_iconst rfl ?_
  refine en_s_iadd rfl ?_
  refine en_s_sld rfl hx.2.1.1 hx.2.1.2 ?_
  refine en_s_aload_nX rfl rfl ?_
  refine en_s_iload rfl rfl ?_
  refine en_s_iconst rfl ?_
  refine en_s_iadd rfl ?_
  refine en_s_sld rfl hx.2.2.1.1 hx.2.2.1.2 ?_
  refine en_callV (as := [.inl (G.2.2.2.2.2.2.2.1 (ii + 1)), .inl (G.2.2.2.2.2.2.2.1 (ii + 2))]) (rest := []) (vv := some (.inl x)) (bc' := bc) (bs' := bs) hz rfl (s_mm_burst G hz 11 h2) lk_11_168 mv_mm_burst rfl rfl rfl rfl rfl (fun _ h => h) (by omega) (by omega) ?_
  refine en_s_istore (ls' := lw_ls i (some (.inl th)) (some (.inl x))) rfl rfl rfl ?_
  refine en_s_aload_n rfl rfl ?_
  refine en_callV (as := []) (rest := []) (vv := some (.inl th)) (bc' := bc) (bs' := bs) hz rfl (s_mm_thrown G hz 13 hth) lk_11_113 mv_mm_thrown rfl rfl rfl rfl rfl (fun _ h => h) (by omega) (by omega) ?_
  refine en_s_iload rfl rfl ?_
  refine en_s_icmp_eq rfl (fun _ => ?_) (fun q => absurd rfl q)
  refine en_s_iload rfl rfl ?_
  refine en_s_if_ne rfl (fun _ => ?_) (fun h0 => ?_)
  · exact en_s_goto rfl (lw_less k)
  · refine en_s_aload_n rfl rfl ?_
    refine en_s_iconst rfl ?_
    refine en_s_lald rfl rfl (lw_rd (h5 h0)) ?_
    refine en_s_iload rfl rfl ?_
    refine en_s_i2l rfl ?_
    refine en_s_lcmp rfl en_lcmp_eq ?_
    refine en_s_if_eq rfl (fun _ => ?_) (fun q => absurd rfl q)
    exact en_s_goto rfl (lw_less k)
theorem lc_done {G : en_G} (hz : G.2.2.2.2.2.2.2.2 = none) {cs : List en_A} {i : Int32} {ii t : Nat} {σ : en_M} (hx : lw_ix G i ii) (h : Rel σ σ t) (ht : t + 14 ≤ 7168) : lw_ok G cs i σ (t + 14) 1221 := by
  obtain ⟨x, τ1, h1, h2, h4⟩ := lw_oneQ (C := fun σ x => k_cc_done (G.2.2.2.2.2.2.2.1 (ii + 1)) (lw_fl (G.2.2.2.2.2.2.2.1 (ii + 2))) σ = some x) (M := fun σ => k_mm_done (G.2.2.2.2.2.2.2.1 (ii + 1)) (lw_fl (G.2.2.2.2.2.2.2.1 (ii + 2))) σ) (t := t) (t' := t) (fun σ τ h => by obtain ⟨x, τ1, q1, q2, -, q4⟩ := pb_done h (G.2.2.2.2.2.2.2.1 (ii + 1)) (lw_fl (G.2.2.2.2.2.2.2.1 (ii + 2))); exact ⟨x, τ1, q1, q2, q4⟩) (fun σ r h => fr_lo (f_mm_done h) rfl) h
  refine ⟨τ1, Rel_t h4 (by omega) ht, fun mc ms r cs' ρ' σ' bc bs k => ?_⟩
  refine en_s_aload_n rfl rfl ?_
  refine en_s_aload_nX rfl rfl ?_
  refine en_s_iload rfl rfl ?_
  refine en_s_iconst rfl ?_
  refine en_s_iadd rfl ?_
  refine en_s_sld rfl hx.2.1.1 hx.2.1.2 ?_
  refine en_s_aload_nX rfl rfl ?_
  refine en_s_iload rfl rfl ?_
  refine en_s_iconst rfl ?_
  refine en_s_iadd rfl ?_
  refine en_s_sld rfl hx.2.2.1.1 hx.2.2.1.2 ?_
  refine en_flag rfl rfl rfl rfl rfl ?_
  refine en_callV (as := [.inl (G.2.2.2.2.2.2.2.1 (ii + 1)), .inl (lw_fl (G.2.2.2.2.2.2.2.1 (ii + 2)))]) (rest := []) (vv := some (.inl x)) (bc' := bc) (bs' := bs) hz rfl (s_cc_done G hz 11 h1) lk_11_169 mv_cc_done rfl rfl rfl rfl rfl (fun _ h => h) (by omega) (by omega) ?_
  refine en_s_aload_n rfl rfl ?_
  refine en_s_aload_nX rfl rfl ?_
  refine en_s_iload rfl rfl ?_
  refine en_s_iconst rfl ?_
  refine en_s_iadd rfl ?_
  refine en_s_sld rfl hx.2.1.1 hx.2.1.2 ?_
  refine en_s_aload_nX rfl rfl ?_
  refine en_s_iload rfl rfl ?_
  refine en_s_iconst rfl ?_
  refine en_s_iadd rfl ?_
  refine en_s_sld rfl hx.2.2.1.1 hx.2.2.1.2 ?_
  refine en_flag rfl rfl rfl rfl rfl ?_
  refine en_callV (as := [.inl (G.2.2.2.2.2.2.2.1 (ii + 1)), .inl (lw_fl (G.2.2.2.2.2.2.2.1 (ii + 2)))]) (rest := [.inl x]) (vv := some (.inl x)) (bc' := bc) (bs' := bs) hz rfl (s_mm_done G hz 12 h2) lk_11_172 mv_mm_done rfl rfl rfl rfl rfl (fun _ h => h) (by omega) (by omega) ?_
  refine en_s_icmp_eq rfl (fun _ => ?_) (fun q => absurd rfl q)
  exact k
theorem lc_log {G : en_G} (hz : G.2.2.2.2.2.2.2.2 = none) {cs : List en_A} {i : Int32} {ii t : Nat} {σ : en_M} (hx : lw_ix G i ii) (h : Rel σ σ t) (ht : t + 14 ≤ 7168) : lw_ok G cs i σ (t + 14) 1274 := by
  obtain ⟨a, x, τ1, h1, h2, h3, h4, h5⟩ := lw_twoQ (C := fun σ => k_cc_log (G.2.2.2.2.2.2.2.1 (ii + 1)) (G.2.2.2.2.2.2.2.1 (ii + 2)) σ) (M := fun σ => k_mm_log (G.2.2.2.2.2.2.2.1 (ii + 1)) (G.2.2.2.2.2.2.2.1 (ii + 2)) σ) (E := [(3, 1)]) (t := t) (t' := t) lw_id (by decide) (fun σ τ h => pb_log h (G.2.2.2.2.2.2.2.1 (ii + 1)) (G.2.2.2.2.2.2.2.1 (ii + 2))) (fun σ r h => fr_lo (f_mm_log h) rfl) h
  obtain ⟨th, hth⟩ : ∃ z, τ1 24 0 0 0 = z := ⟨_, rfl⟩
  rw [hth] at h3 h5
  refine ⟨τ1, Rel_t h4 (by omega) ht, fun mc ms r cs' ρ' σ' bc bs k => ?_⟩
  refine en_s_aload_n rfl rfl ?_
  refine en_s_aload_nX rfl rfl ?_
  refine en_s_iload rfl rfl ?_
  refine en_s_iconst rfl ?_
  refine en_s_iadd rfl ?_
  refine en_s_sld rfl hx.2.1.1 hx.2.1.2 ?_
  refine en_s_aload_nX rfl rfl ?_
  refine en_s_iload rfl rfl ?_
  refine en_s_iconst rfl ?_
  refine en_s_iadd rfl ?_
  refine en_s_sld rfl hx.2.2.1.1 hx.2.2.1.2 ?_
  refine en_s_aload_n rfl rfl ?_
  refine en_callSH (as := [.inr (.inl (some (14, 0, 0))), .inl (G.2.2.2.2.2.2.2.1 (ii + 1)), .inl (G.2.2.2.2.2.2.2.1 (ii + 2)), .inr (.inl (some (36, 0, 0)))]) (rest := []) (vv := some (.inl th)) (bc' := bc) (bs' := bs) hz rfl (h_lw_log G hz 6 (x := x) h1 h3) lk_11_173 mh_lw_log rfl rfl rfl (fun _ h => h) (by omega) (by omega) ?_
  refine en_s_istore (ls' := lw_ls i (some (.inl th)) none) rfl rfl rfl ?_
  refine en_s_aload_n rfl rfl ?_
  refine en_s_aload_nX rfl rfl ?_
  refine en_s_iload rfl rfl ?_
  refine en_s_iconst rfl ?_
  refine en_s_iadd rfl ?_
  refine en_s_sld rfl hx.2.1.1 hx.2.1.2 ?_
  refine en_s_aload_nX rfl rfl ?_
  refine en_s_iload rfl rfl ?_
  refine en_s_iconst rfl ?_
  refine en_s_iadd rfl ?_
  refine en_s_sld rfl hx.2.2.1.1 hx.2.2.1.2 ?_
  refine en_callV (as := [.inl (G.2.2.2.2.2.2.2.1 (ii + 1)), .inl (G.2.2.2.2.2.2.2.1 (ii + 2))]) (rest := []) (vv := some (.inl x)) (bc' := bc) (bs' := bs) hz rfl (s_mm_log G hz 11 h2) lk_11_175 mv_mm_log rfl rfl rfl rfl rfl (fun _ h => h) (by omega) (by omega) ?_
  refine en_s_istore (ls' := lw_ls i (some (.inl th)) (some (.inl x))) rfl rfl rfl ?_
  refine en_s_aload_n rfl rfl ?_
  refine en_callV (as := []) (rest := []) (vv := some (.inl th)) (bc' := bc) (bs' := bs) hz rfl (s_mm_thrown G hz 13 hth) lk_11_113 mv_mm_thrown rfl rfl rfl rfl rfl (fun _ h => h) (by omega) (by omega) ?_
  refine en_s_iload rfl rfl ?_
  refine en_s_icmp_eq rfl (fun _ => ?_) (fun q => absurd rfl q)
  refine en_s_iload rfl rfl ?_
  refine en_s_if_ne rfl (fun _ => ?_) (fun h0 => ?_)
  · exact en_s_goto rfl (lw_less k)
  · refine en_s_aload_n rfl rfl ?_
    refine en_s_iconst rfl ?_
    refine en_s_lald rfl rfl (lw_rd (h5 h0)) ?_
    refine en_s_iload rfl rfl ?_
    refine en_s_i2l rfl ?_
    refine en_s_lcmp rfl en_lcmp_eq ?_
    refine en_s_if_eq rfl (fun _ => ?_) (fun q => absurd rfl q)
    exact en_s_goto rfl (lw_less k)
theorem lc_latest {G : en_G} (hz : G.2.2.2.2.2.2.2.2 = none) {cs : List en_A} {i : Int32} {ii t : Nat} {σ : en_M} (hx : lw_ix G i ii) (h : Rel σ σ t) (ht : t + 14 ≤ 7168) : lw_ok G cs i σ (t + 14) 1342 := by
  obtain ⟨x, τ1, h1, h2, h4⟩ := lw_oneQ (C := fun σ x => k_cc_latest (G.2.2.2.2.2.2.2.1 (ii + 1)) σ = some x) (M := fun σ => k_mm_latest (G.2.2.2.2.2.2.2.1 (ii + 1)) σ) (t := t) (t' := t) (fun σ τ h => by obtain ⟨x, τ1, q1, q2, -, q4⟩ := pb_latest h (G.2.2.2.2.2.2.2.1 (ii + 1)); exact ⟨x, τ1, q1, q2, q4⟩) (fun σ r h => fr_lo (f_mm_latest h) rfl) h
  refine ⟨τ1, Rel_t h4 (by omega) ht, fun mc ms r cs' ρ' σ' bc bs k => ?_⟩
  refine en_s_aload_n rfl rfl ?_
  refine en_s_aload_nX rfl rfl ?_
  refine en_s_iload rfl rfl ?_
  refine en_s_iconst rfl ?_
  refine en_s_iadd rfl ?_
  refine en_s_sld rfl hx.2.1.1 hx.2.1.2 ?_
  refine en_callV (as := [.inl (G.2.2.2.2.2.2.2.1 (ii + 1))]) (rest := []) (vv := some (.inl x)) (bc' := bc) (bs' := bs) hz rfl (s_cc_latest G hz 9 h1) lk_11_176 mv_cc_latest rfl rfl rfl rfl rfl (fun _ h => h) (by omega) (by omega) ?_
  refine en_s_aload_n rfl rfl ?_
  refine en_s_aload_nX rfl rfl ?_
  refine en_s_iload rfl rfl ?_
  refine en_s_iconst rfl ?_
  refine en_s_iadd rfl ?_
  refine en_s_sld rfl hx.2.1.1 hx.2.1.2 ?_
  refine en_callV (as := [.inl (G.2.2.2.2.2.2.2.1 (ii + 1))]) (rest := [.inl x]) (vv := some (.inl x)) (bc' := bc) (bs' := bs) hz rfl (s_mm_latest G hz 11 h2) lk_11_179 mv_mm_latest rfl rfl rfl rfl rfl (fun _ h => h) (by omega) (by omega) ?_
  refine en_s_icmp_eq rfl (fun _ => ?_) (fun q => absurd rfl q)
  exact k
theorem lc_merged {G : en_G} (hz : G.2.2.2.2.2.2.2.2 = none) {cs : List en_A} {i : Int32} {ii t : Nat} {σ : en_M} (hx : lw_ix G i ii) (h : Rel σ σ t) (ht : t + 14 ≤ 7168) : lw_ok G cs i σ (t + 14) 1367 := by
  obtain ⟨a, x, τ1, h1, h2, h3, h4, h5⟩ := lw_twoQ (C := fun σ => k_cc_merged (G.2.2.2.2.2.2.2.1 (ii + 1)) (lw_fl (G.2.2.2.2.2.2.2.1 (ii + 2))) σ) (M := fun σ => k_mm_merged (G.2.2.2.2.2.2.2.1 (ii + 1)) (lw_fl (G.2.2.2.2.2.2.2.1 (ii + 2))) σ) (E := [(2, 1)]) (t := t) (t' := t) lw_id (by decide) (fun σ τ h => pb_merged h (G.2.2.2.2.2.2.2.1 (ii + 1)) (lw_fl (G.2.2.2.2.2.2.2.1 (ii + 2)))) (fun σ r h => fr_lo (f_mm_merged h) rfl) h
  obtain ⟨th, hth⟩ : ∃ z, τ1 24 0 0 0 = z := ⟨_, rfl⟩
  rw [hth] at h3 h5
  refine ⟨τ1, Rel_t h4 (by omega) ht, fun mc ms r cs' ρ' σ' bc bs k => ?_⟩
  refine en_s_aload_n rfl rfl ?_
  refine en_s_aload_nX rfl rfl ?_
  refine en_s_iload rfl rfl ?_
  refine en_s_iconst rfl ?_
  refine en_s_iadd rfl ?_
  refine en_s_sld rfl hx.2.1.1 hx.2.1.2 ?_
  refine en_s_aload_nX rfl rfl ?_
  refine en_s_iload rfl rfl ?_
  refine en_s_iconst rfl ?_
  refine en_s_iadd rfl ?_
  refine en_s_sld rfl hx.2.2.1.1 hx.2.2.1.2 ?_
  refine en_flag rfl rfl rfl rfl rfl ?_
  refine en_s_aload_n rfl rfl ?_
  refine en_callSH (as := [.inr (.inl (some (14, 0, 0))), .inl (G.2.2.2.2.2.2.2.1 (ii + 1)), .inl (lw_fl (G.2.2.2.2.2.2.2.1 (ii + 2))), .inr (.inl (some (36, 0, 0)))]) (rest := []) (vv := some (.inl th)) (bc' := bc) (bs' := bs) hz rfl (h_lw_merged G hz 5 (x := x) h1 h3) lk_11_180 mh_lw_merged rfl rfl rfl (fun _ h => h) (by omega) (by omega) ?_
  refine en_s_istore (ls' := lw_ls i (some (.inl th)) none) rfl rfl rfl ?_
  refine en_s_aload_n rfl rfl ?_
  refine en_s_aload_nX rfl rfl ?_
  refine en_s_iload rfl rfl ?_
  refine en_s_iconst rfl ?_
  refine en_s_iadd rfl ?_
  refine en_s_sld rfl hx.2.1.1 hx.2.1.2 ?_
  refine en_s_aload_nX rfl rfl ?_
  refine en_s_iload rfl rfl ?_
  refine en_s_iconst rfl ?_
  refine en_s_iadd rfl ?_
  refine en_s_sld rfl hx.2.2.1.1 hx.2.2.1.2 ?_
  refine en_flag rfl rfl rfl rfl rfl ?_
  refine en_callV (as := [.inl (G.2.2.2.2.2.2.2.1 (ii + 1)), .inl (lw_fl (G.2.2.2.2.2.2.2.1 (ii + 2)))]) (rest := []) (vv := some (.inl x)) (bc' := bc) (bs' := bs) hz rfl (s_mm_merged G hz 11 h2) lk_11_182 mv_mm_merged rfl rfl rfl rfl rfl (fun _ h => h) (by omega) (by omega) ?_
  refine en_s_istore (ls' := lw_ls i (some (.inl th)) (some (.inl x))) rfl rfl rfl ?_
  refine en_s_aload_n rfl rfl ?_
  refine en_callV (as := []) (rest := []) (vv := some (.inl th)) (bc' := bc) (bs' := bs) hz rfl (s_mm_thrown G hz 13 hth) lk_11_113 mv_mm_thrown rfl rfl rfl rfl rfl (fun _ h => h) (by omega) (by omega) ?_
  refine en_s_iload rfl rfl ?_
  refine en_s_icmp_eq rfl (fun _ => ?_) (fun q => absurd rfl q)
  refine en_s_iload rfl rfl ?_
  refine en_s_if_ne rfl (fun _ => ?_) (fun h0 => ?_)
  · exact en_s_goto rfl (lw_less k)
  · refine en_s_aload_n rfl rfl ?_
    refine en_s_iconst rfl ?_
    refine en_s_lald rfl rfl (lw_rd (h5 h0)) ?_
    refine en_s_iload rfl rfl ?_
    refine en_s_i2l rfl ?_
    refine en_s_lcmp rfl en_lcmp_eq ?_
    refine en_s_if_eq rfl (fun _ => ?_) (fun q => absurd rfl q)
    exact en_s_goto rfl (lw_less k)
theorem lc_share {G : en_G} (hz : G.2.2.2.2.2.2.2.2 = none) {cs : List en_A} {i : Int32} {ii t : Nat} {σ : en_M} (hx : lw_ix G i ii) (h : Rel σ σ t) (ht : t + 14 ≤ 7168) : lw_ok G cs i σ (t + 14) 1451 := by
  obtain ⟨a, x, τ1, h1, h2, h3, h4, h5⟩ := lw_twoQ (C := fun σ => k_cc_share (G.2.2.2.2.2.2.2.1 (ii + 1)) σ) (M := fun σ => k_mm_share (G.2.2.2.2.2.2.2.1 (ii + 1)) σ) (E := [(2, 1)]) (t := t) (t' := t) lw_id (by decide) (fun σ τ h => pb_share h (G.2.2.2.2.2.2.2.1 (ii + 1))) (fun σ r h => fr_lo (f_mm_share h) rfl) h
  obtain ⟨th, hth⟩ : ∃ z, τ1 24 0 0 0 = z := ⟨_, rfl⟩
  rw [hth] at h3 h5
  refine ⟨τ1, Rel_t h4 (by omega) ht, fun mc ms r cs' ρ' σ' bc bs k => ?_⟩
  refine en_s_aload_n rfl rfl ?_
  refine en_s_aload_nX rfl rfl ?_
  refine en_s_iload rfl rfl ?_
  refine en_s_iconst rfl ?_
  refine en_s_iadd rfl ?_
  refine en_s_sld rfl hx.2.1.1 hx.2.1.2 ?_
  refine en_s_aload_n rfl rfl ?_
  refine en_callSH (as := [.inr (.inl (some (14, 0, 0))), .inl (G.2.2.2.2.2.2.2.1 (ii + 1)), .inr (.inl (some (36, 0, 0)))]) (rest := []) (vv := some (.inl th)) (bc' := bc) (bs' := bs) hz rfl (h_lw_share G hz 5 (x := x) h1 h3) lk_11_183 mh_lw_share rfl rfl rfl (fun _ h => h) (by omega) (by omega) ?_
  refine en_s_istore (ls' := lw_ls i (some (.inl th)) none) rfl rfl rfl ?_
  refine en_s_aload_n rfl rfl ?_
  refine en_s_aload_nX rfl rfl ?_
  refine en_s_iload rfl rfl ?_
  refine en_s_iconst rfl ?_
  refine en_s_iadd rfl ?_
  refine en_s_sld rfl hx.2.1.1 hx.2.1.2 ?_
  refine en_callV (as := [.inl (G.2.2.2.2.2.2.2.1 (ii + 1))]) (rest := []) (vv := some (.inl x)) (bc' := bc) (bs' := bs) hz rfl (s_mm_share G hz 11 h2) lk_11_185 mv_mm_share rfl rfl rfl rfl rfl (fun _ h => h) (by omega) (by omega) ?_
  refine en_s_istore (ls' := lw_ls i (some (.inl th)) (some (.inl x))) rfl rfl rfl ?_
  refine en_s_aload_n rfl rfl ?_
  refine en_callV (as := []) (rest := []) (vv := some (.inl th)) (bc' := bc) (bs' := bs) hz rfl (s_mm_thrown G hz 13 hth) lk_11_113 mv_mm_thrown rfl rfl rfl rfl rfl (fun _ h => h) (by omega) (by omega) ?_
  refine en_s_iload rfl rfl ?_
  refine en_s_icmp_eq rfl (fun _ => ?_) (fun q => absurd rfl q)
  refine en_s_iload rfl rfl ?_
  refine en_s_if_ne rfl (fun _ => ?_) (fun h0 => ?_)
  · exact en_s_goto rfl (lw_less k)
  · refine en_s_aload_n rfl rfl ?_
    refine en_s_iconst rfl ?_
    refine en_s_lald rfl rfl (lw_rd (h5 h0)) ?_
    refine en_s_iload rfl rfl ?_
    refine en_s_i2l rfl ?_
    refine en_s_lcmp rfl en_lcmp_eq ?_
    refine en_s_if_eq rfl (fun _ => ?_) (fun q => absurd rfl q)
    exact en_s_goto rfl (lw_less k)
theorem lc_calendar {G : en_G} (hz : G.2.2.2.2.2.2.2.2 = none) {cs : List en_A} {i : Int32} {ii t : Nat} {σ : en_M} (hx : lw_ix G i ii) (h : Rel σ σ t) (ht : t + 14 ≤ 7168) : lw_ok G cs i σ (t + 14) 1507 := by
  obtain ⟨a, x, τ1, h1, h2, h3, h4, h5⟩ := lw_twoQ (C := fun σ => k_cc_calendar (G.2.2.2.2.2.2.2.1 (ii + 1)) (G.2.2.2.2.2.2.2.1 (ii + 2)) σ) (M := fun σ => k_mm_calendar (G.2.2.2.2.2.2.2.1 (ii + 1)) (G.2.2.2.2.2.2.2.1 (ii + 2)) σ) (E := [(0, 1)]) (t := t) (t' := t) lw_id (by decide) (fun σ τ h => pb_calendar h (G.2.2.2.2.2.2.2.1 (ii + 1)) (G.2.2.2.2.2.2.2.1 (ii + 2))) (fun σ r h => fr_lo (f_mm_calendar h) rfl) h
  obtain ⟨th, hth⟩ : ∃ z, τ1 24 0 0 0 = z := ⟨_, rfl⟩
  rw [hth] at h3 h5
  refine ⟨τ1, Rel_t h4 (by omega) ht, fun mc ms r cs' ρ' σ' bc bs k => ?_⟩
  refine en_s_aload_n rfl rfl ?_
  refine en_s_aload_nX rfl rfl ?_
  refine en_s_iload rfl rfl ?_
  refine en_s_iconst rfl ?_
  refine en_s_iadd rfl ?_
  refine en_s_sld rfl hx.2.1.1 hx.2.1.2 ?_
  refine en_s_aload_nX rfl rfl ?_
  refine en_s_iload rfl rfl ?_
  refine en_s_iconst rfl ?_
  refine en_s_iadd rfl ?_
  refine en_s_sld rfl hx.2.2.1.1 hx.2.2.1.2 ?_
  refine en_s_aload_n rfl rfl ?_
  refine en_callSH (as := [.inr (.inl (some (14, 0, 0))), .inl (G.2.2.2.2.2.2.2.1 (ii + 1)), .inl (G.2.2.2.2.2.2.2.1 (ii + 2)), .inr (.inl (some (36, 0, 0)))]) (rest := []) (vv := some (.inl th)) (bc' := bc) (bs' := bs) hz rfl (h_lw_calendar G hz 6 (x := x) h1 h3) lk_11_186 mh_lw_calendar rfl rfl rfl (fun _ h => h) (by omega) (by omega) ?_
  refine en_s_istore (ls' := lw_ls i (some (.inl th)) none) rfl rfl rfl ?_
  refine en_s_aload_n rfl rfl ?_
  refine en_s_aload_nX rfl rfl ?_
  refine en_s_iload rfl rfl ?_
  refine en_s_iconst rfl ?_
  refine en_s_iadd rfl ?_
  refine en_s_sld rfl hx.2.1.1 hx.2.1.2 ?_
  refine en_s_aload_nX rfl rfl ?_
  refine en_s_iload rfl rfl ?_
  refine en_s_iconst rfl ?_
  refine en_s_iadd rfl ?_
  refine en_s_sld rfl hx.2.2.1.1 hx.2.2.1.2 ?_
  refine en_callV (as := [.inl (G.2.2.2.2.2.2.2.1 (ii + 1)), .inl (G.2.2.2.2.2.2.2.1 (ii + 2))]) (rest := []) (vv := some (.inl x)) (bc' := bc) (bs' := bs) hz rfl (s_mm_calendar G hz 8 h2) lk_11_188 mv_mm_calendar rfl rfl rfl rfl rfl (fun _ h => h) (by omega) (by omega) ?_
  refine en_s_istore (ls' := lw_ls i (some (.inl th)) (some (.inl x))) rfl rfl rfl ?_
  refine en_s_aload_n rfl rfl ?_
  refine en_callV (as := []) (rest := []) (vv := some (.inl th)) (bc' := bc) (bs' := bs) hz rfl (s_mm_thrown G hz 13 hth) lk_11_113 mv_mm_thrown rfl rfl rfl rfl rfl (fun _ h => h) (by omega) (by omega) ?_
  refine en_s_iload rfl rfl ?_
  refine en_s_icmp_eq rfl (fun _ => ?_) (fun q => absurd rfl q)
  refine en_s_iload rfl rfl ?_
  refine en_s_if_ne rfl (fun _ => ?_) (fun h0 => ?_)
  · exact en_s_goto rfl (lw_less k)
  · refine en_s_aload_n rfl rfl ?_
    refine en_s_iconst rfl ?_
    refine en_s_lald rfl rfl (lw_rd (h5 h0)) ?_
    refine en_s_iload rfl rfl ?_
    refine en_s_i2l rfl ?_
    refine en_s_lcmp rfl en_lcmp_eq ?_
    refine en_s_if_eq rfl (fun _ => ?_) (fun q => absurd rfl q)
    exact en_s_goto rfl (lw_less k)
theorem lc_delay {G : en_G} (hz : G.2.2.2.2.2.2.2.2 = none) {cs : List en_A} {i : Int32} {ii t : Nat} {σ : en_M} (hx : lw_ix G i ii) (h : Rel σ σ t) (ht : t + 14 ≤ 7168) : lw_ok G cs i σ (t + 14) 1575 := by
  obtain ⟨a, x, τ1, h1, h2, h3, h4, h5⟩ := lw_twoQ (C := fun σ => k_cc_delay (G.2.2.2.2.2.2.2.1 (ii + 1)) σ) (M := fun σ => k_mm_delay (G.2.2.2.2.2.2.2.1 (ii + 1)) σ) (E := [(2, 1)]) (t := t) (t' := t) lw_id (by decide) (fun σ τ h => pb_delay h (G.2.2.2.2.2.2.2.1 (ii + 1))) (fun σ r h => fr_lo (f_mm_delay h) rfl) h
  obtain ⟨th, hth⟩ : ∃ z, τ1 24 0 0 0 = z := ⟨_, rfl⟩
  rw [hth] at h3 h5
  refine ⟨τ1, Rel_t h4 (by omega) ht, fun mc ms r cs' ρ' σ' bc bs k => ?_⟩
  refine en_s_aload_n rfl rfl ?_
  refine en_s_aload_nX rfl rfl ?_
  refine en_s_iload rfl rfl ?_
  refine en_s_iconst rfl ?_
  refine en_s_iadd rfl ?_
  refine en_s_sld rfl hx.2.1.1 hx.2.1.2 ?_
  refine en_s_aload_n rfl rfl ?_
  refine en_callSH (as := [.inr (.inl (some (14, 0, 0))), .inl (G.2.2.2.2.2.2.2.1 (ii + 1)), .inr (.inl (some (36, 0, 0)))]) (rest := []) (vv := some (.inl th)) (bc' := bc) (bs' := bs) hz rfl (h_lw_delay G hz 5 (x := x) h1 h3) lk_11_189 mh_lw_delay rfl rfl rfl (fun _ h => h) (by omega) (by omega) ?_
  refine en_s_istore (ls' := lw_ls i (some (.inl th)) none) rfl rfl rfl ?_
  refine en_s_aload_n rfl rfl ?_
  refine en_s_aload_nX rfl rfl ?_
  refine en_s_iload rfl rfl ?_
  refine en_s_iconst rfl ?_
  refine en_s_iadd rfl ?_
  refine en_s_sld rfl hx.2.1.1 hx.2.1.2 ?_
  refine en_callV (as := [.inl (G.2.2.2.2.2.2.2.1 (ii + 1))]) (rest := []) (vv := some (.inl x)) (bc' := bc) (bs' := bs) hz rfl (s_mm_delay G hz 11 h2) lk_11_191 mv_mm_delay rfl rfl rfl rfl rfl (fun _ h => h) (by omega) (by omega) ?_
  refine en_s_istore (ls' := lw_ls i (some (.inl th)) (some (.inl x))) rfl rfl rfl ?_
  refine en_s_aload_n rfl rfl ?_
  refine en_callV (as := []) (rest := []) (vv := some (.inl th)) (bc' := bc) (bs' := bs) hz rfl (s_mm_thrown G hz 13 hth) lk_11_113 mv_mm_thrown rfl rfl rfl rfl rfl (fun _ h => h) (by omega) (by omega) ?_
  refine en_s_iload rfl rfl ?_
  refine en_s_icmp_eq rfl (fun _ => ?_) (fun q => absurd rfl q)
  refine en_s_iload rfl rfl ?_
  refine en_s_if_ne rfl (fun _ => ?_) (fun h0 => ?_)
  · exact en_s_goto rfl (lw_less k)
  · refine en_s_aload_n rfl rfl ?_
    refine en_s_iconst rfl ?_
    refine en_s_lald rfl rfl (lw_rd (h5 h0)) ?_
    refine en_s_iload rfl rfl ?_
    refine en_s_i2l rfl ?_
    refine en_s_lcmp rfl en_lcmp_eq ?_
    refine en_s_if_eq rfl (fun _ => ?_) (fun q => absurd rfl q)
    exact en_s_goto rfl (lw_less k)
theorem lc_rest {G : en_G} (hz : G.2.2.2.2.2.2.2.2 = none) {cs : List en_A} {i : Int32} {ii t : Nat} {σ : en_M} (hx : lw_ix G i ii) (h : Rel σ σ t) (ht : t + 14 ≤ 7168) : lw_ok G cs i σ (t + 14) 1631 := by
  obtain ⟨x, τ1, h1, h2, h4⟩ := lw_oneQ (C := fun σ x => k_cc_rest  σ = some x) (M := fun σ => k_mm_rest  σ) (t := t) (t' := t) (fun σ τ h => by obtain ⟨x, τ1, q1, q2, -, q4⟩ := pb_rest h ; exact ⟨x, τ1, q1, q2, q4⟩) (fun σ r h => fr_lo (f_mm_rest h) rfl) h
  refine ⟨τ1, Rel_t h4 (by omega) ht, fun mc ms r cs' ρ' σ' bc bs k => ?_⟩
  refine en_s_aload_n rfl rfl ?_
  refine en_callV (as := []) (rest := []) (vv := some (.inl x)) (bc' := bc) (bs' := bs) hz rfl (s_cc_rest G hz 10 h1) lk_11_192 mv_cc_rest rfl rfl rfl rfl rfl (fun _ h => h) (by omega) (by omega) ?_
  refine en_s_aload_n rfl rfl ?_
  refine en_callV (as := []) (rest := [.inl x]) (vv := some (.inl x)) (bc' := bc) (bs' := bs) hz rfl (s_mm_rest G hz 12 h2) lk_11_195 mv_mm_rest rfl rfl rfl rfl rfl (fun _ h => h) (by omega) (by omega) ?_
  refine en_s_icmp_eq rfl (fun _ => ?_) (fun q => absurd rfl q)
  exact k
theorem lc_queue {G : en_G} (hz : G.2.2.2.2.2.2.2.2 = none) {cs : List en_A} {i : Int32} {ii t : Nat} {σ : en_M} (hx : lw_ix G i ii) (h : Rel σ σ t) (ht : t + 14 ≤ 7168) : lw_ok G cs i σ (t + 14) 1644 := by
  obtain ⟨x, σ1, τ1, h1, h2, h4⟩ := lw_one (C := fun σ => k_cc_queue (G.2.2.2.2.2.2.2.1 (ii + 1)) (lw_fl (G.2.2.2.2.2.2.2.1 (ii + 2))) σ) (M := fun σ => k_mm_queue (G.2.2.2.2.2.2.2.1 (ii + 1)) (lw_fl (G.2.2.2.2.2.2.2.1 (ii + 2))) σ) (t := t) (t' := t) (fun σ τ h => by obtain ⟨x, σ1, τ1, q1, q2, -, q4⟩ := pb_queue h (G.2.2.2.2.2.2.2.1 (ii + 1)) (lw_fl (G.2.2.2.2.2.2.2.1 (ii + 2))); exact ⟨x, σ1, τ1, q1, q2, q4⟩) (fun σ r h => fr_hi (f_cc_queue h) rfl) (fun σ r h => fr_lo (f_mm_queue h) rfl) h
  refine ⟨τ1, Rel_t h4 (by omega) ht, fun mc ms r cs' ρ' σ' bc bs k => ?_⟩
  refine en_s_aload_n rfl rfl ?_
  refine en_s_aload_nX rfl rfl ?_
  refine en_s_iload rfl rfl ?_
  refine en_s_iconst rfl ?_
  refine en_s_iadd rfl ?_
  refine en_s_sld rfl hx.2.1.1 hx.2.1.2 ?_
  refine en_s_aload_nX rfl rfl ?_
  refine en_s_iload rfl rfl ?_
  refine en_s_iconst rfl ?_
  refine en_s_iadd rfl ?_
  refine en_s_sld rfl hx.2.2.1.1 hx.2.2.1.2 ?_
  refine en_flag rfl rfl rfl rfl rfl ?_
  refine en_callV (as := [.inl (G.2.2.2.2.2.2.2.1 (ii + 1)), .inl (lw_fl (G.2.2.2.2.2.2.2.1 (ii + 2)))]) (rest := []) (vv := some (.inl x)) (bc' := bc) (bs' := bs) hz rfl (s_cc_queue G hz 9 h1) lk_11_196 mv_cc_queue rfl rfl rfl rfl rfl (fun _ h => h) (by omega) (by omega) ?_
  refine en_s_aload_n rfl rfl ?_
  refine en_s_aload_nX rfl rfl ?_
  refine en_s_iload rfl rfl ?_
  refine en_s_iconst rfl ?_
  refine en_s_iadd rfl ?_
  refine en_s_sld rfl hx.2.1.1 hx.2.1.2 ?_
  refine en_s_aload_nX rfl rfl ?_
  refine en_s_iload rfl rfl ?_
  refine en_s_iconst rfl ?_
  refine en_s_iadd rfl ?_
  refine en_s_sld rfl hx.2.2.1.1 hx.2.2.1.2 ?_
  refine en_flag rfl rfl rfl rfl rfl ?_
  refine en_callV (as := [.inl (G.2.2.2.2.2.2.2.1 (ii + 1)), .inl (lw_fl (G.2.2.2.2.2.2.2.1 (ii + 2)))]) (rest := [.inl x]) (vv := some (.inl x)) (bc' := bc) (bs' := bs) hz rfl (s_mm_queue G hz 5 h2) lk_11_199 mv_mm_queue rfl rfl rfl rfl rfl (fun _ h => h) (by omega) (by omega) ?_
  refine en_s_icmp_eq rfl (fun _ => ?_) (fun q => absurd rfl q)
  exact k
theorem lc_finds {G : en_G} (hz : G.2.2.2.2.2.2.2.2 = none) {cs : List en_A} {i : Int32} {ii t : Nat} {σ : en_M} (hx : lw_ix G i ii) (h : Rel σ σ t) (ht : t + 14 ≤ 7168) : lw_ok G cs i σ (t + 14) 1697 := by
  obtain ⟨a, x, τ1, h1, h2, h3, h4, h5⟩ := lw_twoQ (C := fun σ => k_cc_finds (G.2.2.2.2.2.2.2.1 (ii + 1)) (G.2.2.2.2.2.2.2.1 (ii + 2)) (G.2.2.2.2.2.2.2.1 (ii + 3)) (G.2.2.2.2.2.2.2.1 (ii + 4)) σ) (M := fun σ => k_mm_finds2 (G.2.2.2.2.2.2.2.1 (ii + 1)) (G.2.2.2.2.2.2.2.1 (ii + 2)) (G.2.2.2.2.2.2.2.1 (ii + 3)) (G.2.2.2.2.2.2.2.1 (ii + 4)) σ) (E := [(2, 1), (0, 2)]) (t := t) (t' := t) lw_fl (by decide) (fun σ τ h => pb_finds h (G.2.2.2.2.2.2.2.1 (ii + 1)) (G.2.2.2.2.2.2.2.1 (ii + 2)) (G.2.2.2.2.2.2.2.1 (ii + 3)) (G.2.2.2.2.2.2.2.1 (ii + 4))) (fun σ r h => fr_lo (f_mm_finds2 h) rfl) h
  obtain ⟨th, hth⟩ : ∃ z, τ1 24 0 0 0 = z := ⟨_, rfl⟩
  rw [hth] at h3 h5
  refine ⟨τ1, Rel_t h4 (by omega) ht, fun mc ms r cs' ρ' σ' bc bs k => ?_⟩
  refine en_s_aload_n rfl rfl ?_
  refine en_s_aload_nX rfl rfl ?_
  refine en_s_iload rfl rfl ?_
  refine en_s_iconst rfl ?_
  refine en_s_iadd rfl ?_
  refine en_s_sld rfl hx.2.1.1 hx.2.1.2 ?_
  refine en_s_aload_nX rfl rfl ?_
  refine en_s_iload rfl rfl ?_
  refine en_s_iconst rfl ?_
  refine en_s_iadd rfl ?_
  refine en_s_sld rfl hx.2.2.1.1 hx.2.2.1.2 ?_
  refine en_s_aload_nX rfl rfl ?_
  refine en_s_iload rfl rfl ?_
  refine en_s_iconst rfl ?_
  refine en_s_iadd rfl ?_
  refine en_s_sld rfl hx.2.2.2.1.1 hx.2.2.2.1.2 ?_
  refine en_s_aload_nX rfl rfl ?_
  refine en_s_iload rfl rfl ?_
  refine en_s_iconst rfl ?_
  refine en_s_iadd rfl ?_
  refine en_s_sld rfl hx.2.2.2.2.1.1 hx.2.2.2.2.1.2 ?_
  refine en_s_aload_n rfl rfl ?_
  refine en_callSH (as := [.inr (.inl (some (14, 0, 0))), .inl (G.2.2.2.2.2.2.2.1 (ii + 1)), .inl (G.2.2.2.2.2.2.2.1 (ii + 2)), .inl (G.2.2.2.2.2.2.2.1 (ii + 3)), .inl (G.2.2.2.2.2.2.2.1 (ii + 4)), .inr (.inl (some (36, 0, 0)))]) (rest := []) (vv := some (.inl th)) (bc' := bc) (bs' := bs) hz rfl (h_lw_finds G hz 6 (x := x) h1 h3) lk_11_200 mh_lw_finds rfl rfl rfl (fun _ h => h) (by omega) (by omega) ?_
  refine en_s_istore (ls' := lw_ls i (some (.inl th)) none) rfl rfl rfl ?_
  refine en_s_aload_n rfl rfl ?_
  refine en_s_aload_nX rfl rfl ?_
  refine en_s_iload rfl rfl ?_
  refine en_s_iconst rfl ?_
  refine en_s_iadd rfl ?_
  refine en_s_sld rfl hx.2.1.1 hx.2.1.2 ?_
  refine en_s_aload_nX rfl rfl ?_
  refine en_s_iload rfl rfl ?_
  refine en_s_iconst rfl ?_
  refine en_s_iadd rfl ?_
  refine en_s_sld rfl hx.2.2.1.1 hx.2.2.1.2 ?_
  refine en_s_aload_nX rfl rfl ?_
  refine en_s_iload rfl rfl ?_
  refine en_s_iconst rfl ?_
  refine en_s_iadd rfl ?_
  refine en_s_sld rfl hx.2.2.2.1.1 hx.2.2.2.1.2 ?_
  refine en_s_aload_nX rfl rfl ?_
  refine en_s_iload rfl rfl ?_
  refine en_s_iconst rfl ?_
  refine en_s_iadd rfl ?_
  refine en_s_sld rfl hx.2.2.2.2.1.1 hx.2.2.2.2.1.2 ?_
  refine en_callV (as := [.inl (G.2.2.2.2.2.2.2.1 (ii + 1)), .inl (G.2.2.2.2.2.2.2.1 (ii + 2)), .inl (G.2.2.2.2.2.2.2.1 (ii + 3)), .inl (G.2.2.2.2.2.2.2.1 (ii + 4))]) (rest := []) (vv := some (.inl x)) (bc' := bc) (bs' := bs) hz rfl (s_mm_finds2 G hz 6 h2) lk_11_202 mv_mm_finds2 rfl rfl rfl rfl rfl (fun _ h => h) (by omega) (by omega) ?_
  refine en_s_istore (ls' := lw_ls i (some (.inl th)) (some (.inl x))) rfl rfl rfl ?_
  refine en_s_aload_n rfl rfl ?_
  refine en_callV (as := []) (rest := []) (vv := some (.inl th)) (bc' := bc) (bs' := bs) hz rfl (s_mm_thrown G hz 13 hth) lk_11_113 mv_mm_thrown rfl rfl rfl rfl rfl (fun _ h => h) (by omega) (by omega) ?_
  refine en_s_iload rfl rfl ?_
  refine en_s_icmp_eq rfl (fun _ => ?_) (fun q => absurd rfl q)
  refine en_s_iload rfl rfl ?_
  refine en_s_if_ne rfl (fun _ => ?_) (fun h0 => ?_)
  · exact en_s_goto rfl (lw_less k)
  · refine en_s_aload_n rfl rfl ?_
    refine en_s_iconst rfl ?_
    refine en_s_lald rfl rfl (lw_rd (h5 h0)) ?_
    refine en_s_iload rfl rfl ?_
    refine en_lfl rfl rfl rfl rfl rfl ?_
    refine en_s_lcmp rfl en_lcmp_eq ?_
    refine en_s_if_eq rfl (fun _ => ?_) (fun q => absurd rfl q)
    exact en_s_goto rfl (lw_less k)
theorem lc_blind {G : en_G} (hz : G.2.2.2.2.2.2.2.2 = none) {cs : List en_A} {i : Int32} {ii t : Nat} {σ : en_M} (hx : lw_ix G i ii) (h : Rel σ σ t) (ht : t + 14 ≤ 7168) : lw_ok G cs i σ (t + 14) 1796 := by
  obtain ⟨a, x, σ1, τ1, h1, h2, h3, h4, h5⟩ := lw_two (C := fun σ => k_cc_blind (G.2.2.2.2.2.2.2.1 (ii + 1)) (G.2.2.2.2.2.2.2.1 (ii + 2)) σ) (M := fun σ => k_mm_blind (G.2.2.2.2.2.2.2.1 (ii + 1)) (G.2.2.2.2.2.2.2.1 (ii + 2)) σ) (E := [(2, 1)]) (t := t) (t' := t) lw_id (by decide) (fun σ τ h => pb_blind h (G.2.2.2.2.2.2.2.1 (ii + 1)) (G.2.2.2.2.2.2.2.1 (ii + 2))) (fun σ r h => fr_hi (f_cc_blind h) rfl) (fun σ r h => fr_lo (f_mm_blind h) rfl) h
  obtain ⟨th, hth⟩ : ∃ z, τ1 24 0 0 0 = z := ⟨_, rfl⟩
  rw [hth] at h3 h5
  refine ⟨τ1, Rel_t h4 (by omega) ht, fun mc ms r cs' ρ' σ' bc bs k => ?_⟩
  refine en_s_aload_n rfl rfl ?_
  refine en_s_aload_nX rfl rfl ?_
  refine en_s_iload rfl rfl ?_
  refine en_s_iconst rfl ?_
  refine en_s_iadd rfl ?_
  refine en_s_sld rfl hx.2.1.1 hx.2.1.2 ?_
  refine en_s_aload_nX rfl rfl ?_
  refine en_s_iload rfl rfl ?_
  refine en_s_iconst rfl ?_
  refine en_s_iadd rfl ?_
  refine en_s_sld rfl hx.2.2.1.1 hx.2.2.1.2 ?_
  refine en_s_aload_n rfl rfl ?_
  refine en_callSH (as := [.inr (.inl (some (14, 0, 0))), .inl (G.2.2.2.2.2.2.2.1 (ii + 1)), .inl (G.2.2.2.2.2.2.2.1 (ii + 2)), .inr (.inl (some (36, 0, 0)))]) (rest := []) (vv := some (.inl th)) (bc' := bc) (bs' := bs) hz rfl (h_lw_blind G hz 6 (x := x) h1 h3) lk_11_203 mh_lw_blind rfl rfl rfl (fun _ h => h) (by omega) (by omega) ?_
  refine en_s_istore (ls' := lw_ls i (some (.inl th)) none) rfl rfl rfl ?_
  refine en_s_aload_n rfl rfl ?_
  refine en_s_aload_nX rfl rfl ?_
  refine en_s_iload rfl rfl ?_
  refine en_s_iconst rfl ?_
  refine en_s_iadd rfl ?_
  refine en_s_sld rfl hx.2.1.1 hx.2.1.2 ?_
  refine en_s_aload_nX rfl rfl ?_
  refine en_s_iload rfl rfl ?_
  refine en_s_iconst rfl ?_
  refine en_s_iadd rfl ?_
  refine en_s_sld rfl hx.2.2.1.1 hx.2.2.1.2 ?_
  refine en_callV (as := [.inl (G.2.2.2.2.2.2.2.1 (ii + 1)), .inl (G.2.2.2.2.2.2.2.1 (ii + 2))]) (rest := []) (vv := some (.inl x)) (bc' := bc) (bs' := bs) hz rfl (s_mm_blind G hz 5 h2) lk_11_205 mv_mm_blind rfl rfl rfl rfl rfl (fun _ h => h) (by omega) (by omega) ?_
  refine en_s_istore (ls' := lw_ls i (some (.inl th)) (some (.inl x))) rfl rfl rfl ?_
  refine en_s_aload_n rfl rfl ?_
  refine en_callV (as := []) (rest := []) (vv := some (.inl th)) (bc' := bc) (bs' := bs) hz rfl (s_mm_thrown G hz 13 hth) lk_11_113 mv_mm_thrown rfl rfl rfl rfl rfl (fun _ h => h) (by omega) (by omega) ?_
  refine en_s_iload rfl rfl ?_
  refine en_s_icmp_eq rfl (fun _ => ?_) (fun q => absurd rfl q)
  refine en_s_iload rfl rfl ?_
  refine en_s_if_ne rfl (fun _ => ?_) (fun h0 => ?_)
  · exact en_s_goto rfl (lw_less k)
  · refine en_s_aload_n rfl rfl ?_
    refine en_s_iconst rfl ?_
    refine en_s_lald rfl rfl (lw_rd (h5 h0)) ?_
    refine en_s_iload rfl rfl ?_
    refine en_s_i2l rfl ?_
    refine en_s_lcmp rfl en_lcmp_eq ?_
    refine en_s_if_eq rfl (fun _ => ?_) (fun q => absurd rfl q)
    exact en_s_goto rfl (lw_less k)
theorem lc_works {G : en_G} (hz : G.2.2.2.2.2.2.2.2 = none) {cs : List en_A} {i : Int32} {ii t : Nat} {σ : en_M} (hx : lw_ix G i ii) (h : Rel σ σ t) (ht : t + 14 ≤ 7168) : lw_ok G cs i σ (t + 14) 1864 := by
  obtain ⟨a, x, σ1, τ1, h1, h2, h3, h4, h5⟩ := lw_two (C := fun σ => k_cc_works (G.2.2.2.2.2.2.2.1 (ii + 1)) σ) (M := fun σ => k_mm_works (G.2.2.2.2.2.2.2.1 (ii + 1)) σ) (E := [(0, 1)]) (t := t) (t' := t) lw_id (by decide) (fun σ τ h => pb_works h (G.2.2.2.2.2.2.2.1 (ii + 1))) (fun σ r h => fr_hi (f_cc_works h) rfl) (fun σ r h => fr_lo (f_mm_works h) rfl) h
  obtain ⟨th, hth⟩ : ∃ z, τ1 24 0 0 0 = z := ⟨_, rfl⟩
  rw [hth] at h3 h5
  refine ⟨τ1, Rel_t h4 (by omega) ht, fun mc ms r cs' ρ' σ' bc bs k => ?_⟩
  refine en_s_aload_n rfl rfl ?_
  refine en_s_aload_nX rfl rfl ?_
  refine en_s_iload rfl rfl ?_
  refine en_s_iconst rfl ?_
  refine en_s_iadd rfl ?_
  refine en_s_sld rfl hx.2.1.1 hx.2.1.2 ?_
  refine en_s_aload_n rfl rfl ?_
  refine en_callSH (as := [.inr (.inl (some (14, 0, 0))), .inl (G.2.2.2.2.2.2.2.1 (ii + 1)), .inr (.inl (some (36, 0, 0)))]) (rest := []) (vv := some (.inl th)) (bc' := bc) (bs' := bs) hz rfl (h_lw_works G hz 6 (x := x) h1 h3) lk_11_206 mh_lw_works rfl rfl rfl (fun _ h => h) (by omega) (by omega) ?_
  refine en_s_istore (ls' := lw_ls i (some (.inl th)) none) rfl rfl rfl ?_
  refine en_s_aload_n rfl rfl ?_
  refine en_s_aload_nX rfl rfl ?_
  refine en_s_iload rfl rfl ?_
  refine en_s_iconst rfl ?_
  refine en_s_iadd rfl ?_
  refine en_s_sld rfl hx.2.1.1 hx.2.1.2 ?_
  refine en_callV (as := [.inl (G.2.2.2.2.2.2.2.1 (ii + 1))]) (rest := []) (vv := some (.inl x)) (bc' := bc) (bs' := bs) hz rfl (s_mm_works G hz 6 h2) lk_11_208 mv_mm_works rfl rfl rfl rfl rfl (fun _ h => h) (by omega) (by omega) ?_
  refine en_s_istore (ls' := lw_ls i (some (.inl th)) (some (.inl x))) rfl rfl rfl ?_
  refine en_s_aload_n rfl rfl ?_
  refine en_callV (as := []) (rest := []) (vv := some (.inl th)) (bc' := bc) (bs' := bs) hz rfl (s_mm_thrown G hz 13 hth) lk_11_113 mv_mm_thrown rfl rfl rfl rfl rfl (fun _ h => h) (by omega) (by omega) ?_
  refine en_s_iload rfl rfl ?_
  refine en_s_icmp_eq rfl (fun _ => ?_) (fun q => absurd rfl q)
  refine en_s_iload rfl rfl ?_
  refine en_s_if_ne rfl (fun _ => ?_) (fun h0 => ?_)
  · exact en_s_goto rfl (lw_less k)
  · refine en_s_aload_n rfl rfl ?_
    refine en_s_iconst rfl ?_
    refine en_s_lald rfl rfl (lw_rd (h5 h0)) ?_
    refine en_s_iload rfl rfl ?_
    refine en_s_i2l rfl ?_
    refine en_s_lcmp rfl en_lcmp_eq ?_
    refine en_s_if_eq rfl (fun _ => ?_) (fun q => absurd rfl q)
    exact en_s_goto rfl (lw_less k)
theorem lc_quiet {G : en_G} (hz : G.2.2.2.2.2.2.2.2 = none) {cs : List en_A} {i : Int32} {ii t : Nat} {σ : en_M} (hx : lw_ix G i ii) (h : Rel σ σ t) (ht : t + 14 ≤ 7168) : lw_ok G cs i σ (t + 14) 1920 := by
  obtain ⟨x, σ1, τ1, h1, h2, h4⟩ := lw_one (C := fun σ => k_cc_quiet  σ) (M := fun σ => k_mm_quiet  σ) (t := t) (t' := t) (fun σ τ h => by obtain ⟨x, σ1, τ1, q1, q2, -, q4⟩ := pb_quiet h ; exact ⟨x, σ1, τ1, q1, q2, q4⟩) (fun σ r h => fr_hi (f_cc_quiet h) rfl) (fun σ r h => fr_lo (f_mm_quiet h) rfl) h
  refine ⟨τ1, Rel_t h4 (by omega) ht, fun mc ms r cs' ρ' σ' bc bs k => ?_⟩
  refine en_s_aload_n rfl rfl ?_
  refine en_callV (as := []) (rest := []) (vv := some (.inl x)) (bc' := bc) (bs' := bs) hz rfl (s_cc_quiet G hz 10 h1) lk_11_209 mv_cc_quiet rfl rfl rfl rfl rfl (fun _ h => h) (by omega) (by omega) ?_
  refine en_s_aload_n rfl rfl ?_
  refine en_callV (as := []) (rest := [.inl x]) (vv := some (.inl x)) (bc' := bc) (bs' := bs) hz rfl (s_mm_quiet G hz 6 h2) lk_11_212 mv_mm_quiet rfl rfl rfl rfl rfl (fun _ h => h) (by omega) (by omega) ?_
  refine en_s_icmp_eq rfl (fun _ => ?_) (fun q => absurd rfl q)
  exact k
theorem lc_ends {G : en_G} (hz : G.2.2.2.2.2.2.2.2 = none) {cs : List en_A} {i : Int32} {ii t : Nat} {σ : en_M} (hx : lw_ix G i ii) (h : Rel σ σ t) (ht : t + 14 ≤ 7168) : lw_ok G cs i σ (t + 14) 1933 := by
  obtain ⟨a, x, σ1, τ1, h1, h2, h3, h4, h5⟩ := lw_two (C := fun σ => k_cc_ends (G.2.2.2.2.2.2.2.1 (ii + 1)) σ) (M := fun σ => k_mm_ends (G.2.2.2.2.2.2.2.1 (ii + 1)) σ) (E := [(2, 1)]) (t := t) (t' := t) lw_id (by decide) (fun σ τ h => pb_ends h (G.2.2.2.2.2.2.2.1 (ii + 1))) (fun σ r h => fr_hi (f_cc_ends h) rfl) (fun σ r h => fr_lo (f_mm_ends h) rfl) h
  obtain ⟨th, hth⟩ : ∃ z, τ1 24 0 0 0 = z := ⟨_, rfl⟩
  rw [hth] at h3 h5
  refine ⟨τ1, Rel_t h4 (by omega) ht, fun mc ms r cs' ρ' σ' bc bs k => ?_⟩
  refine en_s_aload_n rfl rfl ?_
  refine en_s_aload_nX rfl rfl ?_
  refine en_s_iload rfl rfl ?_
  refine en_s_iconst rfl ?_
  refine en_s_iadd rfl ?_
  refine en_s_sld rfl hx.2.1.1 hx.2.1.2 ?_
  refine en_s_aload_n rfl rfl ?_
  refine en_callSH (as := [.inr (.inl (some (14, 0, 0))), .inl (G.2.2.2.2.2.2.2.1 (ii + 1)), .inr (.inl (some (36, 0, 0)))]) (rest := []) (vv := some (.inl th)) (bc' := bc) (bs' := bs) hz rfl (h_lw_ends G hz 6 (x := x) h1 h3) lk_11_213 mh_lw_ends rfl rfl rfl (fun _ h => h) (by omega) (by omega) ?_
  refine en_s_istore (ls' := lw_ls i (some (.inl th)) none) rfl rfl rfl ?_
  refine en_s_aload_n rfl rfl ?_
  refine en_s_aload_nX rfl rfl ?_
  refine en_s_iload rfl rfl ?_
  refine en_s_iconst rfl ?_
  refine en_s_iadd rfl ?_
  refine en_s_sld rfl hx.2.1.1 hx.2.1.2 ?_
  refine en_callV (as := [.inl (G.2.2.2.2.2.2.2.1 (ii + 1))]) (rest := []) (vv := some (.inl x)) (bc' := bc) (bs' := bs) hz rfl (s_mm_ends G hz 6 h2) lk_11_215 mv_mm_ends rfl rfl rfl rfl rfl (fun _ h => h) (by omega) (by omega) ?_
  refine en_s_istore (ls' := lw_ls i (some (.inl th)) (some (.inl x))) rfl rfl rfl ?_
  refine en_s_aload_n rfl rfl ?_
  refine en_callV (as := []) (rest := []) (vv := some (.inl th)) (bc' := bc) (bs' := bs) hz rfl (s_mm_thrown G hz 13 hth) lk_11_113 mv_mm_thrown rfl rfl rfl rfl rfl (fun _ h => h) (by omega) (by omega) ?_
  refine en_s_iload rfl rfl ?_
  refine en_s_icmp_eq rfl (fun _ => ?_) (fun q => absurd rfl q)
  refine en_s_iload rfl rfl ?_
  refine en_s_if_ne rfl (fun _ => ?_) (fun h0 => ?_)
  · exact en_s_goto rfl (lw_less k)
  · refine en_s_aload_n rfl rfl ?_
    refine en_s_iconst rfl ?_
    refine en_s_lald rfl rfl (lw_rd (h5 h0)) ?_
    refine en_s_iload rfl rfl ?_
    refine en_s_i2l rfl ?_
    refine en_s_lcmp rfl en_lcmp_eq ?_
    refine en_s_if_eq rfl (fun _ => ?_) (fun q => absurd rfl q)
    exact en_s_goto rfl (lw_less k)
theorem lc_last {G : en_G} (hz : G.2.2.2.2.2.2.2.2 = none) {cs : List en_A} {i : Int32} {ii t : Nat} {σ : en_M} (hx : lw_ix G i ii) (h : Rel σ σ t) (ht : t + 14 ≤ 7168) : lw_ok G cs i σ (t + 14) 1989 := by
  obtain ⟨x, σ1, τ1, h1, h2, h4⟩ := lw_one (C := fun σ => k_cc_last  σ) (M := fun σ => k_mm_last  σ) (t := t) (t' := t) (fun σ τ h => by obtain ⟨x, σ1, τ1, q1, q2, -, q4⟩ := pb_last h ; exact ⟨x, σ1, τ1, q1, q2, q4⟩) (fun σ r h => fr_hi (f_cc_last h) rfl) (fun σ r h => fr_lo (f_mm_last h) rfl) h
  refine ⟨τ1, Rel_t h4 (by omega) ht, fun mc ms r cs' ρ' σ' bc bs k => ?_⟩
  refine en_s_aload_n rfl rfl ?_
  refine en_callV (as := []) (rest := []) (vv := some (.inl x)) (bc' := bc) (bs' := bs) hz rfl (s_cc_last G hz 10 h1) lk_11_216 mv_cc_last rfl rfl rfl rfl rfl (fun _ h => h) (by omega) (by omega) ?_
  refine en_s_aload_n rfl rfl ?_
  refine en_callV (as := []) (rest := [.inl x]) (vv := some (.inl x)) (bc' := bc) (bs' := bs) hz rfl (s_mm_last G hz 6 h2) lk_11_219 mv_mm_last rfl rfl rfl rfl rfl (fun _ h => h) (by omega) (by omega) ?_
  refine en_s_icmp_eq rfl (fun _ => ?_) (fun q => absurd rfl q)
  exact k
theorem lc_least {G : en_G} (hz : G.2.2.2.2.2.2.2.2 = none) {cs : List en_A} {i : Int32} {ii t : Nat} {σ : en_M} (hx : lw_ix G i ii) (h : Rel σ σ t) (ht : t + 14 ≤ 7168) : lw_ok G cs i σ (t + 14) 2002 := by
  obtain ⟨a, x, σ1, τ1, h1, h2, h3, h4, h5⟩ := lw_two (C := fun σ => k_cc_least (G.2.2.2.2.2.2.2.1 (ii + 1)) (G.2.2.2.2.2.2.2.1 (ii + 2)) σ) (M := fun σ => k_mm_least (G.2.2.2.2.2.2.2.1 (ii + 1)) (G.2.2.2.2.2.2.2.1 (ii + 2)) σ) (E := [(2, 1), (0, 2)]) (t := t) (t' := t) lw_id (by decide) (fun σ τ h => pb_least h (G.2.2.2.2.2.2.2.1 (ii + 1)) (G.2.2.2.2.2.2.2.1 (ii + 2))) (fun σ r h => fr_hi (f_cc_least h) rfl) (fun σ r h => fr_lo (f_mm_least h) rfl) h
  obtain ⟨th, hth⟩ : ∃ z, τ1 24 0 0 0 = z := ⟨_, rfl⟩
  rw [hth] at h3 h5
  refine ⟨τ1, Rel_t h4 (by omega) ht, fun mc ms r cs' ρ' σ' bc bs k => ?_⟩
  refine en_s_aload_n rfl rfl ?_
  refine en_s_aload_nX rfl rfl ?_
  refine en_s_iload rfl rfl ?_
  refine en_s_iconst rfl ?_
  refine en_s_iadd rfl ?_
  refine en_s_sld rfl hx.2.1.1 hx.2.1.2 ?_
  refine en_s_aload_nX rfl rfl ?_
  refine en_s_iload rfl rfl ?_
  refine en_s_iconst rfl ?_
  refine en_s_iadd rfl ?_
  refine en_s_sld rfl hx.2.2.1.1 hx.2.2.1.2 ?_
  refine en_s_aload_n rfl rfl ?_
  refine en_callSH (as := [.inr (.inl (some (14, 0, 0))), .inl (G.2.2.2.2.2.2.2.1 (ii + 1)), .inl (G.2.2.2.2.2.2.2.1 (ii + 2)), .inr (.inl (some (36, 0, 0)))]) (rest := []) (vv := some (.inl th)) (bc' := bc) (bs' := bs) hz rfl (h_lw_least G hz 6 (x := x) h1 h3) lk_11_220 mh_lw_least rfl rfl rfl (fun _ h => h) (by omega) (by omega) ?_
  refine en_s_istore (ls' := lw_ls i (some (.inl th)) none) rfl rfl rfl ?_
  refine en_s_aload_n rfl rfl ?_
  refine en_s_aload_nX rfl rfl ?_
  refine en_s_iload rfl rfl ?_
  refine en_s_iconst rfl ?_
  refine en_s_iadd rfl ?_
  refine en_s_sld rfl hx.2.1.1 hx.2.1.2 ?_
  refine en_s_aload_nX rfl rfl ?_
  refine en_s_iload rfl rfl ?_
  refine en_s_iconst rfl ?_
  refine en_s_iadd rfl ?_
  refine en_s_sld rfl hx.2.2.1.1 hx.2.2.1.2 ?_
  refine en_callV (as := [.inl (G.2.2.2.2.2.2.2.1 (ii + 1)), .inl (G.2.2.2.2.2.2.2.1 (ii + 2))]) (rest := []) (vv := some (.inl x)) (bc' := bc) (bs' := bs) hz rfl (s_mm_least G hz 6 h2) lk_11_222 mv_mm_least rfl rfl rfl rfl rfl (fun _ h => h) (by omega) (by omega) ?_
  refine en_s_istore (ls' := lw_ls i (some (.inl th)) (some (.inl x))) rfl rfl rfl ?_
  refine en_s_aload_n rfl rfl ?_
  refine en_callV (as := []) (rest := []) (vv := some (.inl th)) (bc' := bc) (bs' := bs) hz rfl (s_mm_thrown G hz 13 hth) lk_11_113 mv_mm_thrown rfl rfl rfl rfl rfl (fun _ h => h) (by omega) (by omega) ?_
  refine en_s_iload rfl rfl ?_
  refine en_s_icmp_eq rfl (fun _ => ?_) (fun q => absurd rfl q)
  refine en_s_iload rfl rfl ?_
  refine en_s_if_ne rfl (fun _ => ?_) (fun h0 => ?_)
  · exact en_s_goto rfl (lw_less k)
  · refine en_s_aload_n rfl rfl ?_
    refine en_s_iconst rfl ?_
    refine en_s_lald rfl rfl (lw_rd (h5 h0)) ?_
    refine en_s_iload rfl rfl ?_
    refine en_s_i2l rfl ?_
    refine en_s_lcmp rfl en_lcmp_eq ?_
    refine en_s_if_eq rfl (fun _ => ?_) (fun q => absurd rfl q)
    exact en_s_goto rfl (lw_less k)
theorem lc_first {G : en_G} (hz : G.2.2.2.2.2.2.2.2 = none) {cs : List en_A} {i : Int32} {ii t : Nat} {σ : en_M} (hx : lw_ix G i ii) (h : Rel σ σ t) (ht : t + 14 ≤ 7168) : lw_ok G cs i σ (t + 14) 2070 := by
  obtain ⟨x, σ1, τ1, h1, h2, h4⟩ := lw_one (C := fun σ => k_cc_first (lw_fl (G.2.2.2.2.2.2.2.1 (ii + 1))) σ) (M := fun σ => k_mm_first (lw_fl (G.2.2.2.2.2.2.2.1 (ii + 1))) σ) (t := t) (t' := t) (fun σ τ h => by obtain ⟨x, σ1, τ1, q1, q2, -, q4⟩ := pb_first h (lw_fl (G.2.2.2.2.2.2.2.1 (ii + 1))); exact ⟨x, σ1, τ1, q1, q2, q4⟩) (fun σ r h => fr_hi (f_cc_first h) rfl) (fun σ r h => fr_lo (f_mm_first h) rfl) h
  refine ⟨τ1, Rel_t h4 (by omega) ht, fun mc ms r cs' ρ' σ' bc bs k => ?_⟩
  refine en_s_aload_n rfl rfl ?_
  refine en_s_aload_nX rfl rfl ?_
  refine en_s_iload rfl rfl ?_
  refine en_s_iconst rfl ?_
  refine en_s_iadd rfl ?_
  refine en_s_sld rfl hx.2.1.1 hx.2.1.2 ?_
  refine en_flag rfl rfl rfl rfl rfl ?_
  refine en_callV (as := [.inl (lw_fl (G.2.2.2.2.2.2.2.1 (ii + 1)))]) (rest := []) (vv := some (.inl x)) (bc' := bc) (bs' := bs) hz rfl (s_cc_first G hz 9 h1) lk_11_223 mv_cc_first rfl rfl rfl rfl rfl (fun _ h => h) (by omega) (by omega) ?_
  refine en_s_aload_n rfl rfl ?_
  refine en_s_aload_nX rfl rfl ?_
  refine en_s_iload rfl rfl ?_
  refine en_s_iconst rfl ?_
  refine en_s_iadd rfl ?_
  refine en_s_sld rfl hx.2.1.1 hx.2.1.2 ?_
  refine en_flag rfl rfl rfl rfl rfl ?_
  refine en_callV (as := [.inl (lw_fl (G.2.2.2.2.2.2.2.1 (ii + 1)))]) (rest := [.inl x]) (vv := some (.inl x)) (bc' := bc) (bs' := bs) hz rfl (s_mm_first G hz 5 h2) lk_11_227 mv_mm_first rfl rfl rfl rfl rfl (fun _ h => h) (by omega) (by omega) ?_
  refine en_s_icmp_eq rfl (fun _ => ?_) (fun q => absurd rfl q)
  exact k
theorem lc_image {G : en_G} (hz : G.2.2.2.2.2.2.2.2 = none) {cs : List en_A} {i : Int32} {ii t : Nat} {σ : en_M} (hx : lw_ix G i ii) (h : Rel σ σ t) (ht : t + 14 ≤ 7168) : lw_ok G cs i σ (t + 14) 2111 := by
  obtain ⟨σ1, τ1, h1, h2, h4⟩ := lw_image h
  refine ⟨τ1, Rel_t h4 (by omega) ht, fun mc ms r cs' ρ' σ' bc bs k => ?_⟩
  refine en_s_aload_n rfl rfl ?_
  refine en_callV (as := []) (rest := []) (vv := none) (bc' := bc) (bs' := bs) hz rfl (s_cc_image G hz 10 h1) lk_11_228 mv_cc_image rfl rfl rfl rfl rfl (fun _ h => h) (by omega) (by omega) ?_
  refine en_s_aload_n rfl rfl ?_
  refine en_callV (as := []) (rest := []) (vv := none) (bc' := bc) (bs' := bs) hz rfl (s_mm_image G hz 13 h2) lk_11_231 mv_mm_image rfl rfl rfl rfl rfl (fun _ h => h) (by omega) (by omega) ?_
  refine en_s_goto rfl ?_
  exact k
theorem lc_back {G : en_G} (hz : G.2.2.2.2.2.2.2.2 = none) {cs : List en_A} {i : Int32} {ii t : Nat} {σ : en_M} (hx : lw_ix G i ii) (h : Rel σ σ t) (ht : t + 14 ≤ 7168) : lw_ok G cs i σ (t + 14) 2122 := by
  obtain ⟨x, σ1, τ1, h1, h2, h4⟩ := lw_one (C := fun σ => k_cc_back  σ) (M := fun σ => k_mm_back  σ) (t := t) (t' := t) (fun σ τ h => by obtain ⟨x, σ1, τ1, q1, q2, -, q4⟩ := pb_back h ; exact ⟨x, σ1, τ1, q1, q2, q4⟩) (fun σ r h => fr_hi (f_cc_back h) rfl) (fun σ r h => fr_lo (f_mm_back h) rfl) h
  refine ⟨τ1, Rel_t h4 (by omega) ht, fun mc ms r cs' ρ' σ' bc bs k => ?_⟩
  refine en_s_aload_n rfl rfl ?_
  refine en_callV (as := []) (rest := []) (vv := some (.inl x)) (bc' := bc) (bs' := bs) hz rfl (s_cc_back G hz 10 h1) lk_11_232 mv_cc_back rfl rfl rfl rfl rfl (fun _ h => h) (by omega) (by omega) ?_
  refine en_s_aload_n rfl rfl ?_
  refine en_callV (as := []) (rest := [.inl x]) (vv := some (.inl x)) (bc' := bc) (bs' := bs) hz rfl (s_mm_back G hz 13 h2) lk_11_236 mv_mm_back rfl rfl rfl rfl rfl (fun _ h => h) (by omega) (by omega) ?_
  refine en_s_icmp_eq rfl (fun _ => ?_) (fun q => absurd rfl q)
  exact k
theorem lc_count {G : en_G} (hz : G.2.2.2.2.2.2.2.2 = none) {cs : List en_A} {i : Int32} {ii t : Nat} {σ : en_M} (hx : lw_ix G i ii) (h : Rel σ σ t) (ht : t + 14 ≤ 7168) : lw_ok G cs i σ (t + 14) 2135 := by
  obtain ⟨x, τ1, h1, h2, h4⟩ := lw_oneQ (C := fun σ x => k_cc_count (G.2.2.2.2.2.2.2.1 (ii + 1)) σ = some x) (M := fun σ => k_mm_count (G.2.2.2.2.2.2.2.1 (ii + 1)) σ) (t := t) (t' := t) (fun σ τ h => by obtain ⟨x, τ1, q1, q2, -, q4⟩ := pb_count h (G.2.2.2.2.2.2.2.1 (ii + 1)); exact ⟨x, τ1, q1, q2, q4⟩) (fun σ r h => fr_lo (f_mm_count h) rfl) h
  refine ⟨τ1, Rel_t h4 (by omega) ht, fun mc ms r cs' ρ' σ' bc bs k => ?_⟩
  refine en_s_aload_n rfl rfl ?_
  refine en_s_aload_nX rfl rfl ?_
  refine en_s_iload rfl rfl ?_
  refine en_s_iconst rfl ?_
  refine en_s_iadd rfl ?_
  refine en_s_sld rfl hx.2.1.1 hx.2.1.2 ?_
  refine en_callV (as := [.inl (G.2.2.2.2.2.2.2.1 (ii + 1))]) (rest := []) (vv := some (.inl x)) (bc' := bc) (bs' := bs) hz rfl (s_cc_count G hz 11 h1) lk_11_237 mv_cc_count rfl rfl rfl rfl rfl (fun _ h => h) (by omega) (by omega) ?_
  refine en_s_aload_n rfl rfl ?_
  refine en_s_aload_nX rfl rfl ?_
  refine en_s_iload rfl rfl ?_
  refine en_s_iconst rfl ?_
  refine en_s_iadd rfl ?_
  refine en_s_sld rfl hx.2.1.1 hx.2.1.2 ?_
  refine en_callV (as := [.inl (G.2.2.2.2.2.2.2.1 (ii + 1))]) (rest := [.inl x]) (vv := some (.inl x)) (bc' := bc) (bs' := bs) hz rfl (s_mm_count G hz 10 h2) lk_11_240 mv_mm_count rfl rfl rfl rfl rfl (fun _ h => h) (by omega) (by omega) ?_
  refine en_s_icmp_eq rfl (fun _ => ?_) (fun q => absurd rfl q)
  exact k
def lw_tg : List (Int32 × Nat) := [(0, 208), (1, 281), (2, 306), (3, 350), (4, 363), (5, 376), (6, 468), (7, 481), (8, 537), (9, 621), (10, 689), (11, 745), (12, 789), (13, 857), (14, 937), (15, 1017), (16, 1085), (17, 1153), (18, 1221), (19, 1274), (20, 1342), (21, 1367), (22, 1451), (23, 1507), (24, 1575), (25, 1631), (26, 1644), (27, 1697), (28, 1796), (29, 1864), (30, 1920), (31, 1933), (32, 1989), (33, 2002), (34, 2070), (35, 2111), (36, 2122), (37, 2135)]
theorem en_sw_all {P : Nat → Prop} : ∀ {tg : List (Int32 × Nat)} {d : Nat} {x : Int32}, (∀ q ∈ tg, P q.2) → P d → P (en_sw tg d x)
  | [], _, _, _, hd => hd
  | q :: t, d, x, h, hd => by
    simp only [en_sw]
    split
    · exact h q List.mem_cons_self
    · exact en_sw_all (fun z hz => h z (List.mem_cons_of_mem _ hz)) hd
theorem lc_all {G : en_G} (hz : G.2.2.2.2.2.2.2.2 = none) {cs : List en_A} {i : Int32} {ii t : Nat} {σ : en_M} (hx : lw_ix G i ii) (h : Rel σ σ t) (ht : t + 14 ≤ 7168) : ∀ q ∈ lw_tg, lw_ok G cs i σ (t + 14) q.2 :=
  (List.forall_mem_cons.mpr ⟨lc_feed hz hx h ht, (List.forall_mem_cons.mpr ⟨lc_end hz hx h ht, (List.forall_mem_cons.mpr ⟨lc_acts hz hx h ht, (List.forall_mem_cons.mpr ⟨lc_fault hz hx h ht, (List.forall_mem_cons.mpr ⟨lc_why hz hx h ht, (List.forall_mem_cons.mpr ⟨lc_send hz hx h ht, (List.forall_mem_cons.mpr ⟨lc_bell hz hx h ht, (List.forall_mem_cons.mpr ⟨lc_drop hz hx h ht, (List.forall_mem_cons.mpr ⟨lc_pause hz hx h ht, (List.forall_mem_cons.mpr ⟨lc_rate hz hx h ht, (List.forall_mem_cons.mpr ⟨lc_tick hz hx h ht, (List.forall_mem_cons.mpr ⟨lc_undo hz hx h ht, (List.forall_mem_cons.mpr ⟨lc_told hz hx h ht, (List.forall_mem_cons.mpr ⟨lc_piece hz hx h ht, (List.forall_mem_cons.mpr ⟨lc_octet hz hx h ht, (List.forall_mem_cons.mpr ⟨lc_holder hz hx h ht, (List.forall_mem_cons.mpr ⟨lc_flow hz hx h ht, (List.forall_mem_cons.mpr ⟨lc_burst hz hx h ht, (List.forall_mem_cons.mpr ⟨lc_done hz hx h ht, (List.forall_mem_cons.mpr ⟨lc_log hz hx h ht, (List.forall_mem_cons.mpr ⟨lc_latest hz hx h ht, (List.forall_mem_cons.mpr ⟨lc_merged hz hx h ht, (List.forall_mem_cons.mpr ⟨lc_share hz hx h ht, (List.forall_mem_cons.mpr ⟨lc_calendar hz hx h ht, (List.forall_mem_cons.mpr ⟨lc_delay hz hx h ht, (List.forall_mem_cons.mpr ⟨lc_rest hz hx h ht, (List.forall_mem_cons.mpr ⟨lc_queue hz hx h ht, (List.forall_mem_cons.mpr ⟨lc_finds hz hx h ht, (List.forall_mem_cons.mpr ⟨lc_blind hz hx h ht, (List.forall_mem_cons.mpr ⟨lc_works hz hx h ht, (List.forall_mem_cons.mpr ⟨lc_quiet hz hx h ht, (List.forall_mem_cons.mpr ⟨lc_ends hz hx h ht, (List.forall_mem_cons.mpr ⟨lc_last hz hx h ht, (List.forall_mem_cons.mpr ⟨lc_least hz hx h ht, (List.forall_mem_cons.mpr ⟨lc_first hz hx h ht, (List.forall_mem_cons.mpr ⟨lc_image hz hx h ht, (List.forall_mem_cons.mpr ⟨lc_back hz hx h ht, (List.forall_mem_cons.mpr ⟨lc_count hz hx h ht, (fun _ hq => nomatch hq)⟩)⟩)⟩)⟩)⟩)⟩)⟩)⟩)⟩)⟩)⟩)⟩)⟩)⟩)⟩)⟩)⟩)⟩)⟩)⟩)⟩)⟩)⟩)⟩)⟩)⟩)⟩)⟩)⟩)⟩)⟩)⟩)⟩)⟩)⟩)⟩)⟩)⟩)

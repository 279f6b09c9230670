/-! The law's loop. -/
theorem lw_gt {L ii : Nat} (hL : L ≤ 3072) (hi : ii ≤ 3072) : (Int32.ofNat L - 6 < nI ii) ↔ L < ii + 6 := by
  by_cases h6 : 6 ≤ L
  · obtain ⟨q, rfl⟩ : ∃ q, L = q + 6 := ⟨L - 6, by omega⟩
    have e : Int32.ofNat (q + 6) - 6 = nI q := by
      have h1 : nI (q + 6) = nI q + 6 := (nI_add q 6).symm
      show nI (q + 6) - 6 = nI q
      rw [h1]
      exact Int32.add_sub_cancel _ _
    rw [e, nI_ltI (by omega) (by omega)]
    omega
  · constructor
    · intro _
      omega
    · intro _
      have h0 : ∀ x : Int32, x < 0 → x < nI ii := fun x hx => Int32.lt_of_lt_of_le hx (nI_pos' (by omega))
      have h1 : L = 0 ∨ L = 1 ∨ L = 2 ∨ L = 3 ∨ L = 4 ∨ L = 5 := by omega
      rcases h1 with rfl | rfl | rfl | rfl | rfl | rfl <;> exact h0 _ (by decide)
theorem lw_ixs {G : en_G} {ii : Nat} (h : ii + 6 ≤ G.2.2.2.2.2.2.1) (hL : G.2.2.2.2.2.2.1 ≤ 3072) : lw_ix G (nI ii) ii := by
  have key : ∀ k : Nat, k < 6 → en_inb (nI (ii + k)) G.2.2.2.2.2.2.1 = true ∧ (nI (ii + k)).toNatClampNeg = ii + k := fun k hk => ⟨pu_inb (by omega) (by omega), pu_cl (by omega)⟩
  refine ⟨key 0 (by decide), ?_, ?_, ?_, ?_, ?_⟩
  · rw [show nI ii + 1 = nI (ii + 1) from nI_add ii 1]
    exact key 1 (by decide)
  · rw [show nI ii + 2 = nI (ii + 2) from nI_add ii 2]
    exact key 2 (by decide)
  · rw [show nI ii + 3 = nI (ii + 3) from nI_add ii 3]
    exact key 3 (by decide)
  · rw [show nI ii + 4 = nI (ii + 4) from nI_add ii 4]
    exact key 4 (by decide)
  · rw [show nI ii + 5 = nI (ii + 5) from nI_add ii 5]
    exact key 5 (by decide)
theorem lw_end {G : en_G} {cs : List en_A} {mc ms bc bs : Nat} {i : Int32} {σ : en_M} : en_W G 14 mc ms M_lw_law (.inr (some (.inl 1))) cs en_rf σ bc bs 2166 (lw_ls i none none) [] cs en_rf σ := by
  refine en_s_iconst rfl ?_
  exact en_s_zret rfl rfl (Or.inr rfl)
theorem lw_stop {G : en_G} {cs : List en_A} {mc ms bc bs ii : Nat} {σ : en_M} (hL : G.2.2.2.2.2.2.1 ≤ 3072) (hi : ii ≤ 3072) (hs : G.2.2.2.2.2.2.1 < ii + 6) : en_W G 14 mc ms M_lw_law (.inr (some (.inl 1))) cs en_rf σ bc bs 23 (lw_ls (nI ii) none none) [] cs en_rf σ := by
  refine en_s_iload rfl rfl ?_
  refine en_s_aload_nX rfl rfl ?_
  refine en_s_slenX rfl rfl ?_
  refine en_s_bipush rfl ?_
  refine en_s_isub rfl ?_
  exact en_s_icmp_gt rfl (fun _ => lw_end) (fun q => absurd ((lw_gt hL hi).mpr hs) q)
theorem lw_loop {G : en_G} (hz : G.2.2.2.2.2.2.2.2 = none) (hL : G.2.2.2.2.2.2.1 ≤ 3072) {cs : List en_A} {mc ms : Nat} : ∀ (n ii t : Nat) (σ : en_M), ii ≤ 3072 → G.2.2.2.2.2.2.1 < ii + 6 * n + 6 → Rel σ σ t → t + 14 * n ≤ 7168 → ∃ σ', en_W G 14 mc ms M_lw_law (.inr (some (.inl 1))) cs en_rf σ' (2 * n) (12 * n) 23 (lw_ls (nI ii) none none) [] cs en_rf σ := by
  intro n
  induction n with
  | zero =>
    intro ii t σ hi hn h ht
    exact ⟨σ, lw_stop hL hi (by omega)⟩
  | succ n ih =>
    intro ii t σ hi hn h ht
    by_cases hs : ii + 6 ≤ G.2.2.2.2.2.2.1
    · have hx := lw_ixs hs hL
      have hok : lw_ok G cs (nI ii) σ (t + 14) (en_sw lw_tg 2160 (G.2.2.2.2.2.2.2.1 ii &&& 63)) := en_sw_all (P := fun pc => lw_ok G cs (nI ii) σ (t + 14) pc) (lc_all hz hx h (by omega)) ⟨σ, Rel_t h (by omega) (by omega), fun mc ms r cs' ρ' σ' bc bs k => en_room2 (by omega) (by omega) k⟩
      obtain ⟨τ1, hR, hk⟩ := hok
      obtain ⟨σ', hW⟩ := ih (ii + 6) (t + 14) τ1 (by omega) (by omega) hR (by omega)
      refine ⟨σ', ?_⟩
      have h2 : en_W G 14 mc ms M_lw_law (.inr (some (.inl 1))) cs en_rf σ' (2 * n) (12 * n) 2160 (lw_ls (nI ii) none none) [] cs en_rf τ1 := by
        rw [← nI_add ii 6] at hW
        refine en_s_iinc (ls' := lw_ls (nI ii + nI 6) none none) rfl rfl rfl ?_
        exact en_s_goto rfl hW
      refine en_s_iload rfl rfl ?_
      refine en_s_aload_nX rfl rfl ?_
      refine en_s_slenX rfl rfl ?_
      refine en_s_bipush rfl ?_
      refine en_s_isub rfl ?_
      refine en_s_icmp_gt rfl (fun q => absurd ((lw_gt hL hi).mp q) (by omega)) (fun _ => ?_)
      refine en_s_aload_nX rfl rfl ?_
      refine en_s_iload rfl rfl ?_
      refine en_s_sld rfl hx.1.1 hx.1.2 ?_
      refine en_s_bipush rfl ?_
      refine en_s_iand rfl ?_
      refine en_s_table lw_tg rfl (by decide +kernel) rfl ?_
      exact hk mc ms _ _ _ _ (2 * n) (12 * n) h2
    · exact ⟨σ, lw_stop hL hi (by omega)⟩

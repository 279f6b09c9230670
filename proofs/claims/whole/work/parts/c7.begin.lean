/-! The law's beginning: both sides are made; what they have in common then. -/
def en_ad (B : Nat) (c : en_A) : Nat := if c.1 ≤ 13 then (if c.2.1 < 3 then B + 1 + 26 * c.2.1 + en_of c.1 c.2.2 else B + 81 + 26 * (c.2.1 - 3) + en_of c.1 c.2.2) else if c.1 = 14 then B else if c.1 ≤ 23 then B + 1 + en_so c.1 else if c.1 = 24 then B + 296 else if c.1 ≤ 35 then B + 297 + (c.1 - 25) else B + 308
theorem en_ad_c {B g j i : Nat} (hg : g < 3) (hj : j ≤ 13) : en_ad B (j, g, i) = B + 1 + 26 * g + en_of j i := by
  simp only [en_ad]
  rw [if_pos hj, if_pos hg]
theorem en_ad_h {B n j i : Nat} (hj : j ≤ 13) : en_ad B (j, 3 + n, i) = B + 1 + 80 + 26 * n + en_of j i := by
  simp only [en_ad]
  rw [if_pos hj, if_neg (by omega)]
  omega
theorem en_ad_x {B : Nat} : en_ad B (14, 0, 0) = B := by
  simp only [en_ad]
  rw [if_neg (by omega), if_pos trivial]
theorem en_ad_s {B j : Nat} (hj : 15 ≤ j ∧ j ≤ 23) : en_ad B (j, 0, 0) = B + 1 + en_so j := by
  simp only [en_ad]
  rw [if_neg (by omega), if_neg (by omega), if_pos hj.2]
theorem en_ad_y {B : Nat} : en_ad B (24, 0, 0) = B + 296 := by
  simp only [en_ad]
  rw [if_neg (by omega), if_neg (by omega), if_neg (by omega), if_pos trivial]
theorem en_ad_m {B j : Nat} (hj : 25 ≤ j ∧ j ≤ 35) : en_ad B (j, 0, 0) = B + 297 + (j - 25) := by
  simp only [en_ad]
  rw [if_neg (by omega), if_neg (by omega), if_neg (by omega), if_neg (by omega), if_pos hj.2]
theorem en_ad_o {B : Nat} : en_ad B (36, 0, 0) = B + 308 := by
  simp only [en_ad]
  rw [if_neg (by omega), if_neg (by omega), if_neg (by omega), if_neg (by omega), if_neg (by omega)]
theorem lw_rel0 {σ1 : en_M} (h24 : ∀ j g i k, 24 ≤ j → σ1 j g i k = 0) (hc : ∀ j i k, j ≤ 13 → σ1 j 0 i k = w_reset (fun _ _ _ _ => 0) 0 j 0 i k) (h14 : σ1 14 0 0 8 = 0 ∧ σ1 14 0 0 9 = 0 ∧ σ1 14 0 0 10 = -1) (h15 : σ1 15 0 0 1 = 0 ∧ σ1 15 0 0 2 = 0) (h20 : σ1 20 0 0 1 = 0) {s3 : en_M} (hs : en_wr (en_wr (en_wr (en_wr σ1 24 0 0 12 (-1)) 25 0 0 0 4) 25 0 0 1 10) 25 0 0 2 1 = s3) : Rel s3 s3 0 := by
  obtain ⟨z1, y1, k1, k2, hPR⟩ := nc_card (σ := fun _ _ _ _ => 0) (τ := fun _ _ _ _ => 0) (g := 0) (a := 4) (b := 10) (c := 1) (t := 0) (by decide) (by decide) (by decide) (by decide) (fun f _ => Or.inl rfl)
  have k1' : k_cd_reset 0 4 10 1 (fun _ _ _ _ => 0) = some z1 := k1
  have k2' : k_mm_clears 4 10 1 (fun _ _ _ _ => 0) = some y1 := k2
  rw [pu_clears (fun _ => rfl)] at k2'
  have hz1 : w_reset (fun _ _ _ _ => 0) 0 = z1 := by simp only [w_reset, k1', Option.getD_some]
  have hy1 := Option.some.inj k2'
  have sj : ∀ j, j ≠ 24 → j ≠ 25 → s3 j = σ1 j := fun j q1 q2 => by rw [← hs, pu_wr_j q2, pu_wr_j q2, pu_wr_j q2, pu_wr_j q1]
  have s24 : s3 24 = en_wr σ1 24 0 0 12 (-1) 24 := by rw [← hs, pu_wr_j (by decide), pu_wr_j (by decide), pu_wr_j (by decide)]
  have s24k : ∀ k, k ≠ 12 → s3 24 0 0 k = 0 := fun k hk => by rw [s24, pu_wr_k hk, h24 24 0 0 k (by decide)]
  have hrow : ∀ x, s3 25 0 0 x = y1 25 0 0 x := by
    intro x
    rw [← hs, ← hy1]
    by_cases q2 : x = 2
    · subst q2
      exact pu_wr_eq.trans pu_wr_eq.symm
    · rw [pu_wr_k q2, pu_wr_k q2]
      by_cases q1 : x = 1
      · subst q1
        exact pu_wr_eq.trans pu_wr_eq.symm
      · rw [pu_wr_k q1, pu_wr_k q1]
        by_cases q0 : x = 0
        · subst q0
          exact pu_wr_eq.trans pu_wr_eq.symm
        · rw [pu_wr_k q0, pu_wr_k q0, pu_wr_j (by decide), h24 25 0 0 x (by decide)]
  refine ⟨⟨nc_A 4 10 1, PR_row (PR_fr hPR (fun j hj => ?_)) (fun x _ => hrow x)⟩, ⟨0, 0, by decide, by decide, ?_, ?_, s24k 5 (by decide), fun i hi => absurd hi (Nat.not_lt_zero _)⟩, Or.inl ⟨?_, s24k 6 (by decide)⟩, ?_, ?_, ⟨0, by decide, ?_, s24k 9 (by decide), fun i hi => absurd hi (Nat.not_lt_zero _)⟩, by decide⟩
  · rw [sj j (by omega) (by omega)]
    funext i k
    rw [hc j i k (by omega), hz1]
  · rw [sj 15 (by decide) (by decide)]
    exact h15.1
  · rw [sj 15 (by decide) (by decide)]
    exact h15.2
  · rw [sj 14 (by decide) (by decide)]
    exact h14.1
  · rw [sj 14 (by decide) (by decide), h14.2.1]
    exact (s24k 7 (by decide)).symm
  · rw [sj 14 (by decide) (by decide), h14.2.2, s24]
    exact pu_wr_eq.symm
  · rw [sj 20 (by decide) (by decide)]
    exact h20
theorem lw_k8 : Cond.classLink (en_own 11) 8 RX9 ∈ en_tw ∧ Cond.instantiable RX9 11 ∈ en_tw ∧ Cond.initialized RX9 ∈ en_tw := ⟨en_tw_of (i := 98) (by decide +kernel) (by decide +kernel), en_tw_of (i := 99) (by decide +kernel) (by decide +kernel), en_tw_of (i := 74) (by decide +kernel) (by decide +kernel)⟩
theorem lw_k94 : Cond.classLink (en_own 11) 94 RX10 ∈ en_tw ∧ Cond.instantiable RX10 23 ∈ en_tw ∧ Cond.initialized RX10 ∈ en_tw := ⟨en_tw_of (i := 1408) (by decide +kernel) (by decide +kernel), en_tw_of (i := 1409) (by decide +kernel) (by decide +kernel), en_tw_of (i := 84) (by decide +kernel) (by decide +kernel)⟩
theorem lw_kL : Cond.arrayClass (newarray.typeOf .long) ∈ en_tw := en_tw_of (i := 1931) (by decide +kernel) (by decide +kernel)
theorem lw_m23 : (23, 0, 0) ∈ [(14, 0, 0)] ++ en_ccells := by decide +kernel
theorem lw_m35 {cs : List en_A} : (35, 0, 0) ∈ cs ++ en_mcells := List.mem_append_right _ (by decide +kernel)
theorem lw_pro (G : en_G) (B : Nat) (hz : G.2.2.2.2.2.2.2.2 = some B) (hB : G.2.2.2.2.2.1 = B) (hA : G.2.2.2.1 = en_ad B) (hL : G.2.2.2.2.2.2.1 ≤ 3072) : ∃ σ', en_W G 14 601024 7293034 M_lw_law (.inr (some (.inl 1))) lw_cs en_rf σ' 601024 7293034 0 [some (.inr (.inr (.inr 0))), none, none, none, none, none, none] [] [] (fun _ _ _ _ => none) (fun _ _ _ _ => 0) := by
  obtain ⟨cs1, ρ1, σ1, e1, a1, a2, a3, a4, a5, a6, a7, hM1⟩ := c_cc_init (en_gz G (some (B + 1))) 9 (cs := [(14, 0, 0)]) (ρ := fun _ _ _ _ => none) (σ := fun _ _ _ _ => 0) (zz := B + 1) rfl (by show G.2.2.2.2.2.1 ≤ B + 1; omega) (fun g hg j i hj => by show G.2.2.2.1 (j, g, i) = _; rw [hA, en_ad_c hg hj]) (fun n hn j i hj => by show G.2.2.2.1 (j, 3 + n, i) = _; rw [hA, en_ad_h hj]) (fun j hj => by show G.2.2.2.1 (j, 0, 0) = _; rw [hA, en_ad_s hj]) (fun _ _ _ _ _ => rfl) (fun _ _ _ _ _ => rfl)
  obtain ⟨cs2, e2⟩ : ∃ z, cs1 ++ [(24, 0, 0)] = z := ⟨_, rfl⟩
  obtain ⟨cs3, ρ3, e3, b1, b2, hM3⟩ := c_mm_init (en_gz G (some (B + 297))) 11 (cs := cs2) (ρ := ρ1) (σ := σ1) (zz := B + 297) rfl (by show G.2.2.2.2.2.1 ≤ B + 297; omega) (fun j hj => by show G.2.2.2.1 (j, 0, 0) = _; rw [hA, en_ad_m hj]) (fun j g i k hj => a3 j g i k hj.1) (fun j g i k hj => a2 j g i k hj.1)
  obtain ⟨s3, hs3⟩ : ∃ z, en_wr (en_wr (en_wr (en_wr σ1 24 0 0 12 (-1)) 25 0 0 0 4) 25 0 0 1 10) 25 0 0 2 1 = z := ⟨_, rfl⟩
  rw [hs3] at hM3
  obtain ⟨cs4, e4⟩ : ∃ z, cs3 ++ [(36, 0, 0)] = z := ⟨_, rfl⟩
  have hcs : cs4 = lw_cs := by
    rw [← e4, ← e3, ← e2, ← e1]
    rfl
  have hRel : Rel s3 s3 0 := lw_rel0 (fun j g i k hj => a3 j g i k hj) a4 a5 a6 a7.1 hs3
  have h36 : ∀ k, s3 36 0 0 k = 0 := fun k => by rw [← hs3, pu_wr_j (by decide), pu_wr_j (by decide), pu_wr_j (by decide), pu_wr_j (by decide)]; exact a3 36 0 0 k (by decide)
  have hr36 : ∀ k, ρ3 36 0 0 k = none := fun k => (b2 36 0 0 k (by decide)).trans (a2 36 0 0 k (by decide))
  obtain ⟨σ', hW⟩ := lw_loop (G := en_gz G none) rfl hL (cs := lw_cs) (mc := 601024) (ms := 7293034) 512 0 0 s3 (by decide) (by show G.2.2.2.2.2.2.1 < 0 + 6 * 512 + 6; omega) hRel (by decide)
  have hup : en_up G B := by show G.2.2.2.2.2.1 ≤ B; omega
  have m23 : (23, 0, 0) ∈ cs1 := by rw [← e1]; exact lw_m23
  have m24 : (24, 0, 0) ∈ cs2 := by rw [← e2]; exact List.mem_append_right _ (List.mem_singleton.mpr rfl)
  have m35 : (35, 0, 0) ∈ cs3 := by rw [← e3]; exact lw_m35
  have q23 : G.2.2.2.1 (23, 0, 0) + 1 = B + 296 := by rw [hA, en_ad_s ⟨by decide, by decide⟩]; show B + 1 + 294 + 1 = B + 296; omega
  have q24 : G.2.2.2.1 (24, 0, 0) = B + 296 := by rw [hA, en_ad_y]
  have q35 : G.2.2.2.1 (35, 0, 0) + 1 = B + 308 := by rw [hA, en_ad_m ⟨by decide, by decide⟩]
  have q36 : G.2.2.2.1 (36, 0, 0) = B + 308 := by rw [hA, en_ad_o]
  have q14 : G.2.2.2.1 (14, 0, 0) = B := by rw [hA, en_ad_x]
  refine ⟨σ', ?_⟩
  refine en_room2 (bc' := 601023 + 1) (bs' := 7293023 + 11) (by decide) (by decide) ?_
  refine en_q_new (c0 := (14, 0, 0)) (cs1 := [(14, 0, 0)]) (z := B) (ci := 9) (q := (RX9, TX9, 11)) rfl ⟨hz, q14.trans (by omega), Or.inl rfl⟩ hup rfl lw_k8.1 lw_k8.2.1 lw_k8.2.2 rfl rfl (fun _ => rfl) (fun _ => rfl) ?_
  refine en_s_dup rfl rfl ?_
  refine en_k_init (z := B) (d' := 13) (bc' := 600728) (bs' := 7281536) (cs1 := cs1) ⟨hz, Or.inr ⟨(14, 0, 0), List.mem_singleton.mpr rfl, by rw [q14]⟩⟩ rfl hM1 (Or.inl lk_11_93) mv_cc_init rfl (by rw [← e1]; exact fun c hc => List.mem_append_left _ hc) (by decide) (by decide) ?_
  refine en_s_astore_n rfl rfl rfl ?_
  refine en_room2 (bc' := 600727 + 1) (bs' := 7281513 + 23) (by decide) (by decide) ?_
  refine en_q_new (c0 := (24, 0, 0)) (cs1 := cs2) (z := B) (ci := 10) (q := (RX10, TX10, 23)) e2 ⟨hz, q24.trans (by omega), Or.inr ⟨(23, 0, 0), m23, q23.trans (by omega)⟩⟩ hup rfl lw_k94.1 lw_k94.2.1 lw_k94.2.2 rfl rfl (fun k => a3 24 0 0 k (by decide)) (fun k => a2 24 0 0 k (by decide)) ?_
  refine en_s_dup rfl rfl ?_
  refine en_k_init (z := B) (d' := 13) (bc' := 600716) (bs' := 7270109) (cs1 := cs3) ⟨hz, Or.inr ⟨(24, 0, 0), m24, by rw [q24]⟩⟩ rfl hM3 (Or.inl lk_11_96) mv_mm_init rfl (by rw [← e3]; exact fun c hc => List.mem_append_left _ hc) (by decide) (by decide) ?_
  refine en_s_astore_n rfl rfl rfl ?_
  refine en_s_iconst rfl ?_
  refine en_room2 (bc' := 600715 + 1) (bs' := 7270108 + 1) (by decide) (by decide) ?_
  refine en_k_newL (n := 1) (j := 36) (g := 0) (i := 0) (z := B) ⟨hz, q36.trans (by omega), Or.inr ⟨(35, 0, 0), m35, q35.trans (by omega)⟩⟩ hup rfl lw_kL rfl (by decide) (by decide) rfl h36 hr36 ?_
  rw [e4, hcs]
  refine en_s_astore_n rfl rfl rfl ?_
  refine en_s_iconst rfl ?_
  refine en_s_istore (ls' := lw_ls (nI 0) none none) rfl rfl rfl ?_
  exact en_room2 (bc' := 2 * 512) (bs' := 12 * 512) (by decide) (by decide) (en_nz (en_refs (lw_refs (lw_F_ok a1 b1 b2)) lw_closed hW))

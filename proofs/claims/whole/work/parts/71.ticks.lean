/-! Ticks, both sides. -/
theorem tk_tick {σ τ : en_M} {g t : Nat} {A : ab_A} (h : ab_PR σ g (τ 25 0 0) A t) (hT : aH A 4 < 9999) : ∃ b σ1 τ1 B, (b = 0 ∨ b = 1) ∧ (∀ F v1 v2 v3, ¬ v1 ≤ v3 → k_cd_runTicks_4 (F + 1) g v1 v2 v3 σ = k_cd_runTicks_4 F g v1 (v2 + b) (v3 + 1) σ1) ∧ k_mm_ticks τ = some (b, τ1) ∧ ab_PR σ1 g (τ1 25 0 0) B t ∧ aH B 4 = aH A 4 + 1 ∧ (∀ k, k < 20 → τ1 24 0 0 k = τ 24 0 0 k) := by
  obtain ⟨hC, hM, hW, hR1, hWH, hlog⟩ := h
  have hN := ab_N hW
  have cT := hC.1.1.2.2.2.1
  have c15 := hC.1.1.2.2.2.2.2.2.2.1
  have r17 := hM.1.2.2.2.2.2.2.2.2.2.1
  have htk112 := hW.1.2.2.2.2.2.2.2.2.1
  have fr24 : ∀ {a b : en_M}, en_fr [(25, 0)] a b → b 24 = a 24 ∨ ∀ k, b 24 0 0 k = a 24 0 0 k := fun hf => Or.inr (fun k => by rw [hf 24 0 (by simp)])
  have fr24' : ∀ {a b : en_M}, en_fr [(25, 0)] a b → ∀ k, b 24 0 0 k = a 24 0 0 k := fun hf k => by rw [hf 24 0 (by simp)]
  by_cases h11 : aH A 11 = 0
  · have h7 := hWH.mp h11
    rw [if_pos h11] at c15
    rw [h7] at r17
    obtain ⟨s20, p1, p2, -, p4⟩ := ti_times hM hW
    have e25 : s20 25 0 = τ 25 0 := p2 25 0 (by simp)
    have hM20 : ab_MR (s20 25 0 0) A := by rw [e25]; exact hM
    obtain ⟨b', best, s23, q1, q2, q3, q4, q5⟩ := rd_finds hM20 hW p4
    have e25' : s23 25 0 = τ 25 0 := by rw [q4 25 0 (by simp), e25]
    have e30 : s23 30 0 = s20 30 0 := q4 30 0 (by simp)
    have hM23 : ab_MR (s23 25 0 0) A := by rw [e25']; exact hM
    have hd23 : ∀ n k, aH A 6 ≤ n → n < aH A 5 → aS A n 4 = 1 → aS A n 7 ≤ k → k < aS A n 6 → s23 30 0 0 (20 * (n % 8) + k) = nI (ab_de A n k) := by rw [e30]; exact p4
    have e24 : ∀ k, k < 20 → s23 24 0 0 k = τ 24 0 0 k := fun k hk => by rw [q5 k hk, p2 24 0 (by simp)]
    have r4 : s20 25 0 0 4 = nI (aH A 4) := hM20.1.1 4 (by decide)
    obtain ⟨b, u1', u2'⟩ := rd_ready hC hW (p := false) (v := 0) rfl
    have hbb := rd_uniq u1' q2
    subst hbb
    cases b with
    | none =>
      have q1 : k_mm_finds1 (nI (aH A 4)) s20 = some (0, s23) := q1
      obtain ⟨σ1, v, τ1, B, a1, a2, a3, a4, a5, a6⟩ := tk_idle hC hM23 hW h11 h7 hT hR1 hd23
      refine ⟨0, σ1, τ1, B, Or.inl rfl, fun F v1 v2 v3 hv => ?_, ?_, a4, a5, fun k hk => by rw [fr24' a6, e24 k hk]⟩
      · rw [tk_unf, if_neg hv, cT, itx_le (a := 9999) (b := aH A 4) (x := 9999) rfl rfl (by decide) (by omega), if_neg (by omega), c15, if_pos rfl, k_cd_letLeave, u2', pu_b1]
        simp only [Option.map]
        rw [pu_b2, if_pos rfl, a1, Int32.add_zero]
      · rw [tn_unf, r17, if_pos (show nI 0 = 0 from rfl), p1, pu_b1, r4, q1, pu_b2, if_pos rfl, a2, pu_b1, a3]
        rfl
    | some n =>
      have q1 : k_mm_finds1 (nI (aH A 4)) s20 = some (1, s23) := q1
      obtain ⟨σ0, c1, c2, c3⟩ := le_cls hC hW ⟨hR1, hWH, hlog⟩ h11 u1'
      obtain ⟨⟨hR, hn, h4, hlt, -⟩, -⟩ := u1'
      obtain ⟨g1, g2, -⟩ := q3
      obtain ⟨τ0, d1, d2⟩ := le_mod hM23 hW hR hn h4 hlt (hd23 n _ hR hn h4 (Nat.le_refl _) hlt)
      have d3 := f_mm_leaves d1
      have hw := ab_in_win hW hR hn
      have bH4 : aH (le_A A n (rd_D A n)) 4 = aH A 4 := rfl
      have bH11 : aH (le_A A n (rd_D A n)) 11 ≠ 0 := by
        show u1 (u1 (u1 (u1 (aH A) 7 (ab_up (ab_sz A n (aS A n 7)) (aH A 1))) 8 n) 11 1) 9 (min 40 (aH A 9 + 1)) 11 ≠ 0
        rw [u1_n (by decide), u1_s]
        decide
      have bH7 : 1 ≤ aH (le_A A n (rd_D A n)) 7 := by
        show 1 ≤ u1 (u1 (u1 (u1 (aH A) 7 (ab_up (ab_sz A n (aS A n 7)) (aH A 1))) 8 n) 11 1) 9 (min 40 (aH A 9 + 1)) 7
        rw [u1_n (by decide), u1_n (by decide), u1_n (by decide), u1_s]
        have hwire := hW.1.2.1
        exact ab_up_pos (by rw [ab_sz]; omega) (by omega)
      have bR1 : aH (le_A A n (rd_D A n)) 6 < aH (le_A A n (rd_D A n)) 5 → aS (le_A A n (rd_D A n)) (aH (le_A A n (rd_D A n)) 6) 4 ≤ 1 := by
        show aH A 6 < aH A 5 → u2 (aS A) n 7 (aS A n 7 + 1) (aH A 6) 4 ≤ 1
        rw [u2_n (by omega)]
        exact hR1
      obtain ⟨σ1, τ1, B, a1, a2, a4, a5, a6⟩ := tk_busy c2 d2 c3 bH11 bH7 (by rw [bH4]; exact hT) bR1
      refine ⟨1, σ1, τ1, B, Or.inr rfl, fun F v1 v2 v3 hv => ?_, ?_, a4, by rw [a5, bH4], fun k hk => by rw [fr24' a6, fr24' d3, e24 k hk]⟩
      · rw [tk_unf, if_neg hv, cT, itx_le (a := 9999) (b := aH A 4) (x := 9999) rfl rfl (by decide) (by omega), if_neg (by omega), c15, if_pos rfl, c1, pu_b2, if_neg (show ¬ (1 : Int32) = 0 by decide), a1]
      · rw [tn_unf, r17, if_pos (show nI 0 = 0 from rfl), p1, pu_b1, r4, q1, pu_b2, if_neg (show ¬ (1 : Int32) = 0 by decide), g1, g2, d1, pu_b1, a2]
        rfl
  · have h7 : aH A 7 ≠ 0 := fun q => h11 (hWH.mpr q)
    rw [if_neg h11] at c15
    obtain ⟨hR, hlt, -⟩ := hW.2.2.2.2.1 h11
    obtain ⟨σ1, τ1, B, a1, a2, a4, a5, a6⟩ := tk_busy hC hM hW h11 (by omega) hT hR1
    refine ⟨0, σ1, τ1, B, Or.inl rfl, fun F v1 v2 v3 hv => ?_, ?_, a4, a5, fun k _ => fr24' a6 k⟩
    · rw [tk_unf, if_neg hv, cT, itx_le (a := 9999) (b := aH A 4) (x := 9999) rfl rfl (by decide) (by omega), if_neg (by omega), c15, it_m1 (by omega), a1, Int32.add_zero]
    · rw [tn_unf, r17, itx_eq (a := aH A 7) (b := 0) (y := 0) rfl rfl (by omega) (by decide), if_neg h7, a2]
theorem tk_loop {g t c : Nat} (hc : c ≤ 99) : ∀ (F i : Nat) (v2 : Int32) (σ τ : en_M) (A : ab_A), ab_PR σ g (τ 25 0 0) A t → i ≤ c → c < i + F → τ 24 0 0 22 = v2 → ∃ v2' σ1 τ1 B, k_cd_runTicks_4 F g (nI c) v2 (nI i) σ = some (v2', σ1) ∧ k_mm_tick0_22 F (nI c) (nI i) τ = some τ1 ∧ τ1 24 0 0 22 = v2' ∧ ab_PR σ1 g (τ1 25 0 0) B t ∧ (∀ k, k < 20 → τ1 24 0 0 k = τ 24 0 0 k) := by
  intro F
  induction F with
  | zero => intro i v2 σ τ A _ h1 h2; omega
  | succ F ih =>
    intro i v2 σ τ A h h1 h2 h3
    have hN := ab_N h.2.2.1
    have cT := h.1.1.1.2.2.2.1
    have r4 : τ 25 0 0 4 = nI (aH A 4) := h.2.1.1.1 4 (by decide)
    by_cases hi : c ≤ i
    · refine ⟨v2, σ, τ, A, ?_, ?_, h3, h, fun _ _ => rfl⟩
      · rw [tk_unf, it_le (by omega) (by omega), if_pos hi]
      · rw [k_mm_tick0_22, it_le (by omega) (by omega), if_pos hi]
    · by_cases hT : aH A 4 < 9999
      · obtain ⟨b, σ1, τ1, B, a0, a1, a2, a3, a4, a5⟩ := tk_tick h hT
        have hs : ∃ s, (if b = 0 then en_wr τ1 24 0 0 22 (v2 + 0) else en_wr τ1 24 0 0 22 (v2 + 1)) = s ∧ s = en_wr τ1 24 0 0 22 (v2 + b) := by
          rcases a0 with rfl | rfl
          · exact ⟨_, rfl, by rw [if_pos rfl]⟩
          · exact ⟨_, rfl, by rw [if_neg (by decide)]⟩
        obtain ⟨s, s1, s2⟩ := hs
        have es : s 25 = τ1 25 := by rw [s2, pu_wr_j (by decide)]
        obtain ⟨v2', σ2, τ2, B2, b1, b2, b3, b4, b5⟩ := ih (i + 1) (v2 + b) σ1 s B (by rw [es]; exact a3) (by omega) (by omega) (by rw [s2, pu_wr_eq])
        refine ⟨v2', σ2, τ2, B2, ?_, ?_, b3, b4, fun k hk => by rw [b5 k hk, s2, pu_wr_k (by omega), a5 k hk]⟩
        · rw [a1 _ _ _ _ (by rw [pu_le (by omega) (by omega)]; exact hi), nI_1, b1]
        · rw [k_mm_tick0_22, it_le (by omega) (by omega), if_neg hi, r4, itx_le (a := 9999) (b := aH A 4) (x := 9999) rfl rfl (by decide) (by omega), if_neg (by omega), a2, pu_b2, h3, ← b2, ← s1, nI_1]
          rcases a0 with rfl | rfl
          · rw [if_pos rfl, if_pos rfl, pu_let]
          · rw [if_neg (by decide), if_neg (by decide), pu_let]
      · refine ⟨v2, σ, τ, A, ?_, ?_, h3, h, fun _ _ => rfl⟩
        · rw [tk_unf, it_le (by omega) (by omega), if_neg hi, cT, itx_le (a := 9999) (b := aH A 4) (x := 9999) rfl rfl (by decide) (by omega), if_pos (by omega)]
        · rw [k_mm_tick0_22, it_le (by omega) (by omega), if_neg hi, r4, itx_le (a := 9999) (b := aH A 4) (x := 9999) rfl rfl (by decide) (by omega), if_pos (by omega)]
/-- ticks whole -/
theorem tk_all {σ τ : en_M} {g t c : Nat} {A : ab_A} (h : ab_PR σ g (τ 25 0 0) A t) (hc : c ≤ 99) : (aH A 4 = 9999 → k_mm_tick0 (nI c) τ = some (6, en_wr τ 24 0 0 22 0)) ∧ (aH A 4 ≠ 9999 → ∃ v σ1 τ1 B, k_cd_runTicks g (nI c) σ = some (v, σ1) ∧ k_mm_tick0 (nI c) τ = some (0, τ1) ∧ τ1 24 0 0 22 = v ∧ ab_PR σ1 g (τ1 25 0 0) B t ∧ (∀ k, k < 20 → τ1 24 0 0 k = τ 24 0 0 k)) := by
  have hN := ab_N h.2.2.1
  obtain ⟨s, hs⟩ : ∃ z, en_wr τ 24 0 0 22 0 = z := ⟨_, rfl⟩
  have es : s 25 = τ 25 := by rw [← hs, pu_wr_j (by decide)]
  have r4 : s 25 0 0 4 = nI (aH A 4) := by rw [es]; exact h.2.1.1.1 4 (by decide)
  rw [k_mm_tick0, pu_let, hs, r4, itx_eq (a := aH A 4) (b := 9999) (y := 9999) rfl rfl (by omega) (by decide)]
  refine ⟨fun e => by rw [if_pos e], fun e => ?_⟩
  rw [if_neg e]
  obtain ⟨v, σ1, τ1, B, a1, a2, a3, a4, a5⟩ := tk_loop hc en_fu 0 0 σ s A (by rw [es]; exact h) (by omega) (by rw [en_fu]; omega) (by rw [← hs, pu_wr_eq])
  rw [nI_0] at a1 a2
  exact ⟨v, σ1, τ1, B, by rw [k_cd_runTicks, a1, pu_b2], by rw [a2, pu_b1], a3, a4, fun k hk => by rw [a5 k hk, ← hs, pu_wr_k (by omega)]⟩

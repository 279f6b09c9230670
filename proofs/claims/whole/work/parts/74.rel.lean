/-! What the class and the model have in common between two calls. -/
def rl_txt (σ τ : en_M) : Prop := ∃ l, l ≤ 400 ∧ σ 20 0 0 1 = nI l ∧ τ 24 0 0 9 = nI l ∧ ∀ i, i < l → ∃ b, b < 256 ∧ τ 29 0 0 i = nI b ∧ σ 21 0 0 i = (nI b).toInt8.toInt32
def rl_im (σ τ : en_M) (t : Nat) : Prop := (σ 14 0 0 8 = 0 ∧ τ 24 0 0 6 = 0) ∨ (σ 14 0 0 8 = 1 ∧ τ 24 0 0 6 = 1 ∧ ∃ A, ab_PR σ 2 (τ 27 0 0) A t)
def Rel (σ τ : en_M) (t : Nat) : Prop := (∃ A, ab_PR σ 0 (τ 25 0 0) A t) ∧ rl_hi σ τ t ∧ rl_im σ τ t ∧ σ 14 0 0 9 = τ 24 0 0 7 ∧ σ 14 0 0 10 = τ 24 0 0 12 ∧ rl_txt σ τ ∧ t ≤ 7168
theorem hi_fr {σ σ' τ τ' : en_M} {t t' : Nat} (h : rl_hi σ τ t) (h1 : σ' 15 0 = σ 15 0) (h2 : ∀ j g, j < 14 → 3 ≤ g → σ' j g = σ j g) (h3 : τ' 24 0 0 5 = τ 24 0 0 5) (h4 : τ' 28 0 = τ 28 0) (ht : t ≤ t') (ht' : t' ≤ 7168) : rl_hi σ' τ' t' := by
  obtain ⟨e, c, a1, a2, a3, a4, a5, a6⟩ := h
  refine ⟨e, c, a1, a2, by rw [h1]; exact a3, by rw [h1]; exact a4, by rw [h3]; exact a5, fun i hi => ?_⟩
  obtain ⟨A, hA⟩ := a6 i hi
  rw [h4]
  exact ⟨A, PR_mono (PR_fr hA (fun j hj => h2 j _ hj (by omega))) ht ht'⟩
theorem im_fr {σ σ' τ τ' : en_M} {t t' : Nat} (h : rl_im σ τ t) (h1 : σ' 14 0 0 8 = σ 14 0 0 8) (h2 : ∀ j, j < 14 → σ' j 2 = σ j 2) (h3 : τ' 24 0 0 6 = τ 24 0 0 6) (h4 : τ' 27 0 = τ 27 0) (ht : t ≤ t') (ht' : t' ≤ 7168) : rl_im σ' τ' t' := by
  rcases h with ⟨a1, a2⟩ | ⟨a1, a2, A, hA⟩
  · exact Or.inl ⟨by rw [h1]; exact a1, by rw [h3]; exact a2⟩
  · refine Or.inr ⟨by rw [h1]; exact a1, by rw [h3]; exact a2, A, ?_⟩
    rw [h4]
    exact PR_mono (PR_fr hA h2) ht ht'
theorem tx_fr {σ σ' τ τ' : en_M} (h : rl_txt σ τ) (h1 : σ' 20 0 0 1 = σ 20 0 0 1) (h2 : σ' 21 0 = σ 21 0) (h3 : τ' 24 0 0 9 = τ 24 0 0 9) (h4 : τ' 29 0 = τ 29 0) : rl_txt σ' τ' := by
  obtain ⟨l, a1, a2, a3, a4⟩ := h
  refine ⟨l, a1, by rw [h1]; exact a2, by rw [h3]; exact a3, fun i hi => ?_⟩
  rw [h4, h2]
  exact a4 i hi
/-- the model's store as an act leaves it: only the row and scratch changed -/
def rl_m (τ τ' : en_M) : Prop := (∀ k, k ≠ 0 → k < 20 → τ' 24 0 0 k = τ 24 0 0 k) ∧ τ' 26 0 = τ 26 0 ∧ τ' 27 0 = τ 27 0 ∧ τ' 28 0 = τ 28 0 ∧ τ' 29 0 = τ 29 0
theorem rl_aside {σ τ τ0 : en_M} {t : Nat} (h : Rel σ τ t) (h24 : ∀ k, k ≠ 0 → τ0 24 0 0 k = τ 24 0 0 k) (hj : ∀ j, j ≠ 24 → τ0 j = τ j) : ∃ s1, k_mm_putsAside τ0 = some s1 ∧ (∀ j, j ≠ 26 → s1 j 0 = τ0 j 0) ∧ (∀ x, x < 938 → s1 26 0 0 x = τ 25 0 0 x) ∧ (∃ A, ab_PR σ 0 (s1 25 0 0) A t) ∧ Rel σ s1 t := by
  obtain ⟨s1, a1, a2, a3⟩ := cy_puts τ0
  have e : ∀ j, j ≠ 26 → s1 j 0 = τ0 j 0 := fun j q => a3 j 0 (by simp [q])
  have e24 : ∀ k, k ≠ 0 → s1 24 0 0 k = τ 24 0 0 k := fun k q => by rw [e 24 (by decide), h24 k q]
  have ej : ∀ j, j ≠ 24 → j ≠ 26 → s1 j 0 = τ j 0 := fun j q1 q2 => by rw [e j q2, hj j q1]
  obtain ⟨⟨A, hA⟩, b2, b3, b4, b5, b6, b7⟩ := h
  have hA' : ab_PR σ 0 (s1 25 0 0) A t := by rw [ej 25 (by decide) (by decide)]; exact hA
  exact ⟨s1, a1, e, fun x hx => by rw [a2 x hx, hj 25 (by decide)], ⟨A, hA'⟩, ⟨A, hA'⟩, hi_fr b2 rfl (fun _ _ _ _ => rfl) (e24 5 (by decide)) (ej 28 (by decide) (by decide)) (Nat.le_refl _) b7, im_fr b3 rfl (fun _ _ => rfl) (e24 6 (by decide)) (ej 27 (by decide) (by decide)) (Nat.le_refl _) b7, by rw [e24 7 (by decide)]; exact b4, by rw [e24 12 (by decide)]; exact b5, tx_fr b6 rfl rfl (e24 9 (by decide)) (ej 29 (by decide) (by decide)), b7⟩
/-- an act refused -/
theorem rl_no {σ s1 s5 : en_M} {t : Nat} (h : Rel σ s1 t) (hm : rl_m s1 s5) (h25 : s5 25 0 = s1 25 0) {code th : Int32} (hc : ¬ code ≤ 0) : ∃ σ' τ1, k_cc_startAct code σ = some (.inl 1, σ') ∧ k_mm_isTold code th s5 = some (0, τ1) ∧ Rel σ' τ1 t ∧ τ1 24 0 0 0 = th := by
  have hc0 : ¬ code = 0 := fun e => hc (by rw [e]; decide)
  obtain ⟨m24, m26, m27, m28, m29⟩ := hm
  obtain ⟨τa, ha⟩ : ∃ z, en_wr s5 24 0 0 7 code = z := ⟨_, rfl⟩
  obtain ⟨τ1, h1⟩ : ∃ z, en_wr τa 24 0 0 0 th = z := ⟨_, rfl⟩
  obtain ⟨σ', hσ⟩ : ∃ z, en_wr σ 14 0 0 9 code = z := ⟨_, rfl⟩
  have e24 : ∀ k, k ≠ 0 → k ≠ 7 → k < 20 → τ1 24 0 0 k = s1 24 0 0 k := fun k q0 q7 q20 => by rw [← h1, pu_wr_k q0, ← ha, pu_wr_k q7, m24 k q0 q20]
  have ej : ∀ j, j ≠ 24 → τ1 j = s5 j := fun j q => by rw [← h1, pu_wr_j q, ← ha, pu_wr_j q]
  have sj : ∀ j, j ≠ 14 → σ' j = σ j := fun j q => by rw [← hσ, pu_wr_j q]
  refine ⟨σ', τ1, ?_, ?_, ?_, by rw [← h1, pu_wr_eq]⟩
  · rw [k_cc_startAct, pu_let, if_neg hc0, hσ]
  · rw [k_mm_isTold, pu_let, ha, if_neg hc, pu_let, h1, if_neg hc0, if_neg hc0]
  · obtain ⟨⟨A, hA⟩, b2, b3, b4, b5, b6, b7⟩ := h
    refine ⟨⟨A, ?_⟩, hi_fr b2 (by rw [sj 15 (by decide)]) (fun j g q _ => by rw [sj j (by omega)]) (e24 5 (by decide) (by decide) (by decide)) (by rw [ej 28 (by decide), m28]) (Nat.le_refl _) b7, im_fr b3 (by rw [← hσ, pu_wr_k (by decide)]) (fun j q => by rw [sj j (by omega)]) (e24 6 (by decide) (by decide) (by decide)) (by rw [ej 27 (by decide), m27]) (Nat.le_refl _) b7, ?_, ?_, tx_fr b6 (by rw [sj 20 (by decide)]) (by rw [sj 21 (by decide)]) (e24 9 (by decide) (by decide) (by decide)) (by rw [ej 29 (by decide), m29]), b7⟩
    · rw [ej 25 (by decide), h25]
      exact PR_fr hA (fun j q => by rw [sj j (by omega)])
    · rw [← hσ, pu_wr_eq, ← h1, pu_wr_k (by decide), ← ha, pu_wr_eq]
    · rw [← hσ, pu_wr_k (by decide), e24 12 (by decide) (by decide) (by decide)]
      exact b5
/-- an act that goes: what it starts from, and what it ends with -/
theorem rl_yes {σ s1 : en_M} {t : Nat} (h : Rel σ s1 t) (h25 : ∀ x, x < 938 → s1 26 0 0 x = s1 25 0 0 x) : ∃ s4, k_cc_startAct 0 σ = some (.inr (), s4) ∧ (∀ j, j < 14 → s4 j 0 = σ j 0) ∧ ∀ (σ1 s5 : en_M) (A1 : ab_A) (t' : Nat) (th : Int32), (∀ j g, ¬ (j < 14 ∧ g = 0) → σ1 j g = s4 j g) → rl_m s1 s5 → ab_PR σ1 0 (s5 25 0 0) A1 t' → t ≤ t' → t' ≤ 7168 → ∃ τ1, k_mm_isTold 0 th s5 = some (1, τ1) ∧ Rel σ1 τ1 t' ∧ τ1 25 0 = s5 25 0 ∧ τ1 24 0 0 0 = 0 ∧ (∀ k, 20 ≤ k → τ1 24 0 0 k = s5 24 0 0 k) := by
  obtain ⟨⟨A, hA⟩, b2, b3, b4, b5, b6, b7⟩ := h
  obtain ⟨σa, ha⟩ : ∃ z, en_wr σ 14 0 0 9 0 = z := ⟨_, rfl⟩
  have aj : ∀ j, j ≠ 14 → σa j = σ j := fun j q => by rw [← ha, pu_wr_j q]
  have hAa : ab_PR σa 0 (s1 25 0 0) A t := PR_fr hA (fun j q => by rw [aj j (by omega)])
  obtain ⟨s4, q, hq, c1, c2, c3⟩ := rl_rem (hi_fr b2 (by rw [aj 15 (by decide)]) (fun j g q _ => by rw [aj j (by omega)]) rfl rfl (Nat.le_refl _) b7) hAa
  have s4j : ∀ j g, j ≠ 15 → g < 3 → s4 j g = σa j g := fun j g q1 q2 => c2 j g (by
    have : ¬ g = 3 + q := by omega
    simp [rl_fc, this, q1])
  refine ⟨s4, by rw [k_cc_startAct, pu_let, ha, if_pos rfl, c1, pu_b1], fun j q => by rw [s4j j 0 (by omega) (by omega), aj j (by omega)], fun σ1 s5 A1 t' th d1 d2 d3 d4 d5 => ?_⟩
  obtain ⟨m24, m26, m27, m28, m29⟩ := d2
  obtain ⟨τa, hτa⟩ : ∃ z, en_wr s5 24 0 0 7 0 = z := ⟨_, rfl⟩
  obtain ⟨τb, hτb⟩ : ∃ z, en_wr τa 24 0 0 0 0 = z := ⟨_, rfl⟩
  have bj : ∀ j, j ≠ 24 → τb j = s5 j := fun j q => by rw [← hτb, pu_wr_j q, ← hτa, pu_wr_j q]
  have b24 : ∀ k, k ≠ 0 → k ≠ 7 → τb 24 0 0 k = s5 24 0 0 k := fun k q0 q7 => by rw [← hτb, pu_wr_k q0, ← hτa, pu_wr_k q7]
  have b240 : τb 24 0 0 0 = 0 := by rw [← hτb, pu_wr_eq]
  have b247 : τb 24 0 0 7 = 0 := by rw [← hτb, pu_wr_k (by decide), ← hτa, pu_wr_eq]
  obtain ⟨τ1, e1, e2, e3, e4⟩ := c3 τb (by rw [b24 5 (by decide) (by decide), m24 5 (by decide) (by decide)]) (by rw [bj 28 (by decide), m28]) (fun x hx => by rw [bj 26 (by decide), m26, h25 x hx])
  have ej : ∀ j, j ≠ 24 → j ≠ 28 → τ1 j 0 = s5 j 0 := fun j q1 q2 => by rw [e4 j 0 (by simp [q1, q2]), bj j q1]
  have e14 : σ1 14 0 = σa 14 0 := by rw [d1 14 0 (by omega), s4j 14 0 (by decide) (by decide)]
  refine ⟨τ1, ?_, ⟨⟨A1, ?_⟩, ?_, ?_, ?_, ?_, ?_, d5⟩, ej 25 (by decide) (by decide), by rw [e3 0 (by decide), b240], fun k hk => by rw [e3 k (by omega), b24 k (by omega) (by omega)]⟩
  · rw [k_mm_isTold, pu_let, hτa, if_pos (by decide), pu_let, hτb, if_pos rfl, e1, pu_b1, if_pos rfl]
  · rw [ej 25 (by decide) (by decide)]
    exact d3
  · exact hi_fr e2 (d1 15 0 (by omega)) (fun j g q1 q2 => d1 j g (by omega)) rfl rfl d4 d5
  · exact im_fr b3 (by rw [e14, ← ha, pu_wr_k (by decide)]) (fun j q => by rw [d1 j 2 (by omega), s4j j 2 (by omega) (by omega), aj j (by omega)]) (by rw [e3 6 (by decide), b24 6 (by decide) (by decide), m24 6 (by decide) (by decide)]) (by rw [ej 27 (by decide) (by decide), m27]) d4 d5
  · rw [e14, ← ha, pu_wr_eq, e3 7 (by decide), b247]
  · rw [e14, ← ha, pu_wr_k (by decide), b5, e3 12 (by decide), b24 12 (by decide) (by decide), m24 12 (by decide) (by decide)]
  · exact tx_fr b6 (by rw [d1 20 0 (by omega), s4j 20 0 (by decide) (by decide), aj 20 (by decide)]) (by rw [d1 21 0 (by omega), s4j 21 0 (by decide) (by decide), aj 21 (by decide)]) (by rw [e3 9 (by decide), b24 9 (by decide) (by decide), m24 9 (by decide) (by decide)]) (by rw [ej 29 (by decide) (by decide), m29])

/-! Going back, and the small questions. -/
theorem fc_card {σ s : en_M} {q : Nat} (h : en_fr (rl_fc q) σ s) : (∀ j g, g ≠ q → s j g = σ j g) ∧ ∀ j g, 14 ≤ j → s j g = σ j g :=
  ⟨fun j g hg => h j g (by simp [rl_fc, hg]), fun j g hj => h j g (by simp [rl_fc]; omega)⟩
theorem pb_undo {σ τ : en_M} {t : Nat} (h : Rel σ τ t) : ∃ a x σ1 τ1, k_cc_undo σ = some (a, σ1) ∧ k_mm_undo τ = some (x, τ1) ∧ rl_A [(1, 1)] a x (τ1 24 0 0 0) ∧ Rel σ1 τ1 t := by
  have h0 := h
  obtain ⟨⟨A, hA⟩, ⟨e, c, he, hc, h1, h2, h3, h4⟩, b3, b4, b5, b6, b7⟩ := h
  rw [k_cc_undo, itx_eq (a := c) (b := 0) (y := 0) h2 rfl (by omega) (by decide), k_mm_undo, itx_eq (a := c) (b := 0) (y := 0) h3 rfl (by omega) (by decide)]
  by_cases hc0 : c = 0
  · rw [if_pos hc0, if_pos hc0]
    refine ⟨.inl 1, 0, σ, en_wr τ 24 0 0 0 1, rfl, ?_, ?_, rl_th h0 1⟩
    · rw [pu_let, pu_wr_eq, if_neg (by decide)]
    · show (_, _) ∈ _
      rw [pu_wr_eq]
      simp
  · rw [if_neg hc0, if_neg hc0]
    obtain ⟨d, rfl⟩ : ∃ d, c = d + 1 := ⟨c - 1, by omega⟩
    obtain ⟨A', hA'⟩ := h4 d (by omega)
    obtain ⟨q, hq⟩ : ∃ q, (e + d) % 8 = q := ⟨_, rfl⟩
    rw [hq] at hA'
    obtain ⟨s2, hs2⟩ : ∃ z, en_wr σ 15 0 0 2 (nI d) = z := ⟨_, rfl⟩
    have e2 : ∀ j, j ≠ 15 → s2 j = σ j := fun j q => by rw [← hs2, pu_wr_j q]
    have hA2 : ab_PR s2 (3 + q) (fun x => τ 28 0 0 (938 * d + x)) A' t := PR_fr hA' (fun j q => by rw [e2 j (by omega)])
    obtain ⟨σ1, p1, p2⟩ := cp_card (g := 0) (g1 := 3 + q) (σ := s2) (by omega) hA2.1.1.2.2.2.1
    obtain ⟨f1, f2⟩ := fc_card (q := 0) (f_cd_copyFrom p1)
    obtain ⟨ta, hta⟩ : ∃ z, en_wr τ 24 0 0 0 0 = z := ⟨_, rfl⟩
    obtain ⟨tb, htb⟩ : ∃ z, en_wr ta 24 0 0 5 (nI d) = z := ⟨_, rfl⟩
    have tj : ∀ j, j ≠ 24 → tb j = τ j := fun j q => by rw [← htb, pu_wr_j q, ← hta, pu_wr_j q]
    have t24 : ∀ k, k ≠ 0 → k ≠ 5 → tb 24 0 0 k = τ 24 0 0 k := fun k q1 q2 => by rw [← htb, pu_wr_k q2, ← hta, pu_wr_k q1]
    obtain ⟨τ1, r1, r2, -, r4⟩ := cy_undo (c := d) (by omega) en_fu 0 tb (by rw [← htb, pu_wr_eq]) (by omega) (by rw [en_fu]; omega)
    rw [nI_0] at r1
    have rj : ∀ j, j ≠ 25 → τ1 j 0 = tb j 0 := fun j q => r4 j 0 (by simp [q])
    have s15 : σ1 15 0 = s2 15 0 := f2 15 0 (by decide)
    refine ⟨.inr (nI d), nI d, σ1, τ1, ?_, ?_, ⟨?_, rfl⟩, ⟨A', ?_⟩, ⟨e, d, he, by omega, ?_, ?_, ?_, fun i hi => ?_⟩, im_fr b3 ?_ ?_ ?_ ?_ (Nat.le_refl _) b7, ?_, ?_, tx_fr b6 ?_ ?_ ?_ ?_, b7⟩
    · rw [k_hi_takeBack, itx_le (a := d + 1) (b := 0) (y := 0) h2 rfl (by omega) (by decide), if_neg (by omega), pu_let, h2, nI_pred, hs2, show s2 15 0 0 1 = nI e by rw [← hs2, pu_wr_k (by decide), h1], show s2 15 0 0 2 = nI d by rw [← hs2, pu_wr_eq], nI_add, show (8 : Int32) = nI 8 from rfl, nu_fm (by omega) (by decide) (by decide), hq, pu_ix (by omega) (by decide), pu_b1, p1, pu_b1, pu_b1, s15, ← hs2, pu_wr_eq]
    · rw [pu_let, hta, show ta 24 0 0 0 = 0 by rw [← hta, pu_wr_eq], if_pos (by decide), pu_let, show ta 24 0 0 5 = nI (d + 1) by rw [← hta, pu_wr_k (by decide), h3], nI_pred, htb, r1, pu_b1, rj 24 (by decide), ← htb, pu_wr_eq]
    · rw [rj 24 (by decide), ← htb, pu_wr_k (by decide), ← hta, pu_wr_eq]
    · refine PR_row (PR_cls hA2 p2) (fun x hx => ?_)
      rw [r2 x (by omega) hx, tj 28 (by decide)]
    · rw [s15, ← hs2, pu_wr_k (by decide), h1]
    · rw [s15, ← hs2, pu_wr_eq]
    · rw [rj 24 (by decide), ← htb, pu_wr_eq]
    · obtain ⟨A'', hA''⟩ := h4 i (by omega)
      rw [rj 28 (by decide), tj 28 (by decide)]
      exact ⟨A'', PR_fr hA'' (fun j q => by rw [f1 j _ (by omega), e2 j (by omega)])⟩
    · rw [f2 14 0 (by decide), e2 14 (by decide)]
    · exact fun j q => by rw [f1 j 2 (by decide), e2 j (by omega)]
    · rw [rj 24 (by decide), t24 6 (by decide) (by decide)]
    · rw [rj 27 (by decide), tj 27 (by decide)]
    · rw [f2 14 0 (by decide), e2 14 (by decide), rj 24 (by decide), t24 7 (by decide) (by decide)]
      exact b4
    · rw [f2 14 0 (by decide), e2 14 (by decide), rj 24 (by decide), t24 12 (by decide) (by decide)]
      exact b5
    · rw [f2 20 0 (by decide), e2 20 (by decide)]
    · rw [f2 21 0 (by decide), e2 21 (by decide)]
    · rw [rj 24 (by decide), t24 9 (by decide) (by decide)]
    · rw [rj 29 (by decide), tj 29 (by decide)]
theorem pb_image {σ τ : en_M} {t : Nat} (h : Rel σ τ t) : ∃ σ1 τ1, k_cc_image σ = some σ1 ∧ k_mm_image τ = some τ1 ∧ τ1 24 0 0 0 = 0 ∧ Rel σ1 τ1 t := by
  obtain ⟨⟨A, hA⟩, b2, b3, b4, b5, b6, b7⟩ := h
  obtain ⟨s1, p1, p2⟩ := cp_card (g := 2) (g1 := 0) (σ := σ) (by omega) hA.1.1.2.2.2.1
  obtain ⟨f1, f2⟩ := fc_card (q := 2) (f_cd_copyFrom p1)
  obtain ⟨σ1, hσ1⟩ : ∃ z, en_wr s1 14 0 0 8 1 = z := ⟨_, rfl⟩
  have e1 : ∀ j, j ≠ 14 → σ1 j = s1 j := fun j q => by rw [← hσ1, pu_wr_j q]
  have e14 : ∀ k, k ≠ 8 → σ1 14 0 0 k = σ 14 0 0 k := fun k q => by rw [← hσ1, pu_wr_k q, f2 14 0 (by decide)]
  obtain ⟨ta, hta⟩ : ∃ z, en_wr τ 24 0 0 0 0 = z := ⟨_, rfl⟩
  obtain ⟨tb, r1, r2, -, r4⟩ := cy_image en_fu 0 ta (by omega) (by rw [en_fu]; omega)
  rw [nI_0] at r1
  obtain ⟨τ1, hτ1⟩ : ∃ z, en_wr tb 24 0 0 6 1 = z := ⟨_, rfl⟩
  have tj : ∀ j, j ≠ 24 → j ≠ 27 → τ1 j 0 = τ j 0 := fun j q1 q2 => by rw [← hτ1, pu_wr_j q1, r4 j 0 (by simp [q2]), ← hta, pu_wr_j q1]
  have t24 : ∀ k, k ≠ 0 → k ≠ 6 → τ1 24 0 0 k = τ 24 0 0 k := fun k q1 q2 => by rw [← hτ1, pu_wr_k q2, r4 24 0 (by simp), ← hta, pu_wr_k q1]
  refine ⟨σ1, τ1, by rw [k_cc_image, p1, pu_b1, pu_let, hσ1], by rw [k_mm_image, pu_let, hta, r1, pu_b1, pu_let, hτ1], by rw [← hτ1, pu_wr_k (by decide), r4 24 0 (by simp), ← hta, pu_wr_eq], ⟨A, ?_⟩, hi_fr b2 ?_ ?_ ?_ ?_ (Nat.le_refl _) b7, Or.inr ⟨by rw [← hσ1, pu_wr_eq], by rw [← hτ1, pu_wr_eq], A, ?_⟩, ?_, ?_, tx_fr b6 ?_ ?_ ?_ ?_, b7⟩
  · rw [tj 25 (by decide) (by decide)]
    exact PR_fr hA (fun j q => by rw [e1 j (by omega), f1 j 0 (by decide)])
  · rw [e1 15 (by decide), f2 15 0 (by decide)]
  · exact fun j g q1 q2 => by rw [e1 j (by omega), f1 j g (by omega)]
  · exact t24 5 (by decide) (by decide)
  · exact tj 28 (by decide) (by decide)
  · refine PR_row (PR_cls hA (g' := 2) (s := σ1) ?_) (fun x hx => ?_)
    · obtain ⟨z0, z12, z13, z3, z6, z7, z8, z9, z11⟩ := p2
      rw [cd_same, e1 0 (by decide), e1 12 (by decide), e1 13 (by decide), e1 3 (by decide), e1 4 (by decide), e1 5 (by decide), e1 6 (by decide), e1 7 (by decide), e1 8 (by decide), e1 9 (by decide), e1 10 (by decide), e1 11 (by decide)]
      exact ⟨z0, z12, z13, z3, z6, z7, z8, z9, z11⟩
    · rw [← hτ1, pu_wr_j (by decide), r2 x (by omega) hx, ← hta, pu_wr_j (by decide)]
  · rw [e14 9 (by decide), t24 7 (by decide) (by decide)]
    exact b4
  · rw [e14 10 (by decide), t24 12 (by decide) (by decide)]
    exact b5
  · rw [e1 20 (by decide), f2 20 0 (by decide)]
  · rw [e1 21 (by decide), f2 21 0 (by decide)]
  · exact t24 9 (by decide) (by decide)
  · exact tj 29 (by decide) (by decide)
theorem pb_back {σ τ : en_M} {t : Nat} (h : Rel σ τ t) : ∃ x σ1 τ1, k_cc_back σ = some (x, σ1) ∧ k_mm_back τ = some (x, τ1) ∧ τ1 24 0 0 0 = 0 ∧ Rel σ1 τ1 t := by
  have h0 := h
  obtain ⟨⟨A, hA⟩, b2, b3, b4, b5, b6, b7⟩ := h
  have b3' := b3
  obtain ⟨ta, hta⟩ : ∃ z, en_wr τ 24 0 0 0 0 = z := ⟨_, rfl⟩
  rcases b3 with ⟨c1, c2⟩ | ⟨c1, c2, A', hA'⟩
  · refine ⟨0, σ, ta, ?_, ?_, by rw [← hta, pu_wr_eq], by rw [← hta]; exact rl_th h0 0⟩
    · rw [k_cc_back, c1, if_pos rfl]
    · rw [k_mm_back, pu_let, hta, ← hta, pu_wr_k (by decide), c2, if_pos rfl]
  · obtain ⟨s2, p1, p2⟩ := cp_card (g := 0) (g1 := 2) (σ := σ) (by omega) hA'.1.1.2.2.2.1
    obtain ⟨f1, f2⟩ := fc_card (q := 0) (f_cd_copyFrom p1)
    obtain ⟨sa, hsa⟩ : ∃ z, en_wr s2 15 0 0 1 0 = z := ⟨_, rfl⟩
    obtain ⟨σ1, hσ1⟩ : ∃ z, en_wr sa 15 0 0 2 0 = z := ⟨_, rfl⟩
    have e1 : ∀ j, j ≠ 15 → σ1 j = s2 j := fun j q => by rw [← hσ1, pu_wr_j q, ← hsa, pu_wr_j q]
    obtain ⟨tb, r1, r2, -, r4⟩ := cy_back en_fu 0 ta (by omega) (by rw [en_fu]; omega)
    rw [nI_0] at r1
    obtain ⟨τ1, hτ1⟩ : ∃ z, en_wr tb 24 0 0 5 0 = z := ⟨_, rfl⟩
    have tj : ∀ j, j ≠ 24 → j ≠ 25 → τ1 j 0 = τ j 0 := fun j q1 q2 => by rw [← hτ1, pu_wr_j q1, r4 j 0 (by simp [q2]), ← hta, pu_wr_j q1]
    have t24 : ∀ k, k ≠ 0 → k ≠ 5 → τ1 24 0 0 k = τ 24 0 0 k := fun k q1 q2 => by rw [← hτ1, pu_wr_k q2, r4 24 0 (by simp), ← hta, pu_wr_k q1]
    refine ⟨1, σ1, τ1, ?_, ?_, by rw [← hτ1, pu_wr_k (by decide), r4 24 0 (by simp), ← hta, pu_wr_eq], ⟨A', ?_⟩, ⟨0, 0, by omega, by omega, ?_, ?_, ?_, fun i hi => by omega⟩, im_fr b3' ?_ ?_ ?_ ?_ (Nat.le_refl _) b7, ?_, ?_, tx_fr b6 ?_ ?_ ?_ ?_, b7⟩
    · rw [k_cc_back, c1, if_neg (by decide), p1, pu_b1, k_hi_forget, pu_let, hsa, pu_let, hσ1, pu_b1]
    · rw [k_mm_back, pu_let, hta, show ta 24 0 0 6 = 1 by rw [← hta, pu_wr_k (by decide), c2], if_neg (by decide), r1, pu_b1, pu_let, hτ1]
    · refine PR_row (PR_fr (PR_cls hA' p2) (fun j q => by rw [e1 j (by omega)])) (fun x hx => ?_)
      rw [← hτ1, pu_wr_j (by decide), r2 x (by omega) hx, ← hta, pu_wr_j (by decide)]
    · rw [← hσ1, pu_wr_k (by decide), ← hsa, pu_wr_eq]
      rfl
    · rw [← hσ1, pu_wr_eq]
      rfl
    · rw [← hτ1, pu_wr_eq]
      rfl
    · rw [e1 14 (by decide), f2 14 0 (by decide)]
    · exact fun j q => by rw [e1 j (by omega), f1 j 2 (by decide)]
    · exact t24 6 (by decide) (by decide)
    · exact tj 27 (by decide) (by decide)
    · rw [e1 14 (by decide), f2 14 0 (by decide), t24 7 (by decide) (by decide)]
      exact b4
    · rw [e1 14 (by decide), f2 14 0 (by decide), t24 12 (by decide) (by decide)]
      exact b5
    · rw [e1 20 (by decide), f2 20 0 (by decide)]
    · rw [e1 21 (by decide), f2 21 0 (by decide)]
    · exact t24 9 (by decide) (by decide)
    · exact tj 29 (by decide) (by decide)
theorem pb_why {σ τ : en_M} {t : Nat} (h : Rel σ τ t) : ∃ τ1, k_mm_why τ = some (k_cc_why σ, τ1) ∧ τ1 24 0 0 0 = 0 ∧ Rel σ τ1 t := by
  refine ⟨en_wr τ 24 0 0 0 0, ?_, pu_wr_eq, rl_th h 0⟩
  rw [k_mm_why, pu_let, pu_wr_k (by decide), k_cc_why, h.2.2.2.1]
theorem pb_fault {σ τ : en_M} {t : Nat} (h : Rel σ τ t) : ∃ τ1, k_mm_fault τ = some (k_cc_fault σ, τ1) ∧ τ1 24 0 0 0 = 0 ∧ Rel σ τ1 t := by
  refine ⟨en_wr τ 24 0 0 0 0, ?_, pu_wr_eq, rl_th h 0⟩
  rw [k_mm_fault, pu_let, pu_wr_k (by decide), k_cc_fault, h.2.2.2.2.1]
theorem pb_end {σ τ : en_M} {t : Nat} (h : Rel σ τ t) (v : Int32) : ∃ x σ1 τ1, k_cc_end v σ = some (x, σ1) ∧ k_mm_end v τ = some (x, τ1) ∧ τ1 24 0 0 0 = 0 ∧ Rel σ1 τ1 t := by
  obtain ⟨ta, hta⟩ : ∃ z, en_wr τ 24 0 0 0 0 = z := ⟨_, rfl⟩
  have hra : Rel σ ta t := by rw [← hta]; exact rl_th h 0
  have e0 : ta 24 0 0 0 = 0 := by rw [← hta, pu_wr_eq]
  obtain ⟨⟨A, hA⟩, b2, b3, b4, b5, ⟨l, l1, l2, l3, l4⟩, b7⟩ := hra
  rw [k_mm_end, pu_let, hta, l3]
  by_cases hv : k_mm_isIn v 0 (nI l) = 0
  · rw [if_pos hv]
    refine ⟨0, σ, ta, ?_, rfl, e0, ⟨A, hA⟩, b2, b3, b4, b5, ⟨l, l1, l2, l3, l4⟩, b7⟩
    rw [k_cc_end, l2]
    by_cases h1 : v < 0
    · rw [if_pos h1]
    · rw [if_neg h1, if_neg (fun q => ?_)]
      rw [k_mm_isIn, if_neg h1] at hv
      have h2 : ¬ nI l < v := by
        rw [nu_ltx' (by omega)]
        rw [nu_lex (by omega)] at q
        omega
      rw [if_neg h2] at hv
      exact absurd hv (by decide)
  · rw [if_neg hv]
    obtain ⟨n, rfl, -, hn⟩ := in_of (a := 0) (b := l) (by decide) (by omega) hv
    refine ⟨1, en_wr σ 20 0 0 1 (nI n), en_wr ta 24 0 0 9 (nI n), ?_, rfl, by rw [pu_wr_k (by decide), e0], ⟨A, ?_⟩, hi_fr b2 ?_ ?_ ?_ ?_ (Nat.le_refl _) b7, im_fr b3 ?_ ?_ ?_ ?_ (Nat.le_refl _) b7, ?_, ?_, ⟨n, by omega, pu_wr_eq, pu_wr_eq, fun i hi => ?_⟩, b7⟩
    · rw [k_cc_end, it_neg (by omega), l2, it_le (by omega) (by omega), if_pos hn, pu_let]
    · rw [pu_wr_j (by decide)]
      exact PR_fr hA (fun j q => by rw [pu_wr_j (by omega)])
    · rw [pu_wr_j (by decide)]
    · exact fun j g q _ => by rw [pu_wr_j (by omega)]
    · rw [pu_wr_k (by decide)]
    · rw [pu_wr_j (by decide)]
    · rw [pu_wr_j (by decide)]
    · exact fun j q => by rw [pu_wr_j (by omega)]
    · rw [pu_wr_k (by decide)]
    · rw [pu_wr_j (by decide)]
    · rw [pu_wr_j (by decide), pu_wr_k (by decide)]
      exact b4
    · rw [pu_wr_j (by decide), pu_wr_k (by decide)]
      exact b5
    · rw [pu_wr_j (by decide), pu_wr_j (by decide)]
      exact l4 i (by omega)

/-! Questions as they are asked. -/
theorem q_need {σ τ : en_M} {t : Nat} {A : ab_A} (h : ab_PR σ 0 (τ 25 0 0) A t) (v : Int32) : (k_cc_needFlow v σ = some (.inl 2) ∧ k_mm_isFlow v τ = 0) ∨ (k_cc_needFlow v σ = some (.inr ()) ∧ k_mm_isFlow v τ = 1) := by
  rcases ac_flow h.1.1.s h.2.1 h.2.2.1 v with ⟨f, rfl, hf, a1, a2⟩ | ⟨a1, a2⟩
  · exact Or.inr ⟨by rw [k_cc_needFlow, a1, pu_b1], a2⟩
  · exact Or.inl ⟨by rw [k_cc_needFlow, a1, pu_b1], a2⟩
theorem q_set {σ τ : en_M} {t : Nat} (h : Rel σ τ t) : ∃ s, en_wr τ 24 0 0 0 0 = s ∧ s 24 0 0 0 = 0 ∧ s 24 0 0 0 ≤ 0 ∧ Rel σ s t ∧ ∃ A, ab_PR σ 0 (s 25 0 0) A t :=
  ⟨_, rfl, pu_wr_eq, by rw [pu_wr_eq]; decide, rl_th h 0, (rl_th h 0).1⟩
theorem q_bad {σ τ : en_M} {t : Nat} (h : Rel σ τ t) {v : Int32} (hv : ¬ v ≤ 0) : ∃ s, en_wr τ 24 0 0 0 v = s ∧ s 24 0 0 0 = v ∧ ¬ s 24 0 0 0 ≤ 0 ∧ Rel σ s t :=
  ⟨_, rfl, pu_wr_eq, by rw [pu_wr_eq]; exact hv, rl_th h v⟩
theorem pb_latest {σ τ : en_M} {t : Nat} (h : Rel σ τ t) (v : Int32) : ∃ x τ1, k_cc_latest v σ = some x ∧ k_mm_latest v τ = some (x, τ1) ∧ τ1 24 0 0 0 = 0 ∧ Rel σ τ1 t := by
  obtain ⟨⟨A, hA⟩, b2, b3, b4, b5, b6, b7⟩ := h
  obtain ⟨x, τ1, a1, a2, a3, a4⟩ := lq_latest hA.1.1 hA.2.1 hA.2.2.1 v
  have t24 : ∀ k, k ≠ 0 → τ1 24 0 0 k = τ 24 0 0 k := fun k q => by rw [a4, upd, if_neg q]
  refine ⟨x, τ1, by rw [k_cc_latest, a1, pu_b1], a2, by rw [a4, upd, if_pos rfl], ⟨A, ?_⟩, hi_fr b2 rfl (fun _ _ _ _ => rfl) (t24 5 (by decide)) (a3 28 0 (by simp)) (Nat.le_refl _) b7, im_fr b3 rfl (fun _ _ => rfl) (t24 6 (by decide)) (a3 27 0 (by simp)) (Nat.le_refl _) b7, by rw [t24 7 (by decide)]; exact b4, by rw [t24 12 (by decide)]; exact b5, tx_fr b6 rfl rfl (t24 9 (by decide)) (a3 29 0 (by simp)), b7⟩
  rw [a3 25 0 (by simp)]
  exact hA
theorem pb_rest {σ τ : en_M} {t : Nat} (h : Rel σ τ t) : ∃ x τ1, k_cc_rest σ = some x ∧ k_mm_rest τ = some (x, τ1) ∧ τ1 24 0 0 0 = 0 ∧ Rel σ τ1 t := by
  obtain ⟨s, s1, s2, s3, s4, A, hA⟩ := q_set h
  have h9 := ab_l40 hA.2.2.1
  obtain ⟨x, a1, a2⟩ := lq_rest hA.1.1 hA.2.1 hA.2.2.1 en_fu 0 (-1) ⟨by rw [en_fu]; omega, by omega⟩ (by rw [en_fu]; omega)
  rw [show nI (0 + 1) = 1 from rfl] at a1 a2
  refine ⟨x, s, ?_, ?_, s2, s4⟩
  · rw [k_cc_rest, k_lg_restOf, hA.1.1.1.2.1, a1, pu_b1, pu_b1]
  · rw [k_mm_rest, pu_let, s1, a2, pu_b1]
theorem pb_burst {σ τ : en_M} {t : Nat} (h : Rel σ τ t) (v w : Int32) : ∃ a x τ1, k_cc_burst v w σ = some a ∧ k_mm_burst v w τ = some (x, τ1) ∧ rl_A [(2, 1), (0, 2)] a x (τ1 24 0 0 0) ∧ Rel σ τ1 t := by
  obtain ⟨A0, hA0⟩ := h.1
  rcases q_need hA0 v with ⟨n1, n2⟩ | ⟨n1, n2⟩
  · obtain ⟨s, s1, s2, s3, s4⟩ := q_bad h (v := 1) (by decide)
    refine ⟨.inl 2, 0, s, ?_, ?_, ?_, s4⟩
    · rw [k_cc_burst, n1, pu_b1]
      rfl
    · rw [k_mm_burst, if_pos n2, pu_let, s1, if_neg s3]
    · show (_, _) ∈ _
      rw [s2]
      simp
  · have n2' : ¬ k_mm_isFlow v τ = 0 := by rw [n2]; decide
    by_cases hw : k_mm_isIn w 1 99 = 0
    · obtain ⟨s, s1, s2, s3, s4⟩ := q_bad h (v := 2) (by decide)
      refine ⟨.inl 0, 0, s, ?_, ?_, ?_, s4⟩
      · rw [k_cc_burst, n1, pu_b1]
        show (if k_mm_isIn w 1 99 = 0 then _ else _) = _
        rw [if_pos hw]
      · rw [k_mm_burst, if_neg n2', if_pos hw, pu_let, s1, if_neg s3]
      · show (_, _) ∈ _
        rw [s2]
        simp
    · obtain ⟨n, rfl, hn1, hn9⟩ := in_of (a := 1) (b := 99) (by decide) (by decide) hw
      obtain ⟨s, s1, s2, s3, s4, A, hA⟩ := q_set h
      obtain ⟨x, a1, a2⟩ := lq_burst hA.1.1 hA.2.1 hA.2.2.1 v hn1 hn9
      refine ⟨.inr x, x, s, ?_, ?_, ⟨s2, rfl⟩, s4⟩
      · rw [k_cc_burst, n1, pu_b1]
        show (if k_mm_isIn (nI n) 1 99 = 0 then _ else _) = _
        rw [if_neg hw, a1, pu_b1]
      · rw [k_mm_burst, if_neg n2', if_neg hw, pu_let, s1, if_pos s3, a2, pu_b1]
theorem pb_merged {σ τ : en_M} {t : Nat} (h : Rel σ τ t) (v w : Int32) : ∃ a x τ1, k_cc_merged v w σ = some a ∧ k_mm_merged v w τ = some (x, τ1) ∧ rl_A [(2, 1)] a x (τ1 24 0 0 0) ∧ Rel σ τ1 t := by
  obtain ⟨A0, hA0⟩ := h.1
  rcases q_need hA0 v with ⟨n1, n2⟩ | ⟨n1, n2⟩
  · obtain ⟨s, s1, s2, s3, s4⟩ := q_bad h (v := 1) (by decide)
    refine ⟨.inl 2, 0, s, ?_, ?_, ?_, s4⟩
    · rw [k_cc_merged, n1, pu_b1]
      rfl
    · rw [k_mm_merged, if_pos n2, pu_let, s1, if_neg s3]
    · show (_, _) ∈ _
      rw [s2]
      simp
  · have n2' : ¬ k_mm_isFlow v τ = 0 := by rw [n2]; decide
    obtain ⟨s, s1, s2, s3, s4, A, hA⟩ := q_set h
    have h9 := ab_l40 hA.2.2.1
    by_cases hw : w = 0
    · obtain ⟨x, z, a1, a2⟩ := lq_merged hA.1.1 hA.2.1 hA.2.2.1 v w en_fu 0 0 (-1) 0 0 (by omega) (by rw [en_fu]; omega)
      rw [nI_0] at a1 a2
      refine ⟨.inr x, x, s, ?_, ?_, ⟨s2, rfl⟩, s4⟩
      · rw [k_cc_merged, n1, pu_b1]
        show (if w = 0 then _ else _) = _
        rw [if_pos hw, k_lg_mergedOf, a1, pu_b1, pu_b1]
      · rw [k_mm_merged, if_neg n2', pu_let, s1, if_pos s3, k_mm_mergedOf, a2, pu_b2, if_pos hw, pu_b1]
    · obtain ⟨x, z, a1, a2⟩ := lq_most hA.1.1 hA.2.1 hA.2.2.1 v w en_fu 0 0 (-1) (-1) 0 0 (by omega) (by rw [en_fu]; omega) (by decide)
      rw [nI_0] at a1 a2
      refine ⟨.inr x, x, s, ?_, ?_, ⟨s2, rfl⟩, s4⟩
      · rw [k_cc_merged, n1, pu_b1]
        show (if w = 0 then _ else _) = _
        rw [if_neg hw, k_lg_mostMergedOf, a1, pu_b1, pu_b1]
      · rw [k_mm_merged, if_neg n2', pu_let, s1, if_pos s3, k_mm_mergedOf, a2, pu_b2, if_neg hw, pu_b1]
theorem pb_share {σ τ : en_M} {t : Nat} (h : Rel σ τ t) (v : Int32) : ∃ a x τ1, k_cc_share v σ = some a ∧ k_mm_share v τ = some (x, τ1) ∧ rl_A [(2, 1)] a x (τ1 24 0 0 0) ∧ Rel σ τ1 t := by
  obtain ⟨A0, hA0⟩ := h.1
  rcases q_need hA0 v with ⟨n1, n2⟩ | ⟨n1, n2⟩
  · obtain ⟨s, s1, s2, s3, s4⟩ := q_bad h (v := 1) (by decide)
    refine ⟨.inl 2, 0, s, ?_, ?_, ?_, s4⟩
    · rw [k_cc_share, n1, pu_b1]
      rfl
    · rw [k_mm_share, if_pos n2, pu_let, s1, if_neg s3]
    · show (_, _) ∈ _
      rw [s2]
      simp
  · have n2' : ¬ k_mm_isFlow v τ = 0 := by rw [n2]; decide
    obtain ⟨s, s1, s2, s3, s4, A, hA⟩ := q_set h
    have h9 := ab_l40 hA.2.2.1
    obtain ⟨a, S, hS, a1, a2⟩ := lq_share hA.1.1 hA.2.1 hA.2.2.1 v en_fu 0 0 0 (by omega) (by rw [en_fu]; omega) (by omega)
    rw [nI_0] at a1 a2
    have e1 : k_cc_share v σ = en_b1 (k_lg_shareOf 0 v σ) (fun t5 => some (.inr t5)) := by
      rw [k_cc_share, n1, pu_b1]
      rfl
    rw [e1, k_lg_shareOf, a1, pu_b2, k_mm_share, if_neg n2', pu_let, s1, if_pos s3, a2, pu_b2, itx_lt (a := 0) (b := S) (x := 0) rfl rfl (by decide) (by omega), itx_eq (a := S) (b := 0) (y := 0) rfl rfl (by omega) (by decide)]
    by_cases h0 : S = 0
    · rw [if_neg (by omega), if_pos h0, pu_b1]
      exact ⟨.inr 0, 0, s, rfl, rfl, ⟨s2, rfl⟩, s4⟩
    · rw [if_pos (by omega), if_neg h0, en_dv, if_neg (nI_ne0 (by omega) (by omega)), pu_b1, pu_b1, pu_b1]
      exact ⟨_, _, s, rfl, rfl, ⟨s2, rfl⟩, s4⟩
theorem pb_delay {σ τ : en_M} {t : Nat} (h : Rel σ τ t) (v : Int32) : ∃ a x τ1, k_cc_delay v σ = some a ∧ k_mm_delay v τ = some (x, τ1) ∧ rl_A [(2, 1)] a x (τ1 24 0 0 0) ∧ Rel σ τ1 t := by
  obtain ⟨A0, hA0⟩ := h.1
  rcases q_need hA0 v with ⟨n1, n2⟩ | ⟨n1, n2⟩
  · obtain ⟨s, s1, s2, s3, s4⟩ := q_bad h (v := 1) (by decide)
    refine ⟨.inl 2, 0, s, ?_, ?_, ?_, s4⟩
    · rw [k_cc_delay, n1, pu_b1]
      rfl
    · rw [k_mm_delay, if_pos n2, pu_let, s1, if_neg s3]
    · show (_, _) ∈ _
      rw [s2]
      simp
  · have n2' : ¬ k_mm_isFlow v τ = 0 := by rw [n2]; decide
    obtain ⟨s, s1, s2, s3, s4, A, hA⟩ := q_set h
    have h9 := ab_l40 hA.2.2.1
    obtain ⟨a, S, hS, a1, a2⟩ := lq_delay hA.1.1 hA.2.1 hA.2.2.1 v en_fu 0 0 0 (by omega) (by rw [en_fu]; omega) (by omega)
    rw [nI_0] at a1 a2
    have e1 : k_cc_delay v σ = en_b1 (k_lg_delayOf 0 v σ) (fun t5 => some (.inr t5)) := by
      rw [k_cc_delay, n1, pu_b1]
      rfl
    rw [e1, k_lg_delayOf, a1, pu_b2, k_mm_delay, if_neg n2', pu_let, s1, if_pos s3, a2, pu_b2, itx_lt (a := 0) (b := S) (x := 0) rfl rfl (by decide) (by omega), itx_eq (a := S) (b := 0) (y := 0) rfl rfl (by omega) (by decide)]
    by_cases h0 : S = 0
    · rw [if_neg (by omega), if_pos h0, pu_b1]
      exact ⟨.inr (-1), -1, s, rfl, rfl, ⟨s2, rfl⟩, s4⟩
    · rw [if_pos (by omega), if_neg h0, en_dv, if_neg (nI_ne0 (by omega) (by omega)), pu_b1, pu_b1, pu_b1]
      exact ⟨_, _, s, rfl, rfl, ⟨s2, rfl⟩, s4⟩
theorem pb_count {σ τ : en_M} {t : Nat} (h : Rel σ τ t) (v : Int32) : ∃ x τ1, k_cc_count v σ = some x ∧ k_mm_count v τ = some (x, τ1) ∧ τ1 24 0 0 0 = 0 ∧ Rel σ τ1 t := by
  obtain ⟨s, s1, s2, s3, s4, A, hA⟩ := q_set h
  have fin : ∀ x y : Int32, x = y → ∃ x' τ1, some x = some x' ∧ some (y, s) = some (x', τ1) ∧ τ1 24 0 0 0 = 0 ∧ Rel σ τ1 t := fun x y e => ⟨x, s, rfl, by rw [e], s2, s4⟩
  have hN := ab_N hA.2.2.1
  have htk112 := hA.2.2.1.1.2.2.2.2.2.2.2.2.1
  have hlt : aH A 8 < aH A 5 ∨ aH A 11 = 0 := by
    by_cases q : aH A 11 = 0
    · exact Or.inr q
    · exact Or.inl (hA.2.2.1.2.2.2.2.1 q).2.1
  obtain ⟨k8, k9, k10, k11, k12, k13, k14, k15, -⟩ := hA.1.1.1
  have kc := hA.1.1.2.2.2.2.2.2.2
  have mh := hA.2.1.1.1
  obtain ⟨-, m7, m8, m10, m11, m12, m13, m14, -, m17, m18, -⟩ := hA.2.1.1
  have hWH := hA.2.2.2.2.1
  have hh : σ 15 0 0 2 = s 24 0 0 5 := by
    obtain ⟨e, c, -, -, -, q1, q2, -⟩ := s4.2.1
    rw [q1, q2]
  rw [k_cc_count, k_mm_count, pu_let, s1]
  by_cases c0 : v = 0
  · rw [if_pos c0, if_pos c0]
    exact fin _ _ (k8.trans (mh 0 (by decide)).symm)
  rw [if_neg c0, if_neg c0]
  by_cases c1 : v = 1
  · rw [if_pos c1, if_pos c1]
    exact fin _ _ (k9.trans (mh 1 (by decide)).symm)
  rw [if_neg c1, if_neg c1]
  by_cases c2 : v = 2
  · rw [if_pos c2, if_pos c2]
    exact fin _ _ (k10.trans (mh 2 (by decide)).symm)
  rw [if_neg c2, if_neg c2]
  by_cases c3 : v = 3
  · rw [if_pos c3, if_pos c3]
    exact fin _ _ (k12.trans (mh 3 (by decide)).symm)
  rw [if_neg c3, if_neg c3]
  by_cases c4 : v = 4
  · rw [if_pos c4, if_pos c4]
    exact fin _ _ (k11.trans (mh 4 (by decide)).symm)
  rw [if_neg c4, if_neg c4]
  by_cases c5 : v = 5
  · rw [if_pos c5, if_pos c5]
    exact fin _ _ (k13.trans (mh 5 (by decide)).symm)
  rw [if_neg c5, if_neg c5]
  by_cases c6 : v = 6
  · rw [if_pos c6, if_pos c6]
    exact fin _ _ (k14.trans (mh 6 (by decide)).symm)
  rw [if_neg c6, if_neg c6]
  by_cases c7 : v = 7
  · rw [if_pos c7, if_pos c7]
    rw [ct_inState hA.1.1.s hA.2.2.1 (v := 0) (st := 0) rfl (by decide), pu_b1, ct_waiting hA.2.1 hA.2.2.1, pu_b1]
    exact fin _ _ rfl
  rw [if_neg c7, if_neg c7]
  by_cases c8 : v = 8
  · rw [if_pos c8, if_pos c8]
    exact fin _ _ ((kc 0 (by decide)).trans m7.symm)
  rw [if_neg c8, if_neg c8]
  by_cases c9 : v = 9
  · rw [if_pos c9, if_pos c9]
    exact fin _ _ ((kc 1 (by decide)).trans m8.symm)
  rw [if_neg c9, if_neg c9]
  by_cases c10 : v = 10
  · rw [if_pos c10, if_pos c10]
    exact fin _ _ (hA.1.1.2.2.2.2.2.2.1.1.trans m10.symm)
  rw [if_neg c10, if_neg c10]
  by_cases c11 : v = 11
  · rw [if_pos c11, if_pos c11]
    exact fin _ _ ((kc 2 (by decide)).trans m11.symm)
  rw [if_neg c11, if_neg c11]
  by_cases c12 : v = 12
  · rw [if_pos c12, if_pos c12]
    rw [ct_inState hA.1.1.s hA.2.2.1 (v := 2) (st := 2) rfl (by decide), pu_b1, ct_heldq hA.2.1 hA.2.2.1, pu_b1]
    exact fin _ _ rfl
  rw [if_neg c12, if_neg c12]
  by_cases c13 : v = 13
  · rw [if_pos c13, if_pos c13]
    exact fin _ _ ((kc 3 (by decide)).trans m12.symm)
  rw [if_neg c13, if_neg c13]
  by_cases c14 : v = 14
  · rw [if_pos c14, if_pos c14]
    exact fin _ _ ((kc 4 (by decide)).trans m13.symm)
  rw [if_neg c14, if_neg c14]
  by_cases c15 : v = 15
  · rw [if_pos c15, if_pos c15]
    exact fin _ _ ((kc 5 (by decide)).trans m14.symm)
  rw [if_neg c15, if_neg c15]
  by_cases c16 : v = 16
  · rw [if_pos c16, if_pos c16]
    exact fin _ _ ((lq_sz hA.1.1).trans m18.symm)
  rw [if_neg c16, if_neg c16]
  by_cases c17 : v = 17
  · rw [if_pos c17, if_pos c17]
    rw [k15, itx_le (a := aH A 7) (b := 0) (y := 0) m17 rfl (by omega) (by decide)]
    by_cases q : aH A 11 = 0
    · rw [if_pos q, if_pos rfl, if_pos (by have := hWH.mp q; omega)]
      exact fin _ _ rfl
    · rw [if_neg q, it_m1 (by omega), if_neg (fun z => q (hWH.mpr (by omega)))]
      exact fin _ _ rfl
  rw [if_neg c17, if_neg c17]
  by_cases c18 : v = 18
  · rw [if_pos c18, if_pos c18]
    exact fin _ _ (hh)
  rw [if_neg c18, if_neg c18]
  exact fin _ _ rfl

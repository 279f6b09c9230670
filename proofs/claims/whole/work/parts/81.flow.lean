/-! What a flow tells; who holds a byte. -/
theorem pb_flow {σ τ : en_M} {t : Nat} (h : Rel σ τ t) (v w : Int32) : ∃ a x τ1, k_cc_flow v w σ = some a ∧ k_mm_flow v w τ = some (x, τ1) ∧ rl_A [(2, 1), (3, 2)] a x (τ1 24 0 0 0) ∧ Rel σ τ1 t := by
  obtain ⟨A0, hA0⟩ := h.1
  rcases ac_flow hA0.1.1.s hA0.2.1 hA0.2.2.1 v with ⟨f, rfl, hf, n1, n2⟩ | ⟨n1, n2⟩
  · have n2' : ¬ k_mm_isFlow (nI f) τ = 0 := by rw [n2]; decide
    by_cases hw : k_mm_isIn w 0 7 = 0
    · obtain ⟨s, s1, s2, s3, s4⟩ := q_bad h (v := 2) (by decide)
      refine ⟨.inl 3, 0, s, ?_, ?_, ?_, s4⟩
      · have hne : ∀ i : Int32, ¬ k_mm_isIn i 0 7 = 0 → ¬ w = i := fun i q e => q (by rw [← e]; exact hw)
        rw [k_cc_flow, n1, pu_b1]
        simp only []
        rw [if_neg (hne 0 (by decide)), if_neg (hne 1 (by decide)), if_neg (hne 2 (by decide)), if_neg (hne 3 (by decide)), if_neg (hne 4 (by decide)), if_neg (hne 5 (by decide)), if_neg (hne 6 (by decide)), if_neg (hne 7 (by decide))]
      · rw [k_mm_flow, if_neg n2', if_pos hw, pu_let, s1, if_neg s3]
      · show (_, _) ∈ _
        rw [s2]
        simp
    · obtain ⟨k, rfl, -, hk8⟩ := in_of (a := 0) (b := 7) (by decide) (by decide) hw
      obtain ⟨s, s1, s2, s3, s4, -⟩ := q_set h
      have e25 : s 25 0 0 = τ 25 0 0 := by rw [← s1, pu_wr_j (by decide)]
      obtain ⟨s6, r1, r2, r3, hA, r5, r6⟩ := q_times s4 (A := A0) (by rw [e25]; exact hA0)
      have hN := ab_N hA.2.2.1
      have hf6 : f < 6 := by omega
      have fin : ∀ x y : Int32, x = y → ∃ a x' τ1, (some (.inr x) : Option (Nat ⊕ Int32)) = some a ∧ some (y, s6) = some (x', τ1) ∧ rl_A [(2, 1), (3, 2)] a x' (τ1 24 0 0 0) ∧ Rel σ τ1 t := fun x y e => ⟨.inr x, y, s6, rfl, rfl, ⟨by rw [r2, s2], e.symm⟩, r3⟩
      obtain ⟨d0, d1, d2, -, -, -, d7, d8⟩ := hA.1.1.2.2.1 f hf
      have d6 := hA.1.2.1 f hf
      have q2 := (hA.2.2.1.2.1 f hf).2.2.1
      obtain ⟨x3, y3, z3⟩ := ct_left hA.1.1.s hA.2.1 hA.2.2.1 (nI f)
      obtain ⟨x7, y7, z7⟩ := lq_jitter hA.1.1 hA.2.1 hA.2.2.1 (nI f)
      have e7 := (hA.2.1.2.1 f hf).2.2
      rw [k_cc_flow, n1, pu_b1, k_mm_flow, if_neg n2', if_neg hw, pu_let, s1, if_pos s3, r1, pu_b1]
      simp only []
      rcases (show k = 0 ∨ k = 1 ∨ k = 2 ∨ k = 3 ∨ k = 4 ∨ k = 5 ∨ k = 6 ∨ k = 7 by omega) with rfl | rfl | rfl | rfl | rfl | rfl | rfl | rfl
      · rw [if_pos (show nI 0 = 0 from rfl), if_pos (show nI 0 = 0 from rfl), mo_flw hA.2.1 hA.2.2.1 (x := 0) (w := 0) rfl hf (by decide), pu_b1]
        exact fin _ _ d0
      · rw [if_neg (show ¬ nI 1 = 0 by decide), if_pos (show nI 1 = 1 from rfl), if_neg (show ¬ nI 1 = 0 by decide), if_pos (show nI 1 = 1 from rfl), mo_flw hA.2.1 hA.2.2.1 (x := 1) (w := 1) rfl hf (by decide), pu_b1]
        exact fin _ _ d1
      · rw [if_neg (show ¬ nI 2 = 0 by decide), if_neg (show ¬ nI 2 = 1 by decide), if_pos (show nI 2 = 2 from rfl), if_neg (show ¬ nI 2 = 0 by decide), if_neg (show ¬ nI 2 = 1 by decide), if_pos (show nI 2 = 2 from rfl), mo_flw hA.2.1 hA.2.2.1 (x := 2) (w := 2) rfl hf (by decide), pu_b1, d2, itx_eq (a := aF A0 f 2) (b := 0) (y := 0) rfl rfl (by omega) (by decide)]
        by_cases e : aF A0 f 2 = 0
        · rw [if_pos e, e]
          exact fin _ _ rfl
        · rw [if_neg e, show aF A0 f 2 = 1 by omega]
          exact fin _ _ rfl
      · rw [if_neg (show ¬ nI 3 = 0 by decide), if_neg (show ¬ nI 3 = 1 by decide), if_neg (show ¬ nI 3 = 2 by decide), if_pos (show nI 3 = 3 from rfl), y3, pu_b1, if_neg (show ¬ nI 3 = 0 by decide), if_neg (show ¬ nI 3 = 1 by decide), if_neg (show ¬ nI 3 = 2 by decide), if_pos (show nI 3 = 3 from rfl), z3, pu_b1]
        exact fin _ _ rfl
      · rw [if_neg (show ¬ nI 4 = 0 by decide), if_neg (show ¬ nI 4 = 1 by decide), if_neg (show ¬ nI 4 = 2 by decide), if_neg (show ¬ nI 4 = 3 by decide), if_pos (show nI 4 = 4 from rfl), if_neg (show ¬ nI 4 = 0 by decide), if_neg (show ¬ nI 4 = 1 by decide), if_neg (show ¬ nI 4 = 2 by decide), if_neg (show ¬ nI 4 = 3 by decide), if_pos (show nI 4 = 4 from rfl), pu_rd hf6 (by decide), pu_b1, r5 f hf]
        exact fin _ _ d6
      · rw [if_neg (show ¬ nI 5 = 0 by decide), if_neg (show ¬ nI 5 = 1 by decide), if_neg (show ¬ nI 5 = 2 by decide), if_neg (show ¬ nI 5 = 3 by decide), if_neg (show ¬ nI 5 = 4 by decide), if_pos (show nI 5 = 5 from rfl), if_neg (show ¬ nI 5 = 0 by decide), if_neg (show ¬ nI 5 = 1 by decide), if_neg (show ¬ nI 5 = 2 by decide), if_neg (show ¬ nI 5 = 3 by decide), if_neg (show ¬ nI 5 = 4 by decide), if_pos (show nI 5 = 5 from rfl), mo_fl (x := 7) (w := 7) rfl hf6 (by decide), pu_b1]
        exact fin _ _ (d7.trans e7.1.symm)
      · rw [if_neg (show ¬ nI 6 = 0 by decide), if_neg (show ¬ nI 6 = 1 by decide), if_neg (show ¬ nI 6 = 2 by decide), if_neg (show ¬ nI 6 = 3 by decide), if_neg (show ¬ nI 6 = 4 by decide), if_neg (show ¬ nI 6 = 5 by decide), if_pos (show nI 6 = 6 from rfl), if_neg (show ¬ nI 6 = 0 by decide), if_neg (show ¬ nI 6 = 1 by decide), if_neg (show ¬ nI 6 = 2 by decide), if_neg (show ¬ nI 6 = 3 by decide), if_neg (show ¬ nI 6 = 4 by decide), if_neg (show ¬ nI 6 = 5 by decide), if_pos (show nI 6 = 6 from rfl), mo_fl (x := 8) (w := 8) rfl hf6 (by decide), pu_b1]
        exact fin _ _ (d8.trans e7.2.symm)
      · rw [if_neg (show ¬ nI 7 = 0 by decide), if_neg (show ¬ nI 7 = 1 by decide), if_neg (show ¬ nI 7 = 2 by decide), if_neg (show ¬ nI 7 = 3 by decide), if_neg (show ¬ nI 7 = 4 by decide), if_neg (show ¬ nI 7 = 5 by decide), if_neg (show ¬ nI 7 = 6 by decide), if_pos (show nI 7 = 7 from rfl), y7, pu_b1, if_neg (show ¬ nI 7 = 0 by decide), if_neg (show ¬ nI 7 = 1 by decide), if_neg (show ¬ nI 7 = 2 by decide), if_neg (show ¬ nI 7 = 3 by decide), if_neg (show ¬ nI 7 = 4 by decide), if_neg (show ¬ nI 7 = 5 by decide), if_neg (show ¬ nI 7 = 6 by decide), z7, pu_b1]
        exact fin _ _ rfl
  · obtain ⟨s, s1, s2, s3, s4⟩ := q_bad h (v := 1) (by decide)
    refine ⟨.inl 2, 0, s, ?_, ?_, ?_, s4⟩
    · rw [k_cc_flow, n1, pu_b1]
    · rw [k_mm_flow, if_pos n2, pu_let, s1, if_neg s3]
    · show (_, _) ∈ _
      rw [s2]
      simp
theorem pb_holder {σ τ : en_M} {t : Nat} (h : Rel σ τ t) (v w : Int32) : ∃ a x τ1, k_cc_holder v w σ = some a ∧ k_mm_holder v w τ = some (x, τ1) ∧ rl_A [(2, 1)] a x (τ1 24 0 0 0) ∧ Rel σ τ1 t := by
  obtain ⟨A, hA⟩ := h.1
  obtain ⟨s, s1, s2, s3, s4⟩ := q_bad h (v := 1) (by decide)
  have bad : ∀ {p : Option (Nat ⊕ Int32)} {q : Option (Int32 × en_M)}, p = some (.inl 2) → q = some (0, s) → ∃ a x τ1, p = some a ∧ q = some (x, τ1) ∧ rl_A [(2, 1)] a x (τ1 24 0 0 0) ∧ Rel σ τ1 t := fun e1 e2 => ⟨_, _, _, e1, e2, by show (_, _) ∈ _; rw [s2]; simp, s4⟩
  rcases ac_known hA.1.1.s hA.2.1 hA.2.2.1 v with ⟨n, rfl, hwin, -, n1, n2⟩ | ⟨n1, n2⟩
  · have n2' : ¬ k_mm_isKnown (nI n) τ = 0 := by rw [n2]; decide
    have hp := ab_pc hA.2.2.1 hwin
    have hN := ab_N hA.2.2.1
    have hn5 := hwin.1
    obtain ⟨-, l1, c1, -⟩ := hA.2.2.1.2.2.1 n hwin
    obtain ⟨-, -, d2, d3, -, -, d6, -⟩ := hA.1.1.2.1 n hwin
    rw [k_cc_holder, n1, pu_b1, k_mm_holder, if_neg n2', mo_pcs hA.2.1 hA.2.2.1 hwin, pu_b1, itx_le (a := aS A n 6) (b := 0) (y := 0) rfl rfl (by omega) (by decide)]
    simp only []
    rw [d6, itx_eq (a := aS A n 6) (b := 0) (y := 0) rfl rfl (by omega) (by decide)]
    by_cases h0 : aS A n 6 = 0
    · rw [if_pos h0, if_pos (show aS A n 6 ≤ 0 by omega), pu_let, s1, if_neg s3]
      exact bad rfl rfl
    · rw [if_neg h0, if_neg (show ¬ aS A n 6 ≤ 0 by omega), mo_snd hA.2.1 hA.2.2.1 (x := 1) (w := 1) rfl hwin (by decide), pu_b1, d2, in_eq]
      by_cases hw : k_mm_isIn w 0 (nI (aS A n 1) - 1) = 0
      · rw [if_pos hw, if_pos hw, pu_let, s1, if_neg s3]
        exact bad rfl rfl
      · obtain ⟨g, g1, g2, g3, g4, -⟩ := q_set h
        have e25 : g 25 0 0 = τ 25 0 0 := by rw [← g1, pu_wr_j (by decide)]
        have hMg : ab_MR (g 25 0 0) A := by rw [e25]; exact hA.2.1
        rw [if_neg hw, if_neg hw, pu_let, g1, if_pos g3, d3, itx_lt (a := 0) (b := aS A n 2) (x := 0) rfl rfl (by decide) (by omega), if_pos (show 0 < aS A n 2 by omega), mo_snd hMg hA.2.2.1 (x := 2) (w := 2) rfl hwin (by decide), pu_b1, en_dv, if_neg (nI_ne0 (by omega) (by omega)), pu_b1, pu_b1]
        exact ⟨_, _, g, rfl, rfl, ⟨g2, rfl⟩, g4⟩
  · refine bad ?_ ?_
    · rw [k_cc_holder, n1, pu_b1]
    · rw [k_mm_holder, if_pos n2, pu_let, s1, if_neg s3]

/-! A piece's fields as they are asked. -/
theorem pb_piece {σ τ : en_M} {t : Nat} (h : Rel σ τ t) (v w u : Int32) : ∃ a x τ1, k_cc_piece v w u σ = some a ∧ k_mm_piece v w u τ = some (x, τ1) ∧ rl_A [(2, 1), (3, 2)] a x (τ1 24 0 0 0) ∧ Rel σ τ1 t := by
  obtain ⟨A, hA⟩ := h.1
  rcases q_piece hA v w with ⟨p1, p2⟩ | ⟨n, k, rfl, rfl, hwin, hk, p1, p2, p3⟩
  · obtain ⟨s, s1, s2, s3, s4⟩ := q_bad h (v := 1) (by decide)
    refine ⟨.inl 2, 0, s, ?_, ?_, ?_, s4⟩
    · rcases p2 with p2 | ⟨z, p2, p3⟩
      · rw [k_cc_piece, p2, pu_b1]
      · rw [k_cc_piece, p2, pu_b1]
        simp only []
        rw [p3, if_pos rfl]
    · rw [k_mm_piece, p1, pu_b1, if_pos rfl, pu_let, s1, if_neg s3]
    · show (_, _) ∈ _
      rw [s2]
      simp
  · by_cases hu : k_mm_isIn u 0 4 = 0
    · obtain ⟨s, s1, s2, s3, s4⟩ := q_bad h (v := 2) (by decide)
      refine ⟨.inl 3, 0, s, ?_, ?_, ?_, s4⟩
      · have hne : ∀ i : Int32, ¬ k_mm_isIn i 0 4 = 0 → ¬ u = i := fun i q e => q (by rw [← e]; exact hu)
        rw [k_cc_piece, p1, pu_b1]
        simp only []
        rw [if_neg p2, if_neg (hne 0 (by decide)), if_neg (hne 1 (by decide)), if_neg (hne 2 (by decide)), if_neg (hne 3 (by decide)), if_neg (hne 4 (by decide))]
      · rw [k_mm_piece, p3, pu_b1, if_neg (show ¬ (1 : Int32) = 0 by decide), if_pos hu, pu_let, s1, if_neg s3]
      · show (_, _) ∈ _
        rw [s2]
        simp
    · obtain ⟨f, rfl, -, hf⟩ := in_of (a := 0) (b := 4) (by decide) (by decide) hu
      obtain ⟨b1, b2, b3, b4, b5, b6, b7, b8⟩ := oc_bd hA.2.2.1 hwin hk
      obtain ⟨s, s1, s2, s3, s4, -⟩ := q_set h
      have e25 : s 25 0 0 = τ 25 0 0 := by rw [← s1, pu_wr_j (by decide)]
      obtain ⟨s6, r1, r2, r3, hB, r5, r6⟩ := q_times s4 (A := A) (by rw [e25]; exact hA)
      have hN := ab_N hB.2.2.1
      have hm8 : n % 8 < 8 := Nat.mod_lt _ (by decide)
      have fin : ∀ x y : Int32, x = y → ∃ a x' τ1, (some (.inr x) : Option (Nat ⊕ Int32)) = some a ∧ some (y, s6) = some (x', τ1) ∧ rl_A [(2, 1), (3, 2)] a x' (τ1 24 0 0 0) ∧ Rel σ τ1 t := fun x y e => ⟨.inr x, y, s6, rfl, rfl, ⟨by rw [r2, s2], e.symm⟩, r3⟩
      obtain ⟨z1, z2, z3⟩ := hB.1.1.2.2.2.2.1 n k hwin hk
      obtain ⟨y1, y2⟩ := hB.2.1.2.2.2.1 n k hwin b3
      obtain ⟨y3, y4⟩ := y1 (Or.inl hk)
      have hst := (ab_pk hB.2.2.1 hwin hk).1
      obtain ⟨-, -, -, -, -, -, -, -, w9, w10, -⟩ := hB.2.2.1.2.2.1 n hwin
      rw [k_cc_piece, p1, pu_b1, k_mm_piece, p3, pu_b1, if_neg (show ¬ (1 : Int32) = 0 by decide), if_neg hu, pu_let, s1, if_pos s3, r1, pu_b1]
      simp only []
      rw [if_neg p2, ac_index hB.1.1.s hB.2.2.1 hwin b3, pu_rd (by omega) (by decide), pu_rd (by omega) (by decide), pu_rd (by omega) (by decide), pu_b1, pu_b1, pu_b1]
      rcases (show f = 0 ∨ f = 1 ∨ f = 2 ∨ f = 3 ∨ f = 4 by omega) with rfl | rfl | rfl | rfl | rfl
      · rw [if_pos (show nI 0 = 0 from rfl), if_pos (show nI 0 = 0 from rfl), ac_size hB.1.1.s hB.2.2.1 hwin hk, mo_sz hB.2.1 hB.2.2.1 hwin hk, pu_b1]
        exact fin _ _ rfl
      · rw [if_neg (show ¬ nI 1 = 0 by decide), if_pos (show nI 1 = 1 from rfl), if_neg (show ¬ nI 1 = 0 by decide), if_pos (show nI 1 = 1 from rfl), mo_left hB.2.1 hB.2.2.1 hwin hk, pu_b1, mo_pl (by omega), pu_rd (by omega) (by decide), pu_b1, mo_pat (x := 0) (w := 0) rfl (by omega), pu_rd (by omega) (by decide), pu_b1]
        by_cases ha : k < aS A n 7
        · rw [if_pos ha, if_neg (show ¬ (1 : Int32) = 0 by decide)]
          refine fin _ _ ?_
          rw [z1 ha]
          exact (y2 ha).symm
        · have h1 : aS A n 4 = 1 := by
            rcases hst with q | q
            · exact q
            · have := w9 q
              omega
          have hR : aH A 6 ≤ n := by
            apply Decidable.byContradiction
            intro q
            have := w10 (by omega)
            omega
          rw [if_neg ha, if_pos rfl, r6 n k hR hwin.1 h1 (by omega) hk]
          exact fin _ _ (hB.1.2.2 n k hwin hR h1 (by omega) hk)
      · rw [if_neg (show ¬ nI 2 = 0 by decide), if_neg (show ¬ nI 2 = 1 by decide), if_pos (show nI 2 = 2 from rfl), if_neg (show ¬ nI 2 = 0 by decide), if_neg (show ¬ nI 2 = 1 by decide), if_pos (show nI 2 = 2 from rfl), mo_pat (x := 1) (w := 1) rfl (by omega), pu_rd (by omega) (by decide), pu_b1]
        exact fin _ _ (z2.trans y3.symm)
      · rw [if_neg (show ¬ nI 3 = 0 by decide), if_neg (show ¬ nI 3 = 1 by decide), if_neg (show ¬ nI 3 = 2 by decide), if_pos (show nI 3 = 3 from rfl), if_neg (show ¬ nI 3 = 0 by decide), if_neg (show ¬ nI 3 = 1 by decide), if_neg (show ¬ nI 3 = 2 by decide), if_pos (show nI 3 = 3 from rfl), mo_pat (x := 2) (w := 2) rfl (by omega), pu_rd (by omega) (by decide), pu_b1]
        exact fin _ _ (z3.trans y4.symm)
      · rw [if_neg (show ¬ nI 4 = 0 by decide), if_neg (show ¬ nI 4 = 1 by decide), if_neg (show ¬ nI 4 = 2 by decide), if_neg (show ¬ nI 4 = 3 by decide), if_pos (show nI 4 = 4 from rfl), if_neg (show ¬ nI 4 = 0 by decide), if_neg (show ¬ nI 4 = 1 by decide), if_neg (show ¬ nI 4 = 2 by decide), if_neg (show ¬ nI 4 = 3 by decide), sm_sum hB.1.1.s hB.2.1 hB.2.2.1 hwin hk, pu_b1, sm_summ hB.1.1.s hB.2.1 hB.2.2.1 hwin hk, pu_b1]
        exact fin _ _ rfl

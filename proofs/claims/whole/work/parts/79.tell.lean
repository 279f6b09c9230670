/-! What a send and the log tell. -/
theorem pb_told {σ τ : en_M} {t : Nat} (h : Rel σ τ t) (v w : Int32) : ∃ a x τ1, k_cc_told v w σ = some a ∧ k_mm_told v w τ = some (x, τ1) ∧ rl_A [(2, 1), (3, 2)] a x (τ1 24 0 0 0) ∧ Rel σ τ1 t := by
  obtain ⟨A0, hA0⟩ := h.1
  rcases ac_known hA0.1.1.s hA0.2.1 hA0.2.2.1 v with ⟨n, rfl, -, -, n1, n2⟩ | ⟨n1, n2⟩
  · have n2' : ¬ k_mm_isKnown (nI n) τ = 0 := by rw [n2]; decide
    by_cases hw : k_mm_isIn w 0 8 = 0
    · obtain ⟨s, s1, s2, s3, s4⟩ := q_bad h (v := 2) (by decide)
      refine ⟨.inl 3, 0, s, ?_, ?_, ?_, s4⟩
      · have hne : ∀ i : Int32, ¬ k_mm_isIn i 0 8 = 0 → ¬ w = i := fun i q e => q (by rw [← e]; exact hw)
        rw [k_cc_told, n1, pu_b1]
        simp only []
        rw [if_neg (hne 0 (by decide)), if_neg (hne 1 (by decide)), if_neg (hne 2 (by decide)), if_neg (hne 3 (by decide)), if_neg (hne 4 (by decide)), if_neg (hne 5 (by decide)), if_neg (hne 6 (by decide)), if_neg (hne 7 (by decide)), if_neg (hne 8 (by decide))]
      · rw [k_mm_told, if_neg n2', if_pos hw, pu_let, s1, if_neg s3]
      · show (_, _) ∈ _
        rw [s2]
        simp
    · obtain ⟨k, rfl, -, hk8⟩ := in_of (a := 0) (b := 8) (by decide) (by decide) hw
      obtain ⟨s, s1, s2, s3, s4, A, hA⟩ := q_set h
      obtain ⟨n', e', hwin, -, m1, -⟩ | ⟨m1, -⟩ := ac_known hA.1.1.s hA.2.1 hA.2.2.1 (nI n)
      · rw [n1] at m1
        have hz : n % 8 = n' % 8 := Option.some.inj (Option.some.inj m1)
        rw [e'] at n1 n2' ⊢
        rw [hz] at n1
        have fin : ∀ x y : Int32, x = y → ∃ a x' τ1, (some (.inr x) : Option (Nat ⊕ Int32)) = some a ∧ some (y, s) = some (x', τ1) ∧ rl_A [(2, 1), (3, 2)] a x' (τ1 24 0 0 0) ∧ Rel σ τ1 t := fun x y e => ⟨.inr x, y, s, rfl, rfl, ⟨s2, e.symm⟩, s4⟩
        obtain ⟨-, d1, d2, d3, d4, d5, d6, -, d8, d9, d10⟩ := hA.1.1.2.1 n' hwin
        rw [k_cc_told, n1, pu_b1, k_mm_told, if_neg n2', if_neg hw, pu_let, s1, if_pos s3]
        simp only []
        rcases (show k = 0 ∨ k = 1 ∨ k = 2 ∨ k = 3 ∨ k = 4 ∨ k = 5 ∨ k = 6 ∨ k = 7 ∨ k = 8 by omega) with rfl | rfl | rfl | rfl | rfl | rfl | rfl | rfl | rfl
        · rw [if_pos (show nI 0 = 0 from rfl), if_neg (show ¬ nI 0 = 5 by decide), if_neg (show ¬ nI 0 = 6 by decide), if_neg (show ¬ nI 0 = 7 by decide), if_neg (show ¬ nI 0 = 8 by decide), mo_snd hA.2.1 hA.2.2.1 (x := nI 0) (w := 0) rfl hwin (by decide), pu_b1]
          exact fin _ _ d1
        · rw [if_neg (show ¬ nI 1 = 0 by decide), if_pos (show nI 1 = 1 from rfl), if_neg (show ¬ nI 1 = 5 by decide), if_neg (show ¬ nI 1 = 6 by decide), if_neg (show ¬ nI 1 = 7 by decide), if_neg (show ¬ nI 1 = 8 by decide), mo_snd hA.2.1 hA.2.2.1 (x := nI 1) (w := 1) rfl hwin (by decide), pu_b1]
          exact fin _ _ d2
        · rw [if_neg (show ¬ nI 2 = 0 by decide), if_neg (show ¬ nI 2 = 1 by decide), if_pos (show nI 2 = 2 from rfl), if_neg (show ¬ nI 2 = 5 by decide), if_neg (show ¬ nI 2 = 6 by decide), if_neg (show ¬ nI 2 = 7 by decide), if_neg (show ¬ nI 2 = 8 by decide), mo_snd hA.2.1 hA.2.2.1 (x := nI 2) (w := 2) rfl hwin (by decide), pu_b1]
          exact fin _ _ d3
        · rw [if_neg (show ¬ nI 3 = 0 by decide), if_neg (show ¬ nI 3 = 1 by decide), if_neg (show ¬ nI 3 = 2 by decide), if_pos (show nI 3 = 3 from rfl), if_neg (show ¬ nI 3 = 5 by decide), if_neg (show ¬ nI 3 = 6 by decide), if_neg (show ¬ nI 3 = 7 by decide), if_neg (show ¬ nI 3 = 8 by decide), mo_snd hA.2.1 hA.2.2.1 (x := nI 3) (w := 3) rfl hwin (by decide), pu_b1]
          exact fin _ _ d4
        · rw [if_neg (show ¬ nI 4 = 0 by decide), if_neg (show ¬ nI 4 = 1 by decide), if_neg (show ¬ nI 4 = 2 by decide), if_neg (show ¬ nI 4 = 3 by decide), if_pos (show nI 4 = 4 from rfl), if_neg (show ¬ nI 4 = 5 by decide), if_neg (show ¬ nI 4 = 6 by decide), if_neg (show ¬ nI 4 = 7 by decide), if_neg (show ¬ nI 4 = 8 by decide), mo_snd hA.2.1 hA.2.2.1 (x := nI 4) (w := 4) rfl hwin (by decide), pu_b1]
          exact fin _ _ d5
        · rw [if_neg (show ¬ nI 5 = 0 by decide), if_neg (show ¬ nI 5 = 1 by decide), if_neg (show ¬ nI 5 = 2 by decide), if_neg (show ¬ nI 5 = 3 by decide), if_neg (show ¬ nI 5 = 4 by decide), if_pos (show nI 5 = 5 from rfl), if_pos (show nI 5 = 5 from rfl), mo_pcs hA.2.1 hA.2.2.1 hwin, pu_b1]
          exact fin _ _ d6
        · rw [if_neg (show ¬ nI 6 = 0 by decide), if_neg (show ¬ nI 6 = 1 by decide), if_neg (show ¬ nI 6 = 2 by decide), if_neg (show ¬ nI 6 = 3 by decide), if_neg (show ¬ nI 6 = 4 by decide), if_neg (show ¬ nI 6 = 5 by decide), if_pos (show nI 6 = 6 from rfl), if_neg (show ¬ nI 6 = 5 by decide), if_pos (show nI 6 = 6 from rfl), mo_raw hA.2.1 hA.2.2.1 (x := 5) (w := 0) rfl hwin (by decide), pu_b1]
          exact fin _ _ d8
        · rw [if_neg (show ¬ nI 7 = 0 by decide), if_neg (show ¬ nI 7 = 1 by decide), if_neg (show ¬ nI 7 = 2 by decide), if_neg (show ¬ nI 7 = 3 by decide), if_neg (show ¬ nI 7 = 4 by decide), if_neg (show ¬ nI 7 = 5 by decide), if_neg (show ¬ nI 7 = 6 by decide), if_pos (show nI 7 = 7 from rfl), if_neg (show ¬ nI 7 = 5 by decide), if_neg (show ¬ nI 7 = 6 by decide), if_pos (show nI 7 = 7 from rfl), mo_raw hA.2.1 hA.2.2.1 (x := 6) (w := 1) rfl hwin (by decide), pu_b1]
          exact fin _ _ d9
        · rw [if_neg (show ¬ nI 8 = 0 by decide), if_neg (show ¬ nI 8 = 1 by decide), if_neg (show ¬ nI 8 = 2 by decide), if_neg (show ¬ nI 8 = 3 by decide), if_neg (show ¬ nI 8 = 4 by decide), if_neg (show ¬ nI 8 = 5 by decide), if_neg (show ¬ nI 8 = 6 by decide), if_neg (show ¬ nI 8 = 7 by decide), if_pos (show nI 8 = 8 from rfl), if_neg (show ¬ nI 8 = 5 by decide), if_neg (show ¬ nI 8 = 6 by decide), if_neg (show ¬ nI 8 = 7 by decide), if_pos (show nI 8 = 8 from rfl), mo_raw hA.2.1 hA.2.2.1 (x := 7) (w := 2) rfl hwin (by decide), pu_b1]
          exact fin _ _ d10
      · rw [n1] at m1
        exact absurd (Option.some.inj m1) (by simp)
  · obtain ⟨s, s1, s2, s3, s4⟩ := q_bad h (v := 1) (by decide)
    refine ⟨.inl 2, 0, s, ?_, ?_, ?_, s4⟩
    · rw [k_cc_told, n1, pu_b1]
    · rw [k_mm_told, if_pos n2, pu_let, s1, if_neg s3]
    · show (_, _) ∈ _
      rw [s2]
      simp
theorem lr_in {v : Int32} {L : Nat} (hL : L ≤ 40) : (k_mm_isIn v 0 (nI L - 1) = 0 ∧ (v < 0 ∨ (¬ v < 0 ∧ nI L ≤ v))) ∨ (∃ i, v = nI i ∧ i < L ∧ ¬ k_mm_isIn v 0 (nI L - 1) = 0) := by
  by_cases h1 : v < 0
  · exact Or.inl ⟨by rw [k_mm_isIn, if_pos h1], Or.inl h1⟩
  · have h1' := h1
    rw [show (0 : Int32) = nI 0 from rfl, nu_ltx (by decide)] at h1'
    by_cases h2 : nI L ≤ v
    · refine Or.inl ⟨?_, Or.inr ⟨h1, h2⟩⟩
      rw [k_mm_isIn, if_neg h1, if_pos]
      rw [nu_lx (by omega)] at h2
      rcases L with _ | L
      · rw [show nI 0 - 1 = (-1 : Int32) from rfl, Int32.lt_iff_toInt_lt, show (-1 : Int32).toInt = -1 from rfl]
        omega
      · rw [nI_pred, nu_ltx' (by omega)]
        omega
    · have h2' := h2
      rw [nu_lx (by omega)] at h2'
      obtain ⟨i, i1, i2⟩ := nu_of (x := v) (a := L) (by omega) (by omega) (by omega)
      refine Or.inr ⟨i, i2, i1, ?_⟩
      rw [k_mm_isIn, if_neg h1, if_neg]
      · decide
      · obtain ⟨M, rfl⟩ : ∃ M, L = M + 1 := ⟨L - 1, by omega⟩
        rw [i2, nI_pred, pu_lt (by omega) (by omega)]
        omega
theorem lr_out {σ : en_M} {v c : Int32} {L : Nat} (h6 : σ 6 0 0 2 = nI L) (h : v < 0 ∨ (¬ v < 0 ∧ nI L ≤ v)) : k_lg_at 0 v c σ = some (-1) ∧ k_lg_lateOf 0 v σ = some (-1) := by
  rcases h with h | ⟨h1, h2⟩
  · exact ⟨by rw [k_lg_at, if_pos h], by rw [k_lg_lateOf, if_pos h]⟩
  · refine ⟨by rw [k_lg_at, if_neg h1, h6, if_pos h2], ?_⟩
    rw [k_lg_lateOf, if_neg h1, h6, if_neg]
    intro q
    rw [Int32.lt_iff_toInt_lt] at q
    rw [Int32.le_iff_toInt_le] at h2
    omega
theorem pb_log {σ τ : en_M} {t : Nat} (h : Rel σ τ t) (v w : Int32) : ∃ a x τ1, k_cc_log v w σ = some a ∧ k_mm_log v w τ = some (x, τ1) ∧ rl_A [(3, 1)] a x (τ1 24 0 0 0) ∧ Rel σ τ1 t := by
  by_cases hw : k_mm_isIn w 0 7 = 0
  · obtain ⟨s, s1, s2, s3, s4⟩ := q_bad h (v := 1) (by decide)
    refine ⟨.inl 3, 0, s, ?_, ?_, ?_, s4⟩
    · have hne : ∀ i : Int32, ¬ k_mm_isIn i 0 7 = 0 → ¬ w = i := fun i q e => q (by rw [← e]; exact hw)
      rw [k_cc_log, if_neg (hne 0 (by decide)), if_neg (hne 1 (by decide)), if_neg (hne 2 (by decide)), if_neg (hne 3 (by decide)), if_neg (hne 4 (by decide)), if_neg (hne 5 (by decide)), if_neg (hne 6 (by decide)), if_neg (hne 7 (by decide))]
    · rw [k_mm_log, if_pos hw, pu_let, s1, if_neg s3]
    · show (_, _) ∈ _
      rw [s2]
      simp
  · obtain ⟨k, rfl, -, hk8⟩ := in_of (a := 0) (b := 7) (by decide) (by decide) hw
    obtain ⟨s, s1, s2, s3, s4, A, hA⟩ := q_set h
    have h9 := ab_l40 hA.2.2.1
    have c6 := lq_sz hA.1.1
    have m18 := lq_szm hA.2.1
    have fin : ∀ x y : Int32, x = y → ∃ a x' τ1, (some (.inr x) : Option (Nat ⊕ Int32)) = some a ∧ some (y, s) = some (x', τ1) ∧ rl_A [(3, 1)] a x' (τ1 24 0 0 0) ∧ Rel σ τ1 t := fun x y e => ⟨.inr x, y, s, rfl, rfl, ⟨s2, e.symm⟩, s4⟩
    rw [k_cc_log, k_mm_log, if_neg hw, pu_let, s1, if_pos s3, m18]
    rcases lr_in (v := v) h9 with ⟨l1, l2⟩ | ⟨i, rfl, i1, l1⟩
    · rw [if_pos l1]
      have la := fun c => (lr_out (c := c) c6 l2).1
      have lb := (lr_out (c := 0) c6 l2).2
      rw [la, la, la, la, la, la, lb, la]
      simp only [pu_b1]
      rcases (show k = 0 ∨ k = 1 ∨ k = 2 ∨ k = 3 ∨ k = 4 ∨ k = 5 ∨ k = 6 ∨ k = 7 by omega) with rfl | rfl | rfl | rfl | rfl | rfl | rfl | rfl <;> exact fin _ _ rfl
    · rw [if_neg l1]
      rcases (show k = 0 ∨ k = 1 ∨ k = 2 ∨ k = 3 ∨ k = 4 ∨ k = 5 ∨ k = 6 ∨ k = 7 by omega) with rfl | rfl | rfl | rfl | rfl | rfl | rfl | rfl
      · rw [if_pos (show nI 0 = 0 from rfl), ac_at hA.1.1 hA.2.2.1 (x := 0) (c := 0) rfl i1 (by decide), pu_b1, if_neg (show ¬ nI 0 = 6 by decide), if_neg (show ¬ nI 0 = 7 by decide), mo_log hA.2.1 hA.2.2.1 (x := nI 0) (c := 0) rfl i1 (by decide), pu_b1]
        exact fin _ _ rfl
      · rw [if_neg (show ¬ nI 1 = 0 by decide), if_pos (show nI 1 = 1 from rfl), ac_at hA.1.1 hA.2.2.1 (x := 1) (c := 1) rfl i1 (by decide), pu_b1, if_neg (show ¬ nI 1 = 6 by decide), if_neg (show ¬ nI 1 = 7 by decide), mo_log hA.2.1 hA.2.2.1 (x := nI 1) (c := 1) rfl i1 (by decide), pu_b1]
        exact fin _ _ rfl
      · rw [if_neg (show ¬ nI 2 = 0 by decide), if_neg (show ¬ nI 2 = 1 by decide), if_pos (show nI 2 = 2 from rfl), ac_at hA.1.1 hA.2.2.1 (x := 2) (c := 2) rfl i1 (by decide), pu_b1, if_neg (show ¬ nI 2 = 6 by decide), if_neg (show ¬ nI 2 = 7 by decide), mo_log hA.2.1 hA.2.2.1 (x := nI 2) (c := 2) rfl i1 (by decide), pu_b1]
        exact fin _ _ rfl
      · rw [if_neg (show ¬ nI 3 = 0 by decide), if_neg (show ¬ nI 3 = 1 by decide), if_neg (show ¬ nI 3 = 2 by decide), if_pos (show nI 3 = 3 from rfl), ac_at hA.1.1 hA.2.2.1 (x := 3) (c := 3) rfl i1 (by decide), pu_b1, if_neg (show ¬ nI 3 = 6 by decide), if_neg (show ¬ nI 3 = 7 by decide), mo_log hA.2.1 hA.2.2.1 (x := nI 3) (c := 3) rfl i1 (by decide), pu_b1]
        exact fin _ _ rfl
      · rw [if_neg (show ¬ nI 4 = 0 by decide), if_neg (show ¬ nI 4 = 1 by decide), if_neg (show ¬ nI 4 = 2 by decide), if_neg (show ¬ nI 4 = 3 by decide), if_pos (show nI 4 = 4 from rfl), ac_at hA.1.1 hA.2.2.1 (x := 4) (c := 4) rfl i1 (by decide), pu_b1, if_neg (show ¬ nI 4 = 6 by decide), if_neg (show ¬ nI 4 = 7 by decide), mo_log hA.2.1 hA.2.2.1 (x := nI 4) (c := 4) rfl i1 (by decide), pu_b1]
        exact fin _ _ rfl
      · rw [if_neg (show ¬ nI 5 = 0 by decide), if_neg (show ¬ nI 5 = 1 by decide), if_neg (show ¬ nI 5 = 2 by decide), if_neg (show ¬ nI 5 = 3 by decide), if_neg (show ¬ nI 5 = 4 by decide), if_pos (show nI 5 = 5 from rfl), ac_at hA.1.1 hA.2.2.1 (x := 5) (c := 5) rfl i1 (by decide), pu_b1, if_neg (show ¬ nI 5 = 6 by decide), if_neg (show ¬ nI 5 = 7 by decide), mo_log hA.2.1 hA.2.2.1 (x := nI 5) (c := 5) rfl i1 (by decide), pu_b1]
        exact fin _ _ rfl
      · rw [if_neg (show ¬ nI 6 = 0 by decide), if_neg (show ¬ nI 6 = 1 by decide), if_neg (show ¬ nI 6 = 2 by decide), if_neg (show ¬ nI 6 = 3 by decide), if_neg (show ¬ nI 6 = 4 by decide), if_neg (show ¬ nI 6 = 5 by decide), if_pos (show nI 6 = 6 from rfl), ac_late hA.1.1 hA.2.2.1 i1, pu_b1, if_pos (show nI 6 = 6 from rfl), mo_late hA.2.1 hA.2.2.1 i1, pu_b1]
        exact fin _ _ rfl
      · rw [if_neg (show ¬ nI 7 = 0 by decide), if_neg (show ¬ nI 7 = 1 by decide), if_neg (show ¬ nI 7 = 2 by decide), if_neg (show ¬ nI 7 = 3 by decide), if_neg (show ¬ nI 7 = 4 by decide), if_neg (show ¬ nI 7 = 5 by decide), if_neg (show ¬ nI 7 = 6 by decide), if_pos (show nI 7 = 7 from rfl), ac_at hA.1.1 hA.2.2.1 (x := 6) (c := 6) rfl i1 (by decide), pu_b1, if_neg (show ¬ nI 7 = 6 by decide), if_pos (show nI 7 = 7 from rfl), mo_log hA.2.1 hA.2.2.1 (x := 6) (c := 6) rfl i1 (by decide), pu_b1]
        exact fin _ _ rfl

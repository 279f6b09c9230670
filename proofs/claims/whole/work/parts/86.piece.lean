/-! A piece's octets and fields as they are asked. -/
theorem q_piece {σ τ : en_M} {t : Nat} {A : ab_A} (hA : ab_PR σ 0 (τ 25 0 0) A t) (v w : Int32) : (k_mm_isPiece v w τ = some 0 ∧ (k_cd_knownSend 0 v σ = some none ∨ ∃ z, k_cd_knownSend 0 v σ = some (some z) ∧ k_sd_hasPiece 0 z w σ = 0)) ∨ (∃ n k, v = nI n ∧ w = nI k ∧ ab_win A n ∧ k < aS A n 6 ∧ k_cd_knownSend 0 v σ = some (some (n % 8)) ∧ ¬ k_sd_hasPiece 0 (n % 8) w σ = 0 ∧ k_mm_isPiece v w τ = some 1) := by
  rcases ac_known hA.1.1.s hA.2.1 hA.2.2.1 v with ⟨n, rfl, hwin, -, n1, n2⟩ | ⟨n1, n2⟩
  · have n2' : ¬ k_mm_isKnown (nI n) τ = 0 := by rw [n2]; decide
    have hp := ab_pc hA.2.2.1 hwin
    have d6 := (hA.1.1.2.1 n hwin).2.2.2.2.2.2.1
    have e1 : k_mm_isPiece (nI n) w τ = (if k_mm_isIn w 0 (nI (aS A n 6) - 1) = 0 then some 0 else some 1) := by
      rw [k_mm_isPiece, if_neg n2', mo_pcs hA.2.1 hA.2.2.1 hwin, pu_b1]
    rcases lr_in (v := w) (L := aS A n 6) (by omega) with ⟨l1, l2⟩ | ⟨i, rfl, i1, l1⟩
    · refine Or.inl ⟨by rw [e1, if_pos l1], Or.inr ⟨_, n1, ?_⟩⟩
      rw [k_sd_hasPiece, d6]
      rcases l2 with q | ⟨q1, q2⟩
      · rw [if_pos q]
      · rw [if_neg q1, if_pos q2]
    · refine Or.inr ⟨n, i, rfl, rfl, hwin, i1, n1, ?_, by rw [e1, if_neg l1]⟩
      rw [k_sd_hasPiece, d6, it_neg (by omega), it_le (by omega) (by omega), if_neg (by omega)]
      decide
  · exact Or.inl ⟨by rw [k_mm_isPiece, if_pos n2], Or.inl n1⟩
theorem pb_octet {σ τ : en_M} {t : Nat} (h : Rel σ τ t) (v w u : Int32) : ∃ a x τ1, k_cc_octet v w u σ = some a ∧ k_mm_octet v w u τ = some (x, τ1) ∧ rl_A [(2, 1)] a x (τ1 24 0 0 0) ∧ Rel σ τ1 t := by
  obtain ⟨A, hA⟩ := h.1
  obtain ⟨s, s1, s2, s3, s4⟩ := q_bad h (v := 1) (by decide)
  have bad : ∀ {p : Option (Nat ⊕ Int32)} {q : Option (Int32 × en_M)}, p = some (.inl 2) → q = some (0, s) → ∃ a x τ1, p = some a ∧ q = some (x, τ1) ∧ rl_A [(2, 1)] a x (τ1 24 0 0 0) ∧ Rel σ τ1 t := fun e1 e2 => ⟨_, _, _, e1, e2, by show (_, _) ∈ _; rw [s2]; simp, s4⟩
  rcases q_piece hA v w with ⟨p1, p2⟩ | ⟨n, k, rfl, rfl, hwin, hk, p1, p2, p3⟩
  · refine bad ?_ ?_
    · rcases p2 with p2 | ⟨z, p2, p3⟩
      · rw [k_cc_octet, p2, pu_b1]
      · rw [k_cc_octet, p2, pu_b1]
        simp only []
        rw [k_sd_hasOctet, p3, if_pos rfl, if_pos rfl]
    · rw [k_mm_octet, p1, pu_b1, if_pos rfl, pu_let, s1, if_neg s3]
  · obtain ⟨b1, b2, b3, b4, b5, b6, b7, b8⟩ := oc_bd hA.2.2.1 hwin hk
    have hs := ab_sz_le (A := A) (n := n) (k := k) b8.2
    have hsc := ac_size hA.1.1.s hA.2.2.1 hwin hk
    have hsm := mo_sz hA.2.1 hA.2.2.1 hwin hk
    have ho : k_sd_hasOctet 0 (n % 8) (nI k) u σ = (if u < 0 then 0 else if nI (ab_sz A n k) ≤ u then 0 else 1) := by
      rw [k_sd_hasOctet, if_neg p2, hsc]
    rw [k_cc_octet, p1, pu_b1, k_mm_octet, p3, pu_b1, if_neg (show ¬ (1 : Int32) = 0 by decide), hsm, pu_b1]
    simp only []
    rw [ho]
    by_cases q1 : u < 0
    · have l1 : k_mm_isIn u 0 (nI (ab_sz A n k) - 1) = 0 := by rw [k_mm_isIn, if_pos q1]
      rw [if_pos q1, if_pos rfl, if_pos l1, pu_let, s1, if_neg s3]
      exact bad rfl rfl
    · have hsz : 12 ≤ ab_sz A n k := by rw [ab_sz]; omega
      obtain ⟨L, hL⟩ : ∃ L, ab_sz A n k = L + 1 := ⟨ab_sz A n k - 1, by omega⟩
      by_cases q2 : nI (ab_sz A n k) ≤ u
      · have l1 : k_mm_isIn u 0 (nI (ab_sz A n k) - 1) = 0 := by
          rw [k_mm_isIn, if_neg q1, hL, nI_pred, if_pos]
          rw [nu_lx (by omega)] at q2
          rw [nu_ltx' (by omega)]
          omega
        rw [if_neg q1, if_pos q2, if_pos rfl, if_pos l1, pu_let, s1, if_neg s3]
        exact bad rfl rfl
      · have q1' := q1
        have q2' := q2
        rw [show (0 : Int32) = nI 0 from rfl, nu_ltx (by decide)] at q1'
        rw [nu_lx (by omega)] at q2'
        obtain ⟨o, o1, rfl⟩ := nu_of (x := u) (a := ab_sz A n k) (by omega) (by omega) (by omega)
        have l1 : ¬ k_mm_isIn (nI o) 0 (nI (ab_sz A n k) - 1) = 0 := by
          rw [k_mm_isIn, if_neg q1, hL, nI_pred, it_lt (by omega) (by omega), if_neg (by omega)]
          decide
        obtain ⟨g, g1, g2, g3, g4, -⟩ := q_set h
        have e25 : g 25 0 0 = τ 25 0 0 := by rw [← g1, pu_wr_j (by decide)]
        have hMg : ab_MR (g 25 0 0) A := by rw [e25]; exact hA.2.1
        obtain ⟨k1, k2⟩ := sm_oct hA.1.1.s hMg hA.2.2.1 hwin hk o1
        rw [if_neg q1, if_neg q2, if_neg (show ¬ (1 : Int32) = 0 by decide), if_neg l1, pu_let, g1, if_pos g3, k1, k2, pu_b1, pu_b1]
        exact ⟨_, _, g, rfl, rfl, ⟨g2, rfl⟩, g4⟩

/-! finds as it is asked. -/
theorem q_octet {σ τ : en_M} {t : Nat} {A : ab_A} (hA : ab_PR σ 0 (τ 25 0 0) A t) (v w u : Int32) : ((k_mm_isPiece v w τ = some 0 ∨ ∃ z, k_mm_isPiece v w τ = some 1 ∧ k_mm_sizeOf v w τ = some z ∧ k_mm_isIn u 0 (z - 1) = 0) ∧ (k_cd_knownSend 0 v σ = some none ∨ ∃ z, k_cd_knownSend 0 v σ = some (some z) ∧ k_sd_hasOctet 0 z w u σ = 0)) ∨ (∃ n k o, v = nI n ∧ w = nI k ∧ u = nI o ∧ ab_win A n ∧ k < aS A n 6 ∧ o < ab_sz A n k ∧ k_cd_knownSend 0 v σ = some (some (n % 8)) ∧ ¬ k_sd_hasOctet 0 (n % 8) w u σ = 0 ∧ k_mm_isPiece v w τ = some 1 ∧ k_mm_sizeOf v w τ = some (nI (ab_sz A n k)) ∧ ¬ k_mm_isIn u 0 (nI (ab_sz A n k) - 1) = 0) := by
  rcases q_piece hA v w with ⟨p1, p2⟩ | ⟨n, k, rfl, rfl, hwin, hk, p1, p2, p3⟩
  · refine Or.inl ⟨Or.inl p1, ?_⟩
    rcases p2 with p2 | ⟨z, p2, p3⟩
    · exact Or.inl p2
    · exact Or.inr ⟨z, p2, by rw [k_sd_hasOctet, p3, if_pos rfl]⟩
  · obtain ⟨b1, b2, b3, b4, b5, b6, b7, b8⟩ := oc_bd hA.2.2.1 hwin hk
    have hs := ab_sz_le (A := A) (n := n) (k := k) b8.2
    have hsc := ac_size hA.1.1.s hA.2.2.1 hwin hk
    have hsm := mo_sz hA.2.1 hA.2.2.1 hwin hk
    have ho : k_sd_hasOctet 0 (n % 8) (nI k) u σ = (if u < 0 then 0 else if nI (ab_sz A n k) ≤ u then 0 else 1) := by
      rw [k_sd_hasOctet, if_neg p2, hsc]
    have hsz : 12 ≤ ab_sz A n k := by rw [ab_sz]; omega
    obtain ⟨L, hL⟩ : ∃ L, ab_sz A n k = L + 1 := ⟨ab_sz A n k - 1, by omega⟩
    by_cases q1 : u < 0
    · exact Or.inl ⟨Or.inr ⟨_, p3, hsm, by rw [k_mm_isIn, if_pos q1]⟩, Or.inr ⟨_, p1, by rw [ho, if_pos q1]⟩⟩
    · by_cases q2 : nI (ab_sz A n k) ≤ u
      · refine Or.inl ⟨Or.inr ⟨_, p3, hsm, ?_⟩, Or.inr ⟨_, p1, by rw [ho, if_neg q1, if_pos q2]⟩⟩
        rw [k_mm_isIn, if_neg q1, hL, nI_pred, if_pos]
        rw [nu_lx (by omega)] at q2
        rw [nu_ltx' (by omega)]
        omega
      · have q1' := q1
        have q2' := q2
        rw [show (0 : Int32) = nI 0 from rfl, nu_ltx (by decide)] at q1'
        rw [nu_lx (by omega)] at q2'
        obtain ⟨o, o1, rfl⟩ := nu_of (x := u) (a := ab_sz A n k) (by omega) (by omega) (by omega)
        refine Or.inr ⟨n, k, o, rfl, rfl, rfl, hwin, hk, o1, p1, ?_, p3, hsm, ?_⟩
        · rw [ho, if_neg q1, if_neg q2]
          decide
        · rw [k_mm_isIn, if_neg q1, hL, nI_pred, it_lt (by omega) (by omega), if_neg (by omega)]
          decide
theorem pb_finds {σ τ : en_M} {t : Nat} (h : Rel σ τ t) (v w u y : Int32) : ∃ a x τ1, k_cc_finds v w u y σ = some a ∧ k_mm_finds2 v w u y τ = some (x, τ1) ∧ rl_A [(2, 1), (0, 2)] a x (τ1 24 0 0 0) ∧ Rel σ τ1 t := by
  obtain ⟨A, hA⟩ := h.1
  rcases q_octet hA v w u with ⟨p1, p2⟩ | ⟨n, k, o, rfl, rfl, rfl, hwin, hk, ho, p1, p2, p3, p4, p5⟩
  · obtain ⟨s, s1, s2, s3, s4⟩ := q_bad h (v := 1) (by decide)
    refine ⟨.inl 2, 0, s, ?_, ?_, ?_, s4⟩
    · rcases p2 with p2 | ⟨z, p2, p3⟩
      · rw [k_cc_finds, p2, pu_b1]
      · rw [k_cc_finds, p2, pu_b1]
        simp only []
        rw [p3, if_pos rfl]
    · rcases p1 with p1 | ⟨z, p1, p3, p4⟩
      · rw [k_mm_finds2, p1, pu_b1, if_pos rfl, pu_let, s1, if_neg s3]
      · rw [k_mm_finds2, p1, pu_b1, if_neg (show ¬ (1 : Int32) = 0 by decide), p3, pu_b1, if_pos p4, pu_let, s1, if_neg s3]
    · show (_, _) ∈ _
      rw [s2]
      simp
  · by_cases hy : k_mm_isIn y 0 255 = 0
    · obtain ⟨s, s1, s2, s3, s4⟩ := q_bad h (v := 2) (by decide)
      refine ⟨.inl 0, 0, s, ?_, ?_, ?_, s4⟩
      · rw [k_cc_finds, p1, pu_b1]
        simp only []
        rw [if_neg p2]
        show (if k_mm_isIn y 0 255 = 0 then _ else _) = _
        rw [if_pos hy]
      · rw [k_mm_finds2, p3, pu_b1, if_neg (show ¬ (1 : Int32) = 0 by decide), p4, pu_b1, if_neg p5, if_pos hy, pu_let, s1, if_neg s3]
      · show (_, _) ∈ _
        rw [s2]
        simp
    · obtain ⟨f, rfl, -, hf⟩ := in_of (a := 0) (b := 255) (by decide) (by decide) hy
      obtain ⟨s, s1, s2, s3, s4, -⟩ := q_set h
      have e25 : s 25 0 0 = τ 25 0 0 := by rw [← s1, pu_wr_j (by decide)]
      have hMg : ab_MR (s 25 0 0) A := by rw [e25]; exact hA.2.1
      have hv : f < 256 := by omega
      have k1 := fc_found hA.1.1.s hMg hA.2.2.1 hwin hk hv ho
      have k2 : k_mm_finds2_65 en_fu (nI n) (nI k) (nI o) (nI f) 0 0 s = some (nI (fx_v A n k o f)) := fm_loop hA.1.1.s hMg hA.2.2.1 hwin hk hv (ab_sz A n k) 0 en_fu (by omega) (by
        obtain ⟨b1, b2, b3, b4, b5, b6, b7, b8⟩ := oc_bd hA.2.2.1 hwin hk
        have hs := ab_sz_le (A := A) (n := n) (k := k) b8.2
        rw [en_fu]
        omega) ho
      obtain ⟨-, e2⟩ := fx_v_eq hA.2.2.1 hwin hk hv ho
      have hff := (oc_ff (show fx_v A n k o f < 2 ^ 26 by omega)).2
      rw [k_cc_finds, p1, pu_b1, k_mm_finds2, p3, pu_b1, if_neg (show ¬ (1 : Int32) = 0 by decide), p4, pu_b1, if_neg p5, if_neg hy, pu_let, s1, if_pos s3, k2, pu_b1, fo_f (by omega), pu_b1, itx_eq (b := 65535) (y := 65535) rfl rfl (by omega) (by decide)]
      simp only []
      rw [if_neg p2]
      have hy' : ¬ k_cc_within (nI f) 0 255 = 0 := hy
      rw [if_neg hy', k1, pu_b1]
      by_cases c : oc_f (oc_f (fx_v A n k o f)) = 65535
      · rw [if_pos c, if_pos c]
        exact ⟨.inr 0, 0, s, rfl, rfl, ⟨s2, rfl⟩, s4⟩
      · rw [if_neg c, if_neg c]
        exact ⟨.inr 1, 1, s, rfl, rfl, ⟨s2, rfl⟩, s4⟩

/-! Acts: flow, card. -/
theorem nf_zero : ∀ (f k : Nat) (v1 v2 : Int32) (b : Nat) (τ : en_M), b + 9 ≤ 938 → k ≤ 9 → 9 < k + f → ∃ τ1, k_mm_flow0_29 f v1 v2 (nI b) (nI k) τ = some τ1 ∧ (∀ x, (x < b + k ∨ b + 9 ≤ x) → τ1 25 0 0 x = τ 25 0 0 x) ∧ (∀ x, b + k ≤ x → x < b + 9 → τ1 25 0 0 x = 0) := by
  intro f
  induction f with
  | zero => intro k v1 v2 b τ _ h1 h2; omega
  | succ f ih =>
    intro k v1 v2 b τ hb h1 h2
    rw [k_mm_flow0_29, show (9 : Int32) = nI 9 from rfl, it_le (by decide) (by omega)]
    by_cases hk : k < 9
    · rw [if_neg (by omega), nI_add, pu_wa (by omega) (by decide), pu_b1, nI_1]
      obtain ⟨τ1, a1, a2, a3⟩ := ih (k + 1) v1 v2 b (en_wr τ 25 0 0 (b + k) 0) hb (by omega) (by omega)
      refine ⟨τ1, a1, fun x hx => ?_, fun x hx hx2 => ?_⟩
      · rw [a2 x (by omega), pu_wr_k (by omega)]
      · by_cases e : x = b + k
        · rw [a2 x (by omega), e, pu_wr_eq]
        · exact a3 x (by omega) hx2
    · rw [if_pos (by omega)]
      exact ⟨τ, rfl, fun _ _ => rfl, fun x _ _ => by omega⟩
theorem nf_flow {σ τ : en_M} {g t : Nat} {A : ab_A} (h : ab_PR σ g (τ 25 0 0) A t) {rt fi : Nat} (hrt : rt ≤ 999) (hfi : fi ≤ 9999) : ∃ code τ1, k_cd_whyNoFlow g σ = code ∧ k_mm_flow0 (nI rt) (nI fi) τ = some (code, τ1) ∧ (code ≠ 0 → τ1 = τ) ∧ (code = 0 → ∃ σ1 A1, k_cd_addFlow g (nI rt) (nI fi) σ = some σ1 ∧ ab_PR σ1 g (τ1 25 0 0) A1 t) := by
  obtain ⟨hC, hM, hW, hWR⟩ := h
  have hN := ab_N hW
  have c3 := hC.1.1.2.2.2.2.1
  have m3 := hM.1.1 3 (by decide)
  rw [k_cd_whyNoFlow, c3, k_mm_flow0, m3, itx_lt (a := aH A 3) (b := 6) (y := 6) rfl rfl (by omega) (by decide), itx_eq (a := aH A 3) (b := 6) (y := 6) rfl rfl (by omega) (by decide)]
  by_cases h6 : aH A 3 = 6
  · rw [if_neg (by omega), if_pos h6]
    exact ⟨1, τ, rfl, rfl, fun _ => rfl, fun q => absurd q (by decide)⟩
  · obtain ⟨τ6, a1, a2, a3⟩ := nf_zero en_fu 0 (nI rt) (nI fi) (20 + 9 * aH A 3) τ (by omega) (by omega) (by rw [en_fu]; omega)
    rw [nI_0] at a1
    obtain ⟨F, hF⟩ : ∃ F, F = aH A 3 := ⟨_, rfl⟩
    rw [← hF] at a1 a2 a3 h6 c3 m3
    have hF6 : F < 6 := by omega
    rw [← hF, if_pos (by omega), if_neg h6, show (20 : Int32) = nI 20 from rfl, show (9 : Int32) = nI 9 from rfl, pk_mul, nI_add, a1, pu_b1, Int32.add_zero, pu_wa (by omega) (by decide), pu_b1, show (1 : Int32) = nI 1 from rfl, nI_add, pu_wa (by omega) (by decide), pu_b1, pu_let]
    refine ⟨0, _, rfl, rfl, fun q => absurd rfl q, fun _ => ?_⟩
    obtain ⟨τ1, ht⟩ : ∃ z, en_wr (en_wr (en_wr τ6 25 0 0 (20 + 9 * F) (nI rt)) 25 0 0 (20 + 9 * F + 1) (nI fi)) 25 0 0 3 ((en_wr (en_wr τ6 25 0 0 (20 + 9 * F) (nI rt)) 25 0 0 (20 + 9 * F + 1) (nI fi)) 25 0 0 3 + nI 1) = z := ⟨_, rfl⟩
    rw [ht]
    have t3 : τ1 25 0 0 3 = nI (F + 1) := by
      rw [← ht, pu_wr_eq, pu_wr_k (by omega), pu_wr_k (by omega), a2 3 (by omega), m3, nI_add]
    have tr : ∀ x, x ≠ 3 → (x < 20 + 9 * F ∨ 29 + 9 * F ≤ x) → τ1 25 0 0 x = τ 25 0 0 x := fun x h1 h2 => by
      rw [← ht, pu_wr_k h1, pu_wr_k (by omega), pu_wr_k (by omega), a2 x (by omega)]
    have t0 : τ1 25 0 0 (20 + 9 * F) = nI rt := by
      rw [← ht, pu_wr_k (by omega), pu_wr_k (by omega), pu_wr_eq]
    have t1 : τ1 25 0 0 (20 + 9 * F + 1) = nI fi := by
      rw [← ht, pu_wr_k (by omega), pu_wr_eq]
    have tz : ∀ w, 2 ≤ w → w < 9 → τ1 25 0 0 (20 + 9 * F + w) = 0 := fun w h1 h2 => by
      rw [← ht, pu_wr_k (by omega), pu_wr_k (by omega), pu_wr_k (by omega), a3 _ (by omega) (by omega)]
    obtain ⟨F', hF'⟩ : ∃ F', F' = u2 (u2 (u2 (u2 (u2 (aF A) F 0 rt) F 1 fi) F 2 0) F 3 0) F 4 0 := ⟨_, rfl⟩
    obtain ⟨X', hX'⟩ : ∃ X', X' = u2 (u2 (aX A) F 0 (0 : Int32)) F 1 0 := ⟨_, rfl⟩
    obtain ⟨H', hH'⟩ : ∃ H', H' = u1 (aH A) 3 (F + 1) := ⟨_, rfl⟩
    obtain ⟨B, hB⟩ : ∃ B, B = sX (sF (sH A H') F') X' := ⟨_, rfl⟩
    have bH : ∀ k, k ≠ 3 → aH B k = aH A k := fun k hk => by
      rw [hB]
      show H' k = _
      rw [hH', u1_n hk]
    have bH3 : aH B 3 = F + 1 := by
      rw [hB]
      show H' 3 = _
      rw [hH', u1_s]
    have bS : aS B = aS A := by rw [hB]; rfl
    have bP : aP B = aP A := by rw [hB]; rfl
    have bC : aC B = aC A := by rw [hB]; rfl
    have bL : aL B = aL A := by rw [hB]; rfl
    have bD : aD B = aD A := by rw [hB]; rfl
    have bR : aR B = aR A := by rw [hB]; rfl
    have bFo : ∀ f' w, f' ≠ F → aF B f' w = aF A f' w := fun f' w hw => by
      rw [hB]
      show F' f' w = _
      rw [hF', u2_n (by omega), u2_n (by omega), u2_n (by omega), u2_n (by omega), u2_n (by omega)]
    have bF : aF B F 0 = rt ∧ aF B F 1 = fi ∧ aF B F 2 = 0 ∧ aF B F 3 = 0 ∧ aF B F 4 = 0 := by
      rw [hB]
      show F' F 0 = _ ∧ F' F 1 = _ ∧ F' F 2 = _ ∧ F' F 3 = _ ∧ F' F 4 = _
      rw [hF']
      simp [u2]
    have bXo : ∀ f' w, f' ≠ F → aX B f' w = aX A f' w := fun f' w hw => by
      rw [hB]
      show X' f' w = _
      rw [hX', u2_n (by omega), u2_n (by omega)]
    have bX : aX B F 0 = 0 ∧ aX B F 1 = 0 := by
      rw [hB]
      show X' F 0 = _ ∧ X' F 1 = _
      rw [hX']
      simp [u2]
    have bwin : ∀ n, ab_win B n ↔ ab_win A n := fun n => by
      simp only [ab_win, bH 5 (by omega)]
    have hW' : ab_W B t := by
      obtain ⟨w1, w2, w3, w4, w5, w6⟩ := hW
      refine ⟨?_, fun f' hf' => ?_, fun n hn => ?_, fun n k hn hk => ?_, ?_, ?_⟩
      · simp only [ab_W1, bH3, bH 0 (by omega), bH 1 (by omega), bH 2 (by omega), bH 4 (by omega), bH 5 (by omega), bH 6 (by omega), bH 7 (by omega), bH 9 (by omega), bH 10 (by omega)] at w1 ⊢
        omega
      · by_cases e : f' = F
        · subst e
          obtain ⟨q0, q1, q2, q3, q4⟩ := bF
          rw [q0, q1, q2, q3, q4]
          exact ⟨hrt, hfi, by omega, by omega, by omega, fun q => by omega⟩
        · rw [bFo f' 0 e, bFo f' 1 e, bFo f' 2 e, bFo f' 3 e, bFo f' 4 e, bFo f' 5 e, bFo f' 6 e]
          exact w2 f' (by rw [bH3] at hf'; omega)
      · have hx := w3 n ((bwin n).mp hn)
        rw [bS, bR, bH3, bH 4 (by omega), bH 6 (by omega), bH 11 (by omega), bH 8 (by omega)]
        exact ⟨by omega, hx.2⟩
      · have hx := w4 n k ((bwin n).mp hn)
        rw [bS] at hk ⊢
        rw [bP, bH 11 (by omega), bH 8 (by omega), bH 4 (by omega)]
        exact hx hk
      · simp only [ab_W5, bS, bH 11 (by omega), bH 8 (by omega), bH 6 (by omega), bH 5 (by omega)]
        exact w5
      · simp only [ab_W6, bL, bH 9 (by omega), bH 4 (by omega)]
        exact w6
    have hnsA : ∀ f' rt' m, f' ≠ F → ab_ns B f' rt' m = ab_ns A f' rt' m := fun f' rt' m hf' => ns_eq (A := A) (A' := B) (bH 6 (by omega)) (by
        simp only [ab_in]
        rw [bFo f' 4 hf', bFo f' 5 hf', bFo f' 6 hf']) m (fun n _ _ => by rw [bS])
    have hns0 : ∀ rt' m, aH A 6 + m ≤ aH A 5 → ab_ns B F rt' m = 0 := by
      intro rt' m
      induction m with
      | zero =>
        intro _
        simp only [ab_ns, ab_in]
        rw [bF.2.2.2.2, if_pos rfl]
      | succ m ih =>
        intro hm
        simp only [ab_ns]
        rw [if_neg, ih (by omega)]
        rw [bS, bH 6 (by omega)]
        intro q
        have hw := ab_in_win hW (show aH A 6 ≤ aH A 6 + m by omega) (by omega)
        have := (hW.2.2.1 _ hw).1
        omega
    -- the class
    obtain ⟨s4, hs4⟩ : ∃ z, k_fo_begin g F (nI rt) (nI fi) σ = some z := ⟨_, rfl⟩
    have f4 := f_fo_begin hs4
    have g4 : ∀ i w, i ≠ F → s4 12 g i w = σ 12 g i w := by
      intro i w hi
      simp only [k_fo_begin, pu_let] at hs4
      cases hs4
      simp only [pu_wr_i hi]
    have v4 : s4 12 g F 0 = nI rt ∧ s4 12 g F 1 = nI fi ∧ s4 12 g F 2 = 0 ∧ s4 12 g F 3 = 0 ∧ s4 12 g F 4 = -1 ∧ s4 12 g F 5 = 0 ∧ s4 12 g F 6 = 0 ∧ s4 12 g F 7 = 0 ∧ s4 12 g F 8 = 0 := by
      simp only [k_fo_begin, pu_let] at hs4
      cases hs4
      simp [en_wr]
    obtain ⟨s6, hs6⟩ : ∃ z, en_wr s4 0 g 0 12 (s4 0 g 0 12 + 1) = z := ⟨_, rfl⟩
    have e12 : s6 12 g = s4 12 g := by rw [← hs6, pu_wr_j (by decide)]
    have ej : ∀ j, j ≠ 0 → j ≠ 12 → s6 j g = σ j g := fun j h0 h12 => by
      rw [← hs6, pu_wr_j h0, f4 j g (by simp [h12])]
    have e0 : ∀ k, k ≠ 12 → s6 0 g 0 k = σ 0 g 0 k := fun k hk => by
      rw [← hs6, pu_wr_k hk, f4 0 g (by simp)]
    have e0c : s6 0 g 0 12 = nI (F + 1) := by
      rw [← hs6, pu_wr_eq, f4 0 g (by simp), c3, nI_1]
    refine ⟨s6, B, ?_, ⟨?_, ?_⟩, ?_, hW', by simp only [ab_WR, ab_WH, bS, bL, bH 5 (by omega), bH 6 (by omega), bH 7 (by omega), bH 11 (by omega), bH 9 (by omega), bH 4 (by omega)]; exact hWR⟩
    · rw [k_cd_addFlow, c3, itx_le (a := 6) (b := F) (x := 6) rfl rfl (by decide) (by omega), if_neg (by omega), pu_ix hF6 (by decide), pu_b1, hs4, pu_b1, pu_let, hs6]
    · obtain ⟨k1, k3, k2, k2b, k4, k5, k6, k7⟩ := hC.1
      refine ⟨?_, ?_, ?_, ?_, ?_, ?_, ?_, ?_⟩
      · simp only [ab_C1, bH3, bH 0 (by omega), bH 1 (by omega), bH 2 (by omega), bH 4 (by omega), bH 5 (by omega), bH 6 (by omega), bH 7 (by omega), bH 11 (by omega), bH 8 (by omega), e0c, e0 8 (by omega), e0 9 (by omega), e0 10 (by omega), e0 11 (by omega), e0 13 (by omega), e0 14 (by omega), e0 15 (by omega), e0 16 (by omega)]
        exact ⟨k1.1, k1.2.1, k1.2.2.1, k1.2.2.2.1, trivial, k1.2.2.2.2.2⟩
      · intro n hn
        rw [ej 13 (by omega) (by omega), bS, bR]
        exact k3 n ((bwin n).mp hn)
      · intro f' hf'
        rw [e12]
        by_cases e : f' = F
        · subst e
          obtain ⟨q0, q1, q2, q3, q4⟩ := bF
          obtain ⟨r0, r1, r2, r3, r4, r5, r6, r7, r8⟩ := v4
          rw [r0, r1, r2, r3, r4, r5, r7, r8, q0, q1, q2, q3, q4, bX.1, bX.2, if_pos rfl, if_pos rfl]
          exact ⟨rfl, rfl, rfl, rfl, rfl, rfl, rfl, rfl⟩
        · rw [g4 f' 0 e, g4 f' 1 e, g4 f' 2 e, g4 f' 3 e, g4 f' 4 e, g4 f' 5 e, g4 f' 7 e, g4 f' 8 e, bFo f' 0 e, bFo f' 1 e, bFo f' 2 e, bFo f' 3 e, bFo f' 4 e, bFo f' 5 e, bFo f' 6 e, bXo f' 0 e, bXo f' 1 e]
          exact k2 f' (by rw [bH3] at hf'; omega)
      · intro f' hf'
        rw [e12]
        by_cases e : f' = F
        · subst e
          exact Or.inl v4.2.2.1
        · rw [g4 f' 2 e]
          exact k2b f' hf'
      · intro n k hn hk
        rw [bS] at hk
        rw [ej 3 (by omega) (by omega), ej 4 (by omega) (by omega), ej 5 (by omega) (by omega), bS, bP]
        exact k4 n k ((bwin n).mp hn) hk
      · simp only [ab_C5, bH 9 (by omega), bL, ej 6 (by omega) (by omega), ej 7 (by omega) (by omega)]
        exact k5
      · simp only [ab_C6, bH 10 (by omega), bD, ej 8 (by omega) (by omega), ej 9 (by omega) (by omega), ej 10 (by omega) (by omega)]
        exact k6
      · simp only [ab_C7, bC, ej 11 (by omega) (by omega)]
        exact k7
    · refine CT_of hW' (fun f' hf' => ?_)
      by_cases e : f' = F
      · subst e
        refine ⟨?_, fun n k hn h1 h2 h3 => ?_⟩
        · rw [e12, v4.2.2.2.2.2.2.1, ab_nx, hns0 _ _ (by rw [bH 5 (by omega), bH 6 (by omega)]; omega)]
          rfl
        · exfalso
          have := (hW.2.2.1 n ((bwin n).mp hn)).1
          rw [bS] at h3
          omega
      · have hfA : f' < aH A 3 := by rw [bH3] at hf'; omega
        have e1 : ab_nx B f' = ab_nx A f' := by
          show ab_ns B f' (aF B f' 0) (aH B 5 - aH B 6) = ab_ns A f' (aF A f' 0) (aH A 5 - aH A 6)
          rw [bFo f' 0 e, bH 5 (by omega), bH 6 (by omega), hnsA f' _ _ e]
        refine ⟨by rw [e12, g4 f' 6 e, e1]; exact hC.2.1 f' hfA, fun n k hn h1 h2 h3 h4 h5 => ?_⟩
        rw [bS] at h2 h3 h4 h5
        rw [bH 6 (by omega)] at h1
        have e2 : ab_de B n k = ab_de A n k := by
          show ab_dp B (aF B (aS B n 0) 0) n k = ab_dp A (aF A (aS A n 0) 0) n k
          rw [bS, bFo _ 0 (by omega), dp_eq (A := A) (A' := B) (bH 6 (by omega)) (by rw [bS]) (hnsA _ _ _ (by omega))]
        rw [ej 3 (by omega) (by omega), e2]
        exact hC.2.2 n k ((bwin n).mp hn) h1 h2 h4 h5
    · obtain ⟨k1, k2, k3, k4, k5, k6⟩ := hM
      have hm : ∀ n, n % 8 < 8 := fun n => Nat.mod_lt _ (by decide)
      have h9 := hW.1.2.2.2.2.2.2.2.2.2.1
      refine ⟨?_, ?_, ?_, ?_, ?_, ?_⟩
      · obtain ⟨a1, a2⟩ := k1
        refine ⟨fun k hk => ?_, ?_⟩
        · by_cases e : k = 3
          · subst e
            rw [bH3]
            exact t3
          · rw [tr k e (by omega), bH k e]
            exact a1 k hk
        · rw [tr 7 (by omega) (by omega), tr 8 (by omega) (by omega), tr 9 (by omega) (by omega), tr 10 (by omega) (by omega), tr 11 (by omega) (by omega), tr 12 (by omega) (by omega), tr 13 (by omega) (by omega), tr 14 (by omega) (by omega), tr 15 (by omega) (by omega), tr 16 (by omega) (by omega), tr 17 (by omega) (by omega), tr 18 (by omega) (by omega), tr 19 (by omega) (by omega), bC, bS, bH 7 (by omega), bH 11 (by omega), bH 8 (by omega), bH 9 (by omega), bH 10 (by omega)]
          exact a2
      · intro f' hf'
        by_cases e : f' = F
        · subst e
          obtain ⟨q0, q1, q2, q3, q4⟩ := bF
          refine ⟨fun w hw => ?_, fun q => by omega, ?_, ?_⟩
          · rcases (show w = 0 ∨ w = 1 ∨ w = 2 ∨ w = 3 ∨ w = 4 by omega) with rfl | rfl | rfl | rfl | rfl
            · rw [q0]; exact t0
            · rw [q1]; exact t1
            · rw [q2, tz 2 (by omega) (by omega)]; rfl
            · rw [q3, tz 3 (by omega) (by omega)]; rfl
            · rw [q4, tz 4 (by omega) (by omega)]; rfl
          · rw [tz 7 (by omega) (by omega), bX.1]
          · rw [tz 8 (by omega) (by omega), bX.2]
        · have hfA : f' < F := by rw [bH3] at hf'; omega
          have hx := k2 f' (by omega)
          refine ⟨fun w hw => ?_, ?_, ?_, ?_⟩
          · rw [tr _ (by omega) (by omega), bFo f' w e]
            exact hx.1 w hw
          · rw [tr _ (by omega) (by omega), tr _ (by omega) (by omega), bFo f' 4 e, bFo f' 5 e, bFo f' 6 e]
            exact hx.2.1
          · rw [tr _ (by omega) (by omega), bXo f' 0 e]
            exact hx.2.2.1
          · rw [tr _ (by omega) (by omega), bXo f' 1 e]
            exact hx.2.2.2
      · intro n hn
        have := hm n
        rw [bS, bR]
        exact ⟨fun w hw => by rw [tr _ (by omega) (by omega)]; exact (k3 n ((bwin n).mp hn)).1 w hw, fun w hw => by rw [tr _ (by omega) (by omega)]; exact (k3 n ((bwin n).mp hn)).2 w hw⟩
      · intro n k hn hk
        have := hm n
        rw [tr _ (by omega) (by omega), tr _ (by omega) (by omega), tr _ (by omega) (by omega), bS, bP]
        exact k4 n k ((bwin n).mp hn) hk
      · intro row c h1 h2
        rw [bH 9 (by omega)] at h1
        rw [tr _ (by omega) (by omega), bL]
        exact k5 row c h1 h2
      · intro k w h1 h2 h3
        rw [bH 10 (by omega)] at h2
        rw [bH 10 (by omega), tr _ (by omega) (by omega), bD]
        exact k6 k w h1 h2 h3

/-! Sends reclaimed; a send dropped. -/
def re_A (A : ab_A) : ab_A := sH A (u1 (aH A) 6 (aH A 6 + 1))
theorem re_step {σ τ : en_M} {g t : Nat} {A : ab_A} (hC : ab_CR σ g A) (hM : ab_MR (τ 25 0 0) A) (hW : ab_W A t) (hn : aH A 6 < aH A 5) (h2 : 2 ≤ aS A (aH A 6) 4) : ab_CR (en_wr σ 0 g 0 14 (nI (aH A 6 + 1))) g (re_A A) ∧ ab_MR ((en_wr τ 25 0 0 6 (nI (aH A 6 + 1))) 25 0 0) (re_A A) ∧ ab_W (re_A A) t := by
  have hN := ab_N hW
  obtain ⟨B, hB⟩ : ∃ B, re_A A = B := ⟨_, rfl⟩
  rw [hB]
  have bH : ∀ k, k ≠ 6 → aH B k = aH A k := fun k hk => by
    rw [← hB]
    show u1 (aH A) 6 _ k = _
    rw [u1_n hk]
  have bH6 : aH B 6 = aH A 6 + 1 := by
    rw [← hB]
    show u1 (aH A) 6 (aH A 6 + 1) 6 = aH A 6 + 1
    exact u1_s
  have bS : aS B = aS A := by rw [← hB]; rfl
  have bF : aF B = aF A := by rw [← hB]; rfl
  have bP : aP B = aP A := by rw [← hB]; rfl
  have bC : aC B = aC A := by rw [← hB]; rfl
  have bX : aX B = aX A := by rw [← hB]; rfl
  have bL : aL B = aL A := by rw [← hB]; rfl
  have bD : aD B = aD A := by rw [← hB]; rfl
  have bR : aR B = aR A := by rw [← hB]; rfl
  have bwin : ∀ m, ab_win B m ↔ ab_win A m := fun m => by simp only [ab_win, bH 5 (by omega)]
  have hWB : ab_W B t := by
    obtain ⟨w1, w2, w3, w4, w5, w6⟩ := hW
    refine ⟨?_, fun f' hf' => ?_, fun m hm' => ?_, fun m k hm' hk => ?_, ?_, ?_⟩
    · simp only [ab_W1, bH6, bH 0 (by omega), bH 1 (by omega), bH 2 (by omega), bH 3 (by omega), bH 4 (by omega), bH 5 (by omega), bH 7 (by omega), bH 9 (by omega), bH 10 (by omega)] at w1 ⊢
      omega
    · rw [bH 3 (by omega)] at hf'
      rw [bF]
      exact w2 f' hf'
    · rw [bS, bR, bH6, bH 3 (by omega), bH 4 (by omega), bH 11 (by omega), bH 8 (by omega)]
      obtain ⟨x1, x2, x3, x4, x5, x6, x7, x8, x9, x10, x11, x12⟩ := w3 m ((bwin m).mp hm')
      refine ⟨x1, x2, x3, x4, x5, x6, x7, x8, x9, fun q => ?_, x11, x12⟩
      by_cases e : m = aH A 6
      · rw [e]
        exact h2
      · exact x10 (by omega)
    · rw [bS] at hk ⊢
      rw [bP, bH 11 (by omega), bH 8 (by omega), bH 4 (by omega)]
      exact w4 m k ((bwin m).mp hm') hk
    · intro h7
      rw [bH 11 (by omega)] at h7
      have hx := w5 h7
      rw [bH6, bH 8 (by omega), bH 5 (by omega), bS]
      have : aH A 8 ≠ aH A 6 := fun e => by
        rw [e] at hx
        omega
      exact ⟨by omega, hx.2⟩
    · simp only [ab_W6, bH 9 (by omega), bH 4 (by omega), bL]
      exact w6
  have hns : ∀ f rt m, ab_ns B f rt m = ab_ns A f rt (1 + m) := fun f rt m => ns_shift (A := A) (A' := B) (d := 1) bH6 (by simp only [ab_in, bF]) bS (fun n a b q => by
    have : n = aH A 6 := by omega
    rw [this] at q
    omega) m
  refine ⟨?_, ?_, hWB⟩
  · obtain ⟨⟨k1, k3, k2, k2b, k4, k5, k6, k7⟩, ct1, ct2⟩ := hC
    obtain ⟨s, hs⟩ : ∃ z, en_wr σ 0 g 0 14 (nI (aH A 6 + 1)) = z := ⟨_, rfl⟩
    rw [hs]
    have ej : ∀ j, j ≠ 0 → s j = σ j := fun j h0 => by rw [← hs, pu_wr_j h0]
    have e0 : ∀ k, k ≠ 14 → s 0 g 0 k = σ 0 g 0 k := fun k hk => by rw [← hs, pu_wr_k hk]
    have e14 : s 0 g 0 14 = nI (aH A 6 + 1) := by rw [← hs, pu_wr_eq]
    refine ⟨⟨?_, ?_, ?_, ?_, ?_, ?_, ?_, ?_⟩, ?_, ?_⟩
    · simp only [ab_C1, bH6, bH 0 (by omega), bH 1 (by omega), bH 2 (by omega), bH 3 (by omega), bH 4 (by omega), bH 5 (by omega), bH 7 (by omega), bH 11 (by omega), bH 8 (by omega), e14, e0 8 (by omega), e0 9 (by omega), e0 10 (by omega), e0 11 (by omega), e0 12 (by omega), e0 13 (by omega), e0 15 (by omega), e0 16 (by omega)]
      exact ⟨k1.1, k1.2.1, k1.2.2.1, k1.2.2.2.1, k1.2.2.2.2.1, k1.2.2.2.2.2.1, trivial, k1.2.2.2.2.2.2.2⟩
    · intro m hm'
      rw [ej 13 (by omega), bS, bR]
      exact k3 m ((bwin m).mp hm')
    · intro f hf
      rw [bH 3 (by omega)] at hf
      rw [ej 12 (by omega), bF, bX]
      exact k2 f hf
    · intro f hf
      rw [ej 12 (by omega)]
      exact k2b f hf
    · intro m k hm' hk
      rw [bS] at hk ⊢
      rw [ej 3 (by omega), ej 4 (by omega), ej 5 (by omega), bP]
      exact k4 m k ((bwin m).mp hm') hk
    · simp only [ab_C5, bH 9 (by omega), bL, ej 6 (by omega), ej 7 (by omega)]
      exact k5
    · simp only [ab_C6, bH 10 (by omega), bD, ej 8 (by omega), ej 9 (by omega), ej 10 (by omega)]
      exact k6
    · simp only [ab_C7, bC, ej 11 (by omega)]
      exact k7
    · intro f hf
      rw [bH 3 (by omega)] at hf
      have e : ab_nx B f = ab_nx A f := by
        show ab_ns B f (aF B f 0) (aH B 5 - aH B 6) = ab_ns A f (aF A f 0) (aH A 5 - aH A 6)
        rw [bF, bH 5 (by omega), bH6, hns, show 1 + (aH A 5 - (aH A 6 + 1)) = aH A 5 - aH A 6 by omega]
      rw [ej 12 (by omega), e]
      exact ct1 f hf
    · intro m k hm' h1 h3 h4 h5
      rw [bS] at h3 h4 h5
      rw [bH6] at h1
      have e : ab_de B m k = ab_de A m k := by
        show ab_dp B (aF B (aS B m 0) 0) m k = ab_dp A (aF A (aS A m 0) 0) m k
        simp only [ab_dp, ab_e]
        rw [bF, bH6, hns, show 1 + (m - (aH A 6 + 1)) = m - aH A 6 by omega, bS, ns_nk (A := A) (A' := B) _ _ (by rw [bS])]
      rw [ej 3 (by omega), e]
      exact ct2 m k ((bwin m).mp hm') (by omega) h3 h4 h5
  · obtain ⟨m1, m2, m3, m4, m5, m6⟩ := hM
    obtain ⟨r, hr⟩ : ∃ z, en_wr τ 25 0 0 6 (nI (aH A 6 + 1)) = z := ⟨_, rfl⟩
    rw [hr]
    have ro : ∀ k, k ≠ 6 → r 25 0 0 k = τ 25 0 0 k := fun k hk => by rw [← hr, pu_wr_k hk]
    have r6 : r 25 0 0 6 = nI (aH A 6 + 1) := by rw [← hr, pu_wr_eq]
    obtain ⟨x1, x2⟩ := m1
    refine ⟨⟨fun k hk => ?_, ?_⟩, fun f hf => ?_, fun m hm' => ?_, fun m k hm' hk => ?_, fun row c h1 h2 => ?_, fun k w h1 h2 h3 => ?_⟩
    · by_cases e : k = 6
      · subst e
        rw [bH6]
        exact r6
      · rw [ro k e, bH k e]
        exact x1 k hk
    · rw [ro 7 (by omega), ro 8 (by omega), ro 9 (by omega), ro 10 (by omega), ro 11 (by omega), ro 12 (by omega), ro 13 (by omega), ro 14 (by omega), ro 15 (by omega), ro 16 (by omega), ro 17 (by omega), ro 18 (by omega), ro 19 (by omega), bC, bS, bH 7 (by omega), bH 11 (by omega), bH 8 (by omega), bH 9 (by omega), bH 10 (by omega)]
      exact x2
    · rw [bH 3 (by omega)] at hf
      have hx := m2 f hf
      rw [ro _ (by omega), ro _ (by omega), ro _ (by omega), ro _ (by omega), bF, bX]
      exact ⟨fun w hw => by rw [ro _ (by omega)]; exact hx.1 w hw, hx.2⟩
    · have hx := m3 m ((bwin m).mp hm')
      rw [bS, bR]
      exact ⟨fun w hw => by rw [ro _ (by omega)]; exact hx.1 w hw, fun w hw => by rw [ro _ (by omega)]; exact hx.2 w hw⟩
    · rw [ro _ (by omega), ro _ (by omega), ro _ (by omega), bS, bP]
      exact m4 m k ((bwin m).mp hm') hk
    · rw [bH 9 (by omega)] at h1
      rw [ro _ (by omega), bL]
      exact m5 row c h1 h2
    · rw [bH 10 (by omega)] at h2 ⊢
      rw [ro _ (by omega), bD]
      exact m6 k w h1 h2 h3
theorem re_loop {g t : Nat} : ∀ (F : Nat) (σ τ : en_M) (A : ab_A), ab_CR σ g A → ab_MR (τ 25 0 0) A → ab_W A t → ab_WH A → aH A 5 < aH A 6 + F → ∃ σ1 τ1 A1, (k_cd_reclaim_5 F g (nI (aH A 6)) σ = some (.inl σ1) ∨ k_cd_reclaim_5 F g (nI (aH A 6)) σ = some (.inr σ1)) ∧ k_mm_reclaims_0 F τ = some τ1 ∧ ab_PR σ1 g (τ1 25 0 0) A1 t ∧ (∀ k, k ≠ 6 → aH A1 k = aH A k) ∧ aS A1 = aS A ∧ en_fr [(25, 0)] τ τ1 := by
  intro F
  induction F with
  | zero =>
    intro σ τ A _ _ hW _ h
    have := ab_N hW
    omega
  | succ F ih =>
    intro σ τ A hC hM hW hH h
    have hN := ab_N hW
    have c5 := hC.1.1.2.2.2.2.2.1
    have m5 := hM.1.1 5 (by decide)
    have m6 := hM.1.1 6 (by decide)
    rw [k_cd_reclaim_5, c5, it_le (by omega) (by omega), k_mm_reclaims_0, m5, m6, it_le (by omega) (by omega)]
    by_cases hn : aH A 6 < aH A 5
    · have hw := ab_in_win hW (Nat.le_refl _) hn
      have q4 := (hW.2.2.1 _ hw).2.2.2.2.1
      rw [if_neg (by omega), if_neg (by omega), ac_sendAt hC.1.s hW hw, pu_b1]
      simp only []
      rw [ac_over hC.1.s hW hw, mo_snd hM hW (x := 4) (w := 4) rfl hw (by decide), pu_b1, pu_b1, itx_eq (a := aS A (aH A 6) 4) (b := 2) (y := 2) rfl rfl (by omega) (by decide), itx_eq (a := aS A (aH A 6) 4) (b := 3) (y := 3) rfl rfl (by omega) (by decide), nI_1, pu_let, pu_let]
      by_cases h2 : 2 ≤ aS A (aH A 6) 4
      · obtain ⟨s1, s2, s3⟩ := re_step hC hM hW hn h2
        have hH6 : aH (re_A A) 6 = aH A 6 + 1 := by
          show u1 (aH A) 6 (aH A 6 + 1) 6 = _
          exact u1_s
        have hHo : ∀ k, k ≠ 6 → aH (re_A A) k = aH A k := fun k hk => u1_n hk
        obtain ⟨σ1, τ1, A1, b1, b2, b3, b4, b5, b6⟩ := ih _ _ (re_A A) s1 s2 s3 hH (by rw [hH6, hHo 5 (by omega)]; omega)
        rw [hH6] at b1
        rw [if_pos h2, if_neg (show ¬ (1 : Int32) = 0 by decide)]
        refine ⟨σ1, τ1, A1, b1, ?_, b3, fun k hk => (b4 k hk).trans (hHo k hk), b5, fr_tr (fr_wr rfl (by simp)) b6⟩
        by_cases e2 : aS A (aH A 6) 4 = 2
        · rw [if_pos e2]
          exact b2
        · rw [if_neg e2, if_pos (by omega)]
          exact b2
      · rw [if_neg h2, if_pos rfl, if_neg (by omega), if_neg (by omega)]
        exact ⟨σ, τ, A, Or.inl rfl, rfl, ⟨hC, hM, hW, fun _ => by omega, hH⟩, fun _ _ => rfl, rfl, fr_rf _ _⟩
    · rw [if_pos (by omega), if_pos (by omega)]
      exact ⟨σ, τ, A, Or.inr rfl, rfl, ⟨hC, hM, hW, fun h => absurd h hn, hH⟩, fun _ _ => rfl, rfl, fr_rf _ _⟩
theorem re_all {σ τ : en_M} {g t : Nat} {A : ab_A} (hC : ab_CR σ g A) (hM : ab_MR (τ 25 0 0) A) (hW : ab_W A t) (hH : ab_WH A) : ∃ σ1 τ1 A1, k_cd_reclaim g σ = some σ1 ∧ k_mm_reclaims τ = some τ1 ∧ ab_PR σ1 g (τ1 25 0 0) A1 t ∧ (∀ k, k ≠ 6 → aH A1 k = aH A k) ∧ aS A1 = aS A ∧ en_fr [(25, 0)] τ τ1 := by
  have hN := ab_N hW
  have c6 := hC.1.1.2.2.2.2.2.2.1
  obtain ⟨σ1, τ1, A1, b1, b2, b3, b4, b5, b6⟩ := re_loop en_fu σ τ A hC hM hW hH (by rw [en_fu]; omega)
  refine ⟨σ1, τ1, A1, ?_, by rw [k_mm_reclaims, b2, pu_b1], b3, b4, b5, b6⟩
  rw [k_cd_reclaim, c6]
  rcases b1 with e | e <;> rw [e]
  · rw [pu_rxl]
  · rw [pu_rxr]
def dr_A (A : ab_A) (n : Nat) : ab_A := sS A (u2 (u2 (aS A) n 4 3) n 6 0)
theorem dr_step {σ τ : en_M} {g t n : Nat} {A : ab_A} (hC : ab_CR σ g A) (hM : ab_MR (τ 25 0 0) A) (hW : ab_W A t) (hR : aH A 6 ≤ n) (hn : n < aH A 5) (h7 : aS A n 7 = 0) :
    ∃ s7 s9 x s12 s14, en_wr σ 13 g (n % 8) 5 3 = s7 ∧ en_wr s7 13 g (n % 8) 6 0 = s9 ∧ k_cd_putDeparts g (nI (aS A n 0)) (nI (aF A (aS A n 0) 0)) 3 g 0 s9 = some (x, s12) ∧ en_wr s12 12 g (aS A n 0) 6 x = s14 ∧ s9 13 g (n % 8) 1 = nI (aS A n 0) ∧ s9 12 g = σ 12 g ∧ ab_CR s14 g (dr_A A n) ∧ ab_MR ((en_wr τ 25 0 0 (74 + 68 * (n % 8) + 4) 3) 25 0 0) (dr_A A n) ∧ ab_W (dr_A A n) t := by
  have hN := ab_N hW
  have hw := ab_in_win hW hR hn
  have hm : ∀ n, n % 8 < 8 := fun n => Nat.mod_lt _ (by decide)
  have hm8 := hm n
  obtain ⟨q0, q1, q2, q3, q4, -⟩ := hW.2.2.1 n hw
  obtain ⟨B, hB⟩ : ∃ B, dr_A A n = B := ⟨_, rfl⟩
  rw [hB]
  have bH : aH B = aH A := by rw [← hB]; rfl
  have bF : aF B = aF A := by rw [← hB]; rfl
  have bP : aP B = aP A := by rw [← hB]; rfl
  have bC : aC B = aC A := by rw [← hB]; rfl
  have bX : aX B = aX A := by rw [← hB]; rfl
  have bL : aL B = aL A := by rw [← hB]; rfl
  have bD : aD B = aD A := by rw [← hB]; rfl
  have bR : aR B = aR A := by rw [← hB]; rfl
  have bSo : ∀ m w, ¬ (m = n ∧ (w = 4 ∨ w = 6)) → aS B m w = aS A m w := fun m w h => by
    rw [← hB]
    show u2 (u2 (aS A) n 4 3) n 6 0 m w = _
    rw [u2_n (by omega), u2_n (by omega)]
  have bS4 : aS B n 4 = 3 := by
    rw [← hB]
    show u2 (u2 (aS A) n 4 3) n 6 0 n 4 = _
    rw [u2_n (by omega), u2_s]
  have bS6 : aS B n 6 = 0 := by
    rw [← hB]
    show u2 (u2 (aS A) n 4 3) n 6 0 n 6 = _
    rw [u2_s]
  have bSm : ∀ m, m ≠ n → aS B m = aS A m := fun m e => funext fun w => bSo m w (by omega)
  have bwin : ∀ m, ab_win B m ↔ ab_win A m := fun m => by simp only [ab_win, bH]
  have h8 : aH A 11 ≠ 0 → aH A 8 ≠ n := fun h e => by
    have := hW.2.2.2.2.1 h
    rw [e] at this
    omega
  have hWB : ab_W B t := by
    obtain ⟨w1, w2, w3, w4, w5, w6⟩ := hW
    refine ⟨?_, fun f' hf' => ?_, fun m hm' => ?_, fun m k hm' hk => ?_, ?_, ?_⟩
    · simp only [ab_W1, bH]
      exact w1
    · rw [bH] at hf'
      rw [bF]
      exact w2 f' hf'
    · by_cases e : m = n
      · subst e
        rw [bSo m 0 (by omega), bSo m 1 (by omega), bSo m 2 (by omega), bSo m 3 (by omega), bSo m 7 (by omega), bS4, bS6, bH]
        refine ⟨q0, q1, q2, q3, by omega, fun q => by omega, fun _ => rfl, by omega, fun q => by omega, fun q => by omega, fun _ => ?_, fun q => by omega⟩
        rw [bR]
        obtain ⟨-, y1, y2, -, -, y6, -, -, y9, -, y11, -⟩ := w3 m hw
        refine y11 (fun q => ?_)
        have z1 := y9 q
        have z2 := (y6 (Or.inr q)).1
        have z3 := ab_up_pos y1.1 (show 1 ≤ aS A m 2 by omega)
        omega
      · rw [bSm m e, bR, bH]
        exact w3 m ((bwin m).mp hm')
    · by_cases e : m = n
      · subst e
        rw [bS6, bS4] at hk
        omega
      · rw [bSm m e] at hk ⊢
        rw [bP, bH]
        exact w4 m k ((bwin m).mp hm') hk
    · intro h
      rw [bH] at h ⊢
      rw [bSm _ (h8 h)]
      exact w5 h
    · simp only [ab_W6, bH, bL]
      exact w6
  obtain ⟨⟨k1, k3, k2, k2b, k4, k5, k6, k7⟩, ct1, ct2⟩ := hC
  obtain ⟨s7, hs7⟩ : ∃ z, en_wr σ 13 g (n % 8) 5 3 = z := ⟨_, rfl⟩
  obtain ⟨s9, hs9⟩ : ∃ z, en_wr s7 13 g (n % 8) 6 0 = z := ⟨_, rfl⟩
  have ej : ∀ j, j ≠ 13 → s9 j = σ j := fun j h => by rw [← hs9, pu_wr_j h, ← hs7, pu_wr_j h]
  have so : ∀ i w, ¬ (i = n % 8 ∧ (w = 5 ∨ w = 6)) → s9 13 g i w = σ 13 g i w := fun i w h => by
    rw [← hs9, pu_wr_ne (fun z => h ⟨z.2.2.1, Or.inr z.2.2.2⟩), ← hs7, pu_wr_ne (fun z => h ⟨z.2.2.1, Or.inl z.2.2.2⟩)]
  have s5 : s9 13 g (n % 8) 5 = 3 := by rw [← hs9, pu_wr_k (by decide), ← hs7, pu_wr_eq]
  have s6 : s9 13 g (n % 8) 6 = 0 := by rw [← hs9, pu_wr_eq]
  have hCW : ab_CW s9 g B := by
    refine ⟨?_, ?_, ?_, ?_, ?_, ?_, ?_, ?_⟩
    · simp only [ab_C1, bH, ej 0 (by omega)]
      exact k1
    · intro m hm'
      by_cases e : m = n
      · subst e
        obtain ⟨d0, d1, d2, d3, d4, d5, d6, d7, d8, d9, d10⟩ := k3 m hw
        rw [so _ 0 (by omega), so _ 1 (by omega), so _ 2 (by omega), so _ 3 (by omega), so _ 4 (by omega), s5, s6, so _ 7 (by omega), so _ 8 (by omega), so _ 9 (by omega), so _ 10 (by omega), bSo m 0 (by omega), bSo m 1 (by omega), bSo m 2 (by omega), bSo m 3 (by omega), bSo m 7 (by omega), bS4, bS6, bR]
        exact ⟨d0, d1, d2, d3, d4, rfl, rfl, d7, d8, d9, d10⟩
      · have hmA := (bwin m).mp hm'
        have hne : ¬ m % 8 = n % 8 := fun q => e (ti_apart hmA hw (k := 0) (k' := 0) (by omega) (by omega) (by omega)).1
        rw [so _ 0 (by omega), so _ 1 (by omega), so _ 2 (by omega), so _ 3 (by omega), so _ 4 (by omega), so _ 5 (by omega), so _ 6 (by omega), so _ 7 (by omega), so _ 8 (by omega), so _ 9 (by omega), so _ 10 (by omega), bSm m e, bR]
        exact k3 m hmA
    · intro f hf
      rw [bH] at hf
      rw [ej 12 (by omega), bF, bX]
      exact k2 f hf
    · intro f hf
      rw [ej 12 (by omega)]
      exact k2b f hf
    · intro m k hm' hk
      by_cases e : m = n
      · subst e
        rw [bS6] at hk
        omega
      · rw [bSm m e] at hk ⊢
        rw [ej 3 (by omega), ej 4 (by omega), ej 5 (by omega), bP]
        exact k4 m k ((bwin m).mp hm') hk
    · simp only [ab_C5, bH, bL, ej 6 (by omega), ej 7 (by omega)]
      exact k5
    · simp only [ab_C6, bH, bD, ej 8 (by omega), ej 9 (by omega), ej 10 (by omega)]
      exact k6
    · simp only [ab_C7, bC, ej 11 (by omega)]
      exact k7
  have hns : ∀ f' rt m, f' ≠ aS A n 0 → ab_ns B f' rt m = ab_ns A f' rt m := fun f' rt m hf' => ns_eqf (A := A) (A' := B) (by rw [bH]) (by simp only [ab_in, bF]) m (fun n' _ _ => by
    by_cases e : n' = n
    · subst e
      exact Or.inr ⟨fun q => by rw [bS4] at q; omega, fun q => hf' q.2.2.symm⟩
    · exact Or.inl (bSm n' e))
  have hCT : ∀ f', f' ≠ aS A n 0 → f' < aH A 3 → ab_CTf s9 g B f' := fun f' hne hf' => ⟨by
      have e : ab_nx B f' = ab_nx A f' := by
        show ab_ns B f' (aF B f' 0) (aH B 5 - aH B 6) = ab_ns A f' (aF A f' 0) (aH A 5 - aH A 6)
        rw [bF, bH, hns _ _ _ hne]
      rw [ej 12 (by omega), e]
      exact ct1 f' hf', fun m k hm' h1 h2 h3 h4 h5 => by
      have e : m ≠ n := fun e => by
        rw [e, bS4] at h2
        omega
      rw [bSm m e] at h2 h3 h4 h5
      rw [bH] at h1
      have e2 : ab_de B m k = ab_de A m k := by
        show ab_dp B (aF B (aS B m 0) 0) m k = ab_dp A (aF A (aS A m 0) 0) m k
        rw [bF, bSm m e]
        exact dp_eq (A := A) (A' := B) (by rw [bH]) (bSm m e) (hns _ _ _ (by rw [h3]; exact hne))
      rw [ej 3 (by omega), e2]
      exact ct2 m k ((bwin m).mp hm') h1 h2 h4 h5⟩
  obtain ⟨x, s12, s14, p1, p2, p3, p4, p5, -⟩ := pd_one hCW hWB (f := aS A n 0) (by rw [bH]; exact q0)
  rw [bF] at p1
  refine ⟨s7, s9, x, s12, s14, hs7, hs9, p1, p2, ?_, by rw [ej 12 (by omega)], ⟨p3, CT_of hWB (fun f' hf' => ?_)⟩, ?_, hWB⟩
  · rw [so _ 1 (by omega)]
    exact (k3 n hw).2.1
  · by_cases e : f' = aS A n 0
    · rw [e]
      exact p4
    · rw [bH] at hf'
      exact p5 f' e (by rw [bH]; exact hf') (hCT f' e hf')
  · obtain ⟨m1, m2, m3, m4, m5, m6⟩ := hM
    have h9 := hW.1.2.2.2.2.2.2.2.2.2.1
    obtain ⟨r, hr⟩ : ∃ z, en_wr τ 25 0 0 (74 + 68 * (n % 8) + 4) 3 = z := ⟨_, rfl⟩
    rw [hr]
    have ro : ∀ k, k ≠ 74 + 68 * (n % 8) + 4 → r 25 0 0 k = τ 25 0 0 k := fun k hk => by rw [← hr, pu_wr_k hk]
    have r4 : r 25 0 0 (74 + 68 * (n % 8) + 4) = 3 := by rw [← hr, pu_wr_eq]
    obtain ⟨x1, x2, x3, x4, x5, x6, x7, x8, x9, x10⟩ := m1
    refine ⟨⟨fun k hk => ?_, ?_⟩, fun f hf => ?_, fun m hm' => ?_, fun m k hm' hk => ?_, fun row c h1 h2 => ?_, fun k w h1 h2 h3 => ?_⟩
    · rw [ro k (by omega), bH]
      exact x1 k hk
    · rw [ro 7 (by omega), ro 8 (by omega), ro 9 (by omega), ro 10 (by omega), ro 11 (by omega), ro 12 (by omega), ro 13 (by omega), ro 14 (by omega), ro 15 (by omega), ro 16 (by omega), ro 17 (by omega), ro 18 (by omega), ro 19 (by omega), bC, bH]
      refine ⟨x2, x3, x4, x5, x6, x7, x8, fun h => ?_, x10⟩
      rw [bSm _ (h8 h)]
      exact x9 h
    · rw [bH] at hf
      have hx := m2 f hf
      rw [ro _ (by omega), ro _ (by omega), ro _ (by omega), ro _ (by omega), bF, bX]
      exact ⟨fun w hw => by rw [ro _ (by omega)]; exact hx.1 w hw, hx.2⟩
    · have hmA := (bwin m).mp hm'
      have hx := m3 m hmA
      have := hm m
      rw [bR]
      by_cases e : m = n
      · subst e
        refine ⟨fun w hw' => ?_, fun w hw' => by rw [ro _ (by omega)]; exact hx.2 w hw'⟩
        by_cases e4 : w = 4
        · subst e4
          rw [bS4]
          exact r4
        · rw [ro _ (by omega), bSo m w (by omega)]
          exact hx.1 w hw'
      · have hne : ¬ m % 8 = n % 8 := fun q => e (ti_apart hmA hw (k := 0) (k' := 0) (by omega) (by omega) (by omega)).1
        rw [bSm m e]
        exact ⟨fun w hw' => by rw [ro _ (by omega)]; exact hx.1 w hw', fun w hw' => by rw [ro _ (by omega)]; exact hx.2 w hw'⟩
    · have hmA := (bwin m).mp hm'
      have := hm m
      rw [ro _ (by omega), ro _ (by omega), ro _ (by omega), bP]
      by_cases e : m = n
      · subst e
        rw [bS6, bS4, bSo m 7 (by omega), h7]
        exact ⟨fun q => by omega, fun q => by omega⟩
      · rw [bSm m e]
        exact m4 m k hmA hk
    · rw [bH] at h1
      rw [ro _ (by omega), bL]
      exact m5 row c h1 h2
    · rw [bH] at h2 ⊢
      rw [ro _ (by omega), bD]
      exact m6 k w h1 h2 h3
theorem dr_any {τ : en_M} {t n : Nat} {A : ab_A} (hM : ab_MR (τ 25 0 0) A) (hW : ab_W A t) (h : ab_win A n) (h1 : aS A n 4 = 1) : k_mm_hasAnyLeft (nI n) τ = some (if aS A n 7 = 0 then 0 else 1) := by
  have hp := ab_pc hW h
  have key : aS A n 7 = 0 → ∀ (m k F : Nat), k + m = aS A n 6 → m < F → k_mm_hasAnyLeft_2 F (nI n) (nI k) τ = some (.inr ()) := by
    intro h7 m
    induction m with
    | zero =>
      intro k F e hF
      obtain ⟨F, rfl⟩ : ∃ q, F = q + 1 := ⟨F - 1, by omega⟩
      rw [k_mm_hasAnyLeft_2, mo_pcs hM hW h, pu_b1, it_le (by omega) (by omega), if_pos (by omega)]
    | succ m ih =>
      intro k F e hF
      obtain ⟨F, rfl⟩ : ∃ q, F = q + 1 := ⟨F - 1, by omega⟩
      rw [k_mm_hasAnyLeft_2, mo_pcs hM hW h, pu_b1, it_le (by omega) (by omega), if_neg (by omega), mo_left hM hW h (by omega), pu_b1, if_neg (show ¬ k < aS A n 7 by omega), if_pos rfl, nI_1]
      exact ih (k + 1) F (by omega) (by omega)
  rw [k_mm_hasAnyLeft]
  by_cases h7 : aS A n 7 = 0
  · have := key h7 (aS A n 6) 0 en_fu (by omega) (by rw [en_fu]; omega)
    rw [nI_0] at this
    rw [this, pu_rxr, if_pos h7]
  · have : k_mm_hasAnyLeft_2 en_fu (nI n) 0 τ = some (.inl 1) := by
      have h0 : k_mm_hasAnyLeft_2 (99999 + 1) (nI n) (nI 0) τ = some (.inl 1) := by
        rw [k_mm_hasAnyLeft_2, mo_pcs hM hW h, pu_b1, it_le (by omega) (by omega), if_neg (by omega), mo_left hM hW h (by omega), pu_b1, if_pos (show 0 < aS A n 7 by omega), if_neg (show ¬ (1 : Int32) = 0 by decide)]
      rw [nI_0] at h0
      exact h0
    rw [this, pu_rxl, if_neg h7]
/-- drop, both -/
theorem dr_drop {σ τ : en_M} {g t : Nat} {A : ab_A} (h : ab_PR σ g (τ 25 0 0) A t) (v : Int32) :
    ∃ code τ1, k_cd_whyNoDrop g v σ = some code ∧ k_mm_drop0 v τ = some (code, τ1) ∧ (code ≠ 0 → τ1 = τ) ∧ (code = 0 → ∃ x σ1 A1, k_cd_dropSend g v σ = some (x, σ1) ∧ k_mm_isIn v (τ 25 0 0 6) ((τ 25 0 0 5) - 1) = 1 ∧ k_mm_piecesOf v τ = some x ∧ ab_PR σ1 g (τ1 25 0 0) A1 t) ∧ en_fr [(25, 0)] τ τ1 ∧ (k_mm_isIn v (τ 25 0 0 6) ((τ 25 0 0 5) - 1) = 0 ∨ ∃ y, k_mm_piecesOf v τ = some y) := by
  obtain ⟨hC, hM, hW, hWR⟩ := h
  have hN := ab_N hW
  have m5 := hM.1.1 5 (by decide)
  have m6 := hM.1.1 6 (by decide)
  have hrg : aH A 5 ≤ aH A 6 + aH A 0 := hW.1.2.2.2.2.2.2.2.1
  rw [m5, m6]
  rcases ac_known hC.1.s hM hW v with ⟨n, rfl, hw, hk, a1, a2⟩ | ⟨a1, a2⟩
  · have hn := hw.1
    have q4 := (hW.2.2.1 n hw).2.2.2.2.1
    have hin : k_mm_isIn (nI n) (nI (aH A 6)) (nI (aH A 5) - 1) = (if aH A 6 ≤ n then 1 else 0) := by
      rw [k_mm_isIn, show (1 : Int32) = nI 1 from rfl, pk_sub (by omega), it_lt (by omega) (by omega), it_lt (by omega) (by omega)]
      by_cases c : aH A 6 ≤ n
      · rw [if_neg (by omega), if_neg (by omega), if_pos c]
      · rw [if_pos (by omega), if_neg c]
    have c7 := (hC.1.2.1 n hw).2.2.2.2.2.2.2.1
    have hp := ab_pc hW hw
    rw [k_cd_whyNoDrop, a1, pu_b1, k_mm_drop0, m5, m6, hin]
    simp only []
    rw [ac_over hC.1.s hW hw, c7, itx_le (a := aS A n 7) (b := 0) (y := 0) rfl rfl (by omega) (by decide)]
    by_cases hR : aH A 6 ≤ n
    · have hm8 : n % 8 < 8 := Nat.mod_lt _ (by decide)
      rw [if_pos hR, if_neg (show ¬ (1 : Int32) = 0 by decide), mo_snd hM hW (x := 4) (w := 4) rfl hw (by decide), pu_b1, itx_eq (a := aS A n 4) (b := 0) (y := 0) rfl rfl (by omega) (by decide), itx_eq (a := aS A n 4) (b := 1) (y := 1) rfl rfl (by omega) (by decide)]
      by_cases hgo : aS A n 4 ≤ 1 ∧ aS A n 7 = 0
      · obtain ⟨s7, s9, x, s12, s14, b1, b2, b3, b4, b5, b6, b7, b8, b9⟩ := dr_step hC hM hW hR hn hgo.2
        obtain ⟨σ1, τ1, A1, e1, e2, e3, e4, e5, e6⟩ := re_all b7 b8 b9 hWR.2
        have hcode : (if aS A n 4 = 0 then en_b1 (en_wa 938 τ 25 0 0 ((k_mm_slotOf (nI n)) + 4) 3) fun s5 => en_b1 (k_mm_reclaims s5) fun s7 => some ((0 : Int32), s7) else if aS A n 4 = 1 then en_b1 (k_mm_hasAnyLeft (nI n) τ) fun t10 => if t10 = 0 then en_b1 (en_wa 938 τ 25 0 0 ((k_mm_slotOf (nI n)) + 4) 3) fun s13 => en_b1 (k_mm_reclaims s13) fun s15 => some (0, s15) else some (4, τ) else some (4, τ)) = some (0, τ1) := by
          rw [mo_slot (by omega), show (4 : Int32) = nI 4 from rfl, nI_add, pu_wa (by omega) (by decide), pu_b1, e2, pu_b1]
          by_cases h0 : aS A n 4 = 0
          · rw [if_pos h0]
          · have h1 : aS A n 4 = 1 := by omega
            rw [if_neg h0, if_pos h1, dr_any hM hW hw h1, pu_b1, if_pos hgo.2, if_pos rfl]
        have hf := (hW.2.2.1 n hw).1
        have d1 := (hC.1.2.1 n hw).2.1
        have d6 := (hC.1.2.1 n hw).2.2.2.2.2.2.1
        have hb0 := (hC.1.2.2.1 _ hf).1
        refine ⟨0, τ1, ?_, hcode, fun q => absurd rfl q, fun _ => ⟨_, σ1, A1, ?_, rfl, mo_pcs hM hW hw, e3⟩, fr_tr (fr_wr rfl (by simp)) e6, Or.inr ⟨_, mo_pcs hM hW hw⟩⟩
        · rw [if_neg (show ¬ 2 ≤ aS A n 4 by omega), if_pos rfl, if_pos (by omega)]
        · rw [k_cd_dropSend, a1, pu_b1]
          simp only []
          rw [d1, ac_flowIn hC.1.s hW hf, pu_b1]
          simp only []
          rw [pu_let, b1, pu_let, b2, b5, b6, hb0, b3, pu_b2, pu_let, b4, e1, pu_b1, d6]
      · refine ⟨4, τ, ?_, ?_, fun _ => rfl, fun q => absurd q (by decide), fr_rf _ _, Or.inr ⟨_, mo_pcs hM hW hw⟩⟩
        · by_cases h2 : 2 ≤ aS A n 4
          · rw [if_pos h2, if_neg (show ¬ (1 : Int32) = 0 by decide)]
          · rw [if_neg h2, if_pos rfl, if_neg (by omega)]
        · by_cases h0 : aS A n 4 = 0
          · exfalso
            have := (hW.2.2.1 n hw).2.2.2.2.2.2.1 (Or.inl h0)
            omega
          · rw [if_neg h0]
            by_cases h1 : aS A n 4 = 1
            · rw [if_pos h1, dr_any hM hW hw h1, pu_b1, if_neg (show ¬ aS A n 7 = 0 by omega), if_neg (show ¬ (1 : Int32) = 0 by decide)]
            · rw [if_neg h1]
    · have := (hW.2.2.1 n hw).2.2.2.2.2.2.2.2.2.1 (by omega)
      rw [if_neg hR, if_pos rfl, if_pos this, if_neg (show ¬ (1 : Int32) = 0 by decide)]
      exact ⟨4, τ, rfl, rfl, fun _ => rfl, fun q => absurd q (by decide), fr_rf _ _, Or.inl rfl⟩
  · have hin : k_mm_isIn v (nI (aH A 6)) (nI (aH A 5) - 1) = 0 := by
      rw [k_mm_isKnown, m5, hM.1.1 0 (by decide)] at a2
      rw [k_mm_isIn] at a2 ⊢
      by_cases c1 : v < nI (aH A 6)
      · rw [if_pos c1]
      · rw [if_neg c1]
        have c2 : ¬ v < k_mm_greater 0 (nI (aH A 5) - nI (aH A 0)) := by
          rw [nu_ltx (by omega)] at c1
          rw [k_mm_greater]
          split
          · rw [nu_sll (by omega) (by omega)]
            omega
          · rw [Int32.lt_iff_toInt_lt]
            have e : (0 : Int32).toInt = 0 := by decide
            omega
        rw [if_neg c2] at a2
        exact a2
    rw [k_cd_whyNoDrop, a1, pu_b1, k_mm_drop0, m5, m6, hin, if_pos rfl]
    exact ⟨4, τ, rfl, rfl, fun _ => rfl, fun q => absurd q (by decide), fr_rf _ _, Or.inl rfl⟩
